theorem dX0_add_0 : decode cX0_add 0 = .ok (.aload_n 0, 1) := by decide +kernel
theorem dX0_add_1 : decode cX0_add 1 = .ok (.getfield 31, 3) := by decide +kernel
theorem dX0_add_4 : decode cX0_add 4 = .ok (.istore 5, 2) := by decide +kernel
theorem dX0_add_6 : decode cX0_add 6 = .ok (.aload_n 0, 1) := by decide +kernel
theorem dX0_add_7 : decode cX0_add 7 = .ok (.getfield 11, 3) := by decide +kernel
theorem dX0_add_10 : decode cX0_add 10 = .ok (.iload 5, 2) := by decide +kernel
theorem dX0_add_12 : decode cX0_add 12 = .ok (.iload_n 1, 1) := by decide +kernel
theorem dX0_add_13 : decode cX0_add 13 = .ok (.iastore, 1) := by decide +kernel
theorem dX0_add_14 : decode cX0_add 14 = .ok (.aload_n 0, 1) := by decide +kernel
theorem dX0_add_15 : decode cX0_add 15 = .ok (.getfield 15, 3) := by decide +kernel
theorem dX0_add_18 : decode cX0_add 18 = .ok (.iload 5, 2) := by decide +kernel
theorem dX0_add_20 : decode cX0_add 20 = .ok (.iload_n 2, 1) := by decide +kernel
theorem dX0_add_21 : decode cX0_add 21 = .ok (.iastore, 1) := by decide +kernel
theorem dX0_add_22 : decode cX0_add 22 = .ok (.aload_n 0, 1) := by decide +kernel
theorem dX0_add_23 : decode cX0_add 23 = .ok (.getfield 18, 3) := by decide +kernel
theorem dX0_add_26 : decode cX0_add 26 = .ok (.iload 5, 2) := by decide +kernel
theorem dX0_add_28 : decode cX0_add 28 = .ok (.iload_n 3, 1) := by decide +kernel
theorem dX0_add_29 : decode cX0_add 29 = .ok (.iastore, 1) := by decide +kernel
theorem dX0_add_30 : decode cX0_add 30 = .ok (.aload_n 0, 1) := by decide +kernel
theorem dX0_add_31 : decode cX0_add 31 = .ok (.getfield 21, 3) := by decide +kernel
theorem dX0_add_34 : decode cX0_add 34 = .ok (.iload 5, 2) := by decide +kernel
theorem dX0_add_36 : decode cX0_add 36 = .ok (.iload 4, 2) := by decide +kernel
theorem dX0_add_38 : decode cX0_add 38 = .ok (.iastore, 1) := by decide +kernel
theorem dX0_add_39 : decode cX0_add 39 = .ok (.aload_n 0, 1) := by decide +kernel
theorem dX0_add_40 : decode cX0_add 40 = .ok (.iload 5, 2) := by decide +kernel
theorem dX0_add_42 : decode cX0_add 42 = .ok (.iconst 1, 1) := by decide +kernel
theorem dX0_add_43 : decode cX0_add 43 = .ok (.iadd, 1) := by decide +kernel
theorem dX0_add_44 : decode cX0_add 44 = .ok (.bipush 14, 2) := by decide +kernel
theorem dX0_add_46 : decode cX0_add 46 = .ok (.if_icmp .ge 10, 3) := by decide +kernel
theorem dX0_add_49 : decode cX0_add 49 = .ok (.iload 5, 2) := by decide +kernel
theorem dX0_add_51 : decode cX0_add 51 = .ok (.iconst 1, 1) := by decide +kernel
theorem dX0_add_52 : decode cX0_add 52 = .ok (.iadd, 1) := by decide +kernel
theorem dX0_add_53 : decode cX0_add 53 = .ok (.goto 4, 3) := by decide +kernel
theorem dX0_add_56 : decode cX0_add 56 = .ok (.iconst 0, 1) := by decide +kernel
theorem dX0_add_57 : decode cX0_add 57 = .ok (.putfield 31, 3) := by decide +kernel
theorem dX0_add_60 : decode cX0_add 60 = .ok (.aload_n 0, 1) := by decide +kernel
theorem dX0_add_61 : decode cX0_add 61 = .ok (.aload_n 0, 1) := by decide +kernel
theorem dX0_add_62 : decode cX0_add 62 = .ok (.getfield 35, 3) := by decide +kernel
theorem dX0_add_65 : decode cX0_add 65 = .ok (.iconst 1, 1) := by decide +kernel
theorem dX0_add_66 : decode cX0_add 66 = .ok (.iadd, 1) := by decide +kernel
theorem dX0_add_67 : decode cX0_add 67 = .ok (.bipush 14, 2) := by decide +kernel
theorem dX0_add_69 : decode cX0_add 69 = .ok (.invokestatic 60, 3) := by decide +kernel
theorem dX0_add_72 : decode cX0_add 72 = .ok (.putfield 35, 3) := by decide +kernel
theorem dX0_add_75 : decode cX0_add 75 = .ok (.iload 5, 2) := by decide +kernel
theorem dX0_add_77 : decode cX0_add 77 = .ok (.ireturn, 1) := by decide +kernel
def fX0_add_b57 (v5 : Int32) (s0 : Int32) (μ : Mm) : Option (Int32 × Mm) := ((fJ9_min_7cf53 (((wI μ 3 6 s0).1 3 7) + (1 : Int32)) (14 : Int32)).bind fun r69 => some (v5, (wI (wI μ 3 6 s0) 3 7 r69)))
def fX0_add (p1 : Int32) (p2 : Int32) (p3 : Int32) (p4 : Int32) (μ : Mm) : Option (Int32 × Mm) := (if inb (μ.1 3 6) 14 = true then (if inb (μ.1 3 6) 14 = true then (if inb (μ.1 3 6) 14 = true then (if inb (μ.1 3 6) 14 = true then (if (14 : Int32) ≤ ((μ.1 3 6) + (1 : Int32)) then fX0_add_b57 (μ.1 3 6) (0 : Int32) (wI (wI (wI (wI μ 15 (Int32.toNatClampNeg (μ.1 3 6)) p1) 16 (Int32.toNatClampNeg (μ.1 3 6)) p2) 17 (Int32.toNatClampNeg (μ.1 3 6)) p3) 18 (Int32.toNatClampNeg (μ.1 3 6)) p4) else fX0_add_b57 (μ.1 3 6) ((μ.1 3 6) + (1 : Int32)) (wI (wI (wI (wI μ 15 (Int32.toNatClampNeg (μ.1 3 6)) p1) 16 (Int32.toNatClampNeg (μ.1 3 6)) p2) 17 (Int32.toNatClampNeg (μ.1 3 6)) p3) 18 (Int32.toNatClampNeg (μ.1 3 6)) p4)) else none) else none) else none) else none)
set_option maxRecDepth 100000 in
set_option maxHeartbeats 4000000 in
theorem kX0_add (l : Launch) (ε : Ev) (p1 : Int32) (p2 : Int32) (p3 : Int32) (p4 : Int32) (μ : Mm) (out : (Int32 × Mm)) (hf : fX0_add p1 p2 p3 p4 μ = some out) : Sp l ε layX yX0_add cX0_add 6 (some .int) 1 [.ref (ea ε 3), .int p1, .int p2, .int p3, .int p4] (some (.int out.1)) μ out.2 := by
  refine Sp.of [(0, .ref (ea ε 3)), (1, .int p1), (2, .int p2), (3, .int p3), (4, .int p4)] rfl (by decide +kernel) (Nat.le_of_ble_eq_true rfl) ?_
  intro κ hκ C E hQ
  subst hκ
  replace C : Cf κ cX0_add 6 RX0 (some .int) 1 := C
  have b57 : ∀ (v5 : Int32) (s0 : Int32) (μ : Mm) , fX0_add_b57 v5 s0 μ = some out → G κ (Vw κ ε layX μ) 6 57 [(0, .ref (ea ε 3)), (5, .int v5)] [.int s0, .ref (ea ε 3)] := by
    intro v5 s0 μ hf
    refine g_puti (pc := 57) C E fdX0_31 layX_3_6 dX0_add_57 ?_
    refine g_aload_n (pc := 60) (i := 0) (j := 0) C dX0_add_60 rfl rfl ?_
    refine g_aload_n (pc := 61) (i := 0) (j := 0) C dX0_add_61 rfl rfl ?_
    refine g_geti (pc := 62) C E fdX0_35 layX_3_7 dX0_add_62 ?_
    refine g_iconst (pc := 65) C dX0_add_65 ci_1 ?_
    refine g_iadd (pc := 66) C dX0_add_66 ?_
    refine g_bipush (pc := 67) C dX0_add_67 cb_14 ?_
    refine g_cpi (pc := 69) (st := [.ref (ea ε 3)]) C lkX0_60 (As := [.int (((wI μ 3 6 s0).1 3 7) + (1 : Int32)), .int (14 : Int32)]) rfl (fun out h => kJ9_min_7cf53 (kl κ) (((wI μ 3 6 s0).1 3 7) + (1 : Int32)) (14 : Int32) out h) (by decide) rfl (Nat.le_of_ble_eq_true rfl) dX0_add_69 hf (fun r69 _ hf => ?_)
    refine g_puti (pc := 72) C E fdX0_35 layX_3_7 dX0_add_72 ?_
    refine g_iload (pc := 75) (i := 5) (j := 1) C dX0_add_75 rfl ?_
    exact g_iretw (pc := 77) C hQ dX0_add_77 hf
  refine g_aload_n (pc := 0) (i := 0) (j := 0) C dX0_add_0 rfl rfl ?_
  refine g_geti (pc := 1) C E fdX0_31 layX_3_6 dX0_add_1 ?_
  refine g_istore (pc := 4) (i := 5) (L' := [(5, .int (μ.1 3 6)), (0, .ref (ea ε 3)), (1, .int p1), (2, .int p2), (3, .int p3), (4, .int p4)]) C dX0_add_4 (by decide) rfl ?_
  refine g_aload_n (pc := 6) (i := 0) (j := 1) C dX0_add_6 rfl rfl ?_
  refine g_getr (pc := 7) (j := 15) C E fdX0_11 layX_3_0 dX0_add_7 ?_
  refine g_iload (pc := 10) (i := 5) (j := 0) C dX0_add_10 rfl ?_
  refine g_iload_n (pc := 12) (i := 1) (j := 2) C dX0_add_12 rfl rfl ?_
  refine g_iast (pc := 13) C E layX_15 dX0_add_13 hf (fun hf => ?_)
  refine g_aload_n (pc := 14) (i := 0) (j := 1) C dX0_add_14 rfl rfl ?_
  refine g_getr (pc := 15) (j := 16) C E fdX0_15 layX_3_1 dX0_add_15 ?_
  refine g_iload (pc := 18) (i := 5) (j := 0) C dX0_add_18 rfl ?_
  refine g_iload_n (pc := 20) (i := 2) (j := 3) C dX0_add_20 rfl rfl ?_
  refine g_iast (pc := 21) C E layX_16 dX0_add_21 hf (fun hf => ?_)
  refine g_aload_n (pc := 22) (i := 0) (j := 1) C dX0_add_22 rfl rfl ?_
  refine g_getr (pc := 23) (j := 17) C E fdX0_18 layX_3_2 dX0_add_23 ?_
  refine g_iload (pc := 26) (i := 5) (j := 0) C dX0_add_26 rfl ?_
  refine g_iload_n (pc := 28) (i := 3) (j := 4) C dX0_add_28 rfl rfl ?_
  refine g_iast (pc := 29) C E layX_17 dX0_add_29 hf (fun hf => ?_)
  refine g_aload_n (pc := 30) (i := 0) (j := 1) C dX0_add_30 rfl rfl ?_
  refine g_getr (pc := 31) (j := 18) C E fdX0_21 layX_3_3 dX0_add_31 ?_
  refine g_iload (pc := 34) (i := 5) (j := 0) C dX0_add_34 rfl ?_
  refine g_iload (pc := 36) (i := 4) (j := 5) C dX0_add_36 rfl ?_
  refine g_iast (pc := 38) C E layX_18 dX0_add_38 hf (fun hf => ?_)
  refine g_aload_n (pc := 39) (i := 0) (j := 1) C dX0_add_39 rfl rfl ?_
  refine g_iload (pc := 40) (i := 5) (j := 0) C dX0_add_40 rfl ?_
  refine g_iconst (pc := 42) C dX0_add_42 ci_1 ?_
  refine g_iadd (pc := 43) C dX0_add_43 ?_
  refine g_bipush (pc := 44) C dX0_add_44 cb_14 ?_
  refine g_icmp_ge (pc := 46) (tgt := 56) C dX0_add_46 rfl hf (fun _ hf => ?_) (fun _ hf => ?_)
  · refine g_iconst (pc := 56) C dX0_add_56 ci_0 ?_
    exact g_at [1, 0] rfl (b57 (μ.1 3 6) (0 : Int32) (wI (wI (wI (wI μ 15 (Int32.toNatClampNeg (μ.1 3 6)) p1) 16 (Int32.toNatClampNeg (μ.1 3 6)) p2) 17 (Int32.toNatClampNeg (μ.1 3 6)) p3) 18 (Int32.toNatClampNeg (μ.1 3 6)) p4) hf)
  · refine g_iload (pc := 49) (i := 5) (j := 0) C dX0_add_49 rfl ?_
    refine g_iconst (pc := 51) C dX0_add_51 ci_1 ?_
    refine g_iadd (pc := 52) C dX0_add_52 ?_
    refine g_goto (pc := 53) (tgt := 57) C dX0_add_53 rfl ?_
    exact g_at [1, 0] rfl (b57 (μ.1 3 6) ((μ.1 3 6) + (1 : Int32)) (wI (wI (wI (wI μ 15 (Int32.toNatClampNeg (μ.1 3 6)) p1) 16 (Int32.toNatClampNeg (μ.1 3 6)) p2) 17 (Int32.toNatClampNeg (μ.1 3 6)) p3) 18 (Int32.toNatClampNeg (μ.1 3 6)) p4) hf)
theorem dX0_holds_0 : decode cX0_holds 0 = .ok (.aload_n 0, 1) := by decide +kernel
theorem dX0_holds_1 : decode cX0_holds 1 = .ok (.getfield 31, 3) := by decide +kernel
theorem dX0_holds_4 : decode cX0_holds 4 = .ok (.istore_n 2, 1) := by decide +kernel
theorem dX0_holds_5 : decode cX0_holds 5 = .ok (.iconst 0, 1) := by decide +kernel
theorem dX0_holds_6 : decode cX0_holds 6 = .ok (.istore_n 3, 1) := by decide +kernel
theorem dX0_holds_7 : decode cX0_holds 7 = .ok (.iload_n 3, 1) := by decide +kernel
theorem dX0_holds_8 : decode cX0_holds 8 = .ok (.aload_n 0, 1) := by decide +kernel
theorem dX0_holds_9 : decode cX0_holds 9 = .ok (.getfield 35, 3) := by decide +kernel
theorem dX0_holds_12 : decode cX0_holds 12 = .ok (.if_icmp .ge 26, 3) := by decide +kernel
theorem dX0_holds_15 : decode cX0_holds 15 = .ok (.iload_n 2, 1) := by decide +kernel
theorem dX0_holds_16 : decode cX0_holds 16 = .ok (.invokestatic 56, 3) := by decide +kernel
theorem dX0_holds_19 : decode cX0_holds 19 = .ok (.istore_n 2, 1) := by decide +kernel
theorem dX0_holds_20 : decode cX0_holds 20 = .ok (.aload_n 0, 1) := by decide +kernel
theorem dX0_holds_21 : decode cX0_holds 21 = .ok (.getfield 18, 3) := by decide +kernel
theorem dX0_holds_24 : decode cX0_holds 24 = .ok (.iload_n 2, 1) := by decide +kernel
theorem dX0_holds_25 : decode cX0_holds 25 = .ok (.iaload, 1) := by decide +kernel
theorem dX0_holds_26 : decode cX0_holds 26 = .ok (.iload_n 1, 1) := by decide +kernel
theorem dX0_holds_27 : decode cX0_holds 27 = .ok (.if_icmp .ne 5, 3) := by decide +kernel
theorem dX0_holds_30 : decode cX0_holds 30 = .ok (.iconst 1, 1) := by decide +kernel
theorem dX0_holds_31 : decode cX0_holds 31 = .ok (.ireturn, 1) := by decide +kernel
theorem dX0_holds_32 : decode cX0_holds 32 = .ok (.iinc 3 1, 3) := by decide +kernel
theorem dX0_holds_35 : decode cX0_holds 35 = .ok (.goto (-28), 3) := by decide +kernel
theorem dX0_holds_38 : decode cX0_holds 38 = .ok (.iconst 0, 1) := by decide +kernel
theorem dX0_holds_39 : decode cX0_holds 39 = .ok (.ireturn, 1) := by decide +kernel
def fX0_holds_b7 (μ : Mm) : Nat → Int32 → Int32 → Int32 → Option Int32
  | 0, _, _, _ => none
  | n + 1, v1, v2, v3 => (if (μ.1 3 7) ≤ v3 then some (0 : Int32) else ((fX0_before v2).bind fun r16 => (if inb r16 14 = true then (if (μ.1 17 (Int32.toNatClampNeg r16)) = v1 then some (1 : Int32) else (fX0_holds_b7 μ n) v1 r16 (v3 + (1 : Int32))) else none)))
def fX0_holds (p1 : Int32) (μ : Mm) : Option Int32 := fX0_holds_b7 μ 100 p1 (μ.1 3 6) (0 : Int32)
set_option maxRecDepth 100000 in
set_option maxHeartbeats 4000000 in
theorem kX0_holds (l : Launch) (ε : Ev) (p1 : Int32) (μ : Mm) (out : Int32) (hf : fX0_holds p1 μ = some out) : Sp l ε layX yX0_holds cX0_holds 4 (some .boolean) 1 [.ref (ea ε 3), .int p1] (some (.int out)) μ μ := by
  refine Sp.of [(0, .ref (ea ε 3)), (1, .int p1)] rfl (by decide +kernel) (Nat.le_of_ble_eq_true rfl) ?_
  intro κ hκ C E hQ
  subst hκ
  replace C : Cf κ cX0_holds 4 RX0 (some .boolean) 1 := C
  have b7 : ∀ (n : Nat) (v1 : Int32) (v2 : Int32) (v3 : Int32) , fX0_holds_b7 μ n v1 v2 v3 = some out → G κ (Vw κ ε layX μ) 4 7 [(0, .ref (ea ε 3)), (1, .int v1), (2, .int v2), (3, .int v3)] [] := by
    intro n
    induction n with
    | zero => intro v1 v2 v3 hf; exact none_ne hf
    | succ n ih =>
      intro v1 v2 v3 hf
      refine g_iload_n (pc := 7) (i := 3) (j := 3) C dX0_holds_7 rfl rfl ?_
      refine g_aload_n (pc := 8) (i := 0) (j := 0) C dX0_holds_8 rfl rfl ?_
      refine g_geti (pc := 9) C E fdX0_35 layX_3_7 dX0_holds_9 ?_
      refine g_icmp_ge (pc := 12) (tgt := 38) C dX0_holds_12 rfl hf (fun _ hf => ?_) (fun _ hf => ?_)
      · refine g_iconst (pc := 38) C dX0_holds_38 ci_0 ?_
        exact g_zret1r (pc := 39) C rfl hQ dX0_holds_39 hf
      · refine g_iload_n (pc := 15) (i := 2) (j := 2) C dX0_holds_15 rfl rfl ?_
        refine g_cpi (pc := 16) (st := []) C lkX0_56 (As := [.int v2]) rfl (fun out h => kX0_before (kl κ) v2 out h) (by decide) rfl (Nat.le_of_ble_eq_true rfl) dX0_holds_16 hf (fun r16 _ hf => ?_)
        refine g_istore_n (pc := 19) (i := 2) (L' := [(2, .int r16), (0, .ref (ea ε 3)), (1, .int v1), (3, .int v3)]) C dX0_holds_19 rfl (by decide) rfl ?_
        refine g_aload_n (pc := 20) (i := 0) (j := 1) C dX0_holds_20 rfl rfl ?_
        refine g_getr (pc := 21) (j := 17) C E fdX0_18 layX_3_2 dX0_holds_21 ?_
        refine g_iload_n (pc := 24) (i := 2) (j := 0) C dX0_holds_24 rfl rfl ?_
        refine g_iald (pc := 25) C E layX_17 dX0_holds_25 hf (fun hf => ?_)
        refine g_iload_n (pc := 26) (i := 1) (j := 2) C dX0_holds_26 rfl rfl ?_
        refine g_icmp_ne (pc := 27) (tgt := 32) C dX0_holds_27 rfl hf (fun _ hf => ?_) (fun _ hf => ?_)
        · refine g_iinc (pc := 32) (i := 3) (j := 3) (v := (v3 + (1 : Int32))) (L' := [(3, .int (v3 + (1 : Int32))), (2, .int r16), (0, .ref (ea ε 3)), (1, .int v1)]) C dX0_holds_32 rfl (cx_1 _) (by decide) rfl ?_
          refine g_goto (pc := 35) (tgt := 7) C dX0_holds_35 rfl ?_
          exact g_at [2, 3, 1, 0] rfl (ih v1 r16 (v3 + (1 : Int32)) hf)
        · refine g_iconst (pc := 30) C dX0_holds_30 ci_1 ?_
          exact g_zret1r (pc := 31) C rfl hQ dX0_holds_31 hf
  refine g_aload_n (pc := 0) (i := 0) (j := 0) C dX0_holds_0 rfl rfl ?_
  refine g_geti (pc := 1) C E fdX0_31 layX_3_6 dX0_holds_1 ?_
  refine g_istore_n (pc := 4) (i := 2) (L' := [(2, .int (μ.1 3 6)), (0, .ref (ea ε 3)), (1, .int p1)]) C dX0_holds_4 rfl (by decide) rfl ?_
  refine g_iconst (pc := 5) C dX0_holds_5 ci_0 ?_
  refine g_istore_n (pc := 6) (i := 3) (L' := [(3, .int (0 : Int32)), (2, .int (μ.1 3 6)), (0, .ref (ea ε 3)), (1, .int p1)]) C dX0_holds_6 rfl (by decide) rfl ?_
  exact g_at [2, 3, 1, 0] rfl (b7 100 p1 (μ.1 3 6) (0 : Int32) hf)
theorem dX5_codeAt_0 : decode cX5_codeAt 0 = .ok (.aload_n 0, 1) := by decide +kernel
theorem dX5_codeAt_1 : decode cX5_codeAt 1 = .ok (.getfield 23, 3) := by decide +kernel
theorem dX5_codeAt_4 : decode cX5_codeAt 4 = .ok (.iload_n 1, 1) := by decide +kernel
theorem dX5_codeAt_5 : decode cX5_codeAt 5 = .ok (.bipush 6, 2) := by decide +kernel
theorem dX5_codeAt_7 : decode cX5_codeAt 7 = .ok (.imul, 1) := by decide +kernel
theorem dX5_codeAt_8 : decode cX5_codeAt 8 = .ok (.iload_n 2, 1) := by decide +kernel
theorem dX5_codeAt_9 : decode cX5_codeAt 9 = .ok (.iadd, 1) := by decide +kernel
theorem dX5_codeAt_10 : decode cX5_codeAt 10 = .ok (.laload, 1) := by decide +kernel
theorem dX5_codeAt_11 : decode cX5_codeAt 11 = .ok (.lreturn, 1) := by decide +kernel
def fX5_codeAt (p1 : Int32) (p2 : Int32) (μ : Mm) : Option Int64 := (if inb ((p1 * (6 : Int32)) + p2) 156 = true then some (μ.2 14 (Int32.toNatClampNeg ((p1 * (6 : Int32)) + p2))) else none)
set_option maxRecDepth 100000 in
set_option maxHeartbeats 4000000 in
theorem kX5_codeAt (l : Launch) (ε : Ev) (p1 : Int32) (p2 : Int32) (μ : Mm) (out : Int64) (hf : fX5_codeAt p1 p2 μ = some out) : Sp l ε layX yX5_codeAt cX5_codeAt 3 (some .long) 0 [.ref (ea ε 2), .int p1, .int p2] (some (.long out)) μ μ := by
  refine Sp.of [(0, .ref (ea ε 2)), (1, .int p1), (2, .int p2)] rfl (by decide +kernel) (Nat.le_of_ble_eq_true rfl) ?_
  intro κ hκ C E hQ
  subst hκ
  replace C : Cf κ cX5_codeAt 3 RX5 (some .long) 0 := C
  refine g_aload_n (pc := 0) (i := 0) (j := 0) C dX5_codeAt_0 rfl rfl ?_
  refine g_getr (pc := 1) (j := 14) C E fdX5_23 layX_2_3 dX5_codeAt_1 ?_
  refine g_iload_n (pc := 4) (i := 1) (j := 1) C dX5_codeAt_4 rfl rfl ?_
  refine g_bipush (pc := 5) C dX5_codeAt_5 cb_6 ?_
  refine g_imul (pc := 7) C dX5_codeAt_7 ?_
  refine g_iload_n (pc := 8) (i := 2) (j := 2) C dX5_codeAt_8 rfl rfl ?_
  refine g_iadd (pc := 9) C dX5_codeAt_9 ?_
  refine g_lald (pc := 10) C E layX_14 dX5_codeAt_10 hf (fun hf => ?_)
  exact g_lretr (pc := 11) C hQ dX5_codeAt_11 hf
theorem dX5_typeAt_0 : decode cX5_typeAt 0 = .ok (.aload_n 0, 1) := by decide +kernel
theorem dX5_typeAt_1 : decode cX5_typeAt 1 = .ok (.getfield 20, 3) := by decide +kernel
theorem dX5_typeAt_4 : decode cX5_typeAt 4 = .ok (.iload_n 1, 1) := by decide +kernel
theorem dX5_typeAt_5 : decode cX5_typeAt 5 = .ok (.bipush 6, 2) := by decide +kernel
theorem dX5_typeAt_7 : decode cX5_typeAt 7 = .ok (.imul, 1) := by decide +kernel
theorem dX5_typeAt_8 : decode cX5_typeAt 8 = .ok (.iload_n 2, 1) := by decide +kernel
theorem dX5_typeAt_9 : decode cX5_typeAt 9 = .ok (.iadd, 1) := by decide +kernel
theorem dX5_typeAt_10 : decode cX5_typeAt 10 = .ok (.iaload, 1) := by decide +kernel
theorem dX5_typeAt_11 : decode cX5_typeAt 11 = .ok (.ireturn, 1) := by decide +kernel
def fX5_typeAt (p1 : Int32) (p2 : Int32) (μ : Mm) : Option Int32 := (if inb ((p1 * (6 : Int32)) + p2) 156 = true then some (μ.1 13 (Int32.toNatClampNeg ((p1 * (6 : Int32)) + p2))) else none)
set_option maxRecDepth 100000 in
set_option maxHeartbeats 4000000 in
theorem kX5_typeAt (l : Launch) (ε : Ev) (p1 : Int32) (p2 : Int32) (μ : Mm) (out : Int32) (hf : fX5_typeAt p1 p2 μ = some out) : Sp l ε layX yX5_typeAt cX5_typeAt 3 (some .int) 0 [.ref (ea ε 2), .int p1, .int p2] (some (.int out)) μ μ := by
  refine Sp.of [(0, .ref (ea ε 2)), (1, .int p1), (2, .int p2)] rfl (by decide +kernel) (Nat.le_of_ble_eq_true rfl) ?_
  intro κ hκ C E hQ
  subst hκ
  replace C : Cf κ cX5_typeAt 3 RX5 (some .int) 0 := C
  refine g_aload_n (pc := 0) (i := 0) (j := 0) C dX5_typeAt_0 rfl rfl ?_
  refine g_getr (pc := 1) (j := 13) C E fdX5_20 layX_2_2 dX5_typeAt_1 ?_
  refine g_iload_n (pc := 4) (i := 1) (j := 1) C dX5_typeAt_4 rfl rfl ?_
  refine g_bipush (pc := 5) C dX5_typeAt_5 cb_6 ?_
  refine g_imul (pc := 7) C dX5_typeAt_7 ?_
  refine g_iload_n (pc := 8) (i := 2) (j := 2) C dX5_typeAt_8 rfl rfl ?_
  refine g_iadd (pc := 9) C dX5_typeAt_9 ?_
  refine g_iald (pc := 10) C E layX_13 dX5_typeAt_10 hf (fun hf => ?_)
  exact g_iretr (pc := 11) C hQ dX5_typeAt_11 hf
theorem dX0_keepCells_0 : decode cX0_keepCells 0 = .ok (.aload_n 0, 1) := by decide +kernel
theorem dX0_keepCells_1 : decode cX0_keepCells 1 = .ok (.iconst 1, 1) := by decide +kernel
theorem dX0_keepCells_2 : decode cX0_keepCells 2 = .ok (.iconst 0, 1) := by decide +kernel
theorem dX0_keepCells_3 : decode cX0_keepCells 3 = .ok (.iload_n 1, 1) := by decide +kernel
theorem dX0_keepCells_4 : decode cX0_keepCells 4 = .ok (.iconst 0, 1) := by decide +kernel
theorem dX0_keepCells_5 : decode cX0_keepCells 5 = .ok (.invokevirtual 38, 3) := by decide +kernel
theorem dX0_keepCells_8 : decode cX0_keepCells 8 = .ok (.istore_n 3, 1) := by decide +kernel
theorem dX0_keepCells_9 : decode cX0_keepCells 9 = .ok (.iconst 0, 1) := by decide +kernel
theorem dX0_keepCells_10 : decode cX0_keepCells 10 = .ok (.istore 4, 2) := by decide +kernel
theorem dX0_keepCells_12 : decode cX0_keepCells 12 = .ok (.iload 4, 2) := by decide +kernel
theorem dX0_keepCells_14 : decode cX0_keepCells 14 = .ok (.bipush 6, 2) := by decide +kernel
theorem dX0_keepCells_16 : decode cX0_keepCells 16 = .ok (.if_icmp .ge 47, 3) := by decide +kernel
theorem dX0_keepCells_19 : decode cX0_keepCells 19 = .ok (.aload_n 0, 1) := by decide +kernel
theorem dX0_keepCells_20 : decode cX0_keepCells 20 = .ok (.getfield 24, 3) := by decide +kernel
theorem dX0_keepCells_23 : decode cX0_keepCells 23 = .ok (.iload_n 3, 1) := by decide +kernel
theorem dX0_keepCells_24 : decode cX0_keepCells 24 = .ok (.bipush 6, 2) := by decide +kernel
theorem dX0_keepCells_26 : decode cX0_keepCells 26 = .ok (.imul, 1) := by decide +kernel
theorem dX0_keepCells_27 : decode cX0_keepCells 27 = .ok (.iload 4, 2) := by decide +kernel
theorem dX0_keepCells_29 : decode cX0_keepCells 29 = .ok (.iadd, 1) := by decide +kernel
theorem dX0_keepCells_30 : decode cX0_keepCells 30 = .ok (.aload_n 2, 1) := by decide +kernel
theorem dX0_keepCells_31 : decode cX0_keepCells 31 = .ok (.iload_n 1, 1) := by decide +kernel
theorem dX0_keepCells_32 : decode cX0_keepCells 32 = .ok (.iload 4, 2) := by decide +kernel
theorem dX0_keepCells_34 : decode cX0_keepCells 34 = .ok (.invokevirtual 44, 3) := by decide +kernel
theorem dX0_keepCells_37 : decode cX0_keepCells 37 = .ok (.iastore, 1) := by decide +kernel
theorem dX0_keepCells_38 : decode cX0_keepCells 38 = .ok (.aload_n 0, 1) := by decide +kernel
theorem dX0_keepCells_39 : decode cX0_keepCells 39 = .ok (.getfield 27, 3) := by decide +kernel
theorem dX0_keepCells_42 : decode cX0_keepCells 42 = .ok (.iload_n 3, 1) := by decide +kernel
theorem dX0_keepCells_43 : decode cX0_keepCells 43 = .ok (.bipush 6, 2) := by decide +kernel
theorem dX0_keepCells_45 : decode cX0_keepCells 45 = .ok (.imul, 1) := by decide +kernel
theorem dX0_keepCells_46 : decode cX0_keepCells 46 = .ok (.iload 4, 2) := by decide +kernel
theorem dX0_keepCells_48 : decode cX0_keepCells 48 = .ok (.iadd, 1) := by decide +kernel
theorem dX0_keepCells_49 : decode cX0_keepCells 49 = .ok (.aload_n 2, 1) := by decide +kernel
theorem dX0_keepCells_50 : decode cX0_keepCells 50 = .ok (.iload_n 1, 1) := by decide +kernel
theorem dX0_keepCells_51 : decode cX0_keepCells 51 = .ok (.iload 4, 2) := by decide +kernel
theorem dX0_keepCells_53 : decode cX0_keepCells 53 = .ok (.invokevirtual 48, 3) := by decide +kernel
theorem dX0_keepCells_56 : decode cX0_keepCells 56 = .ok (.lastore, 1) := by decide +kernel
theorem dX0_keepCells_57 : decode cX0_keepCells 57 = .ok (.iinc 4 1, 3) := by decide +kernel
theorem dX0_keepCells_60 : decode cX0_keepCells 60 = .ok (.goto (-48), 3) := by decide +kernel
theorem dX0_keepCells_63 : decode cX0_keepCells 63 = .ok (.return_, 1) := by decide +kernel
def fX0_keepCells_b12 : Nat → Int32 → Int32 → Int32 → Mm → Option Mm
  | 0, _, _, _, _ => none
  | n + 1, v1, v3, v4, μ => (if (6 : Int32) ≤ v4 then some μ else ((fX5_typeAt v1 v4 μ).bind fun r34 => (if inb ((v3 * (6 : Int32)) + v4) 84 = true then ((fX5_codeAt v1 v4 (wI μ 19 (Int32.toNatClampNeg ((v3 * (6 : Int32)) + v4)) r34)).bind fun r53 => (if inb ((v3 * (6 : Int32)) + v4) 84 = true then (fX0_keepCells_b12 n) v1 v3 (v4 + (1 : Int32)) (wL (wI μ 19 (Int32.toNatClampNeg ((v3 * (6 : Int32)) + v4)) r34) 20 (Int32.toNatClampNeg ((v3 * (6 : Int32)) + v4)) r53) else none)) else none)))
def fX0_keepCells (p1 : Int32) (μ : Mm) : Option Mm := (bnd (fX0_add (1 : Int32) (0 : Int32) p1 (0 : Int32) μ) fun r5 μ5 => fX0_keepCells_b12 100 p1 r5 (0 : Int32) μ5)
set_option maxRecDepth 100000 in
set_option maxHeartbeats 4000000 in
theorem kX0_keepCells (l : Launch) (ε : Ev) (p1 : Int32) (μ : Mm) (out : Mm) (hf : fX0_keepCells p1 μ = some out) : Sp l ε layX yX0_keepCells cX0_keepCells 5 none 2 [.ref (ea ε 3), .int p1, .ref (ea ε 2)] none μ out := by
  refine Sp.of [(0, .ref (ea ε 3)), (1, .int p1), (2, .ref (ea ε 2))] rfl (by decide +kernel) (Nat.le_of_ble_eq_true rfl) ?_
  intro κ hκ C E hQ
  subst hκ
  replace C : Cf κ cX0_keepCells 5 RX0 none 2 := C
  have b12 : ∀ (n : Nat) (v1 : Int32) (v3 : Int32) (v4 : Int32) (μ : Mm) , fX0_keepCells_b12 n v1 v3 v4 μ = some out → G κ (Vw κ ε layX μ) 5 12 [(0, .ref (ea ε 3)), (1, .int v1), (2, .ref (ea ε 2)), (3, .int v3), (4, .int v4)] [] := by
    intro n
    induction n with
    | zero => intro v1 v3 v4 μ hf; exact none_ne hf
    | succ n ih =>
      intro v1 v3 v4 μ hf
      refine g_iload (pc := 12) (i := 4) (j := 4) C dX0_keepCells_12 rfl ?_
      refine g_bipush (pc := 14) C dX0_keepCells_14 cb_6 ?_
      refine g_icmp_ge (pc := 16) (tgt := 63) C dX0_keepCells_16 rfl hf (fun _ hf => ?_) (fun _ hf => ?_)
      · exact g_vretw (pc := 63) C hQ dX0_keepCells_63 hf
      · refine g_aload_n (pc := 19) (i := 0) (j := 0) C dX0_keepCells_19 rfl rfl ?_
        refine g_getr (pc := 20) (j := 19) C E fdX0_24 layX_3_4 dX0_keepCells_20 ?_
        refine g_iload_n (pc := 23) (i := 3) (j := 3) C dX0_keepCells_23 rfl rfl ?_
        refine g_bipush (pc := 24) C dX0_keepCells_24 cb_6 ?_
        refine g_imul (pc := 26) C dX0_keepCells_26 ?_
        refine g_iload (pc := 27) (i := 4) (j := 4) C dX0_keepCells_27 rfl ?_
        refine g_iadd (pc := 29) C dX0_keepCells_29 ?_
        refine g_aload_n (pc := 30) (i := 2) (j := 2) C dX0_keepCells_30 rfl rfl ?_
        refine g_iload_n (pc := 31) (i := 1) (j := 1) C dX0_keepCells_31 rfl rfl ?_
        refine g_iload (pc := 32) (i := 4) (j := 4) C dX0_keepCells_32 rfl ?_
        refine g_cri (pc := 34) (st := [.int ((v3 * (6 : Int32)) + v4), .ref (ea ε 19)]) C E layX_2 lkX0_44 (As := [.int v1, .int v4]) rfl (fun out h => kX5_typeAt (kl κ) ε v1 v4 μ out h) (by decide) rfl (Nat.le_of_ble_eq_true rfl) dX0_keepCells_34 hf (fun r34 _ hf => ?_)
        refine g_iast (pc := 37) C E layX_19 dX0_keepCells_37 hf (fun hf => ?_)
        refine g_aload_n (pc := 38) (i := 0) (j := 0) C dX0_keepCells_38 rfl rfl ?_
        refine g_getr (pc := 39) (j := 20) C E fdX0_27 layX_3_5 dX0_keepCells_39 ?_
        refine g_iload_n (pc := 42) (i := 3) (j := 3) C dX0_keepCells_42 rfl rfl ?_
        refine g_bipush (pc := 43) C dX0_keepCells_43 cb_6 ?_
        refine g_imul (pc := 45) C dX0_keepCells_45 ?_
        refine g_iload (pc := 46) (i := 4) (j := 4) C dX0_keepCells_46 rfl ?_
        refine g_iadd (pc := 48) C dX0_keepCells_48 ?_
        refine g_aload_n (pc := 49) (i := 2) (j := 2) C dX0_keepCells_49 rfl rfl ?_
        refine g_iload_n (pc := 50) (i := 1) (j := 1) C dX0_keepCells_50 rfl rfl ?_
        refine g_iload (pc := 51) (i := 4) (j := 4) C dX0_keepCells_51 rfl ?_
        refine g_crl (pc := 53) (st := [.int ((v3 * (6 : Int32)) + v4), .ref (ea ε 20)]) C E layX_2 lkX0_48 (As := [.int v1, .int v4]) rfl (fun out h => kX5_codeAt (kl κ) ε v1 v4 (wI μ 19 (Int32.toNatClampNeg ((v3 * (6 : Int32)) + v4)) r34) out h) (by decide) rfl (Nat.le_of_ble_eq_true rfl) dX0_keepCells_53 hf (fun r53 _ hf => ?_)
        refine g_last (pc := 56) C E layX_20 dX0_keepCells_56 hf (fun hf => ?_)
        refine g_iinc (pc := 57) (i := 4) (j := 4) (v := (v4 + (1 : Int32))) (L' := [(4, .int (v4 + (1 : Int32))), (0, .ref (ea ε 3)), (1, .int v1), (2, .ref (ea ε 2)), (3, .int v3)]) C dX0_keepCells_57 rfl (cx_1 _) (by decide) rfl ?_
        refine g_goto (pc := 60) (tgt := 12) C dX0_keepCells_60 rfl ?_
        exact g_at [1, 2, 3, 4, 0] rfl (ih v1 v3 (v4 + (1 : Int32)) (wL (wI μ 19 (Int32.toNatClampNeg ((v3 * (6 : Int32)) + v4)) r34) 20 (Int32.toNatClampNeg ((v3 * (6 : Int32)) + v4)) r53) hf)
  refine g_aload_n (pc := 0) (i := 0) (j := 0) C dX0_keepCells_0 rfl rfl ?_
  refine g_iconst (pc := 1) C dX0_keepCells_1 ci_1 ?_
  refine g_iconst (pc := 2) C dX0_keepCells_2 ci_0 ?_
  refine g_iload_n (pc := 3) (i := 1) (j := 1) C dX0_keepCells_3 rfl rfl ?_
  refine g_iconst (pc := 4) C dX0_keepCells_4 ci_0 ?_
  refine g_cwi (pc := 5) (st := []) C E layX_3 lkX0_38 (As := [.int (1 : Int32), .int (0 : Int32), .int p1, .int (0 : Int32)]) rfl (fun out h => kX0_add (kl κ) ε (1 : Int32) (0 : Int32) p1 (0 : Int32) μ out h) (by decide) rfl (Nat.le_of_ble_eq_true rfl) dX0_keepCells_5 hf (fun r5 μ5 _ hf => ?_)
  refine g_istore_n (pc := 8) (i := 3) (L' := [(3, .int r5), (0, .ref (ea ε 3)), (1, .int p1), (2, .ref (ea ε 2))]) C dX0_keepCells_8 rfl (by decide) rfl ?_
  refine g_iconst (pc := 9) C dX0_keepCells_9 ci_0 ?_
  refine g_istore (pc := 10) (i := 4) (L' := [(4, .int (0 : Int32)), (3, .int r5), (0, .ref (ea ε 3)), (1, .int p1), (2, .ref (ea ε 2))]) C dX0_keepCells_10 (by decide) rfl ?_
  exact g_at [2, 3, 4, 1, 0] rfl (b12 100 p1 r5 (0 : Int32) μ5 hf)
theorem dX0_keepNumber_0 : decode cX0_keepNumber 0 = .ok (.aload_n 0, 1) := by decide +kernel
theorem dX0_keepNumber_1 : decode cX0_keepNumber 1 = .ok (.iconst 2, 1) := by decide +kernel
theorem dX0_keepNumber_2 : decode cX0_keepNumber 2 = .ok (.iload_n 1, 1) := by decide +kernel
theorem dX0_keepNumber_3 : decode cX0_keepNumber 3 = .ok (.iconst 0, 1) := by decide +kernel
theorem dX0_keepNumber_4 : decode cX0_keepNumber 4 = .ok (.iload_n 2, 1) := by decide +kernel
theorem dX0_keepNumber_5 : decode cX0_keepNumber 5 = .ok (.invokevirtual 38, 3) := by decide +kernel
theorem dX0_keepNumber_8 : decode cX0_keepNumber 8 = .ok (.pop, 1) := by decide +kernel
theorem dX0_keepNumber_9 : decode cX0_keepNumber 9 = .ok (.return_, 1) := by decide +kernel
def fX0_keepNumber (p1 : Int32) (p2 : Int32) (μ : Mm) : Option Mm := (bnd (fX0_add (2 : Int32) p1 (0 : Int32) p2 μ) fun r5 μ5 => some μ5)
set_option maxRecDepth 100000 in
set_option maxHeartbeats 4000000 in
theorem kX0_keepNumber (l : Launch) (ε : Ev) (p1 : Int32) (p2 : Int32) (μ : Mm) (out : Mm) (hf : fX0_keepNumber p1 p2 μ = some out) : Sp l ε layX yX0_keepNumber cX0_keepNumber 3 none 2 [.ref (ea ε 3), .int p1, .int p2] none μ out := by
  refine Sp.of [(0, .ref (ea ε 3)), (1, .int p1), (2, .int p2)] rfl (by decide +kernel) (Nat.le_of_ble_eq_true rfl) ?_
  intro κ hκ C E hQ
  subst hκ
  replace C : Cf κ cX0_keepNumber 3 RX0 none 2 := C
  refine g_aload_n (pc := 0) (i := 0) (j := 0) C dX0_keepNumber_0 rfl rfl ?_
  refine g_iconst (pc := 1) C dX0_keepNumber_1 ci_2 ?_
  refine g_iload_n (pc := 2) (i := 1) (j := 1) C dX0_keepNumber_2 rfl rfl ?_
  refine g_iconst (pc := 3) C dX0_keepNumber_3 ci_0 ?_
  refine g_iload_n (pc := 4) (i := 2) (j := 2) C dX0_keepNumber_4 rfl rfl ?_
  refine g_cwi (pc := 5) (st := []) C E layX_3 lkX0_38 (As := [.int (2 : Int32), .int p1, .int (0 : Int32), .int p2]) rfl (fun out h => kX0_add (kl κ) ε (2 : Int32) p1 (0 : Int32) p2 μ out h) (by decide) rfl (Nat.le_of_ble_eq_true rfl) dX0_keepNumber_5 hf (fun r5 μ5 _ hf => ?_)
  refine g_pop (pc := 8) C dX0_keepNumber_8 rfl ?_
  exact g_vretw (pc := 9) C hQ dX0_keepNumber_9 hf
theorem dX0_keepSlot_0 : decode cX0_keepSlot 0 = .ok (.aload_n 0, 1) := by decide +kernel
theorem dX0_keepSlot_1 : decode cX0_keepSlot 1 = .ok (.iconst 0, 1) := by decide +kernel
theorem dX0_keepSlot_2 : decode cX0_keepSlot 2 = .ok (.iload_n 1, 1) := by decide +kernel
theorem dX0_keepSlot_3 : decode cX0_keepSlot 3 = .ok (.iload_n 2, 1) := by decide +kernel
theorem dX0_keepSlot_4 : decode cX0_keepSlot 4 = .ok (.iconst 0, 1) := by decide +kernel
theorem dX0_keepSlot_5 : decode cX0_keepSlot 5 = .ok (.invokevirtual 38, 3) := by decide +kernel
theorem dX0_keepSlot_8 : decode cX0_keepSlot 8 = .ok (.pop, 1) := by decide +kernel
theorem dX0_keepSlot_9 : decode cX0_keepSlot 9 = .ok (.return_, 1) := by decide +kernel
def fX0_keepSlot (p1 : Int32) (p2 : Int32) (μ : Mm) : Option Mm := (bnd (fX0_add (0 : Int32) p1 p2 (0 : Int32) μ) fun r5 μ5 => some μ5)
set_option maxRecDepth 100000 in
set_option maxHeartbeats 4000000 in
theorem kX0_keepSlot (l : Launch) (ε : Ev) (p1 : Int32) (p2 : Int32) (μ : Mm) (out : Mm) (hf : fX0_keepSlot p1 p2 μ = some out) : Sp l ε layX yX0_keepSlot cX0_keepSlot 3 none 2 [.ref (ea ε 3), .int p1, .int p2] none μ out := by
  refine Sp.of [(0, .ref (ea ε 3)), (1, .int p1), (2, .int p2)] rfl (by decide +kernel) (Nat.le_of_ble_eq_true rfl) ?_
  intro κ hκ C E hQ
  subst hκ
  replace C : Cf κ cX0_keepSlot 3 RX0 none 2 := C
  refine g_aload_n (pc := 0) (i := 0) (j := 0) C dX0_keepSlot_0 rfl rfl ?_
  refine g_iconst (pc := 1) C dX0_keepSlot_1 ci_0 ?_
  refine g_iload_n (pc := 2) (i := 1) (j := 1) C dX0_keepSlot_2 rfl rfl ?_
  refine g_iload_n (pc := 3) (i := 2) (j := 2) C dX0_keepSlot_3 rfl rfl ?_
  refine g_iconst (pc := 4) C dX0_keepSlot_4 ci_0 ?_
  refine g_cwi (pc := 5) (st := []) C E layX_3 lkX0_38 (As := [.int (0 : Int32), .int p1, .int p2, .int (0 : Int32)]) rfl (fun out h => kX0_add (kl κ) ε (0 : Int32) p1 p2 (0 : Int32) μ out h) (by decide) rfl (Nat.le_of_ble_eq_true rfl) dX0_keepSlot_5 hf (fun r5 μ5 _ hf => ?_)
  refine g_pop (pc := 8) C dX0_keepSlot_8 rfl ?_
  exact g_vretw (pc := 9) C hQ dX0_keepSlot_9 hf
theorem dX0_removeLatest_0 : decode cX0_removeLatest 0 = .ok (.aload_n 0, 1) := by decide +kernel
theorem dX0_removeLatest_1 : decode cX0_removeLatest 1 = .ok (.aload_n 0, 1) := by decide +kernel
theorem dX0_removeLatest_2 : decode cX0_removeLatest 2 = .ok (.getfield 31, 3) := by decide +kernel
theorem dX0_removeLatest_5 : decode cX0_removeLatest 5 = .ok (.invokestatic 56, 3) := by decide +kernel
theorem dX0_removeLatest_8 : decode cX0_removeLatest 8 = .ok (.putfield 31, 3) := by decide +kernel
theorem dX0_removeLatest_11 : decode cX0_removeLatest 11 = .ok (.aload_n 0, 1) := by decide +kernel
theorem dX0_removeLatest_12 : decode cX0_removeLatest 12 = .ok (.dup, 1) := by decide +kernel
theorem dX0_removeLatest_13 : decode cX0_removeLatest 13 = .ok (.getfield 35, 3) := by decide +kernel
theorem dX0_removeLatest_16 : decode cX0_removeLatest 16 = .ok (.iconst 1, 1) := by decide +kernel
theorem dX0_removeLatest_17 : decode cX0_removeLatest 17 = .ok (.isub, 1) := by decide +kernel
theorem dX0_removeLatest_18 : decode cX0_removeLatest 18 = .ok (.putfield 35, 3) := by decide +kernel
theorem dX0_removeLatest_21 : decode cX0_removeLatest 21 = .ok (.aload_n 0, 1) := by decide +kernel
theorem dX0_removeLatest_22 : decode cX0_removeLatest 22 = .ok (.getfield 31, 3) := by decide +kernel
theorem dX0_removeLatest_25 : decode cX0_removeLatest 25 = .ok (.ireturn, 1) := by decide +kernel
def fX0_removeLatest  (μ : Mm) : Option (Int32 × Mm) := ((fX0_before (μ.1 3 6)).bind fun r5 => some (((wI (wI μ 3 6 r5) 3 7 (((wI μ 3 6 r5).1 3 7) - (1 : Int32))).1 3 6), (wI (wI μ 3 6 r5) 3 7 (((wI μ 3 6 r5).1 3 7) - (1 : Int32)))))
set_option maxRecDepth 100000 in
set_option maxHeartbeats 4000000 in
theorem kX0_removeLatest (l : Launch) (ε : Ev)  (μ : Mm) (out : (Int32 × Mm)) (hf : fX0_removeLatest μ = some out) : Sp l ε layX yX0_removeLatest cX0_removeLatest 1 (some .int) 1 [.ref (ea ε 3)] (some (.int out.1)) μ out.2 := by
  refine Sp.of [(0, .ref (ea ε 3))] rfl (by decide +kernel) (Nat.le_of_ble_eq_true rfl) ?_
  intro κ hκ C E hQ
  subst hκ
  replace C : Cf κ cX0_removeLatest 1 RX0 (some .int) 1 := C
  refine g_aload_n (pc := 0) (i := 0) (j := 0) C dX0_removeLatest_0 rfl rfl ?_
  refine g_aload_n (pc := 1) (i := 0) (j := 0) C dX0_removeLatest_1 rfl rfl ?_
  refine g_geti (pc := 2) C E fdX0_31 layX_3_6 dX0_removeLatest_2 ?_
  refine g_cpi (pc := 5) (st := [.ref (ea ε 3)]) C lkX0_56 (As := [.int (μ.1 3 6)]) rfl (fun out h => kX0_before (kl κ) (μ.1 3 6) out h) (by decide) rfl (Nat.le_of_ble_eq_true rfl) dX0_removeLatest_5 hf (fun r5 _ hf => ?_)
  refine g_puti (pc := 8) C E fdX0_31 layX_3_6 dX0_removeLatest_8 ?_
  refine g_aload_n (pc := 11) (i := 0) (j := 0) C dX0_removeLatest_11 rfl rfl ?_
  refine g_dup (pc := 12) C dX0_removeLatest_12 rfl ?_
  refine g_geti (pc := 13) C E fdX0_35 layX_3_7 dX0_removeLatest_13 ?_
  refine g_iconst (pc := 16) C dX0_removeLatest_16 ci_1 ?_
  refine g_isub (pc := 17) C dX0_removeLatest_17 ?_
  refine g_puti (pc := 18) C E fdX0_35 layX_3_7 dX0_removeLatest_18 ?_
  refine g_aload_n (pc := 21) (i := 0) (j := 0) C dX0_removeLatest_21 rfl rfl ?_
  refine g_geti (pc := 22) C E fdX0_31 layX_3_6 dX0_removeLatest_22 ?_
  exact g_iretw (pc := 25) C hQ dX0_removeLatest_25 hf
theorem dX5_set_0 : decode cX5_set 0 = .ok (.aload_n 0, 1) := by decide +kernel
theorem dX5_set_1 : decode cX5_set 1 = .ok (.getfield 20, 3) := by decide +kernel
theorem dX5_set_4 : decode cX5_set 4 = .ok (.iload_n 1, 1) := by decide +kernel
theorem dX5_set_5 : decode cX5_set 5 = .ok (.bipush 6, 2) := by decide +kernel
theorem dX5_set_7 : decode cX5_set 7 = .ok (.imul, 1) := by decide +kernel
theorem dX5_set_8 : decode cX5_set 8 = .ok (.iload_n 2, 1) := by decide +kernel
theorem dX5_set_9 : decode cX5_set 9 = .ok (.iadd, 1) := by decide +kernel
theorem dX5_set_10 : decode cX5_set 10 = .ok (.iload_n 3, 1) := by decide +kernel
theorem dX5_set_11 : decode cX5_set 11 = .ok (.iastore, 1) := by decide +kernel
theorem dX5_set_12 : decode cX5_set 12 = .ok (.aload_n 0, 1) := by decide +kernel
theorem dX5_set_13 : decode cX5_set 13 = .ok (.getfield 23, 3) := by decide +kernel
theorem dX5_set_16 : decode cX5_set 16 = .ok (.iload_n 1, 1) := by decide +kernel
theorem dX5_set_17 : decode cX5_set 17 = .ok (.bipush 6, 2) := by decide +kernel
theorem dX5_set_19 : decode cX5_set 19 = .ok (.imul, 1) := by decide +kernel
theorem dX5_set_20 : decode cX5_set 20 = .ok (.iload_n 2, 1) := by decide +kernel
theorem dX5_set_21 : decode cX5_set 21 = .ok (.iadd, 1) := by decide +kernel
theorem dX5_set_22 : decode cX5_set 22 = .ok (.lload 4, 2) := by decide +kernel
theorem dX5_set_24 : decode cX5_set 24 = .ok (.lastore, 1) := by decide +kernel
theorem dX5_set_25 : decode cX5_set 25 = .ok (.return_, 1) := by decide +kernel
def fX5_set (p1 : Int32) (p2 : Int32) (p3 : Int32) (p4 : Int64) (μ : Mm) : Option Mm := (if inb ((p1 * (6 : Int32)) + p2) 156 = true then (if inb ((p1 * (6 : Int32)) + p2) 156 = true then some (wL (wI μ 13 (Int32.toNatClampNeg ((p1 * (6 : Int32)) + p2)) p3) 14 (Int32.toNatClampNeg ((p1 * (6 : Int32)) + p2)) p4) else none) else none)
set_option maxRecDepth 100000 in
set_option maxHeartbeats 4000000 in
theorem kX5_set (l : Launch) (ε : Ev) (p1 : Int32) (p2 : Int32) (p3 : Int32) (p4 : Int64) (μ : Mm) (out : Mm) (hf : fX5_set p1 p2 p3 p4 μ = some out) : Sp l ε layX yX5_set cX5_set 6 none 0 [.ref (ea ε 2), .int p1, .int p2, .int p3, .long p4] none μ out := by
  refine Sp.of [(0, .ref (ea ε 2)), (1, .int p1), (2, .int p2), (3, .int p3), (4, .long p4)] rfl (by decide +kernel) (Nat.le_of_ble_eq_true rfl) ?_
  intro κ hκ C E hQ
  subst hκ
  replace C : Cf κ cX5_set 6 RX5 none 0 := C
  refine g_aload_n (pc := 0) (i := 0) (j := 0) C dX5_set_0 rfl rfl ?_
  refine g_getr (pc := 1) (j := 13) C E fdX5_20 layX_2_2 dX5_set_1 ?_
  refine g_iload_n (pc := 4) (i := 1) (j := 1) C dX5_set_4 rfl rfl ?_
  refine g_bipush (pc := 5) C dX5_set_5 cb_6 ?_
  refine g_imul (pc := 7) C dX5_set_7 ?_
  refine g_iload_n (pc := 8) (i := 2) (j := 2) C dX5_set_8 rfl rfl ?_
  refine g_iadd (pc := 9) C dX5_set_9 ?_
  refine g_iload_n (pc := 10) (i := 3) (j := 3) C dX5_set_10 rfl rfl ?_
  refine g_iast (pc := 11) C E layX_13 dX5_set_11 hf (fun hf => ?_)
  refine g_aload_n (pc := 12) (i := 0) (j := 0) C dX5_set_12 rfl rfl ?_
  refine g_getr (pc := 13) (j := 14) C E fdX5_23 layX_2_3 dX5_set_13 ?_
  refine g_iload_n (pc := 16) (i := 1) (j := 1) C dX5_set_16 rfl rfl ?_
  refine g_bipush (pc := 17) C dX5_set_17 cb_6 ?_
  refine g_imul (pc := 19) C dX5_set_19 ?_
  refine g_iload_n (pc := 20) (i := 2) (j := 2) C dX5_set_20 rfl rfl ?_
  refine g_iadd (pc := 21) C dX5_set_21 ?_
  refine g_lload (pc := 22) (i := 4) (j := 4) C dX5_set_22 rfl ?_
  refine g_last (pc := 24) C E layX_14 dX5_set_24 hf (fun hf => ?_)
  exact g_vretw (pc := 25) C hQ dX5_set_25 hf
theorem dX0_restoreCells_0 : decode cX0_restoreCells 0 = .ok (.iconst 0, 1) := by decide +kernel
theorem dX0_restoreCells_1 : decode cX0_restoreCells 1 = .ok (.istore_n 3, 1) := by decide +kernel
theorem dX0_restoreCells_2 : decode cX0_restoreCells 2 = .ok (.iload_n 3, 1) := by decide +kernel
theorem dX0_restoreCells_3 : decode cX0_restoreCells 3 = .ok (.bipush 6, 2) := by decide +kernel
theorem dX0_restoreCells_5 : decode cX0_restoreCells 5 = .ok (.if_icmp .ge 42, 3) := by decide +kernel
theorem dX0_restoreCells_8 : decode cX0_restoreCells 8 = .ok (.aload_n 2, 1) := by decide +kernel
theorem dX0_restoreCells_9 : decode cX0_restoreCells 9 = .ok (.aload_n 0, 1) := by decide +kernel
theorem dX0_restoreCells_10 : decode cX0_restoreCells 10 = .ok (.getfield 18, 3) := by decide +kernel
theorem dX0_restoreCells_13 : decode cX0_restoreCells 13 = .ok (.iload_n 1, 1) := by decide +kernel
theorem dX0_restoreCells_14 : decode cX0_restoreCells 14 = .ok (.iaload, 1) := by decide +kernel
theorem dX0_restoreCells_15 : decode cX0_restoreCells 15 = .ok (.iload_n 3, 1) := by decide +kernel
theorem dX0_restoreCells_16 : decode cX0_restoreCells 16 = .ok (.aload_n 0, 1) := by decide +kernel
theorem dX0_restoreCells_17 : decode cX0_restoreCells 17 = .ok (.getfield 24, 3) := by decide +kernel
theorem dX0_restoreCells_20 : decode cX0_restoreCells 20 = .ok (.iload_n 1, 1) := by decide +kernel
theorem dX0_restoreCells_21 : decode cX0_restoreCells 21 = .ok (.bipush 6, 2) := by decide +kernel
theorem dX0_restoreCells_23 : decode cX0_restoreCells 23 = .ok (.imul, 1) := by decide +kernel
theorem dX0_restoreCells_24 : decode cX0_restoreCells 24 = .ok (.iload_n 3, 1) := by decide +kernel
theorem dX0_restoreCells_25 : decode cX0_restoreCells 25 = .ok (.iadd, 1) := by decide +kernel
theorem dX0_restoreCells_26 : decode cX0_restoreCells 26 = .ok (.iaload, 1) := by decide +kernel
theorem dX0_restoreCells_27 : decode cX0_restoreCells 27 = .ok (.aload_n 0, 1) := by decide +kernel
theorem dX0_restoreCells_28 : decode cX0_restoreCells 28 = .ok (.getfield 27, 3) := by decide +kernel
theorem dX0_restoreCells_31 : decode cX0_restoreCells 31 = .ok (.iload_n 1, 1) := by decide +kernel
theorem dX0_restoreCells_32 : decode cX0_restoreCells 32 = .ok (.bipush 6, 2) := by decide +kernel
theorem dX0_restoreCells_34 : decode cX0_restoreCells 34 = .ok (.imul, 1) := by decide +kernel
theorem dX0_restoreCells_35 : decode cX0_restoreCells 35 = .ok (.iload_n 3, 1) := by decide +kernel
theorem dX0_restoreCells_36 : decode cX0_restoreCells 36 = .ok (.iadd, 1) := by decide +kernel
theorem dX0_restoreCells_37 : decode cX0_restoreCells 37 = .ok (.laload, 1) := by decide +kernel
theorem dX0_restoreCells_38 : decode cX0_restoreCells 38 = .ok (.invokevirtual 52, 3) := by decide +kernel
theorem dX0_restoreCells_41 : decode cX0_restoreCells 41 = .ok (.iinc 3 1, 3) := by decide +kernel
theorem dX0_restoreCells_44 : decode cX0_restoreCells 44 = .ok (.goto (-42), 3) := by decide +kernel
theorem dX0_restoreCells_47 : decode cX0_restoreCells 47 = .ok (.return_, 1) := by decide +kernel
def fX0_restoreCells_b2 : Nat → Int32 → Int32 → Mm → Option Mm
  | 0, _, _, _ => none
  | n + 1, v1, v3, μ => (if (6 : Int32) ≤ v3 then some μ else (if inb v1 14 = true then (if inb ((v1 * (6 : Int32)) + v3) 84 = true then (if inb ((v1 * (6 : Int32)) + v3) 84 = true then ((fX5_set (μ.1 17 (Int32.toNatClampNeg v1)) v3 (μ.1 19 (Int32.toNatClampNeg ((v1 * (6 : Int32)) + v3))) (μ.2 20 (Int32.toNatClampNeg ((v1 * (6 : Int32)) + v3))) μ).bind fun μ38 => (fX0_restoreCells_b2 n) v1 (v3 + (1 : Int32)) μ38) else none) else none) else none))
def fX0_restoreCells (p1 : Int32) (μ : Mm) : Option Mm := fX0_restoreCells_b2 100 p1 (0 : Int32) μ
set_option maxRecDepth 100000 in
set_option maxHeartbeats 4000000 in
theorem kX0_restoreCells (l : Launch) (ε : Ev) (p1 : Int32) (μ : Mm) (out : Mm) (hf : fX0_restoreCells p1 μ = some out) : Sp l ε layX yX0_restoreCells cX0_restoreCells 4 none 1 [.ref (ea ε 3), .int p1, .ref (ea ε 2)] none μ out := by
  refine Sp.of [(0, .ref (ea ε 3)), (1, .int p1), (2, .ref (ea ε 2))] rfl (by decide +kernel) (Nat.le_of_ble_eq_true rfl) ?_
  intro κ hκ C E hQ
  subst hκ
  replace C : Cf κ cX0_restoreCells 4 RX0 none 1 := C
  have b2 : ∀ (n : Nat) (v1 : Int32) (v3 : Int32) (μ : Mm) , fX0_restoreCells_b2 n v1 v3 μ = some out → G κ (Vw κ ε layX μ) 4 2 [(0, .ref (ea ε 3)), (1, .int v1), (2, .ref (ea ε 2)), (3, .int v3)] [] := by
    intro n
    induction n with
    | zero => intro v1 v3 μ hf; exact none_ne hf
    | succ n ih =>
      intro v1 v3 μ hf
      refine g_iload_n (pc := 2) (i := 3) (j := 3) C dX0_restoreCells_2 rfl rfl ?_
      refine g_bipush (pc := 3) C dX0_restoreCells_3 cb_6 ?_
      refine g_icmp_ge (pc := 5) (tgt := 47) C dX0_restoreCells_5 rfl hf (fun _ hf => ?_) (fun _ hf => ?_)
      · exact g_vretw (pc := 47) C hQ dX0_restoreCells_47 hf
      · refine g_aload_n (pc := 8) (i := 2) (j := 2) C dX0_restoreCells_8 rfl rfl ?_
        refine g_aload_n (pc := 9) (i := 0) (j := 0) C dX0_restoreCells_9 rfl rfl ?_
        refine g_getr (pc := 10) (j := 17) C E fdX0_18 layX_3_2 dX0_restoreCells_10 ?_
        refine g_iload_n (pc := 13) (i := 1) (j := 1) C dX0_restoreCells_13 rfl rfl ?_
        refine g_iald (pc := 14) C E layX_17 dX0_restoreCells_14 hf (fun hf => ?_)
        refine g_iload_n (pc := 15) (i := 3) (j := 3) C dX0_restoreCells_15 rfl rfl ?_
        refine g_aload_n (pc := 16) (i := 0) (j := 0) C dX0_restoreCells_16 rfl rfl ?_
        refine g_getr (pc := 17) (j := 19) C E fdX0_24 layX_3_4 dX0_restoreCells_17 ?_
        refine g_iload_n (pc := 20) (i := 1) (j := 1) C dX0_restoreCells_20 rfl rfl ?_
        refine g_bipush (pc := 21) C dX0_restoreCells_21 cb_6 ?_
        refine g_imul (pc := 23) C dX0_restoreCells_23 ?_
        refine g_iload_n (pc := 24) (i := 3) (j := 3) C dX0_restoreCells_24 rfl rfl ?_
        refine g_iadd (pc := 25) C dX0_restoreCells_25 ?_
        refine g_iald (pc := 26) C E layX_19 dX0_restoreCells_26 hf (fun hf => ?_)
        refine g_aload_n (pc := 27) (i := 0) (j := 0) C dX0_restoreCells_27 rfl rfl ?_
        refine g_getr (pc := 28) (j := 20) C E fdX0_27 layX_3_5 dX0_restoreCells_28 ?_
        refine g_iload_n (pc := 31) (i := 1) (j := 1) C dX0_restoreCells_31 rfl rfl ?_
        refine g_bipush (pc := 32) C dX0_restoreCells_32 cb_6 ?_
        refine g_imul (pc := 34) C dX0_restoreCells_34 ?_
        refine g_iload_n (pc := 35) (i := 3) (j := 3) C dX0_restoreCells_35 rfl rfl ?_
        refine g_iadd (pc := 36) C dX0_restoreCells_36 ?_
        refine g_lald (pc := 37) C E layX_20 dX0_restoreCells_37 hf (fun hf => ?_)
        refine g_cwv (pc := 38) (st := []) C E layX_2 lkX0_52 (As := [.int (μ.1 17 (Int32.toNatClampNeg v1)), .int v3, .int (μ.1 19 (Int32.toNatClampNeg ((v1 * (6 : Int32)) + v3))), .long (μ.2 20 (Int32.toNatClampNeg ((v1 * (6 : Int32)) + v3)))]) rfl (fun out h => kX5_set (kl κ) ε (μ.1 17 (Int32.toNatClampNeg v1)) v3 (μ.1 19 (Int32.toNatClampNeg ((v1 * (6 : Int32)) + v3))) (μ.2 20 (Int32.toNatClampNeg ((v1 * (6 : Int32)) + v3))) μ out h) (by decide) rfl (Nat.le_of_ble_eq_true rfl) dX0_restoreCells_38 hf (fun μ38 _ hf => ?_)
        refine g_iinc (pc := 41) (i := 3) (j := 3) (v := (v3 + (1 : Int32))) (L' := [(3, .int (v3 + (1 : Int32))), (0, .ref (ea ε 3)), (1, .int v1), (2, .ref (ea ε 2))]) C dX0_restoreCells_41 rfl (cx_1 _) (by decide) rfl ?_
        refine g_goto (pc := 44) (tgt := 2) C dX0_restoreCells_44 rfl ?_
        exact g_at [1, 2, 3, 0] rfl (ih v1 (v3 + (1 : Int32)) μ38 hf)
  refine g_iconst (pc := 0) C dX0_restoreCells_0 ci_0 ?_
  refine g_istore_n (pc := 1) (i := 3) (L' := [(3, .int (0 : Int32)), (0, .ref (ea ε 3)), (1, .int p1), (2, .ref (ea ε 2))]) C dX0_restoreCells_1 rfl (by decide) rfl ?_
  exact g_at [1, 2, 3, 0] rfl (b2 100 p1 (0 : Int32) μ hf)
theorem dX1_create_0 : decode cX1_create 0 = .ok (.aload_n 0, 1) := by decide +kernel
theorem dX1_create_1 : decode cX1_create 1 = .ok (.getfield 9, 3) := by decide +kernel
theorem dX1_create_4 : decode cX1_create 4 = .ok (.aload_n 0, 1) := by decide +kernel
theorem dX1_create_5 : decode cX1_create 5 = .ok (.getfield 13, 3) := by decide +kernel
theorem dX1_create_8 : decode cX1_create 8 = .ok (.iload_n 1, 1) := by decide +kernel
theorem dX1_create_9 : decode cX1_create 9 = .ok (.iastore, 1) := by decide +kernel
theorem dX1_create_10 : decode cX1_create 10 = .ok (.aload_n 0, 1) := by decide +kernel
theorem dX1_create_11 : decode cX1_create 11 = .ok (.dup, 1) := by decide +kernel
theorem dX1_create_12 : decode cX1_create 12 = .ok (.getfield 13, 3) := by decide +kernel
theorem dX1_create_15 : decode cX1_create 15 = .ok (.iconst 1, 1) := by decide +kernel
theorem dX1_create_16 : decode cX1_create 16 = .ok (.iadd, 1) := by decide +kernel
theorem dX1_create_17 : decode cX1_create 17 = .ok (.putfield 13, 3) := by decide +kernel
theorem dX1_create_20 : decode cX1_create 20 = .ok (.aload_n 0, 1) := by decide +kernel
theorem dX1_create_21 : decode cX1_create 21 = .ok (.getfield 13, 3) := by decide +kernel
theorem dX1_create_24 : decode cX1_create 24 = .ok (.iconst 1, 1) := by decide +kernel
theorem dX1_create_25 : decode cX1_create 25 = .ok (.isub, 1) := by decide +kernel
theorem dX1_create_26 : decode cX1_create 26 = .ok (.ireturn, 1) := by decide +kernel
def fX1_create (p1 : Int32) (μ : Mm) : Option (Int32 × Mm) := (if inb (μ.1 4 1) 20 = true then some ((((wI (wI μ 21 (Int32.toNatClampNeg (μ.1 4 1)) p1) 4 1 (((wI μ 21 (Int32.toNatClampNeg (μ.1 4 1)) p1).1 4 1) + (1 : Int32))).1 4 1) - (1 : Int32)), (wI (wI μ 21 (Int32.toNatClampNeg (μ.1 4 1)) p1) 4 1 (((wI μ 21 (Int32.toNatClampNeg (μ.1 4 1)) p1).1 4 1) + (1 : Int32)))) else none)
set_option maxRecDepth 100000 in
set_option maxHeartbeats 4000000 in
theorem kX1_create (l : Launch) (ε : Ev) (p1 : Int32) (μ : Mm) (out : (Int32 × Mm)) (hf : fX1_create p1 μ = some out) : Sp l ε layX yX1_create cX1_create 2 (some .int) 0 [.ref (ea ε 4), .int p1] (some (.int out.1)) μ out.2 := by
  refine Sp.of [(0, .ref (ea ε 4)), (1, .int p1)] rfl (by decide +kernel) (Nat.le_of_ble_eq_true rfl) ?_
  intro κ hκ C E hQ
  subst hκ
  replace C : Cf κ cX1_create 2 RX1 (some .int) 0 := C
  refine g_aload_n (pc := 0) (i := 0) (j := 0) C dX1_create_0 rfl rfl ?_
  refine g_getr (pc := 1) (j := 21) C E fdX1_9 layX_4_0 dX1_create_1 ?_
  refine g_aload_n (pc := 4) (i := 0) (j := 0) C dX1_create_4 rfl rfl ?_
  refine g_geti (pc := 5) C E fdX1_13 layX_4_1 dX1_create_5 ?_
  refine g_iload_n (pc := 8) (i := 1) (j := 1) C dX1_create_8 rfl rfl ?_
  refine g_iast (pc := 9) C E layX_21 dX1_create_9 hf (fun hf => ?_)
  refine g_aload_n (pc := 10) (i := 0) (j := 0) C dX1_create_10 rfl rfl ?_
  refine g_dup (pc := 11) C dX1_create_11 rfl ?_
  refine g_geti (pc := 12) C E fdX1_13 layX_4_1 dX1_create_12 ?_
  refine g_iconst (pc := 15) C dX1_create_15 ci_1 ?_
  refine g_iadd (pc := 16) C dX1_create_16 ?_
  refine g_puti (pc := 17) C E fdX1_13 layX_4_1 dX1_create_17 ?_
  refine g_aload_n (pc := 20) (i := 0) (j := 0) C dX1_create_20 rfl rfl ?_
  refine g_geti (pc := 21) C E fdX1_13 layX_4_1 dX1_create_21 ?_
  refine g_iconst (pc := 24) C dX1_create_24 ci_1 ?_
  refine g_isub (pc := 25) C dX1_create_25 ?_
  exact g_iretw (pc := 26) C hQ dX1_create_26 hf
theorem dX1_isFull_0 : decode cX1_isFull 0 = .ok (.aload_n 0, 1) := by decide +kernel
theorem dX1_isFull_1 : decode cX1_isFull 1 = .ok (.getfield 13, 3) := by decide +kernel
theorem dX1_isFull_4 : decode cX1_isFull 4 = .ok (.bipush 20, 2) := by decide +kernel
theorem dX1_isFull_6 : decode cX1_isFull 6 = .ok (.if_icmp .lt 7, 3) := by decide +kernel
theorem dX1_isFull_9 : decode cX1_isFull 9 = .ok (.iconst 1, 1) := by decide +kernel
theorem dX1_isFull_10 : decode cX1_isFull 10 = .ok (.goto 4, 3) := by decide +kernel
theorem dX1_isFull_13 : decode cX1_isFull 13 = .ok (.iconst 0, 1) := by decide +kernel
theorem dX1_isFull_14 : decode cX1_isFull 14 = .ok (.ireturn, 1) := by decide +kernel
def fX1_isFull  (μ : Mm) : Option Int32 := (if (μ.1 4 1) < (20 : Int32) then some (0 : Int32) else some (1 : Int32))
set_option maxRecDepth 100000 in
set_option maxHeartbeats 4000000 in
theorem kX1_isFull (l : Launch) (ε : Ev)  (μ : Mm) (out : Int32) (hf : fX1_isFull μ = some out) : Sp l ε layX yX1_isFull cX1_isFull 1 (some .boolean) 0 [.ref (ea ε 4)] (some (.int out)) μ μ := by
  refine Sp.of [(0, .ref (ea ε 4))] rfl (by decide +kernel) (Nat.le_of_ble_eq_true rfl) ?_
  intro κ hκ C E hQ
  subst hκ
  replace C : Cf κ cX1_isFull 1 RX1 (some .boolean) 0 := C
  refine g_aload_n (pc := 0) (i := 0) (j := 0) C dX1_isFull_0 rfl rfl ?_
  refine g_geti (pc := 1) C E fdX1_13 layX_4_1 dX1_isFull_1 ?_
  refine g_bipush (pc := 4) C dX1_isFull_4 cb_20 ?_
  refine g_icmp_lt (pc := 6) (tgt := 13) C dX1_isFull_6 rfl hf (fun _ hf => ?_) (fun _ hf => ?_)
  · refine g_iconst (pc := 13) C dX1_isFull_13 ci_0 ?_
    exact g_zret1r (pc := 14) C rfl hQ dX1_isFull_14 hf
  · refine g_iconst (pc := 9) C dX1_isFull_9 ci_1 ?_
    refine g_goto (pc := 10) (tgt := 14) C dX1_isFull_10 rfl ?_
    exact g_zret1r (pc := 14) C rfl hQ dX1_isFull_14 hf
theorem dX1_numberOf_0 : decode cX1_numberOf 0 = .ok (.aload_n 0, 1) := by decide +kernel
theorem dX1_numberOf_1 : decode cX1_numberOf 1 = .ok (.getfield 9, 3) := by decide +kernel
theorem dX1_numberOf_4 : decode cX1_numberOf 4 = .ok (.iload_n 1, 1) := by decide +kernel
theorem dX1_numberOf_5 : decode cX1_numberOf 5 = .ok (.iaload, 1) := by decide +kernel
theorem dX1_numberOf_6 : decode cX1_numberOf 6 = .ok (.ireturn, 1) := by decide +kernel
def fX1_numberOf (p1 : Int32) (μ : Mm) : Option Int32 := (if inb p1 20 = true then some (μ.1 21 (Int32.toNatClampNeg p1)) else none)
set_option maxRecDepth 100000 in
set_option maxHeartbeats 4000000 in
theorem kX1_numberOf (l : Launch) (ε : Ev) (p1 : Int32) (μ : Mm) (out : Int32) (hf : fX1_numberOf p1 μ = some out) : Sp l ε layX yX1_numberOf cX1_numberOf 2 (some .int) 0 [.ref (ea ε 4), .int p1] (some (.int out)) μ μ := by
  refine Sp.of [(0, .ref (ea ε 4)), (1, .int p1)] rfl (by decide +kernel) (Nat.le_of_ble_eq_true rfl) ?_
  intro κ hκ C E hQ
  subst hκ
  replace C : Cf κ cX1_numberOf 2 RX1 (some .int) 0 := C
  refine g_aload_n (pc := 0) (i := 0) (j := 0) C dX1_numberOf_0 rfl rfl ?_
  refine g_getr (pc := 1) (j := 21) C E fdX1_9 layX_4_0 dX1_numberOf_1 ?_
  refine g_iload_n (pc := 4) (i := 1) (j := 1) C dX1_numberOf_4 rfl rfl ?_
  refine g_iald (pc := 5) C E layX_21 dX1_numberOf_5 hf (fun hf => ?_)
  exact g_iretr (pc := 6) C hQ dX1_numberOf_6 hf
theorem dX1_setNumber_0 : decode cX1_setNumber 0 = .ok (.aload_n 0, 1) := by decide +kernel
theorem dX1_setNumber_1 : decode cX1_setNumber 1 = .ok (.getfield 9, 3) := by decide +kernel
theorem dX1_setNumber_4 : decode cX1_setNumber 4 = .ok (.iload_n 1, 1) := by decide +kernel
theorem dX1_setNumber_5 : decode cX1_setNumber 5 = .ok (.iload_n 2, 1) := by decide +kernel
theorem dX1_setNumber_6 : decode cX1_setNumber 6 = .ok (.iastore, 1) := by decide +kernel
theorem dX1_setNumber_7 : decode cX1_setNumber 7 = .ok (.return_, 1) := by decide +kernel
def fX1_setNumber (p1 : Int32) (p2 : Int32) (μ : Mm) : Option Mm := (if inb p1 20 = true then some (wI μ 21 (Int32.toNatClampNeg p1) p2) else none)
set_option maxRecDepth 100000 in
set_option maxHeartbeats 4000000 in
theorem kX1_setNumber (l : Launch) (ε : Ev) (p1 : Int32) (p2 : Int32) (μ : Mm) (out : Mm) (hf : fX1_setNumber p1 p2 μ = some out) : Sp l ε layX yX1_setNumber cX1_setNumber 3 none 0 [.ref (ea ε 4), .int p1, .int p2] none μ out := by
  refine Sp.of [(0, .ref (ea ε 4)), (1, .int p1), (2, .int p2)] rfl (by decide +kernel) (Nat.le_of_ble_eq_true rfl) ?_
  intro κ hκ C E hQ
  subst hκ
  replace C : Cf κ cX1_setNumber 3 RX1 none 0 := C
  refine g_aload_n (pc := 0) (i := 0) (j := 0) C dX1_setNumber_0 rfl rfl ?_
  refine g_getr (pc := 1) (j := 21) C E fdX1_9 layX_4_0 dX1_setNumber_1 ?_
  refine g_iload_n (pc := 4) (i := 1) (j := 1) C dX1_setNumber_4 rfl rfl ?_
  refine g_iload_n (pc := 5) (i := 2) (j := 2) C dX1_setNumber_5 rfl rfl ?_
  refine g_iast (pc := 6) C E layX_21 dX1_setNumber_6 hf (fun hf => ?_)
  exact g_vretw (pc := 7) C hQ dX1_setNumber_7 hf
theorem dX3_append_0 : decode cX3_append 0 = .ok (.aload_n 0, 1) := by decide +kernel
theorem dX3_append_1 : decode cX3_append 1 = .ok (.getfield 15, 3) := by decide +kernel
theorem dX3_append_4 : decode cX3_append 4 = .ok (.bipush 60, 2) := by decide +kernel
theorem dX3_append_6 : decode cX3_append 6 = .ok (.if_icmp .lt 5, 3) := by decide +kernel
theorem dX3_append_9 : decode cX3_append 9 = .ok (.iconst 0, 1) := by decide +kernel
theorem dX3_append_10 : decode cX3_append 10 = .ok (.ireturn, 1) := by decide +kernel
theorem dX3_append_11 : decode cX3_append 11 = .ok (.aload_n 0, 1) := by decide +kernel
theorem dX3_append_12 : decode cX3_append 12 = .ok (.getfield 11, 3) := by decide +kernel
theorem dX3_append_15 : decode cX3_append 15 = .ok (.aload_n 0, 1) := by decide +kernel
theorem dX3_append_16 : decode cX3_append 16 = .ok (.getfield 15, 3) := by decide +kernel
theorem dX3_append_19 : decode cX3_append 19 = .ok (.iload_n 1, 1) := by decide +kernel
theorem dX3_append_20 : decode cX3_append 20 = .ok (.iastore, 1) := by decide +kernel
theorem dX3_append_21 : decode cX3_append 21 = .ok (.aload_n 0, 1) := by decide +kernel
theorem dX3_append_22 : decode cX3_append 22 = .ok (.dup, 1) := by decide +kernel
theorem dX3_append_23 : decode cX3_append 23 = .ok (.getfield 15, 3) := by decide +kernel
theorem dX3_append_26 : decode cX3_append 26 = .ok (.iconst 1, 1) := by decide +kernel
theorem dX3_append_27 : decode cX3_append 27 = .ok (.iadd, 1) := by decide +kernel
theorem dX3_append_28 : decode cX3_append 28 = .ok (.putfield 15, 3) := by decide +kernel
theorem dX3_append_31 : decode cX3_append 31 = .ok (.iconst 1, 1) := by decide +kernel
theorem dX3_append_32 : decode cX3_append 32 = .ok (.ireturn, 1) := by decide +kernel
def fX3_append (p1 : Int32) (μ : Mm) : Option (Int32 × Mm) := (if (μ.1 1 1) < (60 : Int32) then (if inb (μ.1 1 1) 60 = true then some ((1 : Int32), (wI (wI μ 8 (Int32.toNatClampNeg (μ.1 1 1)) p1) 1 1 (((wI μ 8 (Int32.toNatClampNeg (μ.1 1 1)) p1).1 1 1) + (1 : Int32)))) else none) else some ((0 : Int32), μ))
set_option maxRecDepth 100000 in
set_option maxHeartbeats 4000000 in
theorem kX3_append (l : Launch) (ε : Ev) (p1 : Int32) (μ : Mm) (out : (Int32 × Mm)) (hf : fX3_append p1 μ = some out) : Sp l ε layX yX3_append cX3_append 2 (some .boolean) 0 [.ref (ea ε 1), .int p1] (some (.int out.1)) μ out.2 := by
  refine Sp.of [(0, .ref (ea ε 1)), (1, .int p1)] rfl (by decide +kernel) (Nat.le_of_ble_eq_true rfl) ?_
  intro κ hκ C E hQ
  subst hκ
  replace C : Cf κ cX3_append 2 RX3 (some .boolean) 0 := C
  refine g_aload_n (pc := 0) (i := 0) (j := 0) C dX3_append_0 rfl rfl ?_
  refine g_geti (pc := 1) C E fdX3_15 layX_1_1 dX3_append_1 ?_
  refine g_bipush (pc := 4) C dX3_append_4 cb_60 ?_
  refine g_icmp_lt (pc := 6) (tgt := 11) C dX3_append_6 rfl hf (fun _ hf => ?_) (fun _ hf => ?_)
  · refine g_aload_n (pc := 11) (i := 0) (j := 0) C dX3_append_11 rfl rfl ?_
    refine g_getr (pc := 12) (j := 8) C E fdX3_11 layX_1_0 dX3_append_12 ?_
    refine g_aload_n (pc := 15) (i := 0) (j := 0) C dX3_append_15 rfl rfl ?_
    refine g_geti (pc := 16) C E fdX3_15 layX_1_1 dX3_append_16 ?_
    refine g_iload_n (pc := 19) (i := 1) (j := 1) C dX3_append_19 rfl rfl ?_
    refine g_iast (pc := 20) C E layX_8 dX3_append_20 hf (fun hf => ?_)
    refine g_aload_n (pc := 21) (i := 0) (j := 0) C dX3_append_21 rfl rfl ?_
    refine g_dup (pc := 22) C dX3_append_22 rfl ?_
    refine g_geti (pc := 23) C E fdX3_15 layX_1_1 dX3_append_23 ?_
    refine g_iconst (pc := 26) C dX3_append_26 ci_1 ?_
    refine g_iadd (pc := 27) C dX3_append_27 ?_
    refine g_puti (pc := 28) C E fdX3_15 layX_1_1 dX3_append_28 ?_
    refine g_iconst (pc := 31) C dX3_append_31 ci_1 ?_
    exact g_zret1w (pc := 32) C rfl hQ dX3_append_32 hf
  · refine g_iconst (pc := 9) C dX3_append_9 ci_0 ?_
    exact g_zret1w (pc := 10) C rfl hQ dX3_append_10 hf
theorem dX3_arrayTypeOf_0 : decode cX3_arrayTypeOf 0 = .ok (.iload_n 0, 1) := by decide +kernel
theorem dX3_arrayTypeOf_1 : decode cX3_arrayTypeOf 1 = .ok (.lookupswitch 44 #[(111, 41), (116, 35), (119, 38)], 35) := by decide +kernel
theorem dX3_arrayTypeOf_36 : decode cX3_arrayTypeOf 36 = .ok (.bipush 10, 2) := by decide +kernel
theorem dX3_arrayTypeOf_38 : decode cX3_arrayTypeOf 38 = .ok (.ireturn, 1) := by decide +kernel
theorem dX3_arrayTypeOf_39 : decode cX3_arrayTypeOf 39 = .ok (.bipush 11, 2) := by decide +kernel
theorem dX3_arrayTypeOf_41 : decode cX3_arrayTypeOf 41 = .ok (.ireturn, 1) := by decide +kernel
theorem dX3_arrayTypeOf_42 : decode cX3_arrayTypeOf 42 = .ok (.bipush 12, 2) := by decide +kernel
theorem dX3_arrayTypeOf_44 : decode cX3_arrayTypeOf 44 = .ok (.ireturn, 1) := by decide +kernel
theorem dX3_arrayTypeOf_45 : decode cX3_arrayTypeOf 45 = .ok (.iload_n 0, 1) := by decide +kernel
theorem dX3_arrayTypeOf_46 : decode cX3_arrayTypeOf 46 = .ok (.invokestatic 51, 3) := by decide +kernel
theorem dX3_arrayTypeOf_49 : decode cX3_arrayTypeOf 49 = .ok (.ireturn, 1) := by decide +kernel
def fX3_arrayTypeOf (p1 : Int32) (μ : Mm) : Option Int32 := (if p1 = 111 then some (12 : Int32) else (if p1 = 116 then some (10 : Int32) else (if p1 = 119 then some (11 : Int32) else ((fX3_primitiveOf p1 μ).bind fun r46 => some r46))))
set_option maxRecDepth 100000 in
set_option maxHeartbeats 4000000 in
theorem kX3_arrayTypeOf (l : Launch) (ε : Ev) (p1 : Int32) (μ : Mm) (out : Int32) (hf : fX3_arrayTypeOf p1 μ = some out) : Sp l ε layX yX3_arrayTypeOf cX3_arrayTypeOf 1 (some .int) 5 [.int p1] (some (.int out)) μ μ := by
  refine Sp.of [(0, .int p1)] rfl (by decide +kernel) (Nat.le_of_ble_eq_true rfl) ?_
  intro κ hκ C E hQ
  subst hκ
  replace C : Cf κ cX3_arrayTypeOf 1 RX3 (some .int) 5 := C
  refine g_iload_n (pc := 0) (i := 0) (j := 0) C dX3_arrayTypeOf_0 rfl rfl ?_
  by_cases h1_0 : p1 = 111
  · replace hf := ite_t h1_0 hf
    refine g_look (pc := 1) (off := 41) (tgt := 42) C dX3_arrayTypeOf_1 (by decide) (by rw [h1_0]; decide) rfl ?_
    refine g_bipush (pc := 42) C dX3_arrayTypeOf_42 cb_12 ?_
    exact g_iretr (pc := 44) C hQ dX3_arrayTypeOf_44 hf
  replace hf := ite_f h1_0 hf
  by_cases h1_1 : p1 = 116
  · replace hf := ite_t h1_1 hf
    refine g_look (pc := 1) (off := 35) (tgt := 36) C dX3_arrayTypeOf_1 (by decide) (by rw [h1_1]; decide) rfl ?_
    refine g_bipush (pc := 36) C dX3_arrayTypeOf_36 cb_10 ?_
    exact g_iretr (pc := 38) C hQ dX3_arrayTypeOf_38 hf
  replace hf := ite_f h1_1 hf
  by_cases h1_2 : p1 = 119
  · replace hf := ite_t h1_2 hf
    refine g_look (pc := 1) (off := 38) (tgt := 39) C dX3_arrayTypeOf_1 (by decide) (by rw [h1_2]; decide) rfl ?_
    refine g_bipush (pc := 39) C dX3_arrayTypeOf_39 cb_11 ?_
    exact g_iretr (pc := 41) C hQ dX3_arrayTypeOf_41 hf
  replace hf := ite_f h1_2 hf
  refine g_look (pc := 1) (off := 44) (tgt := 45) C dX3_arrayTypeOf_1 (by decide) (by show Op.lookupswitch.offset [(111, 41), (116, 35), (119, 38)] 44 _ = _; rw [lv_osw h1_0 (by decide), lv_osw h1_1 (by decide), lv_osw h1_2 (by decide)]; rfl) rfl ?_
  refine g_iload_n (pc := 45) (i := 0) (j := 0) C dX3_arrayTypeOf_45 rfl rfl ?_
  refine g_cswi (pc := 46) (st := []) C E lkX3_51 (As := [.int p1]) rfl (fun out h => kX3_primitiveOf (kl κ) ε p1 μ out h) (by decide) rfl (Nat.le_of_ble_eq_true rfl) dX3_arrayTypeOf_46 hf (fun r46 _ hf => ?_)
  exact g_iretr (pc := 49) C hQ dX3_arrayTypeOf_49 hf
theorem dX3_keep_0 : decode cX3_keep 0 = .ok (.aload_n 0, 1) := by decide +kernel
theorem dX3_keep_1 : decode cX3_keep 1 = .ok (.getfield 25, 3) := by decide +kernel
theorem dX3_keep_4 : decode cX3_keep 4 = .ok (.aload_n 0, 1) := by decide +kernel
theorem dX3_keep_5 : decode cX3_keep 5 = .ok (.getfield 22, 3) := by decide +kernel
theorem dX3_keep_8 : decode cX3_keep 8 = .ok (.iload_n 1, 1) := by decide +kernel
theorem dX3_keep_9 : decode cX3_keep 9 = .ok (.iastore, 1) := by decide +kernel
theorem dX3_keep_10 : decode cX3_keep 10 = .ok (.aload_n 0, 1) := by decide +kernel
theorem dX3_keep_11 : decode cX3_keep 11 = .ok (.getfield 28, 3) := by decide +kernel
theorem dX3_keep_14 : decode cX3_keep 14 = .ok (.aload_n 0, 1) := by decide +kernel
theorem dX3_keep_15 : decode cX3_keep 15 = .ok (.getfield 22, 3) := by decide +kernel
theorem dX3_keep_18 : decode cX3_keep 18 = .ok (.lload_n 2, 1) := by decide +kernel
theorem dX3_keep_19 : decode cX3_keep 19 = .ok (.lastore, 1) := by decide +kernel
theorem dX3_keep_20 : decode cX3_keep 20 = .ok (.return_, 1) := by decide +kernel
def fX3_keep (p1 : Int32) (p2 : Int64) (μ : Mm) : Option Mm := (if inb (μ.1 1 3) 6 = true then (if inb ((wI μ 9 (Int32.toNatClampNeg (μ.1 1 3)) p1).1 1 3) 6 = true then some (wL (wI μ 9 (Int32.toNatClampNeg (μ.1 1 3)) p1) 10 (Int32.toNatClampNeg ((wI μ 9 (Int32.toNatClampNeg (μ.1 1 3)) p1).1 1 3)) p2) else none) else none)
set_option maxRecDepth 100000 in
set_option maxHeartbeats 4000000 in
theorem kX3_keep (l : Launch) (ε : Ev) (p1 : Int32) (p2 : Int64) (μ : Mm) (out : Mm) (hf : fX3_keep p1 p2 μ = some out) : Sp l ε layX yX3_keep cX3_keep 4 none 0 [.ref (ea ε 1), .int p1, .long p2] none μ out := by
  refine Sp.of [(0, .ref (ea ε 1)), (1, .int p1), (2, .long p2)] rfl (by decide +kernel) (Nat.le_of_ble_eq_true rfl) ?_
  intro κ hκ C E hQ
  subst hκ
  replace C : Cf κ cX3_keep 4 RX3 none 0 := C
  refine g_aload_n (pc := 0) (i := 0) (j := 0) C dX3_keep_0 rfl rfl ?_
  refine g_getr (pc := 1) (j := 9) C E fdX3_25 layX_1_4 dX3_keep_1 ?_
  refine g_aload_n (pc := 4) (i := 0) (j := 0) C dX3_keep_4 rfl rfl ?_
  refine g_geti (pc := 5) C E fdX3_22 layX_1_3 dX3_keep_5 ?_
  refine g_iload_n (pc := 8) (i := 1) (j := 1) C dX3_keep_8 rfl rfl ?_
  refine g_iast (pc := 9) C E layX_9 dX3_keep_9 hf (fun hf => ?_)
  refine g_aload_n (pc := 10) (i := 0) (j := 0) C dX3_keep_10 rfl rfl ?_
  refine g_getr (pc := 11) (j := 10) C E fdX3_28 layX_1_5 dX3_keep_11 ?_
  refine g_aload_n (pc := 14) (i := 0) (j := 0) C dX3_keep_14 rfl rfl ?_
  refine g_geti (pc := 15) C E fdX3_22 layX_1_3 dX3_keep_15 ?_
  refine g_lload_n (pc := 18) (i := 2) (j := 2) C dX3_keep_18 rfl rfl ?_
  refine g_last (pc := 19) C E layX_10 dX3_keep_19 hf (fun hf => ?_)
  exact g_vretw (pc := 20) C hQ dX3_keep_20 hf
theorem dX3_letter_0 : decode cX3_letter 0 = .ok (.aload_n 0, 1) := by decide +kernel
theorem dX3_letter_1 : decode cX3_letter 1 = .ok (.getfield 32, 3) := by decide +kernel
theorem dX3_letter_4 : decode cX3_letter 4 = .ok (.aload_n 0, 1) := by decide +kernel
theorem dX3_letter_5 : decode cX3_letter 5 = .ok (.getfield 15, 3) := by decide +kernel
theorem dX3_letter_8 : decode cX3_letter 8 = .ok (.if_icmp .ge 15, 3) := by decide +kernel
theorem dX3_letter_11 : decode cX3_letter 11 = .ok (.aload_n 0, 1) := by decide +kernel
theorem dX3_letter_12 : decode cX3_letter 12 = .ok (.getfield 11, 3) := by decide +kernel
theorem dX3_letter_15 : decode cX3_letter 15 = .ok (.aload_n 0, 1) := by decide +kernel
theorem dX3_letter_16 : decode cX3_letter 16 = .ok (.getfield 32, 3) := by decide +kernel
theorem dX3_letter_19 : decode cX3_letter 19 = .ok (.iaload, 1) := by decide +kernel
theorem dX3_letter_20 : decode cX3_letter 20 = .ok (.goto 5, 3) := by decide +kernel
theorem dX3_letter_23 : decode cX3_letter 23 = .ok (.bipush (-9), 2) := by decide +kernel
theorem dX3_letter_25 : decode cX3_letter 25 = .ok (.ireturn, 1) := by decide +kernel
def fX3_letter  (μ : Mm) : Option Int32 := (if (μ.1 1 1) ≤ (μ.1 1 6) then some (-9 : Int32) else (if inb (μ.1 1 6) 60 = true then some (μ.1 8 (Int32.toNatClampNeg (μ.1 1 6))) else none))
set_option maxRecDepth 100000 in
set_option maxHeartbeats 4000000 in
theorem kX3_letter (l : Launch) (ε : Ev)  (μ : Mm) (out : Int32) (hf : fX3_letter μ = some out) : Sp l ε layX yX3_letter cX3_letter 1 (some .int) 0 [.ref (ea ε 1)] (some (.int out)) μ μ := by
  refine Sp.of [(0, .ref (ea ε 1))] rfl (by decide +kernel) (Nat.le_of_ble_eq_true rfl) ?_
  intro κ hκ C E hQ
  subst hκ
  replace C : Cf κ cX3_letter 1 RX3 (some .int) 0 := C
  refine g_aload_n (pc := 0) (i := 0) (j := 0) C dX3_letter_0 rfl rfl ?_
  refine g_geti (pc := 1) C E fdX3_32 layX_1_6 dX3_letter_1 ?_
  refine g_aload_n (pc := 4) (i := 0) (j := 0) C dX3_letter_4 rfl rfl ?_
  refine g_geti (pc := 5) C E fdX3_15 layX_1_1 dX3_letter_5 ?_
  refine g_icmp_ge (pc := 8) (tgt := 23) C dX3_letter_8 rfl hf (fun _ hf => ?_) (fun _ hf => ?_)
  · refine g_bipush (pc := 23) C dX3_letter_23 cb_m9 ?_
    exact g_iretr (pc := 25) C hQ dX3_letter_25 hf
  · refine g_aload_n (pc := 11) (i := 0) (j := 0) C dX3_letter_11 rfl rfl ?_
    refine g_getr (pc := 12) (j := 8) C E fdX3_11 layX_1_0 dX3_letter_12 ?_
    refine g_aload_n (pc := 15) (i := 0) (j := 0) C dX3_letter_15 rfl rfl ?_
    refine g_geti (pc := 16) C E fdX3_32 layX_1_6 dX3_letter_16 ?_
    refine g_iald (pc := 19) C E layX_8 dX3_letter_19 hf (fun hf => ?_)
    refine g_goto (pc := 20) (tgt := 25) C dX3_letter_20 rfl ?_
    exact g_iretr (pc := 25) C hQ dX3_letter_25 hf
theorem dX3_skip_0 : decode cX3_skip 0 = .ok (.aload_n 0, 1) := by decide +kernel
theorem dX3_skip_1 : decode cX3_skip 1 = .ok (.invokevirtual 35, 3) := by decide +kernel
theorem dX3_skip_4 : decode cX3_skip 4 = .ok (.iload_n 1, 1) := by decide +kernel
theorem dX3_skip_5 : decode cX3_skip 5 = .ok (.if_icmp .eq 5, 3) := by decide +kernel
theorem dX3_skip_8 : decode cX3_skip 8 = .ok (.iconst 0, 1) := by decide +kernel
theorem dX3_skip_9 : decode cX3_skip 9 = .ok (.ireturn, 1) := by decide +kernel
theorem dX3_skip_10 : decode cX3_skip 10 = .ok (.aload_n 0, 1) := by decide +kernel
theorem dX3_skip_11 : decode cX3_skip 11 = .ok (.dup, 1) := by decide +kernel
theorem dX3_skip_12 : decode cX3_skip 12 = .ok (.getfield 32, 3) := by decide +kernel
theorem dX3_skip_15 : decode cX3_skip 15 = .ok (.iconst 1, 1) := by decide +kernel
theorem dX3_skip_16 : decode cX3_skip 16 = .ok (.iadd, 1) := by decide +kernel
theorem dX3_skip_17 : decode cX3_skip 17 = .ok (.putfield 32, 3) := by decide +kernel
theorem dX3_skip_20 : decode cX3_skip 20 = .ok (.iconst 1, 1) := by decide +kernel
theorem dX3_skip_21 : decode cX3_skip 21 = .ok (.ireturn, 1) := by decide +kernel
def fX3_skip (p1 : Int32) (μ : Mm) : Option (Int32 × Mm) := ((fX3_letter μ).bind fun r1 => (if r1 = p1 then some ((1 : Int32), (wI μ 1 6 ((μ.1 1 6) + (1 : Int32)))) else some ((0 : Int32), μ)))
set_option maxRecDepth 100000 in
set_option maxHeartbeats 4000000 in
theorem kX3_skip (l : Launch) (ε : Ev) (p1 : Int32) (μ : Mm) (out : (Int32 × Mm)) (hf : fX3_skip p1 μ = some out) : Sp l ε layX yX3_skip cX3_skip 2 (some .boolean) 1 [.ref (ea ε 1), .int p1] (some (.int out.1)) μ out.2 := by
  refine Sp.of [(0, .ref (ea ε 1)), (1, .int p1)] rfl (by decide +kernel) (Nat.le_of_ble_eq_true rfl) ?_
  intro κ hκ C E hQ
  subst hκ
  replace C : Cf κ cX3_skip 2 RX3 (some .boolean) 1 := C
  refine g_aload_n (pc := 0) (i := 0) (j := 0) C dX3_skip_0 rfl rfl ?_
  refine g_cri (pc := 1) (st := []) C E layX_1 lkX3_35 (As := []) rfl (fun out h => kX3_letter (kl κ) ε μ out h) (by decide) rfl (Nat.le_of_ble_eq_true rfl) dX3_skip_1 hf (fun r1 _ hf => ?_)
  refine g_iload_n (pc := 4) (i := 1) (j := 1) C dX3_skip_4 rfl rfl ?_
  refine g_icmp_eq (pc := 5) (tgt := 10) C dX3_skip_5 rfl hf (fun _ hf => ?_) (fun _ hf => ?_)
  · refine g_aload_n (pc := 10) (i := 0) (j := 0) C dX3_skip_10 rfl rfl ?_
    refine g_dup (pc := 11) C dX3_skip_11 rfl ?_
    refine g_geti (pc := 12) C E fdX3_32 layX_1_6 dX3_skip_12 ?_
    refine g_iconst (pc := 15) C dX3_skip_15 ci_1 ?_
    refine g_iadd (pc := 16) C dX3_skip_16 ?_
    refine g_puti (pc := 17) C E fdX3_32 layX_1_6 dX3_skip_17 ?_
    refine g_iconst (pc := 20) C dX3_skip_20 ci_1 ?_
    exact g_zret1w (pc := 21) C rfl hQ dX3_skip_21 hf
  · refine g_iconst (pc := 8) C dX3_skip_8 ci_0 ?_
    exact g_zret1w (pc := 9) C rfl hQ dX3_skip_9 hf
theorem dX3_readNumber_0 : decode cX3_readNumber 0 = .ok (.iload_n 1, 1) := by decide +kernel
theorem dX3_readNumber_1 : decode cX3_readNumber 1 = .ok (.invokestatic 72, 3) := by decide +kernel
theorem dX3_readNumber_4 : decode cX3_readNumber 4 = .ok (.lconst 0, 1) := by decide +kernel
theorem dX3_readNumber_5 : decode cX3_readNumber 5 = .ok (.lcmp, 1) := by decide +kernel
theorem dX3_readNumber_6 : decode cX3_readNumber 6 = .ok (.ifCond .ge 16, 3) := by decide +kernel
theorem dX3_readNumber_9 : decode cX3_readNumber 9 = .ok (.aload_n 0, 1) := by decide +kernel
theorem dX3_readNumber_10 : decode cX3_readNumber 10 = .ok (.bipush 45, 2) := by decide +kernel
theorem dX3_readNumber_12 : decode cX3_readNumber 12 = .ok (.invokevirtual 43, 3) := by decide +kernel
theorem dX3_readNumber_15 : decode cX3_readNumber 15 = .ok (.ifCond .eq 7, 3) := by decide +kernel
theorem dX3_readNumber_18 : decode cX3_readNumber 18 = .ok (.iconst 1, 1) := by decide +kernel
theorem dX3_readNumber_19 : decode cX3_readNumber 19 = .ok (.goto 4, 3) := by decide +kernel
theorem dX3_readNumber_22 : decode cX3_readNumber 22 = .ok (.iconst 0, 1) := by decide +kernel
theorem dX3_readNumber_23 : decode cX3_readNumber 23 = .ok (.istore_n 2, 1) := by decide +kernel
theorem dX3_readNumber_24 : decode cX3_readNumber 24 = .ok (.lconst 0, 1) := by decide +kernel
theorem dX3_readNumber_25 : decode cX3_readNumber 25 = .ok (.lstore_n 3, 1) := by decide +kernel
theorem dX3_readNumber_26 : decode cX3_readNumber 26 = .ok (.iconst 0, 1) := by decide +kernel
theorem dX3_readNumber_27 : decode cX3_readNumber 27 = .ok (.istore 5, 2) := by decide +kernel
theorem dX3_readNumber_29 : decode cX3_readNumber 29 = .ok (.iload 5, 2) := by decide +kernel
theorem dX3_readNumber_31 : decode cX3_readNumber 31 = .ok (.bipush 9, 2) := by decide +kernel
theorem dX3_readNumber_33 : decode cX3_readNumber 33 = .ok (.if_icmp .ge 106, 3) := by decide +kernel
theorem dX3_readNumber_36 : decode cX3_readNumber 36 = .ok (.aload_n 0, 1) := by decide +kernel
theorem dX3_readNumber_37 : decode cX3_readNumber 37 = .ok (.invokevirtual 35, 3) := by decide +kernel
theorem dX3_readNumber_40 : decode cX3_readNumber 40 = .ok (.invokestatic 78, 3) := by decide +kernel
theorem dX3_readNumber_43 : decode cX3_readNumber 43 = .ok (.ifCond .eq 96, 3) := by decide +kernel
theorem dX3_readNumber_46 : decode cX3_readNumber 46 = .ok (.aload_n 0, 1) := by decide +kernel
theorem dX3_readNumber_47 : decode cX3_readNumber 47 = .ok (.invokevirtual 35, 3) := by decide +kernel
theorem dX3_readNumber_50 : decode cX3_readNumber 50 = .ok (.bipush 48, 2) := by decide +kernel
theorem dX3_readNumber_52 : decode cX3_readNumber 52 = .ok (.isub, 1) := by decide +kernel
theorem dX3_readNumber_53 : decode cX3_readNumber 53 = .ok (.istore 6, 2) := by decide +kernel
theorem dX3_readNumber_55 : decode cX3_readNumber 55 = .ok (.lload_n 3, 1) := by decide +kernel
theorem dX3_readNumber_56 : decode cX3_readNumber 56 = .ok (.ldc2_w 81, 3) := by decide +kernel
theorem dX3_readNumber_59 : decode cX3_readNumber 59 = .ok (.lmul, 1) := by decide +kernel
theorem dX3_readNumber_60 : decode cX3_readNumber 60 = .ok (.iload_n 2, 1) := by decide +kernel
theorem dX3_readNumber_61 : decode cX3_readNumber 61 = .ok (.ifCond .eq 9, 3) := by decide +kernel
theorem dX3_readNumber_64 : decode cX3_readNumber 64 = .ok (.iload 6, 2) := by decide +kernel
theorem dX3_readNumber_66 : decode cX3_readNumber 66 = .ok (.ineg, 1) := by decide +kernel
theorem dX3_readNumber_67 : decode cX3_readNumber 67 = .ok (.goto 5, 3) := by decide +kernel
theorem dX3_readNumber_70 : decode cX3_readNumber 70 = .ok (.iload 6, 2) := by decide +kernel
theorem dX3_readNumber_72 : decode cX3_readNumber 72 = .ok (.i2l, 1) := by decide +kernel
theorem dX3_readNumber_73 : decode cX3_readNumber 73 = .ok (.ladd, 1) := by decide +kernel
theorem dX3_readNumber_74 : decode cX3_readNumber 74 = .ok (.lstore 7, 2) := by decide +kernel
theorem dX3_readNumber_76 : decode cX3_readNumber 76 = .ok (.lload_n 3, 1) := by decide +kernel
theorem dX3_readNumber_77 : decode cX3_readNumber 77 = .ok (.lconst 0, 1) := by decide +kernel
theorem dX3_readNumber_78 : decode cX3_readNumber 78 = .ok (.lcmp, 1) := by decide +kernel
theorem dX3_readNumber_79 : decode cX3_readNumber 79 = .ok (.ifCond .ne 21, 3) := by decide +kernel
theorem dX3_readNumber_82 : decode cX3_readNumber 82 = .ok (.iload 5, 2) := by decide +kernel
theorem dX3_readNumber_84 : decode cX3_readNumber 84 = .ok (.ifCond .gt 12, 3) := by decide +kernel
theorem dX3_readNumber_87 : decode cX3_readNumber 87 = .ok (.iload_n 2, 1) := by decide +kernel
theorem dX3_readNumber_88 : decode cX3_readNumber 88 = .ok (.ifCond .eq 12, 3) := by decide +kernel
theorem dX3_readNumber_91 : decode cX3_readNumber 91 = .ok (.iload 6, 2) := by decide +kernel
theorem dX3_readNumber_93 : decode cX3_readNumber 93 = .ok (.ifCond .ne 7, 3) := by decide +kernel
theorem dX3_readNumber_96 : decode cX3_readNumber 96 = .ok (.iconst 1, 1) := by decide +kernel
theorem dX3_readNumber_97 : decode cX3_readNumber 97 = .ok (.goto 4, 3) := by decide +kernel
theorem dX3_readNumber_100 : decode cX3_readNumber 100 = .ok (.iconst 0, 1) := by decide +kernel
theorem dX3_readNumber_101 : decode cX3_readNumber 101 = .ok (.istore 9, 2) := by decide +kernel
theorem dX3_readNumber_103 : decode cX3_readNumber 103 = .ok (.iload 9, 2) := by decide +kernel
theorem dX3_readNumber_105 : decode cX3_readNumber 105 = .ok (.ifCond .ne 34, 3) := by decide +kernel
theorem dX3_readNumber_108 : decode cX3_readNumber 108 = .ok (.lload 7, 2) := by decide +kernel
theorem dX3_readNumber_110 : decode cX3_readNumber 110 = .ok (.iload_n 1, 1) := by decide +kernel
theorem dX3_readNumber_111 : decode cX3_readNumber 111 = .ok (.invokestatic 83, 3) := by decide +kernel
theorem dX3_readNumber_114 : decode cX3_readNumber 114 = .ok (.ifCond .ne 6, 3) := by decide +kernel
theorem dX3_readNumber_117 : decode cX3_readNumber 117 = .ok (.goto 22, 3) := by decide +kernel
theorem dX3_readNumber_120 : decode cX3_readNumber 120 = .ok (.lload 7, 2) := by decide +kernel
theorem dX3_readNumber_122 : decode cX3_readNumber 122 = .ok (.lstore_n 3, 1) := by decide +kernel
theorem dX3_readNumber_123 : decode cX3_readNumber 123 = .ok (.iinc 5 1, 3) := by decide +kernel
theorem dX3_readNumber_126 : decode cX3_readNumber 126 = .ok (.aload_n 0, 1) := by decide +kernel
theorem dX3_readNumber_127 : decode cX3_readNumber 127 = .ok (.dup, 1) := by decide +kernel
theorem dX3_readNumber_128 : decode cX3_readNumber 128 = .ok (.getfield 32, 3) := by decide +kernel
theorem dX3_readNumber_131 : decode cX3_readNumber 131 = .ok (.iconst 1, 1) := by decide +kernel
theorem dX3_readNumber_132 : decode cX3_readNumber 132 = .ok (.iadd, 1) := by decide +kernel
theorem dX3_readNumber_133 : decode cX3_readNumber 133 = .ok (.putfield 32, 3) := by decide +kernel
theorem dX3_readNumber_136 : decode cX3_readNumber 136 = .ok (.goto (-107), 3) := by decide +kernel
theorem dX3_readNumber_139 : decode cX3_readNumber 139 = .ok (.aload_n 0, 1) := by decide +kernel
theorem dX3_readNumber_140 : decode cX3_readNumber 140 = .ok (.iload_n 1, 1) := by decide +kernel
theorem dX3_readNumber_141 : decode cX3_readNumber 141 = .ok (.lload_n 3, 1) := by decide +kernel
theorem dX3_readNumber_142 : decode cX3_readNumber 142 = .ok (.invokevirtual 65, 3) := by decide +kernel
theorem dX3_readNumber_145 : decode cX3_readNumber 145 = .ok (.iload 5, 2) := by decide +kernel
theorem dX3_readNumber_147 : decode cX3_readNumber 147 = .ok (.ifCond .le 7, 3) := by decide +kernel
theorem dX3_readNumber_150 : decode cX3_readNumber 150 = .ok (.iconst 1, 1) := by decide +kernel
theorem dX3_readNumber_151 : decode cX3_readNumber 151 = .ok (.goto 4, 3) := by decide +kernel
theorem dX3_readNumber_154 : decode cX3_readNumber 154 = .ok (.iconst 0, 1) := by decide +kernel
theorem dX3_readNumber_155 : decode cX3_readNumber 155 = .ok (.ireturn, 1) := by decide +kernel
def fX3_readNumber_b139 (v1 : Int32) (v3 : Int64) (v5 : Int32) (μ : Mm) : Option (Int32 × Mm) := ((fX3_keep v1 v3 μ).bind fun μ142 => (if v5 ≤ 0 then some ((0 : Int32), μ142) else some ((1 : Int32), μ142)))
def fX3_readNumber_b101 (k29 : Int32 → Int32 → Int64 → Int32 → Mm → Option (Int32 × Mm)) (v1 : Int32) (v2 : Int32) (v3 : Int64) (v5 : Int32) (v7 : Int64) (s0 : Int32) (μ : Mm) : Option (Int32 × Mm) := (if s0 = 0 then ((fX2_isBetween v7 v1).bind fun r111 => (if r111 = 0 then fX3_readNumber_b139 v1 v3 v5 μ else k29 v1 v2 v7 (v5 + (1 : Int32)) (wI μ 1 6 ((μ.1 1 6) + (1 : Int32))))) else fX3_readNumber_b139 v1 v3 v5 μ)
def fX3_readNumber_b100 (k29 : Int32 → Int32 → Int64 → Int32 → Mm → Option (Int32 × Mm)) (v1 : Int32) (v2 : Int32) (v3 : Int64) (v5 : Int32) (v7 : Int64) (μ : Mm) : Option (Int32 × Mm) := fX3_readNumber_b101 k29 v1 v2 v3 v5 v7 (0 : Int32) μ
def fX3_readNumber_b96 (k29 : Int32 → Int32 → Int64 → Int32 → Mm → Option (Int32 × Mm)) (v1 : Int32) (v2 : Int32) (v3 : Int64) (v5 : Int32) (v7 : Int64) (μ : Mm) : Option (Int32 × Mm) := fX3_readNumber_b101 k29 v1 v2 v3 v5 v7 (1 : Int32) μ
def fX3_readNumber_b72 (k29 : Int32 → Int32 → Int64 → Int32 → Mm → Option (Int32 × Mm)) (v1 : Int32) (v2 : Int32) (v3 : Int64) (v5 : Int32) (v6 : Int32) (s0 : Int32) (s1 : Int64) (μ : Mm) : Option (Int32 × Mm) := (if v3 = (0 : Int64) then (if 0 < v5 then fX3_readNumber_b96 k29 v1 v2 v3 v5 (s1 + (Int32.toInt64 s0)) μ else (if v2 = 0 then fX3_readNumber_b100 k29 v1 v2 v3 v5 (s1 + (Int32.toInt64 s0)) μ else (if v6 = 0 then fX3_readNumber_b96 k29 v1 v2 v3 v5 (s1 + (Int32.toInt64 s0)) μ else fX3_readNumber_b100 k29 v1 v2 v3 v5 (s1 + (Int32.toInt64 s0)) μ))) else fX3_readNumber_b100 k29 v1 v2 v3 v5 (s1 + (Int32.toInt64 s0)) μ)
def fX3_readNumber_b29 : Nat → Int32 → Int32 → Int64 → Int32 → Mm → Option (Int32 × Mm)
  | 0, _, _, _, _, _ => none
  | n + 1, v1, v2, v3, v5, μ => (if (9 : Int32) ≤ v5 then fX3_readNumber_b139 v1 v3 v5 μ else ((fX3_letter μ).bind fun r37 => ((fX3_isDigit r37).bind fun r40 => (if r40 = 0 then fX3_readNumber_b139 v1 v3 v5 μ else ((fX3_letter μ).bind fun r47 => (if v2 = 0 then fX3_readNumber_b72 (fX3_readNumber_b29 n) v1 v2 v3 v5 (r47 - (48 : Int32)) (r47 - (48 : Int32)) (v3 * (10 : Int64)) μ else fX3_readNumber_b72 (fX3_readNumber_b29 n) v1 v2 v3 v5 (r47 - (48 : Int32)) (-(r47 - (48 : Int32))) (v3 * (10 : Int64)) μ))))))
def fX3_readNumber_b23 (v1 : Int32) (s0 : Int32) (μ : Mm) : Option (Int32 × Mm) := fX3_readNumber_b29 100 v1 s0 (0 : Int64) (0 : Int32) μ
def fX3_readNumber_b22 (v1 : Int32) (μ : Mm) : Option (Int32 × Mm) := fX3_readNumber_b23 v1 (0 : Int32) μ
def fX3_readNumber (p1 : Int32) (μ : Mm) : Option (Int32 × Mm) := ((fX2_lowest p1).bind fun r1 => (if (0 : Int64) ≤ r1 then fX3_readNumber_b22 p1 μ else (bnd (fX3_skip (45 : Int32) μ) fun r12 μ12 => (if r12 = 0 then fX3_readNumber_b22 p1 μ12 else fX3_readNumber_b23 p1 (1 : Int32) μ12))))
set_option maxRecDepth 100000 in
set_option maxHeartbeats 4000000 in
theorem kX3_readNumber (l : Launch) (ε : Ev) (p1 : Int32) (μ : Mm) (out : (Int32 × Mm)) (hf : fX3_readNumber p1 μ = some out) : Sp l ε layX yX3_readNumber cX3_readNumber 10 (some .boolean) 2 [.ref (ea ε 1), .int p1] (some (.int out.1)) μ out.2 := by
  refine Sp.of [(0, .ref (ea ε 1)), (1, .int p1)] rfl (by decide +kernel) (Nat.le_of_ble_eq_true rfl) ?_
  intro κ hκ C E hQ
  subst hκ
  replace C : Cf κ cX3_readNumber 10 RX3 (some .boolean) 2 := C
  have b139 : ∀ (v1 : Int32) (v3 : Int64) (v5 : Int32) (μ : Mm) , fX3_readNumber_b139 v1 v3 v5 μ = some out → G κ (Vw κ ε layX μ) 10 139 [(0, .ref (ea ε 1)), (1, .int v1), (3, .long v3), (5, .int v5)] [] := by
    intro v1 v3 v5 μ hf
    refine g_aload_n (pc := 139) (i := 0) (j := 0) C dX3_readNumber_139 rfl rfl ?_
    refine g_iload_n (pc := 140) (i := 1) (j := 1) C dX3_readNumber_140 rfl rfl ?_
    refine g_lload_n (pc := 141) (i := 3) (j := 2) C dX3_readNumber_141 rfl rfl ?_
    refine g_cwv (pc := 142) (st := []) C E layX_1 lkX3_65 (As := [.int v1, .long v3]) rfl (fun out h => kX3_keep (kl κ) ε v1 v3 μ out h) (by decide) rfl (Nat.le_of_ble_eq_true rfl) dX3_readNumber_142 hf (fun μ142 _ hf => ?_)
    refine g_iload (pc := 145) (i := 5) (j := 3) C dX3_readNumber_145 rfl ?_
    refine g_if_le (pc := 147) (tgt := 154) C dX3_readNumber_147 rfl hf (fun _ hf => ?_) (fun _ hf => ?_)
    · refine g_iconst (pc := 154) C dX3_readNumber_154 ci_0 ?_
      exact g_zret1w (pc := 155) C rfl hQ dX3_readNumber_155 hf
    · refine g_iconst (pc := 150) C dX3_readNumber_150 ci_1 ?_
      refine g_goto (pc := 151) (tgt := 155) C dX3_readNumber_151 rfl ?_
      exact g_zret1w (pc := 155) C rfl hQ dX3_readNumber_155 hf
  have b101 : ∀ (k29 : Int32 → Int32 → Int64 → Int32 → Mm → Option (Int32 × Mm)) (hk29 : ∀ (v1 : Int32) (v2 : Int32) (v3 : Int64) (v5 : Int32) (μ : Mm) , k29 v1 v2 v3 v5 μ = some out → G κ (Vw κ ε layX μ) 10 29 [(0, .ref (ea ε 1)), (1, .int v1), (2, .int v2), (3, .long v3), (5, .int v5)] []) (v1 : Int32) (v2 : Int32) (v3 : Int64) (v5 : Int32) (v7 : Int64) (s0 : Int32) (μ : Mm) , fX3_readNumber_b101 k29 v1 v2 v3 v5 v7 s0 μ = some out → G κ (Vw κ ε layX μ) 10 101 [(0, .ref (ea ε 1)), (1, .int v1), (2, .int v2), (3, .long v3), (5, .int v5), (7, .long v7)] [.int s0] := by
    intro k29 hk29 v1 v2 v3 v5 v7 s0 μ hf
    refine g_istore (pc := 101) (i := 9) (L' := [(9, .int s0), (0, .ref (ea ε 1)), (1, .int v1), (2, .int v2), (3, .long v3), (5, .int v5), (7, .long v7)]) C dX3_readNumber_101 (by decide) rfl ?_
    refine g_iload (pc := 103) (i := 9) (j := 0) C dX3_readNumber_103 rfl ?_
    refine g_if_ne (pc := 105) (tgt := 139) C dX3_readNumber_105 rfl hf (fun _ hf => ?_) (fun _ hf => ?_)
    · exact g_at [1, 2, 4, 5] rfl (b139 v1 v3 v5 μ hf)
    · refine g_lload (pc := 108) (i := 7) (j := 6) C dX3_readNumber_108 rfl ?_
      refine g_iload_n (pc := 110) (i := 1) (j := 2) C dX3_readNumber_110 rfl rfl ?_
      refine g_cni (pc := 111) (st := []) C lkX3_83 (As := [.long v7, .int v1]) rfl (fun out h => kX2_isBetween (kl κ) v7 v1 out h) (by decide) rfl (Nat.le_of_ble_eq_true rfl) dX3_readNumber_111 hf (fun r111 _ hf => ?_)
      refine g_if_ne (pc := 114) (tgt := 120) C dX3_readNumber_114 rfl hf (fun _ hf => ?_) (fun _ hf => ?_)
      · refine g_lload (pc := 120) (i := 7) (j := 6) C dX3_readNumber_120 rfl ?_
        refine g_lstore_n (pc := 122) (i := 3) (L' := [(3, .long v7), (9, .int s0), (0, .ref (ea ε 1)), (1, .int v1), (2, .int v2), (5, .int v5), (7, .long v7)]) C dX3_readNumber_122 rfl (by decide) rfl ?_
        refine g_iinc (pc := 123) (i := 5) (j := 5) (v := (v5 + (1 : Int32))) (L' := [(5, .int (v5 + (1 : Int32))), (3, .long v7), (9, .int s0), (0, .ref (ea ε 1)), (1, .int v1), (2, .int v2), (7, .long v7)]) C dX3_readNumber_123 rfl (cx_1 _) (by decide) rfl ?_
        refine g_aload_n (pc := 126) (i := 0) (j := 3) C dX3_readNumber_126 rfl rfl ?_
        refine g_dup (pc := 127) C dX3_readNumber_127 rfl ?_
        refine g_geti (pc := 128) C E fdX3_32 layX_1_6 dX3_readNumber_128 ?_
        refine g_iconst (pc := 131) C dX3_readNumber_131 ci_1 ?_
        refine g_iadd (pc := 132) C dX3_readNumber_132 ?_
        refine g_puti (pc := 133) C E fdX3_32 layX_1_6 dX3_readNumber_133 ?_
        refine g_goto (pc := 136) (tgt := 29) C dX3_readNumber_136 rfl ?_
        exact g_at [3, 4, 5, 1, 0] rfl (hk29 v1 v2 v7 (v5 + (1 : Int32)) (wI μ 1 6 ((μ.1 1 6) + (1 : Int32))) hf)
      · refine g_goto (pc := 117) (tgt := 139) C dX3_readNumber_117 rfl ?_
        exact g_at [1, 2, 4, 5] rfl (b139 v1 v3 v5 μ hf)
  have b100 : ∀ (k29 : Int32 → Int32 → Int64 → Int32 → Mm → Option (Int32 × Mm)) (hk29 : ∀ (v1 : Int32) (v2 : Int32) (v3 : Int64) (v5 : Int32) (μ : Mm) , k29 v1 v2 v3 v5 μ = some out → G κ (Vw κ ε layX μ) 10 29 [(0, .ref (ea ε 1)), (1, .int v1), (2, .int v2), (3, .long v3), (5, .int v5)] []) (v1 : Int32) (v2 : Int32) (v3 : Int64) (v5 : Int32) (v7 : Int64) (μ : Mm) , fX3_readNumber_b100 k29 v1 v2 v3 v5 v7 μ = some out → G κ (Vw κ ε layX μ) 10 100 [(0, .ref (ea ε 1)), (1, .int v1), (2, .int v2), (3, .long v3), (5, .int v5), (7, .long v7)] [] := by
    intro k29 hk29 v1 v2 v3 v5 v7 μ hf
    refine g_iconst (pc := 100) C dX3_readNumber_100 ci_0 ?_
    exact b101 k29 hk29 v1 v2 v3 v5 v7 (0 : Int32) μ hf
  have b96 : ∀ (k29 : Int32 → Int32 → Int64 → Int32 → Mm → Option (Int32 × Mm)) (hk29 : ∀ (v1 : Int32) (v2 : Int32) (v3 : Int64) (v5 : Int32) (μ : Mm) , k29 v1 v2 v3 v5 μ = some out → G κ (Vw κ ε layX μ) 10 29 [(0, .ref (ea ε 1)), (1, .int v1), (2, .int v2), (3, .long v3), (5, .int v5)] []) (v1 : Int32) (v2 : Int32) (v3 : Int64) (v5 : Int32) (v7 : Int64) (μ : Mm) , fX3_readNumber_b96 k29 v1 v2 v3 v5 v7 μ = some out → G κ (Vw κ ε layX μ) 10 96 [(0, .ref (ea ε 1)), (1, .int v1), (2, .int v2), (3, .long v3), (5, .int v5), (7, .long v7)] [] := by
    intro k29 hk29 v1 v2 v3 v5 v7 μ hf
    refine g_iconst (pc := 96) C dX3_readNumber_96 ci_1 ?_
    refine g_goto (pc := 97) (tgt := 101) C dX3_readNumber_97 rfl ?_
    exact b101 k29 hk29 v1 v2 v3 v5 v7 (1 : Int32) μ hf
  have b72 : ∀ (k29 : Int32 → Int32 → Int64 → Int32 → Mm → Option (Int32 × Mm)) (hk29 : ∀ (v1 : Int32) (v2 : Int32) (v3 : Int64) (v5 : Int32) (μ : Mm) , k29 v1 v2 v3 v5 μ = some out → G κ (Vw κ ε layX μ) 10 29 [(0, .ref (ea ε 1)), (1, .int v1), (2, .int v2), (3, .long v3), (5, .int v5)] []) (v1 : Int32) (v2 : Int32) (v3 : Int64) (v5 : Int32) (v6 : Int32) (s0 : Int32) (s1 : Int64) (μ : Mm) , fX3_readNumber_b72 k29 v1 v2 v3 v5 v6 s0 s1 μ = some out → G κ (Vw κ ε layX μ) 10 72 [(0, .ref (ea ε 1)), (1, .int v1), (2, .int v2), (3, .long v3), (5, .int v5), (6, .int v6)] [.int s0, .long s1] := by
    intro k29 hk29 v1 v2 v3 v5 v6 s0 s1 μ hf
    refine g_i2l (pc := 72) C dX3_readNumber_72 ?_
    refine g_ladd (pc := 73) C dX3_readNumber_73 ?_
    refine g_lstore (pc := 74) (i := 7) (L' := [(7, .long (s1 + (Int32.toInt64 s0))), (0, .ref (ea ε 1)), (1, .int v1), (2, .int v2), (3, .long v3), (5, .int v5), (6, .int v6)]) C dX3_readNumber_74 (by decide) rfl ?_
    refine g_lload_n (pc := 76) (i := 3) (j := 4) C dX3_readNumber_76 rfl rfl ?_
    refine g_lconst (pc := 77) C dX3_readNumber_77 cl_0 ?_
    refine g_lcmp_ne (pc := 78) (tgt := 100) C dX3_readNumber_78 dX3_readNumber_79 rfl hf (fun _ hf => ?_) (fun _ hf => ?_)
    · exact g_at [1, 2, 3, 4, 5, 0] rfl (b100 k29 hk29 v1 v2 v3 v5 (s1 + (Int32.toInt64 s0)) μ hf)
    · refine g_iload (pc := 82) (i := 5) (j := 5) C dX3_readNumber_82 rfl ?_
      refine g_if_gt (pc := 84) (tgt := 96) C dX3_readNumber_84 rfl hf (fun _ hf => ?_) (fun _ hf => ?_)
      · exact g_at [1, 2, 3, 4, 5, 0] rfl (b96 k29 hk29 v1 v2 v3 v5 (s1 + (Int32.toInt64 s0)) μ hf)
      · refine g_iload_n (pc := 87) (i := 2) (j := 3) C dX3_readNumber_87 rfl rfl ?_
        refine g_if_eq (pc := 88) (tgt := 100) C dX3_readNumber_88 rfl hf (fun _ hf => ?_) (fun _ hf => ?_)
        · exact g_at [1, 2, 3, 4, 5, 0] rfl (b100 k29 hk29 v1 v2 v3 v5 (s1 + (Int32.toInt64 s0)) μ hf)
        · refine g_iload (pc := 91) (i := 6) (j := 6) C dX3_readNumber_91 rfl ?_
          refine g_if_ne (pc := 93) (tgt := 100) C dX3_readNumber_93 rfl hf (fun _ hf => ?_) (fun _ hf => ?_)
          · exact g_at [1, 2, 3, 4, 5, 0] rfl (b100 k29 hk29 v1 v2 v3 v5 (s1 + (Int32.toInt64 s0)) μ hf)
          · exact g_at [1, 2, 3, 4, 5, 0] rfl (b96 k29 hk29 v1 v2 v3 v5 (s1 + (Int32.toInt64 s0)) μ hf)
  have b29 : ∀ (n : Nat) (v1 : Int32) (v2 : Int32) (v3 : Int64) (v5 : Int32) (μ : Mm) , fX3_readNumber_b29 n v1 v2 v3 v5 μ = some out → G κ (Vw κ ε layX μ) 10 29 [(0, .ref (ea ε 1)), (1, .int v1), (2, .int v2), (3, .long v3), (5, .int v5)] [] := by
    intro n
    induction n with
    | zero => intro v1 v2 v3 v5 μ hf; exact none_ne hf
    | succ n ih =>
      intro v1 v2 v3 v5 μ hf
      refine g_iload (pc := 29) (i := 5) (j := 4) C dX3_readNumber_29 rfl ?_
      refine g_bipush (pc := 31) C dX3_readNumber_31 cb_9 ?_
      refine g_icmp_ge (pc := 33) (tgt := 139) C dX3_readNumber_33 rfl hf (fun _ hf => ?_) (fun _ hf => ?_)
      · exact g_at [0, 1, 3, 4] rfl (b139 v1 v3 v5 μ hf)
      · refine g_aload_n (pc := 36) (i := 0) (j := 0) C dX3_readNumber_36 rfl rfl ?_
        refine g_cri (pc := 37) (st := []) C E layX_1 lkX3_35 (As := []) rfl (fun out h => kX3_letter (kl κ) ε μ out h) (by decide) rfl (Nat.le_of_ble_eq_true rfl) dX3_readNumber_37 hf (fun r37 _ hf => ?_)
        refine g_cpi (pc := 40) (st := []) C lkX3_78 (As := [.int r37]) rfl (fun out h => kX3_isDigit (kl κ) r37 out h) (by decide) rfl (Nat.le_of_ble_eq_true rfl) dX3_readNumber_40 hf (fun r40 _ hf => ?_)
        refine g_if_eq (pc := 43) (tgt := 139) C dX3_readNumber_43 rfl hf (fun _ hf => ?_) (fun _ hf => ?_)
        · exact g_at [0, 1, 3, 4] rfl (b139 v1 v3 v5 μ hf)
        · refine g_aload_n (pc := 46) (i := 0) (j := 0) C dX3_readNumber_46 rfl rfl ?_
          refine g_cri (pc := 47) (st := []) C E layX_1 lkX3_35 (As := []) rfl (fun out h => kX3_letter (kl κ) ε μ out h) (by decide) rfl (Nat.le_of_ble_eq_true rfl) dX3_readNumber_47 hf (fun r47 _ hf => ?_)
          refine g_bipush (pc := 50) C dX3_readNumber_50 cb_48 ?_
          refine g_isub (pc := 52) C dX3_readNumber_52 ?_
          refine g_istore (pc := 53) (i := 6) (L' := [(6, .int (r47 - (48 : Int32))), (0, .ref (ea ε 1)), (1, .int v1), (2, .int v2), (3, .long v3), (5, .int v5)]) C dX3_readNumber_53 (by decide) rfl ?_
          refine g_lload_n (pc := 55) (i := 3) (j := 4) C dX3_readNumber_55 rfl rfl ?_
          refine g_ldc2 (pc := 56) C cnX3_81 dX3_readNumber_56 ?_
          refine g_lmul (pc := 59) C dX3_readNumber_59 ?_
          refine g_iload_n (pc := 60) (i := 2) (j := 3) C dX3_readNumber_60 rfl rfl ?_
          refine g_if_eq (pc := 61) (tgt := 70) C dX3_readNumber_61 rfl hf (fun _ hf => ?_) (fun _ hf => ?_)
          · refine g_iload (pc := 70) (i := 6) (j := 0) C dX3_readNumber_70 rfl ?_
            exact g_at [1, 2, 3, 4, 5, 0] rfl (b72 (fX3_readNumber_b29 n) ih v1 v2 v3 v5 (r47 - (48 : Int32)) (r47 - (48 : Int32)) (v3 * (10 : Int64)) μ hf)
          · refine g_iload (pc := 64) (i := 6) (j := 0) C dX3_readNumber_64 rfl ?_
            refine g_ineg (pc := 66) C dX3_readNumber_66 ?_
            refine g_goto (pc := 67) (tgt := 72) C dX3_readNumber_67 rfl ?_
            exact g_at [1, 2, 3, 4, 5, 0] rfl (b72 (fX3_readNumber_b29 n) ih v1 v2 v3 v5 (r47 - (48 : Int32)) (-(r47 - (48 : Int32))) (v3 * (10 : Int64)) μ hf)
  have b23 : ∀ (v1 : Int32) (s0 : Int32) (μ : Mm) , fX3_readNumber_b23 v1 s0 μ = some out → G κ (Vw κ ε layX μ) 10 23 [(0, .ref (ea ε 1)), (1, .int v1)] [.int s0] := by
    intro v1 s0 μ hf
    refine g_istore_n (pc := 23) (i := 2) (L' := [(2, .int s0), (0, .ref (ea ε 1)), (1, .int v1)]) C dX3_readNumber_23 rfl (by decide) rfl ?_
    refine g_lconst (pc := 24) C dX3_readNumber_24 cl_0 ?_
    refine g_lstore_n (pc := 25) (i := 3) (L' := [(3, .long (0 : Int64)), (2, .int s0), (0, .ref (ea ε 1)), (1, .int v1)]) C dX3_readNumber_25 rfl (by decide) rfl ?_
    refine g_iconst (pc := 26) C dX3_readNumber_26 ci_0 ?_
    refine g_istore (pc := 27) (i := 5) (L' := [(5, .int (0 : Int32)), (3, .long (0 : Int64)), (2, .int s0), (0, .ref (ea ε 1)), (1, .int v1)]) C dX3_readNumber_27 (by decide) rfl ?_
    exact g_at [3, 4, 2, 1, 0] rfl (b29 100 v1 s0 (0 : Int64) (0 : Int32) μ hf)
  have b22 : ∀ (v1 : Int32) (μ : Mm) , fX3_readNumber_b22 v1 μ = some out → G κ (Vw κ ε layX μ) 10 22 [(0, .ref (ea ε 1)), (1, .int v1)] [] := by
    intro v1 μ hf
    refine g_iconst (pc := 22) C dX3_readNumber_22 ci_0 ?_
    exact b23 v1 (0 : Int32) μ hf
  refine g_iload_n (pc := 0) (i := 1) (j := 1) C dX3_readNumber_0 rfl rfl ?_
  refine g_cpl (pc := 1) (st := []) C lkX3_72 (As := [.int p1]) rfl (fun out h => kX2_lowest (kl κ) p1 out h) (by decide) rfl (Nat.le_of_ble_eq_true rfl) dX3_readNumber_1 hf (fun r1 _ hf => ?_)
  refine g_lconst (pc := 4) C dX3_readNumber_4 cl_0 ?_
  refine g_lcmp_ge (pc := 5) (tgt := 22) C dX3_readNumber_5 dX3_readNumber_6 rfl hf (fun _ hf => ?_) (fun _ hf => ?_)
  · exact b22 p1 μ hf
  · refine g_aload_n (pc := 9) (i := 0) (j := 0) C dX3_readNumber_9 rfl rfl ?_
    refine g_bipush (pc := 10) C dX3_readNumber_10 cb_45 ?_
    refine g_cwi (pc := 12) (st := []) C E layX_1 lkX3_43 (As := [.int (45 : Int32)]) rfl (fun out h => kX3_skip (kl κ) ε (45 : Int32) μ out h) (by decide) rfl (Nat.le_of_ble_eq_true rfl) dX3_readNumber_12 hf (fun r12 μ12 _ hf => ?_)
    refine g_if_eq (pc := 15) (tgt := 22) C dX3_readNumber_15 rfl hf (fun _ hf => ?_) (fun _ hf => ?_)
    · exact b22 p1 μ12 hf
    · refine g_iconst (pc := 18) C dX3_readNumber_18 ci_1 ?_
      refine g_goto (pc := 19) (tgt := 23) C dX3_readNumber_19 rfl ?_
      exact b23 p1 (1 : Int32) μ12 hf
theorem dX3_readElement_0 : decode cX3_readElement 0 = .ok (.aload_n 0, 1) := by decide +kernel
theorem dX3_readElement_1 : decode cX3_readElement 1 = .ok (.getfield 19, 3) := by decide +kernel
theorem dX3_readElement_4 : decode cX3_readElement 4 = .ok (.invokestatic 61, 3) := by decide +kernel
theorem dX3_readElement_7 : decode cX3_readElement 7 = .ok (.ifCond .ne 21, 3) := by decide +kernel
theorem dX3_readElement_10 : decode cX3_readElement 10 = .ok (.aload_n 0, 1) := by decide +kernel
theorem dX3_readElement_11 : decode cX3_readElement 11 = .ok (.bipush 42, 2) := by decide +kernel
theorem dX3_readElement_13 : decode cX3_readElement 13 = .ok (.invokevirtual 43, 3) := by decide +kernel
theorem dX3_readElement_16 : decode cX3_readElement 16 = .ok (.ifCond .eq 12, 3) := by decide +kernel
theorem dX3_readElement_19 : decode cX3_readElement 19 = .ok (.aload_n 0, 1) := by decide +kernel
theorem dX3_readElement_20 : decode cX3_readElement 20 = .ok (.bipush (-9), 2) := by decide +kernel
theorem dX3_readElement_22 : decode cX3_readElement 22 = .ok (.lconst 0, 1) := by decide +kernel
theorem dX3_readElement_23 : decode cX3_readElement 23 = .ok (.invokevirtual 65, 3) := by decide +kernel
theorem dX3_readElement_26 : decode cX3_readElement 26 = .ok (.iconst 1, 1) := by decide +kernel
theorem dX3_readElement_27 : decode cX3_readElement 27 = .ok (.ireturn, 1) := by decide +kernel
theorem dX3_readElement_28 : decode cX3_readElement 28 = .ok (.aload_n 0, 1) := by decide +kernel
theorem dX3_readElement_29 : decode cX3_readElement 29 = .ok (.getfield 19, 3) := by decide +kernel
theorem dX3_readElement_32 : decode cX3_readElement 32 = .ok (.bipush 12, 2) := by decide +kernel
theorem dX3_readElement_34 : decode cX3_readElement 34 = .ok (.if_icmp .eq 25, 3) := by decide +kernel
theorem dX3_readElement_37 : decode cX3_readElement 37 = .ok (.aload_n 0, 1) := by decide +kernel
theorem dX3_readElement_38 : decode cX3_readElement 38 = .ok (.aload_n 0, 1) := by decide +kernel
theorem dX3_readElement_39 : decode cX3_readElement 39 = .ok (.getfield 19, 3) := by decide +kernel
theorem dX3_readElement_42 : decode cX3_readElement 42 = .ok (.bipush 11, 2) := by decide +kernel
theorem dX3_readElement_44 : decode cX3_readElement 44 = .ok (.if_icmp .ne 7, 3) := by decide +kernel
theorem dX3_readElement_47 : decode cX3_readElement 47 = .ok (.iconst 4, 1) := by decide +kernel
theorem dX3_readElement_48 : decode cX3_readElement 48 = .ok (.goto 7, 3) := by decide +kernel
theorem dX3_readElement_51 : decode cX3_readElement 51 = .ok (.aload_n 0, 1) := by decide +kernel
theorem dX3_readElement_52 : decode cX3_readElement 52 = .ok (.getfield 19, 3) := by decide +kernel
theorem dX3_readElement_55 : decode cX3_readElement 55 = .ok (.invokevirtual 69, 3) := by decide +kernel
theorem dX3_readElement_58 : decode cX3_readElement 58 = .ok (.ireturn, 1) := by decide +kernel
theorem dX3_readElement_59 : decode cX3_readElement 59 = .ok (.aload_n 0, 1) := by decide +kernel
theorem dX3_readElement_60 : decode cX3_readElement 60 = .ok (.invokevirtual 35, 3) := by decide +kernel
theorem dX3_readElement_63 : decode cX3_readElement 63 = .ok (.bipush 116, 2) := by decide +kernel
theorem dX3_readElement_65 : decode cX3_readElement 65 = .ok (.if_icmp .ne 8, 3) := by decide +kernel
theorem dX3_readElement_68 : decode cX3_readElement 68 = .ok (.bipush 10, 2) := by decide +kernel
theorem dX3_readElement_70 : decode cX3_readElement 70 = .ok (.goto 10, 3) := by decide +kernel
theorem dX3_readElement_73 : decode cX3_readElement 73 = .ok (.aload_n 0, 1) := by decide +kernel
theorem dX3_readElement_74 : decode cX3_readElement 74 = .ok (.invokevirtual 35, 3) := by decide +kernel
theorem dX3_readElement_77 : decode cX3_readElement 77 = .ok (.invokestatic 51, 3) := by decide +kernel
theorem dX3_readElement_80 : decode cX3_readElement 80 = .ok (.istore_n 1, 1) := by decide +kernel
theorem dX3_readElement_81 : decode cX3_readElement 81 = .ok (.iload_n 1, 1) := by decide +kernel
theorem dX3_readElement_82 : decode cX3_readElement 82 = .ok (.bipush (-9), 2) := by decide +kernel
theorem dX3_readElement_84 : decode cX3_readElement 84 = .ok (.if_icmp .ne 5, 3) := by decide +kernel
theorem dX3_readElement_87 : decode cX3_readElement 87 = .ok (.iconst 0, 1) := by decide +kernel
theorem dX3_readElement_88 : decode cX3_readElement 88 = .ok (.ireturn, 1) := by decide +kernel
theorem dX3_readElement_89 : decode cX3_readElement 89 = .ok (.aload_n 0, 1) := by decide +kernel
theorem dX3_readElement_90 : decode cX3_readElement 90 = .ok (.dup, 1) := by decide +kernel
theorem dX3_readElement_91 : decode cX3_readElement 91 = .ok (.getfield 32, 3) := by decide +kernel
theorem dX3_readElement_94 : decode cX3_readElement 94 = .ok (.iconst 1, 1) := by decide +kernel
theorem dX3_readElement_95 : decode cX3_readElement 95 = .ok (.iadd, 1) := by decide +kernel
theorem dX3_readElement_96 : decode cX3_readElement 96 = .ok (.putfield 32, 3) := by decide +kernel
theorem dX3_readElement_99 : decode cX3_readElement 99 = .ok (.aload_n 0, 1) := by decide +kernel
theorem dX3_readElement_100 : decode cX3_readElement 100 = .ok (.iload_n 1, 1) := by decide +kernel
theorem dX3_readElement_101 : decode cX3_readElement 101 = .ok (.invokevirtual 69, 3) := by decide +kernel
theorem dX3_readElement_104 : decode cX3_readElement 104 = .ok (.ireturn, 1) := by decide +kernel
def fX3_readElement_b80 (s0 : Int32) (μ : Mm) : Option (Int32 × Mm) := (if s0 = (-9 : Int32) then some ((0 : Int32), μ) else (bnd (fX3_readNumber s0 (wI μ 1 6 ((μ.1 1 6) + (1 : Int32)))) fun r101 μ101 => (if rbz r101 = true then some (r101, μ101) else none)))
def fX3_readElement_b55 (s0 : Int32) (μ : Mm) : Option (Int32 × Mm) := (bnd (fX3_readNumber s0 μ) fun r55 μ55 => (if rbz r55 = true then some (r55, μ55) else none))
def fX3_readElement_b28  (μ : Mm) : Option (Int32 × Mm) := (if (μ.1 1 2) = (12 : Int32) then ((fX3_letter μ).bind fun r60 => (if r60 = (116 : Int32) then fX3_readElement_b80 (10 : Int32) μ else ((fX3_letter μ).bind fun r74 => ((fX3_primitiveOf r74 μ).bind fun r77 => fX3_readElement_b80 r77 μ)))) else (if (μ.1 1 2) = (11 : Int32) then fX3_readElement_b55 (4 : Int32) μ else fX3_readElement_b55 (μ.1 1 2) μ))
def fX3_readElement  (μ : Mm) : Option (Int32 × Mm) := ((fX7_isPrimitive (μ.1 1 2)).bind fun r4 => (if r4 = 0 then (bnd (fX3_skip (42 : Int32) μ) fun r13 μ13 => (if r13 = 0 then fX3_readElement_b28 μ13 else ((fX3_keep (-9 : Int32) (0 : Int64) μ13).bind fun μ23 => some ((1 : Int32), μ23)))) else fX3_readElement_b28 μ))
set_option maxRecDepth 100000 in
set_option maxHeartbeats 4000000 in
theorem kX3_readElement (l : Launch) (ε : Ev)  (μ : Mm) (out : (Int32 × Mm)) (hf : fX3_readElement μ = some out) : Sp l ε layX yX3_readElement cX3_readElement 2 (some .boolean) 5 [.ref (ea ε 1)] (some (.int out.1)) μ out.2 := by
  refine Sp.of [(0, .ref (ea ε 1))] rfl (by decide +kernel) (Nat.le_of_ble_eq_true rfl) ?_
  intro κ hκ C E hQ
  subst hκ
  replace C : Cf κ cX3_readElement 2 RX3 (some .boolean) 5 := C
  have b80 : ∀ (s0 : Int32) (μ : Mm) , fX3_readElement_b80 s0 μ = some out → G κ (Vw κ ε layX μ) 2 80 [(0, .ref (ea ε 1))] [.int s0] := by
    intro s0 μ hf
    refine g_istore_n (pc := 80) (i := 1) (L' := [(1, .int s0), (0, .ref (ea ε 1))]) C dX3_readElement_80 rfl (by decide) rfl ?_
    refine g_iload_n (pc := 81) (i := 1) (j := 0) C dX3_readElement_81 rfl rfl ?_
    refine g_bipush (pc := 82) C dX3_readElement_82 cb_m9 ?_
    refine g_icmp_ne (pc := 84) (tgt := 89) C dX3_readElement_84 rfl hf (fun _ hf => ?_) (fun _ hf => ?_)
    · refine g_aload_n (pc := 89) (i := 0) (j := 1) C dX3_readElement_89 rfl rfl ?_
      refine g_dup (pc := 90) C dX3_readElement_90 rfl ?_
      refine g_geti (pc := 91) C E fdX3_32 layX_1_6 dX3_readElement_91 ?_
      refine g_iconst (pc := 94) C dX3_readElement_94 ci_1 ?_
      refine g_iadd (pc := 95) C dX3_readElement_95 ?_
      refine g_puti (pc := 96) C E fdX3_32 layX_1_6 dX3_readElement_96 ?_
      refine g_aload_n (pc := 99) (i := 0) (j := 1) C dX3_readElement_99 rfl rfl ?_
      refine g_iload_n (pc := 100) (i := 1) (j := 0) C dX3_readElement_100 rfl rfl ?_
      refine g_cwi (pc := 101) (st := []) C E layX_1 lkX3_69 (As := [.int s0]) rfl (fun out h => kX3_readNumber (kl κ) ε s0 (wI μ 1 6 ((μ.1 1 6) + (1 : Int32))) out h) (by decide) rfl (Nat.le_of_ble_eq_true rfl) dX3_readElement_101 hf (fun r101 μ101 _ hf => ?_)
      exact g_zretw (pc := 104) C hQ dX3_readElement_104 hf
    · refine g_iconst (pc := 87) C dX3_readElement_87 ci_0 ?_
      exact g_zret1w (pc := 88) C rfl hQ dX3_readElement_88 hf
  have b55 : ∀ (s0 : Int32) (μ : Mm) , fX3_readElement_b55 s0 μ = some out → G κ (Vw κ ε layX μ) 2 55 [] [.int s0, .ref (ea ε 1)] := by
    intro s0 μ hf
    refine g_cwi (pc := 55) (st := []) C E layX_1 lkX3_69 (As := [.int s0]) rfl (fun out h => kX3_readNumber (kl κ) ε s0 μ out h) (by decide) rfl (Nat.le_of_ble_eq_true rfl) dX3_readElement_55 hf (fun r55 μ55 _ hf => ?_)
    exact g_zretw (pc := 58) C hQ dX3_readElement_58 hf
  have b28 : ∀ (μ : Mm) , fX3_readElement_b28 μ = some out → G κ (Vw κ ε layX μ) 2 28 [(0, .ref (ea ε 1))] [] := by
    intro μ hf
    refine g_aload_n (pc := 28) (i := 0) (j := 0) C dX3_readElement_28 rfl rfl ?_
    refine g_geti (pc := 29) C E fdX3_19 layX_1_2 dX3_readElement_29 ?_
    refine g_bipush (pc := 32) C dX3_readElement_32 cb_12 ?_
    refine g_icmp_eq (pc := 34) (tgt := 59) C dX3_readElement_34 rfl hf (fun _ hf => ?_) (fun _ hf => ?_)
    · refine g_aload_n (pc := 59) (i := 0) (j := 0) C dX3_readElement_59 rfl rfl ?_
      refine g_cri (pc := 60) (st := []) C E layX_1 lkX3_35 (As := []) rfl (fun out h => kX3_letter (kl κ) ε μ out h) (by decide) rfl (Nat.le_of_ble_eq_true rfl) dX3_readElement_60 hf (fun r60 _ hf => ?_)
      refine g_bipush (pc := 63) C dX3_readElement_63 cb_116 ?_
      refine g_icmp_ne (pc := 65) (tgt := 73) C dX3_readElement_65 rfl hf (fun _ hf => ?_) (fun _ hf => ?_)
      · refine g_aload_n (pc := 73) (i := 0) (j := 0) C dX3_readElement_73 rfl rfl ?_
        refine g_cri (pc := 74) (st := []) C E layX_1 lkX3_35 (As := []) rfl (fun out h => kX3_letter (kl κ) ε μ out h) (by decide) rfl (Nat.le_of_ble_eq_true rfl) dX3_readElement_74 hf (fun r74 _ hf => ?_)
        refine g_cswi (pc := 77) (st := []) C E lkX3_51 (As := [.int r74]) rfl (fun out h => kX3_primitiveOf (kl κ) ε r74 μ out h) (by decide) rfl (Nat.le_of_ble_eq_true rfl) dX3_readElement_77 hf (fun r77 _ hf => ?_)
        exact b80 r77 μ hf
      · refine g_bipush (pc := 68) C dX3_readElement_68 cb_10 ?_
        refine g_goto (pc := 70) (tgt := 80) C dX3_readElement_70 rfl ?_
        exact b80 (10 : Int32) μ hf
    · refine g_aload_n (pc := 37) (i := 0) (j := 0) C dX3_readElement_37 rfl rfl ?_
      refine g_aload_n (pc := 38) (i := 0) (j := 0) C dX3_readElement_38 rfl rfl ?_
      refine g_geti (pc := 39) C E fdX3_19 layX_1_2 dX3_readElement_39 ?_
      refine g_bipush (pc := 42) C dX3_readElement_42 cb_11 ?_
      refine g_icmp_ne (pc := 44) (tgt := 51) C dX3_readElement_44 rfl hf (fun _ hf => ?_) (fun _ hf => ?_)
      · refine g_aload_n (pc := 51) (i := 0) (j := 0) C dX3_readElement_51 rfl rfl ?_
        refine g_geti (pc := 52) C E fdX3_19 layX_1_2 dX3_readElement_52 ?_
        exact g_at [] rfl (b55 (μ.1 1 2) μ hf)
      · refine g_iconst (pc := 47) C dX3_readElement_47 ci_4 ?_
        refine g_goto (pc := 48) (tgt := 55) C dX3_readElement_48 rfl ?_
        exact g_at [] rfl (b55 (4 : Int32) μ hf)
  refine g_aload_n (pc := 0) (i := 0) (j := 0) C dX3_readElement_0 rfl rfl ?_
  refine g_geti (pc := 1) C E fdX3_19 layX_1_2 dX3_readElement_1 ?_
  refine g_cni (pc := 4) (st := []) C lkX3_61 (As := [.int (μ.1 1 2)]) rfl (fun out h => kX7_isPrimitive (kl κ) (μ.1 1 2) out h) (by decide) rfl (Nat.le_of_ble_eq_true rfl) dX3_readElement_4 hf (fun r4 _ hf => ?_)
  refine g_if_ne (pc := 7) (tgt := 28) C dX3_readElement_7 rfl hf (fun _ hf => ?_) (fun _ hf => ?_)
  · exact b28 μ hf
  · refine g_aload_n (pc := 10) (i := 0) (j := 0) C dX3_readElement_10 rfl rfl ?_
    refine g_bipush (pc := 11) C dX3_readElement_11 cb_42 ?_
    refine g_cwi (pc := 13) (st := []) C E layX_1 lkX3_43 (As := [.int (42 : Int32)]) rfl (fun out h => kX3_skip (kl κ) ε (42 : Int32) μ out h) (by decide) rfl (Nat.le_of_ble_eq_true rfl) dX3_readElement_13 hf (fun r13 μ13 _ hf => ?_)
    refine g_if_eq (pc := 16) (tgt := 28) C dX3_readElement_16 rfl hf (fun _ hf => ?_) (fun _ hf => ?_)
    · exact b28 μ13 hf
    · refine g_aload_n (pc := 19) (i := 0) (j := 0) C dX3_readElement_19 rfl rfl ?_
      refine g_bipush (pc := 20) C dX3_readElement_20 cb_m9 ?_
      refine g_lconst (pc := 22) C dX3_readElement_22 cl_0 ?_
      refine g_cwv (pc := 23) (st := []) C E layX_1 lkX3_65 (As := [.int (-9 : Int32), .long (0 : Int64)]) rfl (fun out h => kX3_keep (kl κ) ε (-9 : Int32) (0 : Int64) μ13 out h) (by decide) rfl (Nat.le_of_ble_eq_true rfl) dX3_readElement_23 hf (fun μ23 _ hf => ?_)
      refine g_iconst (pc := 26) C dX3_readElement_26 ci_1 ?_
      exact g_zret1w (pc := 27) C rfl hQ dX3_readElement_27 hf
theorem dX3_scan_0 : decode cX3_scan 0 = .ok (.aload_n 0, 1) := by decide +kernel
theorem dX3_scan_1 : decode cX3_scan 1 = .ok (.iconst 0, 1) := by decide +kernel
theorem dX3_scan_2 : decode cX3_scan 2 = .ok (.putfield 32, 3) := by decide +kernel
theorem dX3_scan_5 : decode cX3_scan 5 = .ok (.aload_n 0, 1) := by decide +kernel
theorem dX3_scan_6 : decode cX3_scan 6 = .ok (.iconst 0, 1) := by decide +kernel
theorem dX3_scan_7 : decode cX3_scan 7 = .ok (.putfield 22, 3) := by decide +kernel
theorem dX3_scan_10 : decode cX3_scan 10 = .ok (.aload_n 0, 1) := by decide +kernel
theorem dX3_scan_11 : decode cX3_scan 11 = .ok (.aload_n 0, 1) := by decide +kernel
theorem dX3_scan_12 : decode cX3_scan 12 = .ok (.invokevirtual 35, 3) := by decide +kernel
theorem dX3_scan_15 : decode cX3_scan 15 = .ok (.invokestatic 39, 3) := by decide +kernel
theorem dX3_scan_18 : decode cX3_scan 18 = .ok (.putfield 19, 3) := by decide +kernel
theorem dX3_scan_21 : decode cX3_scan 21 = .ok (.aload_n 0, 1) := by decide +kernel
theorem dX3_scan_22 : decode cX3_scan 22 = .ok (.getfield 19, 3) := by decide +kernel
theorem dX3_scan_25 : decode cX3_scan 25 = .ok (.bipush (-9), 2) := by decide +kernel
theorem dX3_scan_27 : decode cX3_scan 27 = .ok (.if_icmp .ne 5, 3) := by decide +kernel
theorem dX3_scan_30 : decode cX3_scan 30 = .ok (.iconst 0, 1) := by decide +kernel
theorem dX3_scan_31 : decode cX3_scan 31 = .ok (.ireturn, 1) := by decide +kernel
theorem dX3_scan_32 : decode cX3_scan 32 = .ok (.aload_n 0, 1) := by decide +kernel
theorem dX3_scan_33 : decode cX3_scan 33 = .ok (.iconst 1, 1) := by decide +kernel
theorem dX3_scan_34 : decode cX3_scan 34 = .ok (.putfield 32, 3) := by decide +kernel
theorem dX3_scan_37 : decode cX3_scan 37 = .ok (.aload_n 0, 1) := by decide +kernel
theorem dX3_scan_38 : decode cX3_scan 38 = .ok (.getfield 22, 3) := by decide +kernel
theorem dX3_scan_41 : decode cX3_scan 41 = .ok (.bipush 6, 2) := by decide +kernel
theorem dX3_scan_43 : decode cX3_scan 43 = .ok (.if_icmp .ge 55, 3) := by decide +kernel
theorem dX3_scan_46 : decode cX3_scan 46 = .ok (.aload_n 0, 1) := by decide +kernel
theorem dX3_scan_47 : decode cX3_scan 47 = .ok (.getfield 32, 3) := by decide +kernel
theorem dX3_scan_50 : decode cX3_scan 50 = .ok (.aload_n 0, 1) := by decide +kernel
theorem dX3_scan_51 : decode cX3_scan 51 = .ok (.getfield 15, 3) := by decide +kernel
theorem dX3_scan_54 : decode cX3_scan 54 = .ok (.if_icmp .ge 44, 3) := by decide +kernel
theorem dX3_scan_57 : decode cX3_scan 57 = .ok (.aload_n 0, 1) := by decide +kernel
theorem dX3_scan_58 : decode cX3_scan 58 = .ok (.getfield 22, 3) := by decide +kernel
theorem dX3_scan_61 : decode cX3_scan 61 = .ok (.ifCond .le 12, 3) := by decide +kernel
theorem dX3_scan_64 : decode cX3_scan 64 = .ok (.aload_n 0, 1) := by decide +kernel
theorem dX3_scan_65 : decode cX3_scan 65 = .ok (.bipush 44, 2) := by decide +kernel
theorem dX3_scan_67 : decode cX3_scan 67 = .ok (.invokevirtual 43, 3) := by decide +kernel
theorem dX3_scan_70 : decode cX3_scan 70 = .ok (.ifCond .eq 10, 3) := by decide +kernel
theorem dX3_scan_73 : decode cX3_scan 73 = .ok (.aload_n 0, 1) := by decide +kernel
theorem dX3_scan_74 : decode cX3_scan 74 = .ok (.invokevirtual 47, 3) := by decide +kernel
theorem dX3_scan_77 : decode cX3_scan 77 = .ok (.ifCond .ne 8, 3) := by decide +kernel
theorem dX3_scan_80 : decode cX3_scan 80 = .ok (.aload_n 0, 1) := by decide +kernel
theorem dX3_scan_81 : decode cX3_scan 81 = .ok (.getfield 32, 3) := by decide +kernel
theorem dX3_scan_84 : decode cX3_scan 84 = .ok (.ireturn, 1) := by decide +kernel
theorem dX3_scan_85 : decode cX3_scan 85 = .ok (.aload_n 0, 1) := by decide +kernel
theorem dX3_scan_86 : decode cX3_scan 86 = .ok (.dup, 1) := by decide +kernel
theorem dX3_scan_87 : decode cX3_scan 87 = .ok (.getfield 22, 3) := by decide +kernel
theorem dX3_scan_90 : decode cX3_scan 90 = .ok (.iconst 1, 1) := by decide +kernel
theorem dX3_scan_91 : decode cX3_scan 91 = .ok (.iadd, 1) := by decide +kernel
theorem dX3_scan_92 : decode cX3_scan 92 = .ok (.putfield 22, 3) := by decide +kernel
theorem dX3_scan_95 : decode cX3_scan 95 = .ok (.goto (-58), 3) := by decide +kernel
theorem dX3_scan_98 : decode cX3_scan 98 = .ok (.aload_n 0, 1) := by decide +kernel
theorem dX3_scan_99 : decode cX3_scan 99 = .ok (.getfield 32, 3) := by decide +kernel
theorem dX3_scan_102 : decode cX3_scan 102 = .ok (.aload_n 0, 1) := by decide +kernel
theorem dX3_scan_103 : decode cX3_scan 103 = .ok (.getfield 15, 3) := by decide +kernel
theorem dX3_scan_106 : decode cX3_scan 106 = .ok (.if_icmp .ge 10, 3) := by decide +kernel
theorem dX3_scan_109 : decode cX3_scan 109 = .ok (.aload_n 0, 1) := by decide +kernel
theorem dX3_scan_110 : decode cX3_scan 110 = .ok (.getfield 32, 3) := by decide +kernel
theorem dX3_scan_113 : decode cX3_scan 113 = .ok (.goto 5, 3) := by decide +kernel
theorem dX3_scan_116 : decode cX3_scan 116 = .ok (.bipush (-9), 2) := by decide +kernel
theorem dX3_scan_118 : decode cX3_scan 118 = .ok (.ireturn, 1) := by decide +kernel
def fX3_scan_b98  (μ : Mm) : Option (Int32 × Mm) := (if (μ.1 1 1) ≤ (μ.1 1 6) then some ((-9 : Int32), μ) else some ((μ.1 1 6), μ))
def fX3_scan_b73 (k37 : Mm → Option (Int32 × Mm))  (μ : Mm) : Option (Int32 × Mm) := (bnd (fX3_readElement μ) fun r74 μ74 => (if r74 = 0 then some ((μ74.1 1 6), μ74) else k37 (wI μ74 1 3 ((μ74.1 1 3) + (1 : Int32)))))
def fX3_scan_b37 : Nat → Mm → Option (Int32 × Mm)
  | 0, _ => none
  | n + 1, μ => (if (6 : Int32) ≤ (μ.1 1 3) then fX3_scan_b98 μ else (if (μ.1 1 1) ≤ (μ.1 1 6) then fX3_scan_b98 μ else (if (μ.1 1 3) ≤ 0 then fX3_scan_b73 (fX3_scan_b37 n) μ else (bnd (fX3_skip (44 : Int32) μ) fun r67 μ67 => (if r67 = 0 then some ((μ67.1 1 6), μ67) else fX3_scan_b73 (fX3_scan_b37 n) μ67)))))
def fX3_scan  (μ : Mm) : Option (Int32 × Mm) := ((fX3_letter (wI (wI μ 1 6 (0 : Int32)) 1 3 (0 : Int32))).bind fun r12 => ((fX3_arrayTypeOf r12 (wI (wI μ 1 6 (0 : Int32)) 1 3 (0 : Int32))).bind fun r15 => (if ((wI (wI (wI μ 1 6 (0 : Int32)) 1 3 (0 : Int32)) 1 2 r15).1 1 2) = (-9 : Int32) then some ((0 : Int32), (wI (wI (wI μ 1 6 (0 : Int32)) 1 3 (0 : Int32)) 1 2 r15)) else fX3_scan_b37 100 (wI (wI (wI (wI μ 1 6 (0 : Int32)) 1 3 (0 : Int32)) 1 2 r15) 1 6 (1 : Int32)))))
set_option maxRecDepth 100000 in
set_option maxHeartbeats 4000000 in
theorem kX3_scan (l : Launch) (ε : Ev)  (μ : Mm) (out : (Int32 × Mm)) (hf : fX3_scan μ = some out) : Sp l ε layX yX3_scan cX3_scan 1 (some .int) 6 [.ref (ea ε 1)] (some (.int out.1)) μ out.2 := by
  refine Sp.of [(0, .ref (ea ε 1))] rfl (by decide +kernel) (Nat.le_of_ble_eq_true rfl) ?_
  intro κ hκ C E hQ
  subst hκ
  replace C : Cf κ cX3_scan 1 RX3 (some .int) 6 := C
  have b98 : ∀ (μ : Mm) , fX3_scan_b98 μ = some out → G κ (Vw κ ε layX μ) 1 98 [(0, .ref (ea ε 1))] [] := by
    intro μ hf
    refine g_aload_n (pc := 98) (i := 0) (j := 0) C dX3_scan_98 rfl rfl ?_
    refine g_geti (pc := 99) C E fdX3_32 layX_1_6 dX3_scan_99 ?_
    refine g_aload_n (pc := 102) (i := 0) (j := 0) C dX3_scan_102 rfl rfl ?_
    refine g_geti (pc := 103) C E fdX3_15 layX_1_1 dX3_scan_103 ?_
    refine g_icmp_ge (pc := 106) (tgt := 116) C dX3_scan_106 rfl hf (fun _ hf => ?_) (fun _ hf => ?_)
    · refine g_bipush (pc := 116) C dX3_scan_116 cb_m9 ?_
      exact g_iretw (pc := 118) C hQ dX3_scan_118 hf
    · refine g_aload_n (pc := 109) (i := 0) (j := 0) C dX3_scan_109 rfl rfl ?_
      refine g_geti (pc := 110) C E fdX3_32 layX_1_6 dX3_scan_110 ?_
      refine g_goto (pc := 113) (tgt := 118) C dX3_scan_113 rfl ?_
      exact g_iretw (pc := 118) C hQ dX3_scan_118 hf
  have b73 : ∀ (k37 : Mm → Option (Int32 × Mm)) (hk37 : ∀ (μ : Mm) , k37 μ = some out → G κ (Vw κ ε layX μ) 1 37 [(0, .ref (ea ε 1))] []) (μ : Mm) , fX3_scan_b73 k37 μ = some out → G κ (Vw κ ε layX μ) 1 73 [(0, .ref (ea ε 1))] [] := by
    intro k37 hk37 μ hf
    refine g_aload_n (pc := 73) (i := 0) (j := 0) C dX3_scan_73 rfl rfl ?_
    refine g_cwi (pc := 74) (st := []) C E layX_1 lkX3_47 (As := []) rfl (fun out h => kX3_readElement (kl κ) ε μ out h) (by decide) rfl (Nat.le_of_ble_eq_true rfl) dX3_scan_74 hf (fun r74 μ74 _ hf => ?_)
    refine g_if_ne (pc := 77) (tgt := 85) C dX3_scan_77 rfl hf (fun _ hf => ?_) (fun _ hf => ?_)
    · refine g_aload_n (pc := 85) (i := 0) (j := 0) C dX3_scan_85 rfl rfl ?_
      refine g_dup (pc := 86) C dX3_scan_86 rfl ?_
      refine g_geti (pc := 87) C E fdX3_22 layX_1_3 dX3_scan_87 ?_
      refine g_iconst (pc := 90) C dX3_scan_90 ci_1 ?_
      refine g_iadd (pc := 91) C dX3_scan_91 ?_
      refine g_puti (pc := 92) C E fdX3_22 layX_1_3 dX3_scan_92 ?_
      refine g_goto (pc := 95) (tgt := 37) C dX3_scan_95 rfl ?_
      exact hk37 (wI μ74 1 3 ((μ74.1 1 3) + (1 : Int32))) hf
    · refine g_aload_n (pc := 80) (i := 0) (j := 0) C dX3_scan_80 rfl rfl ?_
      refine g_geti (pc := 81) C E fdX3_32 layX_1_6 dX3_scan_81 ?_
      exact g_iretw (pc := 84) C hQ dX3_scan_84 hf
  have b37 : ∀ (n : Nat) (μ : Mm) , fX3_scan_b37 n μ = some out → G κ (Vw κ ε layX μ) 1 37 [(0, .ref (ea ε 1))] [] := by
    intro n
    induction n with
    | zero => intro μ hf; exact none_ne hf
    | succ n ih =>
      intro μ hf
      refine g_aload_n (pc := 37) (i := 0) (j := 0) C dX3_scan_37 rfl rfl ?_
      refine g_geti (pc := 38) C E fdX3_22 layX_1_3 dX3_scan_38 ?_
      refine g_bipush (pc := 41) C dX3_scan_41 cb_6 ?_
      refine g_icmp_ge (pc := 43) (tgt := 98) C dX3_scan_43 rfl hf (fun _ hf => ?_) (fun _ hf => ?_)
      · exact b98 μ hf
      · refine g_aload_n (pc := 46) (i := 0) (j := 0) C dX3_scan_46 rfl rfl ?_
        refine g_geti (pc := 47) C E fdX3_32 layX_1_6 dX3_scan_47 ?_
        refine g_aload_n (pc := 50) (i := 0) (j := 0) C dX3_scan_50 rfl rfl ?_
        refine g_geti (pc := 51) C E fdX3_15 layX_1_1 dX3_scan_51 ?_
        refine g_icmp_ge (pc := 54) (tgt := 98) C dX3_scan_54 rfl hf (fun _ hf => ?_) (fun _ hf => ?_)
        · exact b98 μ hf
        · refine g_aload_n (pc := 57) (i := 0) (j := 0) C dX3_scan_57 rfl rfl ?_
          refine g_geti (pc := 58) C E fdX3_22 layX_1_3 dX3_scan_58 ?_
          refine g_if_le (pc := 61) (tgt := 73) C dX3_scan_61 rfl hf (fun _ hf => ?_) (fun _ hf => ?_)
          · exact b73 (fX3_scan_b37 n) ih μ hf
          · refine g_aload_n (pc := 64) (i := 0) (j := 0) C dX3_scan_64 rfl rfl ?_
            refine g_bipush (pc := 65) C dX3_scan_65 cb_44 ?_
            refine g_cwi (pc := 67) (st := []) C E layX_1 lkX3_43 (As := [.int (44 : Int32)]) rfl (fun out h => kX3_skip (kl κ) ε (44 : Int32) μ out h) (by decide) rfl (Nat.le_of_ble_eq_true rfl) dX3_scan_67 hf (fun r67 μ67 _ hf => ?_)
            refine g_if_eq (pc := 70) (tgt := 80) C dX3_scan_70 rfl hf (fun _ hf => ?_) (fun _ hf => ?_)
            · refine g_aload_n (pc := 80) (i := 0) (j := 0) C dX3_scan_80 rfl rfl ?_
              refine g_geti (pc := 81) C E fdX3_32 layX_1_6 dX3_scan_81 ?_
              exact g_iretw (pc := 84) C hQ dX3_scan_84 hf
            · exact b73 (fX3_scan_b37 n) ih μ67 hf
  refine g_aload_n (pc := 0) (i := 0) (j := 0) C dX3_scan_0 rfl rfl ?_
  refine g_iconst (pc := 1) C dX3_scan_1 ci_0 ?_
  refine g_puti (pc := 2) C E fdX3_32 layX_1_6 dX3_scan_2 ?_
  refine g_aload_n (pc := 5) (i := 0) (j := 0) C dX3_scan_5 rfl rfl ?_
  refine g_iconst (pc := 6) C dX3_scan_6 ci_0 ?_
  refine g_puti (pc := 7) C E fdX3_22 layX_1_3 dX3_scan_7 ?_
  refine g_aload_n (pc := 10) (i := 0) (j := 0) C dX3_scan_10 rfl rfl ?_
  refine g_aload_n (pc := 11) (i := 0) (j := 0) C dX3_scan_11 rfl rfl ?_
  refine g_cri (pc := 12) (st := [.ref (ea ε 1)]) C E layX_1 lkX3_35 (As := []) rfl (fun out h => kX3_letter (kl κ) ε (wI (wI μ 1 6 (0 : Int32)) 1 3 (0 : Int32)) out h) (by decide) rfl (Nat.le_of_ble_eq_true rfl) dX3_scan_12 hf (fun r12 _ hf => ?_)
  refine g_cswi (pc := 15) (st := [.ref (ea ε 1)]) C E lkX3_39 (As := [.int r12]) rfl (fun out h => kX3_arrayTypeOf (kl κ) ε r12 (wI (wI μ 1 6 (0 : Int32)) 1 3 (0 : Int32)) out h) (by decide) rfl (Nat.le_of_ble_eq_true rfl) dX3_scan_15 hf (fun r15 _ hf => ?_)
  refine g_puti (pc := 18) C E fdX3_19 layX_1_2 dX3_scan_18 ?_
  refine g_aload_n (pc := 21) (i := 0) (j := 0) C dX3_scan_21 rfl rfl ?_
  refine g_geti (pc := 22) C E fdX3_19 layX_1_2 dX3_scan_22 ?_
  refine g_bipush (pc := 25) C dX3_scan_25 cb_m9 ?_
  refine g_icmp_ne (pc := 27) (tgt := 32) C dX3_scan_27 rfl hf (fun _ hf => ?_) (fun _ hf => ?_)
  · refine g_aload_n (pc := 32) (i := 0) (j := 0) C dX3_scan_32 rfl rfl ?_
    refine g_iconst (pc := 33) C dX3_scan_33 ci_1 ?_
    refine g_puti (pc := 34) C E fdX3_32 layX_1_6 dX3_scan_34 ?_
    exact b37 100 (wI (wI (wI (wI μ 1 6 (0 : Int32)) 1 3 (0 : Int32)) 1 2 r15) 1 6 (1 : Int32)) hf
  · refine g_iconst (pc := 30) C dX3_scan_30 ci_0 ?_
    exact g_iretw (pc := 31) C hQ dX3_scan_31 hf
theorem dX5_agree_0 : decode cX5_agree 0 = .ok (.aload_n 0, 1) := by decide +kernel
theorem dX5_agree_1 : decode cX5_agree 1 = .ok (.iload_n 1, 1) := by decide +kernel
theorem dX5_agree_2 : decode cX5_agree 2 = .ok (.iload_n 3, 1) := by decide +kernel
theorem dX5_agree_3 : decode cX5_agree 3 = .ok (.invokevirtual 41, 3) := by decide +kernel
theorem dX5_agree_6 : decode cX5_agree 6 = .ok (.istore 4, 2) := by decide +kernel
theorem dX5_agree_8 : decode cX5_agree 8 = .ok (.aload_n 0, 1) := by decide +kernel
theorem dX5_agree_9 : decode cX5_agree 9 = .ok (.iload_n 2, 1) := by decide +kernel
theorem dX5_agree_10 : decode cX5_agree 10 = .ok (.iload_n 3, 1) := by decide +kernel
theorem dX5_agree_11 : decode cX5_agree 11 = .ok (.invokevirtual 41, 3) := by decide +kernel
theorem dX5_agree_14 : decode cX5_agree 14 = .ok (.istore 5, 2) := by decide +kernel
theorem dX5_agree_16 : decode cX5_agree 16 = .ok (.aload_n 0, 1) := by decide +kernel
theorem dX5_agree_17 : decode cX5_agree 17 = .ok (.iload_n 1, 1) := by decide +kernel
theorem dX5_agree_18 : decode cX5_agree 18 = .ok (.iload_n 3, 1) := by decide +kernel
theorem dX5_agree_19 : decode cX5_agree 19 = .ok (.invokevirtual 45, 3) := by decide +kernel
theorem dX5_agree_22 : decode cX5_agree 22 = .ok (.lstore 6, 2) := by decide +kernel
theorem dX5_agree_24 : decode cX5_agree 24 = .ok (.aload_n 0, 1) := by decide +kernel
theorem dX5_agree_25 : decode cX5_agree 25 = .ok (.iload_n 2, 1) := by decide +kernel
theorem dX5_agree_26 : decode cX5_agree 26 = .ok (.iload_n 3, 1) := by decide +kernel
theorem dX5_agree_27 : decode cX5_agree 27 = .ok (.invokevirtual 45, 3) := by decide +kernel
theorem dX5_agree_30 : decode cX5_agree 30 = .ok (.lstore 8, 2) := by decide +kernel
theorem dX5_agree_32 : decode cX5_agree 32 = .ok (.iload 4, 2) := by decide +kernel
theorem dX5_agree_34 : decode cX5_agree 34 = .ok (.invokestatic 27, 3) := by decide +kernel
theorem dX5_agree_37 : decode cX5_agree 37 = .ok (.ifCond .eq 11, 3) := by decide +kernel
theorem dX5_agree_40 : decode cX5_agree 40 = .ok (.iload 5, 2) := by decide +kernel
theorem dX5_agree_42 : decode cX5_agree 42 = .ok (.invokestatic 27, 3) := by decide +kernel
theorem dX5_agree_45 : decode cX5_agree 45 = .ok (.ifCond .ne 24, 3) := by decide +kernel
theorem dX5_agree_48 : decode cX5_agree 48 = .ok (.iload 4, 2) := by decide +kernel
theorem dX5_agree_50 : decode cX5_agree 50 = .ok (.iload 5, 2) := by decide +kernel
theorem dX5_agree_52 : decode cX5_agree 52 = .ok (.if_icmp .ne 15, 3) := by decide +kernel
theorem dX5_agree_55 : decode cX5_agree 55 = .ok (.lload 6, 2) := by decide +kernel
theorem dX5_agree_57 : decode cX5_agree 57 = .ok (.lload 8, 2) := by decide +kernel
theorem dX5_agree_59 : decode cX5_agree 59 = .ok (.lcmp, 1) := by decide +kernel
theorem dX5_agree_60 : decode cX5_agree 60 = .ok (.ifCond .ne 7, 3) := by decide +kernel
theorem dX5_agree_63 : decode cX5_agree 63 = .ok (.iconst 1, 1) := by decide +kernel
theorem dX5_agree_64 : decode cX5_agree 64 = .ok (.goto 4, 3) := by decide +kernel
theorem dX5_agree_67 : decode cX5_agree 67 = .ok (.iconst 0, 1) := by decide +kernel
theorem dX5_agree_68 : decode cX5_agree 68 = .ok (.ireturn, 1) := by decide +kernel
theorem dX5_agree_69 : decode cX5_agree 69 = .ok (.iload 4, 2) := by decide +kernel
theorem dX5_agree_71 : decode cX5_agree 71 = .ok (.iload 5, 2) := by decide +kernel
theorem dX5_agree_73 : decode cX5_agree 73 = .ok (.invokestatic 52, 3) := by decide +kernel
theorem dX5_agree_76 : decode cX5_agree 76 = .ok (.istore 10, 2) := by decide +kernel
theorem dX5_agree_78 : decode cX5_agree 78 = .ok (.iload 10, 2) := by decide +kernel
theorem dX5_agree_80 : decode cX5_agree 80 = .ok (.bipush (-9), 2) := by decide +kernel
theorem dX5_agree_82 : decode cX5_agree 82 = .ok (.if_icmp .eq 29, 3) := by decide +kernel
theorem dX5_agree_85 : decode cX5_agree 85 = .ok (.lload 6, 2) := by decide +kernel
theorem dX5_agree_87 : decode cX5_agree 87 = .ok (.iload 4, 2) := by decide +kernel
theorem dX5_agree_89 : decode cX5_agree 89 = .ok (.iload 10, 2) := by decide +kernel
theorem dX5_agree_91 : decode cX5_agree 91 = .ok (.invokestatic 35, 3) := by decide +kernel
theorem dX5_agree_94 : decode cX5_agree 94 = .ok (.lload 8, 2) := by decide +kernel
theorem dX5_agree_96 : decode cX5_agree 96 = .ok (.iload 5, 2) := by decide +kernel
theorem dX5_agree_98 : decode cX5_agree 98 = .ok (.iload 10, 2) := by decide +kernel
theorem dX5_agree_100 : decode cX5_agree 100 = .ok (.invokestatic 35, 3) := by decide +kernel
theorem dX5_agree_103 : decode cX5_agree 103 = .ok (.lcmp, 1) := by decide +kernel
theorem dX5_agree_104 : decode cX5_agree 104 = .ok (.ifCond .ne 7, 3) := by decide +kernel
theorem dX5_agree_107 : decode cX5_agree 107 = .ok (.iconst 1, 1) := by decide +kernel
theorem dX5_agree_108 : decode cX5_agree 108 = .ok (.goto 4, 3) := by decide +kernel
theorem dX5_agree_111 : decode cX5_agree 111 = .ok (.iconst 0, 1) := by decide +kernel
theorem dX5_agree_112 : decode cX5_agree 112 = .ok (.ireturn, 1) := by decide +kernel
def fX5_agree_b48 (μ : Mm) (v4 : Int32) (v5 : Int32) (v6 : Int64) (v8 : Int64) : Option Int32 := (if v4 = v5 then (if v6 = v8 then some (1 : Int32) else some (0 : Int32)) else some (0 : Int32))
def fX5_agree (p1 : Int32) (p2 : Int32) (p3 : Int32) (μ : Mm) : Option Int32 := ((fX5_typeAt p1 p3 μ).bind fun r3 => ((fX5_typeAt p2 p3 μ).bind fun r11 => ((fX5_codeAt p1 p3 μ).bind fun r19 => ((fX5_codeAt p2 p3 μ).bind fun r27 => ((fX7_isPrimitive r3).bind fun r34 => (if r34 = 0 then fX5_agree_b48 μ r3 r11 r19 r27 else ((fX7_isPrimitive r11).bind fun r42 => (if r42 = 0 then fX5_agree_b48 μ r3 r11 r19 r27 else ((fX2_leastOfTwo r3 r11).bind fun r73 => (if r73 = (-9 : Int32) then some (0 : Int32) else ((fX2_widened r19 r3 r73).bind fun r91 => ((fX2_widened r27 r11 r73).bind fun r100 => (if r91 = r100 then some (1 : Int32) else some (0 : Int32))))))))))))))
set_option maxRecDepth 100000 in
set_option maxHeartbeats 4000000 in
theorem kX5_agree (l : Launch) (ε : Ev) (p1 : Int32) (p2 : Int32) (p3 : Int32) (μ : Mm) (out : Int32) (hf : fX5_agree p1 p2 p3 μ = some out) : Sp l ε layX yX5_agree cX5_agree 11 (some .boolean) 5 [.ref (ea ε 2), .int p1, .int p2, .int p3] (some (.int out)) μ μ := by
  refine Sp.of [(0, .ref (ea ε 2)), (1, .int p1), (2, .int p2), (3, .int p3)] rfl (by decide +kernel) (Nat.le_of_ble_eq_true rfl) ?_
  intro κ hκ C E hQ
  subst hκ
  replace C : Cf κ cX5_agree 11 RX5 (some .boolean) 5 := C
  have b48 : ∀ (v4 : Int32) (v5 : Int32) (v6 : Int64) (v8 : Int64) , fX5_agree_b48 μ v4 v5 v6 v8 = some out → G κ (Vw κ ε layX μ) 11 48 [(4, .int v4), (5, .int v5), (6, .long v6), (8, .long v8)] [] := by
    intro v4 v5 v6 v8 hf
    refine g_iload (pc := 48) (i := 4) (j := 0) C dX5_agree_48 rfl ?_
    refine g_iload (pc := 50) (i := 5) (j := 1) C dX5_agree_50 rfl ?_
    refine g_icmp_ne (pc := 52) (tgt := 67) C dX5_agree_52 rfl hf (fun _ hf => ?_) (fun _ hf => ?_)
    · refine g_iconst (pc := 67) C dX5_agree_67 ci_0 ?_
      exact g_zret1r (pc := 68) C rfl hQ dX5_agree_68 hf
    · refine g_lload (pc := 55) (i := 6) (j := 2) C dX5_agree_55 rfl ?_
      refine g_lload (pc := 57) (i := 8) (j := 3) C dX5_agree_57 rfl ?_
      refine g_lcmp_ne (pc := 59) (tgt := 67) C dX5_agree_59 dX5_agree_60 rfl hf (fun _ hf => ?_) (fun _ hf => ?_)
      · refine g_iconst (pc := 67) C dX5_agree_67 ci_0 ?_
        exact g_zret1r (pc := 68) C rfl hQ dX5_agree_68 hf
      · refine g_iconst (pc := 63) C dX5_agree_63 ci_1 ?_
        refine g_goto (pc := 64) (tgt := 68) C dX5_agree_64 rfl ?_
        exact g_zret1r (pc := 68) C rfl hQ dX5_agree_68 hf
  refine g_aload_n (pc := 0) (i := 0) (j := 0) C dX5_agree_0 rfl rfl ?_
  refine g_iload_n (pc := 1) (i := 1) (j := 1) C dX5_agree_1 rfl rfl ?_
  refine g_iload_n (pc := 2) (i := 3) (j := 3) C dX5_agree_2 rfl rfl ?_
  refine g_cri (pc := 3) (st := []) C E layX_2 lkX5_41 (As := [.int p1, .int p3]) rfl (fun out h => kX5_typeAt (kl κ) ε p1 p3 μ out h) (by decide) rfl (Nat.le_of_ble_eq_true rfl) dX5_agree_3 hf (fun r3 _ hf => ?_)
  refine g_istore (pc := 6) (i := 4) (L' := [(4, .int r3), (0, .ref (ea ε 2)), (1, .int p1), (2, .int p2), (3, .int p3)]) C dX5_agree_6 (by decide) rfl ?_
  refine g_aload_n (pc := 8) (i := 0) (j := 1) C dX5_agree_8 rfl rfl ?_
  refine g_iload_n (pc := 9) (i := 2) (j := 3) C dX5_agree_9 rfl rfl ?_
  refine g_iload_n (pc := 10) (i := 3) (j := 4) C dX5_agree_10 rfl rfl ?_
  refine g_cri (pc := 11) (st := []) C E layX_2 lkX5_41 (As := [.int p2, .int p3]) rfl (fun out h => kX5_typeAt (kl κ) ε p2 p3 μ out h) (by decide) rfl (Nat.le_of_ble_eq_true rfl) dX5_agree_11 hf (fun r11 _ hf => ?_)
  refine g_istore (pc := 14) (i := 5) (L' := [(5, .int r11), (4, .int r3), (0, .ref (ea ε 2)), (1, .int p1), (2, .int p2), (3, .int p3)]) C dX5_agree_14 (by decide) rfl ?_
  refine g_aload_n (pc := 16) (i := 0) (j := 2) C dX5_agree_16 rfl rfl ?_
  refine g_iload_n (pc := 17) (i := 1) (j := 3) C dX5_agree_17 rfl rfl ?_
  refine g_iload_n (pc := 18) (i := 3) (j := 5) C dX5_agree_18 rfl rfl ?_
  refine g_crl (pc := 19) (st := []) C E layX_2 lkX5_45 (As := [.int p1, .int p3]) rfl (fun out h => kX5_codeAt (kl κ) ε p1 p3 μ out h) (by decide) rfl (Nat.le_of_ble_eq_true rfl) dX5_agree_19 hf (fun r19 _ hf => ?_)
  refine g_lstore (pc := 22) (i := 6) (L' := [(6, .long r19), (5, .int r11), (4, .int r3), (0, .ref (ea ε 2)), (1, .int p1), (2, .int p2), (3, .int p3)]) C dX5_agree_22 (by decide) rfl ?_
  refine g_aload_n (pc := 24) (i := 0) (j := 3) C dX5_agree_24 rfl rfl ?_
  refine g_iload_n (pc := 25) (i := 2) (j := 5) C dX5_agree_25 rfl rfl ?_
  refine g_iload_n (pc := 26) (i := 3) (j := 6) C dX5_agree_26 rfl rfl ?_
  refine g_crl (pc := 27) (st := []) C E layX_2 lkX5_45 (As := [.int p2, .int p3]) rfl (fun out h => kX5_codeAt (kl κ) ε p2 p3 μ out h) (by decide) rfl (Nat.le_of_ble_eq_true rfl) dX5_agree_27 hf (fun r27 _ hf => ?_)
  refine g_lstore (pc := 30) (i := 8) (L' := [(8, .long r27), (6, .long r19), (5, .int r11), (4, .int r3), (0, .ref (ea ε 2)), (1, .int p1), (2, .int p2), (3, .int p3)]) C dX5_agree_30 (by decide) rfl ?_
  refine g_iload (pc := 32) (i := 4) (j := 3) C dX5_agree_32 rfl ?_
  refine g_cni (pc := 34) (st := []) C lkX5_27 (As := [.int r3]) rfl (fun out h => kX7_isPrimitive (kl κ) r3 out h) (by decide) rfl (Nat.le_of_ble_eq_true rfl) dX5_agree_34 hf (fun r34 _ hf => ?_)
  refine g_if_eq (pc := 37) (tgt := 48) C dX5_agree_37 rfl hf (fun _ hf => ?_) (fun _ hf => ?_)
  · exact g_at [3, 2, 1, 0] rfl (b48 r3 r11 r19 r27 hf)
  · refine g_iload (pc := 40) (i := 5) (j := 2) C dX5_agree_40 rfl ?_
    refine g_cni (pc := 42) (st := []) C lkX5_27 (As := [.int r11]) rfl (fun out h => kX7_isPrimitive (kl κ) r11 out h) (by decide) rfl (Nat.le_of_ble_eq_true rfl) dX5_agree_42 hf (fun r42 _ hf => ?_)
    refine g_if_ne (pc := 45) (tgt := 69) C dX5_agree_45 rfl hf (fun _ hf => ?_) (fun _ hf => ?_)
    · refine g_iload (pc := 69) (i := 4) (j := 3) C dX5_agree_69 rfl ?_
      refine g_iload (pc := 71) (i := 5) (j := 2) C dX5_agree_71 rfl ?_
      refine g_cpi (pc := 73) (st := []) C lkX5_52 (As := [.int r3, .int r11]) rfl (fun out h => kX2_leastOfTwo (kl κ) r3 r11 out h) (by decide) rfl (Nat.le_of_ble_eq_true rfl) dX5_agree_73 hf (fun r73 _ hf => ?_)
      refine g_istore (pc := 76) (i := 10) (L' := [(10, .int r73), (8, .long r27), (6, .long r19), (5, .int r11), (4, .int r3), (0, .ref (ea ε 2)), (1, .int p1), (2, .int p2), (3, .int p3)]) C dX5_agree_76 (by decide) rfl ?_
      refine g_iload (pc := 78) (i := 10) (j := 0) C dX5_agree_78 rfl ?_
      refine g_bipush (pc := 80) C dX5_agree_80 cb_m9 ?_
      refine g_icmp_eq (pc := 82) (tgt := 111) C dX5_agree_82 rfl hf (fun _ hf => ?_) (fun _ hf => ?_)
      · refine g_iconst (pc := 111) C dX5_agree_111 ci_0 ?_
        exact g_zret1r (pc := 112) C rfl hQ dX5_agree_112 hf
      · refine g_lload (pc := 85) (i := 6) (j := 2) C dX5_agree_85 rfl ?_
        refine g_iload (pc := 87) (i := 4) (j := 4) C dX5_agree_87 rfl ?_
        refine g_iload (pc := 89) (i := 10) (j := 0) C dX5_agree_89 rfl ?_
        refine g_cpl (pc := 91) (st := []) C lkX5_35 (As := [.long r19, .int r3, .int r73]) rfl (fun out h => kX2_widened (kl κ) r19 r3 r73 out h) (by decide) rfl (Nat.le_of_ble_eq_true rfl) dX5_agree_91 hf (fun r91 _ hf => ?_)
        refine g_lload (pc := 94) (i := 8) (j := 1) C dX5_agree_94 rfl ?_
        refine g_iload (pc := 96) (i := 5) (j := 3) C dX5_agree_96 rfl ?_
        refine g_iload (pc := 98) (i := 10) (j := 0) C dX5_agree_98 rfl ?_
        refine g_cpl (pc := 100) (st := [.long r91]) C lkX5_35 (As := [.long r27, .int r11, .int r73]) rfl (fun out h => kX2_widened (kl κ) r27 r11 r73 out h) (by decide) rfl (Nat.le_of_ble_eq_true rfl) dX5_agree_100 hf (fun r100 _ hf => ?_)
        refine g_lcmp_ne (pc := 103) (tgt := 111) C dX5_agree_103 dX5_agree_104 rfl hf (fun _ hf => ?_) (fun _ hf => ?_)
        · refine g_iconst (pc := 111) C dX5_agree_111 ci_0 ?_
          exact g_zret1r (pc := 112) C rfl hQ dX5_agree_112 hf
        · refine g_iconst (pc := 107) C dX5_agree_107 ci_1 ?_
          refine g_goto (pc := 108) (tgt := 112) C dX5_agree_108 rfl ?_
          exact g_zret1r (pc := 112) C rfl hQ dX5_agree_112 hf
    · exact g_at [3, 2, 1, 0] rfl (b48 r3 r11 r19 r27 hf)
theorem dX5_has_0 : decode cX5_has 0 = .ok (.iload_n 2, 1) := by decide +kernel
theorem dX5_has_1 : decode cX5_has 1 = .ok (.ifCond .lt 17, 3) := by decide +kernel
theorem dX5_has_4 : decode cX5_has 4 = .ok (.iload_n 2, 1) := by decide +kernel
theorem dX5_has_5 : decode cX5_has 5 = .ok (.aload_n 0, 1) := by decide +kernel
theorem dX5_has_6 : decode cX5_has 6 = .ok (.getfield 17, 3) := by decide +kernel
theorem dX5_has_9 : decode cX5_has 9 = .ok (.iload_n 1, 1) := by decide +kernel
theorem dX5_has_10 : decode cX5_has 10 = .ok (.iaload, 1) := by decide +kernel
theorem dX5_has_11 : decode cX5_has 11 = .ok (.if_icmp .ge 7, 3) := by decide +kernel
theorem dX5_has_14 : decode cX5_has 14 = .ok (.iconst 1, 1) := by decide +kernel
theorem dX5_has_15 : decode cX5_has 15 = .ok (.goto 4, 3) := by decide +kernel
theorem dX5_has_18 : decode cX5_has 18 = .ok (.iconst 0, 1) := by decide +kernel
theorem dX5_has_19 : decode cX5_has 19 = .ok (.ireturn, 1) := by decide +kernel
def fX5_has (p1 : Int32) (p2 : Int32) (μ : Mm) : Option Int32 := (if p2 < 0 then some (0 : Int32) else (if inb p1 26 = true then (if (μ.1 12 (Int32.toNatClampNeg p1)) ≤ p2 then some (0 : Int32) else some (1 : Int32)) else none))
set_option maxRecDepth 100000 in
set_option maxHeartbeats 4000000 in
theorem kX5_has (l : Launch) (ε : Ev) (p1 : Int32) (p2 : Int32) (μ : Mm) (out : Int32) (hf : fX5_has p1 p2 μ = some out) : Sp l ε layX yX5_has cX5_has 3 (some .boolean) 0 [.ref (ea ε 2), .int p1, .int p2] (some (.int out)) μ μ := by
  refine Sp.of [(0, .ref (ea ε 2)), (1, .int p1), (2, .int p2)] rfl (by decide +kernel) (Nat.le_of_ble_eq_true rfl) ?_
  intro κ hκ C E hQ
  subst hκ
  replace C : Cf κ cX5_has 3 RX5 (some .boolean) 0 := C
  refine g_iload_n (pc := 0) (i := 2) (j := 2) C dX5_has_0 rfl rfl ?_
  refine g_if_lt (pc := 1) (tgt := 18) C dX5_has_1 rfl hf (fun _ hf => ?_) (fun _ hf => ?_)
  · refine g_iconst (pc := 18) C dX5_has_18 ci_0 ?_
    exact g_zret1r (pc := 19) C rfl hQ dX5_has_19 hf
  · refine g_iload_n (pc := 4) (i := 2) (j := 2) C dX5_has_4 rfl rfl ?_
    refine g_aload_n (pc := 5) (i := 0) (j := 0) C dX5_has_5 rfl rfl ?_
    refine g_getr (pc := 6) (j := 12) C E fdX5_17 layX_2_1 dX5_has_6 ?_
    refine g_iload_n (pc := 9) (i := 1) (j := 1) C dX5_has_9 rfl rfl ?_
    refine g_iald (pc := 10) C E layX_12 dX5_has_10 hf (fun hf => ?_)
    refine g_icmp_ge (pc := 11) (tgt := 18) C dX5_has_11 rfl hf (fun _ hf => ?_) (fun _ hf => ?_)
    · refine g_iconst (pc := 18) C dX5_has_18 ci_0 ?_
      exact g_zret1r (pc := 19) C rfl hQ dX5_has_19 hf
    · refine g_iconst (pc := 14) C dX5_has_14 ci_1 ?_
      refine g_goto (pc := 15) (tgt := 19) C dX5_has_15 rfl ?_
      exact g_zret1r (pc := 19) C rfl hQ dX5_has_19 hf
theorem dX5_prepare_0 : decode cX5_prepare 0 = .ok (.aload_n 0, 1) := by decide +kernel
theorem dX5_prepare_1 : decode cX5_prepare 1 = .ok (.getfield 13, 3) := by decide +kernel
theorem dX5_prepare_4 : decode cX5_prepare 4 = .ok (.iload_n 1, 1) := by decide +kernel
theorem dX5_prepare_5 : decode cX5_prepare 5 = .ok (.iload_n 2, 1) := by decide +kernel
theorem dX5_prepare_6 : decode cX5_prepare 6 = .ok (.iastore, 1) := by decide +kernel
theorem dX5_prepare_7 : decode cX5_prepare 7 = .ok (.aload_n 0, 1) := by decide +kernel
theorem dX5_prepare_8 : decode cX5_prepare 8 = .ok (.getfield 17, 3) := by decide +kernel
theorem dX5_prepare_11 : decode cX5_prepare 11 = .ok (.iload_n 1, 1) := by decide +kernel
theorem dX5_prepare_12 : decode cX5_prepare 12 = .ok (.iload_n 3, 1) := by decide +kernel
theorem dX5_prepare_13 : decode cX5_prepare 13 = .ok (.iastore, 1) := by decide +kernel
theorem dX5_prepare_14 : decode cX5_prepare 14 = .ok (.iconst 0, 1) := by decide +kernel
theorem dX5_prepare_15 : decode cX5_prepare 15 = .ok (.istore 4, 2) := by decide +kernel
theorem dX5_prepare_17 : decode cX5_prepare 17 = .ok (.iload 4, 2) := by decide +kernel
theorem dX5_prepare_19 : decode cX5_prepare 19 = .ok (.iload_n 3, 1) := by decide +kernel
theorem dX5_prepare_20 : decode cX5_prepare 20 = .ok (.if_icmp .ge 30, 3) := by decide +kernel
theorem dX5_prepare_23 : decode cX5_prepare 23 = .ok (.aload_n 0, 1) := by decide +kernel
theorem dX5_prepare_24 : decode cX5_prepare 24 = .ok (.iload_n 1, 1) := by decide +kernel
theorem dX5_prepare_25 : decode cX5_prepare 25 = .ok (.iload 4, 2) := by decide +kernel
theorem dX5_prepare_27 : decode cX5_prepare 27 = .ok (.iload_n 2, 1) := by decide +kernel
theorem dX5_prepare_28 : decode cX5_prepare 28 = .ok (.invokestatic 27, 3) := by decide +kernel
theorem dX5_prepare_31 : decode cX5_prepare 31 = .ok (.ifCond .eq 7, 3) := by decide +kernel
theorem dX5_prepare_34 : decode cX5_prepare 34 = .ok (.iload_n 2, 1) := by decide +kernel
theorem dX5_prepare_35 : decode cX5_prepare 35 = .ok (.goto 5, 3) := by decide +kernel
theorem dX5_prepare_38 : decode cX5_prepare 38 = .ok (.bipush (-9), 2) := by decide +kernel
theorem dX5_prepare_40 : decode cX5_prepare 40 = .ok (.lconst 0, 1) := by decide +kernel
theorem dX5_prepare_41 : decode cX5_prepare 41 = .ok (.invokevirtual 31, 3) := by decide +kernel
theorem dX5_prepare_44 : decode cX5_prepare 44 = .ok (.iinc 4 1, 3) := by decide +kernel
theorem dX5_prepare_47 : decode cX5_prepare 47 = .ok (.goto (-30), 3) := by decide +kernel
theorem dX5_prepare_50 : decode cX5_prepare 50 = .ok (.return_, 1) := by decide +kernel
def fX5_prepare_b40 (k17 : Int32 → Int32 → Int32 → Int32 → Mm → Option Mm) (v1 : Int32) (v2 : Int32) (v3 : Int32) (v4 : Int32) (s0 : Int32) (s1 : Int32) (s2 : Int32) (μ : Mm) : Option Mm := ((fX5_set s2 s1 s0 (0 : Int64) μ).bind fun μ41 => k17 v1 v2 v3 (v4 + (1 : Int32)) μ41)
def fX5_prepare_b17 : Nat → Int32 → Int32 → Int32 → Int32 → Mm → Option Mm
  | 0, _, _, _, _, _ => none
  | n + 1, v1, v2, v3, v4, μ => (if v3 ≤ v4 then some μ else ((fX7_isPrimitive v2).bind fun r28 => (if r28 = 0 then fX5_prepare_b40 (fX5_prepare_b17 n) v1 v2 v3 v4 (-9 : Int32) v4 v1 μ else fX5_prepare_b40 (fX5_prepare_b17 n) v1 v2 v3 v4 v2 v4 v1 μ)))
def fX5_prepare (p1 : Int32) (p2 : Int32) (p3 : Int32) (μ : Mm) : Option Mm := (if inb p1 26 = true then (if inb p1 26 = true then fX5_prepare_b17 100 p1 p2 p3 (0 : Int32) (wI (wI μ 11 (Int32.toNatClampNeg p1) p2) 12 (Int32.toNatClampNeg p1) p3) else none) else none)
set_option maxRecDepth 100000 in
set_option maxHeartbeats 4000000 in
theorem kX5_prepare (l : Launch) (ε : Ev) (p1 : Int32) (p2 : Int32) (p3 : Int32) (μ : Mm) (out : Mm) (hf : fX5_prepare p1 p2 p3 μ = some out) : Sp l ε layX yX5_prepare cX5_prepare 5 none 1 [.ref (ea ε 2), .int p1, .int p2, .int p3] none μ out := by
  refine Sp.of [(0, .ref (ea ε 2)), (1, .int p1), (2, .int p2), (3, .int p3)] rfl (by decide +kernel) (Nat.le_of_ble_eq_true rfl) ?_
  intro κ hκ C E hQ
  subst hκ
  replace C : Cf κ cX5_prepare 5 RX5 none 1 := C
  have b40 : ∀ (k17 : Int32 → Int32 → Int32 → Int32 → Mm → Option Mm) (hk17 : ∀ (v1 : Int32) (v2 : Int32) (v3 : Int32) (v4 : Int32) (μ : Mm) , k17 v1 v2 v3 v4 μ = some out → G κ (Vw κ ε layX μ) 5 17 [(0, .ref (ea ε 2)), (1, .int v1), (2, .int v2), (3, .int v3), (4, .int v4)] []) (v1 : Int32) (v2 : Int32) (v3 : Int32) (v4 : Int32) (s0 : Int32) (s1 : Int32) (s2 : Int32) (μ : Mm) , fX5_prepare_b40 k17 v1 v2 v3 v4 s0 s1 s2 μ = some out → G κ (Vw κ ε layX μ) 5 40 [(0, .ref (ea ε 2)), (1, .int v1), (2, .int v2), (3, .int v3), (4, .int v4)] [.int s0, .int s1, .int s2, .ref (ea ε 2)] := by
    intro k17 hk17 v1 v2 v3 v4 s0 s1 s2 μ hf
    refine g_lconst (pc := 40) C dX5_prepare_40 cl_0 ?_
    refine g_cwv (pc := 41) (st := []) C E layX_2 lkX5_31 (As := [.int s2, .int s1, .int s0, .long (0 : Int64)]) rfl (fun out h => kX5_set (kl κ) ε s2 s1 s0 (0 : Int64) μ out h) (by decide) rfl (Nat.le_of_ble_eq_true rfl) dX5_prepare_41 hf (fun μ41 _ hf => ?_)
    refine g_iinc (pc := 44) (i := 4) (j := 4) (v := (v4 + (1 : Int32))) (L' := [(4, .int (v4 + (1 : Int32))), (0, .ref (ea ε 2)), (1, .int v1), (2, .int v2), (3, .int v3)]) C dX5_prepare_44 rfl (cx_1 _) (by decide) rfl ?_
    refine g_goto (pc := 47) (tgt := 17) C dX5_prepare_47 rfl ?_
    exact g_at [1, 2, 3, 4, 0] rfl (hk17 v1 v2 v3 (v4 + (1 : Int32)) μ41 hf)
  have b17 : ∀ (n : Nat) (v1 : Int32) (v2 : Int32) (v3 : Int32) (v4 : Int32) (μ : Mm) , fX5_prepare_b17 n v1 v2 v3 v4 μ = some out → G κ (Vw κ ε layX μ) 5 17 [(0, .ref (ea ε 2)), (1, .int v1), (2, .int v2), (3, .int v3), (4, .int v4)] [] := by
    intro n
    induction n with
    | zero => intro v1 v2 v3 v4 μ hf; exact none_ne hf
    | succ n ih =>
      intro v1 v2 v3 v4 μ hf
      refine g_iload (pc := 17) (i := 4) (j := 4) C dX5_prepare_17 rfl ?_
      refine g_iload_n (pc := 19) (i := 3) (j := 3) C dX5_prepare_19 rfl rfl ?_
      refine g_icmp_ge (pc := 20) (tgt := 50) C dX5_prepare_20 rfl hf (fun _ hf => ?_) (fun _ hf => ?_)
      · exact g_vretw (pc := 50) C hQ dX5_prepare_50 hf
      · refine g_aload_n (pc := 23) (i := 0) (j := 0) C dX5_prepare_23 rfl rfl ?_
        refine g_iload_n (pc := 24) (i := 1) (j := 1) C dX5_prepare_24 rfl rfl ?_
        refine g_iload (pc := 25) (i := 4) (j := 4) C dX5_prepare_25 rfl ?_
        refine g_iload_n (pc := 27) (i := 2) (j := 2) C dX5_prepare_27 rfl rfl ?_
        refine g_cni (pc := 28) (st := [.int v4, .int v1, .ref (ea ε 2)]) C lkX5_27 (As := [.int v2]) rfl (fun out h => kX7_isPrimitive (kl κ) v2 out h) (by decide) rfl (Nat.le_of_ble_eq_true rfl) dX5_prepare_28 hf (fun r28 _ hf => ?_)
        refine g_if_eq (pc := 31) (tgt := 38) C dX5_prepare_31 rfl hf (fun _ hf => ?_) (fun _ hf => ?_)
        · refine g_bipush (pc := 38) C dX5_prepare_38 cb_m9 ?_
          exact b40 (fX5_prepare_b17 n) ih v1 v2 v3 v4 (-9 : Int32) v4 v1 μ hf
        · refine g_iload_n (pc := 34) (i := 2) (j := 2) C dX5_prepare_34 rfl rfl ?_
          refine g_goto (pc := 35) (tgt := 40) C dX5_prepare_35 rfl ?_
          exact b40 (fX5_prepare_b17 n) ih v1 v2 v3 v4 v2 v4 v1 μ hf
  refine g_aload_n (pc := 0) (i := 0) (j := 0) C dX5_prepare_0 rfl rfl ?_
  refine g_getr (pc := 1) (j := 11) C E fdX5_13 layX_2_0 dX5_prepare_1 ?_
  refine g_iload_n (pc := 4) (i := 1) (j := 1) C dX5_prepare_4 rfl rfl ?_
  refine g_iload_n (pc := 5) (i := 2) (j := 2) C dX5_prepare_5 rfl rfl ?_
  refine g_iast (pc := 6) C E layX_11 dX5_prepare_6 hf (fun hf => ?_)
  refine g_aload_n (pc := 7) (i := 0) (j := 0) C dX5_prepare_7 rfl rfl ?_
  refine g_getr (pc := 8) (j := 12) C E fdX5_17 layX_2_1 dX5_prepare_8 ?_
  refine g_iload_n (pc := 11) (i := 1) (j := 1) C dX5_prepare_11 rfl rfl ?_
  refine g_iload_n (pc := 12) (i := 3) (j := 3) C dX5_prepare_12 rfl rfl ?_
  refine g_iast (pc := 13) C E layX_12 dX5_prepare_13 hf (fun hf => ?_)
  refine g_iconst (pc := 14) C dX5_prepare_14 ci_0 ?_
  refine g_istore (pc := 15) (i := 4) (L' := [(4, .int (0 : Int32)), (0, .ref (ea ε 2)), (1, .int p1), (2, .int p2), (3, .int p3)]) C dX5_prepare_15 (by decide) rfl ?_
  exact g_at [1, 2, 3, 4, 0] rfl (b17 100 p1 p2 p3 (0 : Int32) (wI (wI μ 11 (Int32.toNatClampNeg p1) p2) 12 (Int32.toNatClampNeg p1) p3) hf)
theorem dX5_put_0 : decode cX5_put 0 = .ok (.aload_n 0, 1) := by decide +kernel
theorem dX5_put_1 : decode cX5_put 1 = .ok (.getfield 13, 3) := by decide +kernel
theorem dX5_put_4 : decode cX5_put 4 = .ok (.iload_n 1, 1) := by decide +kernel
theorem dX5_put_5 : decode cX5_put 5 = .ok (.iaload, 1) := by decide +kernel
theorem dX5_put_6 : decode cX5_put 6 = .ok (.istore 6, 2) := by decide +kernel
theorem dX5_put_8 : decode cX5_put 8 = .ok (.iload 6, 2) := by decide +kernel
theorem dX5_put_10 : decode cX5_put 10 = .ok (.invokestatic 27, 3) := by decide +kernel
theorem dX5_put_13 : decode cX5_put 13 = .ok (.ifCond .eq 22, 3) := by decide +kernel
theorem dX5_put_16 : decode cX5_put 16 = .ok (.aload_n 0, 1) := by decide +kernel
theorem dX5_put_17 : decode cX5_put 17 = .ok (.iload_n 1, 1) := by decide +kernel
theorem dX5_put_18 : decode cX5_put 18 = .ok (.iload_n 2, 1) := by decide +kernel
theorem dX5_put_19 : decode cX5_put 19 = .ok (.iload 6, 2) := by decide +kernel
theorem dX5_put_21 : decode cX5_put 21 = .ok (.lload 4, 2) := by decide +kernel
theorem dX5_put_23 : decode cX5_put 23 = .ok (.iload_n 3, 1) := by decide +kernel
theorem dX5_put_24 : decode cX5_put 24 = .ok (.iload 6, 2) := by decide +kernel
theorem dX5_put_26 : decode cX5_put 26 = .ok (.invokestatic 35, 3) := by decide +kernel
theorem dX5_put_29 : decode cX5_put 29 = .ok (.invokevirtual 31, 3) := by decide +kernel
theorem dX5_put_32 : decode cX5_put 32 = .ok (.goto 12, 3) := by decide +kernel
theorem dX5_put_35 : decode cX5_put 35 = .ok (.aload_n 0, 1) := by decide +kernel
theorem dX5_put_36 : decode cX5_put 36 = .ok (.iload_n 1, 1) := by decide +kernel
theorem dX5_put_37 : decode cX5_put 37 = .ok (.iload_n 2, 1) := by decide +kernel
theorem dX5_put_38 : decode cX5_put 38 = .ok (.iload_n 3, 1) := by decide +kernel
theorem dX5_put_39 : decode cX5_put 39 = .ok (.lload 4, 2) := by decide +kernel
theorem dX5_put_41 : decode cX5_put 41 = .ok (.invokevirtual 31, 3) := by decide +kernel
theorem dX5_put_44 : decode cX5_put 44 = .ok (.return_, 1) := by decide +kernel
def fX5_put (p1 : Int32) (p2 : Int32) (p3 : Int32) (p4 : Int64) (μ : Mm) : Option Mm := (if inb p1 26 = true then ((fX7_isPrimitive (μ.1 11 (Int32.toNatClampNeg p1))).bind fun r10 => (if r10 = 0 then ((fX5_set p1 p2 p3 p4 μ).bind fun μ41 => some μ41) else ((fX2_widened p4 p3 (μ.1 11 (Int32.toNatClampNeg p1))).bind fun r26 => ((fX5_set p1 p2 (μ.1 11 (Int32.toNatClampNeg p1)) r26 μ).bind fun μ29 => some μ29)))) else none)
set_option maxRecDepth 100000 in
set_option maxHeartbeats 4000000 in
theorem kX5_put (l : Launch) (ε : Ev) (p1 : Int32) (p2 : Int32) (p3 : Int32) (p4 : Int64) (μ : Mm) (out : Mm) (hf : fX5_put p1 p2 p3 p4 μ = some out) : Sp l ε layX yX5_put cX5_put 7 none 5 [.ref (ea ε 2), .int p1, .int p2, .int p3, .long p4] none μ out := by
  refine Sp.of [(0, .ref (ea ε 2)), (1, .int p1), (2, .int p2), (3, .int p3), (4, .long p4)] rfl (by decide +kernel) (Nat.le_of_ble_eq_true rfl) ?_
  intro κ hκ C E hQ
  subst hκ
  replace C : Cf κ cX5_put 7 RX5 none 5 := C
  refine g_aload_n (pc := 0) (i := 0) (j := 0) C dX5_put_0 rfl rfl ?_
  refine g_getr (pc := 1) (j := 11) C E fdX5_13 layX_2_0 dX5_put_1 ?_
  refine g_iload_n (pc := 4) (i := 1) (j := 1) C dX5_put_4 rfl rfl ?_
  refine g_iald (pc := 5) C E layX_11 dX5_put_5 hf (fun hf => ?_)
  refine g_istore (pc := 6) (i := 6) (L' := [(6, .int (μ.1 11 (Int32.toNatClampNeg p1))), (0, .ref (ea ε 2)), (1, .int p1), (2, .int p2), (3, .int p3), (4, .long p4)]) C dX5_put_6 (by decide) rfl ?_
  refine g_iload (pc := 8) (i := 6) (j := 0) C dX5_put_8 rfl ?_
  refine g_cni (pc := 10) (st := []) C lkX5_27 (As := [.int (μ.1 11 (Int32.toNatClampNeg p1))]) rfl (fun out h => kX7_isPrimitive (kl κ) (μ.1 11 (Int32.toNatClampNeg p1)) out h) (by decide) rfl (Nat.le_of_ble_eq_true rfl) dX5_put_10 hf (fun r10 _ hf => ?_)
  refine g_if_eq (pc := 13) (tgt := 35) C dX5_put_13 rfl hf (fun _ hf => ?_) (fun _ hf => ?_)
  · refine g_aload_n (pc := 35) (i := 0) (j := 1) C dX5_put_35 rfl rfl ?_
    refine g_iload_n (pc := 36) (i := 1) (j := 2) C dX5_put_36 rfl rfl ?_
    refine g_iload_n (pc := 37) (i := 2) (j := 3) C dX5_put_37 rfl rfl ?_
    refine g_iload_n (pc := 38) (i := 3) (j := 4) C dX5_put_38 rfl rfl ?_
    refine g_lload (pc := 39) (i := 4) (j := 5) C dX5_put_39 rfl ?_
    refine g_cwv (pc := 41) (st := []) C E layX_2 lkX5_31 (As := [.int p1, .int p2, .int p3, .long p4]) rfl (fun out h => kX5_set (kl κ) ε p1 p2 p3 p4 μ out h) (by decide) rfl (Nat.le_of_ble_eq_true rfl) dX5_put_41 hf (fun μ41 _ hf => ?_)
    exact g_vretw (pc := 44) C hQ dX5_put_44 hf
  · refine g_aload_n (pc := 16) (i := 0) (j := 1) C dX5_put_16 rfl rfl ?_
    refine g_iload_n (pc := 17) (i := 1) (j := 2) C dX5_put_17 rfl rfl ?_
    refine g_iload_n (pc := 18) (i := 2) (j := 3) C dX5_put_18 rfl rfl ?_
    refine g_iload (pc := 19) (i := 6) (j := 0) C dX5_put_19 rfl ?_
    refine g_lload (pc := 21) (i := 4) (j := 5) C dX5_put_21 rfl ?_
    refine g_iload_n (pc := 23) (i := 3) (j := 4) C dX5_put_23 rfl rfl ?_
    refine g_iload (pc := 24) (i := 6) (j := 0) C dX5_put_24 rfl ?_
    refine g_cpl (pc := 26) (st := [.int (μ.1 11 (Int32.toNatClampNeg p1)), .int p2, .int p1, .ref (ea ε 2)]) C lkX5_35 (As := [.long p4, .int p3, .int (μ.1 11 (Int32.toNatClampNeg p1))]) rfl (fun out h => kX2_widened (kl κ) p4 p3 (μ.1 11 (Int32.toNatClampNeg p1)) out h) (by decide) rfl (Nat.le_of_ble_eq_true rfl) dX5_put_26 hf (fun r26 _ hf => ?_)
    refine g_cwv (pc := 29) (st := []) C E layX_2 lkX5_31 (As := [.int p1, .int p2, .int (μ.1 11 (Int32.toNatClampNeg p1)), .long r26]) rfl (fun out h => kX5_set (kl κ) ε p1 p2 (μ.1 11 (Int32.toNatClampNeg p1)) r26 μ out h) (by decide) rfl (Nat.le_of_ble_eq_true rfl) dX5_put_29 hf (fun μ29 _ hf => ?_)
    refine g_goto (pc := 32) (tgt := 44) C dX5_put_32 rfl ?_
    exact g_vretw (pc := 44) C hQ dX5_put_44 hf
theorem dX5_putAll_0 : decode cX5_putAll 0 = .ok (.iconst 0, 1) := by decide +kernel
theorem dX5_putAll_1 : decode cX5_putAll 1 = .ok (.istore 6, 2) := by decide +kernel
theorem dX5_putAll_3 : decode cX5_putAll 3 = .ok (.iload 6, 2) := by decide +kernel
theorem dX5_putAll_5 : decode cX5_putAll 5 = .ok (.iload_n 3, 1) := by decide +kernel
theorem dX5_putAll_6 : decode cX5_putAll 6 = .ok (.if_icmp .ge 38, 3) := by decide +kernel
theorem dX5_putAll_9 : decode cX5_putAll 9 = .ok (.aload_n 0, 1) := by decide +kernel
theorem dX5_putAll_10 : decode cX5_putAll 10 = .ok (.iload 4, 2) := by decide +kernel
theorem dX5_putAll_12 : decode cX5_putAll 12 = .ok (.iload 5, 2) := by decide +kernel
theorem dX5_putAll_14 : decode cX5_putAll 14 = .ok (.iload 6, 2) := by decide +kernel
theorem dX5_putAll_16 : decode cX5_putAll 16 = .ok (.iadd, 1) := by decide +kernel
theorem dX5_putAll_17 : decode cX5_putAll 17 = .ok (.aload_n 0, 1) := by decide +kernel
theorem dX5_putAll_18 : decode cX5_putAll 18 = .ok (.iload_n 1, 1) := by decide +kernel
theorem dX5_putAll_19 : decode cX5_putAll 19 = .ok (.iload_n 2, 1) := by decide +kernel
theorem dX5_putAll_20 : decode cX5_putAll 20 = .ok (.iload 6, 2) := by decide +kernel
theorem dX5_putAll_22 : decode cX5_putAll 22 = .ok (.iadd, 1) := by decide +kernel
theorem dX5_putAll_23 : decode cX5_putAll 23 = .ok (.invokevirtual 41, 3) := by decide +kernel
theorem dX5_putAll_26 : decode cX5_putAll 26 = .ok (.aload_n 0, 1) := by decide +kernel
theorem dX5_putAll_27 : decode cX5_putAll 27 = .ok (.iload_n 1, 1) := by decide +kernel
theorem dX5_putAll_28 : decode cX5_putAll 28 = .ok (.iload_n 2, 1) := by decide +kernel
theorem dX5_putAll_29 : decode cX5_putAll 29 = .ok (.iload 6, 2) := by decide +kernel
theorem dX5_putAll_31 : decode cX5_putAll 31 = .ok (.iadd, 1) := by decide +kernel
theorem dX5_putAll_32 : decode cX5_putAll 32 = .ok (.invokevirtual 45, 3) := by decide +kernel
theorem dX5_putAll_35 : decode cX5_putAll 35 = .ok (.invokevirtual 49, 3) := by decide +kernel
theorem dX5_putAll_38 : decode cX5_putAll 38 = .ok (.iinc 6 1, 3) := by decide +kernel
theorem dX5_putAll_41 : decode cX5_putAll 41 = .ok (.goto (-38), 3) := by decide +kernel
theorem dX5_putAll_44 : decode cX5_putAll 44 = .ok (.return_, 1) := by decide +kernel
def fX5_putAll_b3 : Nat → Int32 → Int32 → Int32 → Int32 → Int32 → Int32 → Mm → Option Mm
  | 0, _, _, _, _, _, _, _ => none
  | n + 1, v1, v2, v3, v4, v5, v6, μ => (if v3 ≤ v6 then some μ else ((fX5_typeAt v1 (v2 + v6) μ).bind fun r23 => ((fX5_codeAt v1 (v2 + v6) μ).bind fun r32 => ((fX5_put v4 (v5 + v6) r23 r32 μ).bind fun μ35 => (fX5_putAll_b3 n) v1 v2 v3 v4 v5 (v6 + (1 : Int32)) μ35))))
def fX5_putAll (p1 : Int32) (p2 : Int32) (p3 : Int32) (p4 : Int32) (p5 : Int32) (μ : Mm) : Option Mm := fX5_putAll_b3 100 p1 p2 p3 p4 p5 (0 : Int32) μ
set_option maxRecDepth 100000 in
set_option maxHeartbeats 4000000 in
theorem kX5_putAll (l : Launch) (ε : Ev) (p1 : Int32) (p2 : Int32) (p3 : Int32) (p4 : Int32) (p5 : Int32) (μ : Mm) (out : Mm) (hf : fX5_putAll p1 p2 p3 p4 p5 μ = some out) : Sp l ε layX yX5_putAll cX5_putAll 7 none 6 [.ref (ea ε 2), .int p1, .int p2, .int p3, .int p4, .int p5] none μ out := by
  refine Sp.of [(0, .ref (ea ε 2)), (1, .int p1), (2, .int p2), (3, .int p3), (4, .int p4), (5, .int p5)] rfl (by decide +kernel) (Nat.le_of_ble_eq_true rfl) ?_
  intro κ hκ C E hQ
  subst hκ
  replace C : Cf κ cX5_putAll 7 RX5 none 6 := C
  have b3 : ∀ (n : Nat) (v1 : Int32) (v2 : Int32) (v3 : Int32) (v4 : Int32) (v5 : Int32) (v6 : Int32) (μ : Mm) , fX5_putAll_b3 n v1 v2 v3 v4 v5 v6 μ = some out → G κ (Vw κ ε layX μ) 7 3 [(0, .ref (ea ε 2)), (1, .int v1), (2, .int v2), (3, .int v3), (4, .int v4), (5, .int v5), (6, .int v6)] [] := by
    intro n
    induction n with
    | zero => intro v1 v2 v3 v4 v5 v6 μ hf; exact none_ne hf
    | succ n ih =>
      intro v1 v2 v3 v4 v5 v6 μ hf
      refine g_iload (pc := 3) (i := 6) (j := 6) C dX5_putAll_3 rfl ?_
      refine g_iload_n (pc := 5) (i := 3) (j := 3) C dX5_putAll_5 rfl rfl ?_
      refine g_icmp_ge (pc := 6) (tgt := 44) C dX5_putAll_6 rfl hf (fun _ hf => ?_) (fun _ hf => ?_)
      · exact g_vretw (pc := 44) C hQ dX5_putAll_44 hf
      · refine g_aload_n (pc := 9) (i := 0) (j := 0) C dX5_putAll_9 rfl rfl ?_
        refine g_iload (pc := 10) (i := 4) (j := 4) C dX5_putAll_10 rfl ?_
        refine g_iload (pc := 12) (i := 5) (j := 5) C dX5_putAll_12 rfl ?_
        refine g_iload (pc := 14) (i := 6) (j := 6) C dX5_putAll_14 rfl ?_
        refine g_iadd (pc := 16) C dX5_putAll_16 ?_
        refine g_aload_n (pc := 17) (i := 0) (j := 0) C dX5_putAll_17 rfl rfl ?_
        refine g_iload_n (pc := 18) (i := 1) (j := 1) C dX5_putAll_18 rfl rfl ?_
        refine g_iload_n (pc := 19) (i := 2) (j := 2) C dX5_putAll_19 rfl rfl ?_
        refine g_iload (pc := 20) (i := 6) (j := 6) C dX5_putAll_20 rfl ?_
        refine g_iadd (pc := 22) C dX5_putAll_22 ?_
        refine g_cri (pc := 23) (st := [.int (v5 + v6), .int v4, .ref (ea ε 2)]) C E layX_2 lkX5_41 (As := [.int v1, .int (v2 + v6)]) rfl (fun out h => kX5_typeAt (kl κ) ε v1 (v2 + v6) μ out h) (by decide) rfl (Nat.le_of_ble_eq_true rfl) dX5_putAll_23 hf (fun r23 _ hf => ?_)
        refine g_aload_n (pc := 26) (i := 0) (j := 0) C dX5_putAll_26 rfl rfl ?_
        refine g_iload_n (pc := 27) (i := 1) (j := 1) C dX5_putAll_27 rfl rfl ?_
        refine g_iload_n (pc := 28) (i := 2) (j := 2) C dX5_putAll_28 rfl rfl ?_
        refine g_iload (pc := 29) (i := 6) (j := 6) C dX5_putAll_29 rfl ?_
        refine g_iadd (pc := 31) C dX5_putAll_31 ?_
        refine g_crl (pc := 32) (st := [.int r23, .int (v5 + v6), .int v4, .ref (ea ε 2)]) C E layX_2 lkX5_45 (As := [.int v1, .int (v2 + v6)]) rfl (fun out h => kX5_codeAt (kl κ) ε v1 (v2 + v6) μ out h) (by decide) rfl (Nat.le_of_ble_eq_true rfl) dX5_putAll_32 hf (fun r32 _ hf => ?_)
        refine g_cwv (pc := 35) (st := []) C E layX_2 lkX5_49 (As := [.int v4, .int (v5 + v6), .int r23, .long r32]) rfl (fun out h => kX5_put (kl κ) ε v4 (v5 + v6) r23 r32 μ out h) (by decide) rfl (Nat.le_of_ble_eq_true rfl) dX5_putAll_35 hf (fun μ35 _ hf => ?_)
        refine g_iinc (pc := 38) (i := 6) (j := 6) (v := (v6 + (1 : Int32))) (L' := [(6, .int (v6 + (1 : Int32))), (0, .ref (ea ε 2)), (1, .int v1), (2, .int v2), (3, .int v3), (4, .int v4), (5, .int v5)]) C dX5_putAll_38 rfl (cx_1 _) (by decide) rfl ?_
        refine g_goto (pc := 41) (tgt := 3) C dX5_putAll_41 rfl ?_
        exact g_at [1, 2, 3, 4, 5, 6, 0] rfl (ih v1 v2 v3 v4 v5 (v6 + (1 : Int32)) μ35 hf)
  refine g_iconst (pc := 0) C dX5_putAll_0 ci_0 ?_
  refine g_istore (pc := 1) (i := 6) (L' := [(6, .int (0 : Int32)), (0, .ref (ea ε 2)), (1, .int p1), (2, .int p2), (3, .int p3), (4, .int p4), (5, .int p5)]) C dX5_putAll_1 (by decide) rfl ?_
  exact g_at [1, 2, 3, 4, 5, 6, 0] rfl (b3 100 p1 p2 p3 p4 p5 (0 : Int32) μ hf)
theorem dX5_stoodBefore_0 : decode cX5_stoodBefore 0 = .ok (.iconst 0, 1) := by decide +kernel
theorem dX5_stoodBefore_1 : decode cX5_stoodBefore 1 = .ok (.istore_n 3, 1) := by decide +kernel
theorem dX5_stoodBefore_2 : decode cX5_stoodBefore 2 = .ok (.iload_n 3, 1) := by decide +kernel
theorem dX5_stoodBefore_3 : decode cX5_stoodBefore 3 = .ok (.iload_n 2, 1) := by decide +kernel
theorem dX5_stoodBefore_4 : decode cX5_stoodBefore 4 = .ok (.if_icmp .ge 42, 3) := by decide +kernel
theorem dX5_stoodBefore_7 : decode cX5_stoodBefore 7 = .ok (.aload_n 0, 1) := by decide +kernel
theorem dX5_stoodBefore_8 : decode cX5_stoodBefore 8 = .ok (.iload_n 1, 1) := by decide +kernel
theorem dX5_stoodBefore_9 : decode cX5_stoodBefore 9 = .ok (.iload_n 3, 1) := by decide +kernel
theorem dX5_stoodBefore_10 : decode cX5_stoodBefore 10 = .ok (.invokevirtual 41, 3) := by decide +kernel
theorem dX5_stoodBefore_13 : decode cX5_stoodBefore 13 = .ok (.aload_n 0, 1) := by decide +kernel
theorem dX5_stoodBefore_14 : decode cX5_stoodBefore 14 = .ok (.iload_n 1, 1) := by decide +kernel
theorem dX5_stoodBefore_15 : decode cX5_stoodBefore 15 = .ok (.iload_n 2, 1) := by decide +kernel
theorem dX5_stoodBefore_16 : decode cX5_stoodBefore 16 = .ok (.invokevirtual 41, 3) := by decide +kernel
theorem dX5_stoodBefore_19 : decode cX5_stoodBefore 19 = .ok (.if_icmp .ne 21, 3) := by decide +kernel
theorem dX5_stoodBefore_22 : decode cX5_stoodBefore 22 = .ok (.aload_n 0, 1) := by decide +kernel
theorem dX5_stoodBefore_23 : decode cX5_stoodBefore 23 = .ok (.iload_n 1, 1) := by decide +kernel
theorem dX5_stoodBefore_24 : decode cX5_stoodBefore 24 = .ok (.iload_n 3, 1) := by decide +kernel
theorem dX5_stoodBefore_25 : decode cX5_stoodBefore 25 = .ok (.invokevirtual 45, 3) := by decide +kernel
theorem dX5_stoodBefore_28 : decode cX5_stoodBefore 28 = .ok (.aload_n 0, 1) := by decide +kernel
theorem dX5_stoodBefore_29 : decode cX5_stoodBefore 29 = .ok (.iload_n 1, 1) := by decide +kernel
theorem dX5_stoodBefore_30 : decode cX5_stoodBefore 30 = .ok (.iload_n 2, 1) := by decide +kernel
theorem dX5_stoodBefore_31 : decode cX5_stoodBefore 31 = .ok (.invokevirtual 45, 3) := by decide +kernel
theorem dX5_stoodBefore_34 : decode cX5_stoodBefore 34 = .ok (.lcmp, 1) := by decide +kernel
theorem dX5_stoodBefore_35 : decode cX5_stoodBefore 35 = .ok (.ifCond .ne 5, 3) := by decide +kernel
theorem dX5_stoodBefore_38 : decode cX5_stoodBefore 38 = .ok (.iconst 1, 1) := by decide +kernel
theorem dX5_stoodBefore_39 : decode cX5_stoodBefore 39 = .ok (.ireturn, 1) := by decide +kernel
theorem dX5_stoodBefore_40 : decode cX5_stoodBefore 40 = .ok (.iinc 3 1, 3) := by decide +kernel
theorem dX5_stoodBefore_43 : decode cX5_stoodBefore 43 = .ok (.goto (-41), 3) := by decide +kernel
theorem dX5_stoodBefore_46 : decode cX5_stoodBefore 46 = .ok (.iconst 0, 1) := by decide +kernel
theorem dX5_stoodBefore_47 : decode cX5_stoodBefore 47 = .ok (.ireturn, 1) := by decide +kernel
def fX5_stoodBefore_b40 (μ : Mm) (k2 : Int32 → Int32 → Int32 → Option Int32) (v1 : Int32) (v2 : Int32) (v3 : Int32) : Option Int32 := k2 v1 v2 (v3 + (1 : Int32))
def fX5_stoodBefore_b2 (μ : Mm) : Nat → Int32 → Int32 → Int32 → Option Int32
  | 0, _, _, _ => none
  | n + 1, v1, v2, v3 => (if v2 ≤ v3 then some (0 : Int32) else ((fX5_typeAt v1 v3 μ).bind fun r10 => ((fX5_typeAt v1 v2 μ).bind fun r16 => (if r10 = r16 then ((fX5_codeAt v1 v3 μ).bind fun r25 => ((fX5_codeAt v1 v2 μ).bind fun r31 => (if r25 = r31 then some (1 : Int32) else fX5_stoodBefore_b40 μ (fX5_stoodBefore_b2 μ n) v1 v2 v3))) else fX5_stoodBefore_b40 μ (fX5_stoodBefore_b2 μ n) v1 v2 v3))))
def fX5_stoodBefore (p1 : Int32) (p2 : Int32) (μ : Mm) : Option Int32 := fX5_stoodBefore_b2 μ 100 p1 p2 (0 : Int32)
set_option maxRecDepth 100000 in
set_option maxHeartbeats 4000000 in
theorem kX5_stoodBefore (l : Launch) (ε : Ev) (p1 : Int32) (p2 : Int32) (μ : Mm) (out : Int32) (hf : fX5_stoodBefore p1 p2 μ = some out) : Sp l ε layX yX5_stoodBefore cX5_stoodBefore 4 (some .boolean) 1 [.ref (ea ε 2), .int p1, .int p2] (some (.int out)) μ μ := by
  refine Sp.of [(0, .ref (ea ε 2)), (1, .int p1), (2, .int p2)] rfl (by decide +kernel) (Nat.le_of_ble_eq_true rfl) ?_
  intro κ hκ C E hQ
  subst hκ
  replace C : Cf κ cX5_stoodBefore 4 RX5 (some .boolean) 1 := C
  have b40 : ∀ (k2 : Int32 → Int32 → Int32 → Option Int32) (hk2 : ∀ (v1 : Int32) (v2 : Int32) (v3 : Int32) , k2 v1 v2 v3 = some out → G κ (Vw κ ε layX μ) 4 2 [(0, .ref (ea ε 2)), (1, .int v1), (2, .int v2), (3, .int v3)] []) (v1 : Int32) (v2 : Int32) (v3 : Int32) , fX5_stoodBefore_b40 μ k2 v1 v2 v3 = some out → G κ (Vw κ ε layX μ) 4 40 [(0, .ref (ea ε 2)), (1, .int v1), (2, .int v2), (3, .int v3)] [] := by
    intro k2 hk2 v1 v2 v3 hf
    refine g_iinc (pc := 40) (i := 3) (j := 3) (v := (v3 + (1 : Int32))) (L' := [(3, .int (v3 + (1 : Int32))), (0, .ref (ea ε 2)), (1, .int v1), (2, .int v2)]) C dX5_stoodBefore_40 rfl (cx_1 _) (by decide) rfl ?_
    refine g_goto (pc := 43) (tgt := 2) C dX5_stoodBefore_43 rfl ?_
    exact g_at [1, 2, 3, 0] rfl (hk2 v1 v2 (v3 + (1 : Int32)) hf)
  have b2 : ∀ (n : Nat) (v1 : Int32) (v2 : Int32) (v3 : Int32) , fX5_stoodBefore_b2 μ n v1 v2 v3 = some out → G κ (Vw κ ε layX μ) 4 2 [(0, .ref (ea ε 2)), (1, .int v1), (2, .int v2), (3, .int v3)] [] := by
    intro n
    induction n with
    | zero => intro v1 v2 v3 hf; exact none_ne hf
    | succ n ih =>
      intro v1 v2 v3 hf
      refine g_iload_n (pc := 2) (i := 3) (j := 3) C dX5_stoodBefore_2 rfl rfl ?_
      refine g_iload_n (pc := 3) (i := 2) (j := 2) C dX5_stoodBefore_3 rfl rfl ?_
      refine g_icmp_ge (pc := 4) (tgt := 46) C dX5_stoodBefore_4 rfl hf (fun _ hf => ?_) (fun _ hf => ?_)
      · refine g_iconst (pc := 46) C dX5_stoodBefore_46 ci_0 ?_
        exact g_zret1r (pc := 47) C rfl hQ dX5_stoodBefore_47 hf
      · refine g_aload_n (pc := 7) (i := 0) (j := 0) C dX5_stoodBefore_7 rfl rfl ?_
        refine g_iload_n (pc := 8) (i := 1) (j := 1) C dX5_stoodBefore_8 rfl rfl ?_
        refine g_iload_n (pc := 9) (i := 3) (j := 3) C dX5_stoodBefore_9 rfl rfl ?_
        refine g_cri (pc := 10) (st := []) C E layX_2 lkX5_41 (As := [.int v1, .int v3]) rfl (fun out h => kX5_typeAt (kl κ) ε v1 v3 μ out h) (by decide) rfl (Nat.le_of_ble_eq_true rfl) dX5_stoodBefore_10 hf (fun r10 _ hf => ?_)
        refine g_aload_n (pc := 13) (i := 0) (j := 0) C dX5_stoodBefore_13 rfl rfl ?_
        refine g_iload_n (pc := 14) (i := 1) (j := 1) C dX5_stoodBefore_14 rfl rfl ?_
        refine g_iload_n (pc := 15) (i := 2) (j := 2) C dX5_stoodBefore_15 rfl rfl ?_
        refine g_cri (pc := 16) (st := [.int r10]) C E layX_2 lkX5_41 (As := [.int v1, .int v2]) rfl (fun out h => kX5_typeAt (kl κ) ε v1 v2 μ out h) (by decide) rfl (Nat.le_of_ble_eq_true rfl) dX5_stoodBefore_16 hf (fun r16 _ hf => ?_)
        refine g_icmp_ne (pc := 19) (tgt := 40) C dX5_stoodBefore_19 rfl hf (fun _ hf => ?_) (fun _ hf => ?_)
        · exact b40 (fX5_stoodBefore_b2 μ n) ih v1 v2 v3 hf
        · refine g_aload_n (pc := 22) (i := 0) (j := 0) C dX5_stoodBefore_22 rfl rfl ?_
          refine g_iload_n (pc := 23) (i := 1) (j := 1) C dX5_stoodBefore_23 rfl rfl ?_
          refine g_iload_n (pc := 24) (i := 3) (j := 3) C dX5_stoodBefore_24 rfl rfl ?_
          refine g_crl (pc := 25) (st := []) C E layX_2 lkX5_45 (As := [.int v1, .int v3]) rfl (fun out h => kX5_codeAt (kl κ) ε v1 v3 μ out h) (by decide) rfl (Nat.le_of_ble_eq_true rfl) dX5_stoodBefore_25 hf (fun r25 _ hf => ?_)
          refine g_aload_n (pc := 28) (i := 0) (j := 0) C dX5_stoodBefore_28 rfl rfl ?_
          refine g_iload_n (pc := 29) (i := 1) (j := 1) C dX5_stoodBefore_29 rfl rfl ?_
          refine g_iload_n (pc := 30) (i := 2) (j := 2) C dX5_stoodBefore_30 rfl rfl ?_
          refine g_crl (pc := 31) (st := [.long r25]) C E layX_2 lkX5_45 (As := [.int v1, .int v2]) rfl (fun out h => kX5_codeAt (kl κ) ε v1 v2 μ out h) (by decide) rfl (Nat.le_of_ble_eq_true rfl) dX5_stoodBefore_31 hf (fun r31 _ hf => ?_)
          refine g_lcmp_ne (pc := 34) (tgt := 40) C dX5_stoodBefore_34 dX5_stoodBefore_35 rfl hf (fun _ hf => ?_) (fun _ hf => ?_)
          · exact b40 (fX5_stoodBefore_b2 μ n) ih v1 v2 v3 hf
          · refine g_iconst (pc := 38) C dX5_stoodBefore_38 ci_1 ?_
            exact g_zret1r (pc := 39) C rfl hQ dX5_stoodBefore_39 hf
  refine g_iconst (pc := 0) C dX5_stoodBefore_0 ci_0 ?_
  refine g_istore_n (pc := 1) (i := 3) (L' := [(3, .int (0 : Int32)), (0, .ref (ea ε 2)), (1, .int p1), (2, .int p2)]) C dX5_stoodBefore_1 rfl (by decide) rfl ?_
  exact g_at [1, 2, 3, 0] rfl (b2 100 p1 p2 (0 : Int32) hf)
theorem dX6_add_0 : decode cX6_add 0 = .ok (.aload_n 0, 1) := by decide +kernel
theorem dX6_add_1 : decode cX6_add 1 = .ok (.getfield 21, 3) := by decide +kernel
theorem dX6_add_4 : decode cX6_add 4 = .ok (.bipush 6, 2) := by decide +kernel
theorem dX6_add_6 : decode cX6_add 6 = .ok (.if_icmp .lt 5, 3) := by decide +kernel
theorem dX6_add_9 : decode cX6_add 9 = .ok (.iconst 0, 1) := by decide +kernel
theorem dX6_add_10 : decode cX6_add 10 = .ok (.ireturn, 1) := by decide +kernel
theorem dX6_add_11 : decode cX6_add 11 = .ok (.aload_n 0, 1) := by decide +kernel
theorem dX6_add_12 : decode cX6_add 12 = .ok (.getfield 11, 3) := by decide +kernel
theorem dX6_add_15 : decode cX6_add 15 = .ok (.aload_n 0, 1) := by decide +kernel
theorem dX6_add_16 : decode cX6_add 16 = .ok (.getfield 21, 3) := by decide +kernel
theorem dX6_add_19 : decode cX6_add 19 = .ok (.iload_n 1, 1) := by decide +kernel
theorem dX6_add_20 : decode cX6_add 20 = .ok (.iastore, 1) := by decide +kernel
theorem dX6_add_21 : decode cX6_add 21 = .ok (.aload_n 0, 1) := by decide +kernel
theorem dX6_add_22 : decode cX6_add 22 = .ok (.getfield 15, 3) := by decide +kernel
theorem dX6_add_25 : decode cX6_add 25 = .ok (.aload_n 0, 1) := by decide +kernel
theorem dX6_add_26 : decode cX6_add 26 = .ok (.getfield 21, 3) := by decide +kernel
theorem dX6_add_29 : decode cX6_add 29 = .ok (.iload_n 2, 1) := by decide +kernel
theorem dX6_add_30 : decode cX6_add 30 = .ok (.iastore, 1) := by decide +kernel
theorem dX6_add_31 : decode cX6_add 31 = .ok (.aload_n 0, 1) := by decide +kernel
theorem dX6_add_32 : decode cX6_add 32 = .ok (.getfield 18, 3) := by decide +kernel
theorem dX6_add_35 : decode cX6_add 35 = .ok (.aload_n 0, 1) := by decide +kernel
theorem dX6_add_36 : decode cX6_add 36 = .ok (.getfield 21, 3) := by decide +kernel
theorem dX6_add_39 : decode cX6_add 39 = .ok (.iload_n 3, 1) := by decide +kernel
theorem dX6_add_40 : decode cX6_add 40 = .ok (.iastore, 1) := by decide +kernel
theorem dX6_add_41 : decode cX6_add 41 = .ok (.aload_n 0, 1) := by decide +kernel
theorem dX6_add_42 : decode cX6_add 42 = .ok (.dup, 1) := by decide +kernel
theorem dX6_add_43 : decode cX6_add 43 = .ok (.getfield 21, 3) := by decide +kernel
theorem dX6_add_46 : decode cX6_add 46 = .ok (.iconst 1, 1) := by decide +kernel
theorem dX6_add_47 : decode cX6_add 47 = .ok (.iadd, 1) := by decide +kernel
theorem dX6_add_48 : decode cX6_add 48 = .ok (.putfield 21, 3) := by decide +kernel
theorem dX6_add_51 : decode cX6_add 51 = .ok (.iconst 1, 1) := by decide +kernel
theorem dX6_add_52 : decode cX6_add 52 = .ok (.ireturn, 1) := by decide +kernel
def fX6_add (p1 : Int32) (p2 : Int32) (p3 : Int32) (μ : Mm) : Option (Int32 × Mm) := (if (μ.1 5 3) < (6 : Int32) then (if inb (μ.1 5 3) 6 = true then (if inb ((wI μ 22 (Int32.toNatClampNeg (μ.1 5 3)) p1).1 5 3) 6 = true then (if inb ((wI (wI μ 22 (Int32.toNatClampNeg (μ.1 5 3)) p1) 23 (Int32.toNatClampNeg ((wI μ 22 (Int32.toNatClampNeg (μ.1 5 3)) p1).1 5 3)) p2).1 5 3) 6 = true then some ((1 : Int32), (wI (wI (wI (wI μ 22 (Int32.toNatClampNeg (μ.1 5 3)) p1) 23 (Int32.toNatClampNeg ((wI μ 22 (Int32.toNatClampNeg (μ.1 5 3)) p1).1 5 3)) p2) 24 (Int32.toNatClampNeg ((wI (wI μ 22 (Int32.toNatClampNeg (μ.1 5 3)) p1) 23 (Int32.toNatClampNeg ((wI μ 22 (Int32.toNatClampNeg (μ.1 5 3)) p1).1 5 3)) p2).1 5 3)) p3) 5 3 (((wI (wI (wI μ 22 (Int32.toNatClampNeg (μ.1 5 3)) p1) 23 (Int32.toNatClampNeg ((wI μ 22 (Int32.toNatClampNeg (μ.1 5 3)) p1).1 5 3)) p2) 24 (Int32.toNatClampNeg ((wI (wI μ 22 (Int32.toNatClampNeg (μ.1 5 3)) p1) 23 (Int32.toNatClampNeg ((wI μ 22 (Int32.toNatClampNeg (μ.1 5 3)) p1).1 5 3)) p2).1 5 3)) p3).1 5 3) + (1 : Int32)))) else none) else none) else none) else some ((0 : Int32), μ))
set_option maxRecDepth 100000 in
set_option maxHeartbeats 4000000 in
theorem kX6_add (l : Launch) (ε : Ev) (p1 : Int32) (p2 : Int32) (p3 : Int32) (μ : Mm) (out : (Int32 × Mm)) (hf : fX6_add p1 p2 p3 μ = some out) : Sp l ε layX yX6_add cX6_add 4 (some .boolean) 0 [.ref (ea ε 5), .int p1, .int p2, .int p3] (some (.int out.1)) μ out.2 := by
  refine Sp.of [(0, .ref (ea ε 5)), (1, .int p1), (2, .int p2), (3, .int p3)] rfl (by decide +kernel) (Nat.le_of_ble_eq_true rfl) ?_
  intro κ hκ C E hQ
  subst hκ
  replace C : Cf κ cX6_add 4 RX6 (some .boolean) 0 := C
  refine g_aload_n (pc := 0) (i := 0) (j := 0) C dX6_add_0 rfl rfl ?_
  refine g_geti (pc := 1) C E fdX6_21 layX_5_3 dX6_add_1 ?_
  refine g_bipush (pc := 4) C dX6_add_4 cb_6 ?_
  refine g_icmp_lt (pc := 6) (tgt := 11) C dX6_add_6 rfl hf (fun _ hf => ?_) (fun _ hf => ?_)
  · refine g_aload_n (pc := 11) (i := 0) (j := 0) C dX6_add_11 rfl rfl ?_
    refine g_getr (pc := 12) (j := 22) C E fdX6_11 layX_5_0 dX6_add_12 ?_
    refine g_aload_n (pc := 15) (i := 0) (j := 0) C dX6_add_15 rfl rfl ?_
    refine g_geti (pc := 16) C E fdX6_21 layX_5_3 dX6_add_16 ?_
    refine g_iload_n (pc := 19) (i := 1) (j := 1) C dX6_add_19 rfl rfl ?_
    refine g_iast (pc := 20) C E layX_22 dX6_add_20 hf (fun hf => ?_)
    refine g_aload_n (pc := 21) (i := 0) (j := 0) C dX6_add_21 rfl rfl ?_
    refine g_getr (pc := 22) (j := 23) C E fdX6_15 layX_5_1 dX6_add_22 ?_
    refine g_aload_n (pc := 25) (i := 0) (j := 0) C dX6_add_25 rfl rfl ?_
    refine g_geti (pc := 26) C E fdX6_21 layX_5_3 dX6_add_26 ?_
    refine g_iload_n (pc := 29) (i := 2) (j := 2) C dX6_add_29 rfl rfl ?_
    refine g_iast (pc := 30) C E layX_23 dX6_add_30 hf (fun hf => ?_)
    refine g_aload_n (pc := 31) (i := 0) (j := 0) C dX6_add_31 rfl rfl ?_
    refine g_getr (pc := 32) (j := 24) C E fdX6_18 layX_5_2 dX6_add_32 ?_
    refine g_aload_n (pc := 35) (i := 0) (j := 0) C dX6_add_35 rfl rfl ?_
    refine g_geti (pc := 36) C E fdX6_21 layX_5_3 dX6_add_36 ?_
    refine g_iload_n (pc := 39) (i := 3) (j := 3) C dX6_add_39 rfl rfl ?_
    refine g_iast (pc := 40) C E layX_24 dX6_add_40 hf (fun hf => ?_)
    refine g_aload_n (pc := 41) (i := 0) (j := 0) C dX6_add_41 rfl rfl ?_
    refine g_dup (pc := 42) C dX6_add_42 rfl ?_
    refine g_geti (pc := 43) C E fdX6_21 layX_5_3 dX6_add_43 ?_
    refine g_iconst (pc := 46) C dX6_add_46 ci_1 ?_
    refine g_iadd (pc := 47) C dX6_add_47 ?_
    refine g_puti (pc := 48) C E fdX6_21 layX_5_3 dX6_add_48 ?_
    refine g_iconst (pc := 51) C dX6_add_51 ci_1 ?_
    exact g_zret1w (pc := 52) C rfl hQ dX6_add_52 hf
  · refine g_iconst (pc := 9) C dX6_add_9 ci_0 ?_
    exact g_zret1w (pc := 10) C rfl hQ dX6_add_10 hf
theorem dX6_allow_0 : decode cX6_allow 0 = .ok (.iconst 0, 1) := by decide +kernel
theorem dX6_allow_1 : decode cX6_allow 1 = .ok (.istore_n 2, 1) := by decide +kernel
theorem dX6_allow_2 : decode cX6_allow 2 = .ok (.iload_n 2, 1) := by decide +kernel
theorem dX6_allow_3 : decode cX6_allow 3 = .ok (.aload_n 0, 1) := by decide +kernel
theorem dX6_allow_4 : decode cX6_allow 4 = .ok (.getfield 21, 3) := by decide +kernel
theorem dX6_allow_7 : decode cX6_allow 7 = .ok (.if_icmp .ge 36, 3) := by decide +kernel
theorem dX6_allow_10 : decode cX6_allow 10 = .ok (.aload_n 0, 1) := by decide +kernel
theorem dX6_allow_11 : decode cX6_allow 11 = .ok (.getfield 11, 3) := by decide +kernel
theorem dX6_allow_14 : decode cX6_allow 14 = .ok (.iload_n 2, 1) := by decide +kernel
theorem dX6_allow_15 : decode cX6_allow 15 = .ok (.iaload, 1) := by decide +kernel
theorem dX6_allow_16 : decode cX6_allow 16 = .ok (.aload_n 0, 1) := by decide +kernel
theorem dX6_allow_17 : decode cX6_allow 17 = .ok (.getfield 15, 3) := by decide +kernel
theorem dX6_allow_20 : decode cX6_allow 20 = .ok (.iload_n 2, 1) := by decide +kernel
theorem dX6_allow_21 : decode cX6_allow 21 = .ok (.iaload, 1) := by decide +kernel
theorem dX6_allow_22 : decode cX6_allow 22 = .ok (.iload_n 1, 1) := by decide +kernel
theorem dX6_allow_23 : decode cX6_allow 23 = .ok (.invokestatic 25, 3) := by decide +kernel
theorem dX6_allow_26 : decode cX6_allow 26 = .ok (.aload_n 0, 1) := by decide +kernel
theorem dX6_allow_27 : decode cX6_allow 27 = .ok (.getfield 18, 3) := by decide +kernel
theorem dX6_allow_30 : decode cX6_allow 30 = .ok (.iload_n 2, 1) := by decide +kernel
theorem dX6_allow_31 : decode cX6_allow 31 = .ok (.iaload, 1) := by decide +kernel
theorem dX6_allow_32 : decode cX6_allow 32 = .ok (.if_icmp .eq 5, 3) := by decide +kernel
theorem dX6_allow_35 : decode cX6_allow 35 = .ok (.iconst 0, 1) := by decide +kernel
theorem dX6_allow_36 : decode cX6_allow 36 = .ok (.ireturn, 1) := by decide +kernel
theorem dX6_allow_37 : decode cX6_allow 37 = .ok (.iinc 2 1, 3) := by decide +kernel
theorem dX6_allow_40 : decode cX6_allow 40 = .ok (.goto (-38), 3) := by decide +kernel
theorem dX6_allow_43 : decode cX6_allow 43 = .ok (.iconst 1, 1) := by decide +kernel
theorem dX6_allow_44 : decode cX6_allow 44 = .ok (.ireturn, 1) := by decide +kernel
def fX6_allow_b2 (μ : Mm) : Nat → Int32 → Int32 → Option Int32
  | 0, _, _ => none
  | n + 1, v1, v2 => (if (μ.1 5 3) ≤ v2 then some (1 : Int32) else (if inb v2 6 = true then (if inb v2 6 = true then ((fX6_expected (μ.1 22 (Int32.toNatClampNeg v2)) (μ.1 23 (Int32.toNatClampNeg v2)) v1).bind fun r23 => (if inb v2 6 = true then (if r23 = (μ.1 24 (Int32.toNatClampNeg v2)) then (fX6_allow_b2 μ n) v1 (v2 + (1 : Int32)) else some (0 : Int32)) else none)) else none) else none))
def fX6_allow (p1 : Int32) (μ : Mm) : Option Int32 := fX6_allow_b2 μ 100 p1 (0 : Int32)
set_option maxRecDepth 100000 in
set_option maxHeartbeats 4000000 in
theorem kX6_allow (l : Launch) (ε : Ev) (p1 : Int32) (μ : Mm) (out : Int32) (hf : fX6_allow p1 μ = some out) : Sp l ε layX yX6_allow cX6_allow 3 (some .boolean) 4 [.ref (ea ε 5), .int p1] (some (.int out)) μ μ := by
  refine Sp.of [(0, .ref (ea ε 5)), (1, .int p1)] rfl (by decide +kernel) (Nat.le_of_ble_eq_true rfl) ?_
  intro κ hκ C E hQ
  subst hκ
  replace C : Cf κ cX6_allow 3 RX6 (some .boolean) 4 := C
  have b2 : ∀ (n : Nat) (v1 : Int32) (v2 : Int32) , fX6_allow_b2 μ n v1 v2 = some out → G κ (Vw κ ε layX μ) 3 2 [(0, .ref (ea ε 5)), (1, .int v1), (2, .int v2)] [] := by
    intro n
    induction n with
    | zero => intro v1 v2 hf; exact none_ne hf
    | succ n ih =>
      intro v1 v2 hf
      refine g_iload_n (pc := 2) (i := 2) (j := 2) C dX6_allow_2 rfl rfl ?_
      refine g_aload_n (pc := 3) (i := 0) (j := 0) C dX6_allow_3 rfl rfl ?_
      refine g_geti (pc := 4) C E fdX6_21 layX_5_3 dX6_allow_4 ?_
      refine g_icmp_ge (pc := 7) (tgt := 43) C dX6_allow_7 rfl hf (fun _ hf => ?_) (fun _ hf => ?_)
      · refine g_iconst (pc := 43) C dX6_allow_43 ci_1 ?_
        exact g_zret1r (pc := 44) C rfl hQ dX6_allow_44 hf
      · refine g_aload_n (pc := 10) (i := 0) (j := 0) C dX6_allow_10 rfl rfl ?_
        refine g_getr (pc := 11) (j := 22) C E fdX6_11 layX_5_0 dX6_allow_11 ?_
        refine g_iload_n (pc := 14) (i := 2) (j := 2) C dX6_allow_14 rfl rfl ?_
        refine g_iald (pc := 15) C E layX_22 dX6_allow_15 hf (fun hf => ?_)
        refine g_aload_n (pc := 16) (i := 0) (j := 0) C dX6_allow_16 rfl rfl ?_
        refine g_getr (pc := 17) (j := 23) C E fdX6_15 layX_5_1 dX6_allow_17 ?_
        refine g_iload_n (pc := 20) (i := 2) (j := 2) C dX6_allow_20 rfl rfl ?_
        refine g_iald (pc := 21) C E layX_23 dX6_allow_21 hf (fun hf => ?_)
        refine g_iload_n (pc := 22) (i := 1) (j := 1) C dX6_allow_22 rfl rfl ?_
        refine g_cpi (pc := 23) (st := []) C lkX6_25 (As := [.int (μ.1 22 (Int32.toNatClampNeg v2)), .int (μ.1 23 (Int32.toNatClampNeg v2)), .int v1]) rfl (fun out h => kX6_expected (kl κ) (μ.1 22 (Int32.toNatClampNeg v2)) (μ.1 23 (Int32.toNatClampNeg v2)) v1 out h) (by decide) rfl (Nat.le_of_ble_eq_true rfl) dX6_allow_23 hf (fun r23 _ hf => ?_)
        refine g_aload_n (pc := 26) (i := 0) (j := 0) C dX6_allow_26 rfl rfl ?_
        refine g_getr (pc := 27) (j := 24) C E fdX6_18 layX_5_2 dX6_allow_27 ?_
        refine g_iload_n (pc := 30) (i := 2) (j := 2) C dX6_allow_30 rfl rfl ?_
        refine g_iald (pc := 31) C E layX_24 dX6_allow_31 hf (fun hf => ?_)
        refine g_icmp_eq (pc := 32) (tgt := 37) C dX6_allow_32 rfl hf (fun _ hf => ?_) (fun _ hf => ?_)
        · refine g_iinc (pc := 37) (i := 2) (j := 2) (v := (v2 + (1 : Int32))) (L' := [(2, .int (v2 + (1 : Int32))), (0, .ref (ea ε 5)), (1, .int v1)]) C dX6_allow_37 rfl (cx_1 _) (by decide) rfl ?_
          refine g_goto (pc := 40) (tgt := 2) C dX6_allow_40 rfl ?_
          exact g_at [1, 2, 0] rfl (ih v1 (v2 + (1 : Int32)) hf)
        · refine g_iconst (pc := 35) C dX6_allow_35 ci_0 ?_
          exact g_zret1r (pc := 36) C rfl hQ dX6_allow_36 hf
  refine g_iconst (pc := 0) C dX6_allow_0 ci_0 ?_
  refine g_istore_n (pc := 1) (i := 2) (L' := [(2, .int (0 : Int32)), (0, .ref (ea ε 5)), (1, .int p1)]) C dX6_allow_1 rfl (by decide) rfl ?_
  exact g_at [1, 2, 0] rfl (b2 100 p1 (0 : Int32) hf)
