theorem dX7_firstSlotOf_0 : decode cX7_firstSlotOf 0 = .ok (.iconst 0, 1) := by decide +kernel
theorem dX7_firstSlotOf_1 : decode cX7_firstSlotOf 1 = .ok (.istore_n 2, 1) := by decide +kernel
theorem dX7_firstSlotOf_2 : decode cX7_firstSlotOf 2 = .ok (.iload_n 2, 1) := by decide +kernel
theorem dX7_firstSlotOf_3 : decode cX7_firstSlotOf 3 = .ok (.bipush 10, 2) := by decide +kernel
theorem dX7_firstSlotOf_5 : decode cX7_firstSlotOf 5 = .ok (.if_icmp .ge 19, 3) := by decide +kernel
theorem dX7_firstSlotOf_8 : decode cX7_firstSlotOf 8 = .ok (.aload_n 0, 1) := by decide +kernel
theorem dX7_firstSlotOf_9 : decode cX7_firstSlotOf 9 = .ok (.getfield 44, 3) := by decide +kernel
theorem dX7_firstSlotOf_12 : decode cX7_firstSlotOf 12 = .ok (.iload_n 2, 1) := by decide +kernel
theorem dX7_firstSlotOf_13 : decode cX7_firstSlotOf 13 = .ok (.iaload, 1) := by decide +kernel
theorem dX7_firstSlotOf_14 : decode cX7_firstSlotOf 14 = .ok (.iload_n 1, 1) := by decide +kernel
theorem dX7_firstSlotOf_15 : decode cX7_firstSlotOf 15 = .ok (.if_icmp .eq 9, 3) := by decide +kernel
theorem dX7_firstSlotOf_18 : decode cX7_firstSlotOf 18 = .ok (.iinc 2 1, 3) := by decide +kernel
theorem dX7_firstSlotOf_21 : decode cX7_firstSlotOf 21 = .ok (.goto (-19), 3) := by decide +kernel
theorem dX7_firstSlotOf_24 : decode cX7_firstSlotOf 24 = .ok (.iload_n 2, 1) := by decide +kernel
theorem dX7_firstSlotOf_25 : decode cX7_firstSlotOf 25 = .ok (.ireturn, 1) := by decide +kernel
def fX7_firstSlotOf_b2 (μ : Mm) : Nat → Int32 → Int32 → Option Int32
  | 0, _, _ => none
  | n + 1, v1, v2 => (if (10 : Int32) ≤ v2 then some v2 else (if inb v2 10 = true then (if (μ.1 6 (Int32.toNatClampNeg v2)) = v1 then some v2 else (fX7_firstSlotOf_b2 μ n) v1 (v2 + (1 : Int32))) else none))
def fX7_firstSlotOf (p1 : Int32) (μ : Mm) : Option Int32 := fX7_firstSlotOf_b2 μ 100 p1 (0 : Int32)
set_option maxRecDepth 100000 in
set_option maxHeartbeats 4000000 in
theorem kX7_firstSlotOf (l : Launch) (ε : Ev) (p1 : Int32) (μ : Mm) (out : Int32) (hf : fX7_firstSlotOf p1 μ = some out) : Sp l ε layX yX7_firstSlotOf cX7_firstSlotOf 3 (some .int) 0 [.ref (ea ε 0), .int p1] (some (.int out)) μ μ := by
  refine Sp.of [(0, .ref (ea ε 0)), (1, .int p1)] rfl (by decide +kernel) (Nat.le_of_ble_eq_true rfl) ?_
  intro κ hκ C E hQ
  subst hκ
  replace C : Cf κ cX7_firstSlotOf 3 RX7 (some .int) 0 := C
  have b2 : ∀ (n : Nat) (v1 : Int32) (v2 : Int32) , fX7_firstSlotOf_b2 μ n v1 v2 = some out → G κ (Vw κ ε layX μ) 3 2 [(0, .ref (ea ε 0)), (1, .int v1), (2, .int v2)] [] := by
    intro n
    induction n with
    | zero => intro v1 v2 hf; exact none_ne hf
    | succ n ih =>
      intro v1 v2 hf
      refine g_iload_n (pc := 2) (i := 2) (j := 2) C dX7_firstSlotOf_2 rfl rfl ?_
      refine g_bipush (pc := 3) C dX7_firstSlotOf_3 cb_10 ?_
      refine g_icmp_ge (pc := 5) (tgt := 24) C dX7_firstSlotOf_5 rfl hf (fun _ hf => ?_) (fun _ hf => ?_)
      · refine g_iload_n (pc := 24) (i := 2) (j := 2) C dX7_firstSlotOf_24 rfl rfl ?_
        exact g_iretr (pc := 25) C hQ dX7_firstSlotOf_25 hf
      · refine g_aload_n (pc := 8) (i := 0) (j := 0) C dX7_firstSlotOf_8 rfl rfl ?_
        refine g_getr (pc := 9) (j := 6) C E fdX7_44 layX_0_5 dX7_firstSlotOf_9 ?_
        refine g_iload_n (pc := 12) (i := 2) (j := 2) C dX7_firstSlotOf_12 rfl rfl ?_
        refine g_iald (pc := 13) C E layX_6 dX7_firstSlotOf_13 hf (fun hf => ?_)
        refine g_iload_n (pc := 14) (i := 1) (j := 1) C dX7_firstSlotOf_14 rfl rfl ?_
        refine g_icmp_eq (pc := 15) (tgt := 24) C dX7_firstSlotOf_15 rfl hf (fun _ hf => ?_) (fun _ hf => ?_)
        · refine g_iload_n (pc := 24) (i := 2) (j := 2) C dX7_firstSlotOf_24 rfl rfl ?_
          exact g_iretr (pc := 25) C hQ dX7_firstSlotOf_25 hf
        · refine g_iinc (pc := 18) (i := 2) (j := 2) (v := (v2 + (1 : Int32))) (L' := [(2, .int (v2 + (1 : Int32))), (0, .ref (ea ε 0)), (1, .int v1)]) C dX7_firstSlotOf_18 rfl (cx_1 _) (by decide) rfl ?_
          refine g_goto (pc := 21) (tgt := 2) C dX7_firstSlotOf_21 rfl ?_
          exact g_at [1, 2, 0] rfl (ih v1 (v2 + (1 : Int32)) hf)
  refine g_iconst (pc := 0) C dX7_firstSlotOf_0 ci_0 ?_
  refine g_istore_n (pc := 1) (i := 2) (L' := [(2, .int (0 : Int32)), (0, .ref (ea ε 0)), (1, .int p1)]) C dX7_firstSlotOf_1 rfl (by decide) rfl ?_
  exact g_at [1, 2, 0] rfl (b2 100 p1 (0 : Int32) hf)
theorem dX7_thingIn_0 : decode cX7_thingIn 0 = .ok (.aload_n 0, 1) := by decide +kernel
theorem dX7_thingIn_1 : decode cX7_thingIn 1 = .ok (.getfield 19, 3) := by decide +kernel
theorem dX7_thingIn_4 : decode cX7_thingIn 4 = .ok (.getfield 292, 3) := by decide +kernel
theorem dX7_thingIn_7 : decode cX7_thingIn 7 = .ok (.aload_n 0, 1) := by decide +kernel
theorem dX7_thingIn_8 : decode cX7_thingIn 8 = .ok (.getfield 44, 3) := by decide +kernel
theorem dX7_thingIn_11 : decode cX7_thingIn 11 = .ok (.iload_n 1, 1) := by decide +kernel
theorem dX7_thingIn_12 : decode cX7_thingIn 12 = .ok (.iaload, 1) := by decide +kernel
theorem dX7_thingIn_13 : decode cX7_thingIn 13 = .ok (.iaload, 1) := by decide +kernel
theorem dX7_thingIn_14 : decode cX7_thingIn 14 = .ok (.ireturn, 1) := by decide +kernel
def fX7_thingIn (p1 : Int32) (μ : Mm) : Option Int32 := (if inb p1 10 = true then (if inb (μ.1 6 (Int32.toNatClampNeg p1)) 26 = true then some (μ.1 11 (Int32.toNatClampNeg (μ.1 6 (Int32.toNatClampNeg p1)))) else none) else none)
set_option maxRecDepth 100000 in
set_option maxHeartbeats 4000000 in
theorem kX7_thingIn (l : Launch) (ε : Ev) (p1 : Int32) (μ : Mm) (out : Int32) (hf : fX7_thingIn p1 μ = some out) : Sp l ε layX yX7_thingIn cX7_thingIn 2 (some .int) 0 [.ref (ea ε 0), .int p1] (some (.int out)) μ μ := by
  refine Sp.of [(0, .ref (ea ε 0)), (1, .int p1)] rfl (by decide +kernel) (Nat.le_of_ble_eq_true rfl) ?_
  intro κ hκ C E hQ
  subst hκ
  replace C : Cf κ cX7_thingIn 2 RX7 (some .int) 0 := C
  refine g_aload_n (pc := 0) (i := 0) (j := 0) C dX7_thingIn_0 rfl rfl ?_
  refine g_getr (pc := 1) (j := 2) C E fdX7_19 layX_0_1 dX7_thingIn_1 ?_
  refine g_getr (pc := 4) (j := 11) C E fdX7_292 layX_2_0 dX7_thingIn_4 ?_
  refine g_aload_n (pc := 7) (i := 0) (j := 0) C dX7_thingIn_7 rfl rfl ?_
  refine g_getr (pc := 8) (j := 6) C E fdX7_44 layX_0_5 dX7_thingIn_8 ?_
  refine g_iload_n (pc := 11) (i := 1) (j := 1) C dX7_thingIn_11 rfl rfl ?_
  refine g_iald (pc := 12) C E layX_6 dX7_thingIn_12 hf (fun hf => ?_)
  refine g_iald (pc := 13) C E layX_11 dX7_thingIn_13 hf (fun hf => ?_)
  exact g_iretr (pc := 14) C hQ dX7_thingIn_14 hf
theorem dX7_holdsArray_0 : decode cX7_holdsArray 0 = .ok (.aload_n 0, 1) := by decide +kernel
theorem dX7_holdsArray_1 : decode cX7_holdsArray 1 = .ok (.iload_n 1, 1) := by decide +kernel
theorem dX7_holdsArray_2 : decode cX7_holdsArray 2 = .ok (.invokevirtual 125, 3) := by decide +kernel
theorem dX7_holdsArray_5 : decode cX7_holdsArray 5 = .ok (.bipush 12, 2) := by decide +kernel
theorem dX7_holdsArray_7 : decode cX7_holdsArray 7 = .ok (.if_icmp .gt 7, 3) := by decide +kernel
theorem dX7_holdsArray_10 : decode cX7_holdsArray 10 = .ok (.iconst 1, 1) := by decide +kernel
theorem dX7_holdsArray_11 : decode cX7_holdsArray 11 = .ok (.goto 4, 3) := by decide +kernel
theorem dX7_holdsArray_14 : decode cX7_holdsArray 14 = .ok (.iconst 0, 1) := by decide +kernel
theorem dX7_holdsArray_15 : decode cX7_holdsArray 15 = .ok (.ireturn, 1) := by decide +kernel
def fX7_holdsArray (p1 : Int32) (μ : Mm) : Option Int32 := ((fX7_thingIn p1 μ).bind fun r2 => (if (12 : Int32) < r2 then some (0 : Int32) else some (1 : Int32)))
set_option maxRecDepth 100000 in
set_option maxHeartbeats 4000000 in
theorem kX7_holdsArray (l : Launch) (ε : Ev) (p1 : Int32) (μ : Mm) (out : Int32) (hf : fX7_holdsArray p1 μ = some out) : Sp l ε layX yX7_holdsArray cX7_holdsArray 2 (some .boolean) 1 [.ref (ea ε 0), .int p1] (some (.int out)) μ μ := by
  refine Sp.of [(0, .ref (ea ε 0)), (1, .int p1)] rfl (by decide +kernel) (Nat.le_of_ble_eq_true rfl) ?_
  intro κ hκ C E hQ
  subst hκ
  replace C : Cf κ cX7_holdsArray 2 RX7 (some .boolean) 1 := C
  refine g_aload_n (pc := 0) (i := 0) (j := 0) C dX7_holdsArray_0 rfl rfl ?_
  refine g_iload_n (pc := 1) (i := 1) (j := 1) C dX7_holdsArray_1 rfl rfl ?_
  refine g_cri (pc := 2) (st := []) C E layX_0 lkX7_125 (As := [.int p1]) rfl (fun out h => kX7_thingIn (kl κ) ε p1 μ out h) (by decide) rfl (Nat.le_of_ble_eq_true rfl) dX7_holdsArray_2 hf (fun r2 _ hf => ?_)
  refine g_bipush (pc := 5) C dX7_holdsArray_5 cb_12 ?_
  refine g_icmp_gt (pc := 7) (tgt := 14) C dX7_holdsArray_7 rfl hf (fun _ hf => ?_) (fun _ hf => ?_)
  · refine g_iconst (pc := 14) C dX7_holdsArray_14 ci_0 ?_
    exact g_zret1r (pc := 15) C rfl hQ dX7_holdsArray_15 hf
  · refine g_iconst (pc := 10) C dX7_holdsArray_10 ci_1 ?_
    refine g_goto (pc := 11) (tgt := 15) C dX7_holdsArray_11 rfl ?_
    exact g_zret1r (pc := 15) C rfl hQ dX7_holdsArray_15 hf
theorem dX7_countArrays_0 : decode cX7_countArrays 0 = .ok (.iconst 0, 1) := by decide +kernel
theorem dX7_countArrays_1 : decode cX7_countArrays 1 = .ok (.istore_n 2, 1) := by decide +kernel
theorem dX7_countArrays_2 : decode cX7_countArrays 2 = .ok (.iconst 0, 1) := by decide +kernel
theorem dX7_countArrays_3 : decode cX7_countArrays 3 = .ok (.istore_n 3, 1) := by decide +kernel
theorem dX7_countArrays_4 : decode cX7_countArrays 4 = .ok (.iload_n 3, 1) := by decide +kernel
theorem dX7_countArrays_5 : decode cX7_countArrays 5 = .ok (.bipush 10, 2) := by decide +kernel
theorem dX7_countArrays_7 : decode cX7_countArrays 7 = .ok (.if_icmp .ge 56, 3) := by decide +kernel
theorem dX7_countArrays_10 : decode cX7_countArrays 10 = .ok (.aload_n 0, 1) := by decide +kernel
theorem dX7_countArrays_11 : decode cX7_countArrays 11 = .ok (.getfield 44, 3) := by decide +kernel
theorem dX7_countArrays_14 : decode cX7_countArrays 14 = .ok (.iload_n 3, 1) := by decide +kernel
theorem dX7_countArrays_15 : decode cX7_countArrays 15 = .ok (.iaload, 1) := by decide +kernel
theorem dX7_countArrays_16 : decode cX7_countArrays 16 = .ok (.istore 4, 2) := by decide +kernel
theorem dX7_countArrays_18 : decode cX7_countArrays 18 = .ok (.aload_n 0, 1) := by decide +kernel
theorem dX7_countArrays_19 : decode cX7_countArrays 19 = .ok (.iload_n 3, 1) := by decide +kernel
theorem dX7_countArrays_20 : decode cX7_countArrays 20 = .ok (.invokevirtual 129, 3) := by decide +kernel
theorem dX7_countArrays_23 : decode cX7_countArrays 23 = .ok (.ifCond .eq 34, 3) := by decide +kernel
theorem dX7_countArrays_26 : decode cX7_countArrays 26 = .ok (.aload_n 0, 1) := by decide +kernel
theorem dX7_countArrays_27 : decode cX7_countArrays 27 = .ok (.iload 4, 2) := by decide +kernel
theorem dX7_countArrays_29 : decode cX7_countArrays 29 = .ok (.invokevirtual 319, 3) := by decide +kernel
theorem dX7_countArrays_32 : decode cX7_countArrays 32 = .ok (.iload_n 3, 1) := by decide +kernel
theorem dX7_countArrays_33 : decode cX7_countArrays 33 = .ok (.if_icmp .ne 24, 3) := by decide +kernel
theorem dX7_countArrays_36 : decode cX7_countArrays 36 = .ok (.iload_n 2, 1) := by decide +kernel
theorem dX7_countArrays_37 : decode cX7_countArrays 37 = .ok (.iload_n 1, 1) := by decide +kernel
theorem dX7_countArrays_38 : decode cX7_countArrays 38 = .ok (.ifCond .eq 16, 3) := by decide +kernel
theorem dX7_countArrays_41 : decode cX7_countArrays 41 = .ok (.aload_n 0, 1) := by decide +kernel
theorem dX7_countArrays_42 : decode cX7_countArrays 42 = .ok (.getfield 19, 3) := by decide +kernel
theorem dX7_countArrays_45 : decode cX7_countArrays 45 = .ok (.getfield 132, 3) := by decide +kernel
theorem dX7_countArrays_48 : decode cX7_countArrays 48 = .ok (.iload 4, 2) := by decide +kernel
theorem dX7_countArrays_50 : decode cX7_countArrays 50 = .ok (.iaload, 1) := by decide +kernel
theorem dX7_countArrays_51 : decode cX7_countArrays 51 = .ok (.goto 4, 3) := by decide +kernel
theorem dX7_countArrays_54 : decode cX7_countArrays 54 = .ok (.iconst 1, 1) := by decide +kernel
theorem dX7_countArrays_55 : decode cX7_countArrays 55 = .ok (.iadd, 1) := by decide +kernel
theorem dX7_countArrays_56 : decode cX7_countArrays 56 = .ok (.istore_n 2, 1) := by decide +kernel
theorem dX7_countArrays_57 : decode cX7_countArrays 57 = .ok (.iinc 3 1, 3) := by decide +kernel
theorem dX7_countArrays_60 : decode cX7_countArrays 60 = .ok (.goto (-56), 3) := by decide +kernel
theorem dX7_countArrays_63 : decode cX7_countArrays 63 = .ok (.iload_n 2, 1) := by decide +kernel
theorem dX7_countArrays_64 : decode cX7_countArrays 64 = .ok (.ireturn, 1) := by decide +kernel
def fX7_countArrays_b57 (μ : Mm) (k4 : Int32 → Int32 → Int32 → Option Int32) (v1 : Int32) (v2 : Int32) (v3 : Int32) : Option Int32 := k4 v1 v2 (v3 + (1 : Int32))
def fX7_countArrays_b55 (μ : Mm) (k4 : Int32 → Int32 → Int32 → Option Int32) (v1 : Int32) (v3 : Int32) (s0 : Int32) (s1 : Int32) : Option Int32 := fX7_countArrays_b57 μ k4 v1 (s1 + s0) v3
def fX7_countArrays_b4 (μ : Mm) : Nat → Int32 → Int32 → Int32 → Option Int32
  | 0, _, _, _ => none
  | n + 1, v1, v2, v3 => (if (10 : Int32) ≤ v3 then some v2 else (if inb v3 10 = true then ((fX7_holdsArray v3 μ).bind fun r20 => (if r20 = 0 then fX7_countArrays_b57 μ (fX7_countArrays_b4 μ n) v1 v2 v3 else ((fX7_firstSlotOf (μ.1 6 (Int32.toNatClampNeg v3)) μ).bind fun r29 => (if r29 = v3 then (if v1 = 0 then fX7_countArrays_b55 μ (fX7_countArrays_b4 μ n) v1 v3 (1 : Int32) v2 else (if inb (μ.1 6 (Int32.toNatClampNeg v3)) 26 = true then fX7_countArrays_b55 μ (fX7_countArrays_b4 μ n) v1 v3 (μ.1 12 (Int32.toNatClampNeg (μ.1 6 (Int32.toNatClampNeg v3)))) v2 else none)) else fX7_countArrays_b57 μ (fX7_countArrays_b4 μ n) v1 v2 v3)))) else none))
def fX7_countArrays (p1 : Int32) (μ : Mm) : Option Int32 := fX7_countArrays_b4 μ 100 p1 (0 : Int32) (0 : Int32)
set_option maxRecDepth 100000 in
set_option maxHeartbeats 4000000 in
theorem kX7_countArrays (l : Launch) (ε : Ev) (p1 : Int32) (μ : Mm) (out : Int32) (hf : fX7_countArrays p1 μ = some out) : Sp l ε layX yX7_countArrays cX7_countArrays 5 (some .int) 2 [.ref (ea ε 0), .int p1] (some (.int out)) μ μ := by
  refine Sp.of [(0, .ref (ea ε 0)), (1, .int p1)] rfl (by decide +kernel) (Nat.le_of_ble_eq_true rfl) ?_
  intro κ hκ C E hQ
  subst hκ
  replace C : Cf κ cX7_countArrays 5 RX7 (some .int) 2 := C
  have b57 : ∀ (k4 : Int32 → Int32 → Int32 → Option Int32) (hk4 : ∀ (v1 : Int32) (v2 : Int32) (v3 : Int32) , k4 v1 v2 v3 = some out → G κ (Vw κ ε layX μ) 5 4 [(0, .ref (ea ε 0)), (1, .int v1), (2, .int v2), (3, .int v3)] []) (v1 : Int32) (v2 : Int32) (v3 : Int32) , fX7_countArrays_b57 μ k4 v1 v2 v3 = some out → G κ (Vw κ ε layX μ) 5 57 [(0, .ref (ea ε 0)), (1, .int v1), (2, .int v2), (3, .int v3)] [] := by
    intro k4 hk4 v1 v2 v3 hf
    refine g_iinc (pc := 57) (i := 3) (j := 3) (v := (v3 + (1 : Int32))) (L' := [(3, .int (v3 + (1 : Int32))), (0, .ref (ea ε 0)), (1, .int v1), (2, .int v2)]) C dX7_countArrays_57 rfl (cx_1 _) (by decide) rfl ?_
    refine g_goto (pc := 60) (tgt := 4) C dX7_countArrays_60 rfl ?_
    exact g_at [1, 2, 3, 0] rfl (hk4 v1 v2 (v3 + (1 : Int32)) hf)
  have b55 : ∀ (k4 : Int32 → Int32 → Int32 → Option Int32) (hk4 : ∀ (v1 : Int32) (v2 : Int32) (v3 : Int32) , k4 v1 v2 v3 = some out → G κ (Vw κ ε layX μ) 5 4 [(0, .ref (ea ε 0)), (1, .int v1), (2, .int v2), (3, .int v3)] []) (v1 : Int32) (v3 : Int32) (s0 : Int32) (s1 : Int32) , fX7_countArrays_b55 μ k4 v1 v3 s0 s1 = some out → G κ (Vw κ ε layX μ) 5 55 [(0, .ref (ea ε 0)), (1, .int v1), (3, .int v3)] [.int s0, .int s1] := by
    intro k4 hk4 v1 v3 s0 s1 hf
    refine g_iadd (pc := 55) C dX7_countArrays_55 ?_
    refine g_istore_n (pc := 56) (i := 2) (L' := [(2, .int (s1 + s0)), (0, .ref (ea ε 0)), (1, .int v1), (3, .int v3)]) C dX7_countArrays_56 rfl (by decide) rfl ?_
    exact g_at [1, 2, 0, 3] rfl (b57 k4 hk4 v1 (s1 + s0) v3 hf)
  have b4 : ∀ (n : Nat) (v1 : Int32) (v2 : Int32) (v3 : Int32) , fX7_countArrays_b4 μ n v1 v2 v3 = some out → G κ (Vw κ ε layX μ) 5 4 [(0, .ref (ea ε 0)), (1, .int v1), (2, .int v2), (3, .int v3)] [] := by
    intro n
    induction n with
    | zero => intro v1 v2 v3 hf; exact none_ne hf
    | succ n ih =>
      intro v1 v2 v3 hf
      refine g_iload_n (pc := 4) (i := 3) (j := 3) C dX7_countArrays_4 rfl rfl ?_
      refine g_bipush (pc := 5) C dX7_countArrays_5 cb_10 ?_
      refine g_icmp_ge (pc := 7) (tgt := 63) C dX7_countArrays_7 rfl hf (fun _ hf => ?_) (fun _ hf => ?_)
      · refine g_iload_n (pc := 63) (i := 2) (j := 2) C dX7_countArrays_63 rfl rfl ?_
        exact g_iretr (pc := 64) C hQ dX7_countArrays_64 hf
      · refine g_aload_n (pc := 10) (i := 0) (j := 0) C dX7_countArrays_10 rfl rfl ?_
        refine g_getr (pc := 11) (j := 6) C E fdX7_44 layX_0_5 dX7_countArrays_11 ?_
        refine g_iload_n (pc := 14) (i := 3) (j := 3) C dX7_countArrays_14 rfl rfl ?_
        refine g_iald (pc := 15) C E layX_6 dX7_countArrays_15 hf (fun hf => ?_)
        refine g_istore (pc := 16) (i := 4) (L' := [(4, .int (μ.1 6 (Int32.toNatClampNeg v3))), (0, .ref (ea ε 0)), (1, .int v1), (2, .int v2), (3, .int v3)]) C dX7_countArrays_16 (by decide) rfl ?_
        refine g_aload_n (pc := 18) (i := 0) (j := 1) C dX7_countArrays_18 rfl rfl ?_
        refine g_iload_n (pc := 19) (i := 3) (j := 4) C dX7_countArrays_19 rfl rfl ?_
        refine g_cri (pc := 20) (st := []) C E layX_0 lkX7_129 (As := [.int v3]) rfl (fun out h => kX7_holdsArray (kl κ) ε v3 μ out h) (by decide) rfl (Nat.le_of_ble_eq_true rfl) dX7_countArrays_20 hf (fun r20 _ hf => ?_)
        refine g_if_eq (pc := 23) (tgt := 57) C dX7_countArrays_23 rfl hf (fun _ hf => ?_) (fun _ hf => ?_)
        · exact g_at [1, 2, 3, 4] rfl (b57 (fX7_countArrays_b4 μ n) ih v1 v2 v3 hf)
        · refine g_aload_n (pc := 26) (i := 0) (j := 1) C dX7_countArrays_26 rfl rfl ?_
          refine g_iload (pc := 27) (i := 4) (j := 0) C dX7_countArrays_27 rfl ?_
          refine g_cri (pc := 29) (st := []) C E layX_0 lkX7_319 (As := [.int (μ.1 6 (Int32.toNatClampNeg v3))]) rfl (fun out h => kX7_firstSlotOf (kl κ) ε (μ.1 6 (Int32.toNatClampNeg v3)) μ out h) (by decide) rfl (Nat.le_of_ble_eq_true rfl) dX7_countArrays_29 hf (fun r29 _ hf => ?_)
          refine g_iload_n (pc := 32) (i := 3) (j := 4) C dX7_countArrays_32 rfl rfl ?_
          refine g_icmp_ne (pc := 33) (tgt := 57) C dX7_countArrays_33 rfl hf (fun _ hf => ?_) (fun _ hf => ?_)
          · exact g_at [1, 2, 3, 4] rfl (b57 (fX7_countArrays_b4 μ n) ih v1 v2 v3 hf)
          · refine g_iload_n (pc := 36) (i := 2) (j := 3) C dX7_countArrays_36 rfl rfl ?_
            refine g_iload_n (pc := 37) (i := 1) (j := 2) C dX7_countArrays_37 rfl rfl ?_
            refine g_if_eq (pc := 38) (tgt := 54) C dX7_countArrays_38 rfl hf (fun _ hf => ?_) (fun _ hf => ?_)
            · refine g_iconst (pc := 54) C dX7_countArrays_54 ci_1 ?_
              exact g_at [1, 2, 4] rfl (b55 (fX7_countArrays_b4 μ n) ih v1 v3 (1 : Int32) v2 hf)
            · refine g_aload_n (pc := 41) (i := 0) (j := 1) C dX7_countArrays_41 rfl rfl ?_
              refine g_getr (pc := 42) (j := 2) C E fdX7_19 layX_0_1 dX7_countArrays_42 ?_
              refine g_getr (pc := 45) (j := 12) C E fdX7_132 layX_2_1 dX7_countArrays_45 ?_
              refine g_iload (pc := 48) (i := 4) (j := 0) C dX7_countArrays_48 rfl ?_
              refine g_iald (pc := 50) C E layX_12 dX7_countArrays_50 hf (fun hf => ?_)
              refine g_goto (pc := 51) (tgt := 55) C dX7_countArrays_51 rfl ?_
              exact g_at [1, 2, 4] rfl (b55 (fX7_countArrays_b4 μ n) ih v1 v3 (μ.1 12 (Int32.toNatClampNeg (μ.1 6 (Int32.toNatClampNeg v3)))) v2 hf)
  refine g_iconst (pc := 0) C dX7_countArrays_0 ci_0 ?_
  refine g_istore_n (pc := 1) (i := 2) (L' := [(2, .int (0 : Int32)), (0, .ref (ea ε 0)), (1, .int p1)]) C dX7_countArrays_1 rfl (by decide) rfl ?_
  refine g_iconst (pc := 2) C dX7_countArrays_2 ci_0 ?_
  refine g_istore_n (pc := 3) (i := 3) (L' := [(3, .int (0 : Int32)), (2, .int (0 : Int32)), (0, .ref (ea ε 0)), (1, .int p1)]) C dX7_countArrays_3 rfl (by decide) rfl ?_
  exact g_at [2, 3, 1, 0] rfl (b4 100 p1 (0 : Int32) (0 : Int32) hf)
theorem dX7_countEmptySlots_0 : decode cX7_countEmptySlots 0 = .ok (.iconst 0, 1) := by decide +kernel
theorem dX7_countEmptySlots_1 : decode cX7_countEmptySlots 1 = .ok (.istore_n 1, 1) := by decide +kernel
theorem dX7_countEmptySlots_2 : decode cX7_countEmptySlots 2 = .ok (.iconst 0, 1) := by decide +kernel
theorem dX7_countEmptySlots_3 : decode cX7_countEmptySlots 3 = .ok (.istore_n 2, 1) := by decide +kernel
theorem dX7_countEmptySlots_4 : decode cX7_countEmptySlots 4 = .ok (.iload_n 2, 1) := by decide +kernel
theorem dX7_countEmptySlots_5 : decode cX7_countEmptySlots 5 = .ok (.bipush 10, 2) := by decide +kernel
theorem dX7_countEmptySlots_7 : decode cX7_countEmptySlots 7 = .ok (.if_icmp .ge 22, 3) := by decide +kernel
theorem dX7_countEmptySlots_10 : decode cX7_countEmptySlots 10 = .ok (.aload_n 0, 1) := by decide +kernel
theorem dX7_countEmptySlots_11 : decode cX7_countEmptySlots 11 = .ok (.iload_n 2, 1) := by decide +kernel
theorem dX7_countEmptySlots_12 : decode cX7_countEmptySlots 12 = .ok (.invokevirtual 125, 3) := by decide +kernel
theorem dX7_countEmptySlots_15 : decode cX7_countEmptySlots 15 = .ok (.bipush 15, 2) := by decide +kernel
theorem dX7_countEmptySlots_17 : decode cX7_countEmptySlots 17 = .ok (.if_icmp .ne 6, 3) := by decide +kernel
theorem dX7_countEmptySlots_20 : decode cX7_countEmptySlots 20 = .ok (.iinc 1 1, 3) := by decide +kernel
theorem dX7_countEmptySlots_23 : decode cX7_countEmptySlots 23 = .ok (.iinc 2 1, 3) := by decide +kernel
theorem dX7_countEmptySlots_26 : decode cX7_countEmptySlots 26 = .ok (.goto (-22), 3) := by decide +kernel
theorem dX7_countEmptySlots_29 : decode cX7_countEmptySlots 29 = .ok (.iload_n 1, 1) := by decide +kernel
theorem dX7_countEmptySlots_30 : decode cX7_countEmptySlots 30 = .ok (.ireturn, 1) := by decide +kernel
def fX7_countEmptySlots_b23 (μ : Mm) (k4 : Int32 → Int32 → Option Int32) (v1 : Int32) (v2 : Int32) : Option Int32 := k4 v1 (v2 + (1 : Int32))
def fX7_countEmptySlots_b4 (μ : Mm) : Nat → Int32 → Int32 → Option Int32
  | 0, _, _ => none
  | n + 1, v1, v2 => (if (10 : Int32) ≤ v2 then some v1 else ((fX7_thingIn v2 μ).bind fun r12 => (if r12 = (15 : Int32) then fX7_countEmptySlots_b23 μ (fX7_countEmptySlots_b4 μ n) (v1 + (1 : Int32)) v2 else fX7_countEmptySlots_b23 μ (fX7_countEmptySlots_b4 μ n) v1 v2)))
def fX7_countEmptySlots  (μ : Mm) : Option Int32 := fX7_countEmptySlots_b4 μ 100 (0 : Int32) (0 : Int32)
set_option maxRecDepth 100000 in
set_option maxHeartbeats 4000000 in
theorem kX7_countEmptySlots (l : Launch) (ε : Ev)  (μ : Mm) (out : Int32) (hf : fX7_countEmptySlots μ = some out) : Sp l ε layX yX7_countEmptySlots cX7_countEmptySlots 3 (some .int) 1 [.ref (ea ε 0)] (some (.int out)) μ μ := by
  refine Sp.of [(0, .ref (ea ε 0))] rfl (by decide +kernel) (Nat.le_of_ble_eq_true rfl) ?_
  intro κ hκ C E hQ
  subst hκ
  replace C : Cf κ cX7_countEmptySlots 3 RX7 (some .int) 1 := C
  have b23 : ∀ (k4 : Int32 → Int32 → Option Int32) (hk4 : ∀ (v1 : Int32) (v2 : Int32) , k4 v1 v2 = some out → G κ (Vw κ ε layX μ) 3 4 [(0, .ref (ea ε 0)), (1, .int v1), (2, .int v2)] []) (v1 : Int32) (v2 : Int32) , fX7_countEmptySlots_b23 μ k4 v1 v2 = some out → G κ (Vw κ ε layX μ) 3 23 [(0, .ref (ea ε 0)), (1, .int v1), (2, .int v2)] [] := by
    intro k4 hk4 v1 v2 hf
    refine g_iinc (pc := 23) (i := 2) (j := 2) (v := (v2 + (1 : Int32))) (L' := [(2, .int (v2 + (1 : Int32))), (0, .ref (ea ε 0)), (1, .int v1)]) C dX7_countEmptySlots_23 rfl (cx_1 _) (by decide) rfl ?_
    refine g_goto (pc := 26) (tgt := 4) C dX7_countEmptySlots_26 rfl ?_
    exact g_at [1, 2, 0] rfl (hk4 v1 (v2 + (1 : Int32)) hf)
  have b4 : ∀ (n : Nat) (v1 : Int32) (v2 : Int32) , fX7_countEmptySlots_b4 μ n v1 v2 = some out → G κ (Vw κ ε layX μ) 3 4 [(0, .ref (ea ε 0)), (1, .int v1), (2, .int v2)] [] := by
    intro n
    induction n with
    | zero => intro v1 v2 hf; exact none_ne hf
    | succ n ih =>
      intro v1 v2 hf
      refine g_iload_n (pc := 4) (i := 2) (j := 2) C dX7_countEmptySlots_4 rfl rfl ?_
      refine g_bipush (pc := 5) C dX7_countEmptySlots_5 cb_10 ?_
      refine g_icmp_ge (pc := 7) (tgt := 29) C dX7_countEmptySlots_7 rfl hf (fun _ hf => ?_) (fun _ hf => ?_)
      · refine g_iload_n (pc := 29) (i := 1) (j := 1) C dX7_countEmptySlots_29 rfl rfl ?_
        exact g_iretr (pc := 30) C hQ dX7_countEmptySlots_30 hf
      · refine g_aload_n (pc := 10) (i := 0) (j := 0) C dX7_countEmptySlots_10 rfl rfl ?_
        refine g_iload_n (pc := 11) (i := 2) (j := 2) C dX7_countEmptySlots_11 rfl rfl ?_
        refine g_cri (pc := 12) (st := []) C E layX_0 lkX7_125 (As := [.int v2]) rfl (fun out h => kX7_thingIn (kl κ) ε v2 μ out h) (by decide) rfl (Nat.le_of_ble_eq_true rfl) dX7_countEmptySlots_12 hf (fun r12 _ hf => ?_)
        refine g_bipush (pc := 15) C dX7_countEmptySlots_15 cb_15 ?_
        refine g_icmp_ne (pc := 17) (tgt := 23) C dX7_countEmptySlots_17 rfl hf (fun _ hf => ?_) (fun _ hf => ?_)
        · exact b23 (fX7_countEmptySlots_b4 μ n) ih v1 v2 hf
        · refine g_iinc (pc := 20) (i := 1) (j := 1) (v := (v1 + (1 : Int32))) (L' := [(1, .int (v1 + (1 : Int32))), (0, .ref (ea ε 0)), (2, .int v2)]) C dX7_countEmptySlots_20 rfl (cx_1 _) (by decide) rfl ?_
          exact g_at [1, 0, 2] rfl (b23 (fX7_countEmptySlots_b4 μ n) ih (v1 + (1 : Int32)) v2 hf)
  refine g_iconst (pc := 0) C dX7_countEmptySlots_0 ci_0 ?_
  refine g_istore_n (pc := 1) (i := 1) (L' := [(1, .int (0 : Int32)), (0, .ref (ea ε 0))]) C dX7_countEmptySlots_1 rfl (by decide) rfl ?_
  refine g_iconst (pc := 2) C dX7_countEmptySlots_2 ci_0 ?_
  refine g_istore_n (pc := 3) (i := 2) (L' := [(2, .int (0 : Int32)), (1, .int (0 : Int32)), (0, .ref (ea ε 0))]) C dX7_countEmptySlots_3 rfl (by decide) rfl ?_
  exact g_at [2, 1, 0] rfl (b4 100 (0 : Int32) (0 : Int32) hf)
theorem dX7_countFine_0 : decode cX7_countFine 0 = .ok (.iconst 0, 1) := by decide +kernel
theorem dX7_countFine_1 : decode cX7_countFine 1 = .ok (.istore_n 1, 1) := by decide +kernel
theorem dX7_countFine_2 : decode cX7_countFine 2 = .ok (.iconst 0, 1) := by decide +kernel
theorem dX7_countFine_3 : decode cX7_countFine 3 = .ok (.istore_n 2, 1) := by decide +kernel
theorem dX7_countFine_4 : decode cX7_countFine 4 = .ok (.iload_n 2, 1) := by decide +kernel
theorem dX7_countFine_5 : decode cX7_countFine 5 = .ok (.aload_n 0, 1) := by decide +kernel
theorem dX7_countFine_6 : decode cX7_countFine 6 = .ok (.getfield 51, 3) := by decide +kernel
theorem dX7_countFine_9 : decode cX7_countFine 9 = .ok (.if_icmp .ge 21, 3) := by decide +kernel
theorem dX7_countFine_12 : decode cX7_countFine 12 = .ok (.aload_n 0, 1) := by decide +kernel
theorem dX7_countFine_13 : decode cX7_countFine 13 = .ok (.getfield 48, 3) := by decide +kernel
theorem dX7_countFine_16 : decode cX7_countFine 16 = .ok (.iload_n 2, 1) := by decide +kernel
theorem dX7_countFine_17 : decode cX7_countFine 17 = .ok (.iaload, 1) := by decide +kernel
theorem dX7_countFine_18 : decode cX7_countFine 18 = .ok (.ifCond .ne 6, 3) := by decide +kernel
theorem dX7_countFine_21 : decode cX7_countFine 21 = .ok (.iinc 1 1, 3) := by decide +kernel
theorem dX7_countFine_24 : decode cX7_countFine 24 = .ok (.iinc 2 1, 3) := by decide +kernel
theorem dX7_countFine_27 : decode cX7_countFine 27 = .ok (.goto (-23), 3) := by decide +kernel
theorem dX7_countFine_30 : decode cX7_countFine 30 = .ok (.iload_n 1, 1) := by decide +kernel
theorem dX7_countFine_31 : decode cX7_countFine 31 = .ok (.ireturn, 1) := by decide +kernel
def fX7_countFine_b24 (μ : Mm) (k4 : Int32 → Int32 → Option Int32) (v1 : Int32) (v2 : Int32) : Option Int32 := k4 v1 (v2 + (1 : Int32))
def fX7_countFine_b4 (μ : Mm) : Nat → Int32 → Int32 → Option Int32
  | 0, _, _ => none
  | n + 1, v1, v2 => (if (μ.1 0 7) ≤ v2 then some v1 else (if inb v2 6 = true then (if (μ.1 7 (Int32.toNatClampNeg v2)) = 0 then fX7_countFine_b24 μ (fX7_countFine_b4 μ n) (v1 + (1 : Int32)) v2 else fX7_countFine_b24 μ (fX7_countFine_b4 μ n) v1 v2) else none))
def fX7_countFine  (μ : Mm) : Option Int32 := fX7_countFine_b4 μ 100 (0 : Int32) (0 : Int32)
set_option maxRecDepth 100000 in
set_option maxHeartbeats 4000000 in
theorem kX7_countFine (l : Launch) (ε : Ev)  (μ : Mm) (out : Int32) (hf : fX7_countFine μ = some out) : Sp l ε layX yX7_countFine cX7_countFine 3 (some .int) 0 [.ref (ea ε 0)] (some (.int out)) μ μ := by
  refine Sp.of [(0, .ref (ea ε 0))] rfl (by decide +kernel) (Nat.le_of_ble_eq_true rfl) ?_
  intro κ hκ C E hQ
  subst hκ
  replace C : Cf κ cX7_countFine 3 RX7 (some .int) 0 := C
  have b24 : ∀ (k4 : Int32 → Int32 → Option Int32) (hk4 : ∀ (v1 : Int32) (v2 : Int32) , k4 v1 v2 = some out → G κ (Vw κ ε layX μ) 3 4 [(0, .ref (ea ε 0)), (1, .int v1), (2, .int v2)] []) (v1 : Int32) (v2 : Int32) , fX7_countFine_b24 μ k4 v1 v2 = some out → G κ (Vw κ ε layX μ) 3 24 [(0, .ref (ea ε 0)), (1, .int v1), (2, .int v2)] [] := by
    intro k4 hk4 v1 v2 hf
    refine g_iinc (pc := 24) (i := 2) (j := 2) (v := (v2 + (1 : Int32))) (L' := [(2, .int (v2 + (1 : Int32))), (0, .ref (ea ε 0)), (1, .int v1)]) C dX7_countFine_24 rfl (cx_1 _) (by decide) rfl ?_
    refine g_goto (pc := 27) (tgt := 4) C dX7_countFine_27 rfl ?_
    exact g_at [1, 2, 0] rfl (hk4 v1 (v2 + (1 : Int32)) hf)
  have b4 : ∀ (n : Nat) (v1 : Int32) (v2 : Int32) , fX7_countFine_b4 μ n v1 v2 = some out → G κ (Vw κ ε layX μ) 3 4 [(0, .ref (ea ε 0)), (1, .int v1), (2, .int v2)] [] := by
    intro n
    induction n with
    | zero => intro v1 v2 hf; exact none_ne hf
    | succ n ih =>
      intro v1 v2 hf
      refine g_iload_n (pc := 4) (i := 2) (j := 2) C dX7_countFine_4 rfl rfl ?_
      refine g_aload_n (pc := 5) (i := 0) (j := 0) C dX7_countFine_5 rfl rfl ?_
      refine g_geti (pc := 6) C E fdX7_51 layX_0_7 dX7_countFine_6 ?_
      refine g_icmp_ge (pc := 9) (tgt := 30) C dX7_countFine_9 rfl hf (fun _ hf => ?_) (fun _ hf => ?_)
      · refine g_iload_n (pc := 30) (i := 1) (j := 1) C dX7_countFine_30 rfl rfl ?_
        exact g_iretr (pc := 31) C hQ dX7_countFine_31 hf
      · refine g_aload_n (pc := 12) (i := 0) (j := 0) C dX7_countFine_12 rfl rfl ?_
        refine g_getr (pc := 13) (j := 7) C E fdX7_48 layX_0_6 dX7_countFine_13 ?_
        refine g_iload_n (pc := 16) (i := 2) (j := 2) C dX7_countFine_16 rfl rfl ?_
        refine g_iald (pc := 17) C E layX_7 dX7_countFine_17 hf (fun hf => ?_)
        refine g_if_ne (pc := 18) (tgt := 24) C dX7_countFine_18 rfl hf (fun _ hf => ?_) (fun _ hf => ?_)
        · exact b24 (fX7_countFine_b4 μ n) ih v1 v2 hf
        · refine g_iinc (pc := 21) (i := 1) (j := 1) (v := (v1 + (1 : Int32))) (L' := [(1, .int (v1 + (1 : Int32))), (0, .ref (ea ε 0)), (2, .int v2)]) C dX7_countFine_21 rfl (cx_1 _) (by decide) rfl ?_
          exact g_at [1, 0, 2] rfl (b24 (fX7_countFine_b4 μ n) ih (v1 + (1 : Int32)) v2 hf)
  refine g_iconst (pc := 0) C dX7_countFine_0 ci_0 ?_
  refine g_istore_n (pc := 1) (i := 1) (L' := [(1, .int (0 : Int32)), (0, .ref (ea ε 0))]) C dX7_countFine_1 rfl (by decide) rfl ?_
  refine g_iconst (pc := 2) C dX7_countFine_2 ci_0 ?_
  refine g_istore_n (pc := 3) (i := 2) (L' := [(2, .int (0 : Int32)), (1, .int (0 : Int32)), (0, .ref (ea ε 0))]) C dX7_countFine_3 rfl (by decide) rfl ?_
  exact g_at [2, 1, 0] rfl (b4 100 (0 : Int32) (0 : Int32) hf)
theorem dX7_about_0 : decode cX7_about 0 = .ok (.iload_n 1, 1) := by decide +kernel
theorem dX7_about_1 : decode cX7_about 1 = .ok (.tableswitch 101 0 7 #[47, 55, 63, 71, 79, 85, 91, 96], 47) := by decide +kernel
theorem dX7_about_48 : decode cX7_about 48 = .ok (.aload_n 0, 1) := by decide +kernel
theorem dX7_about_49 : decode cX7_about 49 = .ok (.getfield 33, 3) := by decide +kernel
theorem dX7_about_52 : decode cX7_about 52 = .ok (.getfield 110, 3) := by decide +kernel
theorem dX7_about_55 : decode cX7_about 55 = .ok (.ireturn, 1) := by decide +kernel
theorem dX7_about_56 : decode cX7_about 56 = .ok (.aload_n 0, 1) := by decide +kernel
theorem dX7_about_57 : decode cX7_about 57 = .ok (.getfield 26, 3) := by decide +kernel
theorem dX7_about_60 : decode cX7_about 60 = .ok (.getfield 111, 3) := by decide +kernel
theorem dX7_about_63 : decode cX7_about 63 = .ok (.ireturn, 1) := by decide +kernel
theorem dX7_about_64 : decode cX7_about 64 = .ok (.aload_n 0, 1) := by decide +kernel
theorem dX7_about_65 : decode cX7_about 65 = .ok (.getfield 40, 3) := by decide +kernel
theorem dX7_about_68 : decode cX7_about 68 = .ok (.getfield 114, 3) := by decide +kernel
theorem dX7_about_71 : decode cX7_about 71 = .ok (.ireturn, 1) := by decide +kernel
theorem dX7_about_72 : decode cX7_about 72 = .ok (.aload_n 0, 1) := by decide +kernel
theorem dX7_about_73 : decode cX7_about 73 = .ok (.getfield 12, 3) := by decide +kernel
theorem dX7_about_76 : decode cX7_about 76 = .ok (.getfield 69, 3) := by decide +kernel
theorem dX7_about_79 : decode cX7_about 79 = .ok (.ireturn, 1) := by decide +kernel
theorem dX7_about_80 : decode cX7_about 80 = .ok (.aload_n 0, 1) := by decide +kernel
theorem dX7_about_81 : decode cX7_about 81 = .ok (.iconst 0, 1) := by decide +kernel
theorem dX7_about_82 : decode cX7_about 82 = .ok (.invokevirtual 115, 3) := by decide +kernel
theorem dX7_about_85 : decode cX7_about 85 = .ok (.ireturn, 1) := by decide +kernel
theorem dX7_about_86 : decode cX7_about 86 = .ok (.aload_n 0, 1) := by decide +kernel
theorem dX7_about_87 : decode cX7_about 87 = .ok (.iconst 1, 1) := by decide +kernel
theorem dX7_about_88 : decode cX7_about 88 = .ok (.invokevirtual 115, 3) := by decide +kernel
theorem dX7_about_91 : decode cX7_about 91 = .ok (.ireturn, 1) := by decide +kernel
theorem dX7_about_92 : decode cX7_about 92 = .ok (.aload_n 0, 1) := by decide +kernel
theorem dX7_about_93 : decode cX7_about 93 = .ok (.invokevirtual 119, 3) := by decide +kernel
theorem dX7_about_96 : decode cX7_about 96 = .ok (.ireturn, 1) := by decide +kernel
theorem dX7_about_97 : decode cX7_about 97 = .ok (.aload_n 0, 1) := by decide +kernel
theorem dX7_about_98 : decode cX7_about 98 = .ok (.invokevirtual 122, 3) := by decide +kernel
theorem dX7_about_101 : decode cX7_about 101 = .ok (.ireturn, 1) := by decide +kernel
theorem dX7_about_102 : decode cX7_about 102 = .ok (.bipush (-2), 2) := by decide +kernel
theorem dX7_about_104 : decode cX7_about 104 = .ok (.ireturn, 1) := by decide +kernel
def fX7_about (p1 : Int32) (μ : Mm) : Option Int32 := (if p1 = 0 then some (μ.1 4 1) else (if p1 = 1 then some (μ.1 3 7) else (if p1 = 2 then some (μ.1 5 3) else (if p1 = 3 then some (μ.1 1 1) else (if p1 = 4 then ((fX7_countArrays (0 : Int32) μ).bind fun r82 => some r82) else (if p1 = 5 then ((fX7_countArrays (1 : Int32) μ).bind fun r88 => some r88) else (if p1 = 6 then ((fX7_countEmptySlots μ).bind fun r93 => some r93) else (if p1 = 7 then ((fX7_countFine μ).bind fun r98 => some r98) else some (-2 : Int32)))))))))
set_option maxRecDepth 100000 in
set_option maxHeartbeats 4000000 in
theorem kX7_about (l : Launch) (ε : Ev) (p1 : Int32) (μ : Mm) (out : Int32) (hf : fX7_about p1 μ = some out) : Sp l ε layX yX7_about cX7_about 2 (some .int) 3 [.ref (ea ε 0), .int p1] (some (.int out)) μ μ := by
  refine Sp.of [(0, .ref (ea ε 0)), (1, .int p1)] rfl (by decide +kernel) (Nat.le_of_ble_eq_true rfl) ?_
  intro κ hκ C E hQ
  subst hκ
  replace C : Cf κ cX7_about 2 RX7 (some .int) 3 := C
  refine g_iload_n (pc := 0) (i := 1) (j := 1) C dX7_about_0 rfl rfl ?_
  by_cases h1_0 : p1 = 0
  · replace hf := ite_t h1_0 hf
    refine g_tabIn (pc := 1) (v := 0) (off := 47) (tgt := 48) C dX7_about_1 h1_0 (by decide) rfl ?_
    refine g_aload_n (pc := 48) (i := 0) (j := 0) C dX7_about_48 rfl rfl ?_
    refine g_getr (pc := 49) (j := 4) C E fdX7_33 layX_0_3 dX7_about_49 ?_
    refine g_geti (pc := 52) C E fdX7_110 layX_4_1 dX7_about_52 ?_
    exact g_iretr (pc := 55) C hQ dX7_about_55 hf
  replace hf := ite_f h1_0 hf
  by_cases h1_1 : p1 = 1
  · replace hf := ite_t h1_1 hf
    refine g_tabIn (pc := 1) (v := 1) (off := 55) (tgt := 56) C dX7_about_1 h1_1 (by decide) rfl ?_
    refine g_aload_n (pc := 56) (i := 0) (j := 0) C dX7_about_56 rfl rfl ?_
    refine g_getr (pc := 57) (j := 3) C E fdX7_26 layX_0_2 dX7_about_57 ?_
    refine g_geti (pc := 60) C E fdX7_111 layX_3_7 dX7_about_60 ?_
    exact g_iretr (pc := 63) C hQ dX7_about_63 hf
  replace hf := ite_f h1_1 hf
  by_cases h1_2 : p1 = 2
  · replace hf := ite_t h1_2 hf
    refine g_tabIn (pc := 1) (v := 2) (off := 63) (tgt := 64) C dX7_about_1 h1_2 (by decide) rfl ?_
    refine g_aload_n (pc := 64) (i := 0) (j := 0) C dX7_about_64 rfl rfl ?_
    refine g_getr (pc := 65) (j := 5) C E fdX7_40 layX_0_4 dX7_about_65 ?_
    refine g_geti (pc := 68) C E fdX7_114 layX_5_3 dX7_about_68 ?_
    exact g_iretr (pc := 71) C hQ dX7_about_71 hf
  replace hf := ite_f h1_2 hf
  by_cases h1_3 : p1 = 3
  · replace hf := ite_t h1_3 hf
    refine g_tabIn (pc := 1) (v := 3) (off := 71) (tgt := 72) C dX7_about_1 h1_3 (by decide) rfl ?_
    refine g_aload_n (pc := 72) (i := 0) (j := 0) C dX7_about_72 rfl rfl ?_
    refine g_getr (pc := 73) (j := 1) C E fdX7_12 layX_0_0 dX7_about_73 ?_
    refine g_geti (pc := 76) C E fdX7_69 layX_1_1 dX7_about_76 ?_
    exact g_iretr (pc := 79) C hQ dX7_about_79 hf
  replace hf := ite_f h1_3 hf
  by_cases h1_4 : p1 = 4
  · replace hf := ite_t h1_4 hf
    refine g_tabIn (pc := 1) (v := 4) (off := 79) (tgt := 80) C dX7_about_1 h1_4 (by decide) rfl ?_
    refine g_aload_n (pc := 80) (i := 0) (j := 0) C dX7_about_80 rfl rfl ?_
    refine g_iconst (pc := 81) C dX7_about_81 ci_0 ?_
    refine g_cri (pc := 82) (st := []) C E layX_0 lkX7_115 (As := [.int (0 : Int32)]) rfl (fun out h => kX7_countArrays (kl κ) ε (0 : Int32) μ out h) (by decide) rfl (Nat.le_of_ble_eq_true rfl) dX7_about_82 hf (fun r82 _ hf => ?_)
    exact g_iretr (pc := 85) C hQ dX7_about_85 hf
  replace hf := ite_f h1_4 hf
  by_cases h1_5 : p1 = 5
  · replace hf := ite_t h1_5 hf
    refine g_tabIn (pc := 1) (v := 5) (off := 85) (tgt := 86) C dX7_about_1 h1_5 (by decide) rfl ?_
    refine g_aload_n (pc := 86) (i := 0) (j := 0) C dX7_about_86 rfl rfl ?_
    refine g_iconst (pc := 87) C dX7_about_87 ci_1 ?_
    refine g_cri (pc := 88) (st := []) C E layX_0 lkX7_115 (As := [.int (1 : Int32)]) rfl (fun out h => kX7_countArrays (kl κ) ε (1 : Int32) μ out h) (by decide) rfl (Nat.le_of_ble_eq_true rfl) dX7_about_88 hf (fun r88 _ hf => ?_)
    exact g_iretr (pc := 91) C hQ dX7_about_91 hf
  replace hf := ite_f h1_5 hf
  by_cases h1_6 : p1 = 6
  · replace hf := ite_t h1_6 hf
    refine g_tabIn (pc := 1) (v := 6) (off := 91) (tgt := 92) C dX7_about_1 h1_6 (by decide) rfl ?_
    refine g_aload_n (pc := 92) (i := 0) (j := 0) C dX7_about_92 rfl rfl ?_
    refine g_cri (pc := 93) (st := []) C E layX_0 lkX7_119 (As := []) rfl (fun out h => kX7_countEmptySlots (kl κ) ε μ out h) (by decide) rfl (Nat.le_of_ble_eq_true rfl) dX7_about_93 hf (fun r93 _ hf => ?_)
    exact g_iretr (pc := 96) C hQ dX7_about_96 hf
  replace hf := ite_f h1_6 hf
  by_cases h1_7 : p1 = 7
  · replace hf := ite_t h1_7 hf
    refine g_tabIn (pc := 1) (v := 7) (off := 96) (tgt := 97) C dX7_about_1 h1_7 (by decide) rfl ?_
    refine g_aload_n (pc := 97) (i := 0) (j := 0) C dX7_about_97 rfl rfl ?_
    refine g_cri (pc := 98) (st := []) C E layX_0 lkX7_122 (As := []) rfl (fun out h => kX7_countFine (kl κ) ε μ out h) (by decide) rfl (Nat.le_of_ble_eq_true rfl) dX7_about_98 hf (fun r98 _ hf => ?_)
    exact g_iretr (pc := 101) C hQ dX7_about_101 hf
  replace hf := ite_f h1_7 hf
  have e1_0 := i32_ne (n := 0) h1_0 (by decide)
  have e1_1 := i32_ne (n := 1) h1_1 (by decide)
  have e1_2 := i32_ne (n := 2) h1_2 (by decide)
  have e1_3 := i32_ne (n := 3) h1_3 (by decide)
  have e1_4 := i32_ne (n := 4) h1_4 (by decide)
  have e1_5 := i32_ne (n := 5) h1_5 (by decide)
  have e1_6 := i32_ne (n := 6) h1_6 (by decide)
  have e1_7 := i32_ne (n := 7) h1_7 (by decide)
  refine g_tabOut (pc := 1) (tgt := 102) C dX7_about_1 (by omega) rfl ?_
  refine g_bipush (pc := 102) C dX7_about_102 cb_m2 ?_
  exact g_iretr (pc := 104) C hQ dX7_about_104 hf
theorem dX7_alike_0 : decode cX7_alike 0 = .ok (.iload_n 1, 1) := by decide +kernel
theorem dX7_alike_1 : decode cX7_alike 1 = .ok (.invokestatic 76, 3) := by decide +kernel
theorem dX7_alike_4 : decode cX7_alike 4 = .ok (.ifCond .eq 10, 3) := by decide +kernel
theorem dX7_alike_7 : decode cX7_alike 7 = .ok (.iload_n 2, 1) := by decide +kernel
theorem dX7_alike_8 : decode cX7_alike 8 = .ok (.invokestatic 76, 3) := by decide +kernel
theorem dX7_alike_11 : decode cX7_alike 11 = .ok (.ifCond .ne 5, 3) := by decide +kernel
theorem dX7_alike_14 : decode cX7_alike 14 = .ok (.iconst (-1), 1) := by decide +kernel
theorem dX7_alike_15 : decode cX7_alike 15 = .ok (.ireturn, 1) := by decide +kernel
theorem dX7_alike_16 : decode cX7_alike 16 = .ok (.aload_n 0, 1) := by decide +kernel
theorem dX7_alike_17 : decode cX7_alike 17 = .ok (.iload_n 1, 1) := by decide +kernel
theorem dX7_alike_18 : decode cX7_alike 18 = .ok (.invokevirtual 129, 3) := by decide +kernel
theorem dX7_alike_21 : decode cX7_alike 21 = .ok (.ifCond .eq 11, 3) := by decide +kernel
theorem dX7_alike_24 : decode cX7_alike 24 = .ok (.aload_n 0, 1) := by decide +kernel
theorem dX7_alike_25 : decode cX7_alike 25 = .ok (.iload_n 2, 1) := by decide +kernel
theorem dX7_alike_26 : decode cX7_alike 26 = .ok (.invokevirtual 129, 3) := by decide +kernel
theorem dX7_alike_29 : decode cX7_alike 29 = .ok (.ifCond .ne 6, 3) := by decide +kernel
theorem dX7_alike_32 : decode cX7_alike 32 = .ok (.bipush (-3), 2) := by decide +kernel
theorem dX7_alike_34 : decode cX7_alike 34 = .ok (.ireturn, 1) := by decide +kernel
theorem dX7_alike_35 : decode cX7_alike 35 = .ok (.aload_n 0, 1) := by decide +kernel
theorem dX7_alike_36 : decode cX7_alike 36 = .ok (.getfield 44, 3) := by decide +kernel
theorem dX7_alike_39 : decode cX7_alike 39 = .ok (.iload_n 1, 1) := by decide +kernel
theorem dX7_alike_40 : decode cX7_alike 40 = .ok (.iaload, 1) := by decide +kernel
theorem dX7_alike_41 : decode cX7_alike 41 = .ok (.istore_n 3, 1) := by decide +kernel
theorem dX7_alike_42 : decode cX7_alike 42 = .ok (.aload_n 0, 1) := by decide +kernel
theorem dX7_alike_43 : decode cX7_alike 43 = .ok (.getfield 44, 3) := by decide +kernel
theorem dX7_alike_46 : decode cX7_alike 46 = .ok (.iload_n 2, 1) := by decide +kernel
theorem dX7_alike_47 : decode cX7_alike 47 = .ok (.iaload, 1) := by decide +kernel
theorem dX7_alike_48 : decode cX7_alike 48 = .ok (.istore 4, 2) := by decide +kernel
theorem dX7_alike_50 : decode cX7_alike 50 = .ok (.aload_n 0, 1) := by decide +kernel
theorem dX7_alike_51 : decode cX7_alike 51 = .ok (.getfield 19, 3) := by decide +kernel
theorem dX7_alike_54 : decode cX7_alike 54 = .ok (.getfield 132, 3) := by decide +kernel
theorem dX7_alike_57 : decode cX7_alike 57 = .ok (.iload_n 3, 1) := by decide +kernel
theorem dX7_alike_58 : decode cX7_alike 58 = .ok (.iaload, 1) := by decide +kernel
theorem dX7_alike_59 : decode cX7_alike 59 = .ok (.aload_n 0, 1) := by decide +kernel
theorem dX7_alike_60 : decode cX7_alike 60 = .ok (.getfield 19, 3) := by decide +kernel
theorem dX7_alike_63 : decode cX7_alike 63 = .ok (.getfield 132, 3) := by decide +kernel
theorem dX7_alike_66 : decode cX7_alike 66 = .ok (.iload 4, 2) := by decide +kernel
theorem dX7_alike_68 : decode cX7_alike 68 = .ok (.iaload, 1) := by decide +kernel
theorem dX7_alike_69 : decode cX7_alike 69 = .ok (.invokestatic 221, 3) := by decide +kernel
theorem dX7_alike_72 : decode cX7_alike 72 = .ok (.istore 5, 2) := by decide +kernel
theorem dX7_alike_74 : decode cX7_alike 74 = .ok (.iconst 0, 1) := by decide +kernel
theorem dX7_alike_75 : decode cX7_alike 75 = .ok (.istore 6, 2) := by decide +kernel
theorem dX7_alike_77 : decode cX7_alike 77 = .ok (.iload 6, 2) := by decide +kernel
theorem dX7_alike_79 : decode cX7_alike 79 = .ok (.iload 5, 2) := by decide +kernel
theorem dX7_alike_81 : decode cX7_alike 81 = .ok (.if_icmp .ge 27, 3) := by decide +kernel
theorem dX7_alike_84 : decode cX7_alike 84 = .ok (.aload_n 0, 1) := by decide +kernel
theorem dX7_alike_85 : decode cX7_alike 85 = .ok (.getfield 19, 3) := by decide +kernel
theorem dX7_alike_88 : decode cX7_alike 88 = .ok (.iload_n 3, 1) := by decide +kernel
theorem dX7_alike_89 : decode cX7_alike 89 = .ok (.iload 4, 2) := by decide +kernel
theorem dX7_alike_91 : decode cX7_alike 91 = .ok (.iload 6, 2) := by decide +kernel
theorem dX7_alike_93 : decode cX7_alike 93 = .ok (.invokevirtual 261, 3) := by decide +kernel
theorem dX7_alike_96 : decode cX7_alike 96 = .ok (.ifCond .ne 6, 3) := by decide +kernel
theorem dX7_alike_99 : decode cX7_alike 99 = .ok (.iload 6, 2) := by decide +kernel
theorem dX7_alike_101 : decode cX7_alike 101 = .ok (.ireturn, 1) := by decide +kernel
theorem dX7_alike_102 : decode cX7_alike 102 = .ok (.iinc 6 1, 3) := by decide +kernel
theorem dX7_alike_105 : decode cX7_alike 105 = .ok (.goto (-28), 3) := by decide +kernel
theorem dX7_alike_108 : decode cX7_alike 108 = .ok (.aload_n 0, 1) := by decide +kernel
theorem dX7_alike_109 : decode cX7_alike 109 = .ok (.getfield 19, 3) := by decide +kernel
theorem dX7_alike_112 : decode cX7_alike 112 = .ok (.getfield 132, 3) := by decide +kernel
theorem dX7_alike_115 : decode cX7_alike 115 = .ok (.iload_n 3, 1) := by decide +kernel
theorem dX7_alike_116 : decode cX7_alike 116 = .ok (.iaload, 1) := by decide +kernel
theorem dX7_alike_117 : decode cX7_alike 117 = .ok (.aload_n 0, 1) := by decide +kernel
theorem dX7_alike_118 : decode cX7_alike 118 = .ok (.getfield 19, 3) := by decide +kernel
theorem dX7_alike_121 : decode cX7_alike 121 = .ok (.getfield 132, 3) := by decide +kernel
theorem dX7_alike_124 : decode cX7_alike 124 = .ok (.iload 4, 2) := by decide +kernel
theorem dX7_alike_126 : decode cX7_alike 126 = .ok (.iaload, 1) := by decide +kernel
theorem dX7_alike_127 : decode cX7_alike 127 = .ok (.if_icmp .ne 8, 3) := by decide +kernel
theorem dX7_alike_130 : decode cX7_alike 130 = .ok (.bipush (-9), 2) := by decide +kernel
theorem dX7_alike_132 : decode cX7_alike 132 = .ok (.goto 5, 3) := by decide +kernel
theorem dX7_alike_135 : decode cX7_alike 135 = .ok (.iload 5, 2) := by decide +kernel
theorem dX7_alike_137 : decode cX7_alike 137 = .ok (.ireturn, 1) := by decide +kernel
def fX7_alike_b77 (μ : Mm) : Nat → Int32 → Int32 → Int32 → Int32 → Option Int32
  | 0, _, _, _, _ => none
  | n + 1, v3, v4, v5, v6 => (if v5 ≤ v6 then (if inb v3 26 = true then (if inb v4 26 = true then (if (μ.1 12 (Int32.toNatClampNeg v3)) = (μ.1 12 (Int32.toNatClampNeg v4)) then some (-9 : Int32) else some v5) else none) else none) else ((fX5_agree v3 v4 v6 μ).bind fun r93 => (if r93 = 0 then some v6 else (fX7_alike_b77 μ n) v3 v4 v5 (v6 + (1 : Int32)))))
def fX7_alike (p1 : Int32) (p2 : Int32) (μ : Mm) : Option Int32 := ((fX7_isSlot p1).bind fun r1 => (if r1 = 0 then some (-1 : Int32) else ((fX7_isSlot p2).bind fun r8 => (if r8 = 0 then some (-1 : Int32) else ((fX7_holdsArray p1 μ).bind fun r18 => (if r18 = 0 then some (-3 : Int32) else ((fX7_holdsArray p2 μ).bind fun r26 => (if r26 = 0 then some (-3 : Int32) else (if inb p1 10 = true then (if inb p2 10 = true then (if inb (μ.1 6 (Int32.toNatClampNeg p1)) 26 = true then (if inb (μ.1 6 (Int32.toNatClampNeg p2)) 26 = true then ((fJ9_min_7cf53 (μ.1 12 (Int32.toNatClampNeg (μ.1 6 (Int32.toNatClampNeg p1)))) (μ.1 12 (Int32.toNatClampNeg (μ.1 6 (Int32.toNatClampNeg p2))))).bind fun r69 => fX7_alike_b77 μ 100 (μ.1 6 (Int32.toNatClampNeg p1)) (μ.1 6 (Int32.toNatClampNeg p2)) r69 (0 : Int32)) else none) else none) else none) else none)))))))))
set_option maxRecDepth 100000 in
set_option maxHeartbeats 4000000 in
theorem kX7_alike (l : Launch) (ε : Ev) (p1 : Int32) (p2 : Int32) (μ : Mm) (out : Int32) (hf : fX7_alike p1 p2 μ = some out) : Sp l ε layX yX7_alike cX7_alike 7 (some .int) 6 [.ref (ea ε 0), .int p1, .int p2] (some (.int out)) μ μ := by
  refine Sp.of [(0, .ref (ea ε 0)), (1, .int p1), (2, .int p2)] rfl (by decide +kernel) (Nat.le_of_ble_eq_true rfl) ?_
  intro κ hκ C E hQ
  subst hκ
  replace C : Cf κ cX7_alike 7 RX7 (some .int) 6 := C
  have b77 : ∀ (n : Nat) (v3 : Int32) (v4 : Int32) (v5 : Int32) (v6 : Int32) , fX7_alike_b77 μ n v3 v4 v5 v6 = some out → G κ (Vw κ ε layX μ) 7 77 [(0, .ref (ea ε 0)), (3, .int v3), (4, .int v4), (5, .int v5), (6, .int v6)] [] := by
    intro n
    induction n with
    | zero => intro v3 v4 v5 v6 hf; exact none_ne hf
    | succ n ih =>
      intro v3 v4 v5 v6 hf
      refine g_iload (pc := 77) (i := 6) (j := 4) C dX7_alike_77 rfl ?_
      refine g_iload (pc := 79) (i := 5) (j := 3) C dX7_alike_79 rfl ?_
      refine g_icmp_ge (pc := 81) (tgt := 108) C dX7_alike_81 rfl hf (fun _ hf => ?_) (fun _ hf => ?_)
      · refine g_aload_n (pc := 108) (i := 0) (j := 0) C dX7_alike_108 rfl rfl ?_
        refine g_getr (pc := 109) (j := 2) C E fdX7_19 layX_0_1 dX7_alike_109 ?_
        refine g_getr (pc := 112) (j := 12) C E fdX7_132 layX_2_1 dX7_alike_112 ?_
        refine g_iload_n (pc := 115) (i := 3) (j := 1) C dX7_alike_115 rfl rfl ?_
        refine g_iald (pc := 116) C E layX_12 dX7_alike_116 hf (fun hf => ?_)
        refine g_aload_n (pc := 117) (i := 0) (j := 0) C dX7_alike_117 rfl rfl ?_
        refine g_getr (pc := 118) (j := 2) C E fdX7_19 layX_0_1 dX7_alike_118 ?_
        refine g_getr (pc := 121) (j := 12) C E fdX7_132 layX_2_1 dX7_alike_121 ?_
        refine g_iload (pc := 124) (i := 4) (j := 2) C dX7_alike_124 rfl ?_
        refine g_iald (pc := 126) C E layX_12 dX7_alike_126 hf (fun hf => ?_)
        refine g_icmp_ne (pc := 127) (tgt := 135) C dX7_alike_127 rfl hf (fun _ hf => ?_) (fun _ hf => ?_)
        · refine g_iload (pc := 135) (i := 5) (j := 3) C dX7_alike_135 rfl ?_
          exact g_iretr (pc := 137) C hQ dX7_alike_137 hf
        · refine g_bipush (pc := 130) C dX7_alike_130 cb_m9 ?_
          refine g_goto (pc := 132) (tgt := 137) C dX7_alike_132 rfl ?_
          exact g_iretr (pc := 137) C hQ dX7_alike_137 hf
      · refine g_aload_n (pc := 84) (i := 0) (j := 0) C dX7_alike_84 rfl rfl ?_
        refine g_getr (pc := 85) (j := 2) C E fdX7_19 layX_0_1 dX7_alike_85 ?_
        refine g_iload_n (pc := 88) (i := 3) (j := 1) C dX7_alike_88 rfl rfl ?_
        refine g_iload (pc := 89) (i := 4) (j := 2) C dX7_alike_89 rfl ?_
        refine g_iload (pc := 91) (i := 6) (j := 4) C dX7_alike_91 rfl ?_
        refine g_cri (pc := 93) (st := []) C E layX_2 lkX7_261 (As := [.int v3, .int v4, .int v6]) rfl (fun out h => kX5_agree (kl κ) ε v3 v4 v6 μ out h) (by decide) rfl (Nat.le_of_ble_eq_true rfl) dX7_alike_93 hf (fun r93 _ hf => ?_)
        refine g_if_ne (pc := 96) (tgt := 102) C dX7_alike_96 rfl hf (fun _ hf => ?_) (fun _ hf => ?_)
        · refine g_iinc (pc := 102) (i := 6) (j := 4) (v := (v6 + (1 : Int32))) (L' := [(6, .int (v6 + (1 : Int32))), (0, .ref (ea ε 0)), (3, .int v3), (4, .int v4), (5, .int v5)]) C dX7_alike_102 rfl (cx_1 _) (by decide) rfl ?_
          refine g_goto (pc := 105) (tgt := 77) C dX7_alike_105 rfl ?_
          exact g_at [1, 2, 3, 4, 0] rfl (ih v3 v4 v5 (v6 + (1 : Int32)) hf)
        · refine g_iload (pc := 99) (i := 6) (j := 4) C dX7_alike_99 rfl ?_
          exact g_iretr (pc := 101) C hQ dX7_alike_101 hf
  refine g_iload_n (pc := 0) (i := 1) (j := 1) C dX7_alike_0 rfl rfl ?_
  refine g_cpi (pc := 1) (st := []) C lkX7_76 (As := [.int p1]) rfl (fun out h => kX7_isSlot (kl κ) p1 out h) (by decide) rfl (Nat.le_of_ble_eq_true rfl) dX7_alike_1 hf (fun r1 _ hf => ?_)
  refine g_if_eq (pc := 4) (tgt := 14) C dX7_alike_4 rfl hf (fun _ hf => ?_) (fun _ hf => ?_)
  · refine g_iconst (pc := 14) C dX7_alike_14 ci_m1 ?_
    exact g_iretr (pc := 15) C hQ dX7_alike_15 hf
  · refine g_iload_n (pc := 7) (i := 2) (j := 2) C dX7_alike_7 rfl rfl ?_
    refine g_cpi (pc := 8) (st := []) C lkX7_76 (As := [.int p2]) rfl (fun out h => kX7_isSlot (kl κ) p2 out h) (by decide) rfl (Nat.le_of_ble_eq_true rfl) dX7_alike_8 hf (fun r8 _ hf => ?_)
    refine g_if_ne (pc := 11) (tgt := 16) C dX7_alike_11 rfl hf (fun _ hf => ?_) (fun _ hf => ?_)
    · refine g_aload_n (pc := 16) (i := 0) (j := 0) C dX7_alike_16 rfl rfl ?_
      refine g_iload_n (pc := 17) (i := 1) (j := 1) C dX7_alike_17 rfl rfl ?_
      refine g_cri (pc := 18) (st := []) C E layX_0 lkX7_129 (As := [.int p1]) rfl (fun out h => kX7_holdsArray (kl κ) ε p1 μ out h) (by decide) rfl (Nat.le_of_ble_eq_true rfl) dX7_alike_18 hf (fun r18 _ hf => ?_)
      refine g_if_eq (pc := 21) (tgt := 32) C dX7_alike_21 rfl hf (fun _ hf => ?_) (fun _ hf => ?_)
      · refine g_bipush (pc := 32) C dX7_alike_32 cb_m3 ?_
        exact g_iretr (pc := 34) C hQ dX7_alike_34 hf
      · refine g_aload_n (pc := 24) (i := 0) (j := 0) C dX7_alike_24 rfl rfl ?_
        refine g_iload_n (pc := 25) (i := 2) (j := 2) C dX7_alike_25 rfl rfl ?_
        refine g_cri (pc := 26) (st := []) C E layX_0 lkX7_129 (As := [.int p2]) rfl (fun out h => kX7_holdsArray (kl κ) ε p2 μ out h) (by decide) rfl (Nat.le_of_ble_eq_true rfl) dX7_alike_26 hf (fun r26 _ hf => ?_)
        refine g_if_ne (pc := 29) (tgt := 35) C dX7_alike_29 rfl hf (fun _ hf => ?_) (fun _ hf => ?_)
        · refine g_aload_n (pc := 35) (i := 0) (j := 0) C dX7_alike_35 rfl rfl ?_
          refine g_getr (pc := 36) (j := 6) C E fdX7_44 layX_0_5 dX7_alike_36 ?_
          refine g_iload_n (pc := 39) (i := 1) (j := 1) C dX7_alike_39 rfl rfl ?_
          refine g_iald (pc := 40) C E layX_6 dX7_alike_40 hf (fun hf => ?_)
          refine g_istore_n (pc := 41) (i := 3) (L' := [(3, .int (μ.1 6 (Int32.toNatClampNeg p1))), (0, .ref (ea ε 0)), (1, .int p1), (2, .int p2)]) C dX7_alike_41 rfl (by decide) rfl ?_
          refine g_aload_n (pc := 42) (i := 0) (j := 1) C dX7_alike_42 rfl rfl ?_
          refine g_getr (pc := 43) (j := 6) C E fdX7_44 layX_0_5 dX7_alike_43 ?_
          refine g_iload_n (pc := 46) (i := 2) (j := 3) C dX7_alike_46 rfl rfl ?_
          refine g_iald (pc := 47) C E layX_6 dX7_alike_47 hf (fun hf => ?_)
          refine g_istore (pc := 48) (i := 4) (L' := [(4, .int (μ.1 6 (Int32.toNatClampNeg p2))), (3, .int (μ.1 6 (Int32.toNatClampNeg p1))), (0, .ref (ea ε 0)), (1, .int p1), (2, .int p2)]) C dX7_alike_48 (by decide) rfl ?_
          refine g_aload_n (pc := 50) (i := 0) (j := 2) C dX7_alike_50 rfl rfl ?_
          refine g_getr (pc := 51) (j := 2) C E fdX7_19 layX_0_1 dX7_alike_51 ?_
          refine g_getr (pc := 54) (j := 12) C E fdX7_132 layX_2_1 dX7_alike_54 ?_
          refine g_iload_n (pc := 57) (i := 3) (j := 1) C dX7_alike_57 rfl rfl ?_
          refine g_iald (pc := 58) C E layX_12 dX7_alike_58 hf (fun hf => ?_)
          refine g_aload_n (pc := 59) (i := 0) (j := 2) C dX7_alike_59 rfl rfl ?_
          refine g_getr (pc := 60) (j := 2) C E fdX7_19 layX_0_1 dX7_alike_60 ?_
          refine g_getr (pc := 63) (j := 12) C E fdX7_132 layX_2_1 dX7_alike_63 ?_
          refine g_iload (pc := 66) (i := 4) (j := 0) C dX7_alike_66 rfl ?_
          refine g_iald (pc := 68) C E layX_12 dX7_alike_68 hf (fun hf => ?_)
          refine g_cpi (pc := 69) (st := []) C lkX7_221 (As := [.int (μ.1 12 (Int32.toNatClampNeg (μ.1 6 (Int32.toNatClampNeg p1)))), .int (μ.1 12 (Int32.toNatClampNeg (μ.1 6 (Int32.toNatClampNeg p2))))]) rfl (fun out h => kJ9_min_7cf53 (kl κ) (μ.1 12 (Int32.toNatClampNeg (μ.1 6 (Int32.toNatClampNeg p1)))) (μ.1 12 (Int32.toNatClampNeg (μ.1 6 (Int32.toNatClampNeg p2)))) out h) (by decide) rfl (Nat.le_of_ble_eq_true rfl) dX7_alike_69 hf (fun r69 _ hf => ?_)
          refine g_istore (pc := 72) (i := 5) (L' := [(5, .int r69), (4, .int (μ.1 6 (Int32.toNatClampNeg p2))), (3, .int (μ.1 6 (Int32.toNatClampNeg p1))), (0, .ref (ea ε 0)), (1, .int p1), (2, .int p2)]) C dX7_alike_72 (by decide) rfl ?_
          refine g_iconst (pc := 74) C dX7_alike_74 ci_0 ?_
          refine g_istore (pc := 75) (i := 6) (L' := [(6, .int (0 : Int32)), (5, .int r69), (4, .int (μ.1 6 (Int32.toNatClampNeg p2))), (3, .int (μ.1 6 (Int32.toNatClampNeg p1))), (0, .ref (ea ε 0)), (1, .int p1), (2, .int p2)]) C dX7_alike_75 (by decide) rfl ?_
          exact g_at [4, 3, 2, 1, 0] rfl (b77 100 (μ.1 6 (Int32.toNatClampNeg p1)) (μ.1 6 (Int32.toNatClampNeg p2)) r69 (0 : Int32) hf)
        · refine g_bipush (pc := 32) C dX7_alike_32 cb_m3 ?_
          exact g_iretr (pc := 34) C hQ dX7_alike_34 hf
    · refine g_iconst (pc := 14) C dX7_alike_14 ci_m1 ?_
      exact g_iretr (pc := 15) C hQ dX7_alike_15 hf
theorem dX7_hold_0 : decode cX7_hold 0 = .ok (.aload_n 0, 1) := by decide +kernel
theorem dX7_hold_1 : decode cX7_hold 1 = .ok (.iload_n 1, 1) := by decide +kernel
theorem dX7_hold_2 : decode cX7_hold 2 = .ok (.putfield 55, 3) := by decide +kernel
theorem dX7_hold_5 : decode cX7_hold 5 = .ok (.aload_n 0, 1) := by decide +kernel
theorem dX7_hold_6 : decode cX7_hold 6 = .ok (.iload_n 2, 1) := by decide +kernel
theorem dX7_hold_7 : decode cX7_hold 7 = .ok (.putfield 58, 3) := by decide +kernel
theorem dX7_hold_10 : decode cX7_hold 10 = .ok (.aload_n 0, 1) := by decide +kernel
theorem dX7_hold_11 : decode cX7_hold 11 = .ok (.lload_n 3, 1) := by decide +kernel
theorem dX7_hold_12 : decode cX7_hold 12 = .ok (.putfield 61, 3) := by decide +kernel
theorem dX7_hold_15 : decode cX7_hold 15 = .ok (.return_, 1) := by decide +kernel
def fX7_hold (p1 : Int32) (p2 : Int32) (p3 : Int64) (μ : Mm) : Option Mm := some (wL (wI (wI μ 0 8 p1) 0 9 p2) 0 10 p3)
set_option maxRecDepth 100000 in
set_option maxHeartbeats 4000000 in
theorem kX7_hold (l : Launch) (ε : Ev) (p1 : Int32) (p2 : Int32) (p3 : Int64) (μ : Mm) (out : Mm) (hf : fX7_hold p1 p2 p3 μ = some out) : Sp l ε layX yX7_hold cX7_hold 5 none 0 [.ref (ea ε 0), .int p1, .int p2, .long p3] none μ out := by
  refine Sp.of [(0, .ref (ea ε 0)), (1, .int p1), (2, .int p2), (3, .long p3)] rfl (by decide +kernel) (Nat.le_of_ble_eq_true rfl) ?_
  intro κ hκ C E hQ
  subst hκ
  replace C : Cf κ cX7_hold 5 RX7 none 0 := C
  refine g_aload_n (pc := 0) (i := 0) (j := 0) C dX7_hold_0 rfl rfl ?_
  refine g_iload_n (pc := 1) (i := 1) (j := 1) C dX7_hold_1 rfl rfl ?_
  refine g_puti (pc := 2) C E fdX7_55 layX_0_8 dX7_hold_2 ?_
  refine g_aload_n (pc := 5) (i := 0) (j := 0) C dX7_hold_5 rfl rfl ?_
  refine g_iload_n (pc := 6) (i := 2) (j := 2) C dX7_hold_6 rfl rfl ?_
  refine g_puti (pc := 7) C E fdX7_58 layX_0_9 dX7_hold_7 ?_
  refine g_aload_n (pc := 10) (i := 0) (j := 0) C dX7_hold_10 rfl rfl ?_
  refine g_lload_n (pc := 11) (i := 3) (j := 3) C dX7_hold_11 rfl rfl ?_
  refine g_putl (pc := 12) C E fdX7_61 layX_0_10 dX7_hold_12 ?_
  exact g_vretw (pc := 15) C hQ dX7_hold_15 hf
theorem dX7_carryThrough_0 : decode cX7_carryThrough 0 = .ok (.iload_n 1, 1) := by decide +kernel
theorem dX7_carryThrough_1 : decode cX7_carryThrough 1 = .ok (.invokestatic 203, 3) := by decide +kernel
theorem dX7_carryThrough_4 : decode cX7_carryThrough 4 = .ok (.istore 5, 2) := by decide +kernel
theorem dX7_carryThrough_6 : decode cX7_carryThrough 6 = .ok (.iload_n 1, 1) := by decide +kernel
theorem dX7_carryThrough_7 : decode cX7_carryThrough 7 = .ok (.istore 6, 2) := by decide +kernel
theorem dX7_carryThrough_9 : decode cX7_carryThrough 9 = .ok (.lload_n 2, 1) := by decide +kernel
theorem dX7_carryThrough_10 : decode cX7_carryThrough 10 = .ok (.lstore 7, 2) := by decide +kernel
theorem dX7_carryThrough_12 : decode cX7_carryThrough 12 = .ok (.ldc_w 332, 3) := by decide +kernel
theorem dX7_carryThrough_15 : decode cX7_carryThrough 15 = .ok (.istore 9, 2) := by decide +kernel
theorem dX7_carryThrough_17 : decode cX7_carryThrough 17 = .ok (.iload 9, 2) := by decide +kernel
theorem dX7_carryThrough_19 : decode cX7_carryThrough 19 = .ok (.ifCond .le 67, 3) := by decide +kernel
theorem dX7_carryThrough_22 : decode cX7_carryThrough 22 = .ok (.iload 4, 2) := by decide +kernel
theorem dX7_carryThrough_24 : decode cX7_carryThrough 24 = .ok (.iload 9, 2) := by decide +kernel
theorem dX7_carryThrough_26 : decode cX7_carryThrough 26 = .ok (.idiv, 1) := by decide +kernel
theorem dX7_carryThrough_27 : decode cX7_carryThrough 27 = .ok (.bipush 10, 2) := by decide +kernel
theorem dX7_carryThrough_29 : decode cX7_carryThrough 29 = .ok (.irem, 1) := by decide +kernel
theorem dX7_carryThrough_30 : decode cX7_carryThrough 30 = .ok (.iconst 1, 1) := by decide +kernel
theorem dX7_carryThrough_31 : decode cX7_carryThrough 31 = .ok (.isub, 1) := by decide +kernel
theorem dX7_carryThrough_32 : decode cX7_carryThrough 32 = .ok (.istore 10, 2) := by decide +kernel
theorem dX7_carryThrough_34 : decode cX7_carryThrough 34 = .ok (.iload 10, 2) := by decide +kernel
theorem dX7_carryThrough_36 : decode cX7_carryThrough 36 = .ok (.ifCond .lt 40, 3) := by decide +kernel
theorem dX7_carryThrough_39 : decode cX7_carryThrough 39 = .ok (.iload 10, 2) := by decide +kernel
theorem dX7_carryThrough_41 : decode cX7_carryThrough 41 = .ok (.iload 5, 2) := by decide +kernel
theorem dX7_carryThrough_43 : decode cX7_carryThrough 43 = .ok (.iload 6, 2) := by decide +kernel
theorem dX7_carryThrough_45 : decode cX7_carryThrough 45 = .ok (.invokestatic 206, 3) := by decide +kernel
theorem dX7_carryThrough_48 : decode cX7_carryThrough 48 = .ok (.istore 11, 2) := by decide +kernel
theorem dX7_carryThrough_50 : decode cX7_carryThrough 50 = .ok (.iload 11, 2) := by decide +kernel
theorem dX7_carryThrough_52 : decode cX7_carryThrough 52 = .ok (.ifCond .eq 6, 3) := by decide +kernel
theorem dX7_carryThrough_55 : decode cX7_carryThrough 55 = .ok (.iload 11, 2) := by decide +kernel
theorem dX7_carryThrough_57 : decode cX7_carryThrough 57 = .ok (.ireturn, 1) := by decide +kernel
theorem dX7_carryThrough_58 : decode cX7_carryThrough 58 = .ok (.lload 7, 2) := by decide +kernel
theorem dX7_carryThrough_60 : decode cX7_carryThrough 60 = .ok (.iload 6, 2) := by decide +kernel
theorem dX7_carryThrough_62 : decode cX7_carryThrough 62 = .ok (.iload 10, 2) := by decide +kernel
theorem dX7_carryThrough_64 : decode cX7_carryThrough 64 = .ok (.invokestatic 196, 3) := by decide +kernel
theorem dX7_carryThrough_67 : decode cX7_carryThrough 67 = .ok (.lstore 7, 2) := by decide +kernel
theorem dX7_carryThrough_69 : decode cX7_carryThrough 69 = .ok (.iload 10, 2) := by decide +kernel
theorem dX7_carryThrough_71 : decode cX7_carryThrough 71 = .ok (.istore 6, 2) := by decide +kernel
theorem dX7_carryThrough_73 : decode cX7_carryThrough 73 = .ok (.iconst 1, 1) := by decide +kernel
theorem dX7_carryThrough_74 : decode cX7_carryThrough 74 = .ok (.istore 5, 2) := by decide +kernel
theorem dX7_carryThrough_76 : decode cX7_carryThrough 76 = .ok (.iload 9, 2) := by decide +kernel
theorem dX7_carryThrough_78 : decode cX7_carryThrough 78 = .ok (.bipush 10, 2) := by decide +kernel
theorem dX7_carryThrough_80 : decode cX7_carryThrough 80 = .ok (.idiv, 1) := by decide +kernel
theorem dX7_carryThrough_81 : decode cX7_carryThrough 81 = .ok (.istore 9, 2) := by decide +kernel
theorem dX7_carryThrough_83 : decode cX7_carryThrough 83 = .ok (.goto (-66), 3) := by decide +kernel
theorem dX7_carryThrough_86 : decode cX7_carryThrough 86 = .ok (.aload_n 0, 1) := by decide +kernel
theorem dX7_carryThrough_87 : decode cX7_carryThrough 87 = .ok (.iconst 1, 1) := by decide +kernel
theorem dX7_carryThrough_88 : decode cX7_carryThrough 88 = .ok (.iload 6, 2) := by decide +kernel
theorem dX7_carryThrough_90 : decode cX7_carryThrough 90 = .ok (.lload 7, 2) := by decide +kernel
theorem dX7_carryThrough_92 : decode cX7_carryThrough 92 = .ok (.invokevirtual 164, 3) := by decide +kernel
theorem dX7_carryThrough_95 : decode cX7_carryThrough 95 = .ok (.iconst 0, 1) := by decide +kernel
theorem dX7_carryThrough_96 : decode cX7_carryThrough 96 = .ok (.ireturn, 1) := by decide +kernel
def fX7_carryThrough_b76 (k17 : Int32 → Int32 → Int32 → Int64 → Int32 → Mm → Option (Int32 × Mm)) (v4 : Int32) (v5 : Int32) (v6 : Int32) (v7 : Int64) (v9 : Int32) (μ : Mm) : Option (Int32 × Mm) := k17 v4 v5 v6 v7 (jdiv v9 (10 : Int32)) μ
def fX7_carryThrough_b17 : Nat → Int32 → Int32 → Int32 → Int64 → Int32 → Mm → Option (Int32 × Mm)
  | 0, _, _, _, _, _, _ => none
  | n + 1, v4, v5, v6, v7, v9, μ => (if v9 ≤ 0 then ((fX7_hold (1 : Int32) v6 v7 μ).bind fun μ92 => some ((0 : Int32), μ92)) else (if v9 = 0 then none else (if ((jrem (jdiv v4 v9) (10 : Int32)) - (1 : Int32)) < 0 then fX7_carryThrough_b76 (fX7_carryThrough_b17 n) v4 v5 v6 v7 v9 μ else ((fX4_putFit ((jrem (jdiv v4 v9) (10 : Int32)) - (1 : Int32)) v5 v6).bind fun r45 => (if r45 = 0 then ((fX2_widened v7 v6 ((jrem (jdiv v4 v9) (10 : Int32)) - (1 : Int32))).bind fun r64 => fX7_carryThrough_b76 (fX7_carryThrough_b17 n) v4 (1 : Int32) ((jrem (jdiv v4 v9) (10 : Int32)) - (1 : Int32)) r64 v9 μ) else some (r45, μ))))))
def fX7_carryThrough (p1 : Int32) (p2 : Int64) (p3 : Int32) (μ : Mm) : Option (Int32 × Mm) := ((fX4_fetchedForm p1).bind fun r1 => fX7_carryThrough_b17 100 p3 r1 p1 p2 (100000 : Int32) μ)
set_option maxRecDepth 100000 in
set_option maxHeartbeats 4000000 in
theorem kX7_carryThrough (l : Launch) (ε : Ev) (p1 : Int32) (p2 : Int64) (p3 : Int32) (μ : Mm) (out : (Int32 × Mm)) (hf : fX7_carryThrough p1 p2 p3 μ = some out) : Sp l ε layX yX7_carryThrough cX7_carryThrough 12 (some .int) 5 [.ref (ea ε 0), .int p1, .long p2, .int p3] (some (.int out.1)) μ out.2 := by
  refine Sp.of [(0, .ref (ea ε 0)), (1, .int p1), (2, .long p2), (4, .int p3)] rfl (by decide +kernel) (Nat.le_of_ble_eq_true rfl) ?_
  intro κ hκ C E hQ
  subst hκ
  replace C : Cf κ cX7_carryThrough 12 RX7 (some .int) 5 := C
  have b76 : ∀ (k17 : Int32 → Int32 → Int32 → Int64 → Int32 → Mm → Option (Int32 × Mm)) (hk17 : ∀ (v4 : Int32) (v5 : Int32) (v6 : Int32) (v7 : Int64) (v9 : Int32) (μ : Mm) , k17 v4 v5 v6 v7 v9 μ = some out → G κ (Vw κ ε layX μ) 12 17 [(0, .ref (ea ε 0)), (4, .int v4), (5, .int v5), (6, .int v6), (7, .long v7), (9, .int v9)] []) (v4 : Int32) (v5 : Int32) (v6 : Int32) (v7 : Int64) (v9 : Int32) (μ : Mm) , fX7_carryThrough_b76 k17 v4 v5 v6 v7 v9 μ = some out → G κ (Vw κ ε layX μ) 12 76 [(0, .ref (ea ε 0)), (4, .int v4), (5, .int v5), (6, .int v6), (7, .long v7), (9, .int v9)] [] := by
    intro k17 hk17 v4 v5 v6 v7 v9 μ hf
    refine g_iload (pc := 76) (i := 9) (j := 5) C dX7_carryThrough_76 rfl ?_
    refine g_bipush (pc := 78) C dX7_carryThrough_78 cb_10 ?_
    refine g_idiv (pc := 80) C dX7_carryThrough_80 (by decide) ?_
    refine g_istore (pc := 81) (i := 9) (L' := [(9, .int (jdiv v9 (10 : Int32))), (0, .ref (ea ε 0)), (4, .int v4), (5, .int v5), (6, .int v6), (7, .long v7)]) C dX7_carryThrough_81 (by decide) rfl ?_
    refine g_goto (pc := 83) (tgt := 17) C dX7_carryThrough_83 rfl ?_
    exact g_at [1, 2, 3, 4, 5, 0] rfl (hk17 v4 v5 v6 v7 (jdiv v9 (10 : Int32)) μ hf)
  have b17 : ∀ (n : Nat) (v4 : Int32) (v5 : Int32) (v6 : Int32) (v7 : Int64) (v9 : Int32) (μ : Mm) , fX7_carryThrough_b17 n v4 v5 v6 v7 v9 μ = some out → G κ (Vw κ ε layX μ) 12 17 [(0, .ref (ea ε 0)), (4, .int v4), (5, .int v5), (6, .int v6), (7, .long v7), (9, .int v9)] [] := by
    intro n
    induction n with
    | zero => intro v4 v5 v6 v7 v9 μ hf; exact none_ne hf
    | succ n ih =>
      intro v4 v5 v6 v7 v9 μ hf
      refine g_iload (pc := 17) (i := 9) (j := 5) C dX7_carryThrough_17 rfl ?_
      refine g_if_le (pc := 19) (tgt := 86) C dX7_carryThrough_19 rfl hf (fun _ hf => ?_) (fun _ hf => ?_)
      · refine g_aload_n (pc := 86) (i := 0) (j := 0) C dX7_carryThrough_86 rfl rfl ?_
        refine g_iconst (pc := 87) C dX7_carryThrough_87 ci_1 ?_
        refine g_iload (pc := 88) (i := 6) (j := 3) C dX7_carryThrough_88 rfl ?_
        refine g_lload (pc := 90) (i := 7) (j := 4) C dX7_carryThrough_90 rfl ?_
        refine g_cwv (pc := 92) (st := []) C E layX_0 lkX7_164 (As := [.int (1 : Int32), .int v6, .long v7]) rfl (fun out h => kX7_hold (kl κ) ε (1 : Int32) v6 v7 μ out h) (by decide) rfl (Nat.le_of_ble_eq_true rfl) dX7_carryThrough_92 hf (fun μ92 _ hf => ?_)
        refine g_iconst (pc := 95) C dX7_carryThrough_95 ci_0 ?_
        exact g_iretw (pc := 96) C hQ dX7_carryThrough_96 hf
      · refine g_iload (pc := 22) (i := 4) (j := 1) C dX7_carryThrough_22 rfl ?_
        refine g_iload (pc := 24) (i := 9) (j := 5) C dX7_carryThrough_24 rfl ?_
        obtain ⟨hz26, hf⟩ := ite_none hf
        refine g_idiv (pc := 26) C dX7_carryThrough_26 hz26 ?_
        refine g_bipush (pc := 27) C dX7_carryThrough_27 cb_10 ?_
        refine g_irem (pc := 29) C dX7_carryThrough_29 (by decide) ?_
        refine g_iconst (pc := 30) C dX7_carryThrough_30 ci_1 ?_
        refine g_isub (pc := 31) C dX7_carryThrough_31 ?_
        refine g_istore (pc := 32) (i := 10) (L' := [(10, .int ((jrem (jdiv v4 v9) (10 : Int32)) - (1 : Int32))), (0, .ref (ea ε 0)), (4, .int v4), (5, .int v5), (6, .int v6), (7, .long v7), (9, .int v9)]) C dX7_carryThrough_32 (by decide) rfl ?_
        refine g_iload (pc := 34) (i := 10) (j := 0) C dX7_carryThrough_34 rfl ?_
        refine g_if_lt (pc := 36) (tgt := 76) C dX7_carryThrough_36 rfl hf (fun _ hf => ?_) (fun _ hf => ?_)
        · exact g_at [1, 2, 3, 4, 5, 6] rfl (b76 (fX7_carryThrough_b17 n) ih v4 v5 v6 v7 v9 μ hf)
        · refine g_iload (pc := 39) (i := 10) (j := 0) C dX7_carryThrough_39 rfl ?_
          refine g_iload (pc := 41) (i := 5) (j := 3) C dX7_carryThrough_41 rfl ?_
          refine g_iload (pc := 43) (i := 6) (j := 4) C dX7_carryThrough_43 rfl ?_
          refine g_cpi (pc := 45) (st := []) C lkX7_206 (As := [.int ((jrem (jdiv v4 v9) (10 : Int32)) - (1 : Int32)), .int v5, .int v6]) rfl (fun out h => kX4_putFit (kl κ) ((jrem (jdiv v4 v9) (10 : Int32)) - (1 : Int32)) v5 v6 out h) (by decide) rfl (Nat.le_of_ble_eq_true rfl) dX7_carryThrough_45 hf (fun r45 _ hf => ?_)
          refine g_istore (pc := 48) (i := 11) (L' := [(11, .int r45), (10, .int ((jrem (jdiv v4 v9) (10 : Int32)) - (1 : Int32))), (0, .ref (ea ε 0)), (4, .int v4), (5, .int v5), (6, .int v6), (7, .long v7), (9, .int v9)]) C dX7_carryThrough_48 (by decide) rfl ?_
          refine g_iload (pc := 50) (i := 11) (j := 0) C dX7_carryThrough_50 rfl ?_
          refine g_if_eq (pc := 52) (tgt := 58) C dX7_carryThrough_52 rfl hf (fun _ hf => ?_) (fun _ hf => ?_)
          · refine g_lload (pc := 58) (i := 7) (j := 6) C dX7_carryThrough_58 rfl ?_
            refine g_iload (pc := 60) (i := 6) (j := 5) C dX7_carryThrough_60 rfl ?_
            refine g_iload (pc := 62) (i := 10) (j := 1) C dX7_carryThrough_62 rfl ?_
            refine g_cpl (pc := 64) (st := []) C lkX7_196 (As := [.long v7, .int v6, .int ((jrem (jdiv v4 v9) (10 : Int32)) - (1 : Int32))]) rfl (fun out h => kX2_widened (kl κ) v7 v6 ((jrem (jdiv v4 v9) (10 : Int32)) - (1 : Int32)) out h) (by decide) rfl (Nat.le_of_ble_eq_true rfl) dX7_carryThrough_64 hf (fun r64 _ hf => ?_)
            refine g_lstore (pc := 67) (i := 7) (L' := [(7, .long r64), (11, .int r45), (10, .int ((jrem (jdiv v4 v9) (10 : Int32)) - (1 : Int32))), (0, .ref (ea ε 0)), (4, .int v4), (5, .int v5), (6, .int v6), (9, .int v9)]) C dX7_carryThrough_67 (by decide) rfl ?_
            refine g_iload (pc := 69) (i := 10) (j := 2) C dX7_carryThrough_69 rfl ?_
            refine g_istore (pc := 71) (i := 6) (L' := [(6, .int ((jrem (jdiv v4 v9) (10 : Int32)) - (1 : Int32))), (7, .long r64), (11, .int r45), (10, .int ((jrem (jdiv v4 v9) (10 : Int32)) - (1 : Int32))), (0, .ref (ea ε 0)), (4, .int v4), (5, .int v5), (9, .int v9)]) C dX7_carryThrough_71 (by decide) rfl ?_
            refine g_iconst (pc := 73) C dX7_carryThrough_73 ci_1 ?_
            refine g_istore (pc := 74) (i := 5) (L' := [(5, .int (1 : Int32)), (6, .int ((jrem (jdiv v4 v9) (10 : Int32)) - (1 : Int32))), (7, .long r64), (11, .int r45), (10, .int ((jrem (jdiv v4 v9) (10 : Int32)) - (1 : Int32))), (0, .ref (ea ε 0)), (4, .int v4), (9, .int v9)]) C dX7_carryThrough_74 (by decide) rfl ?_
            exact g_at [5, 6, 0, 1, 2, 7] rfl (b76 (fX7_carryThrough_b17 n) ih v4 (1 : Int32) ((jrem (jdiv v4 v9) (10 : Int32)) - (1 : Int32)) r64 v9 μ hf)
          · refine g_iload (pc := 55) (i := 11) (j := 0) C dX7_carryThrough_55 rfl ?_
            exact g_iretw (pc := 57) C hQ dX7_carryThrough_57 hf
  refine g_iload_n (pc := 0) (i := 1) (j := 1) C dX7_carryThrough_0 rfl rfl ?_
  refine g_cpi (pc := 1) (st := []) C lkX7_203 (As := [.int p1]) rfl (fun out h => kX4_fetchedForm (kl κ) p1 out h) (by decide) rfl (Nat.le_of_ble_eq_true rfl) dX7_carryThrough_1 hf (fun r1 _ hf => ?_)
  refine g_istore (pc := 4) (i := 5) (L' := [(5, .int r1), (0, .ref (ea ε 0)), (1, .int p1), (2, .long p2), (4, .int p3)]) C dX7_carryThrough_4 (by decide) rfl ?_
  refine g_iload_n (pc := 6) (i := 1) (j := 2) C dX7_carryThrough_6 rfl rfl ?_
  refine g_istore (pc := 7) (i := 6) (L' := [(6, .int p1), (5, .int r1), (0, .ref (ea ε 0)), (1, .int p1), (2, .long p2), (4, .int p3)]) C dX7_carryThrough_7 (by decide) rfl ?_
  refine g_lload_n (pc := 9) (i := 2) (j := 4) C dX7_carryThrough_9 rfl rfl ?_
  refine g_lstore (pc := 10) (i := 7) (L' := [(7, .long p2), (6, .int p1), (5, .int r1), (0, .ref (ea ε 0)), (1, .int p1), (2, .long p2), (4, .int p3)]) C dX7_carryThrough_10 (by decide) rfl ?_
  refine g_ldcw (pc := 12) C cnX7_332 dX7_carryThrough_12 ?_
  refine g_istore (pc := 15) (i := 9) (L' := [(9, .int (100000 : Int32)), (7, .long p2), (6, .int p1), (5, .int r1), (0, .ref (ea ε 0)), (1, .int p1), (2, .long p2), (4, .int p3)]) C dX7_carryThrough_15 (by decide) rfl ?_
  exact g_at [4, 7, 3, 2, 1, 0] rfl (b17 100 p3 r1 p1 p2 (100000 : Int32) μ hf)
theorem dX7_fetchReason_0 : decode cX7_fetchReason 0 = .ok (.aload_n 0, 1) := by decide +kernel
theorem dX7_fetchReason_1 : decode cX7_fetchReason 1 = .ok (.iload_n 1, 1) := by decide +kernel
theorem dX7_fetchReason_2 : decode cX7_fetchReason 2 = .ok (.invokevirtual 125, 3) := by decide +kernel
theorem dX7_fetchReason_5 : decode cX7_fetchReason 5 = .ok (.invokestatic 300, 3) := by decide +kernel
theorem dX7_fetchReason_8 : decode cX7_fetchReason 8 = .ok (.aload_n 0, 1) := by decide +kernel
theorem dX7_fetchReason_9 : decode cX7_fetchReason 9 = .ok (.getfield 19, 3) := by decide +kernel
theorem dX7_fetchReason_12 : decode cX7_fetchReason 12 = .ok (.aload_n 0, 1) := by decide +kernel
theorem dX7_fetchReason_13 : decode cX7_fetchReason 13 = .ok (.getfield 44, 3) := by decide +kernel
theorem dX7_fetchReason_16 : decode cX7_fetchReason 16 = .ok (.iload_n 1, 1) := by decide +kernel
theorem dX7_fetchReason_17 : decode cX7_fetchReason 17 = .ok (.iaload, 1) := by decide +kernel
theorem dX7_fetchReason_18 : decode cX7_fetchReason 18 = .ok (.iload_n 2, 1) := by decide +kernel
theorem dX7_fetchReason_19 : decode cX7_fetchReason 19 = .ok (.invokevirtual 139, 3) := by decide +kernel
theorem dX7_fetchReason_22 : decode cX7_fetchReason 22 = .ok (.invokestatic 192, 3) := by decide +kernel
theorem dX7_fetchReason_25 : decode cX7_fetchReason 25 = .ok (.ireturn, 1) := by decide +kernel
def fX7_fetchReason (p1 : Int32) (p2 : Int32) (μ : Mm) : Option Int32 := ((fX7_thingIn p1 μ).bind fun r2 => ((fX4_fetchFit r2).bind fun r5 => (if inb p1 10 = true then ((fX5_has (μ.1 6 (Int32.toNatClampNeg p1)) p2 μ).bind fun r19 => ((fX4_placed r5 r19).bind fun r22 => some r22)) else none)))
set_option maxRecDepth 100000 in
set_option maxHeartbeats 4000000 in
theorem kX7_fetchReason (l : Launch) (ε : Ev) (p1 : Int32) (p2 : Int32) (μ : Mm) (out : Int32) (hf : fX7_fetchReason p1 p2 μ = some out) : Sp l ε layX yX7_fetchReason cX7_fetchReason 3 (some .int) 1 [.ref (ea ε 0), .int p1, .int p2] (some (.int out)) μ μ := by
  refine Sp.of [(0, .ref (ea ε 0)), (1, .int p1), (2, .int p2)] rfl (by decide +kernel) (Nat.le_of_ble_eq_true rfl) ?_
  intro κ hκ C E hQ
  subst hκ
  replace C : Cf κ cX7_fetchReason 3 RX7 (some .int) 1 := C
  refine g_aload_n (pc := 0) (i := 0) (j := 0) C dX7_fetchReason_0 rfl rfl ?_
  refine g_iload_n (pc := 1) (i := 1) (j := 1) C dX7_fetchReason_1 rfl rfl ?_
  refine g_cri (pc := 2) (st := []) C E layX_0 lkX7_125 (As := [.int p1]) rfl (fun out h => kX7_thingIn (kl κ) ε p1 μ out h) (by decide) rfl (Nat.le_of_ble_eq_true rfl) dX7_fetchReason_2 hf (fun r2 _ hf => ?_)
  refine g_cpi (pc := 5) (st := []) C lkX7_300 (As := [.int r2]) rfl (fun out h => kX4_fetchFit (kl κ) r2 out h) (by decide) rfl (Nat.le_of_ble_eq_true rfl) dX7_fetchReason_5 hf (fun r5 _ hf => ?_)
  refine g_aload_n (pc := 8) (i := 0) (j := 0) C dX7_fetchReason_8 rfl rfl ?_
  refine g_getr (pc := 9) (j := 2) C E fdX7_19 layX_0_1 dX7_fetchReason_9 ?_
  refine g_aload_n (pc := 12) (i := 0) (j := 0) C dX7_fetchReason_12 rfl rfl ?_
  refine g_getr (pc := 13) (j := 6) C E fdX7_44 layX_0_5 dX7_fetchReason_13 ?_
  refine g_iload_n (pc := 16) (i := 1) (j := 1) C dX7_fetchReason_16 rfl rfl ?_
  refine g_iald (pc := 17) C E layX_6 dX7_fetchReason_17 hf (fun hf => ?_)
  refine g_iload_n (pc := 18) (i := 2) (j := 2) C dX7_fetchReason_18 rfl rfl ?_
  refine g_cri (pc := 19) (st := [.int r5]) C E layX_2 lkX7_139 (As := [.int (μ.1 6 (Int32.toNatClampNeg p1)), .int p2]) rfl (fun out h => kX5_has (kl κ) ε (μ.1 6 (Int32.toNatClampNeg p1)) p2 μ out h) (by decide) rfl (Nat.le_of_ble_eq_true rfl) dX7_fetchReason_19 hf (fun r19 _ hf => ?_)
  refine g_cpi (pc := 22) (st := []) C lkX7_192 (As := [.int r5, .int r19]) rfl (fun out h => kX4_placed (kl κ) r5 r19 out h) (by decide) rfl (Nat.le_of_ble_eq_true rfl) dX7_fetchReason_22 hf (fun r22 _ hf => ?_)
  exact g_iretr (pc := 25) C hQ dX7_fetchReason_25 hf
theorem dX7_carry_0 : decode cX7_carry 0 = .ok (.iload_n 1, 1) := by decide +kernel
theorem dX7_carry_1 : decode cX7_carry 1 = .ok (.invokestatic 76, 3) := by decide +kernel
theorem dX7_carry_4 : decode cX7_carry 4 = .ok (.ifCond .ne 5, 3) := by decide +kernel
theorem dX7_carry_7 : decode cX7_carry 7 = .ok (.iconst (-1), 1) := by decide +kernel
theorem dX7_carry_8 : decode cX7_carry 8 = .ok (.ireturn, 1) := by decide +kernel
theorem dX7_carry_9 : decode cX7_carry 9 = .ok (.iload_n 3, 1) := by decide +kernel
theorem dX7_carry_10 : decode cX7_carry 10 = .ok (.invokestatic 237, 3) := by decide +kernel
theorem dX7_carry_13 : decode cX7_carry 13 = .ok (.ifCond .ne 6, 3) := by decide +kernel
theorem dX7_carry_16 : decode cX7_carry 16 = .ok (.bipush (-2), 2) := by decide +kernel
theorem dX7_carry_18 : decode cX7_carry 18 = .ok (.ireturn, 1) := by decide +kernel
theorem dX7_carry_19 : decode cX7_carry 19 = .ok (.aload_n 0, 1) := by decide +kernel
theorem dX7_carry_20 : decode cX7_carry 20 = .ok (.iload_n 1, 1) := by decide +kernel
theorem dX7_carry_21 : decode cX7_carry 21 = .ok (.iload_n 2, 1) := by decide +kernel
theorem dX7_carry_22 : decode cX7_carry 22 = .ok (.invokevirtual 200, 3) := by decide +kernel
theorem dX7_carry_25 : decode cX7_carry 25 = .ok (.istore 4, 2) := by decide +kernel
theorem dX7_carry_27 : decode cX7_carry 27 = .ok (.iload 4, 2) := by decide +kernel
theorem dX7_carry_29 : decode cX7_carry 29 = .ok (.ifCond .eq 6, 3) := by decide +kernel
theorem dX7_carry_32 : decode cX7_carry 32 = .ok (.iload 4, 2) := by decide +kernel
theorem dX7_carry_34 : decode cX7_carry 34 = .ok (.ireturn, 1) := by decide +kernel
theorem dX7_carry_35 : decode cX7_carry 35 = .ok (.aload_n 0, 1) := by decide +kernel
theorem dX7_carry_36 : decode cX7_carry 36 = .ok (.aload_n 0, 1) := by decide +kernel
theorem dX7_carry_37 : decode cX7_carry 37 = .ok (.getfield 19, 3) := by decide +kernel
theorem dX7_carry_40 : decode cX7_carry 40 = .ok (.aload_n 0, 1) := by decide +kernel
theorem dX7_carry_41 : decode cX7_carry 41 = .ok (.getfield 44, 3) := by decide +kernel
theorem dX7_carry_44 : decode cX7_carry 44 = .ok (.iload_n 1, 1) := by decide +kernel
theorem dX7_carry_45 : decode cX7_carry 45 = .ok (.iaload, 1) := by decide +kernel
theorem dX7_carry_46 : decode cX7_carry 46 = .ok (.iload_n 2, 1) := by decide +kernel
theorem dX7_carry_47 : decode cX7_carry 47 = .ok (.invokevirtual 145, 3) := by decide +kernel
theorem dX7_carry_50 : decode cX7_carry 50 = .ok (.aload_n 0, 1) := by decide +kernel
theorem dX7_carry_51 : decode cX7_carry 51 = .ok (.getfield 19, 3) := by decide +kernel
theorem dX7_carry_54 : decode cX7_carry 54 = .ok (.aload_n 0, 1) := by decide +kernel
theorem dX7_carry_55 : decode cX7_carry 55 = .ok (.getfield 44, 3) := by decide +kernel
theorem dX7_carry_58 : decode cX7_carry 58 = .ok (.iload_n 1, 1) := by decide +kernel
theorem dX7_carry_59 : decode cX7_carry 59 = .ok (.iaload, 1) := by decide +kernel
theorem dX7_carry_60 : decode cX7_carry 60 = .ok (.iload_n 2, 1) := by decide +kernel
theorem dX7_carry_61 : decode cX7_carry 61 = .ok (.invokevirtual 148, 3) := by decide +kernel
theorem dX7_carry_64 : decode cX7_carry 64 = .ok (.iload_n 3, 1) := by decide +kernel
theorem dX7_carry_65 : decode cX7_carry 65 = .ok (.invokevirtual 240, 3) := by decide +kernel
theorem dX7_carry_68 : decode cX7_carry 68 = .ok (.ireturn, 1) := by decide +kernel
def fX7_carry (p1 : Int32) (p2 : Int32) (p3 : Int32) (μ : Mm) : Option (Int32 × Mm) := ((fX7_isSlot p1).bind fun r1 => (if r1 = 0 then some ((-1 : Int32), μ) else ((fX7_isWay p3).bind fun r10 => (if r10 = 0 then some ((-2 : Int32), μ) else ((fX7_fetchReason p1 p2 μ).bind fun r22 => (if r22 = 0 then (if inb p1 10 = true then ((fX5_typeAt (μ.1 6 (Int32.toNatClampNeg p1)) p2 μ).bind fun r47 => (if inb p1 10 = true then ((fX5_codeAt (μ.1 6 (Int32.toNatClampNeg p1)) p2 μ).bind fun r61 => (bnd (fX7_carryThrough r47 r61 p3 μ) fun r65 μ65 => some (r65, μ65))) else none)) else none) else some (r22, μ)))))))
set_option maxRecDepth 100000 in
set_option maxHeartbeats 4000000 in
theorem kX7_carry (l : Launch) (ε : Ev) (p1 : Int32) (p2 : Int32) (p3 : Int32) (μ : Mm) (out : (Int32 × Mm)) (hf : fX7_carry p1 p2 p3 μ = some out) : Sp l ε layX yX7_carry cX7_carry 5 (some .int) 6 [.ref (ea ε 0), .int p1, .int p2, .int p3] (some (.int out.1)) μ out.2 := by
  refine Sp.of [(0, .ref (ea ε 0)), (1, .int p1), (2, .int p2), (3, .int p3)] rfl (by decide +kernel) (Nat.le_of_ble_eq_true rfl) ?_
  intro κ hκ C E hQ
  subst hκ
  replace C : Cf κ cX7_carry 5 RX7 (some .int) 6 := C
  refine g_iload_n (pc := 0) (i := 1) (j := 1) C dX7_carry_0 rfl rfl ?_
  refine g_cpi (pc := 1) (st := []) C lkX7_76 (As := [.int p1]) rfl (fun out h => kX7_isSlot (kl κ) p1 out h) (by decide) rfl (Nat.le_of_ble_eq_true rfl) dX7_carry_1 hf (fun r1 _ hf => ?_)
  refine g_if_ne (pc := 4) (tgt := 9) C dX7_carry_4 rfl hf (fun _ hf => ?_) (fun _ hf => ?_)
  · refine g_iload_n (pc := 9) (i := 3) (j := 3) C dX7_carry_9 rfl rfl ?_
    refine g_cpi (pc := 10) (st := []) C lkX7_237 (As := [.int p3]) rfl (fun out h => kX7_isWay (kl κ) p3 out h) (by decide) rfl (Nat.le_of_ble_eq_true rfl) dX7_carry_10 hf (fun r10 _ hf => ?_)
    refine g_if_ne (pc := 13) (tgt := 19) C dX7_carry_13 rfl hf (fun _ hf => ?_) (fun _ hf => ?_)
    · refine g_aload_n (pc := 19) (i := 0) (j := 0) C dX7_carry_19 rfl rfl ?_
      refine g_iload_n (pc := 20) (i := 1) (j := 1) C dX7_carry_20 rfl rfl ?_
      refine g_iload_n (pc := 21) (i := 2) (j := 2) C dX7_carry_21 rfl rfl ?_
      refine g_cri (pc := 22) (st := []) C E layX_0 lkX7_200 (As := [.int p1, .int p2]) rfl (fun out h => kX7_fetchReason (kl κ) ε p1 p2 μ out h) (by decide) rfl (Nat.le_of_ble_eq_true rfl) dX7_carry_22 hf (fun r22 _ hf => ?_)
      refine g_istore (pc := 25) (i := 4) (L' := [(4, .int r22), (0, .ref (ea ε 0)), (1, .int p1), (2, .int p2), (3, .int p3)]) C dX7_carry_25 (by decide) rfl ?_
      refine g_iload (pc := 27) (i := 4) (j := 0) C dX7_carry_27 rfl ?_
      refine g_if_eq (pc := 29) (tgt := 35) C dX7_carry_29 rfl hf (fun _ hf => ?_) (fun _ hf => ?_)
      · refine g_aload_n (pc := 35) (i := 0) (j := 1) C dX7_carry_35 rfl rfl ?_
        refine g_aload_n (pc := 36) (i := 0) (j := 1) C dX7_carry_36 rfl rfl ?_
        refine g_getr (pc := 37) (j := 2) C E fdX7_19 layX_0_1 dX7_carry_37 ?_
        refine g_aload_n (pc := 40) (i := 0) (j := 1) C dX7_carry_40 rfl rfl ?_
        refine g_getr (pc := 41) (j := 6) C E fdX7_44 layX_0_5 dX7_carry_41 ?_
        refine g_iload_n (pc := 44) (i := 1) (j := 2) C dX7_carry_44 rfl rfl ?_
        refine g_iald (pc := 45) C E layX_6 dX7_carry_45 hf (fun hf => ?_)
        refine g_iload_n (pc := 46) (i := 2) (j := 3) C dX7_carry_46 rfl rfl ?_
        refine g_cri (pc := 47) (st := [.ref (ea ε 0)]) C E layX_2 lkX7_145 (As := [.int (μ.1 6 (Int32.toNatClampNeg p1)), .int p2]) rfl (fun out h => kX5_typeAt (kl κ) ε (μ.1 6 (Int32.toNatClampNeg p1)) p2 μ out h) (by decide) rfl (Nat.le_of_ble_eq_true rfl) dX7_carry_47 hf (fun r47 _ hf => ?_)
        refine g_aload_n (pc := 50) (i := 0) (j := 1) C dX7_carry_50 rfl rfl ?_
        refine g_getr (pc := 51) (j := 2) C E fdX7_19 layX_0_1 dX7_carry_51 ?_
        refine g_aload_n (pc := 54) (i := 0) (j := 1) C dX7_carry_54 rfl rfl ?_
        refine g_getr (pc := 55) (j := 6) C E fdX7_44 layX_0_5 dX7_carry_55 ?_
        refine g_iload_n (pc := 58) (i := 1) (j := 2) C dX7_carry_58 rfl rfl ?_
        refine g_iald (pc := 59) C E layX_6 dX7_carry_59 hf (fun hf => ?_)
        refine g_iload_n (pc := 60) (i := 2) (j := 3) C dX7_carry_60 rfl rfl ?_
        refine g_crl (pc := 61) (st := [.int r47, .ref (ea ε 0)]) C E layX_2 lkX7_148 (As := [.int (μ.1 6 (Int32.toNatClampNeg p1)), .int p2]) rfl (fun out h => kX5_codeAt (kl κ) ε (μ.1 6 (Int32.toNatClampNeg p1)) p2 μ out h) (by decide) rfl (Nat.le_of_ble_eq_true rfl) dX7_carry_61 hf (fun r61 _ hf => ?_)
        refine g_iload_n (pc := 64) (i := 3) (j := 4) C dX7_carry_64 rfl rfl ?_
        refine g_cwi (pc := 65) (st := []) C E layX_0 lkX7_240 (As := [.int r47, .long r61, .int p3]) rfl (fun out h => kX7_carryThrough (kl κ) ε r47 r61 p3 μ out h) (by decide) rfl (Nat.le_of_ble_eq_true rfl) dX7_carry_65 hf (fun r65 μ65 _ hf => ?_)
        exact g_iretw (pc := 68) C hQ dX7_carry_68 hf
      · refine g_iload (pc := 32) (i := 4) (j := 0) C dX7_carry_32 rfl ?_
        exact g_iretw (pc := 34) C hQ dX7_carry_34 hf
    · refine g_bipush (pc := 16) C dX7_carry_16 cb_m2 ?_
      exact g_iretw (pc := 18) C hQ dX7_carry_18 hf
  · refine g_iconst (pc := 7) C dX7_carry_7 ci_m1 ?_
    exact g_iretw (pc := 8) C hQ dX7_carry_8 hf
theorem dX7_shownCode_0 : decode cX7_shownCode 0 = .ok (.iload_n 1, 1) := by decide +kernel
theorem dX7_shownCode_1 : decode cX7_shownCode 1 = .ok (.invokestatic 295, 3) := by decide +kernel
theorem dX7_shownCode_4 : decode cX7_shownCode 4 = .ok (.ifCond .eq 16, 3) := by decide +kernel
theorem dX7_shownCode_7 : decode cX7_shownCode 7 = .ok (.aload_n 0, 1) := by decide +kernel
theorem dX7_shownCode_8 : decode cX7_shownCode 8 = .ok (.getfield 33, 3) := by decide +kernel
theorem dX7_shownCode_11 : decode cX7_shownCode 11 = .ok (.lload_n 2, 1) := by decide +kernel
theorem dX7_shownCode_12 : decode cX7_shownCode 12 = .ok (.l2i, 1) := by decide +kernel
theorem dX7_shownCode_13 : decode cX7_shownCode 13 = .ok (.invokevirtual 178, 3) := by decide +kernel
theorem dX7_shownCode_16 : decode cX7_shownCode 16 = .ok (.i2l, 1) := by decide +kernel
theorem dX7_shownCode_17 : decode cX7_shownCode 17 = .ok (.goto 4, 3) := by decide +kernel
theorem dX7_shownCode_20 : decode cX7_shownCode 20 = .ok (.lload_n 2, 1) := by decide +kernel
theorem dX7_shownCode_21 : decode cX7_shownCode 21 = .ok (.lreturn, 1) := by decide +kernel
def fX7_shownCode (p1 : Int32) (p2 : Int64) (μ : Mm) : Option Int64 := ((fX4_isMark p1).bind fun r1 => (if r1 = 0 then some p2 else ((fX1_numberOf (Int64.toInt32 p2) μ).bind fun r13 => some (Int32.toInt64 r13))))
set_option maxRecDepth 100000 in
set_option maxHeartbeats 4000000 in
theorem kX7_shownCode (l : Launch) (ε : Ev) (p1 : Int32) (p2 : Int64) (μ : Mm) (out : Int64) (hf : fX7_shownCode p1 p2 μ = some out) : Sp l ε layX yX7_shownCode cX7_shownCode 4 (some .long) 1 [.ref (ea ε 0), .int p1, .long p2] (some (.long out)) μ μ := by
  refine Sp.of [(0, .ref (ea ε 0)), (1, .int p1), (2, .long p2)] rfl (by decide +kernel) (Nat.le_of_ble_eq_true rfl) ?_
  intro κ hκ C E hQ
  subst hκ
  replace C : Cf κ cX7_shownCode 4 RX7 (some .long) 1 := C
  refine g_iload_n (pc := 0) (i := 1) (j := 1) C dX7_shownCode_0 rfl rfl ?_
  refine g_cpi (pc := 1) (st := []) C lkX7_295 (As := [.int p1]) rfl (fun out h => kX4_isMark (kl κ) p1 out h) (by decide) rfl (Nat.le_of_ble_eq_true rfl) dX7_shownCode_1 hf (fun r1 _ hf => ?_)
  refine g_if_eq (pc := 4) (tgt := 20) C dX7_shownCode_4 rfl hf (fun _ hf => ?_) (fun _ hf => ?_)
  · refine g_lload_n (pc := 20) (i := 2) (j := 2) C dX7_shownCode_20 rfl rfl ?_
    exact g_lretr (pc := 21) C hQ dX7_shownCode_21 hf
  · refine g_aload_n (pc := 7) (i := 0) (j := 0) C dX7_shownCode_7 rfl rfl ?_
    refine g_getr (pc := 8) (j := 4) C E fdX7_33 layX_0_3 dX7_shownCode_8 ?_
    refine g_lload_n (pc := 11) (i := 2) (j := 2) C dX7_shownCode_11 rfl rfl ?_
    refine g_l2i (pc := 12) C dX7_shownCode_12 ?_
    refine g_cri (pc := 13) (st := []) C E layX_4 lkX7_178 (As := [.int (Int64.toInt32 p2)]) rfl (fun out h => kX1_numberOf (kl κ) ε (Int64.toInt32 p2) μ out h) (by decide) rfl (Nat.le_of_ble_eq_true rfl) dX7_shownCode_13 hf (fun r13 _ hf => ?_)
    refine g_i2l (pc := 16) C dX7_shownCode_16 ?_
    refine g_goto (pc := 17) (tgt := 21) C dX7_shownCode_17 rfl ?_
    exact g_lretr (pc := 21) C hQ dX7_shownCode_21 hf
theorem dX7_cell_0 : decode cX7_cell 0 = .ok (.iload_n 1, 1) := by decide +kernel
theorem dX7_cell_1 : decode cX7_cell 1 = .ok (.invokestatic 76, 3) := by decide +kernel
theorem dX7_cell_4 : decode cX7_cell 4 = .ok (.ifCond .ne 7, 3) := by decide +kernel
theorem dX7_cell_7 : decode cX7_cell 7 = .ok (.ldc2_w 135, 3) := by decide +kernel
theorem dX7_cell_10 : decode cX7_cell 10 = .ok (.lreturn, 1) := by decide +kernel
theorem dX7_cell_11 : decode cX7_cell 11 = .ok (.aload_n 0, 1) := by decide +kernel
theorem dX7_cell_12 : decode cX7_cell 12 = .ok (.iload_n 1, 1) := by decide +kernel
theorem dX7_cell_13 : decode cX7_cell 13 = .ok (.invokevirtual 129, 3) := by decide +kernel
theorem dX7_cell_16 : decode cX7_cell 16 = .ok (.ifCond .ne 7, 3) := by decide +kernel
theorem dX7_cell_19 : decode cX7_cell 19 = .ok (.ldc2_w 137, 3) := by decide +kernel
theorem dX7_cell_22 : decode cX7_cell 22 = .ok (.lreturn, 1) := by decide +kernel
theorem dX7_cell_23 : decode cX7_cell 23 = .ok (.aload_n 0, 1) := by decide +kernel
theorem dX7_cell_24 : decode cX7_cell 24 = .ok (.getfield 44, 3) := by decide +kernel
theorem dX7_cell_27 : decode cX7_cell 27 = .ok (.iload_n 1, 1) := by decide +kernel
theorem dX7_cell_28 : decode cX7_cell 28 = .ok (.iaload, 1) := by decide +kernel
theorem dX7_cell_29 : decode cX7_cell 29 = .ok (.istore 4, 2) := by decide +kernel
theorem dX7_cell_31 : decode cX7_cell 31 = .ok (.aload_n 0, 1) := by decide +kernel
theorem dX7_cell_32 : decode cX7_cell 32 = .ok (.getfield 19, 3) := by decide +kernel
theorem dX7_cell_35 : decode cX7_cell 35 = .ok (.iload 4, 2) := by decide +kernel
theorem dX7_cell_37 : decode cX7_cell 37 = .ok (.iload_n 2, 1) := by decide +kernel
theorem dX7_cell_38 : decode cX7_cell 38 = .ok (.invokevirtual 139, 3) := by decide +kernel
theorem dX7_cell_41 : decode cX7_cell 41 = .ok (.ifCond .eq 12, 3) := by decide +kernel
theorem dX7_cell_44 : decode cX7_cell 44 = .ok (.iload_n 3, 1) := by decide +kernel
theorem dX7_cell_45 : decode cX7_cell 45 = .ok (.ifCond .lt 8, 3) := by decide +kernel
theorem dX7_cell_48 : decode cX7_cell 48 = .ok (.iload_n 3, 1) := by decide +kernel
theorem dX7_cell_49 : decode cX7_cell 49 = .ok (.iconst 2, 1) := by decide +kernel
theorem dX7_cell_50 : decode cX7_cell 50 = .ok (.if_icmp .le 7, 3) := by decide +kernel
theorem dX7_cell_53 : decode cX7_cell 53 = .ok (.ldc2_w 143, 3) := by decide +kernel
theorem dX7_cell_56 : decode cX7_cell 56 = .ok (.lreturn, 1) := by decide +kernel
theorem dX7_cell_57 : decode cX7_cell 57 = .ok (.aload_n 0, 1) := by decide +kernel
theorem dX7_cell_58 : decode cX7_cell 58 = .ok (.getfield 19, 3) := by decide +kernel
theorem dX7_cell_61 : decode cX7_cell 61 = .ok (.iload 4, 2) := by decide +kernel
theorem dX7_cell_63 : decode cX7_cell 63 = .ok (.iload_n 2, 1) := by decide +kernel
theorem dX7_cell_64 : decode cX7_cell 64 = .ok (.invokevirtual 145, 3) := by decide +kernel
theorem dX7_cell_67 : decode cX7_cell 67 = .ok (.istore 5, 2) := by decide +kernel
theorem dX7_cell_69 : decode cX7_cell 69 = .ok (.aload_n 0, 1) := by decide +kernel
theorem dX7_cell_70 : decode cX7_cell 70 = .ok (.getfield 19, 3) := by decide +kernel
theorem dX7_cell_73 : decode cX7_cell 73 = .ok (.iload 4, 2) := by decide +kernel
theorem dX7_cell_75 : decode cX7_cell 75 = .ok (.iload_n 2, 1) := by decide +kernel
theorem dX7_cell_76 : decode cX7_cell 76 = .ok (.invokevirtual 148, 3) := by decide +kernel
theorem dX7_cell_79 : decode cX7_cell 79 = .ok (.lstore 6, 2) := by decide +kernel
theorem dX7_cell_81 : decode cX7_cell 81 = .ok (.iload_n 3, 1) := by decide +kernel
theorem dX7_cell_82 : decode cX7_cell 82 = .ok (.ifCond .ne 7, 3) := by decide +kernel
theorem dX7_cell_85 : decode cX7_cell 85 = .ok (.iload 5, 2) := by decide +kernel
theorem dX7_cell_87 : decode cX7_cell 87 = .ok (.i2l, 1) := by decide +kernel
theorem dX7_cell_88 : decode cX7_cell 88 = .ok (.lreturn, 1) := by decide +kernel
theorem dX7_cell_89 : decode cX7_cell 89 = .ok (.iload_n 3, 1) := by decide +kernel
theorem dX7_cell_90 : decode cX7_cell 90 = .ok (.iconst 1, 1) := by decide +kernel
theorem dX7_cell_91 : decode cX7_cell 91 = .ok (.if_icmp .ne 14, 3) := by decide +kernel
theorem dX7_cell_94 : decode cX7_cell 94 = .ok (.aload_n 0, 1) := by decide +kernel
theorem dX7_cell_95 : decode cX7_cell 95 = .ok (.iload 5, 2) := by decide +kernel
theorem dX7_cell_97 : decode cX7_cell 97 = .ok (.lload 6, 2) := by decide +kernel
theorem dX7_cell_99 : decode cX7_cell 99 = .ok (.invokevirtual 152, 3) := by decide +kernel
theorem dX7_cell_102 : decode cX7_cell 102 = .ok (.goto 10, 3) := by decide +kernel
theorem dX7_cell_105 : decode cX7_cell 105 = .ok (.iload 5, 2) := by decide +kernel
theorem dX7_cell_107 : decode cX7_cell 107 = .ok (.lload 6, 2) := by decide +kernel
theorem dX7_cell_109 : decode cX7_cell 109 = .ok (.invokestatic 155, 3) := by decide +kernel
theorem dX7_cell_112 : decode cX7_cell 112 = .ok (.lreturn, 1) := by decide +kernel
def fX7_cell (p1 : Int32) (p2 : Int32) (p3 : Int32) (μ : Mm) : Option Int64 := ((fX7_isSlot p1).bind fun r1 => (if r1 = 0 then some (-1 : Int64) else ((fX7_holdsArray p1 μ).bind fun r13 => (if r13 = 0 then some (-3 : Int64) else (if inb p1 10 = true then ((fX5_has (μ.1 6 (Int32.toNatClampNeg p1)) p2 μ).bind fun r38 => (if r38 = 0 then some (-2 : Int64) else (if p3 < 0 then some (-2 : Int64) else (if p3 ≤ (2 : Int32) then ((fX5_typeAt (μ.1 6 (Int32.toNatClampNeg p1)) p2 μ).bind fun r64 => ((fX5_codeAt (μ.1 6 (Int32.toNatClampNeg p1)) p2 μ).bind fun r76 => (if p3 = 0 then some (Int32.toInt64 r64) else (if p3 = (1 : Int32) then ((fX7_shownCode r64 r76 μ).bind fun r99 => some r99) else ((fX7_markIndex r64 r76).bind fun r109 => some r109))))) else some (-2 : Int64))))) else none)))))
set_option maxRecDepth 100000 in
set_option maxHeartbeats 4000000 in
theorem kX7_cell (l : Launch) (ε : Ev) (p1 : Int32) (p2 : Int32) (p3 : Int32) (μ : Mm) (out : Int64) (hf : fX7_cell p1 p2 p3 μ = some out) : Sp l ε layX yX7_cell cX7_cell 8 (some .long) 2 [.ref (ea ε 0), .int p1, .int p2, .int p3] (some (.long out)) μ μ := by
  refine Sp.of [(0, .ref (ea ε 0)), (1, .int p1), (2, .int p2), (3, .int p3)] rfl (by decide +kernel) (Nat.le_of_ble_eq_true rfl) ?_
  intro κ hκ C E hQ
  subst hκ
  replace C : Cf κ cX7_cell 8 RX7 (some .long) 2 := C
  refine g_iload_n (pc := 0) (i := 1) (j := 1) C dX7_cell_0 rfl rfl ?_
  refine g_cpi (pc := 1) (st := []) C lkX7_76 (As := [.int p1]) rfl (fun out h => kX7_isSlot (kl κ) p1 out h) (by decide) rfl (Nat.le_of_ble_eq_true rfl) dX7_cell_1 hf (fun r1 _ hf => ?_)
  refine g_if_ne (pc := 4) (tgt := 11) C dX7_cell_4 rfl hf (fun _ hf => ?_) (fun _ hf => ?_)
  · refine g_aload_n (pc := 11) (i := 0) (j := 0) C dX7_cell_11 rfl rfl ?_
    refine g_iload_n (pc := 12) (i := 1) (j := 1) C dX7_cell_12 rfl rfl ?_
    refine g_cri (pc := 13) (st := []) C E layX_0 lkX7_129 (As := [.int p1]) rfl (fun out h => kX7_holdsArray (kl κ) ε p1 μ out h) (by decide) rfl (Nat.le_of_ble_eq_true rfl) dX7_cell_13 hf (fun r13 _ hf => ?_)
    refine g_if_ne (pc := 16) (tgt := 23) C dX7_cell_16 rfl hf (fun _ hf => ?_) (fun _ hf => ?_)
    · refine g_aload_n (pc := 23) (i := 0) (j := 0) C dX7_cell_23 rfl rfl ?_
      refine g_getr (pc := 24) (j := 6) C E fdX7_44 layX_0_5 dX7_cell_24 ?_
      refine g_iload_n (pc := 27) (i := 1) (j := 1) C dX7_cell_27 rfl rfl ?_
      refine g_iald (pc := 28) C E layX_6 dX7_cell_28 hf (fun hf => ?_)
      refine g_istore (pc := 29) (i := 4) (L' := [(4, .int (μ.1 6 (Int32.toNatClampNeg p1))), (0, .ref (ea ε 0)), (1, .int p1), (2, .int p2), (3, .int p3)]) C dX7_cell_29 (by decide) rfl ?_
      refine g_aload_n (pc := 31) (i := 0) (j := 1) C dX7_cell_31 rfl rfl ?_
      refine g_getr (pc := 32) (j := 2) C E fdX7_19 layX_0_1 dX7_cell_32 ?_
      refine g_iload (pc := 35) (i := 4) (j := 0) C dX7_cell_35 rfl ?_
      refine g_iload_n (pc := 37) (i := 2) (j := 3) C dX7_cell_37 rfl rfl ?_
      refine g_cri (pc := 38) (st := []) C E layX_2 lkX7_139 (As := [.int (μ.1 6 (Int32.toNatClampNeg p1)), .int p2]) rfl (fun out h => kX5_has (kl κ) ε (μ.1 6 (Int32.toNatClampNeg p1)) p2 μ out h) (by decide) rfl (Nat.le_of_ble_eq_true rfl) dX7_cell_38 hf (fun r38 _ hf => ?_)
      refine g_if_eq (pc := 41) (tgt := 53) C dX7_cell_41 rfl hf (fun _ hf => ?_) (fun _ hf => ?_)
      · refine g_ldc2 (pc := 53) C cnX7_143 dX7_cell_53 ?_
        exact g_lretr (pc := 56) C hQ dX7_cell_56 hf
      · refine g_iload_n (pc := 44) (i := 3) (j := 4) C dX7_cell_44 rfl rfl ?_
        refine g_if_lt (pc := 45) (tgt := 53) C dX7_cell_45 rfl hf (fun _ hf => ?_) (fun _ hf => ?_)
        · refine g_ldc2 (pc := 53) C cnX7_143 dX7_cell_53 ?_
          exact g_lretr (pc := 56) C hQ dX7_cell_56 hf
        · refine g_iload_n (pc := 48) (i := 3) (j := 4) C dX7_cell_48 rfl rfl ?_
          refine g_iconst (pc := 49) C dX7_cell_49 ci_2 ?_
          refine g_icmp_le (pc := 50) (tgt := 57) C dX7_cell_50 rfl hf (fun _ hf => ?_) (fun _ hf => ?_)
          · refine g_aload_n (pc := 57) (i := 0) (j := 1) C dX7_cell_57 rfl rfl ?_
            refine g_getr (pc := 58) (j := 2) C E fdX7_19 layX_0_1 dX7_cell_58 ?_
            refine g_iload (pc := 61) (i := 4) (j := 0) C dX7_cell_61 rfl ?_
            refine g_iload_n (pc := 63) (i := 2) (j := 3) C dX7_cell_63 rfl rfl ?_
            refine g_cri (pc := 64) (st := []) C E layX_2 lkX7_145 (As := [.int (μ.1 6 (Int32.toNatClampNeg p1)), .int p2]) rfl (fun out h => kX5_typeAt (kl κ) ε (μ.1 6 (Int32.toNatClampNeg p1)) p2 μ out h) (by decide) rfl (Nat.le_of_ble_eq_true rfl) dX7_cell_64 hf (fun r64 _ hf => ?_)
            refine g_istore (pc := 67) (i := 5) (L' := [(5, .int r64), (4, .int (μ.1 6 (Int32.toNatClampNeg p1))), (0, .ref (ea ε 0)), (1, .int p1), (2, .int p2), (3, .int p3)]) C dX7_cell_67 (by decide) rfl ?_
            refine g_aload_n (pc := 69) (i := 0) (j := 2) C dX7_cell_69 rfl rfl ?_
            refine g_getr (pc := 70) (j := 2) C E fdX7_19 layX_0_1 dX7_cell_70 ?_
            refine g_iload (pc := 73) (i := 4) (j := 1) C dX7_cell_73 rfl ?_
            refine g_iload_n (pc := 75) (i := 2) (j := 4) C dX7_cell_75 rfl rfl ?_
            refine g_crl (pc := 76) (st := []) C E layX_2 lkX7_148 (As := [.int (μ.1 6 (Int32.toNatClampNeg p1)), .int p2]) rfl (fun out h => kX5_codeAt (kl κ) ε (μ.1 6 (Int32.toNatClampNeg p1)) p2 μ out h) (by decide) rfl (Nat.le_of_ble_eq_true rfl) dX7_cell_76 hf (fun r76 _ hf => ?_)
            refine g_lstore (pc := 79) (i := 6) (L' := [(6, .long r76), (5, .int r64), (4, .int (μ.1 6 (Int32.toNatClampNeg p1))), (0, .ref (ea ε 0)), (1, .int p1), (2, .int p2), (3, .int p3)]) C dX7_cell_79 (by decide) rfl ?_
            refine g_iload_n (pc := 81) (i := 3) (j := 6) C dX7_cell_81 rfl rfl ?_
            refine g_if_ne (pc := 82) (tgt := 89) C dX7_cell_82 rfl hf (fun _ hf => ?_) (fun _ hf => ?_)
            · refine g_iload_n (pc := 89) (i := 3) (j := 6) C dX7_cell_89 rfl rfl ?_
              refine g_iconst (pc := 90) C dX7_cell_90 ci_1 ?_
              refine g_icmp_ne (pc := 91) (tgt := 105) C dX7_cell_91 rfl hf (fun _ hf => ?_) (fun _ hf => ?_)
              · refine g_iload (pc := 105) (i := 5) (j := 1) C dX7_cell_105 rfl ?_
                refine g_lload (pc := 107) (i := 6) (j := 0) C dX7_cell_107 rfl ?_
                refine g_cpl (pc := 109) (st := []) C lkX7_155 (As := [.int r64, .long r76]) rfl (fun out h => kX7_markIndex (kl κ) r64 r76 out h) (by decide) rfl (Nat.le_of_ble_eq_true rfl) dX7_cell_109 hf (fun r109 _ hf => ?_)
                exact g_lretr (pc := 112) C hQ dX7_cell_112 hf
              · refine g_aload_n (pc := 94) (i := 0) (j := 3) C dX7_cell_94 rfl rfl ?_
                refine g_iload (pc := 95) (i := 5) (j := 1) C dX7_cell_95 rfl ?_
                refine g_lload (pc := 97) (i := 6) (j := 0) C dX7_cell_97 rfl ?_
                refine g_crl (pc := 99) (st := []) C E layX_0 lkX7_152 (As := [.int r64, .long r76]) rfl (fun out h => kX7_shownCode (kl κ) ε r64 r76 μ out h) (by decide) rfl (Nat.le_of_ble_eq_true rfl) dX7_cell_99 hf (fun r99 _ hf => ?_)
                refine g_goto (pc := 102) (tgt := 112) C dX7_cell_102 rfl ?_
                exact g_lretr (pc := 112) C hQ dX7_cell_112 hf
            · refine g_iload (pc := 85) (i := 5) (j := 1) C dX7_cell_85 rfl ?_
              refine g_i2l (pc := 87) C dX7_cell_87 ?_
              exact g_lretr (pc := 88) C hQ dX7_cell_88 hf
          · refine g_ldc2 (pc := 53) C cnX7_143 dX7_cell_53 ?_
            exact g_lretr (pc := 56) C hQ dX7_cell_56 hf
    · refine g_ldc2 (pc := 19) C cnX7_137 dX7_cell_19 ?_
      exact g_lretr (pc := 22) C hQ dX7_cell_22 hf
  · refine g_ldc2 (pc := 7) C cnX7_135 dX7_cell_7 ?_
    exact g_lretr (pc := 10) C hQ dX7_cell_10 hf
theorem dX7_chains_0 : decode cX7_chains 0 = .ok (.iload_n 1, 1) := by decide +kernel
theorem dX7_chains_1 : decode cX7_chains 1 = .ok (.invokestatic 158, 3) := by decide +kernel
theorem dX7_chains_4 : decode cX7_chains 4 = .ok (.ifCond .eq 10, 3) := by decide +kernel
theorem dX7_chains_7 : decode cX7_chains 7 = .ok (.iload_n 2, 1) := by decide +kernel
theorem dX7_chains_8 : decode cX7_chains 8 = .ok (.invokestatic 158, 3) := by decide +kernel
theorem dX7_chains_11 : decode cX7_chains 11 = .ok (.ifCond .ne 6, 3) := by decide +kernel
theorem dX7_chains_14 : decode cX7_chains 14 = .ok (.bipush (-2), 2) := by decide +kernel
theorem dX7_chains_16 : decode cX7_chains 16 = .ok (.ireturn, 1) := by decide +kernel
theorem dX7_chains_17 : decode cX7_chains 17 = .ok (.iload_n 1, 1) := by decide +kernel
theorem dX7_chains_18 : decode cX7_chains 18 = .ok (.iload_n 2, 1) := by decide +kernel
theorem dX7_chains_19 : decode cX7_chains 19 = .ok (.iconst 0, 1) := by decide +kernel
theorem dX7_chains_20 : decode cX7_chains 20 = .ok (.invokestatic 234, 3) := by decide +kernel
theorem dX7_chains_23 : decode cX7_chains 23 = .ok (.ireturn, 1) := by decide +kernel
def fX7_chains (p1 : Int32) (p2 : Int32) (μ : Mm) : Option Int32 := ((fX7_isPrimitive p1).bind fun r1 => (if r1 = 0 then some (-2 : Int32) else ((fX7_isPrimitive p2).bind fun r8 => (if r8 = 0 then some (-2 : Int32) else ((fX2_countChains 10 p1 p2 (0 : Int32)).bind fun r20 => some r20)))))
set_option maxRecDepth 100000 in
set_option maxHeartbeats 4000000 in
theorem kX7_chains (l : Launch) (ε : Ev) (p1 : Int32) (p2 : Int32) (μ : Mm) (out : Int32) (hf : fX7_chains p1 p2 μ = some out) : Sp l ε layX yX7_chains cX7_chains 3 (some .int) 12 [.ref (ea ε 0), .int p1, .int p2] (some (.int out)) μ μ := by
  refine Sp.of [(0, .ref (ea ε 0)), (1, .int p1), (2, .int p2)] rfl (by decide +kernel) (Nat.le_of_ble_eq_true rfl) ?_
  intro κ hκ C E hQ
  subst hκ
  replace C : Cf κ cX7_chains 3 RX7 (some .int) 12 := C
  refine g_iload_n (pc := 0) (i := 1) (j := 1) C dX7_chains_0 rfl rfl ?_
  refine g_cpi (pc := 1) (st := []) C lkX7_158 (As := [.int p1]) rfl (fun out h => kX7_isPrimitive (kl κ) p1 out h) (by decide) rfl (Nat.le_of_ble_eq_true rfl) dX7_chains_1 hf (fun r1 _ hf => ?_)
  refine g_if_eq (pc := 4) (tgt := 14) C dX7_chains_4 rfl hf (fun _ hf => ?_) (fun _ hf => ?_)
  · refine g_bipush (pc := 14) C dX7_chains_14 cb_m2 ?_
    exact g_iretr (pc := 16) C hQ dX7_chains_16 hf
  · refine g_iload_n (pc := 7) (i := 2) (j := 2) C dX7_chains_7 rfl rfl ?_
    refine g_cpi (pc := 8) (st := []) C lkX7_158 (As := [.int p2]) rfl (fun out h => kX7_isPrimitive (kl κ) p2 out h) (by decide) rfl (Nat.le_of_ble_eq_true rfl) dX7_chains_8 hf (fun r8 _ hf => ?_)
    refine g_if_ne (pc := 11) (tgt := 17) C dX7_chains_11 rfl hf (fun _ hf => ?_) (fun _ hf => ?_)
    · refine g_iload_n (pc := 17) (i := 1) (j := 1) C dX7_chains_17 rfl rfl ?_
      refine g_iload_n (pc := 18) (i := 2) (j := 2) C dX7_chains_18 rfl rfl ?_
      refine g_iconst (pc := 19) C dX7_chains_19 ci_0 ?_
      refine g_cni (pc := 20) (st := []) C lkX7_234 (As := [.int p1, .int p2, .int (0 : Int32)]) rfl (fun out h => kX2_countChains (kl κ) 10 p1 p2 (0 : Int32) out h) (by decide) rfl (Nat.le_of_ble_eq_true rfl) dX7_chains_20 hf (fun r20 _ hf => ?_)
      exact g_iretr (pc := 23) C hQ dX7_chains_23 hf
    · refine g_bipush (pc := 14) C dX7_chains_14 cb_m2 ?_
      exact g_iretr (pc := 16) C hQ dX7_chains_16 hf
theorem dX7_convertElement_0 : decode cX7_convertElement 0 = .ok (.aload_n 0, 1) := by decide +kernel
theorem dX7_convertElement_1 : decode cX7_convertElement 1 = .ok (.getfield 19, 3) := by decide +kernel
theorem dX7_convertElement_4 : decode cX7_convertElement 4 = .ok (.getfield 292, 3) := by decide +kernel
theorem dX7_convertElement_7 : decode cX7_convertElement 7 = .ok (.iload_n 2, 1) := by decide +kernel
theorem dX7_convertElement_8 : decode cX7_convertElement 8 = .ok (.iaload, 1) := by decide +kernel
theorem dX7_convertElement_9 : decode cX7_convertElement 9 = .ok (.istore 5, 2) := by decide +kernel
theorem dX7_convertElement_11 : decode cX7_convertElement 11 = .ok (.aload_n 0, 1) := by decide +kernel
theorem dX7_convertElement_12 : decode cX7_convertElement 12 = .ok (.getfield 19, 3) := by decide +kernel
theorem dX7_convertElement_15 : decode cX7_convertElement 15 = .ok (.iload_n 1, 1) := by decide +kernel
theorem dX7_convertElement_16 : decode cX7_convertElement 16 = .ok (.iload_n 3, 1) := by decide +kernel
theorem dX7_convertElement_17 : decode cX7_convertElement 17 = .ok (.invokevirtual 145, 3) := by decide +kernel
theorem dX7_convertElement_20 : decode cX7_convertElement 20 = .ok (.istore 6, 2) := by decide +kernel
theorem dX7_convertElement_22 : decode cX7_convertElement 22 = .ok (.aload_n 0, 1) := by decide +kernel
theorem dX7_convertElement_23 : decode cX7_convertElement 23 = .ok (.getfield 19, 3) := by decide +kernel
theorem dX7_convertElement_26 : decode cX7_convertElement 26 = .ok (.iload_n 1, 1) := by decide +kernel
theorem dX7_convertElement_27 : decode cX7_convertElement 27 = .ok (.iload_n 3, 1) := by decide +kernel
theorem dX7_convertElement_28 : decode cX7_convertElement 28 = .ok (.invokevirtual 148, 3) := by decide +kernel
theorem dX7_convertElement_31 : decode cX7_convertElement 31 = .ok (.lstore 7, 2) := by decide +kernel
theorem dX7_convertElement_33 : decode cX7_convertElement 33 = .ok (.iload 4, 2) := by decide +kernel
theorem dX7_convertElement_35 : decode cX7_convertElement 35 = .ok (.iconst 3, 1) := by decide +kernel
theorem dX7_convertElement_36 : decode cX7_convertElement 36 = .ok (.if_icmp .ne 42, 3) := by decide +kernel
theorem dX7_convertElement_39 : decode cX7_convertElement 39 = .ok (.iload 6, 2) := by decide +kernel
theorem dX7_convertElement_41 : decode cX7_convertElement 41 = .ok (.invokestatic 322, 3) := by decide +kernel
theorem dX7_convertElement_44 : decode cX7_convertElement 44 = .ok (.ifCond .eq 34, 3) := by decide +kernel
theorem dX7_convertElement_47 : decode cX7_convertElement 47 = .ok (.iload 5, 2) := by decide +kernel
theorem dX7_convertElement_49 : decode cX7_convertElement 49 = .ok (.invokestatic 322, 3) := by decide +kernel
theorem dX7_convertElement_52 : decode cX7_convertElement 52 = .ok (.ifCond .eq 26, 3) := by decide +kernel
theorem dX7_convertElement_55 : decode cX7_convertElement 55 = .ok (.aload_n 0, 1) := by decide +kernel
theorem dX7_convertElement_56 : decode cX7_convertElement 56 = .ok (.getfield 19, 3) := by decide +kernel
theorem dX7_convertElement_59 : decode cX7_convertElement 59 = .ok (.iload_n 2, 1) := by decide +kernel
theorem dX7_convertElement_60 : decode cX7_convertElement 60 = .ok (.iload_n 3, 1) := by decide +kernel
theorem dX7_convertElement_61 : decode cX7_convertElement 61 = .ok (.iload 5, 2) := by decide +kernel
theorem dX7_convertElement_63 : decode cX7_convertElement 63 = .ok (.lload 7, 2) := by decide +kernel
theorem dX7_convertElement_65 : decode cX7_convertElement 65 = .ok (.iload 6, 2) := by decide +kernel
theorem dX7_convertElement_67 : decode cX7_convertElement 67 = .ok (.iload 5, 2) := by decide +kernel
theorem dX7_convertElement_69 : decode cX7_convertElement 69 = .ok (.invokestatic 329, 3) := by decide +kernel
theorem dX7_convertElement_72 : decode cX7_convertElement 72 = .ok (.invokevirtual 102, 3) := by decide +kernel
theorem dX7_convertElement_75 : decode cX7_convertElement 75 = .ok (.goto 16, 3) := by decide +kernel
theorem dX7_convertElement_78 : decode cX7_convertElement 78 = .ok (.aload_n 0, 1) := by decide +kernel
theorem dX7_convertElement_79 : decode cX7_convertElement 79 = .ok (.getfield 19, 3) := by decide +kernel
theorem dX7_convertElement_82 : decode cX7_convertElement 82 = .ok (.iload_n 2, 1) := by decide +kernel
theorem dX7_convertElement_83 : decode cX7_convertElement 83 = .ok (.iload_n 3, 1) := by decide +kernel
theorem dX7_convertElement_84 : decode cX7_convertElement 84 = .ok (.iload 6, 2) := by decide +kernel
theorem dX7_convertElement_86 : decode cX7_convertElement 86 = .ok (.lload 7, 2) := by decide +kernel
theorem dX7_convertElement_88 : decode cX7_convertElement 88 = .ok (.invokevirtual 214, 3) := by decide +kernel
theorem dX7_convertElement_91 : decode cX7_convertElement 91 = .ok (.return_, 1) := by decide +kernel
def fX7_convertElement_b78 (v2 : Int32) (v3 : Int32) (v6 : Int32) (v7 : Int64) (μ : Mm) : Option Mm := ((fX5_put v2 v3 v6 v7 μ).bind fun μ88 => some μ88)
def fX7_convertElement (p1 : Int32) (p2 : Int32) (p3 : Int32) (p4 : Int32) (μ : Mm) : Option Mm := (if inb p2 26 = true then ((fX5_typeAt p1 p3 μ).bind fun r17 => ((fX5_codeAt p1 p3 μ).bind fun r28 => (if p4 = (3 : Int32) then ((fX4_isNumeric r17).bind fun r41 => (if r41 = 0 then fX7_convertElement_b78 p2 p3 r17 r28 μ else ((fX4_isNumeric (μ.1 11 (Int32.toNatClampNeg p2))).bind fun r49 => (if r49 = 0 then fX7_convertElement_b78 p2 p3 r17 r28 μ else ((fX2_sameNumber r28 r17 (μ.1 11 (Int32.toNatClampNeg p2))).bind fun r69 => ((fX5_set p2 p3 (μ.1 11 (Int32.toNatClampNeg p2)) r69 μ).bind fun μ72 => some μ72)))))) else fX7_convertElement_b78 p2 p3 r17 r28 μ))) else none)
set_option maxRecDepth 100000 in
set_option maxHeartbeats 4000000 in
theorem kX7_convertElement (l : Launch) (ε : Ev) (p1 : Int32) (p2 : Int32) (p3 : Int32) (p4 : Int32) (μ : Mm) (out : Mm) (hf : fX7_convertElement p1 p2 p3 p4 μ = some out) : Sp l ε layX yX7_convertElement cX7_convertElement 9 none 6 [.ref (ea ε 0), .int p1, .int p2, .int p3, .int p4] none μ out := by
  refine Sp.of [(0, .ref (ea ε 0)), (1, .int p1), (2, .int p2), (3, .int p3), (4, .int p4)] rfl (by decide +kernel) (Nat.le_of_ble_eq_true rfl) ?_
  intro κ hκ C E hQ
  subst hκ
  replace C : Cf κ cX7_convertElement 9 RX7 none 6 := C
  have b78 : ∀ (v2 : Int32) (v3 : Int32) (v6 : Int32) (v7 : Int64) (μ : Mm) , fX7_convertElement_b78 v2 v3 v6 v7 μ = some out → G κ (Vw κ ε layX μ) 9 78 [(0, .ref (ea ε 0)), (2, .int v2), (3, .int v3), (6, .int v6), (7, .long v7)] [] := by
    intro v2 v3 v6 v7 μ hf
    refine g_aload_n (pc := 78) (i := 0) (j := 0) C dX7_convertElement_78 rfl rfl ?_
    refine g_getr (pc := 79) (j := 2) C E fdX7_19 layX_0_1 dX7_convertElement_79 ?_
    refine g_iload_n (pc := 82) (i := 2) (j := 1) C dX7_convertElement_82 rfl rfl ?_
    refine g_iload_n (pc := 83) (i := 3) (j := 2) C dX7_convertElement_83 rfl rfl ?_
    refine g_iload (pc := 84) (i := 6) (j := 3) C dX7_convertElement_84 rfl ?_
    refine g_lload (pc := 86) (i := 7) (j := 4) C dX7_convertElement_86 rfl ?_
    refine g_cwv (pc := 88) (st := []) C E layX_2 lkX7_214 (As := [.int v2, .int v3, .int v6, .long v7]) rfl (fun out h => kX5_put (kl κ) ε v2 v3 v6 v7 μ out h) (by decide) rfl (Nat.le_of_ble_eq_true rfl) dX7_convertElement_88 hf (fun μ88 _ hf => ?_)
    exact g_vretw (pc := 91) C hQ dX7_convertElement_91 hf
  refine g_aload_n (pc := 0) (i := 0) (j := 0) C dX7_convertElement_0 rfl rfl ?_
  refine g_getr (pc := 1) (j := 2) C E fdX7_19 layX_0_1 dX7_convertElement_1 ?_
  refine g_getr (pc := 4) (j := 11) C E fdX7_292 layX_2_0 dX7_convertElement_4 ?_
  refine g_iload_n (pc := 7) (i := 2) (j := 2) C dX7_convertElement_7 rfl rfl ?_
  refine g_iald (pc := 8) C E layX_11 dX7_convertElement_8 hf (fun hf => ?_)
  refine g_istore (pc := 9) (i := 5) (L' := [(5, .int (μ.1 11 (Int32.toNatClampNeg p2))), (0, .ref (ea ε 0)), (1, .int p1), (2, .int p2), (3, .int p3), (4, .int p4)]) C dX7_convertElement_9 (by decide) rfl ?_
  refine g_aload_n (pc := 11) (i := 0) (j := 1) C dX7_convertElement_11 rfl rfl ?_
  refine g_getr (pc := 12) (j := 2) C E fdX7_19 layX_0_1 dX7_convertElement_12 ?_
  refine g_iload_n (pc := 15) (i := 1) (j := 2) C dX7_convertElement_15 rfl rfl ?_
  refine g_iload_n (pc := 16) (i := 3) (j := 4) C dX7_convertElement_16 rfl rfl ?_
  refine g_cri (pc := 17) (st := []) C E layX_2 lkX7_145 (As := [.int p1, .int p3]) rfl (fun out h => kX5_typeAt (kl κ) ε p1 p3 μ out h) (by decide) rfl (Nat.le_of_ble_eq_true rfl) dX7_convertElement_17 hf (fun r17 _ hf => ?_)
  refine g_istore (pc := 20) (i := 6) (L' := [(6, .int r17), (5, .int (μ.1 11 (Int32.toNatClampNeg p2))), (0, .ref (ea ε 0)), (1, .int p1), (2, .int p2), (3, .int p3), (4, .int p4)]) C dX7_convertElement_20 (by decide) rfl ?_
  refine g_aload_n (pc := 22) (i := 0) (j := 2) C dX7_convertElement_22 rfl rfl ?_
  refine g_getr (pc := 23) (j := 2) C E fdX7_19 layX_0_1 dX7_convertElement_23 ?_
  refine g_iload_n (pc := 26) (i := 1) (j := 3) C dX7_convertElement_26 rfl rfl ?_
  refine g_iload_n (pc := 27) (i := 3) (j := 5) C dX7_convertElement_27 rfl rfl ?_
  refine g_crl (pc := 28) (st := []) C E layX_2 lkX7_148 (As := [.int p1, .int p3]) rfl (fun out h => kX5_codeAt (kl κ) ε p1 p3 μ out h) (by decide) rfl (Nat.le_of_ble_eq_true rfl) dX7_convertElement_28 hf (fun r28 _ hf => ?_)
  refine g_lstore (pc := 31) (i := 7) (L' := [(7, .long r28), (6, .int r17), (5, .int (μ.1 11 (Int32.toNatClampNeg p2))), (0, .ref (ea ε 0)), (1, .int p1), (2, .int p2), (3, .int p3), (4, .int p4)]) C dX7_convertElement_31 (by decide) rfl ?_
  refine g_iload (pc := 33) (i := 4) (j := 7) C dX7_convertElement_33 rfl ?_
  refine g_iconst (pc := 35) C dX7_convertElement_35 ci_3 ?_
  refine g_icmp_ne (pc := 36) (tgt := 78) C dX7_convertElement_36 rfl hf (fun _ hf => ?_) (fun _ hf => ?_)
  · exact g_at [3, 5, 6, 1, 0] rfl (b78 p2 p3 r17 r28 μ hf)
  · refine g_iload (pc := 39) (i := 6) (j := 1) C dX7_convertElement_39 rfl ?_
    refine g_cpi (pc := 41) (st := []) C lkX7_322 (As := [.int r17]) rfl (fun out h => kX4_isNumeric (kl κ) r17 out h) (by decide) rfl (Nat.le_of_ble_eq_true rfl) dX7_convertElement_41 hf (fun r41 _ hf => ?_)
    refine g_if_eq (pc := 44) (tgt := 78) C dX7_convertElement_44 rfl hf (fun _ hf => ?_) (fun _ hf => ?_)
    · exact g_at [3, 5, 6, 1, 0] rfl (b78 p2 p3 r17 r28 μ hf)
    · refine g_iload (pc := 47) (i := 5) (j := 2) C dX7_convertElement_47 rfl ?_
      refine g_cpi (pc := 49) (st := []) C lkX7_322 (As := [.int (μ.1 11 (Int32.toNatClampNeg p2))]) rfl (fun out h => kX4_isNumeric (kl κ) (μ.1 11 (Int32.toNatClampNeg p2)) out h) (by decide) rfl (Nat.le_of_ble_eq_true rfl) dX7_convertElement_49 hf (fun r49 _ hf => ?_)
      refine g_if_eq (pc := 52) (tgt := 78) C dX7_convertElement_52 rfl hf (fun _ hf => ?_) (fun _ hf => ?_)
      · exact g_at [3, 5, 6, 1, 0] rfl (b78 p2 p3 r17 r28 μ hf)
      · refine g_aload_n (pc := 55) (i := 0) (j := 3) C dX7_convertElement_55 rfl rfl ?_
        refine g_getr (pc := 56) (j := 2) C E fdX7_19 layX_0_1 dX7_convertElement_56 ?_
        refine g_iload_n (pc := 59) (i := 2) (j := 5) C dX7_convertElement_59 rfl rfl ?_
        refine g_iload_n (pc := 60) (i := 3) (j := 6) C dX7_convertElement_60 rfl rfl ?_
        refine g_iload (pc := 61) (i := 5) (j := 2) C dX7_convertElement_61 rfl ?_
        refine g_lload (pc := 63) (i := 7) (j := 0) C dX7_convertElement_63 rfl ?_
        refine g_iload (pc := 65) (i := 6) (j := 1) C dX7_convertElement_65 rfl ?_
        refine g_iload (pc := 67) (i := 5) (j := 2) C dX7_convertElement_67 rfl ?_
        refine g_cpl (pc := 69) (st := [.int (μ.1 11 (Int32.toNatClampNeg p2)), .int p3, .int p2, .ref (ea ε 2)]) C lkX7_329 (As := [.long r28, .int r17, .int (μ.1 11 (Int32.toNatClampNeg p2))]) rfl (fun out h => kX2_sameNumber (kl κ) r28 r17 (μ.1 11 (Int32.toNatClampNeg p2)) out h) (by decide) rfl (Nat.le_of_ble_eq_true rfl) dX7_convertElement_69 hf (fun r69 _ hf => ?_)
        refine g_cwv (pc := 72) (st := []) C E layX_2 lkX7_102 (As := [.int p2, .int p3, .int (μ.1 11 (Int32.toNatClampNeg p2)), .long r69]) rfl (fun out h => kX5_set (kl κ) ε p2 p3 (μ.1 11 (Int32.toNatClampNeg p2)) r69 μ out h) (by decide) rfl (Nat.le_of_ble_eq_true rfl) dX7_convertElement_72 hf (fun μ72 _ hf => ?_)
        refine g_goto (pc := 75) (tgt := 91) C dX7_convertElement_75 rfl ?_
        exact g_vretw (pc := 91) C hQ dX7_convertElement_91 hf
theorem dX7_convertReason_0 : decode cX7_convertReason 0 = .ok (.aload_n 0, 1) := by decide +kernel
theorem dX7_convertReason_1 : decode cX7_convertReason 1 = .ok (.getfield 19, 3) := by decide +kernel
theorem dX7_convertReason_4 : decode cX7_convertReason 4 = .ok (.getfield 292, 3) := by decide +kernel
theorem dX7_convertReason_7 : decode cX7_convertReason 7 = .ok (.iload_n 1, 1) := by decide +kernel
theorem dX7_convertReason_8 : decode cX7_convertReason 8 = .ok (.iaload, 1) := by decide +kernel
theorem dX7_convertReason_9 : decode cX7_convertReason 9 = .ok (.istore 5, 2) := by decide +kernel
theorem dX7_convertReason_11 : decode cX7_convertReason 11 = .ok (.aload_n 0, 1) := by decide +kernel
theorem dX7_convertReason_12 : decode cX7_convertReason 12 = .ok (.getfield 19, 3) := by decide +kernel
theorem dX7_convertReason_15 : decode cX7_convertReason 15 = .ok (.getfield 292, 3) := by decide +kernel
theorem dX7_convertReason_18 : decode cX7_convertReason 18 = .ok (.iload_n 2, 1) := by decide +kernel
theorem dX7_convertReason_19 : decode cX7_convertReason 19 = .ok (.iaload, 1) := by decide +kernel
theorem dX7_convertReason_20 : decode cX7_convertReason 20 = .ok (.istore 6, 2) := by decide +kernel
theorem dX7_convertReason_22 : decode cX7_convertReason 22 = .ok (.aload_n 0, 1) := by decide +kernel
theorem dX7_convertReason_23 : decode cX7_convertReason 23 = .ok (.getfield 19, 3) := by decide +kernel
theorem dX7_convertReason_26 : decode cX7_convertReason 26 = .ok (.iload_n 1, 1) := by decide +kernel
theorem dX7_convertReason_27 : decode cX7_convertReason 27 = .ok (.iload_n 3, 1) := by decide +kernel
theorem dX7_convertReason_28 : decode cX7_convertReason 28 = .ok (.invokevirtual 145, 3) := by decide +kernel
theorem dX7_convertReason_31 : decode cX7_convertReason 31 = .ok (.istore 7, 2) := by decide +kernel
theorem dX7_convertReason_33 : decode cX7_convertReason 33 = .ok (.iload 4, 2) := by decide +kernel
theorem dX7_convertReason_35 : decode cX7_convertReason 35 = .ok (.iconst 1, 1) := by decide +kernel
theorem dX7_convertReason_36 : decode cX7_convertReason 36 = .ok (.if_icmp .gt 61, 3) := by decide +kernel
theorem dX7_convertReason_39 : decode cX7_convertReason 39 = .ok (.iload 4, 2) := by decide +kernel
theorem dX7_convertReason_41 : decode cX7_convertReason 41 = .ok (.ifCond .ne 8, 3) := by decide +kernel
theorem dX7_convertReason_44 : decode cX7_convertReason 44 = .ok (.iload 5, 2) := by decide +kernel
theorem dX7_convertReason_46 : decode cX7_convertReason 46 = .ok (.goto 5, 3) := by decide +kernel
theorem dX7_convertReason_49 : decode cX7_convertReason 49 = .ok (.iload 6, 2) := by decide +kernel
theorem dX7_convertReason_51 : decode cX7_convertReason 51 = .ok (.istore 8, 2) := by decide +kernel
theorem dX7_convertReason_53 : decode cX7_convertReason 53 = .ok (.iload 8, 2) := by decide +kernel
theorem dX7_convertReason_55 : decode cX7_convertReason 55 = .ok (.invokestatic 158, 3) := by decide +kernel
theorem dX7_convertReason_58 : decode cX7_convertReason 58 = .ok (.ifCond .eq 8, 3) := by decide +kernel
theorem dX7_convertReason_61 : decode cX7_convertReason 61 = .ok (.iload 8, 2) := by decide +kernel
theorem dX7_convertReason_63 : decode cX7_convertReason 63 = .ok (.goto 4, 3) := by decide +kernel
theorem dX7_convertReason_66 : decode cX7_convertReason 66 = .ok (.iconst 4, 1) := by decide +kernel
theorem dX7_convertReason_67 : decode cX7_convertReason 67 = .ok (.istore 9, 2) := by decide +kernel
theorem dX7_convertReason_69 : decode cX7_convertReason 69 = .ok (.iload 5, 2) := by decide +kernel
theorem dX7_convertReason_71 : decode cX7_convertReason 71 = .ok (.iload 9, 2) := by decide +kernel
theorem dX7_convertReason_73 : decode cX7_convertReason 73 = .ok (.invokestatic 187, 3) := by decide +kernel
theorem dX7_convertReason_76 : decode cX7_convertReason 76 = .ok (.istore 10, 2) := by decide +kernel
theorem dX7_convertReason_78 : decode cX7_convertReason 78 = .ok (.iload 10, 2) := by decide +kernel
theorem dX7_convertReason_80 : decode cX7_convertReason 80 = .ok (.ifCond .eq 8, 3) := by decide +kernel
theorem dX7_convertReason_83 : decode cX7_convertReason 83 = .ok (.iload 10, 2) := by decide +kernel
theorem dX7_convertReason_85 : decode cX7_convertReason 85 = .ok (.goto 11, 3) := by decide +kernel
theorem dX7_convertReason_88 : decode cX7_convertReason 88 = .ok (.iload 6, 2) := by decide +kernel
theorem dX7_convertReason_90 : decode cX7_convertReason 90 = .ok (.iconst 1, 1) := by decide +kernel
theorem dX7_convertReason_91 : decode cX7_convertReason 91 = .ok (.iload 9, 2) := by decide +kernel
theorem dX7_convertReason_93 : decode cX7_convertReason 93 = .ok (.invokestatic 206, 3) := by decide +kernel
theorem dX7_convertReason_96 : decode cX7_convertReason 96 = .ok (.ireturn, 1) := by decide +kernel
theorem dX7_convertReason_97 : decode cX7_convertReason 97 = .ok (.iload 4, 2) := by decide +kernel
theorem dX7_convertReason_99 : decode cX7_convertReason 99 = .ok (.iconst 3, 1) := by decide +kernel
theorem dX7_convertReason_100 : decode cX7_convertReason 100 = .ok (.if_icmp .ne 45, 3) := by decide +kernel
theorem dX7_convertReason_103 : decode cX7_convertReason 103 = .ok (.iload 7, 2) := by decide +kernel
theorem dX7_convertReason_105 : decode cX7_convertReason 105 = .ok (.invokestatic 322, 3) := by decide +kernel
theorem dX7_convertReason_108 : decode cX7_convertReason 108 = .ok (.ifCond .eq 37, 3) := by decide +kernel
theorem dX7_convertReason_111 : decode cX7_convertReason 111 = .ok (.iload 6, 2) := by decide +kernel
theorem dX7_convertReason_113 : decode cX7_convertReason 113 = .ok (.invokestatic 322, 3) := by decide +kernel
theorem dX7_convertReason_116 : decode cX7_convertReason 116 = .ok (.ifCond .eq 29, 3) := by decide +kernel
theorem dX7_convertReason_119 : decode cX7_convertReason 119 = .ok (.aload_n 0, 1) := by decide +kernel
theorem dX7_convertReason_120 : decode cX7_convertReason 120 = .ok (.getfield 19, 3) := by decide +kernel
theorem dX7_convertReason_123 : decode cX7_convertReason 123 = .ok (.iload_n 1, 1) := by decide +kernel
theorem dX7_convertReason_124 : decode cX7_convertReason 124 = .ok (.iload_n 3, 1) := by decide +kernel
theorem dX7_convertReason_125 : decode cX7_convertReason 125 = .ok (.invokevirtual 148, 3) := by decide +kernel
theorem dX7_convertReason_128 : decode cX7_convertReason 128 = .ok (.iload 7, 2) := by decide +kernel
theorem dX7_convertReason_130 : decode cX7_convertReason 130 = .ok (.iload 6, 2) := by decide +kernel
theorem dX7_convertReason_132 : decode cX7_convertReason 132 = .ok (.invokestatic 325, 3) := by decide +kernel
theorem dX7_convertReason_135 : decode cX7_convertReason 135 = .ok (.ifCond .eq 7, 3) := by decide +kernel
theorem dX7_convertReason_138 : decode cX7_convertReason 138 = .ok (.iconst 0, 1) := by decide +kernel
theorem dX7_convertReason_139 : decode cX7_convertReason 139 = .ok (.goto 5, 3) := by decide +kernel
theorem dX7_convertReason_142 : decode cX7_convertReason 142 = .ok (.bipush 8, 2) := by decide +kernel
theorem dX7_convertReason_144 : decode cX7_convertReason 144 = .ok (.ireturn, 1) := by decide +kernel
theorem dX7_convertReason_145 : decode cX7_convertReason 145 = .ok (.iload 6, 2) := by decide +kernel
theorem dX7_convertReason_147 : decode cX7_convertReason 147 = .ok (.iload 7, 2) := by decide +kernel
theorem dX7_convertReason_149 : decode cX7_convertReason 149 = .ok (.invokestatic 203, 3) := by decide +kernel
theorem dX7_convertReason_152 : decode cX7_convertReason 152 = .ok (.iload 7, 2) := by decide +kernel
theorem dX7_convertReason_154 : decode cX7_convertReason 154 = .ok (.invokestatic 206, 3) := by decide +kernel
theorem dX7_convertReason_157 : decode cX7_convertReason 157 = .ok (.ireturn, 1) := by decide +kernel
def fX7_convertReason_b145 (μ : Mm) (v6 : Int32) (v7 : Int32) : Option Int32 := ((fX4_fetchedForm v7).bind fun r149 => ((fX4_putFit v6 r149 v7).bind fun r154 => some r154))
def fX7_convertReason_b67 (μ : Mm) (v5 : Int32) (v6 : Int32) (s0 : Int32) : Option Int32 := ((fX4_getFit v5 s0).bind fun r73 => (if r73 = 0 then ((fX4_putFit v6 (1 : Int32) s0).bind fun r93 => some r93) else some r73))
def fX7_convertReason_b51 (μ : Mm) (v5 : Int32) (v6 : Int32) (s0 : Int32) : Option Int32 := ((fX7_isPrimitive s0).bind fun r55 => (if r55 = 0 then fX7_convertReason_b67 μ v5 v6 (4 : Int32) else fX7_convertReason_b67 μ v5 v6 s0))
def fX7_convertReason (p1 : Int32) (p2 : Int32) (p3 : Int32) (p4 : Int32) (μ : Mm) : Option Int32 := (if inb p1 26 = true then (if inb p2 26 = true then ((fX5_typeAt p1 p3 μ).bind fun r28 => (if (1 : Int32) < p4 then (if p4 = (3 : Int32) then ((fX4_isNumeric r28).bind fun r105 => (if r105 = 0 then fX7_convertReason_b145 μ (μ.1 11 (Int32.toNatClampNeg p2)) r28 else ((fX4_isNumeric (μ.1 11 (Int32.toNatClampNeg p2))).bind fun r113 => (if r113 = 0 then fX7_convertReason_b145 μ (μ.1 11 (Int32.toNatClampNeg p2)) r28 else ((fX5_codeAt p1 p3 μ).bind fun r125 => ((fX2_hasNumber r125 r28 (μ.1 11 (Int32.toNatClampNeg p2))).bind fun r132 => (if r132 = 0 then some (8 : Int32) else some (0 : Int32)))))))) else fX7_convertReason_b145 μ (μ.1 11 (Int32.toNatClampNeg p2)) r28) else (if p4 = 0 then fX7_convertReason_b51 μ (μ.1 11 (Int32.toNatClampNeg p1)) (μ.1 11 (Int32.toNatClampNeg p2)) (μ.1 11 (Int32.toNatClampNeg p1)) else fX7_convertReason_b51 μ (μ.1 11 (Int32.toNatClampNeg p1)) (μ.1 11 (Int32.toNatClampNeg p2)) (μ.1 11 (Int32.toNatClampNeg p2))))) else none) else none)
set_option maxRecDepth 100000 in
set_option maxHeartbeats 4000000 in
theorem kX7_convertReason (l : Launch) (ε : Ev) (p1 : Int32) (p2 : Int32) (p3 : Int32) (p4 : Int32) (μ : Mm) (out : Int32) (hf : fX7_convertReason p1 p2 p3 p4 μ = some out) : Sp l ε layX yX7_convertReason cX7_convertReason 11 (some .int) 6 [.ref (ea ε 0), .int p1, .int p2, .int p3, .int p4] (some (.int out)) μ μ := by
  refine Sp.of [(0, .ref (ea ε 0)), (1, .int p1), (2, .int p2), (3, .int p3), (4, .int p4)] rfl (by decide +kernel) (Nat.le_of_ble_eq_true rfl) ?_
  intro κ hκ C E hQ
  subst hκ
  replace C : Cf κ cX7_convertReason 11 RX7 (some .int) 6 := C
  have b145 : ∀ (v6 : Int32) (v7 : Int32) , fX7_convertReason_b145 μ v6 v7 = some out → G κ (Vw κ ε layX μ) 11 145 [(6, .int v6), (7, .int v7)] [] := by
    intro v6 v7 hf
    refine g_iload (pc := 145) (i := 6) (j := 0) C dX7_convertReason_145 rfl ?_
    refine g_iload (pc := 147) (i := 7) (j := 1) C dX7_convertReason_147 rfl ?_
    refine g_cpi (pc := 149) (st := [.int v6]) C lkX7_203 (As := [.int v7]) rfl (fun out h => kX4_fetchedForm (kl κ) v7 out h) (by decide) rfl (Nat.le_of_ble_eq_true rfl) dX7_convertReason_149 hf (fun r149 _ hf => ?_)
    refine g_iload (pc := 152) (i := 7) (j := 1) C dX7_convertReason_152 rfl ?_
    refine g_cpi (pc := 154) (st := []) C lkX7_206 (As := [.int v6, .int r149, .int v7]) rfl (fun out h => kX4_putFit (kl κ) v6 r149 v7 out h) (by decide) rfl (Nat.le_of_ble_eq_true rfl) dX7_convertReason_154 hf (fun r154 _ hf => ?_)
    exact g_iretr (pc := 157) C hQ dX7_convertReason_157 hf
  have b67 : ∀ (v5 : Int32) (v6 : Int32) (s0 : Int32) , fX7_convertReason_b67 μ v5 v6 s0 = some out → G κ (Vw κ ε layX μ) 11 67 [(5, .int v5), (6, .int v6)] [.int s0] := by
    intro v5 v6 s0 hf
    refine g_istore (pc := 67) (i := 9) (L' := [(9, .int s0), (5, .int v5), (6, .int v6)]) C dX7_convertReason_67 (by decide) rfl ?_
    refine g_iload (pc := 69) (i := 5) (j := 1) C dX7_convertReason_69 rfl ?_
    refine g_iload (pc := 71) (i := 9) (j := 0) C dX7_convertReason_71 rfl ?_
    refine g_cpi (pc := 73) (st := []) C lkX7_187 (As := [.int v5, .int s0]) rfl (fun out h => kX4_getFit (kl κ) v5 s0 out h) (by decide) rfl (Nat.le_of_ble_eq_true rfl) dX7_convertReason_73 hf (fun r73 _ hf => ?_)
    refine g_istore (pc := 76) (i := 10) (L' := [(10, .int r73), (9, .int s0), (5, .int v5), (6, .int v6)]) C dX7_convertReason_76 (by decide) rfl ?_
    refine g_iload (pc := 78) (i := 10) (j := 0) C dX7_convertReason_78 rfl ?_
    refine g_if_eq (pc := 80) (tgt := 88) C dX7_convertReason_80 rfl hf (fun _ hf => ?_) (fun _ hf => ?_)
    · refine g_iload (pc := 88) (i := 6) (j := 3) C dX7_convertReason_88 rfl ?_
      refine g_iconst (pc := 90) C dX7_convertReason_90 ci_1 ?_
      refine g_iload (pc := 91) (i := 9) (j := 1) C dX7_convertReason_91 rfl ?_
      refine g_cpi (pc := 93) (st := []) C lkX7_206 (As := [.int v6, .int (1 : Int32), .int s0]) rfl (fun out h => kX4_putFit (kl κ) v6 (1 : Int32) s0 out h) (by decide) rfl (Nat.le_of_ble_eq_true rfl) dX7_convertReason_93 hf (fun r93 _ hf => ?_)
      exact g_iretr (pc := 96) C hQ dX7_convertReason_96 hf
    · refine g_iload (pc := 83) (i := 10) (j := 0) C dX7_convertReason_83 rfl ?_
      refine g_goto (pc := 85) (tgt := 96) C dX7_convertReason_85 rfl ?_
      exact g_iretr (pc := 96) C hQ dX7_convertReason_96 hf
  have b51 : ∀ (v5 : Int32) (v6 : Int32) (s0 : Int32) , fX7_convertReason_b51 μ v5 v6 s0 = some out → G κ (Vw κ ε layX μ) 11 51 [(5, .int v5), (6, .int v6)] [.int s0] := by
    intro v5 v6 s0 hf
    refine g_istore (pc := 51) (i := 8) (L' := [(8, .int s0), (5, .int v5), (6, .int v6)]) C dX7_convertReason_51 (by decide) rfl ?_
    refine g_iload (pc := 53) (i := 8) (j := 0) C dX7_convertReason_53 rfl ?_
    refine g_cpi (pc := 55) (st := []) C lkX7_158 (As := [.int s0]) rfl (fun out h => kX7_isPrimitive (kl κ) s0 out h) (by decide) rfl (Nat.le_of_ble_eq_true rfl) dX7_convertReason_55 hf (fun r55 _ hf => ?_)
    refine g_if_eq (pc := 58) (tgt := 66) C dX7_convertReason_58 rfl hf (fun _ hf => ?_) (fun _ hf => ?_)
    · refine g_iconst (pc := 66) C dX7_convertReason_66 ci_4 ?_
      exact g_at [1, 2] rfl (b67 v5 v6 (4 : Int32) hf)
    · refine g_iload (pc := 61) (i := 8) (j := 0) C dX7_convertReason_61 rfl ?_
      refine g_goto (pc := 63) (tgt := 67) C dX7_convertReason_63 rfl ?_
      exact g_at [1, 2] rfl (b67 v5 v6 s0 hf)
  refine g_aload_n (pc := 0) (i := 0) (j := 0) C dX7_convertReason_0 rfl rfl ?_
  refine g_getr (pc := 1) (j := 2) C E fdX7_19 layX_0_1 dX7_convertReason_1 ?_
  refine g_getr (pc := 4) (j := 11) C E fdX7_292 layX_2_0 dX7_convertReason_4 ?_
  refine g_iload_n (pc := 7) (i := 1) (j := 1) C dX7_convertReason_7 rfl rfl ?_
  refine g_iald (pc := 8) C E layX_11 dX7_convertReason_8 hf (fun hf => ?_)
  refine g_istore (pc := 9) (i := 5) (L' := [(5, .int (μ.1 11 (Int32.toNatClampNeg p1))), (0, .ref (ea ε 0)), (1, .int p1), (2, .int p2), (3, .int p3), (4, .int p4)]) C dX7_convertReason_9 (by decide) rfl ?_
  refine g_aload_n (pc := 11) (i := 0) (j := 1) C dX7_convertReason_11 rfl rfl ?_
  refine g_getr (pc := 12) (j := 2) C E fdX7_19 layX_0_1 dX7_convertReason_12 ?_
  refine g_getr (pc := 15) (j := 11) C E fdX7_292 layX_2_0 dX7_convertReason_15 ?_
  refine g_iload_n (pc := 18) (i := 2) (j := 3) C dX7_convertReason_18 rfl rfl ?_
  refine g_iald (pc := 19) C E layX_11 dX7_convertReason_19 hf (fun hf => ?_)
  refine g_istore (pc := 20) (i := 6) (L' := [(6, .int (μ.1 11 (Int32.toNatClampNeg p2))), (5, .int (μ.1 11 (Int32.toNatClampNeg p1))), (0, .ref (ea ε 0)), (1, .int p1), (2, .int p2), (3, .int p3), (4, .int p4)]) C dX7_convertReason_20 (by decide) rfl ?_
  refine g_aload_n (pc := 22) (i := 0) (j := 2) C dX7_convertReason_22 rfl rfl ?_
  refine g_getr (pc := 23) (j := 2) C E fdX7_19 layX_0_1 dX7_convertReason_23 ?_
  refine g_iload_n (pc := 26) (i := 1) (j := 3) C dX7_convertReason_26 rfl rfl ?_
  refine g_iload_n (pc := 27) (i := 3) (j := 5) C dX7_convertReason_27 rfl rfl ?_
  refine g_cri (pc := 28) (st := []) C E layX_2 lkX7_145 (As := [.int p1, .int p3]) rfl (fun out h => kX5_typeAt (kl κ) ε p1 p3 μ out h) (by decide) rfl (Nat.le_of_ble_eq_true rfl) dX7_convertReason_28 hf (fun r28 _ hf => ?_)
  refine g_istore (pc := 31) (i := 7) (L' := [(7, .int r28), (6, .int (μ.1 11 (Int32.toNatClampNeg p2))), (5, .int (μ.1 11 (Int32.toNatClampNeg p1))), (0, .ref (ea ε 0)), (1, .int p1), (2, .int p2), (3, .int p3), (4, .int p4)]) C dX7_convertReason_31 (by decide) rfl ?_
  refine g_iload (pc := 33) (i := 4) (j := 7) C dX7_convertReason_33 rfl ?_
  refine g_iconst (pc := 35) C dX7_convertReason_35 ci_1 ?_
  refine g_icmp_gt (pc := 36) (tgt := 97) C dX7_convertReason_36 rfl hf (fun _ hf => ?_) (fun _ hf => ?_)
  · refine g_iload (pc := 97) (i := 4) (j := 7) C dX7_convertReason_97 rfl ?_
    refine g_iconst (pc := 99) C dX7_convertReason_99 ci_3 ?_
    refine g_icmp_ne (pc := 100) (tgt := 145) C dX7_convertReason_100 rfl hf (fun _ hf => ?_) (fun _ hf => ?_)
    · exact g_at [1, 0] rfl (b145 (μ.1 11 (Int32.toNatClampNeg p2)) r28 hf)
    · refine g_iload (pc := 103) (i := 7) (j := 0) C dX7_convertReason_103 rfl ?_
      refine g_cpi (pc := 105) (st := []) C lkX7_322 (As := [.int r28]) rfl (fun out h => kX4_isNumeric (kl κ) r28 out h) (by decide) rfl (Nat.le_of_ble_eq_true rfl) dX7_convertReason_105 hf (fun r105 _ hf => ?_)
      refine g_if_eq (pc := 108) (tgt := 145) C dX7_convertReason_108 rfl hf (fun _ hf => ?_) (fun _ hf => ?_)
      · exact g_at [1, 0] rfl (b145 (μ.1 11 (Int32.toNatClampNeg p2)) r28 hf)
      · refine g_iload (pc := 111) (i := 6) (j := 1) C dX7_convertReason_111 rfl ?_
        refine g_cpi (pc := 113) (st := []) C lkX7_322 (As := [.int (μ.1 11 (Int32.toNatClampNeg p2))]) rfl (fun out h => kX4_isNumeric (kl κ) (μ.1 11 (Int32.toNatClampNeg p2)) out h) (by decide) rfl (Nat.le_of_ble_eq_true rfl) dX7_convertReason_113 hf (fun r113 _ hf => ?_)
        refine g_if_eq (pc := 116) (tgt := 145) C dX7_convertReason_116 rfl hf (fun _ hf => ?_) (fun _ hf => ?_)
        · exact g_at [1, 0] rfl (b145 (μ.1 11 (Int32.toNatClampNeg p2)) r28 hf)
        · refine g_aload_n (pc := 119) (i := 0) (j := 3) C dX7_convertReason_119 rfl rfl ?_
          refine g_getr (pc := 120) (j := 2) C E fdX7_19 layX_0_1 dX7_convertReason_120 ?_
          refine g_iload_n (pc := 123) (i := 1) (j := 4) C dX7_convertReason_123 rfl rfl ?_
          refine g_iload_n (pc := 124) (i := 3) (j := 6) C dX7_convertReason_124 rfl rfl ?_
          refine g_crl (pc := 125) (st := []) C E layX_2 lkX7_148 (As := [.int p1, .int p3]) rfl (fun out h => kX5_codeAt (kl κ) ε p1 p3 μ out h) (by decide) rfl (Nat.le_of_ble_eq_true rfl) dX7_convertReason_125 hf (fun r125 _ hf => ?_)
          refine g_iload (pc := 128) (i := 7) (j := 0) C dX7_convertReason_128 rfl ?_
          refine g_iload (pc := 130) (i := 6) (j := 1) C dX7_convertReason_130 rfl ?_
          refine g_cpi (pc := 132) (st := []) C lkX7_325 (As := [.long r125, .int r28, .int (μ.1 11 (Int32.toNatClampNeg p2))]) rfl (fun out h => kX2_hasNumber (kl κ) r125 r28 (μ.1 11 (Int32.toNatClampNeg p2)) out h) (by decide) rfl (Nat.le_of_ble_eq_true rfl) dX7_convertReason_132 hf (fun r132 _ hf => ?_)
          refine g_if_eq (pc := 135) (tgt := 142) C dX7_convertReason_135 rfl hf (fun _ hf => ?_) (fun _ hf => ?_)
          · refine g_bipush (pc := 142) C dX7_convertReason_142 cb_8 ?_
            exact g_iretr (pc := 144) C hQ dX7_convertReason_144 hf
          · refine g_iconst (pc := 138) C dX7_convertReason_138 ci_0 ?_
            refine g_goto (pc := 139) (tgt := 144) C dX7_convertReason_139 rfl ?_
            exact g_iretr (pc := 144) C hQ dX7_convertReason_144 hf
  · refine g_iload (pc := 39) (i := 4) (j := 7) C dX7_convertReason_39 rfl ?_
    refine g_if_ne (pc := 41) (tgt := 49) C dX7_convertReason_41 rfl hf (fun _ hf => ?_) (fun _ hf => ?_)
    · refine g_iload (pc := 49) (i := 6) (j := 1) C dX7_convertReason_49 rfl ?_
      exact g_at [2, 1] rfl (b51 (μ.1 11 (Int32.toNatClampNeg p1)) (μ.1 11 (Int32.toNatClampNeg p2)) (μ.1 11 (Int32.toNatClampNeg p2)) hf)
    · refine g_iload (pc := 44) (i := 5) (j := 2) C dX7_convertReason_44 rfl ?_
      refine g_goto (pc := 46) (tgt := 51) C dX7_convertReason_46 rfl ?_
      exact g_at [2, 1] rfl (b51 (μ.1 11 (Int32.toNatClampNeg p1)) (μ.1 11 (Int32.toNatClampNeg p2)) (μ.1 11 (Int32.toNatClampNeg p1)) hf)
theorem dX7_convert_0 : decode cX7_convert 0 = .ok (.iload_n 1, 1) := by decide +kernel
theorem dX7_convert_1 : decode cX7_convert 1 = .ok (.invokestatic 76, 3) := by decide +kernel
theorem dX7_convert_4 : decode cX7_convert 4 = .ok (.ifCond .eq 10, 3) := by decide +kernel
theorem dX7_convert_7 : decode cX7_convert 7 = .ok (.iload_n 2, 1) := by decide +kernel
theorem dX7_convert_8 : decode cX7_convert 8 = .ok (.invokestatic 76, 3) := by decide +kernel
theorem dX7_convert_11 : decode cX7_convert 11 = .ok (.ifCond .ne 5, 3) := by decide +kernel
theorem dX7_convert_14 : decode cX7_convert 14 = .ok (.iconst (-1), 1) := by decide +kernel
theorem dX7_convert_15 : decode cX7_convert 15 = .ok (.ireturn, 1) := by decide +kernel
theorem dX7_convert_16 : decode cX7_convert 16 = .ok (.aload_n 0, 1) := by decide +kernel
theorem dX7_convert_17 : decode cX7_convert 17 = .ok (.iload_n 1, 1) := by decide +kernel
theorem dX7_convert_18 : decode cX7_convert 18 = .ok (.invokevirtual 129, 3) := by decide +kernel
theorem dX7_convert_21 : decode cX7_convert 21 = .ok (.ifCond .eq 11, 3) := by decide +kernel
theorem dX7_convert_24 : decode cX7_convert 24 = .ok (.aload_n 0, 1) := by decide +kernel
theorem dX7_convert_25 : decode cX7_convert 25 = .ok (.iload_n 2, 1) := by decide +kernel
theorem dX7_convert_26 : decode cX7_convert 26 = .ok (.invokevirtual 129, 3) := by decide +kernel
theorem dX7_convert_29 : decode cX7_convert 29 = .ok (.ifCond .ne 6, 3) := by decide +kernel
theorem dX7_convert_32 : decode cX7_convert 32 = .ok (.bipush (-3), 2) := by decide +kernel
theorem dX7_convert_34 : decode cX7_convert 34 = .ok (.ireturn, 1) := by decide +kernel
theorem dX7_convert_35 : decode cX7_convert 35 = .ok (.iload_n 3, 1) := by decide +kernel
theorem dX7_convert_36 : decode cX7_convert 36 = .ok (.ifCond .lt 8, 3) := by decide +kernel
theorem dX7_convert_39 : decode cX7_convert 39 = .ok (.iload_n 3, 1) := by decide +kernel
theorem dX7_convert_40 : decode cX7_convert 40 = .ok (.iconst 3, 1) := by decide +kernel
theorem dX7_convert_41 : decode cX7_convert 41 = .ok (.if_icmp .le 6, 3) := by decide +kernel
theorem dX7_convert_44 : decode cX7_convert 44 = .ok (.bipush (-2), 2) := by decide +kernel
theorem dX7_convert_46 : decode cX7_convert 46 = .ok (.ireturn, 1) := by decide +kernel
theorem dX7_convert_47 : decode cX7_convert 47 = .ok (.aload_n 0, 1) := by decide +kernel
theorem dX7_convert_48 : decode cX7_convert 48 = .ok (.getfield 44, 3) := by decide +kernel
theorem dX7_convert_51 : decode cX7_convert 51 = .ok (.iload_n 1, 1) := by decide +kernel
theorem dX7_convert_52 : decode cX7_convert 52 = .ok (.iaload, 1) := by decide +kernel
theorem dX7_convert_53 : decode cX7_convert 53 = .ok (.istore 4, 2) := by decide +kernel
theorem dX7_convert_55 : decode cX7_convert 55 = .ok (.aload_n 0, 1) := by decide +kernel
theorem dX7_convert_56 : decode cX7_convert 56 = .ok (.getfield 44, 3) := by decide +kernel
theorem dX7_convert_59 : decode cX7_convert 59 = .ok (.iload_n 2, 1) := by decide +kernel
theorem dX7_convert_60 : decode cX7_convert 60 = .ok (.iaload, 1) := by decide +kernel
theorem dX7_convert_61 : decode cX7_convert 61 = .ok (.istore 5, 2) := by decide +kernel
theorem dX7_convert_63 : decode cX7_convert 63 = .ok (.iconst 0, 1) := by decide +kernel
theorem dX7_convert_64 : decode cX7_convert 64 = .ok (.istore 6, 2) := by decide +kernel
theorem dX7_convert_66 : decode cX7_convert 66 = .ok (.aload_n 0, 1) := by decide +kernel
theorem dX7_convert_67 : decode cX7_convert 67 = .ok (.aload_n 0, 1) := by decide +kernel
theorem dX7_convert_68 : decode cX7_convert 68 = .ok (.getfield 19, 3) := by decide +kernel
theorem dX7_convert_71 : decode cX7_convert 71 = .ok (.getfield 132, 3) := by decide +kernel
theorem dX7_convert_74 : decode cX7_convert 74 = .ok (.iload 4, 2) := by decide +kernel
theorem dX7_convert_76 : decode cX7_convert 76 = .ok (.iaload, 1) := by decide +kernel
theorem dX7_convert_77 : decode cX7_convert 77 = .ok (.aload_n 0, 1) := by decide +kernel
theorem dX7_convert_78 : decode cX7_convert 78 = .ok (.getfield 19, 3) := by decide +kernel
theorem dX7_convert_81 : decode cX7_convert 81 = .ok (.getfield 132, 3) := by decide +kernel
theorem dX7_convert_84 : decode cX7_convert 84 = .ok (.iload 5, 2) := by decide +kernel
theorem dX7_convert_86 : decode cX7_convert 86 = .ok (.iaload, 1) := by decide +kernel
theorem dX7_convert_87 : decode cX7_convert 87 = .ok (.invokestatic 221, 3) := by decide +kernel
theorem dX7_convert_90 : decode cX7_convert 90 = .ok (.putfield 51, 3) := by decide +kernel
theorem dX7_convert_93 : decode cX7_convert 93 = .ok (.iconst 0, 1) := by decide +kernel
theorem dX7_convert_94 : decode cX7_convert 94 = .ok (.istore 7, 2) := by decide +kernel
theorem dX7_convert_96 : decode cX7_convert 96 = .ok (.iload 7, 2) := by decide +kernel
theorem dX7_convert_98 : decode cX7_convert 98 = .ok (.aload_n 0, 1) := by decide +kernel
theorem dX7_convert_99 : decode cX7_convert 99 = .ok (.getfield 51, 3) := by decide +kernel
theorem dX7_convert_102 : decode cX7_convert 102 = .ok (.if_icmp .ge 68, 3) := by decide +kernel
theorem dX7_convert_105 : decode cX7_convert 105 = .ok (.aload_n 0, 1) := by decide +kernel
theorem dX7_convert_106 : decode cX7_convert 106 = .ok (.iload 4, 2) := by decide +kernel
theorem dX7_convert_108 : decode cX7_convert 108 = .ok (.iload 5, 2) := by decide +kernel
theorem dX7_convert_110 : decode cX7_convert 110 = .ok (.iload 7, 2) := by decide +kernel
theorem dX7_convert_112 : decode cX7_convert 112 = .ok (.iload_n 3, 1) := by decide +kernel
theorem dX7_convert_113 : decode cX7_convert 113 = .ok (.invokevirtual 226, 3) := by decide +kernel
theorem dX7_convert_116 : decode cX7_convert 116 = .ok (.istore 8, 2) := by decide +kernel
theorem dX7_convert_118 : decode cX7_convert 118 = .ok (.aload_n 0, 1) := by decide +kernel
theorem dX7_convert_119 : decode cX7_convert 119 = .ok (.getfield 48, 3) := by decide +kernel
theorem dX7_convert_122 : decode cX7_convert 122 = .ok (.iload 7, 2) := by decide +kernel
theorem dX7_convert_124 : decode cX7_convert 124 = .ok (.iload 8, 2) := by decide +kernel
theorem dX7_convert_126 : decode cX7_convert 126 = .ok (.iastore, 1) := by decide +kernel
theorem dX7_convert_127 : decode cX7_convert 127 = .ok (.iload 8, 2) := by decide +kernel
theorem dX7_convert_129 : decode cX7_convert 129 = .ok (.ifCond .ne 35, 3) := by decide +kernel
theorem dX7_convert_132 : decode cX7_convert 132 = .ok (.iload 6, 2) := by decide +kernel
theorem dX7_convert_134 : decode cX7_convert 134 = .ok (.ifCond .ne 16, 3) := by decide +kernel
theorem dX7_convert_137 : decode cX7_convert 137 = .ok (.aload_n 0, 1) := by decide +kernel
theorem dX7_convert_138 : decode cX7_convert 138 = .ok (.getfield 26, 3) := by decide +kernel
theorem dX7_convert_141 : decode cX7_convert 141 = .ok (.iload 5, 2) := by decide +kernel
theorem dX7_convert_143 : decode cX7_convert 143 = .ok (.aload_n 0, 1) := by decide +kernel
theorem dX7_convert_144 : decode cX7_convert 144 = .ok (.getfield 19, 3) := by decide +kernel
theorem dX7_convert_147 : decode cX7_convert 147 = .ok (.invokevirtual 210, 3) := by decide +kernel
theorem dX7_convert_150 : decode cX7_convert 150 = .ok (.aload_n 0, 1) := by decide +kernel
theorem dX7_convert_151 : decode cX7_convert 151 = .ok (.iload 4, 2) := by decide +kernel
theorem dX7_convert_153 : decode cX7_convert 153 = .ok (.iload 5, 2) := by decide +kernel
theorem dX7_convert_155 : decode cX7_convert 155 = .ok (.iload 7, 2) := by decide +kernel
theorem dX7_convert_157 : decode cX7_convert 157 = .ok (.iload_n 3, 1) := by decide +kernel
theorem dX7_convert_158 : decode cX7_convert 158 = .ok (.invokevirtual 230, 3) := by decide +kernel
theorem dX7_convert_161 : decode cX7_convert 161 = .ok (.iinc 6 1, 3) := by decide +kernel
theorem dX7_convert_164 : decode cX7_convert 164 = .ok (.iinc 7 1, 3) := by decide +kernel
theorem dX7_convert_167 : decode cX7_convert 167 = .ok (.goto (-71), 3) := by decide +kernel
theorem dX7_convert_170 : decode cX7_convert 170 = .ok (.iload 6, 2) := by decide +kernel
theorem dX7_convert_172 : decode cX7_convert 172 = .ok (.ireturn, 1) := by decide +kernel
def fX7_convert_b164 (k96 : Int32 → Int32 → Int32 → Int32 → Int32 → Mm → Option (Int32 × Mm)) (v3 : Int32) (v4 : Int32) (v5 : Int32) (v6 : Int32) (v7 : Int32) (μ : Mm) : Option (Int32 × Mm) := k96 v3 v4 v5 v6 (v7 + (1 : Int32)) μ
def fX7_convert_b150 (k96 : Int32 → Int32 → Int32 → Int32 → Int32 → Mm → Option (Int32 × Mm)) (v3 : Int32) (v4 : Int32) (v5 : Int32) (v6 : Int32) (v7 : Int32) (μ : Mm) : Option (Int32 × Mm) := ((fX7_convertElement v4 v5 v7 v3 μ).bind fun μ158 => fX7_convert_b164 k96 v3 v4 v5 (v6 + (1 : Int32)) v7 μ158)
def fX7_convert_b96 : Nat → Int32 → Int32 → Int32 → Int32 → Int32 → Mm → Option (Int32 × Mm)
  | 0, _, _, _, _, _, _ => none
  | n + 1, v3, v4, v5, v6, v7, μ => (if (μ.1 0 7) ≤ v7 then some (v6, μ) else ((fX7_convertReason v4 v5 v7 v3 μ).bind fun r113 => (if inb v7 6 = true then (if r113 = 0 then (if v6 = 0 then ((fX0_keepCells v5 (wI μ 7 (Int32.toNatClampNeg v7) r113)).bind fun μ147 => fX7_convert_b150 (fX7_convert_b96 n) v3 v4 v5 v6 v7 μ147) else fX7_convert_b150 (fX7_convert_b96 n) v3 v4 v5 v6 v7 (wI μ 7 (Int32.toNatClampNeg v7) r113)) else fX7_convert_b164 (fX7_convert_b96 n) v3 v4 v5 v6 v7 (wI μ 7 (Int32.toNatClampNeg v7) r113)) else none)))
def fX7_convert (p1 : Int32) (p2 : Int32) (p3 : Int32) (μ : Mm) : Option (Int32 × Mm) := ((fX7_isSlot p1).bind fun r1 => (if r1 = 0 then some ((-1 : Int32), μ) else ((fX7_isSlot p2).bind fun r8 => (if r8 = 0 then some ((-1 : Int32), μ) else ((fX7_holdsArray p1 μ).bind fun r18 => (if r18 = 0 then some ((-3 : Int32), μ) else ((fX7_holdsArray p2 μ).bind fun r26 => (if r26 = 0 then some ((-3 : Int32), μ) else (if p3 < 0 then some ((-2 : Int32), μ) else (if p3 ≤ (3 : Int32) then (if inb p1 10 = true then (if inb p2 10 = true then (if inb (μ.1 6 (Int32.toNatClampNeg p1)) 26 = true then (if inb (μ.1 6 (Int32.toNatClampNeg p2)) 26 = true then ((fJ9_min_7cf53 (μ.1 12 (Int32.toNatClampNeg (μ.1 6 (Int32.toNatClampNeg p1)))) (μ.1 12 (Int32.toNatClampNeg (μ.1 6 (Int32.toNatClampNeg p2))))).bind fun r87 => fX7_convert_b96 100 p3 (μ.1 6 (Int32.toNatClampNeg p1)) (μ.1 6 (Int32.toNatClampNeg p2)) (0 : Int32) (0 : Int32) (wI μ 0 7 r87)) else none) else none) else none) else none) else some ((-2 : Int32), μ)))))))))))
set_option maxRecDepth 100000 in
set_option maxHeartbeats 4000000 in
theorem kX7_convert (l : Launch) (ε : Ev) (p1 : Int32) (p2 : Int32) (p3 : Int32) (μ : Mm) (out : (Int32 × Mm)) (hf : fX7_convert p1 p2 p3 μ = some out) : Sp l ε layX yX7_convert cX7_convert 9 (some .int) 7 [.ref (ea ε 0), .int p1, .int p2, .int p3] (some (.int out.1)) μ out.2 := by
  refine Sp.of [(0, .ref (ea ε 0)), (1, .int p1), (2, .int p2), (3, .int p3)] rfl (by decide +kernel) (Nat.le_of_ble_eq_true rfl) ?_
  intro κ hκ C E hQ
  subst hκ
  replace C : Cf κ cX7_convert 9 RX7 (some .int) 7 := C
  have b164 : ∀ (k96 : Int32 → Int32 → Int32 → Int32 → Int32 → Mm → Option (Int32 × Mm)) (hk96 : ∀ (v3 : Int32) (v4 : Int32) (v5 : Int32) (v6 : Int32) (v7 : Int32) (μ : Mm) , k96 v3 v4 v5 v6 v7 μ = some out → G κ (Vw κ ε layX μ) 9 96 [(0, .ref (ea ε 0)), (3, .int v3), (4, .int v4), (5, .int v5), (6, .int v6), (7, .int v7)] []) (v3 : Int32) (v4 : Int32) (v5 : Int32) (v6 : Int32) (v7 : Int32) (μ : Mm) , fX7_convert_b164 k96 v3 v4 v5 v6 v7 μ = some out → G κ (Vw κ ε layX μ) 9 164 [(0, .ref (ea ε 0)), (3, .int v3), (4, .int v4), (5, .int v5), (6, .int v6), (7, .int v7)] [] := by
    intro k96 hk96 v3 v4 v5 v6 v7 μ hf
    refine g_iinc (pc := 164) (i := 7) (j := 5) (v := (v7 + (1 : Int32))) (L' := [(7, .int (v7 + (1 : Int32))), (0, .ref (ea ε 0)), (3, .int v3), (4, .int v4), (5, .int v5), (6, .int v6)]) C dX7_convert_164 rfl (cx_1 _) (by decide) rfl ?_
    refine g_goto (pc := 167) (tgt := 96) C dX7_convert_167 rfl ?_
    exact g_at [1, 2, 3, 4, 5, 0] rfl (hk96 v3 v4 v5 v6 (v7 + (1 : Int32)) μ hf)
  have b150 : ∀ (k96 : Int32 → Int32 → Int32 → Int32 → Int32 → Mm → Option (Int32 × Mm)) (hk96 : ∀ (v3 : Int32) (v4 : Int32) (v5 : Int32) (v6 : Int32) (v7 : Int32) (μ : Mm) , k96 v3 v4 v5 v6 v7 μ = some out → G κ (Vw κ ε layX μ) 9 96 [(0, .ref (ea ε 0)), (3, .int v3), (4, .int v4), (5, .int v5), (6, .int v6), (7, .int v7)] []) (v3 : Int32) (v4 : Int32) (v5 : Int32) (v6 : Int32) (v7 : Int32) (μ : Mm) , fX7_convert_b150 k96 v3 v4 v5 v6 v7 μ = some out → G κ (Vw κ ε layX μ) 9 150 [(0, .ref (ea ε 0)), (3, .int v3), (4, .int v4), (5, .int v5), (6, .int v6), (7, .int v7)] [] := by
    intro k96 hk96 v3 v4 v5 v6 v7 μ hf
    refine g_aload_n (pc := 150) (i := 0) (j := 0) C dX7_convert_150 rfl rfl ?_
    refine g_iload (pc := 151) (i := 4) (j := 2) C dX7_convert_151 rfl ?_
    refine g_iload (pc := 153) (i := 5) (j := 3) C dX7_convert_153 rfl ?_
    refine g_iload (pc := 155) (i := 7) (j := 5) C dX7_convert_155 rfl ?_
    refine g_iload_n (pc := 157) (i := 3) (j := 1) C dX7_convert_157 rfl rfl ?_
    refine g_cwv (pc := 158) (st := []) C E layX_0 lkX7_230 (As := [.int v4, .int v5, .int v7, .int v3]) rfl (fun out h => kX7_convertElement (kl κ) ε v4 v5 v7 v3 μ out h) (by decide) rfl (Nat.le_of_ble_eq_true rfl) dX7_convert_158 hf (fun μ158 _ hf => ?_)
    refine g_iinc (pc := 161) (i := 6) (j := 4) (v := (v6 + (1 : Int32))) (L' := [(6, .int (v6 + (1 : Int32))), (0, .ref (ea ε 0)), (3, .int v3), (4, .int v4), (5, .int v5), (7, .int v7)]) C dX7_convert_161 rfl (cx_1 _) (by decide) rfl ?_
    exact g_at [1, 2, 3, 4, 0, 5] rfl (b164 k96 hk96 v3 v4 v5 (v6 + (1 : Int32)) v7 μ158 hf)
  have b96 : ∀ (n : Nat) (v3 : Int32) (v4 : Int32) (v5 : Int32) (v6 : Int32) (v7 : Int32) (μ : Mm) , fX7_convert_b96 n v3 v4 v5 v6 v7 μ = some out → G κ (Vw κ ε layX μ) 9 96 [(0, .ref (ea ε 0)), (3, .int v3), (4, .int v4), (5, .int v5), (6, .int v6), (7, .int v7)] [] := by
    intro n
    induction n with
    | zero => intro v3 v4 v5 v6 v7 μ hf; exact none_ne hf
    | succ n ih =>
      intro v3 v4 v5 v6 v7 μ hf
      refine g_iload (pc := 96) (i := 7) (j := 5) C dX7_convert_96 rfl ?_
      refine g_aload_n (pc := 98) (i := 0) (j := 0) C dX7_convert_98 rfl rfl ?_
      refine g_geti (pc := 99) C E fdX7_51 layX_0_7 dX7_convert_99 ?_
      refine g_icmp_ge (pc := 102) (tgt := 170) C dX7_convert_102 rfl hf (fun _ hf => ?_) (fun _ hf => ?_)
      · refine g_iload (pc := 170) (i := 6) (j := 4) C dX7_convert_170 rfl ?_
        exact g_iretw (pc := 172) C hQ dX7_convert_172 hf
      · refine g_aload_n (pc := 105) (i := 0) (j := 0) C dX7_convert_105 rfl rfl ?_
        refine g_iload (pc := 106) (i := 4) (j := 2) C dX7_convert_106 rfl ?_
        refine g_iload (pc := 108) (i := 5) (j := 3) C dX7_convert_108 rfl ?_
        refine g_iload (pc := 110) (i := 7) (j := 5) C dX7_convert_110 rfl ?_
        refine g_iload_n (pc := 112) (i := 3) (j := 1) C dX7_convert_112 rfl rfl ?_
        refine g_cri (pc := 113) (st := []) C E layX_0 lkX7_226 (As := [.int v4, .int v5, .int v7, .int v3]) rfl (fun out h => kX7_convertReason (kl κ) ε v4 v5 v7 v3 μ out h) (by decide) rfl (Nat.le_of_ble_eq_true rfl) dX7_convert_113 hf (fun r113 _ hf => ?_)
        refine g_istore (pc := 116) (i := 8) (L' := [(8, .int r113), (0, .ref (ea ε 0)), (3, .int v3), (4, .int v4), (5, .int v5), (6, .int v6), (7, .int v7)]) C dX7_convert_116 (by decide) rfl ?_
        refine g_aload_n (pc := 118) (i := 0) (j := 1) C dX7_convert_118 rfl rfl ?_
        refine g_getr (pc := 119) (j := 7) C E fdX7_48 layX_0_6 dX7_convert_119 ?_
        refine g_iload (pc := 122) (i := 7) (j := 6) C dX7_convert_122 rfl ?_
        refine g_iload (pc := 124) (i := 8) (j := 0) C dX7_convert_124 rfl ?_
        refine g_iast (pc := 126) C E layX_7 dX7_convert_126 hf (fun hf => ?_)
        refine g_iload (pc := 127) (i := 8) (j := 0) C dX7_convert_127 rfl ?_
        refine g_if_ne (pc := 129) (tgt := 164) C dX7_convert_129 rfl hf (fun _ hf => ?_) (fun _ hf => ?_)
        · exact g_at [1, 2, 3, 4, 5, 6] rfl (b164 (fX7_convert_b96 n) ih v3 v4 v5 v6 v7 (wI μ 7 (Int32.toNatClampNeg v7) r113) hf)
        · refine g_iload (pc := 132) (i := 6) (j := 5) C dX7_convert_132 rfl ?_
          refine g_if_ne (pc := 134) (tgt := 150) C dX7_convert_134 rfl hf (fun _ hf => ?_) (fun _ hf => ?_)
          · exact g_at [1, 2, 3, 4, 5, 6] rfl (b150 (fX7_convert_b96 n) ih v3 v4 v5 v6 v7 (wI μ 7 (Int32.toNatClampNeg v7) r113) hf)
          · refine g_aload_n (pc := 137) (i := 0) (j := 1) C dX7_convert_137 rfl rfl ?_
            refine g_getr (pc := 138) (j := 3) C E fdX7_26 layX_0_2 dX7_convert_138 ?_
            refine g_iload (pc := 141) (i := 5) (j := 4) C dX7_convert_141 rfl ?_
            refine g_aload_n (pc := 143) (i := 0) (j := 1) C dX7_convert_143 rfl rfl ?_
            refine g_getr (pc := 144) (j := 2) C E fdX7_19 layX_0_1 dX7_convert_144 ?_
            refine g_cwv (pc := 147) (st := []) C E layX_3 lkX7_210 (As := [.int v5, .ref (ea ε 2)]) rfl (fun out h => kX0_keepCells (kl κ) ε v5 (wI μ 7 (Int32.toNatClampNeg v7) r113) out h) (by decide) rfl (Nat.le_of_ble_eq_true rfl) dX7_convert_147 hf (fun μ147 _ hf => ?_)
            exact g_at [1, 2, 3, 4, 5, 6] rfl (b150 (fX7_convert_b96 n) ih v3 v4 v5 v6 v7 μ147 hf)
  refine g_iload_n (pc := 0) (i := 1) (j := 1) C dX7_convert_0 rfl rfl ?_
  refine g_cpi (pc := 1) (st := []) C lkX7_76 (As := [.int p1]) rfl (fun out h => kX7_isSlot (kl κ) p1 out h) (by decide) rfl (Nat.le_of_ble_eq_true rfl) dX7_convert_1 hf (fun r1 _ hf => ?_)
  refine g_if_eq (pc := 4) (tgt := 14) C dX7_convert_4 rfl hf (fun _ hf => ?_) (fun _ hf => ?_)
  · refine g_iconst (pc := 14) C dX7_convert_14 ci_m1 ?_
    exact g_iretw (pc := 15) C hQ dX7_convert_15 hf
  · refine g_iload_n (pc := 7) (i := 2) (j := 2) C dX7_convert_7 rfl rfl ?_
    refine g_cpi (pc := 8) (st := []) C lkX7_76 (As := [.int p2]) rfl (fun out h => kX7_isSlot (kl κ) p2 out h) (by decide) rfl (Nat.le_of_ble_eq_true rfl) dX7_convert_8 hf (fun r8 _ hf => ?_)
    refine g_if_ne (pc := 11) (tgt := 16) C dX7_convert_11 rfl hf (fun _ hf => ?_) (fun _ hf => ?_)
    · refine g_aload_n (pc := 16) (i := 0) (j := 0) C dX7_convert_16 rfl rfl ?_
      refine g_iload_n (pc := 17) (i := 1) (j := 1) C dX7_convert_17 rfl rfl ?_
      refine g_cri (pc := 18) (st := []) C E layX_0 lkX7_129 (As := [.int p1]) rfl (fun out h => kX7_holdsArray (kl κ) ε p1 μ out h) (by decide) rfl (Nat.le_of_ble_eq_true rfl) dX7_convert_18 hf (fun r18 _ hf => ?_)
      refine g_if_eq (pc := 21) (tgt := 32) C dX7_convert_21 rfl hf (fun _ hf => ?_) (fun _ hf => ?_)
      · refine g_bipush (pc := 32) C dX7_convert_32 cb_m3 ?_
        exact g_iretw (pc := 34) C hQ dX7_convert_34 hf
      · refine g_aload_n (pc := 24) (i := 0) (j := 0) C dX7_convert_24 rfl rfl ?_
        refine g_iload_n (pc := 25) (i := 2) (j := 2) C dX7_convert_25 rfl rfl ?_
        refine g_cri (pc := 26) (st := []) C E layX_0 lkX7_129 (As := [.int p2]) rfl (fun out h => kX7_holdsArray (kl κ) ε p2 μ out h) (by decide) rfl (Nat.le_of_ble_eq_true rfl) dX7_convert_26 hf (fun r26 _ hf => ?_)
        refine g_if_ne (pc := 29) (tgt := 35) C dX7_convert_29 rfl hf (fun _ hf => ?_) (fun _ hf => ?_)
        · refine g_iload_n (pc := 35) (i := 3) (j := 3) C dX7_convert_35 rfl rfl ?_
          refine g_if_lt (pc := 36) (tgt := 44) C dX7_convert_36 rfl hf (fun _ hf => ?_) (fun _ hf => ?_)
          · refine g_bipush (pc := 44) C dX7_convert_44 cb_m2 ?_
            exact g_iretw (pc := 46) C hQ dX7_convert_46 hf
          · refine g_iload_n (pc := 39) (i := 3) (j := 3) C dX7_convert_39 rfl rfl ?_
            refine g_iconst (pc := 40) C dX7_convert_40 ci_3 ?_
            refine g_icmp_le (pc := 41) (tgt := 47) C dX7_convert_41 rfl hf (fun _ hf => ?_) (fun _ hf => ?_)
            · refine g_aload_n (pc := 47) (i := 0) (j := 0) C dX7_convert_47 rfl rfl ?_
              refine g_getr (pc := 48) (j := 6) C E fdX7_44 layX_0_5 dX7_convert_48 ?_
              refine g_iload_n (pc := 51) (i := 1) (j := 1) C dX7_convert_51 rfl rfl ?_
              refine g_iald (pc := 52) C E layX_6 dX7_convert_52 hf (fun hf => ?_)
              refine g_istore (pc := 53) (i := 4) (L' := [(4, .int (μ.1 6 (Int32.toNatClampNeg p1))), (0, .ref (ea ε 0)), (1, .int p1), (2, .int p2), (3, .int p3)]) C dX7_convert_53 (by decide) rfl ?_
              refine g_aload_n (pc := 55) (i := 0) (j := 1) C dX7_convert_55 rfl rfl ?_
              refine g_getr (pc := 56) (j := 6) C E fdX7_44 layX_0_5 dX7_convert_56 ?_
              refine g_iload_n (pc := 59) (i := 2) (j := 3) C dX7_convert_59 rfl rfl ?_
              refine g_iald (pc := 60) C E layX_6 dX7_convert_60 hf (fun hf => ?_)
              refine g_istore (pc := 61) (i := 5) (L' := [(5, .int (μ.1 6 (Int32.toNatClampNeg p2))), (4, .int (μ.1 6 (Int32.toNatClampNeg p1))), (0, .ref (ea ε 0)), (1, .int p1), (2, .int p2), (3, .int p3)]) C dX7_convert_61 (by decide) rfl ?_
              refine g_iconst (pc := 63) C dX7_convert_63 ci_0 ?_
              refine g_istore (pc := 64) (i := 6) (L' := [(6, .int (0 : Int32)), (5, .int (μ.1 6 (Int32.toNatClampNeg p2))), (4, .int (μ.1 6 (Int32.toNatClampNeg p1))), (0, .ref (ea ε 0)), (1, .int p1), (2, .int p2), (3, .int p3)]) C dX7_convert_64 (by decide) rfl ?_
              refine g_aload_n (pc := 66) (i := 0) (j := 3) C dX7_convert_66 rfl rfl ?_
              refine g_aload_n (pc := 67) (i := 0) (j := 3) C dX7_convert_67 rfl rfl ?_
              refine g_getr (pc := 68) (j := 2) C E fdX7_19 layX_0_1 dX7_convert_68 ?_
              refine g_getr (pc := 71) (j := 12) C E fdX7_132 layX_2_1 dX7_convert_71 ?_
              refine g_iload (pc := 74) (i := 4) (j := 2) C dX7_convert_74 rfl ?_
              refine g_iald (pc := 76) C E layX_12 dX7_convert_76 hf (fun hf => ?_)
              refine g_aload_n (pc := 77) (i := 0) (j := 3) C dX7_convert_77 rfl rfl ?_
              refine g_getr (pc := 78) (j := 2) C E fdX7_19 layX_0_1 dX7_convert_78 ?_
              refine g_getr (pc := 81) (j := 12) C E fdX7_132 layX_2_1 dX7_convert_81 ?_
              refine g_iload (pc := 84) (i := 5) (j := 1) C dX7_convert_84 rfl ?_
              refine g_iald (pc := 86) C E layX_12 dX7_convert_86 hf (fun hf => ?_)
              refine g_cpi (pc := 87) (st := [.ref (ea ε 0)]) C lkX7_221 (As := [.int (μ.1 12 (Int32.toNatClampNeg (μ.1 6 (Int32.toNatClampNeg p1)))), .int (μ.1 12 (Int32.toNatClampNeg (μ.1 6 (Int32.toNatClampNeg p2))))]) rfl (fun out h => kJ9_min_7cf53 (kl κ) (μ.1 12 (Int32.toNatClampNeg (μ.1 6 (Int32.toNatClampNeg p1)))) (μ.1 12 (Int32.toNatClampNeg (μ.1 6 (Int32.toNatClampNeg p2)))) out h) (by decide) rfl (Nat.le_of_ble_eq_true rfl) dX7_convert_87 hf (fun r87 _ hf => ?_)
              refine g_puti (pc := 90) C E fdX7_51 layX_0_7 dX7_convert_90 ?_
              refine g_iconst (pc := 93) C dX7_convert_93 ci_0 ?_
              refine g_istore (pc := 94) (i := 7) (L' := [(7, .int (0 : Int32)), (6, .int (0 : Int32)), (5, .int (μ.1 6 (Int32.toNatClampNeg p2))), (4, .int (μ.1 6 (Int32.toNatClampNeg p1))), (0, .ref (ea ε 0)), (1, .int p1), (2, .int p2), (3, .int p3)]) C dX7_convert_94 (by decide) rfl ?_
              exact g_at [4, 7, 3, 2, 1, 0] rfl (b96 100 p3 (μ.1 6 (Int32.toNatClampNeg p1)) (μ.1 6 (Int32.toNatClampNeg p2)) (0 : Int32) (0 : Int32) (wI μ 0 7 r87) hf)
            · refine g_bipush (pc := 44) C dX7_convert_44 cb_m2 ?_
              exact g_iretw (pc := 46) C hQ dX7_convert_46 hf
        · refine g_bipush (pc := 32) C dX7_convert_32 cb_m3 ?_
          exact g_iretw (pc := 34) C hQ dX7_convert_34 hf
    · refine g_iconst (pc := 14) C dX7_convert_14 ci_m1 ?_
      exact g_iretw (pc := 15) C hQ dX7_convert_15 hf
theorem dX7_isInSlots_0 : decode cX7_isInSlots 0 = .ok (.aload_n 0, 1) := by decide +kernel
theorem dX7_isInSlots_1 : decode cX7_isInSlots 1 = .ok (.iload_n 1, 1) := by decide +kernel
theorem dX7_isInSlots_2 : decode cX7_isInSlots 2 = .ok (.invokevirtual 319, 3) := by decide +kernel
theorem dX7_isInSlots_5 : decode cX7_isInSlots 5 = .ok (.bipush 10, 2) := by decide +kernel
theorem dX7_isInSlots_7 : decode cX7_isInSlots 7 = .ok (.if_icmp .ge 7, 3) := by decide +kernel
theorem dX7_isInSlots_10 : decode cX7_isInSlots 10 = .ok (.iconst 1, 1) := by decide +kernel
theorem dX7_isInSlots_11 : decode cX7_isInSlots 11 = .ok (.goto 4, 3) := by decide +kernel
theorem dX7_isInSlots_14 : decode cX7_isInSlots 14 = .ok (.iconst 0, 1) := by decide +kernel
theorem dX7_isInSlots_15 : decode cX7_isInSlots 15 = .ok (.ireturn, 1) := by decide +kernel
def fX7_isInSlots (p1 : Int32) (μ : Mm) : Option Int32 := ((fX7_firstSlotOf p1 μ).bind fun r2 => (if (10 : Int32) ≤ r2 then some (0 : Int32) else some (1 : Int32)))
set_option maxRecDepth 100000 in
set_option maxHeartbeats 4000000 in
theorem kX7_isInSlots (l : Launch) (ε : Ev) (p1 : Int32) (μ : Mm) (out : Int32) (hf : fX7_isInSlots p1 μ = some out) : Sp l ε layX yX7_isInSlots cX7_isInSlots 2 (some .boolean) 1 [.ref (ea ε 0), .int p1] (some (.int out)) μ μ := by
  refine Sp.of [(0, .ref (ea ε 0)), (1, .int p1)] rfl (by decide +kernel) (Nat.le_of_ble_eq_true rfl) ?_
  intro κ hκ C E hQ
  subst hκ
  replace C : Cf κ cX7_isInSlots 2 RX7 (some .boolean) 1 := C
  refine g_aload_n (pc := 0) (i := 0) (j := 0) C dX7_isInSlots_0 rfl rfl ?_
  refine g_iload_n (pc := 1) (i := 1) (j := 1) C dX7_isInSlots_1 rfl rfl ?_
  refine g_cri (pc := 2) (st := []) C E layX_0 lkX7_319 (As := [.int p1]) rfl (fun out h => kX7_firstSlotOf (kl κ) ε p1 μ out h) (by decide) rfl (Nat.le_of_ble_eq_true rfl) dX7_isInSlots_2 hf (fun r2 _ hf => ?_)
  refine g_bipush (pc := 5) C dX7_isInSlots_5 cb_10 ?_
  refine g_icmp_ge (pc := 7) (tgt := 14) C dX7_isInSlots_7 rfl hf (fun _ hf => ?_) (fun _ hf => ?_)
  · refine g_iconst (pc := 14) C dX7_isInSlots_14 ci_0 ?_
    exact g_zret1r (pc := 15) C rfl hQ dX7_isInSlots_15 hf
  · refine g_iconst (pc := 10) C dX7_isInSlots_10 ci_1 ?_
    refine g_goto (pc := 11) (tgt := 15) C dX7_isInSlots_11 rfl ?_
    exact g_zret1r (pc := 15) C rfl hQ dX7_isInSlots_15 hf
theorem dX7_freeRow_0 : decode cX7_freeRow 0 = .ok (.iconst 1, 1) := by decide +kernel
theorem dX7_freeRow_1 : decode cX7_freeRow 1 = .ok (.istore_n 1, 1) := by decide +kernel
theorem dX7_freeRow_2 : decode cX7_freeRow 2 = .ok (.iload_n 1, 1) := by decide +kernel
theorem dX7_freeRow_3 : decode cX7_freeRow 3 = .ok (.bipush 25, 2) := by decide +kernel
theorem dX7_freeRow_5 : decode cX7_freeRow 5 = .ok (.if_icmp .ge 28, 3) := by decide +kernel
theorem dX7_freeRow_8 : decode cX7_freeRow 8 = .ok (.aload_n 0, 1) := by decide +kernel
theorem dX7_freeRow_9 : decode cX7_freeRow 9 = .ok (.iload_n 1, 1) := by decide +kernel
theorem dX7_freeRow_10 : decode cX7_freeRow 10 = .ok (.invokevirtual 313, 3) := by decide +kernel
theorem dX7_freeRow_13 : decode cX7_freeRow 13 = .ok (.ifCond .ne 14, 3) := by decide +kernel
theorem dX7_freeRow_16 : decode cX7_freeRow 16 = .ok (.aload_n 0, 1) := by decide +kernel
theorem dX7_freeRow_17 : decode cX7_freeRow 17 = .ok (.getfield 26, 3) := by decide +kernel
theorem dX7_freeRow_20 : decode cX7_freeRow 20 = .ok (.iload_n 1, 1) := by decide +kernel
theorem dX7_freeRow_21 : decode cX7_freeRow 21 = .ok (.invokevirtual 316, 3) := by decide +kernel
theorem dX7_freeRow_24 : decode cX7_freeRow 24 = .ok (.ifCond .eq 9, 3) := by decide +kernel
theorem dX7_freeRow_27 : decode cX7_freeRow 27 = .ok (.iinc 1 1, 3) := by decide +kernel
theorem dX7_freeRow_30 : decode cX7_freeRow 30 = .ok (.goto (-28), 3) := by decide +kernel
theorem dX7_freeRow_33 : decode cX7_freeRow 33 = .ok (.iload_n 1, 1) := by decide +kernel
theorem dX7_freeRow_34 : decode cX7_freeRow 34 = .ok (.ireturn, 1) := by decide +kernel
def fX7_freeRow_b27 (μ : Mm) (k2 : Int32 → Option Int32) (v1 : Int32) : Option Int32 := k2 (v1 + (1 : Int32))
def fX7_freeRow_b2 (μ : Mm) : Nat → Int32 → Option Int32
  | 0, _ => none
  | n + 1, v1 => (if (25 : Int32) ≤ v1 then some v1 else ((fX7_isInSlots v1 μ).bind fun r10 => (if r10 = 0 then ((fX0_holds v1 μ).bind fun r21 => (if r21 = 0 then some v1 else fX7_freeRow_b27 μ (fX7_freeRow_b2 μ n) v1)) else fX7_freeRow_b27 μ (fX7_freeRow_b2 μ n) v1)))
def fX7_freeRow  (μ : Mm) : Option Int32 := fX7_freeRow_b2 μ 100 (1 : Int32)
set_option maxRecDepth 100000 in
set_option maxHeartbeats 4000000 in
theorem kX7_freeRow (l : Launch) (ε : Ev)  (μ : Mm) (out : Int32) (hf : fX7_freeRow μ = some out) : Sp l ε layX yX7_freeRow cX7_freeRow 2 (some .int) 2 [.ref (ea ε 0)] (some (.int out)) μ μ := by
  refine Sp.of [(0, .ref (ea ε 0))] rfl (by decide +kernel) (Nat.le_of_ble_eq_true rfl) ?_
  intro κ hκ C E hQ
  subst hκ
  replace C : Cf κ cX7_freeRow 2 RX7 (some .int) 2 := C
  have b27 : ∀ (k2 : Int32 → Option Int32) (hk2 : ∀ (v1 : Int32) , k2 v1 = some out → G κ (Vw κ ε layX μ) 2 2 [(0, .ref (ea ε 0)), (1, .int v1)] []) (v1 : Int32) , fX7_freeRow_b27 μ k2 v1 = some out → G κ (Vw κ ε layX μ) 2 27 [(0, .ref (ea ε 0)), (1, .int v1)] [] := by
    intro k2 hk2 v1 hf
    refine g_iinc (pc := 27) (i := 1) (j := 1) (v := (v1 + (1 : Int32))) (L' := [(1, .int (v1 + (1 : Int32))), (0, .ref (ea ε 0))]) C dX7_freeRow_27 rfl (cx_1 _) (by decide) rfl ?_
    refine g_goto (pc := 30) (tgt := 2) C dX7_freeRow_30 rfl ?_
    exact g_at [1, 0] rfl (hk2 (v1 + (1 : Int32)) hf)
  have b2 : ∀ (n : Nat) (v1 : Int32) , fX7_freeRow_b2 μ n v1 = some out → G κ (Vw κ ε layX μ) 2 2 [(0, .ref (ea ε 0)), (1, .int v1)] [] := by
    intro n
    induction n with
    | zero => intro v1 hf; exact none_ne hf
    | succ n ih =>
      intro v1 hf
      refine g_iload_n (pc := 2) (i := 1) (j := 1) C dX7_freeRow_2 rfl rfl ?_
      refine g_bipush (pc := 3) C dX7_freeRow_3 cb_25 ?_
      refine g_icmp_ge (pc := 5) (tgt := 33) C dX7_freeRow_5 rfl hf (fun _ hf => ?_) (fun _ hf => ?_)
      · refine g_iload_n (pc := 33) (i := 1) (j := 1) C dX7_freeRow_33 rfl rfl ?_
        exact g_iretr (pc := 34) C hQ dX7_freeRow_34 hf
      · refine g_aload_n (pc := 8) (i := 0) (j := 0) C dX7_freeRow_8 rfl rfl ?_
        refine g_iload_n (pc := 9) (i := 1) (j := 1) C dX7_freeRow_9 rfl rfl ?_
        refine g_cri (pc := 10) (st := []) C E layX_0 lkX7_313 (As := [.int v1]) rfl (fun out h => kX7_isInSlots (kl κ) ε v1 μ out h) (by decide) rfl (Nat.le_of_ble_eq_true rfl) dX7_freeRow_10 hf (fun r10 _ hf => ?_)
        refine g_if_ne (pc := 13) (tgt := 27) C dX7_freeRow_13 rfl hf (fun _ hf => ?_) (fun _ hf => ?_)
        · exact b27 (fX7_freeRow_b2 μ n) ih v1 hf
        · refine g_aload_n (pc := 16) (i := 0) (j := 0) C dX7_freeRow_16 rfl rfl ?_
          refine g_getr (pc := 17) (j := 3) C E fdX7_26 layX_0_2 dX7_freeRow_17 ?_
          refine g_iload_n (pc := 20) (i := 1) (j := 1) C dX7_freeRow_20 rfl rfl ?_
          refine g_cri (pc := 21) (st := []) C E layX_3 lkX7_316 (As := [.int v1]) rfl (fun out h => kX0_holds (kl κ) ε v1 μ out h) (by decide) rfl (Nat.le_of_ble_eq_true rfl) dX7_freeRow_21 hf (fun r21 _ hf => ?_)
          refine g_if_eq (pc := 24) (tgt := 33) C dX7_freeRow_24 rfl hf (fun _ hf => ?_) (fun _ hf => ?_)
          · refine g_iload_n (pc := 33) (i := 1) (j := 1) C dX7_freeRow_33 rfl rfl ?_
            exact g_iretr (pc := 34) C hQ dX7_freeRow_34 hf
          · exact b27 (fX7_freeRow_b2 μ n) ih v1 hf
  refine g_iconst (pc := 0) C dX7_freeRow_0 ci_1 ?_
  refine g_istore_n (pc := 1) (i := 1) (L' := [(1, .int (1 : Int32)), (0, .ref (ea ε 0))]) C dX7_freeRow_1 rfl (by decide) rfl ?_
  exact g_at [1, 0] rfl (b2 100 (1 : Int32) hf)
theorem dX7_newRow_0 : decode cX7_newRow 0 = .ok (.aload_n 0, 1) := by decide +kernel
theorem dX7_newRow_1 : decode cX7_newRow 1 = .ok (.invokevirtual 306, 3) := by decide +kernel
theorem dX7_newRow_4 : decode cX7_newRow 4 = .ok (.istore_n 3, 1) := by decide +kernel
theorem dX7_newRow_5 : decode cX7_newRow 5 = .ok (.aload_n 0, 1) := by decide +kernel
theorem dX7_newRow_6 : decode cX7_newRow 6 = .ok (.getfield 19, 3) := by decide +kernel
theorem dX7_newRow_9 : decode cX7_newRow 9 = .ok (.iload_n 3, 1) := by decide +kernel
theorem dX7_newRow_10 : decode cX7_newRow 10 = .ok (.iload_n 1, 1) := by decide +kernel
theorem dX7_newRow_11 : decode cX7_newRow 11 = .ok (.iload_n 2, 1) := by decide +kernel
theorem dX7_newRow_12 : decode cX7_newRow 12 = .ok (.invokevirtual 309, 3) := by decide +kernel
theorem dX7_newRow_15 : decode cX7_newRow 15 = .ok (.iload_n 3, 1) := by decide +kernel
theorem dX7_newRow_16 : decode cX7_newRow 16 = .ok (.ireturn, 1) := by decide +kernel
def fX7_newRow (p1 : Int32) (p2 : Int32) (μ : Mm) : Option (Int32 × Mm) := ((fX7_freeRow μ).bind fun r1 => ((fX5_prepare r1 p1 p2 μ).bind fun μ12 => some (r1, μ12)))
set_option maxRecDepth 100000 in
set_option maxHeartbeats 4000000 in
theorem kX7_newRow (l : Launch) (ε : Ev) (p1 : Int32) (p2 : Int32) (μ : Mm) (out : (Int32 × Mm)) (hf : fX7_newRow p1 p2 μ = some out) : Sp l ε layX yX7_newRow cX7_newRow 4 (some .int) 3 [.ref (ea ε 0), .int p1, .int p2] (some (.int out.1)) μ out.2 := by
  refine Sp.of [(0, .ref (ea ε 0)), (1, .int p1), (2, .int p2)] rfl (by decide +kernel) (Nat.le_of_ble_eq_true rfl) ?_
  intro κ hκ C E hQ
  subst hκ
  replace C : Cf κ cX7_newRow 4 RX7 (some .int) 3 := C
  refine g_aload_n (pc := 0) (i := 0) (j := 0) C dX7_newRow_0 rfl rfl ?_
  refine g_cri (pc := 1) (st := []) C E layX_0 lkX7_306 (As := []) rfl (fun out h => kX7_freeRow (kl κ) ε μ out h) (by decide) rfl (Nat.le_of_ble_eq_true rfl) dX7_newRow_1 hf (fun r1 _ hf => ?_)
  refine g_istore_n (pc := 4) (i := 3) (L' := [(3, .int r1), (0, .ref (ea ε 0)), (1, .int p1), (2, .int p2)]) C dX7_newRow_4 rfl (by decide) rfl ?_
  refine g_aload_n (pc := 5) (i := 0) (j := 1) C dX7_newRow_5 rfl rfl ?_
  refine g_getr (pc := 6) (j := 2) C E fdX7_19 layX_0_1 dX7_newRow_6 ?_
  refine g_iload_n (pc := 9) (i := 3) (j := 0) C dX7_newRow_9 rfl rfl ?_
  refine g_iload_n (pc := 10) (i := 1) (j := 2) C dX7_newRow_10 rfl rfl ?_
  refine g_iload_n (pc := 11) (i := 2) (j := 3) C dX7_newRow_11 rfl rfl ?_
  refine g_cwv (pc := 12) (st := []) C E layX_2 lkX7_309 (As := [.int r1, .int p1, .int p2]) rfl (fun out h => kX5_prepare (kl κ) ε r1 p1 p2 μ out h) (by decide) rfl (Nat.le_of_ble_eq_true rfl) dX7_newRow_12 hf (fun μ12 _ hf => ?_)
  refine g_iload_n (pc := 15) (i := 3) (j := 0) C dX7_newRow_15 rfl rfl ?_
  exact g_iretw (pc := 16) C hQ dX7_newRow_16 hf
theorem dX7_replace_0 : decode cX7_replace 0 = .ok (.aload_n 0, 1) := by decide +kernel
theorem dX7_replace_1 : decode cX7_replace 1 = .ok (.getfield 26, 3) := by decide +kernel
theorem dX7_replace_4 : decode cX7_replace 4 = .ok (.iload_n 1, 1) := by decide +kernel
theorem dX7_replace_5 : decode cX7_replace 5 = .ok (.aload_n 0, 1) := by decide +kernel
theorem dX7_replace_6 : decode cX7_replace 6 = .ok (.getfield 44, 3) := by decide +kernel
theorem dX7_replace_9 : decode cX7_replace 9 = .ok (.iload_n 1, 1) := by decide +kernel
theorem dX7_replace_10 : decode cX7_replace 10 = .ok (.iaload, 1) := by decide +kernel
theorem dX7_replace_11 : decode cX7_replace 11 = .ok (.invokevirtual 303, 3) := by decide +kernel
theorem dX7_replace_14 : decode cX7_replace 14 = .ok (.aload_n 0, 1) := by decide +kernel
theorem dX7_replace_15 : decode cX7_replace 15 = .ok (.getfield 44, 3) := by decide +kernel
theorem dX7_replace_18 : decode cX7_replace 18 = .ok (.iload_n 1, 1) := by decide +kernel
theorem dX7_replace_19 : decode cX7_replace 19 = .ok (.iload_n 2, 1) := by decide +kernel
theorem dX7_replace_20 : decode cX7_replace 20 = .ok (.iastore, 1) := by decide +kernel
theorem dX7_replace_21 : decode cX7_replace 21 = .ok (.return_, 1) := by decide +kernel
def fX7_replace (p1 : Int32) (p2 : Int32) (μ : Mm) : Option Mm := (if inb p1 10 = true then ((fX0_keepSlot p1 (μ.1 6 (Int32.toNatClampNeg p1)) μ).bind fun μ11 => (if inb p1 10 = true then some (wI μ11 6 (Int32.toNatClampNeg p1) p2) else none)) else none)
set_option maxRecDepth 100000 in
set_option maxHeartbeats 4000000 in
theorem kX7_replace (l : Launch) (ε : Ev) (p1 : Int32) (p2 : Int32) (μ : Mm) (out : Mm) (hf : fX7_replace p1 p2 μ = some out) : Sp l ε layX yX7_replace cX7_replace 3 none 3 [.ref (ea ε 0), .int p1, .int p2] none μ out := by
  refine Sp.of [(0, .ref (ea ε 0)), (1, .int p1), (2, .int p2)] rfl (by decide +kernel) (Nat.le_of_ble_eq_true rfl) ?_
  intro κ hκ C E hQ
  subst hκ
  replace C : Cf κ cX7_replace 3 RX7 none 3 := C
  refine g_aload_n (pc := 0) (i := 0) (j := 0) C dX7_replace_0 rfl rfl ?_
  refine g_getr (pc := 1) (j := 3) C E fdX7_26 layX_0_2 dX7_replace_1 ?_
  refine g_iload_n (pc := 4) (i := 1) (j := 1) C dX7_replace_4 rfl rfl ?_
  refine g_aload_n (pc := 5) (i := 0) (j := 0) C dX7_replace_5 rfl rfl ?_
  refine g_getr (pc := 6) (j := 6) C E fdX7_44 layX_0_5 dX7_replace_6 ?_
  refine g_iload_n (pc := 9) (i := 1) (j := 1) C dX7_replace_9 rfl rfl ?_
  refine g_iald (pc := 10) C E layX_6 dX7_replace_10 hf (fun hf => ?_)
  refine g_cwv (pc := 11) (st := []) C E layX_3 lkX7_303 (As := [.int p1, .int (μ.1 6 (Int32.toNatClampNeg p1))]) rfl (fun out h => kX0_keepSlot (kl κ) ε p1 (μ.1 6 (Int32.toNatClampNeg p1)) μ out h) (by decide) rfl (Nat.le_of_ble_eq_true rfl) dX7_replace_11 hf (fun μ11 _ hf => ?_)
  refine g_aload_n (pc := 14) (i := 0) (j := 0) C dX7_replace_14 rfl rfl ?_
  refine g_getr (pc := 15) (j := 6) C E fdX7_44 layX_0_5 dX7_replace_15 ?_
  refine g_iload_n (pc := 18) (i := 1) (j := 1) C dX7_replace_18 rfl rfl ?_
  refine g_iload_n (pc := 19) (i := 2) (j := 2) C dX7_replace_19 rfl rfl ?_
  refine g_iast (pc := 20) C E layX_6 dX7_replace_20 hf (fun hf => ?_)
  exact g_vretw (pc := 21) C hQ dX7_replace_21 hf
theorem dX7_cut_0 : decode cX7_cut 0 = .ok (.iload_n 1, 1) := by decide +kernel
theorem dX7_cut_1 : decode cX7_cut 1 = .ok (.invokestatic 76, 3) := by decide +kernel
theorem dX7_cut_4 : decode cX7_cut 4 = .ok (.ifCond .eq 10, 3) := by decide +kernel
theorem dX7_cut_7 : decode cX7_cut 7 = .ok (.iload_n 2, 1) := by decide +kernel
theorem dX7_cut_8 : decode cX7_cut 8 = .ok (.invokestatic 76, 3) := by decide +kernel
theorem dX7_cut_11 : decode cX7_cut 11 = .ok (.ifCond .ne 5, 3) := by decide +kernel
theorem dX7_cut_14 : decode cX7_cut 14 = .ok (.iconst (-1), 1) := by decide +kernel
theorem dX7_cut_15 : decode cX7_cut 15 = .ok (.ireturn, 1) := by decide +kernel
theorem dX7_cut_16 : decode cX7_cut 16 = .ok (.aload_n 0, 1) := by decide +kernel
theorem dX7_cut_17 : decode cX7_cut 17 = .ok (.iload_n 1, 1) := by decide +kernel
theorem dX7_cut_18 : decode cX7_cut 18 = .ok (.invokevirtual 129, 3) := by decide +kernel
theorem dX7_cut_21 : decode cX7_cut 21 = .ok (.ifCond .ne 6, 3) := by decide +kernel
theorem dX7_cut_24 : decode cX7_cut 24 = .ok (.bipush (-3), 2) := by decide +kernel
theorem dX7_cut_26 : decode cX7_cut 26 = .ok (.ireturn, 1) := by decide +kernel
theorem dX7_cut_27 : decode cX7_cut 27 = .ok (.aload_n 0, 1) := by decide +kernel
theorem dX7_cut_28 : decode cX7_cut 28 = .ok (.getfield 44, 3) := by decide +kernel
theorem dX7_cut_31 : decode cX7_cut 31 = .ok (.iload_n 1, 1) := by decide +kernel
theorem dX7_cut_32 : decode cX7_cut 32 = .ok (.iaload, 1) := by decide +kernel
theorem dX7_cut_33 : decode cX7_cut 33 = .ok (.istore 4, 2) := by decide +kernel
theorem dX7_cut_35 : decode cX7_cut 35 = .ok (.iload_n 3, 1) := by decide +kernel
theorem dX7_cut_36 : decode cX7_cut 36 = .ok (.bipush 10, 2) := by decide +kernel
theorem dX7_cut_38 : decode cX7_cut 38 = .ok (.idiv, 1) := by decide +kernel
theorem dX7_cut_39 : decode cX7_cut 39 = .ok (.istore 5, 2) := by decide +kernel
theorem dX7_cut_41 : decode cX7_cut 41 = .ok (.iload_n 3, 1) := by decide +kernel
theorem dX7_cut_42 : decode cX7_cut 42 = .ok (.bipush 10, 2) := by decide +kernel
theorem dX7_cut_44 : decode cX7_cut 44 = .ok (.irem, 1) := by decide +kernel
theorem dX7_cut_45 : decode cX7_cut 45 = .ok (.istore 6, 2) := by decide +kernel
theorem dX7_cut_47 : decode cX7_cut 47 = .ok (.iload_n 3, 1) := by decide +kernel
theorem dX7_cut_48 : decode cX7_cut 48 = .ok (.ifCond .lt 21, 3) := by decide +kernel
theorem dX7_cut_51 : decode cX7_cut 51 = .ok (.iload 5, 2) := by decide +kernel
theorem dX7_cut_53 : decode cX7_cut 53 = .ok (.iload 6, 2) := by decide +kernel
theorem dX7_cut_55 : decode cX7_cut 55 = .ok (.iadd, 1) := by decide +kernel
theorem dX7_cut_56 : decode cX7_cut 56 = .ok (.aload_n 0, 1) := by decide +kernel
theorem dX7_cut_57 : decode cX7_cut 57 = .ok (.getfield 19, 3) := by decide +kernel
theorem dX7_cut_60 : decode cX7_cut 60 = .ok (.getfield 132, 3) := by decide +kernel
theorem dX7_cut_63 : decode cX7_cut 63 = .ok (.iload 4, 2) := by decide +kernel
theorem dX7_cut_65 : decode cX7_cut 65 = .ok (.iaload, 1) := by decide +kernel
theorem dX7_cut_66 : decode cX7_cut 66 = .ok (.if_icmp .le 6, 3) := by decide +kernel
theorem dX7_cut_69 : decode cX7_cut 69 = .ok (.bipush (-2), 2) := by decide +kernel
theorem dX7_cut_71 : decode cX7_cut 71 = .ok (.ireturn, 1) := by decide +kernel
theorem dX7_cut_72 : decode cX7_cut 72 = .ok (.aload_n 0, 1) := by decide +kernel
theorem dX7_cut_73 : decode cX7_cut 73 = .ok (.iload_n 1, 1) := by decide +kernel
theorem dX7_cut_74 : decode cX7_cut 74 = .ok (.invokevirtual 125, 3) := by decide +kernel
theorem dX7_cut_77 : decode cX7_cut 77 = .ok (.istore 7, 2) := by decide +kernel
theorem dX7_cut_79 : decode cX7_cut 79 = .ok (.aload_n 0, 1) := by decide +kernel
theorem dX7_cut_80 : decode cX7_cut 80 = .ok (.iload 7, 2) := by decide +kernel
theorem dX7_cut_82 : decode cX7_cut 82 = .ok (.iload 6, 2) := by decide +kernel
theorem dX7_cut_84 : decode cX7_cut 84 = .ok (.invokevirtual 85, 3) := by decide +kernel
theorem dX7_cut_87 : decode cX7_cut 87 = .ok (.istore 8, 2) := by decide +kernel
theorem dX7_cut_89 : decode cX7_cut 89 = .ok (.aload_n 0, 1) := by decide +kernel
theorem dX7_cut_90 : decode cX7_cut 90 = .ok (.getfield 19, 3) := by decide +kernel
theorem dX7_cut_93 : decode cX7_cut 93 = .ok (.iload 4, 2) := by decide +kernel
theorem dX7_cut_95 : decode cX7_cut 95 = .ok (.iload 5, 2) := by decide +kernel
theorem dX7_cut_97 : decode cX7_cut 97 = .ok (.iload 6, 2) := by decide +kernel
theorem dX7_cut_99 : decode cX7_cut 99 = .ok (.iload 8, 2) := by decide +kernel
theorem dX7_cut_101 : decode cX7_cut 101 = .ok (.iconst 0, 1) := by decide +kernel
theorem dX7_cut_102 : decode cX7_cut 102 = .ok (.invokevirtual 257, 3) := by decide +kernel
theorem dX7_cut_105 : decode cX7_cut 105 = .ok (.aload_n 0, 1) := by decide +kernel
theorem dX7_cut_106 : decode cX7_cut 106 = .ok (.iload_n 2, 1) := by decide +kernel
theorem dX7_cut_107 : decode cX7_cut 107 = .ok (.iload 8, 2) := by decide +kernel
theorem dX7_cut_109 : decode cX7_cut 109 = .ok (.invokevirtual 106, 3) := by decide +kernel
theorem dX7_cut_112 : decode cX7_cut 112 = .ok (.iload 7, 2) := by decide +kernel
theorem dX7_cut_114 : decode cX7_cut 114 = .ok (.ireturn, 1) := by decide +kernel
def fX7_cut (p1 : Int32) (p2 : Int32) (p3 : Int32) (μ : Mm) : Option (Int32 × Mm) := ((fX7_isSlot p1).bind fun r1 => (if r1 = 0 then some ((-1 : Int32), μ) else ((fX7_isSlot p2).bind fun r8 => (if r8 = 0 then some ((-1 : Int32), μ) else ((fX7_holdsArray p1 μ).bind fun r18 => (if r18 = 0 then some ((-3 : Int32), μ) else (if inb p1 10 = true then (if p3 < 0 then some ((-2 : Int32), μ) else (if inb (μ.1 6 (Int32.toNatClampNeg p1)) 26 = true then (if ((jdiv p3 (10 : Int32)) + (jrem p3 (10 : Int32))) ≤ (μ.1 12 (Int32.toNatClampNeg (μ.1 6 (Int32.toNatClampNeg p1)))) then ((fX7_thingIn p1 μ).bind fun r74 => (bnd (fX7_newRow r74 (jrem p3 (10 : Int32)) μ) fun r84 μ84 => ((fX5_putAll (μ.1 6 (Int32.toNatClampNeg p1)) (jdiv p3 (10 : Int32)) (jrem p3 (10 : Int32)) r84 (0 : Int32) μ84).bind fun μ102 => ((fX7_replace p2 r84 μ102).bind fun μ109 => some (r74, μ109))))) else some ((-2 : Int32), μ)) else none)) else none)))))))
set_option maxRecDepth 100000 in
set_option maxHeartbeats 4000000 in
theorem kX7_cut (l : Launch) (ε : Ev) (p1 : Int32) (p2 : Int32) (p3 : Int32) (μ : Mm) (out : (Int32 × Mm)) (hf : fX7_cut p1 p2 p3 μ = some out) : Sp l ε layX yX7_cut cX7_cut 9 (some .int) 7 [.ref (ea ε 0), .int p1, .int p2, .int p3] (some (.int out.1)) μ out.2 := by
  refine Sp.of [(0, .ref (ea ε 0)), (1, .int p1), (2, .int p2), (3, .int p3)] rfl (by decide +kernel) (Nat.le_of_ble_eq_true rfl) ?_
  intro κ hκ C E hQ
  subst hκ
  replace C : Cf κ cX7_cut 9 RX7 (some .int) 7 := C
  refine g_iload_n (pc := 0) (i := 1) (j := 1) C dX7_cut_0 rfl rfl ?_
  refine g_cpi (pc := 1) (st := []) C lkX7_76 (As := [.int p1]) rfl (fun out h => kX7_isSlot (kl κ) p1 out h) (by decide) rfl (Nat.le_of_ble_eq_true rfl) dX7_cut_1 hf (fun r1 _ hf => ?_)
  refine g_if_eq (pc := 4) (tgt := 14) C dX7_cut_4 rfl hf (fun _ hf => ?_) (fun _ hf => ?_)
  · refine g_iconst (pc := 14) C dX7_cut_14 ci_m1 ?_
    exact g_iretw (pc := 15) C hQ dX7_cut_15 hf
  · refine g_iload_n (pc := 7) (i := 2) (j := 2) C dX7_cut_7 rfl rfl ?_
    refine g_cpi (pc := 8) (st := []) C lkX7_76 (As := [.int p2]) rfl (fun out h => kX7_isSlot (kl κ) p2 out h) (by decide) rfl (Nat.le_of_ble_eq_true rfl) dX7_cut_8 hf (fun r8 _ hf => ?_)
    refine g_if_ne (pc := 11) (tgt := 16) C dX7_cut_11 rfl hf (fun _ hf => ?_) (fun _ hf => ?_)
    · refine g_aload_n (pc := 16) (i := 0) (j := 0) C dX7_cut_16 rfl rfl ?_
      refine g_iload_n (pc := 17) (i := 1) (j := 1) C dX7_cut_17 rfl rfl ?_
      refine g_cri (pc := 18) (st := []) C E layX_0 lkX7_129 (As := [.int p1]) rfl (fun out h => kX7_holdsArray (kl κ) ε p1 μ out h) (by decide) rfl (Nat.le_of_ble_eq_true rfl) dX7_cut_18 hf (fun r18 _ hf => ?_)
      refine g_if_ne (pc := 21) (tgt := 27) C dX7_cut_21 rfl hf (fun _ hf => ?_) (fun _ hf => ?_)
      · refine g_aload_n (pc := 27) (i := 0) (j := 0) C dX7_cut_27 rfl rfl ?_
        refine g_getr (pc := 28) (j := 6) C E fdX7_44 layX_0_5 dX7_cut_28 ?_
        refine g_iload_n (pc := 31) (i := 1) (j := 1) C dX7_cut_31 rfl rfl ?_
        refine g_iald (pc := 32) C E layX_6 dX7_cut_32 hf (fun hf => ?_)
        refine g_istore (pc := 33) (i := 4) (L' := [(4, .int (μ.1 6 (Int32.toNatClampNeg p1))), (0, .ref (ea ε 0)), (1, .int p1), (2, .int p2), (3, .int p3)]) C dX7_cut_33 (by decide) rfl ?_
        refine g_iload_n (pc := 35) (i := 3) (j := 4) C dX7_cut_35 rfl rfl ?_
        refine g_bipush (pc := 36) C dX7_cut_36 cb_10 ?_
        refine g_idiv (pc := 38) C dX7_cut_38 (by decide) ?_
        refine g_istore (pc := 39) (i := 5) (L' := [(5, .int (jdiv p3 (10 : Int32))), (4, .int (μ.1 6 (Int32.toNatClampNeg p1))), (0, .ref (ea ε 0)), (1, .int p1), (2, .int p2), (3, .int p3)]) C dX7_cut_39 (by decide) rfl ?_
        refine g_iload_n (pc := 41) (i := 3) (j := 5) C dX7_cut_41 rfl rfl ?_
        refine g_bipush (pc := 42) C dX7_cut_42 cb_10 ?_
        refine g_irem (pc := 44) C dX7_cut_44 (by decide) ?_
        refine g_istore (pc := 45) (i := 6) (L' := [(6, .int (jrem p3 (10 : Int32))), (5, .int (jdiv p3 (10 : Int32))), (4, .int (μ.1 6 (Int32.toNatClampNeg p1))), (0, .ref (ea ε 0)), (1, .int p1), (2, .int p2), (3, .int p3)]) C dX7_cut_45 (by decide) rfl ?_
        refine g_iload_n (pc := 47) (i := 3) (j := 6) C dX7_cut_47 rfl rfl ?_
        refine g_if_lt (pc := 48) (tgt := 69) C dX7_cut_48 rfl hf (fun _ hf => ?_) (fun _ hf => ?_)
        · refine g_bipush (pc := 69) C dX7_cut_69 cb_m2 ?_
          exact g_iretw (pc := 71) C hQ dX7_cut_71 hf
        · refine g_iload (pc := 51) (i := 5) (j := 1) C dX7_cut_51 rfl ?_
          refine g_iload (pc := 53) (i := 6) (j := 0) C dX7_cut_53 rfl ?_
          refine g_iadd (pc := 55) C dX7_cut_55 ?_
          refine g_aload_n (pc := 56) (i := 0) (j := 3) C dX7_cut_56 rfl rfl ?_
          refine g_getr (pc := 57) (j := 2) C E fdX7_19 layX_0_1 dX7_cut_57 ?_
          refine g_getr (pc := 60) (j := 12) C E fdX7_132 layX_2_1 dX7_cut_60 ?_
          refine g_iload (pc := 63) (i := 4) (j := 2) C dX7_cut_63 rfl ?_
          refine g_iald (pc := 65) C E layX_12 dX7_cut_65 hf (fun hf => ?_)
          refine g_icmp_le (pc := 66) (tgt := 72) C dX7_cut_66 rfl hf (fun _ hf => ?_) (fun _ hf => ?_)
          · refine g_aload_n (pc := 72) (i := 0) (j := 3) C dX7_cut_72 rfl rfl ?_
            refine g_iload_n (pc := 73) (i := 1) (j := 4) C dX7_cut_73 rfl rfl ?_
            refine g_cri (pc := 74) (st := []) C E layX_0 lkX7_125 (As := [.int p1]) rfl (fun out h => kX7_thingIn (kl κ) ε p1 μ out h) (by decide) rfl (Nat.le_of_ble_eq_true rfl) dX7_cut_74 hf (fun r74 _ hf => ?_)
            refine g_istore (pc := 77) (i := 7) (L' := [(7, .int r74), (6, .int (jrem p3 (10 : Int32))), (5, .int (jdiv p3 (10 : Int32))), (4, .int (μ.1 6 (Int32.toNatClampNeg p1))), (0, .ref (ea ε 0)), (1, .int p1), (2, .int p2), (3, .int p3)]) C dX7_cut_77 (by decide) rfl ?_
            refine g_aload_n (pc := 79) (i := 0) (j := 4) C dX7_cut_79 rfl rfl ?_
            refine g_iload (pc := 80) (i := 7) (j := 0) C dX7_cut_80 rfl ?_
            refine g_iload (pc := 82) (i := 6) (j := 1) C dX7_cut_82 rfl ?_
            refine g_cwi (pc := 84) (st := []) C E layX_0 lkX7_85 (As := [.int r74, .int (jrem p3 (10 : Int32))]) rfl (fun out h => kX7_newRow (kl κ) ε r74 (jrem p3 (10 : Int32)) μ out h) (by decide) rfl (Nat.le_of_ble_eq_true rfl) dX7_cut_84 hf (fun r84 μ84 _ hf => ?_)
            refine g_istore (pc := 87) (i := 8) (L' := [(8, .int r84), (7, .int r74), (6, .int (jrem p3 (10 : Int32))), (5, .int (jdiv p3 (10 : Int32))), (4, .int (μ.1 6 (Int32.toNatClampNeg p1))), (0, .ref (ea ε 0)), (1, .int p1), (2, .int p2), (3, .int p3)]) C dX7_cut_87 (by decide) rfl ?_
            refine g_aload_n (pc := 89) (i := 0) (j := 5) C dX7_cut_89 rfl rfl ?_
            refine g_getr (pc := 90) (j := 2) C E fdX7_19 layX_0_1 dX7_cut_90 ?_
            refine g_iload (pc := 93) (i := 4) (j := 4) C dX7_cut_93 rfl ?_
            refine g_iload (pc := 95) (i := 5) (j := 3) C dX7_cut_95 rfl ?_
            refine g_iload (pc := 97) (i := 6) (j := 2) C dX7_cut_97 rfl ?_
            refine g_iload (pc := 99) (i := 8) (j := 0) C dX7_cut_99 rfl ?_
            refine g_iconst (pc := 101) C dX7_cut_101 ci_0 ?_
            refine g_cwv (pc := 102) (st := []) C E layX_2 lkX7_257 (As := [.int (μ.1 6 (Int32.toNatClampNeg p1)), .int (jdiv p3 (10 : Int32)), .int (jrem p3 (10 : Int32)), .int r84, .int (0 : Int32)]) rfl (fun out h => kX5_putAll (kl κ) ε (μ.1 6 (Int32.toNatClampNeg p1)) (jdiv p3 (10 : Int32)) (jrem p3 (10 : Int32)) r84 (0 : Int32) μ84 out h) (by decide) rfl (Nat.le_of_ble_eq_true rfl) dX7_cut_102 hf (fun μ102 _ hf => ?_)
            refine g_aload_n (pc := 105) (i := 0) (j := 5) C dX7_cut_105 rfl rfl ?_
            refine g_iload_n (pc := 106) (i := 2) (j := 7) C dX7_cut_106 rfl rfl ?_
            refine g_iload (pc := 107) (i := 8) (j := 0) C dX7_cut_107 rfl ?_
            refine g_cwv (pc := 109) (st := []) C E layX_0 lkX7_106 (As := [.int p2, .int r84]) rfl (fun out h => kX7_replace (kl κ) ε p2 r84 μ102 out h) (by decide) rfl (Nat.le_of_ble_eq_true rfl) dX7_cut_109 hf (fun μ109 _ hf => ?_)
            refine g_iload (pc := 112) (i := 7) (j := 1) C dX7_cut_112 rfl ?_
            exact g_iretw (pc := 114) C hQ dX7_cut_114 hf
          · refine g_bipush (pc := 69) C dX7_cut_69 cb_m2 ?_
            exact g_iretw (pc := 71) C hQ dX7_cut_71 hf
      · refine g_bipush (pc := 24) C dX7_cut_24 cb_m3 ?_
        exact g_iretw (pc := 26) C hQ dX7_cut_26 hf
    · refine g_iconst (pc := 14) C dX7_cut_14 ci_m1 ?_
      exact g_iretw (pc := 15) C hQ dX7_cut_15 hf
theorem dX7_ends_0 : decode cX7_ends 0 = .ok (.iload_n 1, 1) := by decide +kernel
theorem dX7_ends_1 : decode cX7_ends 1 = .ok (.invokestatic 76, 3) := by decide +kernel
theorem dX7_ends_4 : decode cX7_ends 4 = .ok (.ifCond .ne 5, 3) := by decide +kernel
theorem dX7_ends_7 : decode cX7_ends 7 = .ok (.iconst (-1), 1) := by decide +kernel
theorem dX7_ends_8 : decode cX7_ends 8 = .ok (.ireturn, 1) := by decide +kernel
theorem dX7_ends_9 : decode cX7_ends 9 = .ok (.iload_n 3, 1) := by decide +kernel
theorem dX7_ends_10 : decode cX7_ends 10 = .ok (.invokestatic 158, 3) := by decide +kernel
theorem dX7_ends_13 : decode cX7_ends 13 = .ok (.ifCond .ne 6, 3) := by decide +kernel
theorem dX7_ends_16 : decode cX7_ends 16 = .ok (.bipush (-2), 2) := by decide +kernel
theorem dX7_ends_18 : decode cX7_ends 18 = .ok (.ireturn, 1) := by decide +kernel
theorem dX7_ends_19 : decode cX7_ends 19 = .ok (.aload_n 0, 1) := by decide +kernel
theorem dX7_ends_20 : decode cX7_ends 20 = .ok (.getfield 44, 3) := by decide +kernel
theorem dX7_ends_23 : decode cX7_ends 23 = .ok (.iload_n 1, 1) := by decide +kernel
theorem dX7_ends_24 : decode cX7_ends 24 = .ok (.iaload, 1) := by decide +kernel
theorem dX7_ends_25 : decode cX7_ends 25 = .ok (.istore 4, 2) := by decide +kernel
theorem dX7_ends_27 : decode cX7_ends 27 = .ok (.aload_n 0, 1) := by decide +kernel
theorem dX7_ends_28 : decode cX7_ends 28 = .ok (.getfield 19, 3) := by decide +kernel
theorem dX7_ends_31 : decode cX7_ends 31 = .ok (.iload 4, 2) := by decide +kernel
theorem dX7_ends_33 : decode cX7_ends 33 = .ok (.iload_n 2, 1) := by decide +kernel
theorem dX7_ends_34 : decode cX7_ends 34 = .ok (.invokevirtual 139, 3) := by decide +kernel
theorem dX7_ends_37 : decode cX7_ends 37 = .ok (.ifCond .eq 19, 3) := by decide +kernel
theorem dX7_ends_40 : decode cX7_ends 40 = .ok (.aload_n 0, 1) := by decide +kernel
theorem dX7_ends_41 : decode cX7_ends 41 = .ok (.getfield 19, 3) := by decide +kernel
theorem dX7_ends_44 : decode cX7_ends 44 = .ok (.iload 4, 2) := by decide +kernel
theorem dX7_ends_46 : decode cX7_ends 46 = .ok (.iload_n 2, 1) := by decide +kernel
theorem dX7_ends_47 : decode cX7_ends 47 = .ok (.invokevirtual 145, 3) := by decide +kernel
theorem dX7_ends_50 : decode cX7_ends 50 = .ok (.invokestatic 158, 3) := by decide +kernel
theorem dX7_ends_53 : decode cX7_ends 53 = .ok (.ifCond .ne 6, 3) := by decide +kernel
theorem dX7_ends_56 : decode cX7_ends 56 = .ok (.bipush (-9), 2) := by decide +kernel
theorem dX7_ends_58 : decode cX7_ends 58 = .ok (.ireturn, 1) := by decide +kernel
theorem dX7_ends_59 : decode cX7_ends 59 = .ok (.aload_n 0, 1) := by decide +kernel
theorem dX7_ends_60 : decode cX7_ends 60 = .ok (.getfield 19, 3) := by decide +kernel
theorem dX7_ends_63 : decode cX7_ends 63 = .ok (.iload 4, 2) := by decide +kernel
theorem dX7_ends_65 : decode cX7_ends 65 = .ok (.iload_n 2, 1) := by decide +kernel
theorem dX7_ends_66 : decode cX7_ends 66 = .ok (.invokevirtual 148, 3) := by decide +kernel
theorem dX7_ends_69 : decode cX7_ends 69 = .ok (.aload_n 0, 1) := by decide +kernel
theorem dX7_ends_70 : decode cX7_ends 70 = .ok (.getfield 19, 3) := by decide +kernel
theorem dX7_ends_73 : decode cX7_ends 73 = .ok (.iload 4, 2) := by decide +kernel
theorem dX7_ends_75 : decode cX7_ends 75 = .ok (.iload_n 2, 1) := by decide +kernel
theorem dX7_ends_76 : decode cX7_ends 76 = .ok (.invokevirtual 145, 3) := by decide +kernel
theorem dX7_ends_79 : decode cX7_ends 79 = .ok (.iload_n 3, 1) := by decide +kernel
theorem dX7_ends_80 : decode cX7_ends 80 = .ok (.invokestatic 244, 3) := by decide +kernel
theorem dX7_ends_83 : decode cX7_ends 83 = .ok (.ireturn, 1) := by decide +kernel
def fX7_ends (p1 : Int32) (p2 : Int32) (p3 : Int32) (μ : Mm) : Option Int32 := ((fX7_isSlot p1).bind fun r1 => (if r1 = 0 then some (-1 : Int32) else ((fX7_isPrimitive p3).bind fun r10 => (if r10 = 0 then some (-2 : Int32) else (if inb p1 10 = true then ((fX5_has (μ.1 6 (Int32.toNatClampNeg p1)) p2 μ).bind fun r34 => (if r34 = 0 then some (-9 : Int32) else ((fX5_typeAt (μ.1 6 (Int32.toNatClampNeg p1)) p2 μ).bind fun r47 => ((fX7_isPrimitive r47).bind fun r50 => (if r50 = 0 then some (-9 : Int32) else ((fX5_codeAt (μ.1 6 (Int32.toNatClampNeg p1)) p2 μ).bind fun r66 => ((fX5_typeAt (μ.1 6 (Int32.toNatClampNeg p1)) p2 μ).bind fun r76 => ((fX2_countEnds r66 r76 p3).bind fun r80 => some r80)))))))) else none)))))
set_option maxRecDepth 100000 in
set_option maxHeartbeats 4000000 in
theorem kX7_ends (l : Launch) (ε : Ev) (p1 : Int32) (p2 : Int32) (p3 : Int32) (μ : Mm) (out : Int32) (hf : fX7_ends p1 p2 p3 μ = some out) : Sp l ε layX yX7_ends cX7_ends 5 (some .int) 6 [.ref (ea ε 0), .int p1, .int p2, .int p3] (some (.int out)) μ μ := by
  refine Sp.of [(0, .ref (ea ε 0)), (1, .int p1), (2, .int p2), (3, .int p3)] rfl (by decide +kernel) (Nat.le_of_ble_eq_true rfl) ?_
  intro κ hκ C E hQ
  subst hκ
  replace C : Cf κ cX7_ends 5 RX7 (some .int) 6 := C
  refine g_iload_n (pc := 0) (i := 1) (j := 1) C dX7_ends_0 rfl rfl ?_
  refine g_cpi (pc := 1) (st := []) C lkX7_76 (As := [.int p1]) rfl (fun out h => kX7_isSlot (kl κ) p1 out h) (by decide) rfl (Nat.le_of_ble_eq_true rfl) dX7_ends_1 hf (fun r1 _ hf => ?_)
  refine g_if_ne (pc := 4) (tgt := 9) C dX7_ends_4 rfl hf (fun _ hf => ?_) (fun _ hf => ?_)
  · refine g_iload_n (pc := 9) (i := 3) (j := 3) C dX7_ends_9 rfl rfl ?_
    refine g_cpi (pc := 10) (st := []) C lkX7_158 (As := [.int p3]) rfl (fun out h => kX7_isPrimitive (kl κ) p3 out h) (by decide) rfl (Nat.le_of_ble_eq_true rfl) dX7_ends_10 hf (fun r10 _ hf => ?_)
    refine g_if_ne (pc := 13) (tgt := 19) C dX7_ends_13 rfl hf (fun _ hf => ?_) (fun _ hf => ?_)
    · refine g_aload_n (pc := 19) (i := 0) (j := 0) C dX7_ends_19 rfl rfl ?_
      refine g_getr (pc := 20) (j := 6) C E fdX7_44 layX_0_5 dX7_ends_20 ?_
      refine g_iload_n (pc := 23) (i := 1) (j := 1) C dX7_ends_23 rfl rfl ?_
      refine g_iald (pc := 24) C E layX_6 dX7_ends_24 hf (fun hf => ?_)
      refine g_istore (pc := 25) (i := 4) (L' := [(4, .int (μ.1 6 (Int32.toNatClampNeg p1))), (0, .ref (ea ε 0)), (1, .int p1), (2, .int p2), (3, .int p3)]) C dX7_ends_25 (by decide) rfl ?_
      refine g_aload_n (pc := 27) (i := 0) (j := 1) C dX7_ends_27 rfl rfl ?_
      refine g_getr (pc := 28) (j := 2) C E fdX7_19 layX_0_1 dX7_ends_28 ?_
      refine g_iload (pc := 31) (i := 4) (j := 0) C dX7_ends_31 rfl ?_
      refine g_iload_n (pc := 33) (i := 2) (j := 3) C dX7_ends_33 rfl rfl ?_
      refine g_cri (pc := 34) (st := []) C E layX_2 lkX7_139 (As := [.int (μ.1 6 (Int32.toNatClampNeg p1)), .int p2]) rfl (fun out h => kX5_has (kl κ) ε (μ.1 6 (Int32.toNatClampNeg p1)) p2 μ out h) (by decide) rfl (Nat.le_of_ble_eq_true rfl) dX7_ends_34 hf (fun r34 _ hf => ?_)
      refine g_if_eq (pc := 37) (tgt := 56) C dX7_ends_37 rfl hf (fun _ hf => ?_) (fun _ hf => ?_)
      · refine g_bipush (pc := 56) C dX7_ends_56 cb_m9 ?_
        exact g_iretr (pc := 58) C hQ dX7_ends_58 hf
      · refine g_aload_n (pc := 40) (i := 0) (j := 1) C dX7_ends_40 rfl rfl ?_
        refine g_getr (pc := 41) (j := 2) C E fdX7_19 layX_0_1 dX7_ends_41 ?_
        refine g_iload (pc := 44) (i := 4) (j := 0) C dX7_ends_44 rfl ?_
        refine g_iload_n (pc := 46) (i := 2) (j := 3) C dX7_ends_46 rfl rfl ?_
        refine g_cri (pc := 47) (st := []) C E layX_2 lkX7_145 (As := [.int (μ.1 6 (Int32.toNatClampNeg p1)), .int p2]) rfl (fun out h => kX5_typeAt (kl κ) ε (μ.1 6 (Int32.toNatClampNeg p1)) p2 μ out h) (by decide) rfl (Nat.le_of_ble_eq_true rfl) dX7_ends_47 hf (fun r47 _ hf => ?_)
        refine g_cpi (pc := 50) (st := []) C lkX7_158 (As := [.int r47]) rfl (fun out h => kX7_isPrimitive (kl κ) r47 out h) (by decide) rfl (Nat.le_of_ble_eq_true rfl) dX7_ends_50 hf (fun r50 _ hf => ?_)
        refine g_if_ne (pc := 53) (tgt := 59) C dX7_ends_53 rfl hf (fun _ hf => ?_) (fun _ hf => ?_)
        · refine g_aload_n (pc := 59) (i := 0) (j := 1) C dX7_ends_59 rfl rfl ?_
          refine g_getr (pc := 60) (j := 2) C E fdX7_19 layX_0_1 dX7_ends_60 ?_
          refine g_iload (pc := 63) (i := 4) (j := 0) C dX7_ends_63 rfl ?_
          refine g_iload_n (pc := 65) (i := 2) (j := 3) C dX7_ends_65 rfl rfl ?_
          refine g_crl (pc := 66) (st := []) C E layX_2 lkX7_148 (As := [.int (μ.1 6 (Int32.toNatClampNeg p1)), .int p2]) rfl (fun out h => kX5_codeAt (kl κ) ε (μ.1 6 (Int32.toNatClampNeg p1)) p2 μ out h) (by decide) rfl (Nat.le_of_ble_eq_true rfl) dX7_ends_66 hf (fun r66 _ hf => ?_)
          refine g_aload_n (pc := 69) (i := 0) (j := 1) C dX7_ends_69 rfl rfl ?_
          refine g_getr (pc := 70) (j := 2) C E fdX7_19 layX_0_1 dX7_ends_70 ?_
          refine g_iload (pc := 73) (i := 4) (j := 0) C dX7_ends_73 rfl ?_
          refine g_iload_n (pc := 75) (i := 2) (j := 3) C dX7_ends_75 rfl rfl ?_
          refine g_cri (pc := 76) (st := [.long r66]) C E layX_2 lkX7_145 (As := [.int (μ.1 6 (Int32.toNatClampNeg p1)), .int p2]) rfl (fun out h => kX5_typeAt (kl κ) ε (μ.1 6 (Int32.toNatClampNeg p1)) p2 μ out h) (by decide) rfl (Nat.le_of_ble_eq_true rfl) dX7_ends_76 hf (fun r76 _ hf => ?_)
          refine g_iload_n (pc := 79) (i := 3) (j := 4) C dX7_ends_79 rfl rfl ?_
          refine g_cpi (pc := 80) (st := []) C lkX7_244 (As := [.long r66, .int r76, .int p3]) rfl (fun out h => kX2_countEnds (kl κ) r66 r76 p3 out h) (by decide) rfl (Nat.le_of_ble_eq_true rfl) dX7_ends_80 hf (fun r80 _ hf => ?_)
          exact g_iretr (pc := 83) C hQ dX7_ends_83 hf
        · refine g_bipush (pc := 56) C dX7_ends_56 cb_m9 ?_
          exact g_iretr (pc := 58) C hQ dX7_ends_58 hf
    · refine g_bipush (pc := 16) C dX7_ends_16 cb_m2 ?_
      exact g_iretr (pc := 18) C hQ dX7_ends_18 hf
  · refine g_iconst (pc := 7) C dX7_ends_7 ci_m1 ?_
    exact g_iretr (pc := 8) C hQ dX7_ends_8 hf
theorem dX7_fault_0 : decode cX7_fault 0 = .ok (.aload_n 0, 1) := by decide +kernel
theorem dX7_fault_1 : decode cX7_fault 1 = .ok (.getfield 12, 3) := by decide +kernel
theorem dX7_fault_4 : decode cX7_fault 4 = .ok (.invokevirtual 72, 3) := by decide +kernel
theorem dX7_fault_7 : decode cX7_fault 7 = .ok (.ireturn, 1) := by decide +kernel
def fX7_fault  (μ : Mm) : Option (Int32 × Mm) := (bnd (fX3_scan μ) fun r4 μ4 => some (r4, μ4))
set_option maxRecDepth 100000 in
set_option maxHeartbeats 4000000 in
theorem kX7_fault (l : Launch) (ε : Ev)  (μ : Mm) (out : (Int32 × Mm)) (hf : fX7_fault μ = some out) : Sp l ε layX yX7_fault cX7_fault 1 (some .int) 7 [.ref (ea ε 0)] (some (.int out.1)) μ out.2 := by
  refine Sp.of [(0, .ref (ea ε 0))] rfl (by decide +kernel) (Nat.le_of_ble_eq_true rfl) ?_
  intro κ hκ C E hQ
  subst hκ
  replace C : Cf κ cX7_fault 1 RX7 (some .int) 7 := C
  refine g_aload_n (pc := 0) (i := 0) (j := 0) C dX7_fault_0 rfl rfl ?_
  refine g_getr (pc := 1) (j := 1) C E fdX7_12 layX_0_0 dX7_fault_1 ?_
  refine g_cwi (pc := 4) (st := []) C E layX_1 lkX7_72 (As := []) rfl (fun out h => kX3_scan (kl κ) ε μ out h) (by decide) rfl (Nat.le_of_ble_eq_true rfl) dX7_fault_4 hf (fun r4 μ4 _ hf => ?_)
  exact g_iretw (pc := 7) C hQ dX7_fault_7 hf
theorem dX7_fetch_0 : decode cX7_fetch 0 = .ok (.iload_n 1, 1) := by decide +kernel
theorem dX7_fetch_1 : decode cX7_fetch 1 = .ok (.invokestatic 76, 3) := by decide +kernel
theorem dX7_fetch_4 : decode cX7_fetch 4 = .ok (.ifCond .ne 5, 3) := by decide +kernel
theorem dX7_fetch_7 : decode cX7_fetch 7 = .ok (.iconst (-1), 1) := by decide +kernel
theorem dX7_fetch_8 : decode cX7_fetch 8 = .ok (.ireturn, 1) := by decide +kernel
theorem dX7_fetch_9 : decode cX7_fetch 9 = .ok (.aload_n 0, 1) := by decide +kernel
theorem dX7_fetch_10 : decode cX7_fetch 10 = .ok (.iload_n 1, 1) := by decide +kernel
theorem dX7_fetch_11 : decode cX7_fetch 11 = .ok (.iload_n 2, 1) := by decide +kernel
theorem dX7_fetch_12 : decode cX7_fetch 12 = .ok (.invokevirtual 200, 3) := by decide +kernel
theorem dX7_fetch_15 : decode cX7_fetch 15 = .ok (.istore_n 3, 1) := by decide +kernel
theorem dX7_fetch_16 : decode cX7_fetch 16 = .ok (.iload_n 3, 1) := by decide +kernel
theorem dX7_fetch_17 : decode cX7_fetch 17 = .ok (.ifCond .ne 44, 3) := by decide +kernel
theorem dX7_fetch_20 : decode cX7_fetch 20 = .ok (.aload_n 0, 1) := by decide +kernel
theorem dX7_fetch_21 : decode cX7_fetch 21 = .ok (.getfield 19, 3) := by decide +kernel
theorem dX7_fetch_24 : decode cX7_fetch 24 = .ok (.aload_n 0, 1) := by decide +kernel
theorem dX7_fetch_25 : decode cX7_fetch 25 = .ok (.getfield 44, 3) := by decide +kernel
theorem dX7_fetch_28 : decode cX7_fetch 28 = .ok (.iload_n 1, 1) := by decide +kernel
theorem dX7_fetch_29 : decode cX7_fetch 29 = .ok (.iaload, 1) := by decide +kernel
theorem dX7_fetch_30 : decode cX7_fetch 30 = .ok (.iload_n 2, 1) := by decide +kernel
theorem dX7_fetch_31 : decode cX7_fetch 31 = .ok (.invokevirtual 145, 3) := by decide +kernel
theorem dX7_fetch_34 : decode cX7_fetch 34 = .ok (.istore 4, 2) := by decide +kernel
theorem dX7_fetch_36 : decode cX7_fetch 36 = .ok (.aload_n 0, 1) := by decide +kernel
theorem dX7_fetch_37 : decode cX7_fetch 37 = .ok (.iload 4, 2) := by decide +kernel
theorem dX7_fetch_39 : decode cX7_fetch 39 = .ok (.invokestatic 203, 3) := by decide +kernel
theorem dX7_fetch_42 : decode cX7_fetch 42 = .ok (.iload 4, 2) := by decide +kernel
theorem dX7_fetch_44 : decode cX7_fetch 44 = .ok (.aload_n 0, 1) := by decide +kernel
theorem dX7_fetch_45 : decode cX7_fetch 45 = .ok (.getfield 19, 3) := by decide +kernel
theorem dX7_fetch_48 : decode cX7_fetch 48 = .ok (.aload_n 0, 1) := by decide +kernel
theorem dX7_fetch_49 : decode cX7_fetch 49 = .ok (.getfield 44, 3) := by decide +kernel
theorem dX7_fetch_52 : decode cX7_fetch 52 = .ok (.iload_n 1, 1) := by decide +kernel
theorem dX7_fetch_53 : decode cX7_fetch 53 = .ok (.iaload, 1) := by decide +kernel
theorem dX7_fetch_54 : decode cX7_fetch 54 = .ok (.iload_n 2, 1) := by decide +kernel
theorem dX7_fetch_55 : decode cX7_fetch 55 = .ok (.invokevirtual 148, 3) := by decide +kernel
theorem dX7_fetch_58 : decode cX7_fetch 58 = .ok (.invokevirtual 164, 3) := by decide +kernel
theorem dX7_fetch_61 : decode cX7_fetch 61 = .ok (.iload_n 3, 1) := by decide +kernel
theorem dX7_fetch_62 : decode cX7_fetch 62 = .ok (.ireturn, 1) := by decide +kernel
def fX7_fetch (p1 : Int32) (p2 : Int32) (μ : Mm) : Option (Int32 × Mm) := ((fX7_isSlot p1).bind fun r1 => (if r1 = 0 then some ((-1 : Int32), μ) else ((fX7_fetchReason p1 p2 μ).bind fun r12 => (if r12 = 0 then (if inb p1 10 = true then ((fX5_typeAt (μ.1 6 (Int32.toNatClampNeg p1)) p2 μ).bind fun r31 => ((fX4_fetchedForm r31).bind fun r39 => (if inb p1 10 = true then ((fX5_codeAt (μ.1 6 (Int32.toNatClampNeg p1)) p2 μ).bind fun r55 => ((fX7_hold r39 r31 r55 μ).bind fun μ58 => some (r12, μ58))) else none))) else none) else some (r12, μ)))))
set_option maxRecDepth 100000 in
set_option maxHeartbeats 4000000 in
theorem kX7_fetch (l : Launch) (ε : Ev) (p1 : Int32) (p2 : Int32) (μ : Mm) (out : (Int32 × Mm)) (hf : fX7_fetch p1 p2 μ = some out) : Sp l ε layX yX7_fetch cX7_fetch 5 (some .int) 2 [.ref (ea ε 0), .int p1, .int p2] (some (.int out.1)) μ out.2 := by
  refine Sp.of [(0, .ref (ea ε 0)), (1, .int p1), (2, .int p2)] rfl (by decide +kernel) (Nat.le_of_ble_eq_true rfl) ?_
  intro κ hκ C E hQ
  subst hκ
  replace C : Cf κ cX7_fetch 5 RX7 (some .int) 2 := C
  refine g_iload_n (pc := 0) (i := 1) (j := 1) C dX7_fetch_0 rfl rfl ?_
  refine g_cpi (pc := 1) (st := []) C lkX7_76 (As := [.int p1]) rfl (fun out h => kX7_isSlot (kl κ) p1 out h) (by decide) rfl (Nat.le_of_ble_eq_true rfl) dX7_fetch_1 hf (fun r1 _ hf => ?_)
  refine g_if_ne (pc := 4) (tgt := 9) C dX7_fetch_4 rfl hf (fun _ hf => ?_) (fun _ hf => ?_)
  · refine g_aload_n (pc := 9) (i := 0) (j := 0) C dX7_fetch_9 rfl rfl ?_
    refine g_iload_n (pc := 10) (i := 1) (j := 1) C dX7_fetch_10 rfl rfl ?_
    refine g_iload_n (pc := 11) (i := 2) (j := 2) C dX7_fetch_11 rfl rfl ?_
    refine g_cri (pc := 12) (st := []) C E layX_0 lkX7_200 (As := [.int p1, .int p2]) rfl (fun out h => kX7_fetchReason (kl κ) ε p1 p2 μ out h) (by decide) rfl (Nat.le_of_ble_eq_true rfl) dX7_fetch_12 hf (fun r12 _ hf => ?_)
    refine g_istore_n (pc := 15) (i := 3) (L' := [(3, .int r12), (0, .ref (ea ε 0)), (1, .int p1), (2, .int p2)]) C dX7_fetch_15 rfl (by decide) rfl ?_
    refine g_iload_n (pc := 16) (i := 3) (j := 0) C dX7_fetch_16 rfl rfl ?_
    refine g_if_ne (pc := 17) (tgt := 61) C dX7_fetch_17 rfl hf (fun _ hf => ?_) (fun _ hf => ?_)
    · refine g_iload_n (pc := 61) (i := 3) (j := 0) C dX7_fetch_61 rfl rfl ?_
      exact g_iretw (pc := 62) C hQ dX7_fetch_62 hf
    · refine g_aload_n (pc := 20) (i := 0) (j := 1) C dX7_fetch_20 rfl rfl ?_
      refine g_getr (pc := 21) (j := 2) C E fdX7_19 layX_0_1 dX7_fetch_21 ?_
      refine g_aload_n (pc := 24) (i := 0) (j := 1) C dX7_fetch_24 rfl rfl ?_
      refine g_getr (pc := 25) (j := 6) C E fdX7_44 layX_0_5 dX7_fetch_25 ?_
      refine g_iload_n (pc := 28) (i := 1) (j := 2) C dX7_fetch_28 rfl rfl ?_
      refine g_iald (pc := 29) C E layX_6 dX7_fetch_29 hf (fun hf => ?_)
      refine g_iload_n (pc := 30) (i := 2) (j := 3) C dX7_fetch_30 rfl rfl ?_
      refine g_cri (pc := 31) (st := []) C E layX_2 lkX7_145 (As := [.int (μ.1 6 (Int32.toNatClampNeg p1)), .int p2]) rfl (fun out h => kX5_typeAt (kl κ) ε (μ.1 6 (Int32.toNatClampNeg p1)) p2 μ out h) (by decide) rfl (Nat.le_of_ble_eq_true rfl) dX7_fetch_31 hf (fun r31 _ hf => ?_)
      refine g_istore (pc := 34) (i := 4) (L' := [(4, .int r31), (3, .int r12), (0, .ref (ea ε 0)), (1, .int p1), (2, .int p2)]) C dX7_fetch_34 (by decide) rfl ?_
      refine g_aload_n (pc := 36) (i := 0) (j := 2) C dX7_fetch_36 rfl rfl ?_
      refine g_iload (pc := 37) (i := 4) (j := 0) C dX7_fetch_37 rfl ?_
      refine g_cpi (pc := 39) (st := [.ref (ea ε 0)]) C lkX7_203 (As := [.int r31]) rfl (fun out h => kX4_fetchedForm (kl κ) r31 out h) (by decide) rfl (Nat.le_of_ble_eq_true rfl) dX7_fetch_39 hf (fun r39 _ hf => ?_)
      refine g_iload (pc := 42) (i := 4) (j := 0) C dX7_fetch_42 rfl ?_
      refine g_aload_n (pc := 44) (i := 0) (j := 2) C dX7_fetch_44 rfl rfl ?_
      refine g_getr (pc := 45) (j := 2) C E fdX7_19 layX_0_1 dX7_fetch_45 ?_
      refine g_aload_n (pc := 48) (i := 0) (j := 2) C dX7_fetch_48 rfl rfl ?_
      refine g_getr (pc := 49) (j := 6) C E fdX7_44 layX_0_5 dX7_fetch_49 ?_
      refine g_iload_n (pc := 52) (i := 1) (j := 3) C dX7_fetch_52 rfl rfl ?_
      refine g_iald (pc := 53) C E layX_6 dX7_fetch_53 hf (fun hf => ?_)
      refine g_iload_n (pc := 54) (i := 2) (j := 4) C dX7_fetch_54 rfl rfl ?_
      refine g_crl (pc := 55) (st := [.int r31, .int r39, .ref (ea ε 0)]) C E layX_2 lkX7_148 (As := [.int (μ.1 6 (Int32.toNatClampNeg p1)), .int p2]) rfl (fun out h => kX5_codeAt (kl κ) ε (μ.1 6 (Int32.toNatClampNeg p1)) p2 μ out h) (by decide) rfl (Nat.le_of_ble_eq_true rfl) dX7_fetch_55 hf (fun r55 _ hf => ?_)
      refine g_cwv (pc := 58) (st := []) C E layX_0 lkX7_164 (As := [.int r39, .int r31, .long r55]) rfl (fun out h => kX7_hold (kl κ) ε r39 r31 r55 μ out h) (by decide) rfl (Nat.le_of_ble_eq_true rfl) dX7_fetch_58 hf (fun μ58 _ hf => ?_)
      refine g_iload_n (pc := 61) (i := 3) (j := 1) C dX7_fetch_61 rfl rfl ?_
      exact g_iretw (pc := 62) C hQ dX7_fetch_62 hf
  · refine g_iconst (pc := 7) C dX7_fetch_7 ci_m1 ?_
    exact g_iretw (pc := 8) C hQ dX7_fetch_8 hf
theorem dX7_give_0 : decode cX7_give 0 = .ok (.iload_n 1, 1) := by decide +kernel
theorem dX7_give_1 : decode cX7_give 1 = .ok (.invokestatic 158, 3) := by decide +kernel
theorem dX7_give_4 : decode cX7_give 4 = .ok (.ifCond .ne 6, 3) := by decide +kernel
theorem dX7_give_7 : decode cX7_give 7 = .ok (.bipush (-2), 2) := by decide +kernel
theorem dX7_give_9 : decode cX7_give 9 = .ok (.ireturn, 1) := by decide +kernel
theorem dX7_give_10 : decode cX7_give 10 = .ok (.aload_n 0, 1) := by decide +kernel
theorem dX7_give_11 : decode cX7_give 11 = .ok (.iconst 1, 1) := by decide +kernel
theorem dX7_give_12 : decode cX7_give 12 = .ok (.iload_n 1, 1) := by decide +kernel
theorem dX7_give_13 : decode cX7_give 13 = .ok (.iload_n 1, 1) := by decide +kernel
theorem dX7_give_14 : decode cX7_give 14 = .ok (.lload_n 2, 1) := by decide +kernel
theorem dX7_give_15 : decode cX7_give 15 = .ok (.invokestatic 161, 3) := by decide +kernel
theorem dX7_give_18 : decode cX7_give 18 = .ok (.invokevirtual 164, 3) := by decide +kernel
theorem dX7_give_21 : decode cX7_give 21 = .ok (.iconst 1, 1) := by decide +kernel
theorem dX7_give_22 : decode cX7_give 22 = .ok (.ireturn, 1) := by decide +kernel
def fX7_give (p1 : Int32) (p2 : Int64) (μ : Mm) : Option (Int32 × Mm) := ((fX7_isPrimitive p1).bind fun r1 => (if r1 = 0 then some ((-2 : Int32), μ) else ((fX2_made p1 p2).bind fun r15 => ((fX7_hold (1 : Int32) p1 r15 μ).bind fun μ18 => some ((1 : Int32), μ18)))))
set_option maxRecDepth 100000 in
set_option maxHeartbeats 4000000 in
theorem kX7_give (l : Launch) (ε : Ev) (p1 : Int32) (p2 : Int64) (μ : Mm) (out : (Int32 × Mm)) (hf : fX7_give p1 p2 μ = some out) : Sp l ε layX yX7_give cX7_give 4 (some .int) 5 [.ref (ea ε 0), .int p1, .long p2] (some (.int out.1)) μ out.2 := by
  refine Sp.of [(0, .ref (ea ε 0)), (1, .int p1), (2, .long p2)] rfl (by decide +kernel) (Nat.le_of_ble_eq_true rfl) ?_
  intro κ hκ C E hQ
  subst hκ
  replace C : Cf κ cX7_give 4 RX7 (some .int) 5 := C
  refine g_iload_n (pc := 0) (i := 1) (j := 1) C dX7_give_0 rfl rfl ?_
  refine g_cpi (pc := 1) (st := []) C lkX7_158 (As := [.int p1]) rfl (fun out h => kX7_isPrimitive (kl κ) p1 out h) (by decide) rfl (Nat.le_of_ble_eq_true rfl) dX7_give_1 hf (fun r1 _ hf => ?_)
  refine g_if_ne (pc := 4) (tgt := 10) C dX7_give_4 rfl hf (fun _ hf => ?_) (fun _ hf => ?_)
  · refine g_aload_n (pc := 10) (i := 0) (j := 0) C dX7_give_10 rfl rfl ?_
    refine g_iconst (pc := 11) C dX7_give_11 ci_1 ?_
    refine g_iload_n (pc := 12) (i := 1) (j := 1) C dX7_give_12 rfl rfl ?_
    refine g_iload_n (pc := 13) (i := 1) (j := 1) C dX7_give_13 rfl rfl ?_
    refine g_lload_n (pc := 14) (i := 2) (j := 2) C dX7_give_14 rfl rfl ?_
    refine g_cpl (pc := 15) (st := [.int p1, .int (1 : Int32), .ref (ea ε 0)]) C lkX7_161 (As := [.int p1, .long p2]) rfl (fun out h => kX2_made (kl κ) p1 p2 out h) (by decide) rfl (Nat.le_of_ble_eq_true rfl) dX7_give_15 hf (fun r15 _ hf => ?_)
    refine g_cwv (pc := 18) (st := []) C E layX_0 lkX7_164 (As := [.int (1 : Int32), .int p1, .long r15]) rfl (fun out h => kX7_hold (kl κ) ε (1 : Int32) p1 r15 μ out h) (by decide) rfl (Nat.le_of_ble_eq_true rfl) dX7_give_18 hf (fun μ18 _ hf => ?_)
    refine g_iconst (pc := 21) C dX7_give_21 ci_1 ?_
    exact g_iretw (pc := 22) C hQ dX7_give_22 hf
  · refine g_bipush (pc := 7) C dX7_give_7 cb_m2 ?_
    exact g_iretw (pc := 9) C hQ dX7_give_9 hf
theorem dX7_grow_0 : decode cX7_grow 0 = .ok (.iload_n 1, 1) := by decide +kernel
theorem dX7_grow_1 : decode cX7_grow 1 = .ok (.invokestatic 168, 3) := by decide +kernel
theorem dX7_grow_4 : decode cX7_grow 4 = .ok (.ifCond .ne 6, 3) := by decide +kernel
theorem dX7_grow_7 : decode cX7_grow 7 = .ok (.bipush (-2), 2) := by decide +kernel
theorem dX7_grow_9 : decode cX7_grow 9 = .ok (.ireturn, 1) := by decide +kernel
theorem dX7_grow_10 : decode cX7_grow 10 = .ok (.aload_n 0, 1) := by decide +kernel
theorem dX7_grow_11 : decode cX7_grow 11 = .ok (.getfield 55, 3) := by decide +kernel
theorem dX7_grow_14 : decode cX7_grow 14 = .ok (.iconst 3, 1) := by decide +kernel
theorem dX7_grow_15 : decode cX7_grow 15 = .ok (.if_icmp .eq 6, 3) := by decide +kernel
theorem dX7_grow_18 : decode cX7_grow 18 = .ok (.bipush (-3), 2) := by decide +kernel
theorem dX7_grow_20 : decode cX7_grow 20 = .ok (.ireturn, 1) := by decide +kernel
theorem dX7_grow_21 : decode cX7_grow 21 = .ok (.aload_n 0, 1) := by decide +kernel
theorem dX7_grow_22 : decode cX7_grow 22 = .ok (.getfield 61, 3) := by decide +kernel
theorem dX7_grow_25 : decode cX7_grow 25 = .ok (.l2i, 1) := by decide +kernel
theorem dX7_grow_26 : decode cX7_grow 26 = .ok (.istore_n 2, 1) := by decide +kernel
theorem dX7_grow_27 : decode cX7_grow 27 = .ok (.aload_n 0, 1) := by decide +kernel
theorem dX7_grow_28 : decode cX7_grow 28 = .ok (.getfield 33, 3) := by decide +kernel
theorem dX7_grow_31 : decode cX7_grow 31 = .ok (.iload_n 2, 1) := by decide +kernel
theorem dX7_grow_32 : decode cX7_grow 32 = .ok (.invokevirtual 178, 3) := by decide +kernel
theorem dX7_grow_35 : decode cX7_grow 35 = .ok (.istore_n 3, 1) := by decide +kernel
theorem dX7_grow_36 : decode cX7_grow 36 = .ok (.aload_n 0, 1) := by decide +kernel
theorem dX7_grow_37 : decode cX7_grow 37 = .ok (.getfield 26, 3) := by decide +kernel
theorem dX7_grow_40 : decode cX7_grow 40 = .ok (.iload_n 2, 1) := by decide +kernel
theorem dX7_grow_41 : decode cX7_grow 41 = .ok (.iload_n 3, 1) := by decide +kernel
theorem dX7_grow_42 : decode cX7_grow 42 = .ok (.invokevirtual 181, 3) := by decide +kernel
theorem dX7_grow_45 : decode cX7_grow 45 = .ok (.aload_n 0, 1) := by decide +kernel
theorem dX7_grow_46 : decode cX7_grow 46 = .ok (.getfield 33, 3) := by decide +kernel
theorem dX7_grow_49 : decode cX7_grow 49 = .ok (.iload_n 2, 1) := by decide +kernel
theorem dX7_grow_50 : decode cX7_grow 50 = .ok (.iload_n 1, 1) := by decide +kernel
theorem dX7_grow_51 : decode cX7_grow 51 = .ok (.invokevirtual 184, 3) := by decide +kernel
theorem dX7_grow_54 : decode cX7_grow 54 = .ok (.iload_n 3, 1) := by decide +kernel
theorem dX7_grow_55 : decode cX7_grow 55 = .ok (.ireturn, 1) := by decide +kernel
def fX7_grow (p1 : Int32) (μ : Mm) : Option (Int32 × Mm) := ((fX7_isMarkNumber p1).bind fun r1 => (if r1 = 0 then some ((-2 : Int32), μ) else (if (μ.1 0 8) = (3 : Int32) then ((fX1_numberOf (Int64.toInt32 (μ.2 0 10)) μ).bind fun r32 => ((fX0_keepNumber (Int64.toInt32 (μ.2 0 10)) r32 μ).bind fun μ42 => ((fX1_setNumber (Int64.toInt32 (μ.2 0 10)) p1 μ42).bind fun μ51 => some (r32, μ51)))) else some ((-3 : Int32), μ))))
set_option maxRecDepth 100000 in
set_option maxHeartbeats 4000000 in
theorem kX7_grow (l : Launch) (ε : Ev) (p1 : Int32) (μ : Mm) (out : (Int32 × Mm)) (hf : fX7_grow p1 μ = some out) : Sp l ε layX yX7_grow cX7_grow 4 (some .int) 3 [.ref (ea ε 0), .int p1] (some (.int out.1)) μ out.2 := by
  refine Sp.of [(0, .ref (ea ε 0)), (1, .int p1)] rfl (by decide +kernel) (Nat.le_of_ble_eq_true rfl) ?_
  intro κ hκ C E hQ
  subst hκ
  replace C : Cf κ cX7_grow 4 RX7 (some .int) 3 := C
  refine g_iload_n (pc := 0) (i := 1) (j := 1) C dX7_grow_0 rfl rfl ?_
  refine g_cpi (pc := 1) (st := []) C lkX7_168 (As := [.int p1]) rfl (fun out h => kX7_isMarkNumber (kl κ) p1 out h) (by decide) rfl (Nat.le_of_ble_eq_true rfl) dX7_grow_1 hf (fun r1 _ hf => ?_)
  refine g_if_ne (pc := 4) (tgt := 10) C dX7_grow_4 rfl hf (fun _ hf => ?_) (fun _ hf => ?_)
  · refine g_aload_n (pc := 10) (i := 0) (j := 0) C dX7_grow_10 rfl rfl ?_
    refine g_geti (pc := 11) C E fdX7_55 layX_0_8 dX7_grow_11 ?_
    refine g_iconst (pc := 14) C dX7_grow_14 ci_3 ?_
    refine g_icmp_eq (pc := 15) (tgt := 21) C dX7_grow_15 rfl hf (fun _ hf => ?_) (fun _ hf => ?_)
    · refine g_aload_n (pc := 21) (i := 0) (j := 0) C dX7_grow_21 rfl rfl ?_
      refine g_getl (pc := 22) C E fdX7_61 layX_0_10 dX7_grow_22 ?_
      refine g_l2i (pc := 25) C dX7_grow_25 ?_
      refine g_istore_n (pc := 26) (i := 2) (L' := [(2, .int (Int64.toInt32 (μ.2 0 10))), (0, .ref (ea ε 0)), (1, .int p1)]) C dX7_grow_26 rfl (by decide) rfl ?_
      refine g_aload_n (pc := 27) (i := 0) (j := 1) C dX7_grow_27 rfl rfl ?_
      refine g_getr (pc := 28) (j := 4) C E fdX7_33 layX_0_3 dX7_grow_28 ?_
      refine g_iload_n (pc := 31) (i := 2) (j := 0) C dX7_grow_31 rfl rfl ?_
      refine g_cri (pc := 32) (st := []) C E layX_4 lkX7_178 (As := [.int (Int64.toInt32 (μ.2 0 10))]) rfl (fun out h => kX1_numberOf (kl κ) ε (Int64.toInt32 (μ.2 0 10)) μ out h) (by decide) rfl (Nat.le_of_ble_eq_true rfl) dX7_grow_32 hf (fun r32 _ hf => ?_)
      refine g_istore_n (pc := 35) (i := 3) (L' := [(3, .int r32), (2, .int (Int64.toInt32 (μ.2 0 10))), (0, .ref (ea ε 0)), (1, .int p1)]) C dX7_grow_35 rfl (by decide) rfl ?_
      refine g_aload_n (pc := 36) (i := 0) (j := 2) C dX7_grow_36 rfl rfl ?_
      refine g_getr (pc := 37) (j := 3) C E fdX7_26 layX_0_2 dX7_grow_37 ?_
      refine g_iload_n (pc := 40) (i := 2) (j := 1) C dX7_grow_40 rfl rfl ?_
      refine g_iload_n (pc := 41) (i := 3) (j := 0) C dX7_grow_41 rfl rfl ?_
      refine g_cwv (pc := 42) (st := []) C E layX_3 lkX7_181 (As := [.int (Int64.toInt32 (μ.2 0 10)), .int r32]) rfl (fun out h => kX0_keepNumber (kl κ) ε (Int64.toInt32 (μ.2 0 10)) r32 μ out h) (by decide) rfl (Nat.le_of_ble_eq_true rfl) dX7_grow_42 hf (fun μ42 _ hf => ?_)
      refine g_aload_n (pc := 45) (i := 0) (j := 2) C dX7_grow_45 rfl rfl ?_
      refine g_getr (pc := 46) (j := 4) C E fdX7_33 layX_0_3 dX7_grow_46 ?_
      refine g_iload_n (pc := 49) (i := 2) (j := 1) C dX7_grow_49 rfl rfl ?_
      refine g_iload_n (pc := 50) (i := 1) (j := 3) C dX7_grow_50 rfl rfl ?_
      refine g_cwv (pc := 51) (st := []) C E layX_4 lkX7_184 (As := [.int (Int64.toInt32 (μ.2 0 10)), .int p1]) rfl (fun out h => kX1_setNumber (kl κ) ε (Int64.toInt32 (μ.2 0 10)) p1 μ42 out h) (by decide) rfl (Nat.le_of_ble_eq_true rfl) dX7_grow_51 hf (fun μ51 _ hf => ?_)
      refine g_iload_n (pc := 54) (i := 3) (j := 0) C dX7_grow_54 rfl rfl ?_
      exact g_iretw (pc := 55) C hQ dX7_grow_55 hf
    · refine g_bipush (pc := 18) C dX7_grow_18 cb_m3 ?_
      exact g_iretw (pc := 20) C hQ dX7_grow_20 hf
  · refine g_bipush (pc := 7) C dX7_grow_7 cb_m2 ?_
    exact g_iretw (pc := 9) C hQ dX7_grow_9 hf
theorem dX7_hand_0 : decode cX7_hand 0 = .ok (.iload_n 1, 1) := by decide +kernel
theorem dX7_hand_1 : decode cX7_hand 1 = .ok (.tableswitch 68 0 3 #[31, 37, 43, 56], 31) := by decide +kernel
theorem dX7_hand_32 : decode cX7_hand 32 = .ok (.aload_n 0, 1) := by decide +kernel
theorem dX7_hand_33 : decode cX7_hand 33 = .ok (.getfield 55, 3) := by decide +kernel
theorem dX7_hand_36 : decode cX7_hand 36 = .ok (.i2l, 1) := by decide +kernel
theorem dX7_hand_37 : decode cX7_hand 37 = .ok (.lreturn, 1) := by decide +kernel
theorem dX7_hand_38 : decode cX7_hand 38 = .ok (.aload_n 0, 1) := by decide +kernel
theorem dX7_hand_39 : decode cX7_hand 39 = .ok (.getfield 58, 3) := by decide +kernel
theorem dX7_hand_42 : decode cX7_hand 42 = .ok (.i2l, 1) := by decide +kernel
theorem dX7_hand_43 : decode cX7_hand 43 = .ok (.lreturn, 1) := by decide +kernel
theorem dX7_hand_44 : decode cX7_hand 44 = .ok (.aload_n 0, 1) := by decide +kernel
theorem dX7_hand_45 : decode cX7_hand 45 = .ok (.aload_n 0, 1) := by decide +kernel
theorem dX7_hand_46 : decode cX7_hand 46 = .ok (.getfield 58, 3) := by decide +kernel
theorem dX7_hand_49 : decode cX7_hand 49 = .ok (.aload_n 0, 1) := by decide +kernel
theorem dX7_hand_50 : decode cX7_hand 50 = .ok (.getfield 61, 3) := by decide +kernel
theorem dX7_hand_53 : decode cX7_hand 53 = .ok (.invokevirtual 152, 3) := by decide +kernel
theorem dX7_hand_56 : decode cX7_hand 56 = .ok (.lreturn, 1) := by decide +kernel
theorem dX7_hand_57 : decode cX7_hand 57 = .ok (.aload_n 0, 1) := by decide +kernel
theorem dX7_hand_58 : decode cX7_hand 58 = .ok (.getfield 58, 3) := by decide +kernel
theorem dX7_hand_61 : decode cX7_hand 61 = .ok (.aload_n 0, 1) := by decide +kernel
theorem dX7_hand_62 : decode cX7_hand 62 = .ok (.getfield 61, 3) := by decide +kernel
theorem dX7_hand_65 : decode cX7_hand 65 = .ok (.invokestatic 155, 3) := by decide +kernel
theorem dX7_hand_68 : decode cX7_hand 68 = .ok (.lreturn, 1) := by decide +kernel
theorem dX7_hand_69 : decode cX7_hand 69 = .ok (.ldc2_w 143, 3) := by decide +kernel
theorem dX7_hand_72 : decode cX7_hand 72 = .ok (.lreturn, 1) := by decide +kernel
def fX7_hand (p1 : Int32) (μ : Mm) : Option Int64 := (if p1 = 0 then some (Int32.toInt64 (μ.1 0 8)) else (if p1 = 1 then some (Int32.toInt64 (μ.1 0 9)) else (if p1 = 2 then ((fX7_shownCode (μ.1 0 9) (μ.2 0 10) μ).bind fun r53 => some r53) else (if p1 = 3 then ((fX7_markIndex (μ.1 0 9) (μ.2 0 10)).bind fun r65 => some r65) else some (-2 : Int64)))))
set_option maxRecDepth 100000 in
set_option maxHeartbeats 4000000 in
theorem kX7_hand (l : Launch) (ε : Ev) (p1 : Int32) (μ : Mm) (out : Int64) (hf : fX7_hand p1 μ = some out) : Sp l ε layX yX7_hand cX7_hand 2 (some .long) 2 [.ref (ea ε 0), .int p1] (some (.long out)) μ μ := by
  refine Sp.of [(0, .ref (ea ε 0)), (1, .int p1)] rfl (by decide +kernel) (Nat.le_of_ble_eq_true rfl) ?_
  intro κ hκ C E hQ
  subst hκ
  replace C : Cf κ cX7_hand 2 RX7 (some .long) 2 := C
  refine g_iload_n (pc := 0) (i := 1) (j := 1) C dX7_hand_0 rfl rfl ?_
  by_cases h1_0 : p1 = 0
  · replace hf := ite_t h1_0 hf
    refine g_tabIn (pc := 1) (v := 0) (off := 31) (tgt := 32) C dX7_hand_1 h1_0 (by decide) rfl ?_
    refine g_aload_n (pc := 32) (i := 0) (j := 0) C dX7_hand_32 rfl rfl ?_
    refine g_geti (pc := 33) C E fdX7_55 layX_0_8 dX7_hand_33 ?_
    refine g_i2l (pc := 36) C dX7_hand_36 ?_
    exact g_lretr (pc := 37) C hQ dX7_hand_37 hf
  replace hf := ite_f h1_0 hf
  by_cases h1_1 : p1 = 1
  · replace hf := ite_t h1_1 hf
    refine g_tabIn (pc := 1) (v := 1) (off := 37) (tgt := 38) C dX7_hand_1 h1_1 (by decide) rfl ?_
    refine g_aload_n (pc := 38) (i := 0) (j := 0) C dX7_hand_38 rfl rfl ?_
    refine g_geti (pc := 39) C E fdX7_58 layX_0_9 dX7_hand_39 ?_
    refine g_i2l (pc := 42) C dX7_hand_42 ?_
    exact g_lretr (pc := 43) C hQ dX7_hand_43 hf
  replace hf := ite_f h1_1 hf
  by_cases h1_2 : p1 = 2
  · replace hf := ite_t h1_2 hf
    refine g_tabIn (pc := 1) (v := 2) (off := 43) (tgt := 44) C dX7_hand_1 h1_2 (by decide) rfl ?_
    refine g_aload_n (pc := 44) (i := 0) (j := 0) C dX7_hand_44 rfl rfl ?_
    refine g_aload_n (pc := 45) (i := 0) (j := 0) C dX7_hand_45 rfl rfl ?_
    refine g_geti (pc := 46) C E fdX7_58 layX_0_9 dX7_hand_46 ?_
    refine g_aload_n (pc := 49) (i := 0) (j := 0) C dX7_hand_49 rfl rfl ?_
    refine g_getl (pc := 50) C E fdX7_61 layX_0_10 dX7_hand_50 ?_
    refine g_crl (pc := 53) (st := []) C E layX_0 lkX7_152 (As := [.int (μ.1 0 9), .long (μ.2 0 10)]) rfl (fun out h => kX7_shownCode (kl κ) ε (μ.1 0 9) (μ.2 0 10) μ out h) (by decide) rfl (Nat.le_of_ble_eq_true rfl) dX7_hand_53 hf (fun r53 _ hf => ?_)
    exact g_lretr (pc := 56) C hQ dX7_hand_56 hf
  replace hf := ite_f h1_2 hf
  by_cases h1_3 : p1 = 3
  · replace hf := ite_t h1_3 hf
    refine g_tabIn (pc := 1) (v := 3) (off := 56) (tgt := 57) C dX7_hand_1 h1_3 (by decide) rfl ?_
    refine g_aload_n (pc := 57) (i := 0) (j := 0) C dX7_hand_57 rfl rfl ?_
    refine g_geti (pc := 58) C E fdX7_58 layX_0_9 dX7_hand_58 ?_
    refine g_aload_n (pc := 61) (i := 0) (j := 0) C dX7_hand_61 rfl rfl ?_
    refine g_getl (pc := 62) C E fdX7_61 layX_0_10 dX7_hand_62 ?_
    refine g_cpl (pc := 65) (st := []) C lkX7_155 (As := [.int (μ.1 0 9), .long (μ.2 0 10)]) rfl (fun out h => kX7_markIndex (kl κ) (μ.1 0 9) (μ.2 0 10) out h) (by decide) rfl (Nat.le_of_ble_eq_true rfl) dX7_hand_65 hf (fun r65 _ hf => ?_)
    exact g_lretr (pc := 68) C hQ dX7_hand_68 hf
  replace hf := ite_f h1_3 hf
  have e1_0 := i32_ne (n := 0) h1_0 (by decide)
  have e1_1 := i32_ne (n := 1) h1_1 (by decide)
  have e1_2 := i32_ne (n := 2) h1_2 (by decide)
  have e1_3 := i32_ne (n := 3) h1_3 (by decide)
  refine g_tabOut (pc := 1) (tgt := 69) C dX7_hand_1 (by omega) rfl ?_
  refine g_ldc2 (pc := 69) C cnX7_143 dX7_hand_69 ?_
  exact g_lretr (pc := 72) C hQ dX7_hand_72 hf
theorem dX7_join_0 : decode cX7_join 0 = .ok (.iload_n 1, 1) := by decide +kernel
theorem dX7_join_1 : decode cX7_join 1 = .ok (.invokestatic 76, 3) := by decide +kernel
theorem dX7_join_4 : decode cX7_join 4 = .ok (.ifCond .eq 17, 3) := by decide +kernel
theorem dX7_join_7 : decode cX7_join 7 = .ok (.iload_n 2, 1) := by decide +kernel
theorem dX7_join_8 : decode cX7_join 8 = .ok (.invokestatic 76, 3) := by decide +kernel
theorem dX7_join_11 : decode cX7_join 11 = .ok (.ifCond .eq 10, 3) := by decide +kernel
theorem dX7_join_14 : decode cX7_join 14 = .ok (.iload_n 3, 1) := by decide +kernel
theorem dX7_join_15 : decode cX7_join 15 = .ok (.invokestatic 76, 3) := by decide +kernel
theorem dX7_join_18 : decode cX7_join 18 = .ok (.ifCond .ne 5, 3) := by decide +kernel
theorem dX7_join_21 : decode cX7_join 21 = .ok (.iconst (-1), 1) := by decide +kernel
theorem dX7_join_22 : decode cX7_join 22 = .ok (.ireturn, 1) := by decide +kernel
theorem dX7_join_23 : decode cX7_join 23 = .ok (.aload_n 0, 1) := by decide +kernel
theorem dX7_join_24 : decode cX7_join 24 = .ok (.iload_n 1, 1) := by decide +kernel
theorem dX7_join_25 : decode cX7_join 25 = .ok (.invokevirtual 129, 3) := by decide +kernel
theorem dX7_join_28 : decode cX7_join 28 = .ok (.ifCond .eq 11, 3) := by decide +kernel
theorem dX7_join_31 : decode cX7_join 31 = .ok (.aload_n 0, 1) := by decide +kernel
theorem dX7_join_32 : decode cX7_join 32 = .ok (.iload_n 2, 1) := by decide +kernel
theorem dX7_join_33 : decode cX7_join 33 = .ok (.invokevirtual 129, 3) := by decide +kernel
theorem dX7_join_36 : decode cX7_join 36 = .ok (.ifCond .ne 6, 3) := by decide +kernel
theorem dX7_join_39 : decode cX7_join 39 = .ok (.bipush (-3), 2) := by decide +kernel
theorem dX7_join_41 : decode cX7_join 41 = .ok (.ireturn, 1) := by decide +kernel
theorem dX7_join_42 : decode cX7_join 42 = .ok (.aload_n 0, 1) := by decide +kernel
theorem dX7_join_43 : decode cX7_join 43 = .ok (.getfield 44, 3) := by decide +kernel
theorem dX7_join_46 : decode cX7_join 46 = .ok (.iload_n 1, 1) := by decide +kernel
theorem dX7_join_47 : decode cX7_join 47 = .ok (.iaload, 1) := by decide +kernel
theorem dX7_join_48 : decode cX7_join 48 = .ok (.istore 4, 2) := by decide +kernel
theorem dX7_join_50 : decode cX7_join 50 = .ok (.aload_n 0, 1) := by decide +kernel
theorem dX7_join_51 : decode cX7_join 51 = .ok (.getfield 44, 3) := by decide +kernel
theorem dX7_join_54 : decode cX7_join 54 = .ok (.iload_n 2, 1) := by decide +kernel
theorem dX7_join_55 : decode cX7_join 55 = .ok (.iaload, 1) := by decide +kernel
theorem dX7_join_56 : decode cX7_join 56 = .ok (.istore 5, 2) := by decide +kernel
theorem dX7_join_58 : decode cX7_join 58 = .ok (.aload_n 0, 1) := by decide +kernel
theorem dX7_join_59 : decode cX7_join 59 = .ok (.getfield 19, 3) := by decide +kernel
theorem dX7_join_62 : decode cX7_join 62 = .ok (.getfield 132, 3) := by decide +kernel
theorem dX7_join_65 : decode cX7_join 65 = .ok (.iload 4, 2) := by decide +kernel
theorem dX7_join_67 : decode cX7_join 67 = .ok (.iaload, 1) := by decide +kernel
theorem dX7_join_68 : decode cX7_join 68 = .ok (.aload_n 0, 1) := by decide +kernel
theorem dX7_join_69 : decode cX7_join 69 = .ok (.getfield 19, 3) := by decide +kernel
theorem dX7_join_72 : decode cX7_join 72 = .ok (.getfield 132, 3) := by decide +kernel
theorem dX7_join_75 : decode cX7_join 75 = .ok (.iload 5, 2) := by decide +kernel
theorem dX7_join_77 : decode cX7_join 77 = .ok (.iaload, 1) := by decide +kernel
theorem dX7_join_78 : decode cX7_join 78 = .ok (.iadd, 1) := by decide +kernel
theorem dX7_join_79 : decode cX7_join 79 = .ok (.istore 6, 2) := by decide +kernel
theorem dX7_join_81 : decode cX7_join 81 = .ok (.iload 6, 2) := by decide +kernel
theorem dX7_join_83 : decode cX7_join 83 = .ok (.bipush 6, 2) := by decide +kernel
theorem dX7_join_85 : decode cX7_join 85 = .ok (.if_icmp .le 6, 3) := by decide +kernel
theorem dX7_join_88 : decode cX7_join 88 = .ok (.bipush (-4), 2) := by decide +kernel
theorem dX7_join_90 : decode cX7_join 90 = .ok (.ireturn, 1) := by decide +kernel
theorem dX7_join_91 : decode cX7_join 91 = .ok (.aload_n 0, 1) := by decide +kernel
theorem dX7_join_92 : decode cX7_join 92 = .ok (.iload_n 1, 1) := by decide +kernel
theorem dX7_join_93 : decode cX7_join 93 = .ok (.invokevirtual 125, 3) := by decide +kernel
theorem dX7_join_96 : decode cX7_join 96 = .ok (.aload_n 0, 1) := by decide +kernel
theorem dX7_join_97 : decode cX7_join 97 = .ok (.iload_n 2, 1) := by decide +kernel
theorem dX7_join_98 : decode cX7_join 98 = .ok (.invokevirtual 125, 3) := by decide +kernel
theorem dX7_join_101 : decode cX7_join 101 = .ok (.invokestatic 254, 3) := by decide +kernel
theorem dX7_join_104 : decode cX7_join 104 = .ok (.istore 7, 2) := by decide +kernel
theorem dX7_join_106 : decode cX7_join 106 = .ok (.aload_n 0, 1) := by decide +kernel
theorem dX7_join_107 : decode cX7_join 107 = .ok (.iload 7, 2) := by decide +kernel
theorem dX7_join_109 : decode cX7_join 109 = .ok (.iload 6, 2) := by decide +kernel
theorem dX7_join_111 : decode cX7_join 111 = .ok (.invokevirtual 85, 3) := by decide +kernel
theorem dX7_join_114 : decode cX7_join 114 = .ok (.istore 8, 2) := by decide +kernel
theorem dX7_join_116 : decode cX7_join 116 = .ok (.aload_n 0, 1) := by decide +kernel
theorem dX7_join_117 : decode cX7_join 117 = .ok (.getfield 19, 3) := by decide +kernel
theorem dX7_join_120 : decode cX7_join 120 = .ok (.iload 4, 2) := by decide +kernel
theorem dX7_join_122 : decode cX7_join 122 = .ok (.iconst 0, 1) := by decide +kernel
theorem dX7_join_123 : decode cX7_join 123 = .ok (.aload_n 0, 1) := by decide +kernel
theorem dX7_join_124 : decode cX7_join 124 = .ok (.getfield 19, 3) := by decide +kernel
theorem dX7_join_127 : decode cX7_join 127 = .ok (.getfield 132, 3) := by decide +kernel
theorem dX7_join_130 : decode cX7_join 130 = .ok (.iload 4, 2) := by decide +kernel
theorem dX7_join_132 : decode cX7_join 132 = .ok (.iaload, 1) := by decide +kernel
theorem dX7_join_133 : decode cX7_join 133 = .ok (.iload 8, 2) := by decide +kernel
theorem dX7_join_135 : decode cX7_join 135 = .ok (.iconst 0, 1) := by decide +kernel
theorem dX7_join_136 : decode cX7_join 136 = .ok (.invokevirtual 257, 3) := by decide +kernel
theorem dX7_join_139 : decode cX7_join 139 = .ok (.aload_n 0, 1) := by decide +kernel
theorem dX7_join_140 : decode cX7_join 140 = .ok (.getfield 19, 3) := by decide +kernel
theorem dX7_join_143 : decode cX7_join 143 = .ok (.iload 5, 2) := by decide +kernel
theorem dX7_join_145 : decode cX7_join 145 = .ok (.iconst 0, 1) := by decide +kernel
theorem dX7_join_146 : decode cX7_join 146 = .ok (.aload_n 0, 1) := by decide +kernel
theorem dX7_join_147 : decode cX7_join 147 = .ok (.getfield 19, 3) := by decide +kernel
theorem dX7_join_150 : decode cX7_join 150 = .ok (.getfield 132, 3) := by decide +kernel
theorem dX7_join_153 : decode cX7_join 153 = .ok (.iload 5, 2) := by decide +kernel
theorem dX7_join_155 : decode cX7_join 155 = .ok (.iaload, 1) := by decide +kernel
theorem dX7_join_156 : decode cX7_join 156 = .ok (.iload 8, 2) := by decide +kernel
theorem dX7_join_158 : decode cX7_join 158 = .ok (.aload_n 0, 1) := by decide +kernel
theorem dX7_join_159 : decode cX7_join 159 = .ok (.getfield 19, 3) := by decide +kernel
theorem dX7_join_162 : decode cX7_join 162 = .ok (.getfield 132, 3) := by decide +kernel
theorem dX7_join_165 : decode cX7_join 165 = .ok (.iload 4, 2) := by decide +kernel
theorem dX7_join_167 : decode cX7_join 167 = .ok (.iaload, 1) := by decide +kernel
theorem dX7_join_168 : decode cX7_join 168 = .ok (.invokevirtual 257, 3) := by decide +kernel
theorem dX7_join_171 : decode cX7_join 171 = .ok (.aload_n 0, 1) := by decide +kernel
theorem dX7_join_172 : decode cX7_join 172 = .ok (.iload_n 3, 1) := by decide +kernel
theorem dX7_join_173 : decode cX7_join 173 = .ok (.iload 8, 2) := by decide +kernel
theorem dX7_join_175 : decode cX7_join 175 = .ok (.invokevirtual 106, 3) := by decide +kernel
theorem dX7_join_178 : decode cX7_join 178 = .ok (.iload 7, 2) := by decide +kernel
theorem dX7_join_180 : decode cX7_join 180 = .ok (.ireturn, 1) := by decide +kernel
def fX7_join (p1 : Int32) (p2 : Int32) (p3 : Int32) (μ : Mm) : Option (Int32 × Mm) := ((fX7_isSlot p1).bind fun r1 => (if r1 = 0 then some ((-1 : Int32), μ) else ((fX7_isSlot p2).bind fun r8 => (if r8 = 0 then some ((-1 : Int32), μ) else ((fX7_isSlot p3).bind fun r15 => (if r15 = 0 then some ((-1 : Int32), μ) else ((fX7_holdsArray p1 μ).bind fun r25 => (if r25 = 0 then some ((-3 : Int32), μ) else ((fX7_holdsArray p2 μ).bind fun r33 => (if r33 = 0 then some ((-3 : Int32), μ) else (if inb p1 10 = true then (if inb p2 10 = true then (if inb (μ.1 6 (Int32.toNatClampNeg p1)) 26 = true then (if inb (μ.1 6 (Int32.toNatClampNeg p2)) 26 = true then (if ((μ.1 12 (Int32.toNatClampNeg (μ.1 6 (Int32.toNatClampNeg p1)))) + (μ.1 12 (Int32.toNatClampNeg (μ.1 6 (Int32.toNatClampNeg p2))))) ≤ (6 : Int32) then ((fX7_thingIn p1 μ).bind fun r93 => ((fX7_thingIn p2 μ).bind fun r98 => ((fX4_joinedType r93 r98).bind fun r101 => (bnd (fX7_newRow r101 ((μ.1 12 (Int32.toNatClampNeg (μ.1 6 (Int32.toNatClampNeg p1)))) + (μ.1 12 (Int32.toNatClampNeg (μ.1 6 (Int32.toNatClampNeg p2))))) μ) fun r111 μ111 => (if inb (μ.1 6 (Int32.toNatClampNeg p1)) 26 = true then ((fX5_putAll (μ.1 6 (Int32.toNatClampNeg p1)) (0 : Int32) (μ111.1 12 (Int32.toNatClampNeg (μ.1 6 (Int32.toNatClampNeg p1)))) r111 (0 : Int32) μ111).bind fun μ136 => (if inb (μ.1 6 (Int32.toNatClampNeg p2)) 26 = true then (if inb (μ.1 6 (Int32.toNatClampNeg p1)) 26 = true then ((fX5_putAll (μ.1 6 (Int32.toNatClampNeg p2)) (0 : Int32) (μ136.1 12 (Int32.toNatClampNeg (μ.1 6 (Int32.toNatClampNeg p2)))) r111 (μ136.1 12 (Int32.toNatClampNeg (μ.1 6 (Int32.toNatClampNeg p1)))) μ136).bind fun μ168 => ((fX7_replace p3 r111 μ168).bind fun μ175 => some (r101, μ175))) else none) else none)) else none))))) else some ((-4 : Int32), μ)) else none) else none) else none) else none)))))))))))
set_option maxRecDepth 100000 in
set_option maxHeartbeats 4000000 in
theorem kX7_join (l : Launch) (ε : Ev) (p1 : Int32) (p2 : Int32) (p3 : Int32) (μ : Mm) (out : (Int32 × Mm)) (hf : fX7_join p1 p2 p3 μ = some out) : Sp l ε layX yX7_join cX7_join 9 (some .int) 7 [.ref (ea ε 0), .int p1, .int p2, .int p3] (some (.int out.1)) μ out.2 := by
  refine Sp.of [(0, .ref (ea ε 0)), (1, .int p1), (2, .int p2), (3, .int p3)] rfl (by decide +kernel) (Nat.le_of_ble_eq_true rfl) ?_
  intro κ hκ C E hQ
  subst hκ
  replace C : Cf κ cX7_join 9 RX7 (some .int) 7 := C
  refine g_iload_n (pc := 0) (i := 1) (j := 1) C dX7_join_0 rfl rfl ?_
  refine g_cpi (pc := 1) (st := []) C lkX7_76 (As := [.int p1]) rfl (fun out h => kX7_isSlot (kl κ) p1 out h) (by decide) rfl (Nat.le_of_ble_eq_true rfl) dX7_join_1 hf (fun r1 _ hf => ?_)
  refine g_if_eq (pc := 4) (tgt := 21) C dX7_join_4 rfl hf (fun _ hf => ?_) (fun _ hf => ?_)
  · refine g_iconst (pc := 21) C dX7_join_21 ci_m1 ?_
    exact g_iretw (pc := 22) C hQ dX7_join_22 hf
  · refine g_iload_n (pc := 7) (i := 2) (j := 2) C dX7_join_7 rfl rfl ?_
    refine g_cpi (pc := 8) (st := []) C lkX7_76 (As := [.int p2]) rfl (fun out h => kX7_isSlot (kl κ) p2 out h) (by decide) rfl (Nat.le_of_ble_eq_true rfl) dX7_join_8 hf (fun r8 _ hf => ?_)
    refine g_if_eq (pc := 11) (tgt := 21) C dX7_join_11 rfl hf (fun _ hf => ?_) (fun _ hf => ?_)
    · refine g_iconst (pc := 21) C dX7_join_21 ci_m1 ?_
      exact g_iretw (pc := 22) C hQ dX7_join_22 hf
    · refine g_iload_n (pc := 14) (i := 3) (j := 3) C dX7_join_14 rfl rfl ?_
      refine g_cpi (pc := 15) (st := []) C lkX7_76 (As := [.int p3]) rfl (fun out h => kX7_isSlot (kl κ) p3 out h) (by decide) rfl (Nat.le_of_ble_eq_true rfl) dX7_join_15 hf (fun r15 _ hf => ?_)
      refine g_if_ne (pc := 18) (tgt := 23) C dX7_join_18 rfl hf (fun _ hf => ?_) (fun _ hf => ?_)
      · refine g_aload_n (pc := 23) (i := 0) (j := 0) C dX7_join_23 rfl rfl ?_
        refine g_iload_n (pc := 24) (i := 1) (j := 1) C dX7_join_24 rfl rfl ?_
        refine g_cri (pc := 25) (st := []) C E layX_0 lkX7_129 (As := [.int p1]) rfl (fun out h => kX7_holdsArray (kl κ) ε p1 μ out h) (by decide) rfl (Nat.le_of_ble_eq_true rfl) dX7_join_25 hf (fun r25 _ hf => ?_)
        refine g_if_eq (pc := 28) (tgt := 39) C dX7_join_28 rfl hf (fun _ hf => ?_) (fun _ hf => ?_)
        · refine g_bipush (pc := 39) C dX7_join_39 cb_m3 ?_
          exact g_iretw (pc := 41) C hQ dX7_join_41 hf
        · refine g_aload_n (pc := 31) (i := 0) (j := 0) C dX7_join_31 rfl rfl ?_
          refine g_iload_n (pc := 32) (i := 2) (j := 2) C dX7_join_32 rfl rfl ?_
          refine g_cri (pc := 33) (st := []) C E layX_0 lkX7_129 (As := [.int p2]) rfl (fun out h => kX7_holdsArray (kl κ) ε p2 μ out h) (by decide) rfl (Nat.le_of_ble_eq_true rfl) dX7_join_33 hf (fun r33 _ hf => ?_)
          refine g_if_ne (pc := 36) (tgt := 42) C dX7_join_36 rfl hf (fun _ hf => ?_) (fun _ hf => ?_)
          · refine g_aload_n (pc := 42) (i := 0) (j := 0) C dX7_join_42 rfl rfl ?_
            refine g_getr (pc := 43) (j := 6) C E fdX7_44 layX_0_5 dX7_join_43 ?_
            refine g_iload_n (pc := 46) (i := 1) (j := 1) C dX7_join_46 rfl rfl ?_
            refine g_iald (pc := 47) C E layX_6 dX7_join_47 hf (fun hf => ?_)
            refine g_istore (pc := 48) (i := 4) (L' := [(4, .int (μ.1 6 (Int32.toNatClampNeg p1))), (0, .ref (ea ε 0)), (1, .int p1), (2, .int p2), (3, .int p3)]) C dX7_join_48 (by decide) rfl ?_
            refine g_aload_n (pc := 50) (i := 0) (j := 1) C dX7_join_50 rfl rfl ?_
            refine g_getr (pc := 51) (j := 6) C E fdX7_44 layX_0_5 dX7_join_51 ?_
            refine g_iload_n (pc := 54) (i := 2) (j := 3) C dX7_join_54 rfl rfl ?_
            refine g_iald (pc := 55) C E layX_6 dX7_join_55 hf (fun hf => ?_)
            refine g_istore (pc := 56) (i := 5) (L' := [(5, .int (μ.1 6 (Int32.toNatClampNeg p2))), (4, .int (μ.1 6 (Int32.toNatClampNeg p1))), (0, .ref (ea ε 0)), (1, .int p1), (2, .int p2), (3, .int p3)]) C dX7_join_56 (by decide) rfl ?_
            refine g_aload_n (pc := 58) (i := 0) (j := 2) C dX7_join_58 rfl rfl ?_
            refine g_getr (pc := 59) (j := 2) C E fdX7_19 layX_0_1 dX7_join_59 ?_
            refine g_getr (pc := 62) (j := 12) C E fdX7_132 layX_2_1 dX7_join_62 ?_
            refine g_iload (pc := 65) (i := 4) (j := 1) C dX7_join_65 rfl ?_
            refine g_iald (pc := 67) C E layX_12 dX7_join_67 hf (fun hf => ?_)
            refine g_aload_n (pc := 68) (i := 0) (j := 2) C dX7_join_68 rfl rfl ?_
            refine g_getr (pc := 69) (j := 2) C E fdX7_19 layX_0_1 dX7_join_69 ?_
            refine g_getr (pc := 72) (j := 12) C E fdX7_132 layX_2_1 dX7_join_72 ?_
            refine g_iload (pc := 75) (i := 5) (j := 0) C dX7_join_75 rfl ?_
            refine g_iald (pc := 77) C E layX_12 dX7_join_77 hf (fun hf => ?_)
            refine g_iadd (pc := 78) C dX7_join_78 ?_
            refine g_istore (pc := 79) (i := 6) (L' := [(6, .int ((μ.1 12 (Int32.toNatClampNeg (μ.1 6 (Int32.toNatClampNeg p1)))) + (μ.1 12 (Int32.toNatClampNeg (μ.1 6 (Int32.toNatClampNeg p2)))))), (5, .int (μ.1 6 (Int32.toNatClampNeg p2))), (4, .int (μ.1 6 (Int32.toNatClampNeg p1))), (0, .ref (ea ε 0)), (1, .int p1), (2, .int p2), (3, .int p3)]) C dX7_join_79 (by decide) rfl ?_
            refine g_iload (pc := 81) (i := 6) (j := 0) C dX7_join_81 rfl ?_
            refine g_bipush (pc := 83) C dX7_join_83 cb_6 ?_
            refine g_icmp_le (pc := 85) (tgt := 91) C dX7_join_85 rfl hf (fun _ hf => ?_) (fun _ hf => ?_)
            · refine g_aload_n (pc := 91) (i := 0) (j := 3) C dX7_join_91 rfl rfl ?_
              refine g_iload_n (pc := 92) (i := 1) (j := 4) C dX7_join_92 rfl rfl ?_
              refine g_cri (pc := 93) (st := []) C E layX_0 lkX7_125 (As := [.int p1]) rfl (fun out h => kX7_thingIn (kl κ) ε p1 μ out h) (by decide) rfl (Nat.le_of_ble_eq_true rfl) dX7_join_93 hf (fun r93 _ hf => ?_)
              refine g_aload_n (pc := 96) (i := 0) (j := 3) C dX7_join_96 rfl rfl ?_
              refine g_iload_n (pc := 97) (i := 2) (j := 5) C dX7_join_97 rfl rfl ?_
              refine g_cri (pc := 98) (st := [.int r93]) C E layX_0 lkX7_125 (As := [.int p2]) rfl (fun out h => kX7_thingIn (kl κ) ε p2 μ out h) (by decide) rfl (Nat.le_of_ble_eq_true rfl) dX7_join_98 hf (fun r98 _ hf => ?_)
              refine g_cpi (pc := 101) (st := []) C lkX7_254 (As := [.int r93, .int r98]) rfl (fun out h => kX4_joinedType (kl κ) r93 r98 out h) (by decide) rfl (Nat.le_of_ble_eq_true rfl) dX7_join_101 hf (fun r101 _ hf => ?_)
              refine g_istore (pc := 104) (i := 7) (L' := [(7, .int r101), (6, .int ((μ.1 12 (Int32.toNatClampNeg (μ.1 6 (Int32.toNatClampNeg p1)))) + (μ.1 12 (Int32.toNatClampNeg (μ.1 6 (Int32.toNatClampNeg p2)))))), (5, .int (μ.1 6 (Int32.toNatClampNeg p2))), (4, .int (μ.1 6 (Int32.toNatClampNeg p1))), (0, .ref (ea ε 0)), (1, .int p1), (2, .int p2), (3, .int p3)]) C dX7_join_104 (by decide) rfl ?_
              refine g_aload_n (pc := 106) (i := 0) (j := 4) C dX7_join_106 rfl rfl ?_
              refine g_iload (pc := 107) (i := 7) (j := 0) C dX7_join_107 rfl ?_
              refine g_iload (pc := 109) (i := 6) (j := 1) C dX7_join_109 rfl ?_
              refine g_cwi (pc := 111) (st := []) C E layX_0 lkX7_85 (As := [.int r101, .int ((μ.1 12 (Int32.toNatClampNeg (μ.1 6 (Int32.toNatClampNeg p1)))) + (μ.1 12 (Int32.toNatClampNeg (μ.1 6 (Int32.toNatClampNeg p2)))))]) rfl (fun out h => kX7_newRow (kl κ) ε r101 ((μ.1 12 (Int32.toNatClampNeg (μ.1 6 (Int32.toNatClampNeg p1)))) + (μ.1 12 (Int32.toNatClampNeg (μ.1 6 (Int32.toNatClampNeg p2))))) μ out h) (by decide) rfl (Nat.le_of_ble_eq_true rfl) dX7_join_111 hf (fun r111 μ111 _ hf => ?_)
              refine g_istore (pc := 114) (i := 8) (L' := [(8, .int r111), (7, .int r101), (6, .int ((μ.1 12 (Int32.toNatClampNeg (μ.1 6 (Int32.toNatClampNeg p1)))) + (μ.1 12 (Int32.toNatClampNeg (μ.1 6 (Int32.toNatClampNeg p2)))))), (5, .int (μ.1 6 (Int32.toNatClampNeg p2))), (4, .int (μ.1 6 (Int32.toNatClampNeg p1))), (0, .ref (ea ε 0)), (1, .int p1), (2, .int p2), (3, .int p3)]) C dX7_join_114 (by decide) rfl ?_
              refine g_aload_n (pc := 116) (i := 0) (j := 5) C dX7_join_116 rfl rfl ?_
              refine g_getr (pc := 117) (j := 2) C E fdX7_19 layX_0_1 dX7_join_117 ?_
              refine g_iload (pc := 120) (i := 4) (j := 4) C dX7_join_120 rfl ?_
              refine g_iconst (pc := 122) C dX7_join_122 ci_0 ?_
              refine g_aload_n (pc := 123) (i := 0) (j := 5) C dX7_join_123 rfl rfl ?_
              refine g_getr (pc := 124) (j := 2) C E fdX7_19 layX_0_1 dX7_join_124 ?_
              refine g_getr (pc := 127) (j := 12) C E fdX7_132 layX_2_1 dX7_join_127 ?_
              refine g_iload (pc := 130) (i := 4) (j := 4) C dX7_join_130 rfl ?_
              refine g_iald (pc := 132) C E layX_12 dX7_join_132 hf (fun hf => ?_)
              refine g_iload (pc := 133) (i := 8) (j := 0) C dX7_join_133 rfl ?_
              refine g_iconst (pc := 135) C dX7_join_135 ci_0 ?_
              refine g_cwv (pc := 136) (st := []) C E layX_2 lkX7_257 (As := [.int (μ.1 6 (Int32.toNatClampNeg p1)), .int (0 : Int32), .int (μ111.1 12 (Int32.toNatClampNeg (μ.1 6 (Int32.toNatClampNeg p1)))), .int r111, .int (0 : Int32)]) rfl (fun out h => kX5_putAll (kl κ) ε (μ.1 6 (Int32.toNatClampNeg p1)) (0 : Int32) (μ111.1 12 (Int32.toNatClampNeg (μ.1 6 (Int32.toNatClampNeg p1)))) r111 (0 : Int32) μ111 out h) (by decide) rfl (Nat.le_of_ble_eq_true rfl) dX7_join_136 hf (fun μ136 _ hf => ?_)
              refine g_aload_n (pc := 139) (i := 0) (j := 5) C dX7_join_139 rfl rfl ?_
              refine g_getr (pc := 140) (j := 2) C E fdX7_19 layX_0_1 dX7_join_140 ?_
              refine g_iload (pc := 143) (i := 5) (j := 3) C dX7_join_143 rfl ?_
              refine g_iconst (pc := 145) C dX7_join_145 ci_0 ?_
              refine g_aload_n (pc := 146) (i := 0) (j := 5) C dX7_join_146 rfl rfl ?_
              refine g_getr (pc := 147) (j := 2) C E fdX7_19 layX_0_1 dX7_join_147 ?_
              refine g_getr (pc := 150) (j := 12) C E fdX7_132 layX_2_1 dX7_join_150 ?_
              refine g_iload (pc := 153) (i := 5) (j := 3) C dX7_join_153 rfl ?_
              refine g_iald (pc := 155) C E layX_12 dX7_join_155 hf (fun hf => ?_)
              refine g_iload (pc := 156) (i := 8) (j := 0) C dX7_join_156 rfl ?_
              refine g_aload_n (pc := 158) (i := 0) (j := 5) C dX7_join_158 rfl rfl ?_
              refine g_getr (pc := 159) (j := 2) C E fdX7_19 layX_0_1 dX7_join_159 ?_
              refine g_getr (pc := 162) (j := 12) C E fdX7_132 layX_2_1 dX7_join_162 ?_
              refine g_iload (pc := 165) (i := 4) (j := 4) C dX7_join_165 rfl ?_
              refine g_iald (pc := 167) C E layX_12 dX7_join_167 hf (fun hf => ?_)
              refine g_cwv (pc := 168) (st := []) C E layX_2 lkX7_257 (As := [.int (μ.1 6 (Int32.toNatClampNeg p2)), .int (0 : Int32), .int (μ136.1 12 (Int32.toNatClampNeg (μ.1 6 (Int32.toNatClampNeg p2)))), .int r111, .int (μ136.1 12 (Int32.toNatClampNeg (μ.1 6 (Int32.toNatClampNeg p1))))]) rfl (fun out h => kX5_putAll (kl κ) ε (μ.1 6 (Int32.toNatClampNeg p2)) (0 : Int32) (μ136.1 12 (Int32.toNatClampNeg (μ.1 6 (Int32.toNatClampNeg p2)))) r111 (μ136.1 12 (Int32.toNatClampNeg (μ.1 6 (Int32.toNatClampNeg p1)))) μ136 out h) (by decide) rfl (Nat.le_of_ble_eq_true rfl) dX7_join_168 hf (fun μ168 _ hf => ?_)
              refine g_aload_n (pc := 171) (i := 0) (j := 5) C dX7_join_171 rfl rfl ?_
              refine g_iload_n (pc := 172) (i := 3) (j := 8) C dX7_join_172 rfl rfl ?_
              refine g_iload (pc := 173) (i := 8) (j := 0) C dX7_join_173 rfl ?_
              refine g_cwv (pc := 175) (st := []) C E layX_0 lkX7_106 (As := [.int p3, .int r111]) rfl (fun out h => kX7_replace (kl κ) ε p3 r111 μ168 out h) (by decide) rfl (Nat.le_of_ble_eq_true rfl) dX7_join_175 hf (fun μ175 _ hf => ?_)
              refine g_iload (pc := 178) (i := 7) (j := 1) C dX7_join_178 rfl ?_
              exact g_iretw (pc := 180) C hQ dX7_join_180 hf
            · refine g_bipush (pc := 88) C dX7_join_88 cb_m4 ?_
              exact g_iretw (pc := 90) C hQ dX7_join_90 hf
          · refine g_bipush (pc := 39) C dX7_join_39 cb_m3 ?_
            exact g_iretw (pc := 41) C hQ dX7_join_41 hf
      · refine g_iconst (pc := 21) C dX7_join_21 ci_m1 ?_
        exact g_iretw (pc := 22) C hQ dX7_join_22 hf
theorem dX7_lay_0 : decode cX7_lay 0 = .ok (.iload_n 1, 1) := by decide +kernel
theorem dX7_lay_1 : decode cX7_lay 1 = .ok (.invokestatic 76, 3) := by decide +kernel
theorem dX7_lay_4 : decode cX7_lay 4 = .ok (.ifCond .ne 5, 3) := by decide +kernel
theorem dX7_lay_7 : decode cX7_lay 7 = .ok (.iconst (-1), 1) := by decide +kernel
theorem dX7_lay_8 : decode cX7_lay 8 = .ok (.ireturn, 1) := by decide +kernel
theorem dX7_lay_9 : decode cX7_lay 9 = .ok (.aload_n 0, 1) := by decide +kernel
theorem dX7_lay_10 : decode cX7_lay 10 = .ok (.getfield 44, 3) := by decide +kernel
theorem dX7_lay_13 : decode cX7_lay 13 = .ok (.iload_n 1, 1) := by decide +kernel
theorem dX7_lay_14 : decode cX7_lay 14 = .ok (.iaload, 1) := by decide +kernel
theorem dX7_lay_15 : decode cX7_lay 15 = .ok (.istore_n 3, 1) := by decide +kernel
theorem dX7_lay_16 : decode cX7_lay 16 = .ok (.aload_n 0, 1) := by decide +kernel
theorem dX7_lay_17 : decode cX7_lay 17 = .ok (.iload_n 1, 1) := by decide +kernel
theorem dX7_lay_18 : decode cX7_lay 18 = .ok (.invokevirtual 125, 3) := by decide +kernel
theorem dX7_lay_21 : decode cX7_lay 21 = .ok (.aload_n 0, 1) := by decide +kernel
theorem dX7_lay_22 : decode cX7_lay 22 = .ok (.getfield 55, 3) := by decide +kernel
theorem dX7_lay_25 : decode cX7_lay 25 = .ok (.aload_n 0, 1) := by decide +kernel
theorem dX7_lay_26 : decode cX7_lay 26 = .ok (.getfield 58, 3) := by decide +kernel
theorem dX7_lay_29 : decode cX7_lay 29 = .ok (.invokestatic 206, 3) := by decide +kernel
theorem dX7_lay_32 : decode cX7_lay 32 = .ok (.istore 4, 2) := by decide +kernel
theorem dX7_lay_34 : decode cX7_lay 34 = .ok (.iload 4, 2) := by decide +kernel
theorem dX7_lay_36 : decode cX7_lay 36 = .ok (.aload_n 0, 1) := by decide +kernel
theorem dX7_lay_37 : decode cX7_lay 37 = .ok (.getfield 19, 3) := by decide +kernel
theorem dX7_lay_40 : decode cX7_lay 40 = .ok (.iload_n 3, 1) := by decide +kernel
theorem dX7_lay_41 : decode cX7_lay 41 = .ok (.iload_n 2, 1) := by decide +kernel
theorem dX7_lay_42 : decode cX7_lay 42 = .ok (.invokevirtual 139, 3) := by decide +kernel
theorem dX7_lay_45 : decode cX7_lay 45 = .ok (.invokestatic 192, 3) := by decide +kernel
theorem dX7_lay_48 : decode cX7_lay 48 = .ok (.istore 5, 2) := by decide +kernel
theorem dX7_lay_50 : decode cX7_lay 50 = .ok (.iload 5, 2) := by decide +kernel
theorem dX7_lay_52 : decode cX7_lay 52 = .ok (.ifCond .ne 32, 3) := by decide +kernel
theorem dX7_lay_55 : decode cX7_lay 55 = .ok (.aload_n 0, 1) := by decide +kernel
theorem dX7_lay_56 : decode cX7_lay 56 = .ok (.getfield 26, 3) := by decide +kernel
theorem dX7_lay_59 : decode cX7_lay 59 = .ok (.iload_n 3, 1) := by decide +kernel
theorem dX7_lay_60 : decode cX7_lay 60 = .ok (.aload_n 0, 1) := by decide +kernel
theorem dX7_lay_61 : decode cX7_lay 61 = .ok (.getfield 19, 3) := by decide +kernel
theorem dX7_lay_64 : decode cX7_lay 64 = .ok (.invokevirtual 210, 3) := by decide +kernel
theorem dX7_lay_67 : decode cX7_lay 67 = .ok (.aload_n 0, 1) := by decide +kernel
theorem dX7_lay_68 : decode cX7_lay 68 = .ok (.getfield 19, 3) := by decide +kernel
theorem dX7_lay_71 : decode cX7_lay 71 = .ok (.iload_n 3, 1) := by decide +kernel
theorem dX7_lay_72 : decode cX7_lay 72 = .ok (.iload_n 2, 1) := by decide +kernel
theorem dX7_lay_73 : decode cX7_lay 73 = .ok (.aload_n 0, 1) := by decide +kernel
theorem dX7_lay_74 : decode cX7_lay 74 = .ok (.getfield 58, 3) := by decide +kernel
theorem dX7_lay_77 : decode cX7_lay 77 = .ok (.aload_n 0, 1) := by decide +kernel
theorem dX7_lay_78 : decode cX7_lay 78 = .ok (.getfield 61, 3) := by decide +kernel
theorem dX7_lay_81 : decode cX7_lay 81 = .ok (.invokevirtual 214, 3) := by decide +kernel
theorem dX7_lay_84 : decode cX7_lay 84 = .ok (.iload 5, 2) := by decide +kernel
theorem dX7_lay_86 : decode cX7_lay 86 = .ok (.ireturn, 1) := by decide +kernel
def fX7_lay (p1 : Int32) (p2 : Int32) (μ : Mm) : Option (Int32 × Mm) := ((fX7_isSlot p1).bind fun r1 => (if r1 = 0 then some ((-1 : Int32), μ) else (if inb p1 10 = true then ((fX7_thingIn p1 μ).bind fun r18 => ((fX4_putFit r18 (μ.1 0 8) (μ.1 0 9)).bind fun r29 => ((fX5_has (μ.1 6 (Int32.toNatClampNeg p1)) p2 μ).bind fun r42 => ((fX4_placed r29 r42).bind fun r45 => (if r45 = 0 then ((fX0_keepCells (μ.1 6 (Int32.toNatClampNeg p1)) μ).bind fun μ64 => ((fX5_put (μ.1 6 (Int32.toNatClampNeg p1)) p2 (μ64.1 0 9) (μ64.2 0 10) μ64).bind fun μ81 => some (r45, μ81))) else some (r45, μ)))))) else none)))
set_option maxRecDepth 100000 in
set_option maxHeartbeats 4000000 in
theorem kX7_lay (l : Launch) (ε : Ev) (p1 : Int32) (p2 : Int32) (μ : Mm) (out : (Int32 × Mm)) (hf : fX7_lay p1 p2 μ = some out) : Sp l ε layX yX7_lay cX7_lay 6 (some .int) 6 [.ref (ea ε 0), .int p1, .int p2] (some (.int out.1)) μ out.2 := by
  refine Sp.of [(0, .ref (ea ε 0)), (1, .int p1), (2, .int p2)] rfl (by decide +kernel) (Nat.le_of_ble_eq_true rfl) ?_
  intro κ hκ C E hQ
  subst hκ
  replace C : Cf κ cX7_lay 6 RX7 (some .int) 6 := C
  refine g_iload_n (pc := 0) (i := 1) (j := 1) C dX7_lay_0 rfl rfl ?_
  refine g_cpi (pc := 1) (st := []) C lkX7_76 (As := [.int p1]) rfl (fun out h => kX7_isSlot (kl κ) p1 out h) (by decide) rfl (Nat.le_of_ble_eq_true rfl) dX7_lay_1 hf (fun r1 _ hf => ?_)
  refine g_if_ne (pc := 4) (tgt := 9) C dX7_lay_4 rfl hf (fun _ hf => ?_) (fun _ hf => ?_)
  · refine g_aload_n (pc := 9) (i := 0) (j := 0) C dX7_lay_9 rfl rfl ?_
    refine g_getr (pc := 10) (j := 6) C E fdX7_44 layX_0_5 dX7_lay_10 ?_
    refine g_iload_n (pc := 13) (i := 1) (j := 1) C dX7_lay_13 rfl rfl ?_
    refine g_iald (pc := 14) C E layX_6 dX7_lay_14 hf (fun hf => ?_)
    refine g_istore_n (pc := 15) (i := 3) (L' := [(3, .int (μ.1 6 (Int32.toNatClampNeg p1))), (0, .ref (ea ε 0)), (1, .int p1), (2, .int p2)]) C dX7_lay_15 rfl (by decide) rfl ?_
    refine g_aload_n (pc := 16) (i := 0) (j := 1) C dX7_lay_16 rfl rfl ?_
    refine g_iload_n (pc := 17) (i := 1) (j := 2) C dX7_lay_17 rfl rfl ?_
    refine g_cri (pc := 18) (st := []) C E layX_0 lkX7_125 (As := [.int p1]) rfl (fun out h => kX7_thingIn (kl κ) ε p1 μ out h) (by decide) rfl (Nat.le_of_ble_eq_true rfl) dX7_lay_18 hf (fun r18 _ hf => ?_)
    refine g_aload_n (pc := 21) (i := 0) (j := 1) C dX7_lay_21 rfl rfl ?_
    refine g_geti (pc := 22) C E fdX7_55 layX_0_8 dX7_lay_22 ?_
    refine g_aload_n (pc := 25) (i := 0) (j := 1) C dX7_lay_25 rfl rfl ?_
    refine g_geti (pc := 26) C E fdX7_58 layX_0_9 dX7_lay_26 ?_
    refine g_cpi (pc := 29) (st := []) C lkX7_206 (As := [.int r18, .int (μ.1 0 8), .int (μ.1 0 9)]) rfl (fun out h => kX4_putFit (kl κ) r18 (μ.1 0 8) (μ.1 0 9) out h) (by decide) rfl (Nat.le_of_ble_eq_true rfl) dX7_lay_29 hf (fun r29 _ hf => ?_)
    refine g_istore (pc := 32) (i := 4) (L' := [(4, .int r29), (3, .int (μ.1 6 (Int32.toNatClampNeg p1))), (0, .ref (ea ε 0)), (1, .int p1), (2, .int p2)]) C dX7_lay_32 (by decide) rfl ?_
    refine g_iload (pc := 34) (i := 4) (j := 0) C dX7_lay_34 rfl ?_
    refine g_aload_n (pc := 36) (i := 0) (j := 2) C dX7_lay_36 rfl rfl ?_
    refine g_getr (pc := 37) (j := 2) C E fdX7_19 layX_0_1 dX7_lay_37 ?_
    refine g_iload_n (pc := 40) (i := 3) (j := 1) C dX7_lay_40 rfl rfl ?_
    refine g_iload_n (pc := 41) (i := 2) (j := 4) C dX7_lay_41 rfl rfl ?_
    refine g_cri (pc := 42) (st := [.int r29]) C E layX_2 lkX7_139 (As := [.int (μ.1 6 (Int32.toNatClampNeg p1)), .int p2]) rfl (fun out h => kX5_has (kl κ) ε (μ.1 6 (Int32.toNatClampNeg p1)) p2 μ out h) (by decide) rfl (Nat.le_of_ble_eq_true rfl) dX7_lay_42 hf (fun r42 _ hf => ?_)
    refine g_cpi (pc := 45) (st := []) C lkX7_192 (As := [.int r29, .int r42]) rfl (fun out h => kX4_placed (kl κ) r29 r42 out h) (by decide) rfl (Nat.le_of_ble_eq_true rfl) dX7_lay_45 hf (fun r45 _ hf => ?_)
    refine g_istore (pc := 48) (i := 5) (L' := [(5, .int r45), (4, .int r29), (3, .int (μ.1 6 (Int32.toNatClampNeg p1))), (0, .ref (ea ε 0)), (1, .int p1), (2, .int p2)]) C dX7_lay_48 (by decide) rfl ?_
    refine g_iload (pc := 50) (i := 5) (j := 0) C dX7_lay_50 rfl ?_
    refine g_if_ne (pc := 52) (tgt := 84) C dX7_lay_52 rfl hf (fun _ hf => ?_) (fun _ hf => ?_)
    · refine g_iload (pc := 84) (i := 5) (j := 0) C dX7_lay_84 rfl ?_
      exact g_iretw (pc := 86) C hQ dX7_lay_86 hf
    · refine g_aload_n (pc := 55) (i := 0) (j := 3) C dX7_lay_55 rfl rfl ?_
      refine g_getr (pc := 56) (j := 3) C E fdX7_26 layX_0_2 dX7_lay_56 ?_
      refine g_iload_n (pc := 59) (i := 3) (j := 2) C dX7_lay_59 rfl rfl ?_
      refine g_aload_n (pc := 60) (i := 0) (j := 3) C dX7_lay_60 rfl rfl ?_
      refine g_getr (pc := 61) (j := 2) C E fdX7_19 layX_0_1 dX7_lay_61 ?_
      refine g_cwv (pc := 64) (st := []) C E layX_3 lkX7_210 (As := [.int (μ.1 6 (Int32.toNatClampNeg p1)), .ref (ea ε 2)]) rfl (fun out h => kX0_keepCells (kl κ) ε (μ.1 6 (Int32.toNatClampNeg p1)) μ out h) (by decide) rfl (Nat.le_of_ble_eq_true rfl) dX7_lay_64 hf (fun μ64 _ hf => ?_)
      refine g_aload_n (pc := 67) (i := 0) (j := 3) C dX7_lay_67 rfl rfl ?_
      refine g_getr (pc := 68) (j := 2) C E fdX7_19 layX_0_1 dX7_lay_68 ?_
      refine g_iload_n (pc := 71) (i := 3) (j := 2) C dX7_lay_71 rfl rfl ?_
      refine g_iload_n (pc := 72) (i := 2) (j := 5) C dX7_lay_72 rfl rfl ?_
      refine g_aload_n (pc := 73) (i := 0) (j := 3) C dX7_lay_73 rfl rfl ?_
      refine g_geti (pc := 74) C E fdX7_58 layX_0_9 dX7_lay_74 ?_
      refine g_aload_n (pc := 77) (i := 0) (j := 3) C dX7_lay_77 rfl rfl ?_
      refine g_getl (pc := 78) C E fdX7_61 layX_0_10 dX7_lay_78 ?_
      refine g_cwv (pc := 81) (st := []) C E layX_2 lkX7_214 (As := [.int (μ.1 6 (Int32.toNatClampNeg p1)), .int p2, .int (μ64.1 0 9), .long (μ64.2 0 10)]) rfl (fun out h => kX5_put (kl κ) ε (μ.1 6 (Int32.toNatClampNeg p1)) p2 (μ64.1 0 9) (μ64.2 0 10) μ64 out h) (by decide) rfl (Nat.le_of_ble_eq_true rfl) dX7_lay_81 hf (fun μ81 _ hf => ?_)
      refine g_iload (pc := 84) (i := 5) (j := 0) C dX7_lay_84 rfl ?_
      exact g_iretw (pc := 86) C hQ dX7_lay_86 hf
  · refine g_iconst (pc := 7) C dX7_lay_7 ci_m1 ?_
    exact g_iretw (pc := 8) C hQ dX7_lay_8 hf
theorem dX7_least_0 : decode cX7_least 0 = .ok (.iload_n 1, 1) := by decide +kernel
theorem dX7_least_1 : decode cX7_least 1 = .ok (.iconst 1, 1) := by decide +kernel
theorem dX7_least_2 : decode cX7_least 2 = .ok (.if_icmp .lt 10, 3) := by decide +kernel
theorem dX7_least_5 : decode cX7_least 5 = .ok (.iload_n 1, 1) := by decide +kernel
theorem dX7_least_6 : decode cX7_least 6 = .ok (.sipush 1023, 3) := by decide +kernel
theorem dX7_least_9 : decode cX7_least 9 = .ok (.if_icmp .le 6, 3) := by decide +kernel
theorem dX7_least_12 : decode cX7_least 12 = .ok (.bipush (-2), 2) := by decide +kernel
theorem dX7_least_14 : decode cX7_least 14 = .ok (.ireturn, 1) := by decide +kernel
theorem dX7_least_15 : decode cX7_least 15 = .ok (.sipush 255, 3) := by decide +kernel
theorem dX7_least_18 : decode cX7_least 18 = .ok (.istore_n 2, 1) := by decide +kernel
theorem dX7_least_19 : decode cX7_least 19 = .ok (.iconst 0, 1) := by decide +kernel
theorem dX7_least_20 : decode cX7_least 20 = .ok (.istore_n 3, 1) := by decide +kernel
theorem dX7_least_21 : decode cX7_least 21 = .ok (.iload_n 3, 1) := by decide +kernel
theorem dX7_least_22 : decode cX7_least 22 = .ok (.bipush 10, 2) := by decide +kernel
theorem dX7_least_24 : decode cX7_least 24 = .ok (.if_icmp .ge 43, 3) := by decide +kernel
theorem dX7_least_27 : decode cX7_least 27 = .ok (.iload_n 1, 1) := by decide +kernel
theorem dX7_least_28 : decode cX7_least 28 = .ok (.iload_n 3, 1) := by decide +kernel
theorem dX7_least_29 : decode cX7_least 29 = .ok (.ishr, 1) := by decide +kernel
theorem dX7_least_30 : decode cX7_least 30 = .ok (.iconst 1, 1) := by decide +kernel
theorem dX7_least_31 : decode cX7_least 31 = .ok (.iand, 1) := by decide +kernel
theorem dX7_least_32 : decode cX7_least 32 = .ok (.iconst 1, 1) := by decide +kernel
theorem dX7_least_33 : decode cX7_least 33 = .ok (.if_icmp .ne 28, 3) := by decide +kernel
theorem dX7_least_36 : decode cX7_least 36 = .ok (.aload_n 0, 1) := by decide +kernel
theorem dX7_least_37 : decode cX7_least 37 = .ok (.iload_n 3, 1) := by decide +kernel
theorem dX7_least_38 : decode cX7_least 38 = .ok (.invokevirtual 125, 3) := by decide +kernel
theorem dX7_least_41 : decode cX7_least 41 = .ok (.invokestatic 158, 3) := by decide +kernel
theorem dX7_least_44 : decode cX7_least 44 = .ok (.ifCond .ne 6, 3) := by decide +kernel
theorem dX7_least_47 : decode cX7_least 47 = .ok (.bipush (-3), 2) := by decide +kernel
theorem dX7_least_49 : decode cX7_least 49 = .ok (.ireturn, 1) := by decide +kernel
theorem dX7_least_50 : decode cX7_least 50 = .ok (.iload_n 2, 1) := by decide +kernel
theorem dX7_least_51 : decode cX7_least 51 = .ok (.aload_n 0, 1) := by decide +kernel
theorem dX7_least_52 : decode cX7_least 52 = .ok (.iload_n 3, 1) := by decide +kernel
theorem dX7_least_53 : decode cX7_least 53 = .ok (.invokevirtual 125, 3) := by decide +kernel
theorem dX7_least_56 : decode cX7_least 56 = .ok (.invokestatic 248, 3) := by decide +kernel
theorem dX7_least_59 : decode cX7_least 59 = .ok (.iand, 1) := by decide +kernel
theorem dX7_least_60 : decode cX7_least 60 = .ok (.istore_n 2, 1) := by decide +kernel
theorem dX7_least_61 : decode cX7_least 61 = .ok (.iinc 3 1, 3) := by decide +kernel
theorem dX7_least_64 : decode cX7_least 64 = .ok (.goto (-43), 3) := by decide +kernel
theorem dX7_least_67 : decode cX7_least 67 = .ok (.iload_n 2, 1) := by decide +kernel
theorem dX7_least_68 : decode cX7_least 68 = .ok (.invokestatic 251, 3) := by decide +kernel
theorem dX7_least_71 : decode cX7_least 71 = .ok (.ireturn, 1) := by decide +kernel
def fX7_least_b61 (μ : Mm) (k21 : Int32 → Int32 → Int32 → Option Int32) (v1 : Int32) (v2 : Int32) (v3 : Int32) : Option Int32 := k21 v1 v2 (v3 + (1 : Int32))
def fX7_least_b21 (μ : Mm) : Nat → Int32 → Int32 → Int32 → Option Int32
  | 0, _, _, _ => none
  | n + 1, v1, v2, v3 => (if (10 : Int32) ≤ v3 then ((fX2_leastOf v2).bind fun r68 => some r68) else (if ((jshr v1 v3) &&& (1 : Int32)) = (1 : Int32) then ((fX7_thingIn v3 μ).bind fun r38 => ((fX7_isPrimitive r38).bind fun r41 => (if r41 = 0 then some (-3 : Int32) else ((fX7_thingIn v3 μ).bind fun r53 => ((fX2_targets r53).bind fun r56 => fX7_least_b61 μ (fX7_least_b21 μ n) v1 (v2 &&& r56) v3))))) else fX7_least_b61 μ (fX7_least_b21 μ n) v1 v2 v3))
def fX7_least (p1 : Int32) (μ : Mm) : Option Int32 := (if p1 < (1 : Int32) then some (-2 : Int32) else (if p1 ≤ (1023 : Int32) then fX7_least_b21 μ 100 p1 (255 : Int32) (0 : Int32) else some (-2 : Int32)))
set_option maxRecDepth 100000 in
set_option maxHeartbeats 4000000 in
theorem kX7_least (l : Launch) (ε : Ev) (p1 : Int32) (μ : Mm) (out : Int32) (hf : fX7_least p1 μ = some out) : Sp l ε layX yX7_least cX7_least 4 (some .int) 3 [.ref (ea ε 0), .int p1] (some (.int out)) μ μ := by
  refine Sp.of [(0, .ref (ea ε 0)), (1, .int p1)] rfl (by decide +kernel) (Nat.le_of_ble_eq_true rfl) ?_
  intro κ hκ C E hQ
  subst hκ
  replace C : Cf κ cX7_least 4 RX7 (some .int) 3 := C
  have b61 : ∀ (k21 : Int32 → Int32 → Int32 → Option Int32) (hk21 : ∀ (v1 : Int32) (v2 : Int32) (v3 : Int32) , k21 v1 v2 v3 = some out → G κ (Vw κ ε layX μ) 4 21 [(0, .ref (ea ε 0)), (1, .int v1), (2, .int v2), (3, .int v3)] []) (v1 : Int32) (v2 : Int32) (v3 : Int32) , fX7_least_b61 μ k21 v1 v2 v3 = some out → G κ (Vw κ ε layX μ) 4 61 [(0, .ref (ea ε 0)), (1, .int v1), (2, .int v2), (3, .int v3)] [] := by
    intro k21 hk21 v1 v2 v3 hf
    refine g_iinc (pc := 61) (i := 3) (j := 3) (v := (v3 + (1 : Int32))) (L' := [(3, .int (v3 + (1 : Int32))), (0, .ref (ea ε 0)), (1, .int v1), (2, .int v2)]) C dX7_least_61 rfl (cx_1 _) (by decide) rfl ?_
    refine g_goto (pc := 64) (tgt := 21) C dX7_least_64 rfl ?_
    exact g_at [1, 2, 3, 0] rfl (hk21 v1 v2 (v3 + (1 : Int32)) hf)
  have b21 : ∀ (n : Nat) (v1 : Int32) (v2 : Int32) (v3 : Int32) , fX7_least_b21 μ n v1 v2 v3 = some out → G κ (Vw κ ε layX μ) 4 21 [(0, .ref (ea ε 0)), (1, .int v1), (2, .int v2), (3, .int v3)] [] := by
    intro n
    induction n with
    | zero => intro v1 v2 v3 hf; exact none_ne hf
    | succ n ih =>
      intro v1 v2 v3 hf
      refine g_iload_n (pc := 21) (i := 3) (j := 3) C dX7_least_21 rfl rfl ?_
      refine g_bipush (pc := 22) C dX7_least_22 cb_10 ?_
      refine g_icmp_ge (pc := 24) (tgt := 67) C dX7_least_24 rfl hf (fun _ hf => ?_) (fun _ hf => ?_)
      · refine g_iload_n (pc := 67) (i := 2) (j := 2) C dX7_least_67 rfl rfl ?_
        refine g_cpi (pc := 68) (st := []) C lkX7_251 (As := [.int v2]) rfl (fun out h => kX2_leastOf (kl κ) v2 out h) (by decide) rfl (Nat.le_of_ble_eq_true rfl) dX7_least_68 hf (fun r68 _ hf => ?_)
        exact g_iretr (pc := 71) C hQ dX7_least_71 hf
      · refine g_iload_n (pc := 27) (i := 1) (j := 1) C dX7_least_27 rfl rfl ?_
        refine g_iload_n (pc := 28) (i := 3) (j := 3) C dX7_least_28 rfl rfl ?_
        refine g_ishr (pc := 29) C dX7_least_29 ?_
        refine g_iconst (pc := 30) C dX7_least_30 ci_1 ?_
        refine g_iand (pc := 31) C dX7_least_31 ?_
        refine g_iconst (pc := 32) C dX7_least_32 ci_1 ?_
        refine g_icmp_ne (pc := 33) (tgt := 61) C dX7_least_33 rfl hf (fun _ hf => ?_) (fun _ hf => ?_)
        · exact b61 (fX7_least_b21 μ n) ih v1 v2 v3 hf
        · refine g_aload_n (pc := 36) (i := 0) (j := 0) C dX7_least_36 rfl rfl ?_
          refine g_iload_n (pc := 37) (i := 3) (j := 3) C dX7_least_37 rfl rfl ?_
          refine g_cri (pc := 38) (st := []) C E layX_0 lkX7_125 (As := [.int v3]) rfl (fun out h => kX7_thingIn (kl κ) ε v3 μ out h) (by decide) rfl (Nat.le_of_ble_eq_true rfl) dX7_least_38 hf (fun r38 _ hf => ?_)
          refine g_cpi (pc := 41) (st := []) C lkX7_158 (As := [.int r38]) rfl (fun out h => kX7_isPrimitive (kl κ) r38 out h) (by decide) rfl (Nat.le_of_ble_eq_true rfl) dX7_least_41 hf (fun r41 _ hf => ?_)
          refine g_if_ne (pc := 44) (tgt := 50) C dX7_least_44 rfl hf (fun _ hf => ?_) (fun _ hf => ?_)
          · refine g_iload_n (pc := 50) (i := 2) (j := 2) C dX7_least_50 rfl rfl ?_
            refine g_aload_n (pc := 51) (i := 0) (j := 0) C dX7_least_51 rfl rfl ?_
            refine g_iload_n (pc := 52) (i := 3) (j := 3) C dX7_least_52 rfl rfl ?_
            refine g_cri (pc := 53) (st := [.int v2]) C E layX_0 lkX7_125 (As := [.int v3]) rfl (fun out h => kX7_thingIn (kl κ) ε v3 μ out h) (by decide) rfl (Nat.le_of_ble_eq_true rfl) dX7_least_53 hf (fun r53 _ hf => ?_)
            refine g_cpi (pc := 56) (st := [.int v2]) C lkX7_248 (As := [.int r53]) rfl (fun out h => kX2_targets (kl κ) r53 out h) (by decide) rfl (Nat.le_of_ble_eq_true rfl) dX7_least_56 hf (fun r56 _ hf => ?_)
            refine g_iand (pc := 59) C dX7_least_59 ?_
            refine g_istore_n (pc := 60) (i := 2) (L' := [(2, .int (v2 &&& r56)), (0, .ref (ea ε 0)), (1, .int v1), (3, .int v3)]) C dX7_least_60 rfl (by decide) rfl ?_
            exact g_at [1, 2, 0, 3] rfl (b61 (fX7_least_b21 μ n) ih v1 (v2 &&& r56) v3 hf)
          · refine g_bipush (pc := 47) C dX7_least_47 cb_m3 ?_
            exact g_iretr (pc := 49) C hQ dX7_least_49 hf
  refine g_iload_n (pc := 0) (i := 1) (j := 1) C dX7_least_0 rfl rfl ?_
  refine g_iconst (pc := 1) C dX7_least_1 ci_1 ?_
  refine g_icmp_lt (pc := 2) (tgt := 12) C dX7_least_2 rfl hf (fun _ hf => ?_) (fun _ hf => ?_)
  · refine g_bipush (pc := 12) C dX7_least_12 cb_m2 ?_
    exact g_iretr (pc := 14) C hQ dX7_least_14 hf
  · refine g_iload_n (pc := 5) (i := 1) (j := 1) C dX7_least_5 rfl rfl ?_
    refine g_sipush (pc := 6) C dX7_least_6 cs_1023 ?_
    refine g_icmp_le (pc := 9) (tgt := 15) C dX7_least_9 rfl hf (fun _ hf => ?_) (fun _ hf => ?_)
    · refine g_sipush (pc := 15) C dX7_least_15 cs_255 ?_
      refine g_istore_n (pc := 18) (i := 2) (L' := [(2, .int (255 : Int32)), (0, .ref (ea ε 0)), (1, .int p1)]) C dX7_least_18 rfl (by decide) rfl ?_
      refine g_iconst (pc := 19) C dX7_least_19 ci_0 ?_
      refine g_istore_n (pc := 20) (i := 3) (L' := [(3, .int (0 : Int32)), (2, .int (255 : Int32)), (0, .ref (ea ε 0)), (1, .int p1)]) C dX7_least_20 rfl (by decide) rfl ?_
      exact g_at [2, 3, 1, 0] rfl (b21 100 p1 (255 : Int32) (0 : Int32) hf)
    · refine g_bipush (pc := 12) C dX7_least_12 cb_m2 ?_
      exact g_iretr (pc := 14) C hQ dX7_least_14 hf
theorem dX7_make_0 : decode cX7_make 0 = .ok (.iload_n 1, 1) := by decide +kernel
theorem dX7_make_1 : decode cX7_make 1 = .ok (.invokestatic 76, 3) := by decide +kernel
theorem dX7_make_4 : decode cX7_make 4 = .ok (.ifCond .ne 5, 3) := by decide +kernel
theorem dX7_make_7 : decode cX7_make 7 = .ok (.iconst (-1), 1) := by decide +kernel
theorem dX7_make_8 : decode cX7_make 8 = .ok (.ireturn, 1) := by decide +kernel
theorem dX7_make_9 : decode cX7_make 9 = .ok (.iload_n 2, 1) := by decide +kernel
theorem dX7_make_10 : decode cX7_make 10 = .ok (.bipush 13, 2) := by decide +kernel
theorem dX7_make_12 : decode cX7_make 12 = .ok (.if_icmp .ge 8, 3) := by decide +kernel
theorem dX7_make_15 : decode cX7_make 15 = .ok (.bipush 6, 2) := by decide +kernel
theorem dX7_make_17 : decode cX7_make 17 = .ok (.goto 4, 3) := by decide +kernel
theorem dX7_make_20 : decode cX7_make 20 = .ok (.iconst 0, 1) := by decide +kernel
theorem dX7_make_21 : decode cX7_make 21 = .ok (.istore 4, 2) := by decide +kernel
theorem dX7_make_23 : decode cX7_make 23 = .ok (.iload_n 2, 1) := by decide +kernel
theorem dX7_make_24 : decode cX7_make 24 = .ok (.ifCond .lt 19, 3) := by decide +kernel
theorem dX7_make_27 : decode cX7_make 27 = .ok (.iload_n 2, 1) := by decide +kernel
theorem dX7_make_28 : decode cX7_make 28 = .ok (.bipush 15, 2) := by decide +kernel
theorem dX7_make_30 : decode cX7_make 30 = .ok (.if_icmp .gt 13, 3) := by decide +kernel
theorem dX7_make_33 : decode cX7_make 33 = .ok (.iload_n 3, 1) := by decide +kernel
theorem dX7_make_34 : decode cX7_make 34 = .ok (.ifCond .lt 9, 3) := by decide +kernel
theorem dX7_make_37 : decode cX7_make 37 = .ok (.iload_n 3, 1) := by decide +kernel
theorem dX7_make_38 : decode cX7_make 38 = .ok (.iload 4, 2) := by decide +kernel
theorem dX7_make_40 : decode cX7_make 40 = .ok (.if_icmp .le 6, 3) := by decide +kernel
theorem dX7_make_43 : decode cX7_make 43 = .ok (.bipush (-2), 2) := by decide +kernel
theorem dX7_make_45 : decode cX7_make 45 = .ok (.ireturn, 1) := by decide +kernel
theorem dX7_make_46 : decode cX7_make 46 = .ok (.aload_n 0, 1) := by decide +kernel
theorem dX7_make_47 : decode cX7_make 47 = .ok (.iload_n 1, 1) := by decide +kernel
theorem dX7_make_48 : decode cX7_make 48 = .ok (.invokevirtual 125, 3) := by decide +kernel
theorem dX7_make_51 : decode cX7_make 51 = .ok (.istore 5, 2) := by decide +kernel
theorem dX7_make_53 : decode cX7_make 53 = .ok (.aload_n 0, 1) := by decide +kernel
theorem dX7_make_54 : decode cX7_make 54 = .ok (.iload_n 1, 1) := by decide +kernel
theorem dX7_make_55 : decode cX7_make 55 = .ok (.iload_n 2, 1) := by decide +kernel
theorem dX7_make_56 : decode cX7_make 56 = .ok (.bipush 15, 2) := by decide +kernel
theorem dX7_make_58 : decode cX7_make 58 = .ok (.if_icmp .ne 7, 3) := by decide +kernel
theorem dX7_make_61 : decode cX7_make 61 = .ok (.iconst 0, 1) := by decide +kernel
theorem dX7_make_62 : decode cX7_make 62 = .ok (.goto 9, 3) := by decide +kernel
theorem dX7_make_65 : decode cX7_make 65 = .ok (.aload_n 0, 1) := by decide +kernel
theorem dX7_make_66 : decode cX7_make 66 = .ok (.iload_n 2, 1) := by decide +kernel
theorem dX7_make_67 : decode cX7_make 67 = .ok (.iload_n 3, 1) := by decide +kernel
theorem dX7_make_68 : decode cX7_make 68 = .ok (.invokevirtual 85, 3) := by decide +kernel
theorem dX7_make_71 : decode cX7_make 71 = .ok (.invokevirtual 106, 3) := by decide +kernel
theorem dX7_make_74 : decode cX7_make 74 = .ok (.iload 5, 2) := by decide +kernel
theorem dX7_make_76 : decode cX7_make 76 = .ok (.ireturn, 1) := by decide +kernel
def fX7_make_b71 (v5 : Int32) (s0 : Int32) (s1 : Int32) (μ : Mm) : Option (Int32 × Mm) := ((fX7_replace s1 s0 μ).bind fun μ71 => some (v5, μ71))
def fX7_make_b21 (v1 : Int32) (v2 : Int32) (v3 : Int32) (s0 : Int32) (μ : Mm) : Option (Int32 × Mm) := (if v2 < 0 then some ((-2 : Int32), μ) else (if (15 : Int32) < v2 then some ((-2 : Int32), μ) else (if v3 < 0 then some ((-2 : Int32), μ) else (if v3 ≤ s0 then ((fX7_thingIn v1 μ).bind fun r48 => (if v2 = (15 : Int32) then fX7_make_b71 r48 (0 : Int32) v1 μ else (bnd (fX7_newRow v2 v3 μ) fun r68 μ68 => fX7_make_b71 r48 r68 v1 μ68))) else some ((-2 : Int32), μ)))))
def fX7_make (p1 : Int32) (p2 : Int32) (p3 : Int32) (μ : Mm) : Option (Int32 × Mm) := ((fX7_isSlot p1).bind fun r1 => (if r1 = 0 then some ((-1 : Int32), μ) else (if (13 : Int32) ≤ p2 then fX7_make_b21 p1 p2 p3 (0 : Int32) μ else fX7_make_b21 p1 p2 p3 (6 : Int32) μ)))
set_option maxRecDepth 100000 in
set_option maxHeartbeats 4000000 in
theorem kX7_make (l : Launch) (ε : Ev) (p1 : Int32) (p2 : Int32) (p3 : Int32) (μ : Mm) (out : (Int32 × Mm)) (hf : fX7_make p1 p2 p3 μ = some out) : Sp l ε layX yX7_make cX7_make 6 (some .int) 4 [.ref (ea ε 0), .int p1, .int p2, .int p3] (some (.int out.1)) μ out.2 := by
  refine Sp.of [(0, .ref (ea ε 0)), (1, .int p1), (2, .int p2), (3, .int p3)] rfl (by decide +kernel) (Nat.le_of_ble_eq_true rfl) ?_
  intro κ hκ C E hQ
  subst hκ
  replace C : Cf κ cX7_make 6 RX7 (some .int) 4 := C
  have b71 : ∀ (v5 : Int32) (s0 : Int32) (s1 : Int32) (μ : Mm) , fX7_make_b71 v5 s0 s1 μ = some out → G κ (Vw κ ε layX μ) 6 71 [(5, .int v5)] [.int s0, .int s1, .ref (ea ε 0)] := by
    intro v5 s0 s1 μ hf
    refine g_cwv (pc := 71) (st := []) C E layX_0 lkX7_106 (As := [.int s1, .int s0]) rfl (fun out h => kX7_replace (kl κ) ε s1 s0 μ out h) (by decide) rfl (Nat.le_of_ble_eq_true rfl) dX7_make_71 hf (fun μ71 _ hf => ?_)
    refine g_iload (pc := 74) (i := 5) (j := 0) C dX7_make_74 rfl ?_
    exact g_iretw (pc := 76) C hQ dX7_make_76 hf
  have b21 : ∀ (v1 : Int32) (v2 : Int32) (v3 : Int32) (s0 : Int32) (μ : Mm) , fX7_make_b21 v1 v2 v3 s0 μ = some out → G κ (Vw κ ε layX μ) 6 21 [(0, .ref (ea ε 0)), (1, .int v1), (2, .int v2), (3, .int v3)] [.int s0] := by
    intro v1 v2 v3 s0 μ hf
    refine g_istore (pc := 21) (i := 4) (L' := [(4, .int s0), (0, .ref (ea ε 0)), (1, .int v1), (2, .int v2), (3, .int v3)]) C dX7_make_21 (by decide) rfl ?_
    refine g_iload_n (pc := 23) (i := 2) (j := 3) C dX7_make_23 rfl rfl ?_
    refine g_if_lt (pc := 24) (tgt := 43) C dX7_make_24 rfl hf (fun _ hf => ?_) (fun _ hf => ?_)
    · refine g_bipush (pc := 43) C dX7_make_43 cb_m2 ?_
      exact g_iretw (pc := 45) C hQ dX7_make_45 hf
    · refine g_iload_n (pc := 27) (i := 2) (j := 3) C dX7_make_27 rfl rfl ?_
      refine g_bipush (pc := 28) C dX7_make_28 cb_15 ?_
      refine g_icmp_gt (pc := 30) (tgt := 43) C dX7_make_30 rfl hf (fun _ hf => ?_) (fun _ hf => ?_)
      · refine g_bipush (pc := 43) C dX7_make_43 cb_m2 ?_
        exact g_iretw (pc := 45) C hQ dX7_make_45 hf
      · refine g_iload_n (pc := 33) (i := 3) (j := 4) C dX7_make_33 rfl rfl ?_
        refine g_if_lt (pc := 34) (tgt := 43) C dX7_make_34 rfl hf (fun _ hf => ?_) (fun _ hf => ?_)
        · refine g_bipush (pc := 43) C dX7_make_43 cb_m2 ?_
          exact g_iretw (pc := 45) C hQ dX7_make_45 hf
        · refine g_iload_n (pc := 37) (i := 3) (j := 4) C dX7_make_37 rfl rfl ?_
          refine g_iload (pc := 38) (i := 4) (j := 0) C dX7_make_38 rfl ?_
          refine g_icmp_le (pc := 40) (tgt := 46) C dX7_make_40 rfl hf (fun _ hf => ?_) (fun _ hf => ?_)
          · refine g_aload_n (pc := 46) (i := 0) (j := 1) C dX7_make_46 rfl rfl ?_
            refine g_iload_n (pc := 47) (i := 1) (j := 2) C dX7_make_47 rfl rfl ?_
            refine g_cri (pc := 48) (st := []) C E layX_0 lkX7_125 (As := [.int v1]) rfl (fun out h => kX7_thingIn (kl κ) ε v1 μ out h) (by decide) rfl (Nat.le_of_ble_eq_true rfl) dX7_make_48 hf (fun r48 _ hf => ?_)
            refine g_istore (pc := 51) (i := 5) (L' := [(5, .int r48), (4, .int s0), (0, .ref (ea ε 0)), (1, .int v1), (2, .int v2), (3, .int v3)]) C dX7_make_51 (by decide) rfl ?_
            refine g_aload_n (pc := 53) (i := 0) (j := 2) C dX7_make_53 rfl rfl ?_
            refine g_iload_n (pc := 54) (i := 1) (j := 3) C dX7_make_54 rfl rfl ?_
            refine g_iload_n (pc := 55) (i := 2) (j := 4) C dX7_make_55 rfl rfl ?_
            refine g_bipush (pc := 56) C dX7_make_56 cb_15 ?_
            refine g_icmp_ne (pc := 58) (tgt := 65) C dX7_make_58 rfl hf (fun _ hf => ?_) (fun _ hf => ?_)
            · refine g_aload_n (pc := 65) (i := 0) (j := 2) C dX7_make_65 rfl rfl ?_
              refine g_iload_n (pc := 66) (i := 2) (j := 4) C dX7_make_66 rfl rfl ?_
              refine g_iload_n (pc := 67) (i := 3) (j := 5) C dX7_make_67 rfl rfl ?_
              refine g_cwi (pc := 68) (st := [.int v1, .ref (ea ε 0)]) C E layX_0 lkX7_85 (As := [.int v2, .int v3]) rfl (fun out h => kX7_newRow (kl κ) ε v2 v3 μ out h) (by decide) rfl (Nat.le_of_ble_eq_true rfl) dX7_make_68 hf (fun r68 μ68 _ hf => ?_)
              exact g_at [0] rfl (b71 r48 r68 v1 μ68 hf)
            · refine g_iconst (pc := 61) C dX7_make_61 ci_0 ?_
              refine g_goto (pc := 62) (tgt := 71) C dX7_make_62 rfl ?_
              exact g_at [0] rfl (b71 r48 (0 : Int32) v1 μ hf)
          · refine g_bipush (pc := 43) C dX7_make_43 cb_m2 ?_
            exact g_iretw (pc := 45) C hQ dX7_make_45 hf
  refine g_iload_n (pc := 0) (i := 1) (j := 1) C dX7_make_0 rfl rfl ?_
  refine g_cpi (pc := 1) (st := []) C lkX7_76 (As := [.int p1]) rfl (fun out h => kX7_isSlot (kl κ) p1 out h) (by decide) rfl (Nat.le_of_ble_eq_true rfl) dX7_make_1 hf (fun r1 _ hf => ?_)
  refine g_if_ne (pc := 4) (tgt := 9) C dX7_make_4 rfl hf (fun _ hf => ?_) (fun _ hf => ?_)
  · refine g_iload_n (pc := 9) (i := 2) (j := 2) C dX7_make_9 rfl rfl ?_
    refine g_bipush (pc := 10) C dX7_make_10 cb_13 ?_
    refine g_icmp_ge (pc := 12) (tgt := 20) C dX7_make_12 rfl hf (fun _ hf => ?_) (fun _ hf => ?_)
    · refine g_iconst (pc := 20) C dX7_make_20 ci_0 ?_
      exact b21 p1 p2 p3 (0 : Int32) μ hf
    · refine g_bipush (pc := 15) C dX7_make_15 cb_6 ?_
      refine g_goto (pc := 17) (tgt := 21) C dX7_make_17 rfl ?_
      exact b21 p1 p2 p3 (6 : Int32) μ hf
  · refine g_iconst (pc := 7) C dX7_make_7 ci_m1 ?_
    exact g_iretw (pc := 8) C hQ dX7_make_8 hf
theorem dX7_mark_0 : decode cX7_mark 0 = .ok (.iload_n 1, 1) := by decide +kernel
theorem dX7_mark_1 : decode cX7_mark 1 = .ok (.ifCond .lt 15, 3) := by decide +kernel
theorem dX7_mark_4 : decode cX7_mark 4 = .ok (.iload_n 1, 1) := by decide +kernel
theorem dX7_mark_5 : decode cX7_mark 5 = .ok (.iconst 1, 1) := by decide +kernel
theorem dX7_mark_6 : decode cX7_mark 6 = .ok (.if_icmp .gt 10, 3) := by decide +kernel
theorem dX7_mark_9 : decode cX7_mark 9 = .ok (.iload_n 2, 1) := by decide +kernel
theorem dX7_mark_10 : decode cX7_mark 10 = .ok (.invokestatic 168, 3) := by decide +kernel
theorem dX7_mark_13 : decode cX7_mark 13 = .ok (.ifCond .ne 6, 3) := by decide +kernel
theorem dX7_mark_16 : decode cX7_mark 16 = .ok (.bipush (-2), 2) := by decide +kernel
theorem dX7_mark_18 : decode cX7_mark 18 = .ok (.ireturn, 1) := by decide +kernel
theorem dX7_mark_19 : decode cX7_mark 19 = .ok (.aload_n 0, 1) := by decide +kernel
theorem dX7_mark_20 : decode cX7_mark 20 = .ok (.getfield 33, 3) := by decide +kernel
theorem dX7_mark_23 : decode cX7_mark 23 = .ok (.invokevirtual 171, 3) := by decide +kernel
theorem dX7_mark_26 : decode cX7_mark 26 = .ok (.ifCond .eq 6, 3) := by decide +kernel
theorem dX7_mark_29 : decode cX7_mark 29 = .ok (.bipush (-4), 2) := by decide +kernel
theorem dX7_mark_31 : decode cX7_mark 31 = .ok (.ireturn, 1) := by decide +kernel
theorem dX7_mark_32 : decode cX7_mark 32 = .ok (.aload_n 0, 1) := by decide +kernel
theorem dX7_mark_33 : decode cX7_mark 33 = .ok (.getfield 33, 3) := by decide +kernel
theorem dX7_mark_36 : decode cX7_mark 36 = .ok (.iload_n 2, 1) := by decide +kernel
theorem dX7_mark_37 : decode cX7_mark 37 = .ok (.invokevirtual 175, 3) := by decide +kernel
theorem dX7_mark_40 : decode cX7_mark 40 = .ok (.istore_n 3, 1) := by decide +kernel
theorem dX7_mark_41 : decode cX7_mark 41 = .ok (.aload_n 0, 1) := by decide +kernel
theorem dX7_mark_42 : decode cX7_mark 42 = .ok (.iconst 3, 1) := by decide +kernel
theorem dX7_mark_43 : decode cX7_mark 43 = .ok (.iload_n 1, 1) := by decide +kernel
theorem dX7_mark_44 : decode cX7_mark 44 = .ok (.iconst 1, 1) := by decide +kernel
theorem dX7_mark_45 : decode cX7_mark 45 = .ok (.if_icmp .ne 8, 3) := by decide +kernel
theorem dX7_mark_48 : decode cX7_mark 48 = .ok (.bipush 9, 2) := by decide +kernel
theorem dX7_mark_50 : decode cX7_mark 50 = .ok (.goto 5, 3) := by decide +kernel
theorem dX7_mark_53 : decode cX7_mark 53 = .ok (.bipush 8, 2) := by decide +kernel
theorem dX7_mark_55 : decode cX7_mark 55 = .ok (.iload_n 3, 1) := by decide +kernel
theorem dX7_mark_56 : decode cX7_mark 56 = .ok (.i2l, 1) := by decide +kernel
theorem dX7_mark_57 : decode cX7_mark 57 = .ok (.invokevirtual 164, 3) := by decide +kernel
theorem dX7_mark_60 : decode cX7_mark 60 = .ok (.iload_n 3, 1) := by decide +kernel
theorem dX7_mark_61 : decode cX7_mark 61 = .ok (.ireturn, 1) := by decide +kernel
def fX7_mark_b55 (v3 : Int32) (s0 : Int32) (s1 : Int32) (μ : Mm) : Option (Int32 × Mm) := ((fX7_hold s1 s0 (Int32.toInt64 v3) μ).bind fun μ57 => some (v3, μ57))
def fX7_mark (p1 : Int32) (p2 : Int32) (μ : Mm) : Option (Int32 × Mm) := (if p1 < 0 then some ((-2 : Int32), μ) else (if (1 : Int32) < p1 then some ((-2 : Int32), μ) else ((fX7_isMarkNumber p2).bind fun r10 => (if r10 = 0 then some ((-2 : Int32), μ) else ((fX1_isFull μ).bind fun r23 => (if r23 = 0 then (bnd (fX1_create p2 μ) fun r37 μ37 => (if p1 = (1 : Int32) then fX7_mark_b55 r37 (9 : Int32) (3 : Int32) μ37 else fX7_mark_b55 r37 (8 : Int32) (3 : Int32) μ37)) else some ((-4 : Int32), μ)))))))
set_option maxRecDepth 100000 in
set_option maxHeartbeats 4000000 in
theorem kX7_mark (l : Launch) (ε : Ev) (p1 : Int32) (p2 : Int32) (μ : Mm) (out : (Int32 × Mm)) (hf : fX7_mark p1 p2 μ = some out) : Sp l ε layX yX7_mark cX7_mark 4 (some .int) 1 [.ref (ea ε 0), .int p1, .int p2] (some (.int out.1)) μ out.2 := by
  refine Sp.of [(0, .ref (ea ε 0)), (1, .int p1), (2, .int p2)] rfl (by decide +kernel) (Nat.le_of_ble_eq_true rfl) ?_
  intro κ hκ C E hQ
  subst hκ
  replace C : Cf κ cX7_mark 4 RX7 (some .int) 1 := C
  have b55 : ∀ (v3 : Int32) (s0 : Int32) (s1 : Int32) (μ : Mm) , fX7_mark_b55 v3 s0 s1 μ = some out → G κ (Vw κ ε layX μ) 4 55 [(3, .int v3)] [.int s0, .int s1, .ref (ea ε 0)] := by
    intro v3 s0 s1 μ hf
    refine g_iload_n (pc := 55) (i := 3) (j := 0) C dX7_mark_55 rfl rfl ?_
    refine g_i2l (pc := 56) C dX7_mark_56 ?_
    refine g_cwv (pc := 57) (st := []) C E layX_0 lkX7_164 (As := [.int s1, .int s0, .long (Int32.toInt64 v3)]) rfl (fun out h => kX7_hold (kl κ) ε s1 s0 (Int32.toInt64 v3) μ out h) (by decide) rfl (Nat.le_of_ble_eq_true rfl) dX7_mark_57 hf (fun μ57 _ hf => ?_)
    refine g_iload_n (pc := 60) (i := 3) (j := 0) C dX7_mark_60 rfl rfl ?_
    exact g_iretw (pc := 61) C hQ dX7_mark_61 hf
  refine g_iload_n (pc := 0) (i := 1) (j := 1) C dX7_mark_0 rfl rfl ?_
  refine g_if_lt (pc := 1) (tgt := 16) C dX7_mark_1 rfl hf (fun _ hf => ?_) (fun _ hf => ?_)
  · refine g_bipush (pc := 16) C dX7_mark_16 cb_m2 ?_
    exact g_iretw (pc := 18) C hQ dX7_mark_18 hf
  · refine g_iload_n (pc := 4) (i := 1) (j := 1) C dX7_mark_4 rfl rfl ?_
    refine g_iconst (pc := 5) C dX7_mark_5 ci_1 ?_
    refine g_icmp_gt (pc := 6) (tgt := 16) C dX7_mark_6 rfl hf (fun _ hf => ?_) (fun _ hf => ?_)
    · refine g_bipush (pc := 16) C dX7_mark_16 cb_m2 ?_
      exact g_iretw (pc := 18) C hQ dX7_mark_18 hf
    · refine g_iload_n (pc := 9) (i := 2) (j := 2) C dX7_mark_9 rfl rfl ?_
      refine g_cpi (pc := 10) (st := []) C lkX7_168 (As := [.int p2]) rfl (fun out h => kX7_isMarkNumber (kl κ) p2 out h) (by decide) rfl (Nat.le_of_ble_eq_true rfl) dX7_mark_10 hf (fun r10 _ hf => ?_)
      refine g_if_ne (pc := 13) (tgt := 19) C dX7_mark_13 rfl hf (fun _ hf => ?_) (fun _ hf => ?_)
      · refine g_aload_n (pc := 19) (i := 0) (j := 0) C dX7_mark_19 rfl rfl ?_
        refine g_getr (pc := 20) (j := 4) C E fdX7_33 layX_0_3 dX7_mark_20 ?_
        refine g_cri (pc := 23) (st := []) C E layX_4 lkX7_171 (As := []) rfl (fun out h => kX1_isFull (kl κ) ε μ out h) (by decide) rfl (Nat.le_of_ble_eq_true rfl) dX7_mark_23 hf (fun r23 _ hf => ?_)
        refine g_if_eq (pc := 26) (tgt := 32) C dX7_mark_26 rfl hf (fun _ hf => ?_) (fun _ hf => ?_)
        · refine g_aload_n (pc := 32) (i := 0) (j := 0) C dX7_mark_32 rfl rfl ?_
          refine g_getr (pc := 33) (j := 4) C E fdX7_33 layX_0_3 dX7_mark_33 ?_
          refine g_iload_n (pc := 36) (i := 2) (j := 2) C dX7_mark_36 rfl rfl ?_
          refine g_cwi (pc := 37) (st := []) C E layX_4 lkX7_175 (As := [.int p2]) rfl (fun out h => kX1_create (kl κ) ε p2 μ out h) (by decide) rfl (Nat.le_of_ble_eq_true rfl) dX7_mark_37 hf (fun r37 μ37 _ hf => ?_)
          refine g_istore_n (pc := 40) (i := 3) (L' := [(3, .int r37), (0, .ref (ea ε 0)), (1, .int p1), (2, .int p2)]) C dX7_mark_40 rfl (by decide) rfl ?_
          refine g_aload_n (pc := 41) (i := 0) (j := 1) C dX7_mark_41 rfl rfl ?_
          refine g_iconst (pc := 42) C dX7_mark_42 ci_3 ?_
          refine g_iload_n (pc := 43) (i := 1) (j := 2) C dX7_mark_43 rfl rfl ?_
          refine g_iconst (pc := 44) C dX7_mark_44 ci_1 ?_
          refine g_icmp_ne (pc := 45) (tgt := 53) C dX7_mark_45 rfl hf (fun _ hf => ?_) (fun _ hf => ?_)
          · refine g_bipush (pc := 53) C dX7_mark_53 cb_8 ?_
            exact g_at [0] rfl (b55 r37 (8 : Int32) (3 : Int32) μ37 hf)
          · refine g_bipush (pc := 48) C dX7_mark_48 cb_9 ?_
            refine g_goto (pc := 50) (tgt := 55) C dX7_mark_50 rfl ?_
            exact g_at [0] rfl (b55 r37 (9 : Int32) (3 : Int32) μ37 hf)
        · refine g_bipush (pc := 29) C dX7_mark_29 cb_m4 ?_
          exact g_iretw (pc := 31) C hQ dX7_mark_31 hf
      · refine g_bipush (pc := 16) C dX7_mark_16 cb_m2 ?_
        exact g_iretw (pc := 18) C hQ dX7_mark_18 hf
theorem dX7_report_0 : decode cX7_report 0 = .ok (.iload_n 1, 1) := by decide +kernel
theorem dX7_report_1 : decode cX7_report 1 = .ok (.ifCond .lt 20, 3) := by decide +kernel
theorem dX7_report_4 : decode cX7_report 4 = .ok (.iload_n 1, 1) := by decide +kernel
theorem dX7_report_5 : decode cX7_report 5 = .ok (.aload_n 0, 1) := by decide +kernel
theorem dX7_report_6 : decode cX7_report 6 = .ok (.getfield 51, 3) := by decide +kernel
theorem dX7_report_9 : decode cX7_report 9 = .ok (.if_icmp .ge 12, 3) := by decide +kernel
theorem dX7_report_12 : decode cX7_report 12 = .ok (.aload_n 0, 1) := by decide +kernel
theorem dX7_report_13 : decode cX7_report 13 = .ok (.getfield 48, 3) := by decide +kernel
theorem dX7_report_16 : decode cX7_report 16 = .ok (.iload_n 1, 1) := by decide +kernel
theorem dX7_report_17 : decode cX7_report 17 = .ok (.iaload, 1) := by decide +kernel
theorem dX7_report_18 : decode cX7_report 18 = .ok (.goto 5, 3) := by decide +kernel
theorem dX7_report_21 : decode cX7_report 21 = .ok (.bipush (-9), 2) := by decide +kernel
theorem dX7_report_23 : decode cX7_report 23 = .ok (.ireturn, 1) := by decide +kernel
def fX7_report (p1 : Int32) (μ : Mm) : Option Int32 := (if p1 < 0 then some (-9 : Int32) else (if (μ.1 0 7) ≤ p1 then some (-9 : Int32) else (if inb p1 6 = true then some (μ.1 7 (Int32.toNatClampNeg p1)) else none)))
set_option maxRecDepth 100000 in
set_option maxHeartbeats 4000000 in
theorem kX7_report (l : Launch) (ε : Ev) (p1 : Int32) (μ : Mm) (out : Int32) (hf : fX7_report p1 μ = some out) : Sp l ε layX yX7_report cX7_report 2 (some .int) 0 [.ref (ea ε 0), .int p1] (some (.int out)) μ μ := by
  refine Sp.of [(0, .ref (ea ε 0)), (1, .int p1)] rfl (by decide +kernel) (Nat.le_of_ble_eq_true rfl) ?_
  intro κ hκ C E hQ
  subst hκ
  replace C : Cf κ cX7_report 2 RX7 (some .int) 0 := C
  refine g_iload_n (pc := 0) (i := 1) (j := 1) C dX7_report_0 rfl rfl ?_
  refine g_if_lt (pc := 1) (tgt := 21) C dX7_report_1 rfl hf (fun _ hf => ?_) (fun _ hf => ?_)
  · refine g_bipush (pc := 21) C dX7_report_21 cb_m9 ?_
    exact g_iretr (pc := 23) C hQ dX7_report_23 hf
  · refine g_iload_n (pc := 4) (i := 1) (j := 1) C dX7_report_4 rfl rfl ?_
    refine g_aload_n (pc := 5) (i := 0) (j := 0) C dX7_report_5 rfl rfl ?_
    refine g_geti (pc := 6) C E fdX7_51 layX_0_7 dX7_report_6 ?_
    refine g_icmp_ge (pc := 9) (tgt := 21) C dX7_report_9 rfl hf (fun _ hf => ?_) (fun _ hf => ?_)
    · refine g_bipush (pc := 21) C dX7_report_21 cb_m9 ?_
      exact g_iretr (pc := 23) C hQ dX7_report_23 hf
    · refine g_aload_n (pc := 12) (i := 0) (j := 0) C dX7_report_12 rfl rfl ?_
      refine g_getr (pc := 13) (j := 7) C E fdX7_48 layX_0_6 dX7_report_13 ?_
      refine g_iload_n (pc := 16) (i := 1) (j := 1) C dX7_report_16 rfl rfl ?_
      refine g_iald (pc := 17) C E layX_7 dX7_report_17 hf (fun hf => ?_)
      refine g_goto (pc := 18) (tgt := 23) C dX7_report_18 rfl ?_
      exact g_iretr (pc := 23) C hQ dX7_report_23 hf
theorem dX7_same_0 : decode cX7_same 0 = .ok (.iload_n 1, 1) := by decide +kernel
theorem dX7_same_1 : decode cX7_same 1 = .ok (.invokestatic 76, 3) := by decide +kernel
theorem dX7_same_4 : decode cX7_same 4 = .ok (.ifCond .eq 10, 3) := by decide +kernel
theorem dX7_same_7 : decode cX7_same 7 = .ok (.iload_n 2, 1) := by decide +kernel
theorem dX7_same_8 : decode cX7_same 8 = .ok (.invokestatic 76, 3) := by decide +kernel
theorem dX7_same_11 : decode cX7_same 11 = .ok (.ifCond .ne 5, 3) := by decide +kernel
theorem dX7_same_14 : decode cX7_same 14 = .ok (.iconst (-1), 1) := by decide +kernel
theorem dX7_same_15 : decode cX7_same 15 = .ok (.ireturn, 1) := by decide +kernel
theorem dX7_same_16 : decode cX7_same 16 = .ok (.aload_n 0, 1) := by decide +kernel
theorem dX7_same_17 : decode cX7_same 17 = .ok (.iload_n 1, 1) := by decide +kernel
theorem dX7_same_18 : decode cX7_same 18 = .ok (.invokevirtual 129, 3) := by decide +kernel
theorem dX7_same_21 : decode cX7_same 21 = .ok (.ifCond .eq 22, 3) := by decide +kernel
theorem dX7_same_24 : decode cX7_same 24 = .ok (.aload_n 0, 1) := by decide +kernel
theorem dX7_same_25 : decode cX7_same 25 = .ok (.getfield 44, 3) := by decide +kernel
theorem dX7_same_28 : decode cX7_same 28 = .ok (.iload_n 1, 1) := by decide +kernel
theorem dX7_same_29 : decode cX7_same 29 = .ok (.iaload, 1) := by decide +kernel
theorem dX7_same_30 : decode cX7_same 30 = .ok (.aload_n 0, 1) := by decide +kernel
theorem dX7_same_31 : decode cX7_same 31 = .ok (.getfield 44, 3) := by decide +kernel
theorem dX7_same_34 : decode cX7_same 34 = .ok (.iload_n 2, 1) := by decide +kernel
theorem dX7_same_35 : decode cX7_same 35 = .ok (.iaload, 1) := by decide +kernel
theorem dX7_same_36 : decode cX7_same 36 = .ok (.if_icmp .ne 7, 3) := by decide +kernel
theorem dX7_same_39 : decode cX7_same 39 = .ok (.iconst 1, 1) := by decide +kernel
theorem dX7_same_40 : decode cX7_same 40 = .ok (.goto 4, 3) := by decide +kernel
theorem dX7_same_43 : decode cX7_same 43 = .ok (.iconst 0, 1) := by decide +kernel
theorem dX7_same_44 : decode cX7_same 44 = .ok (.ireturn, 1) := by decide +kernel
def fX7_same (p1 : Int32) (p2 : Int32) (μ : Mm) : Option Int32 := ((fX7_isSlot p1).bind fun r1 => (if r1 = 0 then some (-1 : Int32) else ((fX7_isSlot p2).bind fun r8 => (if r8 = 0 then some (-1 : Int32) else ((fX7_holdsArray p1 μ).bind fun r18 => (if r18 = 0 then some (0 : Int32) else (if inb p1 10 = true then (if inb p2 10 = true then (if (μ.1 6 (Int32.toNatClampNeg p1)) = (μ.1 6 (Int32.toNatClampNeg p2)) then some (1 : Int32) else some (0 : Int32)) else none) else none)))))))
set_option maxRecDepth 100000 in
set_option maxHeartbeats 4000000 in
theorem kX7_same (l : Launch) (ε : Ev) (p1 : Int32) (p2 : Int32) (μ : Mm) (out : Int32) (hf : fX7_same p1 p2 μ = some out) : Sp l ε layX yX7_same cX7_same 3 (some .int) 2 [.ref (ea ε 0), .int p1, .int p2] (some (.int out)) μ μ := by
  refine Sp.of [(0, .ref (ea ε 0)), (1, .int p1), (2, .int p2)] rfl (by decide +kernel) (Nat.le_of_ble_eq_true rfl) ?_
  intro κ hκ C E hQ
  subst hκ
  replace C : Cf κ cX7_same 3 RX7 (some .int) 2 := C
  refine g_iload_n (pc := 0) (i := 1) (j := 1) C dX7_same_0 rfl rfl ?_
  refine g_cpi (pc := 1) (st := []) C lkX7_76 (As := [.int p1]) rfl (fun out h => kX7_isSlot (kl κ) p1 out h) (by decide) rfl (Nat.le_of_ble_eq_true rfl) dX7_same_1 hf (fun r1 _ hf => ?_)
  refine g_if_eq (pc := 4) (tgt := 14) C dX7_same_4 rfl hf (fun _ hf => ?_) (fun _ hf => ?_)
  · refine g_iconst (pc := 14) C dX7_same_14 ci_m1 ?_
    exact g_iretr (pc := 15) C hQ dX7_same_15 hf
  · refine g_iload_n (pc := 7) (i := 2) (j := 2) C dX7_same_7 rfl rfl ?_
    refine g_cpi (pc := 8) (st := []) C lkX7_76 (As := [.int p2]) rfl (fun out h => kX7_isSlot (kl κ) p2 out h) (by decide) rfl (Nat.le_of_ble_eq_true rfl) dX7_same_8 hf (fun r8 _ hf => ?_)
    refine g_if_ne (pc := 11) (tgt := 16) C dX7_same_11 rfl hf (fun _ hf => ?_) (fun _ hf => ?_)
    · refine g_aload_n (pc := 16) (i := 0) (j := 0) C dX7_same_16 rfl rfl ?_
      refine g_iload_n (pc := 17) (i := 1) (j := 1) C dX7_same_17 rfl rfl ?_
      refine g_cri (pc := 18) (st := []) C E layX_0 lkX7_129 (As := [.int p1]) rfl (fun out h => kX7_holdsArray (kl κ) ε p1 μ out h) (by decide) rfl (Nat.le_of_ble_eq_true rfl) dX7_same_18 hf (fun r18 _ hf => ?_)
      refine g_if_eq (pc := 21) (tgt := 43) C dX7_same_21 rfl hf (fun _ hf => ?_) (fun _ hf => ?_)
      · refine g_iconst (pc := 43) C dX7_same_43 ci_0 ?_
        exact g_iretr (pc := 44) C hQ dX7_same_44 hf
      · refine g_aload_n (pc := 24) (i := 0) (j := 0) C dX7_same_24 rfl rfl ?_
        refine g_getr (pc := 25) (j := 6) C E fdX7_44 layX_0_5 dX7_same_25 ?_
        refine g_iload_n (pc := 28) (i := 1) (j := 1) C dX7_same_28 rfl rfl ?_
        refine g_iald (pc := 29) C E layX_6 dX7_same_29 hf (fun hf => ?_)
        refine g_aload_n (pc := 30) (i := 0) (j := 0) C dX7_same_30 rfl rfl ?_
        refine g_getr (pc := 31) (j := 6) C E fdX7_44 layX_0_5 dX7_same_31 ?_
        refine g_iload_n (pc := 34) (i := 2) (j := 2) C dX7_same_34 rfl rfl ?_
        refine g_iald (pc := 35) C E layX_6 dX7_same_35 hf (fun hf => ?_)
        refine g_icmp_ne (pc := 36) (tgt := 43) C dX7_same_36 rfl hf (fun _ hf => ?_) (fun _ hf => ?_)
        · refine g_iconst (pc := 43) C dX7_same_43 ci_0 ?_
          exact g_iretr (pc := 44) C hQ dX7_same_44 hf
        · refine g_iconst (pc := 39) C dX7_same_39 ci_1 ?_
          refine g_goto (pc := 40) (tgt := 44) C dX7_same_40 rfl ?_
          exact g_iretr (pc := 44) C hQ dX7_same_44 hf
    · refine g_iconst (pc := 14) C dX7_same_14 ci_m1 ?_
      exact g_iretr (pc := 15) C hQ dX7_same_15 hf
theorem dX7_scatter_0 : decode cX7_scatter 0 = .ok (.iload_n 1, 1) := by decide +kernel
theorem dX7_scatter_1 : decode cX7_scatter 1 = .ok (.invokestatic 76, 3) := by decide +kernel
theorem dX7_scatter_4 : decode cX7_scatter 4 = .ok (.ifCond .ne 5, 3) := by decide +kernel
theorem dX7_scatter_7 : decode cX7_scatter 7 = .ok (.iconst (-1), 1) := by decide +kernel
theorem dX7_scatter_8 : decode cX7_scatter 8 = .ok (.ireturn, 1) := by decide +kernel
theorem dX7_scatter_9 : decode cX7_scatter 9 = .ok (.aload_n 0, 1) := by decide +kernel
theorem dX7_scatter_10 : decode cX7_scatter 10 = .ok (.iload_n 1, 1) := by decide +kernel
theorem dX7_scatter_11 : decode cX7_scatter 11 = .ok (.invokevirtual 125, 3) := by decide +kernel
theorem dX7_scatter_14 : decode cX7_scatter 14 = .ok (.istore 4, 2) := by decide +kernel
theorem dX7_scatter_16 : decode cX7_scatter 16 = .ok (.iload 4, 2) := by decide +kernel
theorem dX7_scatter_18 : decode cX7_scatter 18 = .ok (.invokestatic 158, 3) := by decide +kernel
theorem dX7_scatter_21 : decode cX7_scatter 21 = .ok (.ifCond .ne 6, 3) := by decide +kernel
theorem dX7_scatter_24 : decode cX7_scatter 24 = .ok (.bipush (-3), 2) := by decide +kernel
theorem dX7_scatter_26 : decode cX7_scatter 26 = .ok (.ireturn, 1) := by decide +kernel
theorem dX7_scatter_27 : decode cX7_scatter 27 = .ok (.aload_n 0, 1) := by decide +kernel
theorem dX7_scatter_28 : decode cX7_scatter 28 = .ok (.getfield 44, 3) := by decide +kernel
theorem dX7_scatter_31 : decode cX7_scatter 31 = .ok (.iload_n 1, 1) := by decide +kernel
theorem dX7_scatter_32 : decode cX7_scatter 32 = .ok (.iaload, 1) := by decide +kernel
theorem dX7_scatter_33 : decode cX7_scatter 33 = .ok (.istore 5, 2) := by decide +kernel
theorem dX7_scatter_35 : decode cX7_scatter 35 = .ok (.aload_n 0, 1) := by decide +kernel
theorem dX7_scatter_36 : decode cX7_scatter 36 = .ok (.getfield 19, 3) := by decide +kernel
theorem dX7_scatter_39 : decode cX7_scatter 39 = .ok (.getfield 132, 3) := by decide +kernel
theorem dX7_scatter_42 : decode cX7_scatter 42 = .ok (.iload 5, 2) := by decide +kernel
theorem dX7_scatter_44 : decode cX7_scatter 44 = .ok (.iaload, 1) := by decide +kernel
theorem dX7_scatter_45 : decode cX7_scatter 45 = .ok (.istore 6, 2) := by decide +kernel
theorem dX7_scatter_47 : decode cX7_scatter 47 = .ok (.aload_n 0, 1) := by decide +kernel
theorem dX7_scatter_48 : decode cX7_scatter 48 = .ok (.getfield 26, 3) := by decide +kernel
theorem dX7_scatter_51 : decode cX7_scatter 51 = .ok (.iload 5, 2) := by decide +kernel
theorem dX7_scatter_53 : decode cX7_scatter 53 = .ok (.aload_n 0, 1) := by decide +kernel
theorem dX7_scatter_54 : decode cX7_scatter 54 = .ok (.getfield 19, 3) := by decide +kernel
theorem dX7_scatter_57 : decode cX7_scatter 57 = .ok (.invokevirtual 210, 3) := by decide +kernel
theorem dX7_scatter_60 : decode cX7_scatter 60 = .ok (.lload_n 2, 1) := by decide +kernel
theorem dX7_scatter_61 : decode cX7_scatter 61 = .ok (.lstore 7, 2) := by decide +kernel
theorem dX7_scatter_63 : decode cX7_scatter 63 = .ok (.iconst 0, 1) := by decide +kernel
theorem dX7_scatter_64 : decode cX7_scatter 64 = .ok (.istore 9, 2) := by decide +kernel
theorem dX7_scatter_66 : decode cX7_scatter 66 = .ok (.iload 9, 2) := by decide +kernel
theorem dX7_scatter_68 : decode cX7_scatter 68 = .ok (.iload 6, 2) := by decide +kernel
theorem dX7_scatter_70 : decode cX7_scatter 70 = .ok (.if_icmp .ge 44, 3) := by decide +kernel
theorem dX7_scatter_73 : decode cX7_scatter 73 = .ok (.lload 7, 2) := by decide +kernel
theorem dX7_scatter_75 : decode cX7_scatter 75 = .ok (.ldc2_w 217, 3) := by decide +kernel
theorem dX7_scatter_78 : decode cX7_scatter 78 = .ok (.lmul, 1) := by decide +kernel
theorem dX7_scatter_79 : decode cX7_scatter 79 = .ok (.ldc2_w 219, 3) := by decide +kernel
theorem dX7_scatter_82 : decode cX7_scatter 82 = .ok (.ladd, 1) := by decide +kernel
theorem dX7_scatter_83 : decode cX7_scatter 83 = .ok (.lstore 7, 2) := by decide +kernel
theorem dX7_scatter_85 : decode cX7_scatter 85 = .ok (.aload_n 0, 1) := by decide +kernel
theorem dX7_scatter_86 : decode cX7_scatter 86 = .ok (.getfield 19, 3) := by decide +kernel
theorem dX7_scatter_89 : decode cX7_scatter 89 = .ok (.iload 5, 2) := by decide +kernel
theorem dX7_scatter_91 : decode cX7_scatter 91 = .ok (.iload 9, 2) := by decide +kernel
theorem dX7_scatter_93 : decode cX7_scatter 93 = .ok (.iload 4, 2) := by decide +kernel
theorem dX7_scatter_95 : decode cX7_scatter 95 = .ok (.iload 4, 2) := by decide +kernel
theorem dX7_scatter_97 : decode cX7_scatter 97 = .ok (.lload 7, 2) := by decide +kernel
theorem dX7_scatter_99 : decode cX7_scatter 99 = .ok (.bipush 20, 2) := by decide +kernel
theorem dX7_scatter_101 : decode cX7_scatter 101 = .ok (.lshr, 1) := by decide +kernel
theorem dX7_scatter_102 : decode cX7_scatter 102 = .ok (.invokestatic 161, 3) := by decide +kernel
theorem dX7_scatter_105 : decode cX7_scatter 105 = .ok (.invokevirtual 102, 3) := by decide +kernel
theorem dX7_scatter_108 : decode cX7_scatter 108 = .ok (.iinc 9 1, 3) := by decide +kernel
theorem dX7_scatter_111 : decode cX7_scatter 111 = .ok (.goto (-45), 3) := by decide +kernel
theorem dX7_scatter_114 : decode cX7_scatter 114 = .ok (.iload 6, 2) := by decide +kernel
theorem dX7_scatter_116 : decode cX7_scatter 116 = .ok (.ireturn, 1) := by decide +kernel
def fX7_scatter_b66 : Nat → Int32 → Int32 → Int32 → Int64 → Int32 → Mm → Option (Int32 × Mm)
  | 0, _, _, _, _, _, _ => none
  | n + 1, v4, v5, v6, v7, v9, μ => (if v6 ≤ v9 then some (v6, μ) else ((fX2_made v4 (jlshr ((v7 * (6364136223846793005 : Int64)) + (1442695040888963407 : Int64)) (20 : Int32))).bind fun r102 => ((fX5_set v5 v9 v4 r102 μ).bind fun μ105 => (fX7_scatter_b66 n) v4 v5 v6 ((v7 * (6364136223846793005 : Int64)) + (1442695040888963407 : Int64)) (v9 + (1 : Int32)) μ105)))
def fX7_scatter (p1 : Int32) (p2 : Int64) (μ : Mm) : Option (Int32 × Mm) := ((fX7_isSlot p1).bind fun r1 => (if r1 = 0 then some ((-1 : Int32), μ) else ((fX7_thingIn p1 μ).bind fun r11 => ((fX7_isPrimitive r11).bind fun r18 => (if r18 = 0 then some ((-3 : Int32), μ) else (if inb p1 10 = true then (if inb (μ.1 6 (Int32.toNatClampNeg p1)) 26 = true then ((fX0_keepCells (μ.1 6 (Int32.toNatClampNeg p1)) μ).bind fun μ57 => fX7_scatter_b66 100 r11 (μ.1 6 (Int32.toNatClampNeg p1)) (μ.1 12 (Int32.toNatClampNeg (μ.1 6 (Int32.toNatClampNeg p1)))) p2 (0 : Int32) μ57) else none) else none))))))
set_option maxRecDepth 100000 in
set_option maxHeartbeats 4000000 in
theorem kX7_scatter (l : Launch) (ε : Ev) (p1 : Int32) (p2 : Int64) (μ : Mm) (out : (Int32 × Mm)) (hf : fX7_scatter p1 p2 μ = some out) : Sp l ε layX yX7_scatter cX7_scatter 10 (some .int) 5 [.ref (ea ε 0), .int p1, .long p2] (some (.int out.1)) μ out.2 := by
  refine Sp.of [(0, .ref (ea ε 0)), (1, .int p1), (2, .long p2)] rfl (by decide +kernel) (Nat.le_of_ble_eq_true rfl) ?_
  intro κ hκ C E hQ
  subst hκ
  replace C : Cf κ cX7_scatter 10 RX7 (some .int) 5 := C
  have b66 : ∀ (n : Nat) (v4 : Int32) (v5 : Int32) (v6 : Int32) (v7 : Int64) (v9 : Int32) (μ : Mm) , fX7_scatter_b66 n v4 v5 v6 v7 v9 μ = some out → G κ (Vw κ ε layX μ) 10 66 [(0, .ref (ea ε 0)), (4, .int v4), (5, .int v5), (6, .int v6), (7, .long v7), (9, .int v9)] [] := by
    intro n
    induction n with
    | zero => intro v4 v5 v6 v7 v9 μ hf; exact none_ne hf
    | succ n ih =>
      intro v4 v5 v6 v7 v9 μ hf
      refine g_iload (pc := 66) (i := 9) (j := 5) C dX7_scatter_66 rfl ?_
      refine g_iload (pc := 68) (i := 6) (j := 3) C dX7_scatter_68 rfl ?_
      refine g_icmp_ge (pc := 70) (tgt := 114) C dX7_scatter_70 rfl hf (fun _ hf => ?_) (fun _ hf => ?_)
      · refine g_iload (pc := 114) (i := 6) (j := 3) C dX7_scatter_114 rfl ?_
        exact g_iretw (pc := 116) C hQ dX7_scatter_116 hf
      · refine g_lload (pc := 73) (i := 7) (j := 4) C dX7_scatter_73 rfl ?_
        refine g_ldc2 (pc := 75) C cnX7_217 dX7_scatter_75 ?_
        refine g_lmul (pc := 78) C dX7_scatter_78 ?_
        refine g_ldc2 (pc := 79) C cnX7_219 dX7_scatter_79 ?_
        refine g_ladd (pc := 82) C dX7_scatter_82 ?_
        refine g_lstore (pc := 83) (i := 7) (L' := [(7, .long ((v7 * (6364136223846793005 : Int64)) + (1442695040888963407 : Int64))), (0, .ref (ea ε 0)), (4, .int v4), (5, .int v5), (6, .int v6), (9, .int v9)]) C dX7_scatter_83 (by decide) rfl ?_
        refine g_aload_n (pc := 85) (i := 0) (j := 1) C dX7_scatter_85 rfl rfl ?_
        refine g_getr (pc := 86) (j := 2) C E fdX7_19 layX_0_1 dX7_scatter_86 ?_
        refine g_iload (pc := 89) (i := 5) (j := 3) C dX7_scatter_89 rfl ?_
        refine g_iload (pc := 91) (i := 9) (j := 5) C dX7_scatter_91 rfl ?_
        refine g_iload (pc := 93) (i := 4) (j := 2) C dX7_scatter_93 rfl ?_
        refine g_iload (pc := 95) (i := 4) (j := 2) C dX7_scatter_95 rfl ?_
        refine g_lload (pc := 97) (i := 7) (j := 0) C dX7_scatter_97 rfl ?_
        refine g_bipush (pc := 99) C dX7_scatter_99 cb_20 ?_
        refine g_lshr (pc := 101) C dX7_scatter_101 ?_
        refine g_cpl (pc := 102) (st := [.int v4, .int v9, .int v5, .ref (ea ε 2)]) C lkX7_161 (As := [.int v4, .long (jlshr ((v7 * (6364136223846793005 : Int64)) + (1442695040888963407 : Int64)) (20 : Int32))]) rfl (fun out h => kX2_made (kl κ) v4 (jlshr ((v7 * (6364136223846793005 : Int64)) + (1442695040888963407 : Int64)) (20 : Int32)) out h) (by decide) rfl (Nat.le_of_ble_eq_true rfl) dX7_scatter_102 hf (fun r102 _ hf => ?_)
        refine g_cwv (pc := 105) (st := []) C E layX_2 lkX7_102 (As := [.int v5, .int v9, .int v4, .long r102]) rfl (fun out h => kX5_set (kl κ) ε v5 v9 v4 r102 μ out h) (by decide) rfl (Nat.le_of_ble_eq_true rfl) dX7_scatter_105 hf (fun μ105 _ hf => ?_)
        refine g_iinc (pc := 108) (i := 9) (j := 5) (v := (v9 + (1 : Int32))) (L' := [(9, .int (v9 + (1 : Int32))), (7, .long ((v7 * (6364136223846793005 : Int64)) + (1442695040888963407 : Int64))), (0, .ref (ea ε 0)), (4, .int v4), (5, .int v5), (6, .int v6)]) C dX7_scatter_108 rfl (cx_1 _) (by decide) rfl ?_
        refine g_goto (pc := 111) (tgt := 66) C dX7_scatter_111 rfl ?_
        exact g_at [2, 3, 4, 5, 1, 0] rfl (ih v4 v5 v6 ((v7 * (6364136223846793005 : Int64)) + (1442695040888963407 : Int64)) (v9 + (1 : Int32)) μ105 hf)
  refine g_iload_n (pc := 0) (i := 1) (j := 1) C dX7_scatter_0 rfl rfl ?_
  refine g_cpi (pc := 1) (st := []) C lkX7_76 (As := [.int p1]) rfl (fun out h => kX7_isSlot (kl κ) p1 out h) (by decide) rfl (Nat.le_of_ble_eq_true rfl) dX7_scatter_1 hf (fun r1 _ hf => ?_)
  refine g_if_ne (pc := 4) (tgt := 9) C dX7_scatter_4 rfl hf (fun _ hf => ?_) (fun _ hf => ?_)
  · refine g_aload_n (pc := 9) (i := 0) (j := 0) C dX7_scatter_9 rfl rfl ?_
    refine g_iload_n (pc := 10) (i := 1) (j := 1) C dX7_scatter_10 rfl rfl ?_
    refine g_cri (pc := 11) (st := []) C E layX_0 lkX7_125 (As := [.int p1]) rfl (fun out h => kX7_thingIn (kl κ) ε p1 μ out h) (by decide) rfl (Nat.le_of_ble_eq_true rfl) dX7_scatter_11 hf (fun r11 _ hf => ?_)
    refine g_istore (pc := 14) (i := 4) (L' := [(4, .int r11), (0, .ref (ea ε 0)), (1, .int p1), (2, .long p2)]) C dX7_scatter_14 (by decide) rfl ?_
    refine g_iload (pc := 16) (i := 4) (j := 0) C dX7_scatter_16 rfl ?_
    refine g_cpi (pc := 18) (st := []) C lkX7_158 (As := [.int r11]) rfl (fun out h => kX7_isPrimitive (kl κ) r11 out h) (by decide) rfl (Nat.le_of_ble_eq_true rfl) dX7_scatter_18 hf (fun r18 _ hf => ?_)
    refine g_if_ne (pc := 21) (tgt := 27) C dX7_scatter_21 rfl hf (fun _ hf => ?_) (fun _ hf => ?_)
    · refine g_aload_n (pc := 27) (i := 0) (j := 1) C dX7_scatter_27 rfl rfl ?_
      refine g_getr (pc := 28) (j := 6) C E fdX7_44 layX_0_5 dX7_scatter_28 ?_
      refine g_iload_n (pc := 31) (i := 1) (j := 2) C dX7_scatter_31 rfl rfl ?_
      refine g_iald (pc := 32) C E layX_6 dX7_scatter_32 hf (fun hf => ?_)
      refine g_istore (pc := 33) (i := 5) (L' := [(5, .int (μ.1 6 (Int32.toNatClampNeg p1))), (4, .int r11), (0, .ref (ea ε 0)), (1, .int p1), (2, .long p2)]) C dX7_scatter_33 (by decide) rfl ?_
      refine g_aload_n (pc := 35) (i := 0) (j := 2) C dX7_scatter_35 rfl rfl ?_
      refine g_getr (pc := 36) (j := 2) C E fdX7_19 layX_0_1 dX7_scatter_36 ?_
      refine g_getr (pc := 39) (j := 12) C E fdX7_132 layX_2_1 dX7_scatter_39 ?_
      refine g_iload (pc := 42) (i := 5) (j := 0) C dX7_scatter_42 rfl ?_
      refine g_iald (pc := 44) C E layX_12 dX7_scatter_44 hf (fun hf => ?_)
      refine g_istore (pc := 45) (i := 6) (L' := [(6, .int (μ.1 12 (Int32.toNatClampNeg (μ.1 6 (Int32.toNatClampNeg p1))))), (5, .int (μ.1 6 (Int32.toNatClampNeg p1))), (4, .int r11), (0, .ref (ea ε 0)), (1, .int p1), (2, .long p2)]) C dX7_scatter_45 (by decide) rfl ?_
      refine g_aload_n (pc := 47) (i := 0) (j := 3) C dX7_scatter_47 rfl rfl ?_
      refine g_getr (pc := 48) (j := 3) C E fdX7_26 layX_0_2 dX7_scatter_48 ?_
      refine g_iload (pc := 51) (i := 5) (j := 1) C dX7_scatter_51 rfl ?_
      refine g_aload_n (pc := 53) (i := 0) (j := 3) C dX7_scatter_53 rfl rfl ?_
      refine g_getr (pc := 54) (j := 2) C E fdX7_19 layX_0_1 dX7_scatter_54 ?_
      refine g_cwv (pc := 57) (st := []) C E layX_3 lkX7_210 (As := [.int (μ.1 6 (Int32.toNatClampNeg p1)), .ref (ea ε 2)]) rfl (fun out h => kX0_keepCells (kl κ) ε (μ.1 6 (Int32.toNatClampNeg p1)) μ out h) (by decide) rfl (Nat.le_of_ble_eq_true rfl) dX7_scatter_57 hf (fun μ57 _ hf => ?_)
      refine g_lload_n (pc := 60) (i := 2) (j := 5) C dX7_scatter_60 rfl rfl ?_
      refine g_lstore (pc := 61) (i := 7) (L' := [(7, .long p2), (6, .int (μ.1 12 (Int32.toNatClampNeg (μ.1 6 (Int32.toNatClampNeg p1))))), (5, .int (μ.1 6 (Int32.toNatClampNeg p1))), (4, .int r11), (0, .ref (ea ε 0)), (1, .int p1), (2, .long p2)]) C dX7_scatter_61 (by decide) rfl ?_
      refine g_iconst (pc := 63) C dX7_scatter_63 ci_0 ?_
      refine g_istore (pc := 64) (i := 9) (L' := [(9, .int (0 : Int32)), (7, .long p2), (6, .int (μ.1 12 (Int32.toNatClampNeg (μ.1 6 (Int32.toNatClampNeg p1))))), (5, .int (μ.1 6 (Int32.toNatClampNeg p1))), (4, .int r11), (0, .ref (ea ε 0)), (1, .int p1), (2, .long p2)]) C dX7_scatter_64 (by decide) rfl ?_
      exact g_at [5, 4, 3, 2, 1, 0] rfl (b66 100 r11 (μ.1 6 (Int32.toNatClampNeg p1)) (μ.1 12 (Int32.toNatClampNeg (μ.1 6 (Int32.toNatClampNeg p1)))) p2 (0 : Int32) μ57 hf)
    · refine g_bipush (pc := 24) C dX7_scatter_24 cb_m3 ?_
      exact g_iretw (pc := 26) C hQ dX7_scatter_26 hf
  · refine g_iconst (pc := 7) C dX7_scatter_7 ci_m1 ?_
    exact g_iretw (pc := 8) C hQ dX7_scatter_8 hf
theorem dX7_see_0 : decode cX7_see 0 = .ok (.iload_n 1, 1) := by decide +kernel
theorem dX7_see_1 : decode cX7_see 1 = .ok (.ifCond .lt 24, 3) := by decide +kernel
theorem dX7_see_4 : decode cX7_see 4 = .ok (.iload_n 1, 1) := by decide +kernel
theorem dX7_see_5 : decode cX7_see 5 = .ok (.iconst 2, 1) := by decide +kernel
theorem dX7_see_6 : decode cX7_see 6 = .ok (.if_icmp .gt 19, 3) := by decide +kernel
theorem dX7_see_9 : decode cX7_see 9 = .ok (.iload_n 2, 1) := by decide +kernel
theorem dX7_see_10 : decode cX7_see 10 = .ok (.invokestatic 158, 3) := by decide +kernel
theorem dX7_see_13 : decode cX7_see 13 = .ok (.ifCond .eq 12, 3) := by decide +kernel
theorem dX7_see_16 : decode cX7_see 16 = .ok (.iload_n 3, 1) := by decide +kernel
theorem dX7_see_17 : decode cX7_see 17 = .ok (.ifCond .lt 8, 3) := by decide +kernel
theorem dX7_see_20 : decode cX7_see 20 = .ok (.iload_n 3, 1) := by decide +kernel
theorem dX7_see_21 : decode cX7_see 21 = .ok (.iconst 5, 1) := by decide +kernel
theorem dX7_see_22 : decode cX7_see 22 = .ok (.if_icmp .le 6, 3) := by decide +kernel
theorem dX7_see_25 : decode cX7_see 25 = .ok (.bipush (-2), 2) := by decide +kernel
theorem dX7_see_27 : decode cX7_see 27 = .ok (.ireturn, 1) := by decide +kernel
theorem dX7_see_28 : decode cX7_see 28 = .ok (.aload_n 0, 1) := by decide +kernel
theorem dX7_see_29 : decode cX7_see 29 = .ok (.getfield 40, 3) := by decide +kernel
theorem dX7_see_32 : decode cX7_see 32 = .ok (.iload_n 1, 1) := by decide +kernel
theorem dX7_see_33 : decode cX7_see 33 = .ok (.iload_n 2, 1) := by decide +kernel
theorem dX7_see_34 : decode cX7_see 34 = .ok (.iload_n 3, 1) := by decide +kernel
theorem dX7_see_35 : decode cX7_see 35 = .ok (.invokevirtual 268, 3) := by decide +kernel
theorem dX7_see_38 : decode cX7_see 38 = .ok (.ifCond .eq 13, 3) := by decide +kernel
theorem dX7_see_41 : decode cX7_see 41 = .ok (.aload_n 0, 1) := by decide +kernel
theorem dX7_see_42 : decode cX7_see 42 = .ok (.getfield 40, 3) := by decide +kernel
theorem dX7_see_45 : decode cX7_see 45 = .ok (.getfield 114, 3) := by decide +kernel
theorem dX7_see_48 : decode cX7_see 48 = .ok (.goto 5, 3) := by decide +kernel
theorem dX7_see_51 : decode cX7_see 51 = .ok (.bipush (-4), 2) := by decide +kernel
theorem dX7_see_53 : decode cX7_see 53 = .ok (.ireturn, 1) := by decide +kernel
def fX7_see (p1 : Int32) (p2 : Int32) (p3 : Int32) (μ : Mm) : Option (Int32 × Mm) := (if p1 < 0 then some ((-2 : Int32), μ) else (if (2 : Int32) < p1 then some ((-2 : Int32), μ) else ((fX7_isPrimitive p2).bind fun r10 => (if r10 = 0 then some ((-2 : Int32), μ) else (if p3 < 0 then some ((-2 : Int32), μ) else (if p3 ≤ (5 : Int32) then (bnd (fX6_add p1 p2 p3 μ) fun r35 μ35 => (if r35 = 0 then some ((-4 : Int32), μ35) else some ((μ35.1 5 3), μ35))) else some ((-2 : Int32), μ)))))))
set_option maxRecDepth 100000 in
set_option maxHeartbeats 4000000 in
theorem kX7_see (l : Launch) (ε : Ev) (p1 : Int32) (p2 : Int32) (p3 : Int32) (μ : Mm) (out : (Int32 × Mm)) (hf : fX7_see p1 p2 p3 μ = some out) : Sp l ε layX yX7_see cX7_see 4 (some .int) 1 [.ref (ea ε 0), .int p1, .int p2, .int p3] (some (.int out.1)) μ out.2 := by
  refine Sp.of [(0, .ref (ea ε 0)), (1, .int p1), (2, .int p2), (3, .int p3)] rfl (by decide +kernel) (Nat.le_of_ble_eq_true rfl) ?_
  intro κ hκ C E hQ
  subst hκ
  replace C : Cf κ cX7_see 4 RX7 (some .int) 1 := C
  refine g_iload_n (pc := 0) (i := 1) (j := 1) C dX7_see_0 rfl rfl ?_
  refine g_if_lt (pc := 1) (tgt := 25) C dX7_see_1 rfl hf (fun _ hf => ?_) (fun _ hf => ?_)
  · refine g_bipush (pc := 25) C dX7_see_25 cb_m2 ?_
    exact g_iretw (pc := 27) C hQ dX7_see_27 hf
  · refine g_iload_n (pc := 4) (i := 1) (j := 1) C dX7_see_4 rfl rfl ?_
    refine g_iconst (pc := 5) C dX7_see_5 ci_2 ?_
    refine g_icmp_gt (pc := 6) (tgt := 25) C dX7_see_6 rfl hf (fun _ hf => ?_) (fun _ hf => ?_)
    · refine g_bipush (pc := 25) C dX7_see_25 cb_m2 ?_
      exact g_iretw (pc := 27) C hQ dX7_see_27 hf
    · refine g_iload_n (pc := 9) (i := 2) (j := 2) C dX7_see_9 rfl rfl ?_
      refine g_cpi (pc := 10) (st := []) C lkX7_158 (As := [.int p2]) rfl (fun out h => kX7_isPrimitive (kl κ) p2 out h) (by decide) rfl (Nat.le_of_ble_eq_true rfl) dX7_see_10 hf (fun r10 _ hf => ?_)
      refine g_if_eq (pc := 13) (tgt := 25) C dX7_see_13 rfl hf (fun _ hf => ?_) (fun _ hf => ?_)
      · refine g_bipush (pc := 25) C dX7_see_25 cb_m2 ?_
        exact g_iretw (pc := 27) C hQ dX7_see_27 hf
      · refine g_iload_n (pc := 16) (i := 3) (j := 3) C dX7_see_16 rfl rfl ?_
        refine g_if_lt (pc := 17) (tgt := 25) C dX7_see_17 rfl hf (fun _ hf => ?_) (fun _ hf => ?_)
        · refine g_bipush (pc := 25) C dX7_see_25 cb_m2 ?_
          exact g_iretw (pc := 27) C hQ dX7_see_27 hf
        · refine g_iload_n (pc := 20) (i := 3) (j := 3) C dX7_see_20 rfl rfl ?_
          refine g_iconst (pc := 21) C dX7_see_21 ci_5 ?_
          refine g_icmp_le (pc := 22) (tgt := 28) C dX7_see_22 rfl hf (fun _ hf => ?_) (fun _ hf => ?_)
          · refine g_aload_n (pc := 28) (i := 0) (j := 0) C dX7_see_28 rfl rfl ?_
            refine g_getr (pc := 29) (j := 5) C E fdX7_40 layX_0_4 dX7_see_29 ?_
            refine g_iload_n (pc := 32) (i := 1) (j := 1) C dX7_see_32 rfl rfl ?_
            refine g_iload_n (pc := 33) (i := 2) (j := 2) C dX7_see_33 rfl rfl ?_
            refine g_iload_n (pc := 34) (i := 3) (j := 3) C dX7_see_34 rfl rfl ?_
            refine g_cwi (pc := 35) (st := []) C E layX_5 lkX7_268 (As := [.int p1, .int p2, .int p3]) rfl (fun out h => kX6_add (kl κ) ε p1 p2 p3 μ out h) (by decide) rfl (Nat.le_of_ble_eq_true rfl) dX7_see_35 hf (fun r35 μ35 _ hf => ?_)
            refine g_if_eq (pc := 38) (tgt := 51) C dX7_see_38 rfl hf (fun _ hf => ?_) (fun _ hf => ?_)
            · refine g_bipush (pc := 51) C dX7_see_51 cb_m4 ?_
              exact g_iretw (pc := 53) C hQ dX7_see_53 hf
            · refine g_aload_n (pc := 41) (i := 0) (j := 0) C dX7_see_41 rfl rfl ?_
              refine g_getr (pc := 42) (j := 5) C E fdX7_40 layX_0_4 dX7_see_42 ?_
              refine g_geti (pc := 45) C E fdX7_114 layX_5_3 dX7_see_45 ?_
              refine g_goto (pc := 48) (tgt := 53) C dX7_see_48 rfl ?_
              exact g_iretw (pc := 53) C hQ dX7_see_53 hf
          · refine g_bipush (pc := 25) C dX7_see_25 cb_m2 ?_
            exact g_iretw (pc := 27) C hQ dX7_see_27 hf
theorem dX7_share_0 : decode cX7_share 0 = .ok (.iload_n 1, 1) := by decide +kernel
theorem dX7_share_1 : decode cX7_share 1 = .ok (.invokestatic 76, 3) := by decide +kernel
theorem dX7_share_4 : decode cX7_share 4 = .ok (.ifCond .eq 10, 3) := by decide +kernel
theorem dX7_share_7 : decode cX7_share 7 = .ok (.iload_n 2, 1) := by decide +kernel
theorem dX7_share_8 : decode cX7_share 8 = .ok (.invokestatic 76, 3) := by decide +kernel
theorem dX7_share_11 : decode cX7_share 11 = .ok (.ifCond .ne 5, 3) := by decide +kernel
theorem dX7_share_14 : decode cX7_share 14 = .ok (.iconst (-1), 1) := by decide +kernel
theorem dX7_share_15 : decode cX7_share 15 = .ok (.ireturn, 1) := by decide +kernel
theorem dX7_share_16 : decode cX7_share 16 = .ok (.aload_n 0, 1) := by decide +kernel
theorem dX7_share_17 : decode cX7_share 17 = .ok (.iload_n 1, 1) := by decide +kernel
theorem dX7_share_18 : decode cX7_share 18 = .ok (.invokevirtual 125, 3) := by decide +kernel
theorem dX7_share_21 : decode cX7_share 21 = .ok (.istore_n 3, 1) := by decide +kernel
theorem dX7_share_22 : decode cX7_share 22 = .ok (.aload_n 0, 1) := by decide +kernel
theorem dX7_share_23 : decode cX7_share 23 = .ok (.iload_n 2, 1) := by decide +kernel
theorem dX7_share_24 : decode cX7_share 24 = .ok (.aload_n 0, 1) := by decide +kernel
theorem dX7_share_25 : decode cX7_share 25 = .ok (.getfield 44, 3) := by decide +kernel
theorem dX7_share_28 : decode cX7_share 28 = .ok (.iload_n 1, 1) := by decide +kernel
theorem dX7_share_29 : decode cX7_share 29 = .ok (.iaload, 1) := by decide +kernel
theorem dX7_share_30 : decode cX7_share 30 = .ok (.invokevirtual 106, 3) := by decide +kernel
theorem dX7_share_33 : decode cX7_share 33 = .ok (.iload_n 3, 1) := by decide +kernel
theorem dX7_share_34 : decode cX7_share 34 = .ok (.ireturn, 1) := by decide +kernel
def fX7_share (p1 : Int32) (p2 : Int32) (μ : Mm) : Option (Int32 × Mm) := ((fX7_isSlot p1).bind fun r1 => (if r1 = 0 then some ((-1 : Int32), μ) else ((fX7_isSlot p2).bind fun r8 => (if r8 = 0 then some ((-1 : Int32), μ) else ((fX7_thingIn p1 μ).bind fun r18 => (if inb p1 10 = true then ((fX7_replace p2 (μ.1 6 (Int32.toNatClampNeg p1)) μ).bind fun μ30 => some (r18, μ30)) else none))))))
set_option maxRecDepth 100000 in
set_option maxHeartbeats 4000000 in
theorem kX7_share (l : Launch) (ε : Ev) (p1 : Int32) (p2 : Int32) (μ : Mm) (out : (Int32 × Mm)) (hf : fX7_share p1 p2 μ = some out) : Sp l ε layX yX7_share cX7_share 4 (some .int) 4 [.ref (ea ε 0), .int p1, .int p2] (some (.int out.1)) μ out.2 := by
  refine Sp.of [(0, .ref (ea ε 0)), (1, .int p1), (2, .int p2)] rfl (by decide +kernel) (Nat.le_of_ble_eq_true rfl) ?_
  intro κ hκ C E hQ
  subst hκ
  replace C : Cf κ cX7_share 4 RX7 (some .int) 4 := C
  refine g_iload_n (pc := 0) (i := 1) (j := 1) C dX7_share_0 rfl rfl ?_
  refine g_cpi (pc := 1) (st := []) C lkX7_76 (As := [.int p1]) rfl (fun out h => kX7_isSlot (kl κ) p1 out h) (by decide) rfl (Nat.le_of_ble_eq_true rfl) dX7_share_1 hf (fun r1 _ hf => ?_)
  refine g_if_eq (pc := 4) (tgt := 14) C dX7_share_4 rfl hf (fun _ hf => ?_) (fun _ hf => ?_)
  · refine g_iconst (pc := 14) C dX7_share_14 ci_m1 ?_
    exact g_iretw (pc := 15) C hQ dX7_share_15 hf
  · refine g_iload_n (pc := 7) (i := 2) (j := 2) C dX7_share_7 rfl rfl ?_
    refine g_cpi (pc := 8) (st := []) C lkX7_76 (As := [.int p2]) rfl (fun out h => kX7_isSlot (kl κ) p2 out h) (by decide) rfl (Nat.le_of_ble_eq_true rfl) dX7_share_8 hf (fun r8 _ hf => ?_)
    refine g_if_ne (pc := 11) (tgt := 16) C dX7_share_11 rfl hf (fun _ hf => ?_) (fun _ hf => ?_)
    · refine g_aload_n (pc := 16) (i := 0) (j := 0) C dX7_share_16 rfl rfl ?_
      refine g_iload_n (pc := 17) (i := 1) (j := 1) C dX7_share_17 rfl rfl ?_
      refine g_cri (pc := 18) (st := []) C E layX_0 lkX7_125 (As := [.int p1]) rfl (fun out h => kX7_thingIn (kl κ) ε p1 μ out h) (by decide) rfl (Nat.le_of_ble_eq_true rfl) dX7_share_18 hf (fun r18 _ hf => ?_)
      refine g_istore_n (pc := 21) (i := 3) (L' := [(3, .int r18), (0, .ref (ea ε 0)), (1, .int p1), (2, .int p2)]) C dX7_share_21 rfl (by decide) rfl ?_
      refine g_aload_n (pc := 22) (i := 0) (j := 1) C dX7_share_22 rfl rfl ?_
      refine g_iload_n (pc := 23) (i := 2) (j := 3) C dX7_share_23 rfl rfl ?_
      refine g_aload_n (pc := 24) (i := 0) (j := 1) C dX7_share_24 rfl rfl ?_
      refine g_getr (pc := 25) (j := 6) C E fdX7_44 layX_0_5 dX7_share_25 ?_
      refine g_iload_n (pc := 28) (i := 1) (j := 2) C dX7_share_28 rfl rfl ?_
      refine g_iald (pc := 29) C E layX_6 dX7_share_29 hf (fun hf => ?_)
      refine g_cwv (pc := 30) (st := []) C E layX_0 lkX7_106 (As := [.int p2, .int (μ.1 6 (Int32.toNatClampNeg p1))]) rfl (fun out h => kX7_replace (kl κ) ε p2 (μ.1 6 (Int32.toNatClampNeg p1)) μ out h) (by decide) rfl (Nat.le_of_ble_eq_true rfl) dX7_share_30 hf (fun μ30 _ hf => ?_)
      refine g_iload_n (pc := 33) (i := 3) (j := 0) C dX7_share_33 rfl rfl ?_
      exact g_iretw (pc := 34) C hQ dX7_share_34 hf
    · refine g_iconst (pc := 14) C dX7_share_14 ci_m1 ?_
      exact g_iretw (pc := 15) C hQ dX7_share_15 hf
theorem dX7_take_0 : decode cX7_take 0 = .ok (.iload_n 1, 1) := by decide +kernel
theorem dX7_take_1 : decode cX7_take 1 = .ok (.invokestatic 76, 3) := by decide +kernel
theorem dX7_take_4 : decode cX7_take 4 = .ok (.ifCond .ne 5, 3) := by decide +kernel
theorem dX7_take_7 : decode cX7_take 7 = .ok (.iconst (-1), 1) := by decide +kernel
theorem dX7_take_8 : decode cX7_take 8 = .ok (.ireturn, 1) := by decide +kernel
theorem dX7_take_9 : decode cX7_take 9 = .ok (.iload_n 3, 1) := by decide +kernel
theorem dX7_take_10 : decode cX7_take 10 = .ok (.invokestatic 158, 3) := by decide +kernel
theorem dX7_take_13 : decode cX7_take 13 = .ok (.ifCond .ne 6, 3) := by decide +kernel
theorem dX7_take_16 : decode cX7_take 16 = .ok (.bipush (-2), 2) := by decide +kernel
theorem dX7_take_18 : decode cX7_take 18 = .ok (.ireturn, 1) := by decide +kernel
theorem dX7_take_19 : decode cX7_take 19 = .ok (.aload_n 0, 1) := by decide +kernel
theorem dX7_take_20 : decode cX7_take 20 = .ok (.getfield 44, 3) := by decide +kernel
theorem dX7_take_23 : decode cX7_take 23 = .ok (.iload_n 1, 1) := by decide +kernel
theorem dX7_take_24 : decode cX7_take 24 = .ok (.iaload, 1) := by decide +kernel
theorem dX7_take_25 : decode cX7_take 25 = .ok (.istore 4, 2) := by decide +kernel
theorem dX7_take_27 : decode cX7_take 27 = .ok (.aload_n 0, 1) := by decide +kernel
theorem dX7_take_28 : decode cX7_take 28 = .ok (.iload_n 1, 1) := by decide +kernel
theorem dX7_take_29 : decode cX7_take 29 = .ok (.invokevirtual 125, 3) := by decide +kernel
theorem dX7_take_32 : decode cX7_take 32 = .ok (.istore 5, 2) := by decide +kernel
theorem dX7_take_34 : decode cX7_take 34 = .ok (.iload 5, 2) := by decide +kernel
theorem dX7_take_36 : decode cX7_take 36 = .ok (.iload_n 3, 1) := by decide +kernel
theorem dX7_take_37 : decode cX7_take 37 = .ok (.invokestatic 187, 3) := by decide +kernel
theorem dX7_take_40 : decode cX7_take 40 = .ok (.aload_n 0, 1) := by decide +kernel
theorem dX7_take_41 : decode cX7_take 41 = .ok (.getfield 19, 3) := by decide +kernel
theorem dX7_take_44 : decode cX7_take 44 = .ok (.iload 4, 2) := by decide +kernel
theorem dX7_take_46 : decode cX7_take 46 = .ok (.iload_n 2, 1) := by decide +kernel
theorem dX7_take_47 : decode cX7_take 47 = .ok (.invokevirtual 139, 3) := by decide +kernel
theorem dX7_take_50 : decode cX7_take 50 = .ok (.invokestatic 192, 3) := by decide +kernel
theorem dX7_take_53 : decode cX7_take 53 = .ok (.istore 6, 2) := by decide +kernel
theorem dX7_take_55 : decode cX7_take 55 = .ok (.iload 6, 2) := by decide +kernel
theorem dX7_take_57 : decode cX7_take 57 = .ok (.ifCond .ne 25, 3) := by decide +kernel
theorem dX7_take_60 : decode cX7_take 60 = .ok (.aload_n 0, 1) := by decide +kernel
theorem dX7_take_61 : decode cX7_take 61 = .ok (.iconst 1, 1) := by decide +kernel
theorem dX7_take_62 : decode cX7_take 62 = .ok (.iload_n 3, 1) := by decide +kernel
theorem dX7_take_63 : decode cX7_take 63 = .ok (.aload_n 0, 1) := by decide +kernel
theorem dX7_take_64 : decode cX7_take 64 = .ok (.getfield 19, 3) := by decide +kernel
theorem dX7_take_67 : decode cX7_take 67 = .ok (.iload 4, 2) := by decide +kernel
theorem dX7_take_69 : decode cX7_take 69 = .ok (.iload_n 2, 1) := by decide +kernel
theorem dX7_take_70 : decode cX7_take 70 = .ok (.invokevirtual 148, 3) := by decide +kernel
theorem dX7_take_73 : decode cX7_take 73 = .ok (.iload 5, 2) := by decide +kernel
theorem dX7_take_75 : decode cX7_take 75 = .ok (.iload_n 3, 1) := by decide +kernel
theorem dX7_take_76 : decode cX7_take 76 = .ok (.invokestatic 196, 3) := by decide +kernel
theorem dX7_take_79 : decode cX7_take 79 = .ok (.invokevirtual 164, 3) := by decide +kernel
theorem dX7_take_82 : decode cX7_take 82 = .ok (.iload 6, 2) := by decide +kernel
theorem dX7_take_84 : decode cX7_take 84 = .ok (.ireturn, 1) := by decide +kernel
def fX7_take (p1 : Int32) (p2 : Int32) (p3 : Int32) (μ : Mm) : Option (Int32 × Mm) := ((fX7_isSlot p1).bind fun r1 => (if r1 = 0 then some ((-1 : Int32), μ) else ((fX7_isPrimitive p3).bind fun r10 => (if r10 = 0 then some ((-2 : Int32), μ) else (if inb p1 10 = true then ((fX7_thingIn p1 μ).bind fun r29 => ((fX4_getFit r29 p3).bind fun r37 => ((fX5_has (μ.1 6 (Int32.toNatClampNeg p1)) p2 μ).bind fun r47 => ((fX4_placed r37 r47).bind fun r50 => (if r50 = 0 then ((fX5_codeAt (μ.1 6 (Int32.toNatClampNeg p1)) p2 μ).bind fun r70 => ((fX2_widened r70 r29 p3).bind fun r76 => ((fX7_hold (1 : Int32) p3 r76 μ).bind fun μ79 => some (r50, μ79)))) else some (r50, μ)))))) else none)))))
set_option maxRecDepth 100000 in
set_option maxHeartbeats 4000000 in
theorem kX7_take (l : Launch) (ε : Ev) (p1 : Int32) (p2 : Int32) (p3 : Int32) (μ : Mm) (out : (Int32 × Mm)) (hf : fX7_take p1 p2 p3 μ = some out) : Sp l ε layX yX7_take cX7_take 7 (some .int) 5 [.ref (ea ε 0), .int p1, .int p2, .int p3] (some (.int out.1)) μ out.2 := by
  refine Sp.of [(0, .ref (ea ε 0)), (1, .int p1), (2, .int p2), (3, .int p3)] rfl (by decide +kernel) (Nat.le_of_ble_eq_true rfl) ?_
  intro κ hκ C E hQ
  subst hκ
  replace C : Cf κ cX7_take 7 RX7 (some .int) 5 := C
  refine g_iload_n (pc := 0) (i := 1) (j := 1) C dX7_take_0 rfl rfl ?_
  refine g_cpi (pc := 1) (st := []) C lkX7_76 (As := [.int p1]) rfl (fun out h => kX7_isSlot (kl κ) p1 out h) (by decide) rfl (Nat.le_of_ble_eq_true rfl) dX7_take_1 hf (fun r1 _ hf => ?_)
  refine g_if_ne (pc := 4) (tgt := 9) C dX7_take_4 rfl hf (fun _ hf => ?_) (fun _ hf => ?_)
  · refine g_iload_n (pc := 9) (i := 3) (j := 3) C dX7_take_9 rfl rfl ?_
    refine g_cpi (pc := 10) (st := []) C lkX7_158 (As := [.int p3]) rfl (fun out h => kX7_isPrimitive (kl κ) p3 out h) (by decide) rfl (Nat.le_of_ble_eq_true rfl) dX7_take_10 hf (fun r10 _ hf => ?_)
    refine g_if_ne (pc := 13) (tgt := 19) C dX7_take_13 rfl hf (fun _ hf => ?_) (fun _ hf => ?_)
    · refine g_aload_n (pc := 19) (i := 0) (j := 0) C dX7_take_19 rfl rfl ?_
      refine g_getr (pc := 20) (j := 6) C E fdX7_44 layX_0_5 dX7_take_20 ?_
      refine g_iload_n (pc := 23) (i := 1) (j := 1) C dX7_take_23 rfl rfl ?_
      refine g_iald (pc := 24) C E layX_6 dX7_take_24 hf (fun hf => ?_)
      refine g_istore (pc := 25) (i := 4) (L' := [(4, .int (μ.1 6 (Int32.toNatClampNeg p1))), (0, .ref (ea ε 0)), (1, .int p1), (2, .int p2), (3, .int p3)]) C dX7_take_25 (by decide) rfl ?_
      refine g_aload_n (pc := 27) (i := 0) (j := 1) C dX7_take_27 rfl rfl ?_
      refine g_iload_n (pc := 28) (i := 1) (j := 2) C dX7_take_28 rfl rfl ?_
      refine g_cri (pc := 29) (st := []) C E layX_0 lkX7_125 (As := [.int p1]) rfl (fun out h => kX7_thingIn (kl κ) ε p1 μ out h) (by decide) rfl (Nat.le_of_ble_eq_true rfl) dX7_take_29 hf (fun r29 _ hf => ?_)
      refine g_istore (pc := 32) (i := 5) (L' := [(5, .int r29), (4, .int (μ.1 6 (Int32.toNatClampNeg p1))), (0, .ref (ea ε 0)), (1, .int p1), (2, .int p2), (3, .int p3)]) C dX7_take_32 (by decide) rfl ?_
      refine g_iload (pc := 34) (i := 5) (j := 0) C dX7_take_34 rfl ?_
      refine g_iload_n (pc := 36) (i := 3) (j := 5) C dX7_take_36 rfl rfl ?_
      refine g_cpi (pc := 37) (st := []) C lkX7_187 (As := [.int r29, .int p3]) rfl (fun out h => kX4_getFit (kl κ) r29 p3 out h) (by decide) rfl (Nat.le_of_ble_eq_true rfl) dX7_take_37 hf (fun r37 _ hf => ?_)
      refine g_aload_n (pc := 40) (i := 0) (j := 2) C dX7_take_40 rfl rfl ?_
      refine g_getr (pc := 41) (j := 2) C E fdX7_19 layX_0_1 dX7_take_41 ?_
      refine g_iload (pc := 44) (i := 4) (j := 1) C dX7_take_44 rfl ?_
      refine g_iload_n (pc := 46) (i := 2) (j := 4) C dX7_take_46 rfl rfl ?_
      refine g_cri (pc := 47) (st := [.int r37]) C E layX_2 lkX7_139 (As := [.int (μ.1 6 (Int32.toNatClampNeg p1)), .int p2]) rfl (fun out h => kX5_has (kl κ) ε (μ.1 6 (Int32.toNatClampNeg p1)) p2 μ out h) (by decide) rfl (Nat.le_of_ble_eq_true rfl) dX7_take_47 hf (fun r47 _ hf => ?_)
      refine g_cpi (pc := 50) (st := []) C lkX7_192 (As := [.int r37, .int r47]) rfl (fun out h => kX4_placed (kl κ) r37 r47 out h) (by decide) rfl (Nat.le_of_ble_eq_true rfl) dX7_take_50 hf (fun r50 _ hf => ?_)
      refine g_istore (pc := 53) (i := 6) (L' := [(6, .int r50), (5, .int r29), (4, .int (μ.1 6 (Int32.toNatClampNeg p1))), (0, .ref (ea ε 0)), (1, .int p1), (2, .int p2), (3, .int p3)]) C dX7_take_53 (by decide) rfl ?_
      refine g_iload (pc := 55) (i := 6) (j := 0) C dX7_take_55 rfl ?_
      refine g_if_ne (pc := 57) (tgt := 82) C dX7_take_57 rfl hf (fun _ hf => ?_) (fun _ hf => ?_)
      · refine g_iload (pc := 82) (i := 6) (j := 0) C dX7_take_82 rfl ?_
        exact g_iretw (pc := 84) C hQ dX7_take_84 hf
      · refine g_aload_n (pc := 60) (i := 0) (j := 3) C dX7_take_60 rfl rfl ?_
        refine g_iconst (pc := 61) C dX7_take_61 ci_1 ?_
        refine g_iload_n (pc := 62) (i := 3) (j := 6) C dX7_take_62 rfl rfl ?_
        refine g_aload_n (pc := 63) (i := 0) (j := 3) C dX7_take_63 rfl rfl ?_
        refine g_getr (pc := 64) (j := 2) C E fdX7_19 layX_0_1 dX7_take_64 ?_
        refine g_iload (pc := 67) (i := 4) (j := 2) C dX7_take_67 rfl ?_
        refine g_iload_n (pc := 69) (i := 2) (j := 5) C dX7_take_69 rfl rfl ?_
        refine g_crl (pc := 70) (st := [.int p3, .int (1 : Int32), .ref (ea ε 0)]) C E layX_2 lkX7_148 (As := [.int (μ.1 6 (Int32.toNatClampNeg p1)), .int p2]) rfl (fun out h => kX5_codeAt (kl κ) ε (μ.1 6 (Int32.toNatClampNeg p1)) p2 μ out h) (by decide) rfl (Nat.le_of_ble_eq_true rfl) dX7_take_70 hf (fun r70 _ hf => ?_)
        refine g_iload (pc := 73) (i := 5) (j := 1) C dX7_take_73 rfl ?_
        refine g_iload_n (pc := 75) (i := 3) (j := 6) C dX7_take_75 rfl rfl ?_
        refine g_cpl (pc := 76) (st := [.int p3, .int (1 : Int32), .ref (ea ε 0)]) C lkX7_196 (As := [.long r70, .int r29, .int p3]) rfl (fun out h => kX2_widened (kl κ) r70 r29 p3 out h) (by decide) rfl (Nat.le_of_ble_eq_true rfl) dX7_take_76 hf (fun r76 _ hf => ?_)
        refine g_cwv (pc := 79) (st := []) C E layX_0 lkX7_164 (As := [.int (1 : Int32), .int p3, .long r76]) rfl (fun out h => kX7_hold (kl κ) ε (1 : Int32) p3 r76 μ out h) (by decide) rfl (Nat.le_of_ble_eq_true rfl) dX7_take_79 hf (fun μ79 _ hf => ?_)
        refine g_iload (pc := 82) (i := 6) (j := 0) C dX7_take_82 rfl ?_
        exact g_iretw (pc := 84) C hQ dX7_take_84 hf
    · refine g_bipush (pc := 16) C dX7_take_16 cb_m2 ?_
      exact g_iretw (pc := 18) C hQ dX7_take_18 hf
  · refine g_iconst (pc := 7) C dX7_take_7 ci_m1 ?_
    exact g_iretw (pc := 8) C hQ dX7_take_8 hf
theorem dX7_tell_0 : decode cX7_tell 0 = .ok (.iload_n 1, 1) := by decide +kernel
theorem dX7_tell_1 : decode cX7_tell 1 = .ok (.invokestatic 76, 3) := by decide +kernel
theorem dX7_tell_4 : decode cX7_tell 4 = .ok (.ifCond .ne 5, 3) := by decide +kernel
theorem dX7_tell_7 : decode cX7_tell 7 = .ok (.iconst (-1), 1) := by decide +kernel
theorem dX7_tell_8 : decode cX7_tell 8 = .ok (.ireturn, 1) := by decide +kernel
theorem dX7_tell_9 : decode cX7_tell 9 = .ok (.aload_n 0, 1) := by decide +kernel
theorem dX7_tell_10 : decode cX7_tell 10 = .ok (.getfield 12, 3) := by decide +kernel
theorem dX7_tell_13 : decode cX7_tell 13 = .ok (.invokevirtual 72, 3) := by decide +kernel
theorem dX7_tell_16 : decode cX7_tell 16 = .ok (.bipush (-9), 2) := by decide +kernel
theorem dX7_tell_18 : decode cX7_tell 18 = .ok (.if_icmp .eq 6, 3) := by decide +kernel
theorem dX7_tell_21 : decode cX7_tell 21 = .ok (.bipush (-3), 2) := by decide +kernel
theorem dX7_tell_23 : decode cX7_tell 23 = .ok (.ireturn, 1) := by decide +kernel
theorem dX7_tell_24 : decode cX7_tell 24 = .ok (.aload_n 0, 1) := by decide +kernel
theorem dX7_tell_25 : decode cX7_tell 25 = .ok (.aload_n 0, 1) := by decide +kernel
theorem dX7_tell_26 : decode cX7_tell 26 = .ok (.getfield 12, 3) := by decide +kernel
theorem dX7_tell_29 : decode cX7_tell 29 = .ok (.getfield 79, 3) := by decide +kernel
theorem dX7_tell_32 : decode cX7_tell 32 = .ok (.aload_n 0, 1) := by decide +kernel
theorem dX7_tell_33 : decode cX7_tell 33 = .ok (.getfield 12, 3) := by decide +kernel
theorem dX7_tell_36 : decode cX7_tell 36 = .ok (.getfield 82, 3) := by decide +kernel
theorem dX7_tell_39 : decode cX7_tell 39 = .ok (.invokevirtual 85, 3) := by decide +kernel
theorem dX7_tell_42 : decode cX7_tell 42 = .ok (.istore_n 2, 1) := by decide +kernel
theorem dX7_tell_43 : decode cX7_tell 43 = .ok (.iconst 0, 1) := by decide +kernel
theorem dX7_tell_44 : decode cX7_tell 44 = .ok (.istore_n 3, 1) := by decide +kernel
theorem dX7_tell_45 : decode cX7_tell 45 = .ok (.iload_n 3, 1) := by decide +kernel
theorem dX7_tell_46 : decode cX7_tell 46 = .ok (.aload_n 0, 1) := by decide +kernel
theorem dX7_tell_47 : decode cX7_tell 47 = .ok (.getfield 12, 3) := by decide +kernel
theorem dX7_tell_50 : decode cX7_tell 50 = .ok (.getfield 82, 3) := by decide +kernel
theorem dX7_tell_53 : decode cX7_tell 53 = .ok (.if_icmp .ge 45, 3) := by decide +kernel
theorem dX7_tell_56 : decode cX7_tell 56 = .ok (.aload_n 0, 1) := by decide +kernel
theorem dX7_tell_57 : decode cX7_tell 57 = .ok (.getfield 12, 3) := by decide +kernel
theorem dX7_tell_60 : decode cX7_tell 60 = .ok (.getfield 89, 3) := by decide +kernel
theorem dX7_tell_63 : decode cX7_tell 63 = .ok (.iload_n 3, 1) := by decide +kernel
theorem dX7_tell_64 : decode cX7_tell 64 = .ok (.iaload, 1) := by decide +kernel
theorem dX7_tell_65 : decode cX7_tell 65 = .ok (.istore 4, 2) := by decide +kernel
theorem dX7_tell_67 : decode cX7_tell 67 = .ok (.aload_n 0, 1) := by decide +kernel
theorem dX7_tell_68 : decode cX7_tell 68 = .ok (.getfield 19, 3) := by decide +kernel
theorem dX7_tell_71 : decode cX7_tell 71 = .ok (.iload_n 2, 1) := by decide +kernel
theorem dX7_tell_72 : decode cX7_tell 72 = .ok (.iload_n 3, 1) := by decide +kernel
theorem dX7_tell_73 : decode cX7_tell 73 = .ok (.iload 4, 2) := by decide +kernel
theorem dX7_tell_75 : decode cX7_tell 75 = .ok (.iload 4, 2) := by decide +kernel
theorem dX7_tell_77 : decode cX7_tell 77 = .ok (.aload_n 0, 1) := by decide +kernel
theorem dX7_tell_78 : decode cX7_tell 78 = .ok (.getfield 12, 3) := by decide +kernel
theorem dX7_tell_81 : decode cX7_tell 81 = .ok (.getfield 92, 3) := by decide +kernel
theorem dX7_tell_84 : decode cX7_tell 84 = .ok (.iload_n 3, 1) := by decide +kernel
theorem dX7_tell_85 : decode cX7_tell 85 = .ok (.laload, 1) := by decide +kernel
theorem dX7_tell_86 : decode cX7_tell 86 = .ok (.invokestatic 96, 3) := by decide +kernel
theorem dX7_tell_89 : decode cX7_tell 89 = .ok (.invokevirtual 102, 3) := by decide +kernel
theorem dX7_tell_92 : decode cX7_tell 92 = .ok (.iinc 3 1, 3) := by decide +kernel
theorem dX7_tell_95 : decode cX7_tell 95 = .ok (.goto (-50), 3) := by decide +kernel
theorem dX7_tell_98 : decode cX7_tell 98 = .ok (.aload_n 0, 1) := by decide +kernel
theorem dX7_tell_99 : decode cX7_tell 99 = .ok (.iload_n 1, 1) := by decide +kernel
theorem dX7_tell_100 : decode cX7_tell 100 = .ok (.iload_n 2, 1) := by decide +kernel
theorem dX7_tell_101 : decode cX7_tell 101 = .ok (.invokevirtual 106, 3) := by decide +kernel
theorem dX7_tell_104 : decode cX7_tell 104 = .ok (.aload_n 0, 1) := by decide +kernel
theorem dX7_tell_105 : decode cX7_tell 105 = .ok (.getfield 12, 3) := by decide +kernel
theorem dX7_tell_108 : decode cX7_tell 108 = .ok (.getfield 79, 3) := by decide +kernel
theorem dX7_tell_111 : decode cX7_tell 111 = .ok (.ireturn, 1) := by decide +kernel
def fX7_tell_b45 : Nat → Int32 → Int32 → Int32 → Mm → Option (Int32 × Mm)
  | 0, _, _, _, _ => none
  | n + 1, v1, v2, v3, μ => (if (μ.1 1 3) ≤ v3 then ((fX7_replace v1 v2 μ).bind fun μ101 => some ((μ101.1 1 2), μ101)) else (if inb v3 6 = true then (if inb v3 6 = true then ((fX2_ofWhole (μ.1 9 (Int32.toNatClampNeg v3)) (μ.2 10 (Int32.toNatClampNeg v3))).bind fun r86 => ((fX5_set v2 v3 (μ.1 9 (Int32.toNatClampNeg v3)) r86 μ).bind fun μ89 => (fX7_tell_b45 n) v1 v2 (v3 + (1 : Int32)) μ89)) else none) else none))
def fX7_tell (p1 : Int32) (μ : Mm) : Option (Int32 × Mm) := ((fX7_isSlot p1).bind fun r1 => (if r1 = 0 then some ((-1 : Int32), μ) else (bnd (fX3_scan μ) fun r13 μ13 => (if r13 = (-9 : Int32) then (bnd (fX7_newRow (μ13.1 1 2) (μ13.1 1 3) μ13) fun r39 μ39 => fX7_tell_b45 100 p1 r39 (0 : Int32) μ39) else some ((-3 : Int32), μ13)))))
set_option maxRecDepth 100000 in
set_option maxHeartbeats 4000000 in
theorem kX7_tell (l : Launch) (ε : Ev) (p1 : Int32) (μ : Mm) (out : (Int32 × Mm)) (hf : fX7_tell p1 μ = some out) : Sp l ε layX yX7_tell cX7_tell 5 (some .int) 7 [.ref (ea ε 0), .int p1] (some (.int out.1)) μ out.2 := by
  refine Sp.of [(0, .ref (ea ε 0)), (1, .int p1)] rfl (by decide +kernel) (Nat.le_of_ble_eq_true rfl) ?_
  intro κ hκ C E hQ
  subst hκ
  replace C : Cf κ cX7_tell 5 RX7 (some .int) 7 := C
  have b45 : ∀ (n : Nat) (v1 : Int32) (v2 : Int32) (v3 : Int32) (μ : Mm) , fX7_tell_b45 n v1 v2 v3 μ = some out → G κ (Vw κ ε layX μ) 5 45 [(0, .ref (ea ε 0)), (1, .int v1), (2, .int v2), (3, .int v3)] [] := by
    intro n
    induction n with
    | zero => intro v1 v2 v3 μ hf; exact none_ne hf
    | succ n ih =>
      intro v1 v2 v3 μ hf
      refine g_iload_n (pc := 45) (i := 3) (j := 3) C dX7_tell_45 rfl rfl ?_
      refine g_aload_n (pc := 46) (i := 0) (j := 0) C dX7_tell_46 rfl rfl ?_
      refine g_getr (pc := 47) (j := 1) C E fdX7_12 layX_0_0 dX7_tell_47 ?_
      refine g_geti (pc := 50) C E fdX7_82 layX_1_3 dX7_tell_50 ?_
      refine g_icmp_ge (pc := 53) (tgt := 98) C dX7_tell_53 rfl hf (fun _ hf => ?_) (fun _ hf => ?_)
      · refine g_aload_n (pc := 98) (i := 0) (j := 0) C dX7_tell_98 rfl rfl ?_
        refine g_iload_n (pc := 99) (i := 1) (j := 1) C dX7_tell_99 rfl rfl ?_
        refine g_iload_n (pc := 100) (i := 2) (j := 2) C dX7_tell_100 rfl rfl ?_
        refine g_cwv (pc := 101) (st := []) C E layX_0 lkX7_106 (As := [.int v1, .int v2]) rfl (fun out h => kX7_replace (kl κ) ε v1 v2 μ out h) (by decide) rfl (Nat.le_of_ble_eq_true rfl) dX7_tell_101 hf (fun μ101 _ hf => ?_)
        refine g_aload_n (pc := 104) (i := 0) (j := 0) C dX7_tell_104 rfl rfl ?_
        refine g_getr (pc := 105) (j := 1) C E fdX7_12 layX_0_0 dX7_tell_105 ?_
        refine g_geti (pc := 108) C E fdX7_79 layX_1_2 dX7_tell_108 ?_
        exact g_iretw (pc := 111) C hQ dX7_tell_111 hf
      · refine g_aload_n (pc := 56) (i := 0) (j := 0) C dX7_tell_56 rfl rfl ?_
        refine g_getr (pc := 57) (j := 1) C E fdX7_12 layX_0_0 dX7_tell_57 ?_
        refine g_getr (pc := 60) (j := 9) C E fdX7_89 layX_1_4 dX7_tell_60 ?_
        refine g_iload_n (pc := 63) (i := 3) (j := 3) C dX7_tell_63 rfl rfl ?_
        refine g_iald (pc := 64) C E layX_9 dX7_tell_64 hf (fun hf => ?_)
        refine g_istore (pc := 65) (i := 4) (L' := [(4, .int (μ.1 9 (Int32.toNatClampNeg v3))), (0, .ref (ea ε 0)), (1, .int v1), (2, .int v2), (3, .int v3)]) C dX7_tell_65 (by decide) rfl ?_
        refine g_aload_n (pc := 67) (i := 0) (j := 1) C dX7_tell_67 rfl rfl ?_
        refine g_getr (pc := 68) (j := 2) C E fdX7_19 layX_0_1 dX7_tell_68 ?_
        refine g_iload_n (pc := 71) (i := 2) (j := 3) C dX7_tell_71 rfl rfl ?_
        refine g_iload_n (pc := 72) (i := 3) (j := 4) C dX7_tell_72 rfl rfl ?_
        refine g_iload (pc := 73) (i := 4) (j := 0) C dX7_tell_73 rfl ?_
        refine g_iload (pc := 75) (i := 4) (j := 0) C dX7_tell_75 rfl ?_
        refine g_aload_n (pc := 77) (i := 0) (j := 1) C dX7_tell_77 rfl rfl ?_
        refine g_getr (pc := 78) (j := 1) C E fdX7_12 layX_0_0 dX7_tell_78 ?_
        refine g_getr (pc := 81) (j := 10) C E fdX7_92 layX_1_5 dX7_tell_81 ?_
        refine g_iload_n (pc := 84) (i := 3) (j := 4) C dX7_tell_84 rfl rfl ?_
        refine g_lald (pc := 85) C E layX_10 dX7_tell_85 hf (fun hf => ?_)
        refine g_cpl (pc := 86) (st := [.int (μ.1 9 (Int32.toNatClampNeg v3)), .int v3, .int v2, .ref (ea ε 2)]) C lkX7_96 (As := [.int (μ.1 9 (Int32.toNatClampNeg v3)), .long (μ.2 10 (Int32.toNatClampNeg v3))]) rfl (fun out h => kX2_ofWhole (kl κ) (μ.1 9 (Int32.toNatClampNeg v3)) (μ.2 10 (Int32.toNatClampNeg v3)) out h) (by decide) rfl (Nat.le_of_ble_eq_true rfl) dX7_tell_86 hf (fun r86 _ hf => ?_)
        refine g_cwv (pc := 89) (st := []) C E layX_2 lkX7_102 (As := [.int v2, .int v3, .int (μ.1 9 (Int32.toNatClampNeg v3)), .long r86]) rfl (fun out h => kX5_set (kl κ) ε v2 v3 (μ.1 9 (Int32.toNatClampNeg v3)) r86 μ out h) (by decide) rfl (Nat.le_of_ble_eq_true rfl) dX7_tell_89 hf (fun μ89 _ hf => ?_)
        refine g_iinc (pc := 92) (i := 3) (j := 4) (v := (v3 + (1 : Int32))) (L' := [(3, .int (v3 + (1 : Int32))), (4, .int (μ.1 9 (Int32.toNatClampNeg v3))), (0, .ref (ea ε 0)), (1, .int v1), (2, .int v2)]) C dX7_tell_92 rfl (cx_1 _) (by decide) rfl ?_
        refine g_goto (pc := 95) (tgt := 45) C dX7_tell_95 rfl ?_
        exact g_at [2, 3, 4, 0] rfl (ih v1 v2 (v3 + (1 : Int32)) μ89 hf)
  refine g_iload_n (pc := 0) (i := 1) (j := 1) C dX7_tell_0 rfl rfl ?_
  refine g_cpi (pc := 1) (st := []) C lkX7_76 (As := [.int p1]) rfl (fun out h => kX7_isSlot (kl κ) p1 out h) (by decide) rfl (Nat.le_of_ble_eq_true rfl) dX7_tell_1 hf (fun r1 _ hf => ?_)
  refine g_if_ne (pc := 4) (tgt := 9) C dX7_tell_4 rfl hf (fun _ hf => ?_) (fun _ hf => ?_)
  · refine g_aload_n (pc := 9) (i := 0) (j := 0) C dX7_tell_9 rfl rfl ?_
    refine g_getr (pc := 10) (j := 1) C E fdX7_12 layX_0_0 dX7_tell_10 ?_
    refine g_cwi (pc := 13) (st := []) C E layX_1 lkX7_72 (As := []) rfl (fun out h => kX3_scan (kl κ) ε μ out h) (by decide) rfl (Nat.le_of_ble_eq_true rfl) dX7_tell_13 hf (fun r13 μ13 _ hf => ?_)
    refine g_bipush (pc := 16) C dX7_tell_16 cb_m9 ?_
    refine g_icmp_eq (pc := 18) (tgt := 24) C dX7_tell_18 rfl hf (fun _ hf => ?_) (fun _ hf => ?_)
    · refine g_aload_n (pc := 24) (i := 0) (j := 0) C dX7_tell_24 rfl rfl ?_
      refine g_aload_n (pc := 25) (i := 0) (j := 0) C dX7_tell_25 rfl rfl ?_
      refine g_getr (pc := 26) (j := 1) C E fdX7_12 layX_0_0 dX7_tell_26 ?_
      refine g_geti (pc := 29) C E fdX7_79 layX_1_2 dX7_tell_29 ?_
      refine g_aload_n (pc := 32) (i := 0) (j := 0) C dX7_tell_32 rfl rfl ?_
      refine g_getr (pc := 33) (j := 1) C E fdX7_12 layX_0_0 dX7_tell_33 ?_
      refine g_geti (pc := 36) C E fdX7_82 layX_1_3 dX7_tell_36 ?_
      refine g_cwi (pc := 39) (st := []) C E layX_0 lkX7_85 (As := [.int (μ13.1 1 2), .int (μ13.1 1 3)]) rfl (fun out h => kX7_newRow (kl κ) ε (μ13.1 1 2) (μ13.1 1 3) μ13 out h) (by decide) rfl (Nat.le_of_ble_eq_true rfl) dX7_tell_39 hf (fun r39 μ39 _ hf => ?_)
      refine g_istore_n (pc := 42) (i := 2) (L' := [(2, .int r39), (0, .ref (ea ε 0)), (1, .int p1)]) C dX7_tell_42 rfl (by decide) rfl ?_
      refine g_iconst (pc := 43) C dX7_tell_43 ci_0 ?_
      refine g_istore_n (pc := 44) (i := 3) (L' := [(3, .int (0 : Int32)), (2, .int r39), (0, .ref (ea ε 0)), (1, .int p1)]) C dX7_tell_44 rfl (by decide) rfl ?_
      exact g_at [2, 3, 1, 0] rfl (b45 100 p1 r39 (0 : Int32) μ39 hf)
    · refine g_bipush (pc := 21) C dX7_tell_21 cb_m3 ?_
      exact g_iretw (pc := 23) C hQ dX7_tell_23 hf
  · refine g_iconst (pc := 7) C dX7_tell_7 ci_m1 ?_
    exact g_iretw (pc := 8) C hQ dX7_tell_8 hf
theorem dX7_text_0 : decode cX7_text 0 = .ok (.iload_n 1, 1) := by decide +kernel
theorem dX7_text_1 : decode cX7_text 1 = .ok (.ifCond .lt 10, 3) := by decide +kernel
theorem dX7_text_4 : decode cX7_text 4 = .ok (.iload_n 1, 1) := by decide +kernel
theorem dX7_text_5 : decode cX7_text 5 = .ok (.sipush 9999, 3) := by decide +kernel
theorem dX7_text_8 : decode cX7_text 8 = .ok (.if_icmp .le 6, 3) := by decide +kernel
theorem dX7_text_11 : decode cX7_text 11 = .ok (.bipush (-2), 2) := by decide +kernel
theorem dX7_text_13 : decode cX7_text 13 = .ok (.ireturn, 1) := by decide +kernel
theorem dX7_text_14 : decode cX7_text 14 = .ok (.aload_n 0, 1) := by decide +kernel
theorem dX7_text_15 : decode cX7_text 15 = .ok (.iconst 4, 1) := by decide +kernel
theorem dX7_text_16 : decode cX7_text 16 = .ok (.bipush 10, 2) := by decide +kernel
theorem dX7_text_18 : decode cX7_text 18 = .ok (.iload_n 1, 1) := by decide +kernel
theorem dX7_text_19 : decode cX7_text 19 = .ok (.i2l, 1) := by decide +kernel
theorem dX7_text_20 : decode cX7_text 20 = .ok (.invokevirtual 164, 3) := by decide +kernel
theorem dX7_text_23 : decode cX7_text 23 = .ok (.iload_n 1, 1) := by decide +kernel
theorem dX7_text_24 : decode cX7_text 24 = .ok (.bipush 10, 2) := by decide +kernel
theorem dX7_text_26 : decode cX7_text 26 = .ok (.if_icmp .ge 7, 3) := by decide +kernel
theorem dX7_text_29 : decode cX7_text 29 = .ok (.iconst 1, 1) := by decide +kernel
theorem dX7_text_30 : decode cX7_text 30 = .ok (.goto 25, 3) := by decide +kernel
theorem dX7_text_33 : decode cX7_text 33 = .ok (.iload_n 1, 1) := by decide +kernel
theorem dX7_text_34 : decode cX7_text 34 = .ok (.bipush 100, 2) := by decide +kernel
theorem dX7_text_36 : decode cX7_text 36 = .ok (.if_icmp .ge 7, 3) := by decide +kernel
theorem dX7_text_39 : decode cX7_text 39 = .ok (.iconst 2, 1) := by decide +kernel
theorem dX7_text_40 : decode cX7_text 40 = .ok (.goto 15, 3) := by decide +kernel
theorem dX7_text_43 : decode cX7_text 43 = .ok (.iload_n 1, 1) := by decide +kernel
theorem dX7_text_44 : decode cX7_text 44 = .ok (.sipush 1000, 3) := by decide +kernel
theorem dX7_text_47 : decode cX7_text 47 = .ok (.if_icmp .ge 7, 3) := by decide +kernel
theorem dX7_text_50 : decode cX7_text 50 = .ok (.iconst 3, 1) := by decide +kernel
theorem dX7_text_51 : decode cX7_text 51 = .ok (.goto 4, 3) := by decide +kernel
theorem dX7_text_54 : decode cX7_text 54 = .ok (.iconst 4, 1) := by decide +kernel
theorem dX7_text_55 : decode cX7_text 55 = .ok (.ireturn, 1) := by decide +kernel
def fX7_text (p1 : Int32) (μ : Mm) : Option (Int32 × Mm) := (if p1 < 0 then some ((-2 : Int32), μ) else (if p1 ≤ (9999 : Int32) then ((fX7_hold (4 : Int32) (10 : Int32) (Int32.toInt64 p1) μ).bind fun μ20 => (if (10 : Int32) ≤ p1 then (if (100 : Int32) ≤ p1 then (if (1000 : Int32) ≤ p1 then some ((4 : Int32), μ20) else some ((3 : Int32), μ20)) else some ((2 : Int32), μ20)) else some ((1 : Int32), μ20))) else some ((-2 : Int32), μ)))
set_option maxRecDepth 100000 in
set_option maxHeartbeats 4000000 in
theorem kX7_text (l : Launch) (ε : Ev) (p1 : Int32) (μ : Mm) (out : (Int32 × Mm)) (hf : fX7_text p1 μ = some out) : Sp l ε layX yX7_text cX7_text 2 (some .int) 1 [.ref (ea ε 0), .int p1] (some (.int out.1)) μ out.2 := by
  refine Sp.of [(0, .ref (ea ε 0)), (1, .int p1)] rfl (by decide +kernel) (Nat.le_of_ble_eq_true rfl) ?_
  intro κ hκ C E hQ
  subst hκ
  replace C : Cf κ cX7_text 2 RX7 (some .int) 1 := C
  refine g_iload_n (pc := 0) (i := 1) (j := 1) C dX7_text_0 rfl rfl ?_
  refine g_if_lt (pc := 1) (tgt := 11) C dX7_text_1 rfl hf (fun _ hf => ?_) (fun _ hf => ?_)
  · refine g_bipush (pc := 11) C dX7_text_11 cb_m2 ?_
    exact g_iretw (pc := 13) C hQ dX7_text_13 hf
  · refine g_iload_n (pc := 4) (i := 1) (j := 1) C dX7_text_4 rfl rfl ?_
    refine g_sipush (pc := 5) C dX7_text_5 cs_9999 ?_
    refine g_icmp_le (pc := 8) (tgt := 14) C dX7_text_8 rfl hf (fun _ hf => ?_) (fun _ hf => ?_)
    · refine g_aload_n (pc := 14) (i := 0) (j := 0) C dX7_text_14 rfl rfl ?_
      refine g_iconst (pc := 15) C dX7_text_15 ci_4 ?_
      refine g_bipush (pc := 16) C dX7_text_16 cb_10 ?_
      refine g_iload_n (pc := 18) (i := 1) (j := 1) C dX7_text_18 rfl rfl ?_
      refine g_i2l (pc := 19) C dX7_text_19 ?_
      refine g_cwv (pc := 20) (st := []) C E layX_0 lkX7_164 (As := [.int (4 : Int32), .int (10 : Int32), .long (Int32.toInt64 p1)]) rfl (fun out h => kX7_hold (kl κ) ε (4 : Int32) (10 : Int32) (Int32.toInt64 p1) μ out h) (by decide) rfl (Nat.le_of_ble_eq_true rfl) dX7_text_20 hf (fun μ20 _ hf => ?_)
      refine g_iload_n (pc := 23) (i := 1) (j := 1) C dX7_text_23 rfl rfl ?_
      refine g_bipush (pc := 24) C dX7_text_24 cb_10 ?_
      refine g_icmp_ge (pc := 26) (tgt := 33) C dX7_text_26 rfl hf (fun _ hf => ?_) (fun _ hf => ?_)
      · refine g_iload_n (pc := 33) (i := 1) (j := 1) C dX7_text_33 rfl rfl ?_
        refine g_bipush (pc := 34) C dX7_text_34 cb_100 ?_
        refine g_icmp_ge (pc := 36) (tgt := 43) C dX7_text_36 rfl hf (fun _ hf => ?_) (fun _ hf => ?_)
        · refine g_iload_n (pc := 43) (i := 1) (j := 1) C dX7_text_43 rfl rfl ?_
          refine g_sipush (pc := 44) C dX7_text_44 cs_1000 ?_
          refine g_icmp_ge (pc := 47) (tgt := 54) C dX7_text_47 rfl hf (fun _ hf => ?_) (fun _ hf => ?_)
          · refine g_iconst (pc := 54) C dX7_text_54 ci_4 ?_
            exact g_iretw (pc := 55) C hQ dX7_text_55 hf
          · refine g_iconst (pc := 50) C dX7_text_50 ci_3 ?_
            refine g_goto (pc := 51) (tgt := 55) C dX7_text_51 rfl ?_
            exact g_iretw (pc := 55) C hQ dX7_text_55 hf
        · refine g_iconst (pc := 39) C dX7_text_39 ci_2 ?_
          refine g_goto (pc := 40) (tgt := 55) C dX7_text_40 rfl ?_
          exact g_iretw (pc := 55) C hQ dX7_text_55 hf
      · refine g_iconst (pc := 29) C dX7_text_29 ci_1 ?_
        refine g_goto (pc := 30) (tgt := 55) C dX7_text_30 rfl ?_
        exact g_iretw (pc := 55) C hQ dX7_text_55 hf
    · refine g_bipush (pc := 11) C dX7_text_11 cb_m2 ?_
      exact g_iretw (pc := 13) C hQ dX7_text_13 hf
theorem dX7_thing_0 : decode cX7_thing 0 = .ok (.iload_n 1, 1) := by decide +kernel
theorem dX7_thing_1 : decode cX7_thing 1 = .ok (.invokestatic 76, 3) := by decide +kernel
theorem dX7_thing_4 : decode cX7_thing 4 = .ok (.ifCond .ne 5, 3) := by decide +kernel
theorem dX7_thing_7 : decode cX7_thing 7 = .ok (.iconst (-1), 1) := by decide +kernel
theorem dX7_thing_8 : decode cX7_thing 8 = .ok (.ireturn, 1) := by decide +kernel
theorem dX7_thing_9 : decode cX7_thing 9 = .ok (.iload_n 2, 1) := by decide +kernel
theorem dX7_thing_10 : decode cX7_thing 10 = .ok (.ifCond .lt 8, 3) := by decide +kernel
theorem dX7_thing_13 : decode cX7_thing 13 = .ok (.iload_n 2, 1) := by decide +kernel
theorem dX7_thing_14 : decode cX7_thing 14 = .ok (.iconst 1, 1) := by decide +kernel
theorem dX7_thing_15 : decode cX7_thing 15 = .ok (.if_icmp .le 6, 3) := by decide +kernel
theorem dX7_thing_18 : decode cX7_thing 18 = .ok (.bipush (-2), 2) := by decide +kernel
theorem dX7_thing_20 : decode cX7_thing 20 = .ok (.ireturn, 1) := by decide +kernel
theorem dX7_thing_21 : decode cX7_thing 21 = .ok (.iload_n 2, 1) := by decide +kernel
theorem dX7_thing_22 : decode cX7_thing 22 = .ok (.ifCond .ne 9, 3) := by decide +kernel
theorem dX7_thing_25 : decode cX7_thing 25 = .ok (.aload_n 0, 1) := by decide +kernel
theorem dX7_thing_26 : decode cX7_thing 26 = .ok (.iload_n 1, 1) := by decide +kernel
theorem dX7_thing_27 : decode cX7_thing 27 = .ok (.invokevirtual 125, 3) := by decide +kernel
theorem dX7_thing_30 : decode cX7_thing 30 = .ok (.ireturn, 1) := by decide +kernel
theorem dX7_thing_31 : decode cX7_thing 31 = .ok (.aload_n 0, 1) := by decide +kernel
theorem dX7_thing_32 : decode cX7_thing 32 = .ok (.iload_n 1, 1) := by decide +kernel
theorem dX7_thing_33 : decode cX7_thing 33 = .ok (.invokevirtual 125, 3) := by decide +kernel
theorem dX7_thing_36 : decode cX7_thing 36 = .ok (.bipush 15, 2) := by decide +kernel
theorem dX7_thing_38 : decode cX7_thing 38 = .ok (.if_icmp .ne 6, 3) := by decide +kernel
theorem dX7_thing_41 : decode cX7_thing 41 = .ok (.bipush (-9), 2) := by decide +kernel
theorem dX7_thing_43 : decode cX7_thing 43 = .ok (.ireturn, 1) := by decide +kernel
theorem dX7_thing_44 : decode cX7_thing 44 = .ok (.aload_n 0, 1) := by decide +kernel
theorem dX7_thing_45 : decode cX7_thing 45 = .ok (.iload_n 1, 1) := by decide +kernel
theorem dX7_thing_46 : decode cX7_thing 46 = .ok (.invokevirtual 129, 3) := by decide +kernel
theorem dX7_thing_49 : decode cX7_thing 49 = .ok (.ifCond .eq 20, 3) := by decide +kernel
theorem dX7_thing_52 : decode cX7_thing 52 = .ok (.aload_n 0, 1) := by decide +kernel
theorem dX7_thing_53 : decode cX7_thing 53 = .ok (.getfield 19, 3) := by decide +kernel
theorem dX7_thing_56 : decode cX7_thing 56 = .ok (.getfield 132, 3) := by decide +kernel
theorem dX7_thing_59 : decode cX7_thing 59 = .ok (.aload_n 0, 1) := by decide +kernel
theorem dX7_thing_60 : decode cX7_thing 60 = .ok (.getfield 44, 3) := by decide +kernel
theorem dX7_thing_63 : decode cX7_thing 63 = .ok (.iload_n 1, 1) := by decide +kernel
theorem dX7_thing_64 : decode cX7_thing 64 = .ok (.iaload, 1) := by decide +kernel
theorem dX7_thing_65 : decode cX7_thing 65 = .ok (.iaload, 1) := by decide +kernel
theorem dX7_thing_66 : decode cX7_thing 66 = .ok (.goto 5, 3) := by decide +kernel
theorem dX7_thing_69 : decode cX7_thing 69 = .ok (.bipush (-3), 2) := by decide +kernel
theorem dX7_thing_71 : decode cX7_thing 71 = .ok (.ireturn, 1) := by decide +kernel
def fX7_thing (p1 : Int32) (p2 : Int32) (μ : Mm) : Option Int32 := ((fX7_isSlot p1).bind fun r1 => (if r1 = 0 then some (-1 : Int32) else (if p2 < 0 then some (-2 : Int32) else (if p2 ≤ (1 : Int32) then (if p2 = 0 then ((fX7_thingIn p1 μ).bind fun r27 => some r27) else ((fX7_thingIn p1 μ).bind fun r33 => (if r33 = (15 : Int32) then some (-9 : Int32) else ((fX7_holdsArray p1 μ).bind fun r46 => (if r46 = 0 then some (-3 : Int32) else (if inb p1 10 = true then (if inb (μ.1 6 (Int32.toNatClampNeg p1)) 26 = true then some (μ.1 12 (Int32.toNatClampNeg (μ.1 6 (Int32.toNatClampNeg p1)))) else none) else none)))))) else some (-2 : Int32)))))
set_option maxRecDepth 100000 in
set_option maxHeartbeats 4000000 in
theorem kX7_thing (l : Launch) (ε : Ev) (p1 : Int32) (p2 : Int32) (μ : Mm) (out : Int32) (hf : fX7_thing p1 p2 μ = some out) : Sp l ε layX yX7_thing cX7_thing 3 (some .int) 2 [.ref (ea ε 0), .int p1, .int p2] (some (.int out)) μ μ := by
  refine Sp.of [(0, .ref (ea ε 0)), (1, .int p1), (2, .int p2)] rfl (by decide +kernel) (Nat.le_of_ble_eq_true rfl) ?_
  intro κ hκ C E hQ
  subst hκ
  replace C : Cf κ cX7_thing 3 RX7 (some .int) 2 := C
  refine g_iload_n (pc := 0) (i := 1) (j := 1) C dX7_thing_0 rfl rfl ?_
  refine g_cpi (pc := 1) (st := []) C lkX7_76 (As := [.int p1]) rfl (fun out h => kX7_isSlot (kl κ) p1 out h) (by decide) rfl (Nat.le_of_ble_eq_true rfl) dX7_thing_1 hf (fun r1 _ hf => ?_)
  refine g_if_ne (pc := 4) (tgt := 9) C dX7_thing_4 rfl hf (fun _ hf => ?_) (fun _ hf => ?_)
  · refine g_iload_n (pc := 9) (i := 2) (j := 2) C dX7_thing_9 rfl rfl ?_
    refine g_if_lt (pc := 10) (tgt := 18) C dX7_thing_10 rfl hf (fun _ hf => ?_) (fun _ hf => ?_)
    · refine g_bipush (pc := 18) C dX7_thing_18 cb_m2 ?_
      exact g_iretr (pc := 20) C hQ dX7_thing_20 hf
    · refine g_iload_n (pc := 13) (i := 2) (j := 2) C dX7_thing_13 rfl rfl ?_
      refine g_iconst (pc := 14) C dX7_thing_14 ci_1 ?_
      refine g_icmp_le (pc := 15) (tgt := 21) C dX7_thing_15 rfl hf (fun _ hf => ?_) (fun _ hf => ?_)
      · refine g_iload_n (pc := 21) (i := 2) (j := 2) C dX7_thing_21 rfl rfl ?_
        refine g_if_ne (pc := 22) (tgt := 31) C dX7_thing_22 rfl hf (fun _ hf => ?_) (fun _ hf => ?_)
        · refine g_aload_n (pc := 31) (i := 0) (j := 0) C dX7_thing_31 rfl rfl ?_
          refine g_iload_n (pc := 32) (i := 1) (j := 1) C dX7_thing_32 rfl rfl ?_
          refine g_cri (pc := 33) (st := []) C E layX_0 lkX7_125 (As := [.int p1]) rfl (fun out h => kX7_thingIn (kl κ) ε p1 μ out h) (by decide) rfl (Nat.le_of_ble_eq_true rfl) dX7_thing_33 hf (fun r33 _ hf => ?_)
          refine g_bipush (pc := 36) C dX7_thing_36 cb_15 ?_
          refine g_icmp_ne (pc := 38) (tgt := 44) C dX7_thing_38 rfl hf (fun _ hf => ?_) (fun _ hf => ?_)
          · refine g_aload_n (pc := 44) (i := 0) (j := 0) C dX7_thing_44 rfl rfl ?_
            refine g_iload_n (pc := 45) (i := 1) (j := 1) C dX7_thing_45 rfl rfl ?_
            refine g_cri (pc := 46) (st := []) C E layX_0 lkX7_129 (As := [.int p1]) rfl (fun out h => kX7_holdsArray (kl κ) ε p1 μ out h) (by decide) rfl (Nat.le_of_ble_eq_true rfl) dX7_thing_46 hf (fun r46 _ hf => ?_)
            refine g_if_eq (pc := 49) (tgt := 69) C dX7_thing_49 rfl hf (fun _ hf => ?_) (fun _ hf => ?_)
            · refine g_bipush (pc := 69) C dX7_thing_69 cb_m3 ?_
              exact g_iretr (pc := 71) C hQ dX7_thing_71 hf
            · refine g_aload_n (pc := 52) (i := 0) (j := 0) C dX7_thing_52 rfl rfl ?_
              refine g_getr (pc := 53) (j := 2) C E fdX7_19 layX_0_1 dX7_thing_53 ?_
              refine g_getr (pc := 56) (j := 12) C E fdX7_132 layX_2_1 dX7_thing_56 ?_
              refine g_aload_n (pc := 59) (i := 0) (j := 0) C dX7_thing_59 rfl rfl ?_
              refine g_getr (pc := 60) (j := 6) C E fdX7_44 layX_0_5 dX7_thing_60 ?_
              refine g_iload_n (pc := 63) (i := 1) (j := 1) C dX7_thing_63 rfl rfl ?_
              refine g_iald (pc := 64) C E layX_6 dX7_thing_64 hf (fun hf => ?_)
              refine g_iald (pc := 65) C E layX_12 dX7_thing_65 hf (fun hf => ?_)
              refine g_goto (pc := 66) (tgt := 71) C dX7_thing_66 rfl ?_
              exact g_iretr (pc := 71) C hQ dX7_thing_71 hf
          · refine g_bipush (pc := 41) C dX7_thing_41 cb_m9 ?_
            exact g_iretr (pc := 43) C hQ dX7_thing_43 hf
        · refine g_aload_n (pc := 25) (i := 0) (j := 0) C dX7_thing_25 rfl rfl ?_
          refine g_iload_n (pc := 26) (i := 1) (j := 1) C dX7_thing_26 rfl rfl ?_
          refine g_cri (pc := 27) (st := []) C E layX_0 lkX7_125 (As := [.int p1]) rfl (fun out h => kX7_thingIn (kl κ) ε p1 μ out h) (by decide) rfl (Nat.le_of_ble_eq_true rfl) dX7_thing_27 hf (fun r27 _ hf => ?_)
          exact g_iretr (pc := 30) C hQ dX7_thing_30 hf
      · refine g_bipush (pc := 18) C dX7_thing_18 cb_m2 ?_
        exact g_iretr (pc := 20) C hQ dX7_thing_20 hf
  · refine g_iconst (pc := 7) C dX7_thing_7 ci_m1 ?_
    exact g_iretr (pc := 8) C hQ dX7_thing_8 hf
theorem dX7_total_0 : decode cX7_total 0 = .ok (.iload_n 1, 1) := by decide +kernel
theorem dX7_total_1 : decode cX7_total 1 = .ok (.invokestatic 76, 3) := by decide +kernel
theorem dX7_total_4 : decode cX7_total 4 = .ok (.ifCond .ne 5, 3) := by decide +kernel
theorem dX7_total_7 : decode cX7_total 7 = .ok (.iconst (-1), 1) := by decide +kernel
theorem dX7_total_8 : decode cX7_total 8 = .ok (.ireturn, 1) := by decide +kernel
theorem dX7_total_9 : decode cX7_total 9 = .ok (.iload_n 2, 1) := by decide +kernel
theorem dX7_total_10 : decode cX7_total 10 = .ok (.iconst 4, 1) := by decide +kernel
theorem dX7_total_11 : decode cX7_total 11 = .ok (.if_icmp .eq 11, 3) := by decide +kernel
theorem dX7_total_14 : decode cX7_total 14 = .ok (.iload_n 2, 1) := by decide +kernel
theorem dX7_total_15 : decode cX7_total 15 = .ok (.iconst 5, 1) := by decide +kernel
theorem dX7_total_16 : decode cX7_total 16 = .ok (.if_icmp .eq 6, 3) := by decide +kernel
theorem dX7_total_19 : decode cX7_total 19 = .ok (.bipush (-2), 2) := by decide +kernel
theorem dX7_total_21 : decode cX7_total 21 = .ok (.ireturn, 1) := by decide +kernel
theorem dX7_total_22 : decode cX7_total 22 = .ok (.aload_n 0, 1) := by decide +kernel
theorem dX7_total_23 : decode cX7_total 23 = .ok (.getfield 44, 3) := by decide +kernel
theorem dX7_total_26 : decode cX7_total 26 = .ok (.iload_n 1, 1) := by decide +kernel
theorem dX7_total_27 : decode cX7_total 27 = .ok (.iaload, 1) := by decide +kernel
theorem dX7_total_28 : decode cX7_total 28 = .ok (.istore_n 3, 1) := by decide +kernel
theorem dX7_total_29 : decode cX7_total 29 = .ok (.aload_n 0, 1) := by decide +kernel
theorem dX7_total_30 : decode cX7_total 30 = .ok (.getfield 19, 3) := by decide +kernel
theorem dX7_total_33 : decode cX7_total 33 = .ok (.getfield 132, 3) := by decide +kernel
theorem dX7_total_36 : decode cX7_total 36 = .ok (.iload_n 3, 1) := by decide +kernel
theorem dX7_total_37 : decode cX7_total 37 = .ok (.iaload, 1) := by decide +kernel
theorem dX7_total_38 : decode cX7_total 38 = .ok (.istore 4, 2) := by decide +kernel
theorem dX7_total_40 : decode cX7_total 40 = .ok (.aload_n 0, 1) := by decide +kernel
theorem dX7_total_41 : decode cX7_total 41 = .ok (.iload_n 1, 1) := by decide +kernel
theorem dX7_total_42 : decode cX7_total 42 = .ok (.invokevirtual 129, 3) := by decide +kernel
theorem dX7_total_45 : decode cX7_total 45 = .ok (.ifCond .eq 12, 3) := by decide +kernel
theorem dX7_total_48 : decode cX7_total 48 = .ok (.iload 4, 2) := by decide +kernel
theorem dX7_total_50 : decode cX7_total 50 = .ok (.ifCond .ne 7, 3) := by decide +kernel
theorem dX7_total_53 : decode cX7_total 53 = .ok (.iconst 0, 1) := by decide +kernel
theorem dX7_total_54 : decode cX7_total 54 = .ok (.goto 12, 3) := by decide +kernel
theorem dX7_total_57 : decode cX7_total 57 = .ok (.aload_n 0, 1) := by decide +kernel
theorem dX7_total_58 : decode cX7_total 58 = .ok (.iload_n 1, 1) := by decide +kernel
theorem dX7_total_59 : decode cX7_total 59 = .ok (.invokevirtual 125, 3) := by decide +kernel
theorem dX7_total_62 : decode cX7_total 62 = .ok (.iload_n 2, 1) := by decide +kernel
theorem dX7_total_63 : decode cX7_total 63 = .ok (.invokestatic 187, 3) := by decide +kernel
theorem dX7_total_66 : decode cX7_total 66 = .ok (.istore 5, 2) := by decide +kernel
theorem dX7_total_68 : decode cX7_total 68 = .ok (.iload 5, 2) := by decide +kernel
theorem dX7_total_70 : decode cX7_total 70 = .ok (.ifCond .eq 6, 3) := by decide +kernel
theorem dX7_total_73 : decode cX7_total 73 = .ok (.iload 5, 2) := by decide +kernel
theorem dX7_total_75 : decode cX7_total 75 = .ok (.ireturn, 1) := by decide +kernel
theorem dX7_total_76 : decode cX7_total 76 = .ok (.lconst 0, 1) := by decide +kernel
theorem dX7_total_77 : decode cX7_total 77 = .ok (.lstore 6, 2) := by decide +kernel
theorem dX7_total_79 : decode cX7_total 79 = .ok (.iconst 0, 1) := by decide +kernel
theorem dX7_total_80 : decode cX7_total 80 = .ok (.istore 8, 2) := by decide +kernel
theorem dX7_total_82 : decode cX7_total 82 = .ok (.iload 8, 2) := by decide +kernel
theorem dX7_total_84 : decode cX7_total 84 = .ok (.iload 4, 2) := by decide +kernel
theorem dX7_total_86 : decode cX7_total 86 = .ok (.if_icmp .ge 24, 3) := by decide +kernel
theorem dX7_total_89 : decode cX7_total 89 = .ok (.lload 6, 2) := by decide +kernel
theorem dX7_total_91 : decode cX7_total 91 = .ok (.aload_n 0, 1) := by decide +kernel
theorem dX7_total_92 : decode cX7_total 92 = .ok (.getfield 19, 3) := by decide +kernel
theorem dX7_total_95 : decode cX7_total 95 = .ok (.iload_n 3, 1) := by decide +kernel
theorem dX7_total_96 : decode cX7_total 96 = .ok (.iload 8, 2) := by decide +kernel
theorem dX7_total_98 : decode cX7_total 98 = .ok (.invokevirtual 148, 3) := by decide +kernel
theorem dX7_total_101 : decode cX7_total 101 = .ok (.ladd, 1) := by decide +kernel
theorem dX7_total_102 : decode cX7_total 102 = .ok (.lstore 6, 2) := by decide +kernel
theorem dX7_total_104 : decode cX7_total 104 = .ok (.iinc 8 1, 3) := by decide +kernel
theorem dX7_total_107 : decode cX7_total 107 = .ok (.goto (-25), 3) := by decide +kernel
theorem dX7_total_110 : decode cX7_total 110 = .ok (.aload_n 0, 1) := by decide +kernel
theorem dX7_total_111 : decode cX7_total 111 = .ok (.iconst 1, 1) := by decide +kernel
theorem dX7_total_112 : decode cX7_total 112 = .ok (.iload_n 2, 1) := by decide +kernel
theorem dX7_total_113 : decode cX7_total 113 = .ok (.iload_n 2, 1) := by decide +kernel
theorem dX7_total_114 : decode cX7_total 114 = .ok (.lload 6, 2) := by decide +kernel
theorem dX7_total_116 : decode cX7_total 116 = .ok (.invokestatic 161, 3) := by decide +kernel
theorem dX7_total_119 : decode cX7_total 119 = .ok (.invokevirtual 164, 3) := by decide +kernel
theorem dX7_total_122 : decode cX7_total 122 = .ok (.iconst 0, 1) := by decide +kernel
theorem dX7_total_123 : decode cX7_total 123 = .ok (.ireturn, 1) := by decide +kernel
def fX7_total_b82 : Nat → Int32 → Int32 → Int32 → Int64 → Int32 → Mm → Option (Int32 × Mm)
  | 0, _, _, _, _, _, _ => none
  | n + 1, v2, v3, v4, v6, v8, μ => (if v4 ≤ v8 then ((fX2_made v2 v6).bind fun r116 => ((fX7_hold (1 : Int32) v2 r116 μ).bind fun μ119 => some ((0 : Int32), μ119))) else ((fX5_codeAt v3 v8 μ).bind fun r98 => (fX7_total_b82 n) v2 v3 v4 (v6 + r98) (v8 + (1 : Int32)) μ))
def fX7_total_b66 (v2 : Int32) (v3 : Int32) (v4 : Int32) (s0 : Int32) (μ : Mm) : Option (Int32 × Mm) := (if s0 = 0 then fX7_total_b82 100 v2 v3 v4 (0 : Int64) (0 : Int32) μ else some (s0, μ))
def fX7_total_b57 (v1 : Int32) (v2 : Int32) (v3 : Int32) (v4 : Int32) (μ : Mm) : Option (Int32 × Mm) := ((fX7_thingIn v1 μ).bind fun r59 => ((fX4_getFit r59 v2).bind fun r63 => fX7_total_b66 v2 v3 v4 r63 μ))
def fX7_total_b22 (v1 : Int32) (v2 : Int32) (μ : Mm) : Option (Int32 × Mm) := (if inb v1 10 = true then (if inb (μ.1 6 (Int32.toNatClampNeg v1)) 26 = true then ((fX7_holdsArray v1 μ).bind fun r42 => (if r42 = 0 then fX7_total_b57 v1 v2 (μ.1 6 (Int32.toNatClampNeg v1)) (μ.1 12 (Int32.toNatClampNeg (μ.1 6 (Int32.toNatClampNeg v1)))) μ else (if (μ.1 12 (Int32.toNatClampNeg (μ.1 6 (Int32.toNatClampNeg v1)))) = 0 then fX7_total_b66 v2 (μ.1 6 (Int32.toNatClampNeg v1)) (μ.1 12 (Int32.toNatClampNeg (μ.1 6 (Int32.toNatClampNeg v1)))) (0 : Int32) μ else fX7_total_b57 v1 v2 (μ.1 6 (Int32.toNatClampNeg v1)) (μ.1 12 (Int32.toNatClampNeg (μ.1 6 (Int32.toNatClampNeg v1)))) μ))) else none) else none)
def fX7_total (p1 : Int32) (p2 : Int32) (μ : Mm) : Option (Int32 × Mm) := ((fX7_isSlot p1).bind fun r1 => (if r1 = 0 then some ((-1 : Int32), μ) else (if p2 = (4 : Int32) then fX7_total_b22 p1 p2 μ else (if p2 = (5 : Int32) then fX7_total_b22 p1 p2 μ else some ((-2 : Int32), μ)))))
set_option maxRecDepth 100000 in
set_option maxHeartbeats 4000000 in
theorem kX7_total (l : Launch) (ε : Ev) (p1 : Int32) (p2 : Int32) (μ : Mm) (out : (Int32 × Mm)) (hf : fX7_total p1 p2 μ = some out) : Sp l ε layX yX7_total cX7_total 9 (some .int) 5 [.ref (ea ε 0), .int p1, .int p2] (some (.int out.1)) μ out.2 := by
  refine Sp.of [(0, .ref (ea ε 0)), (1, .int p1), (2, .int p2)] rfl (by decide +kernel) (Nat.le_of_ble_eq_true rfl) ?_
  intro κ hκ C E hQ
  subst hκ
  replace C : Cf κ cX7_total 9 RX7 (some .int) 5 := C
  have b82 : ∀ (n : Nat) (v2 : Int32) (v3 : Int32) (v4 : Int32) (v6 : Int64) (v8 : Int32) (μ : Mm) , fX7_total_b82 n v2 v3 v4 v6 v8 μ = some out → G κ (Vw κ ε layX μ) 9 82 [(0, .ref (ea ε 0)), (2, .int v2), (3, .int v3), (4, .int v4), (6, .long v6), (8, .int v8)] [] := by
    intro n
    induction n with
    | zero => intro v2 v3 v4 v6 v8 μ hf; exact none_ne hf
    | succ n ih =>
      intro v2 v3 v4 v6 v8 μ hf
      refine g_iload (pc := 82) (i := 8) (j := 5) C dX7_total_82 rfl ?_
      refine g_iload (pc := 84) (i := 4) (j := 3) C dX7_total_84 rfl ?_
      refine g_icmp_ge (pc := 86) (tgt := 110) C dX7_total_86 rfl hf (fun _ hf => ?_) (fun _ hf => ?_)
      · refine g_aload_n (pc := 110) (i := 0) (j := 0) C dX7_total_110 rfl rfl ?_
        refine g_iconst (pc := 111) C dX7_total_111 ci_1 ?_
        refine g_iload_n (pc := 112) (i := 2) (j := 1) C dX7_total_112 rfl rfl ?_
        refine g_iload_n (pc := 113) (i := 2) (j := 1) C dX7_total_113 rfl rfl ?_
        refine g_lload (pc := 114) (i := 6) (j := 4) C dX7_total_114 rfl ?_
        refine g_cpl (pc := 116) (st := [.int v2, .int (1 : Int32), .ref (ea ε 0)]) C lkX7_161 (As := [.int v2, .long v6]) rfl (fun out h => kX2_made (kl κ) v2 v6 out h) (by decide) rfl (Nat.le_of_ble_eq_true rfl) dX7_total_116 hf (fun r116 _ hf => ?_)
        refine g_cwv (pc := 119) (st := []) C E layX_0 lkX7_164 (As := [.int (1 : Int32), .int v2, .long r116]) rfl (fun out h => kX7_hold (kl κ) ε (1 : Int32) v2 r116 μ out h) (by decide) rfl (Nat.le_of_ble_eq_true rfl) dX7_total_119 hf (fun μ119 _ hf => ?_)
        refine g_iconst (pc := 122) C dX7_total_122 ci_0 ?_
        exact g_iretw (pc := 123) C hQ dX7_total_123 hf
      · refine g_lload (pc := 89) (i := 6) (j := 4) C dX7_total_89 rfl ?_
        refine g_aload_n (pc := 91) (i := 0) (j := 0) C dX7_total_91 rfl rfl ?_
        refine g_getr (pc := 92) (j := 2) C E fdX7_19 layX_0_1 dX7_total_92 ?_
        refine g_iload_n (pc := 95) (i := 3) (j := 2) C dX7_total_95 rfl rfl ?_
        refine g_iload (pc := 96) (i := 8) (j := 5) C dX7_total_96 rfl ?_
        refine g_crl (pc := 98) (st := [.long v6]) C E layX_2 lkX7_148 (As := [.int v3, .int v8]) rfl (fun out h => kX5_codeAt (kl κ) ε v3 v8 μ out h) (by decide) rfl (Nat.le_of_ble_eq_true rfl) dX7_total_98 hf (fun r98 _ hf => ?_)
        refine g_ladd (pc := 101) C dX7_total_101 ?_
        refine g_lstore (pc := 102) (i := 6) (L' := [(6, .long (v6 + r98)), (0, .ref (ea ε 0)), (2, .int v2), (3, .int v3), (4, .int v4), (8, .int v8)]) C dX7_total_102 (by decide) rfl ?_
        refine g_iinc (pc := 104) (i := 8) (j := 5) (v := (v8 + (1 : Int32))) (L' := [(8, .int (v8 + (1 : Int32))), (6, .long (v6 + r98)), (0, .ref (ea ε 0)), (2, .int v2), (3, .int v3), (4, .int v4)]) C dX7_total_104 rfl (cx_1 _) (by decide) rfl ?_
        refine g_goto (pc := 107) (tgt := 82) C dX7_total_107 rfl ?_
        exact g_at [2, 3, 4, 5, 1, 0] rfl (ih v2 v3 v4 (v6 + r98) (v8 + (1 : Int32)) μ hf)
  have b66 : ∀ (v2 : Int32) (v3 : Int32) (v4 : Int32) (s0 : Int32) (μ : Mm) , fX7_total_b66 v2 v3 v4 s0 μ = some out → G κ (Vw κ ε layX μ) 9 66 [(0, .ref (ea ε 0)), (2, .int v2), (3, .int v3), (4, .int v4)] [.int s0] := by
    intro v2 v3 v4 s0 μ hf
    refine g_istore (pc := 66) (i := 5) (L' := [(5, .int s0), (0, .ref (ea ε 0)), (2, .int v2), (3, .int v3), (4, .int v4)]) C dX7_total_66 (by decide) rfl ?_
    refine g_iload (pc := 68) (i := 5) (j := 0) C dX7_total_68 rfl ?_
    refine g_if_eq (pc := 70) (tgt := 76) C dX7_total_70 rfl hf (fun _ hf => ?_) (fun _ hf => ?_)
    · refine g_lconst (pc := 76) C dX7_total_76 cl_0 ?_
      refine g_lstore (pc := 77) (i := 6) (L' := [(6, .long (0 : Int64)), (5, .int s0), (0, .ref (ea ε 0)), (2, .int v2), (3, .int v3), (4, .int v4)]) C dX7_total_77 (by decide) rfl ?_
      refine g_iconst (pc := 79) C dX7_total_79 ci_0 ?_
      refine g_istore (pc := 80) (i := 8) (L' := [(8, .int (0 : Int32)), (6, .long (0 : Int64)), (5, .int s0), (0, .ref (ea ε 0)), (2, .int v2), (3, .int v3), (4, .int v4)]) C dX7_total_80 (by decide) rfl ?_
      exact g_at [3, 4, 5, 6, 1, 0] rfl (b82 100 v2 v3 v4 (0 : Int64) (0 : Int32) μ hf)
    · refine g_iload (pc := 73) (i := 5) (j := 0) C dX7_total_73 rfl ?_
      exact g_iretw (pc := 75) C hQ dX7_total_75 hf
  have b57 : ∀ (v1 : Int32) (v2 : Int32) (v3 : Int32) (v4 : Int32) (μ : Mm) , fX7_total_b57 v1 v2 v3 v4 μ = some out → G κ (Vw κ ε layX μ) 9 57 [(0, .ref (ea ε 0)), (1, .int v1), (2, .int v2), (3, .int v3), (4, .int v4)] [] := by
    intro v1 v2 v3 v4 μ hf
    refine g_aload_n (pc := 57) (i := 0) (j := 0) C dX7_total_57 rfl rfl ?_
    refine g_iload_n (pc := 58) (i := 1) (j := 1) C dX7_total_58 rfl rfl ?_
    refine g_cri (pc := 59) (st := []) C E layX_0 lkX7_125 (As := [.int v1]) rfl (fun out h => kX7_thingIn (kl κ) ε v1 μ out h) (by decide) rfl (Nat.le_of_ble_eq_true rfl) dX7_total_59 hf (fun r59 _ hf => ?_)
    refine g_iload_n (pc := 62) (i := 2) (j := 2) C dX7_total_62 rfl rfl ?_
    refine g_cpi (pc := 63) (st := []) C lkX7_187 (As := [.int r59, .int v2]) rfl (fun out h => kX4_getFit (kl κ) r59 v2 out h) (by decide) rfl (Nat.le_of_ble_eq_true rfl) dX7_total_63 hf (fun r63 _ hf => ?_)
    exact g_at [0, 2, 3, 4] rfl (b66 v2 v3 v4 r63 μ hf)
  have b22 : ∀ (v1 : Int32) (v2 : Int32) (μ : Mm) , fX7_total_b22 v1 v2 μ = some out → G κ (Vw κ ε layX μ) 9 22 [(0, .ref (ea ε 0)), (1, .int v1), (2, .int v2)] [] := by
    intro v1 v2 μ hf
    refine g_aload_n (pc := 22) (i := 0) (j := 0) C dX7_total_22 rfl rfl ?_
    refine g_getr (pc := 23) (j := 6) C E fdX7_44 layX_0_5 dX7_total_23 ?_
    refine g_iload_n (pc := 26) (i := 1) (j := 1) C dX7_total_26 rfl rfl ?_
    refine g_iald (pc := 27) C E layX_6 dX7_total_27 hf (fun hf => ?_)
    refine g_istore_n (pc := 28) (i := 3) (L' := [(3, .int (μ.1 6 (Int32.toNatClampNeg v1))), (0, .ref (ea ε 0)), (1, .int v1), (2, .int v2)]) C dX7_total_28 rfl (by decide) rfl ?_
    refine g_aload_n (pc := 29) (i := 0) (j := 1) C dX7_total_29 rfl rfl ?_
    refine g_getr (pc := 30) (j := 2) C E fdX7_19 layX_0_1 dX7_total_30 ?_
    refine g_getr (pc := 33) (j := 12) C E fdX7_132 layX_2_1 dX7_total_33 ?_
    refine g_iload_n (pc := 36) (i := 3) (j := 0) C dX7_total_36 rfl rfl ?_
    refine g_iald (pc := 37) C E layX_12 dX7_total_37 hf (fun hf => ?_)
    refine g_istore (pc := 38) (i := 4) (L' := [(4, .int (μ.1 12 (Int32.toNatClampNeg (μ.1 6 (Int32.toNatClampNeg v1))))), (3, .int (μ.1 6 (Int32.toNatClampNeg v1))), (0, .ref (ea ε 0)), (1, .int v1), (2, .int v2)]) C dX7_total_38 (by decide) rfl ?_
    refine g_aload_n (pc := 40) (i := 0) (j := 2) C dX7_total_40 rfl rfl ?_
    refine g_iload_n (pc := 41) (i := 1) (j := 3) C dX7_total_41 rfl rfl ?_
    refine g_cri (pc := 42) (st := []) C E layX_0 lkX7_129 (As := [.int v1]) rfl (fun out h => kX7_holdsArray (kl κ) ε v1 μ out h) (by decide) rfl (Nat.le_of_ble_eq_true rfl) dX7_total_42 hf (fun r42 _ hf => ?_)
    refine g_if_eq (pc := 45) (tgt := 57) C dX7_total_45 rfl hf (fun _ hf => ?_) (fun _ hf => ?_)
    · exact g_at [2, 3, 4, 1, 0] rfl (b57 v1 v2 (μ.1 6 (Int32.toNatClampNeg v1)) (μ.1 12 (Int32.toNatClampNeg (μ.1 6 (Int32.toNatClampNeg v1)))) μ hf)
    · refine g_iload (pc := 48) (i := 4) (j := 0) C dX7_total_48 rfl ?_
      refine g_if_ne (pc := 50) (tgt := 57) C dX7_total_50 rfl hf (fun _ hf => ?_) (fun _ hf => ?_)
      · exact g_at [2, 3, 4, 1, 0] rfl (b57 v1 v2 (μ.1 6 (Int32.toNatClampNeg v1)) (μ.1 12 (Int32.toNatClampNeg (μ.1 6 (Int32.toNatClampNeg v1)))) μ hf)
      · refine g_iconst (pc := 53) C dX7_total_53 ci_0 ?_
        refine g_goto (pc := 54) (tgt := 66) C dX7_total_54 rfl ?_
        exact g_at [2, 4, 1, 0] rfl (b66 v2 (μ.1 6 (Int32.toNatClampNeg v1)) (μ.1 12 (Int32.toNatClampNeg (μ.1 6 (Int32.toNatClampNeg v1)))) (0 : Int32) μ hf)
  refine g_iload_n (pc := 0) (i := 1) (j := 1) C dX7_total_0 rfl rfl ?_
  refine g_cpi (pc := 1) (st := []) C lkX7_76 (As := [.int p1]) rfl (fun out h => kX7_isSlot (kl κ) p1 out h) (by decide) rfl (Nat.le_of_ble_eq_true rfl) dX7_total_1 hf (fun r1 _ hf => ?_)
  refine g_if_ne (pc := 4) (tgt := 9) C dX7_total_4 rfl hf (fun _ hf => ?_) (fun _ hf => ?_)
  · refine g_iload_n (pc := 9) (i := 2) (j := 2) C dX7_total_9 rfl rfl ?_
    refine g_iconst (pc := 10) C dX7_total_10 ci_4 ?_
    refine g_icmp_eq (pc := 11) (tgt := 22) C dX7_total_11 rfl hf (fun _ hf => ?_) (fun _ hf => ?_)
    · exact b22 p1 p2 μ hf
    · refine g_iload_n (pc := 14) (i := 2) (j := 2) C dX7_total_14 rfl rfl ?_
      refine g_iconst (pc := 15) C dX7_total_15 ci_5 ?_
      refine g_icmp_eq (pc := 16) (tgt := 22) C dX7_total_16 rfl hf (fun _ hf => ?_) (fun _ hf => ?_)
      · exact b22 p1 p2 μ hf
      · refine g_bipush (pc := 19) C dX7_total_19 cb_m2 ?_
        exact g_iretw (pc := 21) C hQ dX7_total_21 hf
  · refine g_iconst (pc := 7) C dX7_total_7 ci_m1 ?_
    exact g_iretw (pc := 8) C hQ dX7_total_8 hf
theorem dX7_turn_0 : decode cX7_turn 0 = .ok (.aload_n 0, 1) := by decide +kernel
theorem dX7_turn_1 : decode cX7_turn 1 = .ok (.getfield 55, 3) := by decide +kernel
theorem dX7_turn_4 : decode cX7_turn 4 = .ok (.iconst 1, 1) := by decide +kernel
theorem dX7_turn_5 : decode cX7_turn 5 = .ok (.if_icmp .eq 14, 3) := by decide +kernel
theorem dX7_turn_8 : decode cX7_turn 8 = .ok (.aload_n 0, 1) := by decide +kernel
theorem dX7_turn_9 : decode cX7_turn 9 = .ok (.getfield 55, 3) := by decide +kernel
theorem dX7_turn_12 : decode cX7_turn 12 = .ok (.iconst 2, 1) := by decide +kernel
theorem dX7_turn_13 : decode cX7_turn 13 = .ok (.if_icmp .eq 6, 3) := by decide +kernel
theorem dX7_turn_16 : decode cX7_turn 16 = .ok (.bipush (-3), 2) := by decide +kernel
theorem dX7_turn_18 : decode cX7_turn 18 = .ok (.ireturn, 1) := by decide +kernel
theorem dX7_turn_19 : decode cX7_turn 19 = .ok (.aload_n 0, 1) := by decide +kernel
theorem dX7_turn_20 : decode cX7_turn 20 = .ok (.aload_n 0, 1) := by decide +kernel
theorem dX7_turn_21 : decode cX7_turn 21 = .ok (.getfield 55, 3) := by decide +kernel
theorem dX7_turn_24 : decode cX7_turn 24 = .ok (.iconst 1, 1) := by decide +kernel
theorem dX7_turn_25 : decode cX7_turn 25 = .ok (.if_icmp .ne 7, 3) := by decide +kernel
theorem dX7_turn_28 : decode cX7_turn 28 = .ok (.iconst 2, 1) := by decide +kernel
theorem dX7_turn_29 : decode cX7_turn 29 = .ok (.goto 4, 3) := by decide +kernel
theorem dX7_turn_32 : decode cX7_turn 32 = .ok (.iconst 1, 1) := by decide +kernel
theorem dX7_turn_33 : decode cX7_turn 33 = .ok (.putfield 55, 3) := by decide +kernel
theorem dX7_turn_36 : decode cX7_turn 36 = .ok (.aload_n 0, 1) := by decide +kernel
theorem dX7_turn_37 : decode cX7_turn 37 = .ok (.getfield 55, 3) := by decide +kernel
theorem dX7_turn_40 : decode cX7_turn 40 = .ok (.ireturn, 1) := by decide +kernel
def fX7_turn_b33 (s0 : Int32) (μ : Mm) : Option (Int32 × Mm) := some (((wI μ 0 8 s0).1 0 8), (wI μ 0 8 s0))
def fX7_turn_b19  (μ : Mm) : Option (Int32 × Mm) := (if (μ.1 0 8) = (1 : Int32) then fX7_turn_b33 (2 : Int32) μ else fX7_turn_b33 (1 : Int32) μ)
def fX7_turn  (μ : Mm) : Option (Int32 × Mm) := (if (μ.1 0 8) = (1 : Int32) then fX7_turn_b19 μ else (if (μ.1 0 8) = (2 : Int32) then fX7_turn_b19 μ else some ((-3 : Int32), μ)))
set_option maxRecDepth 100000 in
set_option maxHeartbeats 4000000 in
theorem kX7_turn (l : Launch) (ε : Ev)  (μ : Mm) (out : (Int32 × Mm)) (hf : fX7_turn μ = some out) : Sp l ε layX yX7_turn cX7_turn 1 (some .int) 0 [.ref (ea ε 0)] (some (.int out.1)) μ out.2 := by
  refine Sp.of [(0, .ref (ea ε 0))] rfl (by decide +kernel) (Nat.le_of_ble_eq_true rfl) ?_
  intro κ hκ C E hQ
  subst hκ
  replace C : Cf κ cX7_turn 1 RX7 (some .int) 0 := C
  have b33 : ∀ (s0 : Int32) (μ : Mm) , fX7_turn_b33 s0 μ = some out → G κ (Vw κ ε layX μ) 1 33 [(0, .ref (ea ε 0))] [.int s0, .ref (ea ε 0)] := by
    intro s0 μ hf
    refine g_puti (pc := 33) C E fdX7_55 layX_0_8 dX7_turn_33 ?_
    refine g_aload_n (pc := 36) (i := 0) (j := 0) C dX7_turn_36 rfl rfl ?_
    refine g_geti (pc := 37) C E fdX7_55 layX_0_8 dX7_turn_37 ?_
    exact g_iretw (pc := 40) C hQ dX7_turn_40 hf
  have b19 : ∀ (μ : Mm) , fX7_turn_b19 μ = some out → G κ (Vw κ ε layX μ) 1 19 [(0, .ref (ea ε 0))] [] := by
    intro μ hf
    refine g_aload_n (pc := 19) (i := 0) (j := 0) C dX7_turn_19 rfl rfl ?_
    refine g_aload_n (pc := 20) (i := 0) (j := 0) C dX7_turn_20 rfl rfl ?_
    refine g_geti (pc := 21) C E fdX7_55 layX_0_8 dX7_turn_21 ?_
    refine g_iconst (pc := 24) C dX7_turn_24 ci_1 ?_
    refine g_icmp_ne (pc := 25) (tgt := 32) C dX7_turn_25 rfl hf (fun _ hf => ?_) (fun _ hf => ?_)
    · refine g_iconst (pc := 32) C dX7_turn_32 ci_1 ?_
      exact b33 (1 : Int32) μ hf
    · refine g_iconst (pc := 28) C dX7_turn_28 ci_2 ?_
      refine g_goto (pc := 29) (tgt := 33) C dX7_turn_29 rfl ?_
      exact b33 (2 : Int32) μ hf
  refine g_aload_n (pc := 0) (i := 0) (j := 0) C dX7_turn_0 rfl rfl ?_
  refine g_geti (pc := 1) C E fdX7_55 layX_0_8 dX7_turn_1 ?_
  refine g_iconst (pc := 4) C dX7_turn_4 ci_1 ?_
  refine g_icmp_eq (pc := 5) (tgt := 19) C dX7_turn_5 rfl hf (fun _ hf => ?_) (fun _ hf => ?_)
  · exact b19 μ hf
  · refine g_aload_n (pc := 8) (i := 0) (j := 0) C dX7_turn_8 rfl rfl ?_
    refine g_geti (pc := 9) C E fdX7_55 layX_0_8 dX7_turn_9 ?_
    refine g_iconst (pc := 12) C dX7_turn_12 ci_2 ?_
    refine g_icmp_eq (pc := 13) (tgt := 19) C dX7_turn_13 rfl hf (fun _ hf => ?_) (fun _ hf => ?_)
    · exact b19 μ hf
    · refine g_bipush (pc := 16) C dX7_turn_16 cb_m3 ?_
      exact g_iretw (pc := 18) C hQ dX7_turn_18 hf
theorem dX7_undo_0 : decode cX7_undo 0 = .ok (.aload_n 0, 1) := by decide +kernel
theorem dX7_undo_1 : decode cX7_undo 1 = .ok (.getfield 26, 3) := by decide +kernel
theorem dX7_undo_4 : decode cX7_undo 4 = .ok (.getfield 111, 3) := by decide +kernel
theorem dX7_undo_7 : decode cX7_undo 7 = .ok (.ifCond .ne 6, 3) := by decide +kernel
theorem dX7_undo_10 : decode cX7_undo 10 = .ok (.bipush (-3), 2) := by decide +kernel
theorem dX7_undo_12 : decode cX7_undo 12 = .ok (.ireturn, 1) := by decide +kernel
theorem dX7_undo_13 : decode cX7_undo 13 = .ok (.aload_n 0, 1) := by decide +kernel
theorem dX7_undo_14 : decode cX7_undo 14 = .ok (.getfield 26, 3) := by decide +kernel
theorem dX7_undo_17 : decode cX7_undo 17 = .ok (.invokevirtual 274, 3) := by decide +kernel
theorem dX7_undo_20 : decode cX7_undo 20 = .ok (.istore_n 1, 1) := by decide +kernel
theorem dX7_undo_21 : decode cX7_undo 21 = .ok (.aload_n 0, 1) := by decide +kernel
theorem dX7_undo_22 : decode cX7_undo 22 = .ok (.getfield 26, 3) := by decide +kernel
theorem dX7_undo_25 : decode cX7_undo 25 = .ok (.getfield 277, 3) := by decide +kernel
theorem dX7_undo_28 : decode cX7_undo 28 = .ok (.iload_n 1, 1) := by decide +kernel
theorem dX7_undo_29 : decode cX7_undo 29 = .ok (.iaload, 1) := by decide +kernel
theorem dX7_undo_30 : decode cX7_undo 30 = .ok (.lookupswitch 67 #[(0, 26), (1, 52)], 26) := by decide +kernel
theorem dX7_undo_56 : decode cX7_undo 56 = .ok (.aload_n 0, 1) := by decide +kernel
theorem dX7_undo_57 : decode cX7_undo 57 = .ok (.getfield 44, 3) := by decide +kernel
theorem dX7_undo_60 : decode cX7_undo 60 = .ok (.aload_n 0, 1) := by decide +kernel
theorem dX7_undo_61 : decode cX7_undo 61 = .ok (.getfield 26, 3) := by decide +kernel
theorem dX7_undo_64 : decode cX7_undo 64 = .ok (.getfield 280, 3) := by decide +kernel
theorem dX7_undo_67 : decode cX7_undo 67 = .ok (.iload_n 1, 1) := by decide +kernel
theorem dX7_undo_68 : decode cX7_undo 68 = .ok (.iaload, 1) := by decide +kernel
theorem dX7_undo_69 : decode cX7_undo 69 = .ok (.aload_n 0, 1) := by decide +kernel
theorem dX7_undo_70 : decode cX7_undo 70 = .ok (.getfield 26, 3) := by decide +kernel
theorem dX7_undo_73 : decode cX7_undo 73 = .ok (.getfield 283, 3) := by decide +kernel
theorem dX7_undo_76 : decode cX7_undo 76 = .ok (.iload_n 1, 1) := by decide +kernel
theorem dX7_undo_77 : decode cX7_undo 77 = .ok (.iaload, 1) := by decide +kernel
theorem dX7_undo_78 : decode cX7_undo 78 = .ok (.iastore, 1) := by decide +kernel
theorem dX7_undo_79 : decode cX7_undo 79 = .ok (.goto 43, 3) := by decide +kernel
theorem dX7_undo_82 : decode cX7_undo 82 = .ok (.aload_n 0, 1) := by decide +kernel
theorem dX7_undo_83 : decode cX7_undo 83 = .ok (.getfield 26, 3) := by decide +kernel
theorem dX7_undo_86 : decode cX7_undo 86 = .ok (.iload_n 1, 1) := by decide +kernel
theorem dX7_undo_87 : decode cX7_undo 87 = .ok (.aload_n 0, 1) := by decide +kernel
theorem dX7_undo_88 : decode cX7_undo 88 = .ok (.getfield 19, 3) := by decide +kernel
theorem dX7_undo_91 : decode cX7_undo 91 = .ok (.invokevirtual 286, 3) := by decide +kernel
theorem dX7_undo_94 : decode cX7_undo 94 = .ok (.goto 28, 3) := by decide +kernel
theorem dX7_undo_97 : decode cX7_undo 97 = .ok (.aload_n 0, 1) := by decide +kernel
theorem dX7_undo_98 : decode cX7_undo 98 = .ok (.getfield 33, 3) := by decide +kernel
theorem dX7_undo_101 : decode cX7_undo 101 = .ok (.aload_n 0, 1) := by decide +kernel
theorem dX7_undo_102 : decode cX7_undo 102 = .ok (.getfield 26, 3) := by decide +kernel
theorem dX7_undo_105 : decode cX7_undo 105 = .ok (.getfield 280, 3) := by decide +kernel
theorem dX7_undo_108 : decode cX7_undo 108 = .ok (.iload_n 1, 1) := by decide +kernel
theorem dX7_undo_109 : decode cX7_undo 109 = .ok (.iaload, 1) := by decide +kernel
theorem dX7_undo_110 : decode cX7_undo 110 = .ok (.aload_n 0, 1) := by decide +kernel
theorem dX7_undo_111 : decode cX7_undo 111 = .ok (.getfield 26, 3) := by decide +kernel
theorem dX7_undo_114 : decode cX7_undo 114 = .ok (.getfield 289, 3) := by decide +kernel
theorem dX7_undo_117 : decode cX7_undo 117 = .ok (.iload_n 1, 1) := by decide +kernel
theorem dX7_undo_118 : decode cX7_undo 118 = .ok (.iaload, 1) := by decide +kernel
theorem dX7_undo_119 : decode cX7_undo 119 = .ok (.invokevirtual 184, 3) := by decide +kernel
theorem dX7_undo_122 : decode cX7_undo 122 = .ok (.aload_n 0, 1) := by decide +kernel
theorem dX7_undo_123 : decode cX7_undo 123 = .ok (.getfield 26, 3) := by decide +kernel
theorem dX7_undo_126 : decode cX7_undo 126 = .ok (.getfield 111, 3) := by decide +kernel
theorem dX7_undo_129 : decode cX7_undo 129 = .ok (.ireturn, 1) := by decide +kernel
def fX7_undo_b122  (μ : Mm) : Option (Int32 × Mm) := some ((μ.1 3 7), μ)
def fX7_undo  (μ : Mm) : Option (Int32 × Mm) := (if (μ.1 3 7) = 0 then some ((-3 : Int32), μ) else (bnd (fX0_removeLatest μ) fun r17 μ17 => (if inb r17 14 = true then (if (μ17.1 15 (Int32.toNatClampNeg r17)) = 0 then (if inb r17 14 = true then (if inb r17 14 = true then (if inb (μ17.1 16 (Int32.toNatClampNeg r17)) 10 = true then fX7_undo_b122 (wI μ17 6 (Int32.toNatClampNeg (μ17.1 16 (Int32.toNatClampNeg r17))) (μ17.1 17 (Int32.toNatClampNeg r17))) else none) else none) else none) else (if (μ17.1 15 (Int32.toNatClampNeg r17)) = 1 then ((fX0_restoreCells r17 μ17).bind fun μ91 => fX7_undo_b122 μ91) else (if inb r17 14 = true then (if inb r17 14 = true then ((fX1_setNumber (μ17.1 16 (Int32.toNatClampNeg r17)) (μ17.1 18 (Int32.toNatClampNeg r17)) μ17).bind fun μ119 => fX7_undo_b122 μ119) else none) else none))) else none)))
set_option maxRecDepth 100000 in
set_option maxHeartbeats 4000000 in
theorem kX7_undo (l : Launch) (ε : Ev)  (μ : Mm) (out : (Int32 × Mm)) (hf : fX7_undo μ = some out) : Sp l ε layX yX7_undo cX7_undo 2 (some .int) 2 [.ref (ea ε 0)] (some (.int out.1)) μ out.2 := by
  refine Sp.of [(0, .ref (ea ε 0))] rfl (by decide +kernel) (Nat.le_of_ble_eq_true rfl) ?_
  intro κ hκ C E hQ
  subst hκ
  replace C : Cf κ cX7_undo 2 RX7 (some .int) 2 := C
  have b122 : ∀ (μ : Mm) , fX7_undo_b122 μ = some out → G κ (Vw κ ε layX μ) 2 122 [(0, .ref (ea ε 0))] [] := by
    intro μ hf
    refine g_aload_n (pc := 122) (i := 0) (j := 0) C dX7_undo_122 rfl rfl ?_
    refine g_getr (pc := 123) (j := 3) C E fdX7_26 layX_0_2 dX7_undo_123 ?_
    refine g_geti (pc := 126) C E fdX7_111 layX_3_7 dX7_undo_126 ?_
    exact g_iretw (pc := 129) C hQ dX7_undo_129 hf
  refine g_aload_n (pc := 0) (i := 0) (j := 0) C dX7_undo_0 rfl rfl ?_
  refine g_getr (pc := 1) (j := 3) C E fdX7_26 layX_0_2 dX7_undo_1 ?_
  refine g_geti (pc := 4) C E fdX7_111 layX_3_7 dX7_undo_4 ?_
  refine g_if_ne (pc := 7) (tgt := 13) C dX7_undo_7 rfl hf (fun _ hf => ?_) (fun _ hf => ?_)
  · refine g_aload_n (pc := 13) (i := 0) (j := 0) C dX7_undo_13 rfl rfl ?_
    refine g_getr (pc := 14) (j := 3) C E fdX7_26 layX_0_2 dX7_undo_14 ?_
    refine g_cwi (pc := 17) (st := []) C E layX_3 lkX7_274 (As := []) rfl (fun out h => kX0_removeLatest (kl κ) ε μ out h) (by decide) rfl (Nat.le_of_ble_eq_true rfl) dX7_undo_17 hf (fun r17 μ17 _ hf => ?_)
    refine g_istore_n (pc := 20) (i := 1) (L' := [(1, .int r17), (0, .ref (ea ε 0))]) C dX7_undo_20 rfl (by decide) rfl ?_
    refine g_aload_n (pc := 21) (i := 0) (j := 1) C dX7_undo_21 rfl rfl ?_
    refine g_getr (pc := 22) (j := 3) C E fdX7_26 layX_0_2 dX7_undo_22 ?_
    refine g_getr (pc := 25) (j := 15) C E fdX7_277 layX_3_0 dX7_undo_25 ?_
    refine g_iload_n (pc := 28) (i := 1) (j := 0) C dX7_undo_28 rfl rfl ?_
    refine g_iald (pc := 29) C E layX_15 dX7_undo_29 hf (fun hf => ?_)
    by_cases h30_0 : (μ17.1 15 (Int32.toNatClampNeg r17)) = 0
    · replace hf := ite_t h30_0 hf
      refine g_look (pc := 30) (off := 26) (tgt := 56) C dX7_undo_30 (by decide) (by rw [h30_0]; decide) rfl ?_
      refine g_aload_n (pc := 56) (i := 0) (j := 1) C dX7_undo_56 rfl rfl ?_
      refine g_getr (pc := 57) (j := 6) C E fdX7_44 layX_0_5 dX7_undo_57 ?_
      refine g_aload_n (pc := 60) (i := 0) (j := 1) C dX7_undo_60 rfl rfl ?_
      refine g_getr (pc := 61) (j := 3) C E fdX7_26 layX_0_2 dX7_undo_61 ?_
      refine g_getr (pc := 64) (j := 16) C E fdX7_280 layX_3_1 dX7_undo_64 ?_
      refine g_iload_n (pc := 67) (i := 1) (j := 0) C dX7_undo_67 rfl rfl ?_
      refine g_iald (pc := 68) C E layX_16 dX7_undo_68 hf (fun hf => ?_)
      refine g_aload_n (pc := 69) (i := 0) (j := 1) C dX7_undo_69 rfl rfl ?_
      refine g_getr (pc := 70) (j := 3) C E fdX7_26 layX_0_2 dX7_undo_70 ?_
      refine g_getr (pc := 73) (j := 17) C E fdX7_283 layX_3_2 dX7_undo_73 ?_
      refine g_iload_n (pc := 76) (i := 1) (j := 0) C dX7_undo_76 rfl rfl ?_
      refine g_iald (pc := 77) C E layX_17 dX7_undo_77 hf (fun hf => ?_)
      refine g_iast (pc := 78) C E layX_6 dX7_undo_78 hf (fun hf => ?_)
      refine g_goto (pc := 79) (tgt := 122) C dX7_undo_79 rfl ?_
      exact g_at [1] rfl (b122 (wI μ17 6 (Int32.toNatClampNeg (μ17.1 16 (Int32.toNatClampNeg r17))) (μ17.1 17 (Int32.toNatClampNeg r17))) hf)
    replace hf := ite_f h30_0 hf
    by_cases h30_1 : (μ17.1 15 (Int32.toNatClampNeg r17)) = 1
    · replace hf := ite_t h30_1 hf
      refine g_look (pc := 30) (off := 52) (tgt := 82) C dX7_undo_30 (by decide) (by rw [h30_1]; decide) rfl ?_
      refine g_aload_n (pc := 82) (i := 0) (j := 1) C dX7_undo_82 rfl rfl ?_
      refine g_getr (pc := 83) (j := 3) C E fdX7_26 layX_0_2 dX7_undo_83 ?_
      refine g_iload_n (pc := 86) (i := 1) (j := 0) C dX7_undo_86 rfl rfl ?_
      refine g_aload_n (pc := 87) (i := 0) (j := 1) C dX7_undo_87 rfl rfl ?_
      refine g_getr (pc := 88) (j := 2) C E fdX7_19 layX_0_1 dX7_undo_88 ?_
      refine g_cwv (pc := 91) (st := []) C E layX_3 lkX7_286 (As := [.int r17, .ref (ea ε 2)]) rfl (fun out h => kX0_restoreCells (kl κ) ε r17 μ17 out h) (by decide) rfl (Nat.le_of_ble_eq_true rfl) dX7_undo_91 hf (fun μ91 _ hf => ?_)
      refine g_goto (pc := 94) (tgt := 122) C dX7_undo_94 rfl ?_
      exact g_at [1] rfl (b122 μ91 hf)
    replace hf := ite_f h30_1 hf
    refine g_look (pc := 30) (off := 67) (tgt := 97) C dX7_undo_30 (by decide) (by show Op.lookupswitch.offset [(0, 26), (1, 52)] 67 _ = _; rw [lv_osw h30_0 (by decide), lv_osw h30_1 (by decide)]; rfl) rfl ?_
    refine g_aload_n (pc := 97) (i := 0) (j := 1) C dX7_undo_97 rfl rfl ?_
    refine g_getr (pc := 98) (j := 4) C E fdX7_33 layX_0_3 dX7_undo_98 ?_
    refine g_aload_n (pc := 101) (i := 0) (j := 1) C dX7_undo_101 rfl rfl ?_
    refine g_getr (pc := 102) (j := 3) C E fdX7_26 layX_0_2 dX7_undo_102 ?_
    refine g_getr (pc := 105) (j := 16) C E fdX7_280 layX_3_1 dX7_undo_105 ?_
    refine g_iload_n (pc := 108) (i := 1) (j := 0) C dX7_undo_108 rfl rfl ?_
    refine g_iald (pc := 109) C E layX_16 dX7_undo_109 hf (fun hf => ?_)
    refine g_aload_n (pc := 110) (i := 0) (j := 1) C dX7_undo_110 rfl rfl ?_
    refine g_getr (pc := 111) (j := 3) C E fdX7_26 layX_0_2 dX7_undo_111 ?_
    refine g_getr (pc := 114) (j := 18) C E fdX7_289 layX_3_3 dX7_undo_114 ?_
    refine g_iload_n (pc := 117) (i := 1) (j := 0) C dX7_undo_117 rfl rfl ?_
    refine g_iald (pc := 118) C E layX_18 dX7_undo_118 hf (fun hf => ?_)
    refine g_cwv (pc := 119) (st := []) C E layX_4 lkX7_184 (As := [.int (μ17.1 16 (Int32.toNatClampNeg r17)), .int (μ17.1 18 (Int32.toNatClampNeg r17))]) rfl (fun out h => kX1_setNumber (kl κ) ε (μ17.1 16 (Int32.toNatClampNeg r17)) (μ17.1 18 (Int32.toNatClampNeg r17)) μ17 out h) (by decide) rfl (Nat.le_of_ble_eq_true rfl) dX7_undo_119 hf (fun μ119 _ hf => ?_)
    exact g_at [1] rfl (b122 μ119 hf)
  · refine g_bipush (pc := 10) C dX7_undo_10 cb_m3 ?_
    exact g_iretw (pc := 12) C hQ dX7_undo_12 hf
theorem dX7_unlike_0 : decode cX7_unlike 0 = .ok (.iload_n 1, 1) := by decide +kernel
theorem dX7_unlike_1 : decode cX7_unlike 1 = .ok (.invokestatic 76, 3) := by decide +kernel
theorem dX7_unlike_4 : decode cX7_unlike 4 = .ok (.ifCond .ne 5, 3) := by decide +kernel
theorem dX7_unlike_7 : decode cX7_unlike 7 = .ok (.iconst (-1), 1) := by decide +kernel
theorem dX7_unlike_8 : decode cX7_unlike 8 = .ok (.ireturn, 1) := by decide +kernel
theorem dX7_unlike_9 : decode cX7_unlike 9 = .ok (.aload_n 0, 1) := by decide +kernel
theorem dX7_unlike_10 : decode cX7_unlike 10 = .ok (.iload_n 1, 1) := by decide +kernel
theorem dX7_unlike_11 : decode cX7_unlike 11 = .ok (.invokevirtual 129, 3) := by decide +kernel
theorem dX7_unlike_14 : decode cX7_unlike 14 = .ok (.ifCond .ne 6, 3) := by decide +kernel
theorem dX7_unlike_17 : decode cX7_unlike 17 = .ok (.bipush (-3), 2) := by decide +kernel
theorem dX7_unlike_19 : decode cX7_unlike 19 = .ok (.ireturn, 1) := by decide +kernel
theorem dX7_unlike_20 : decode cX7_unlike 20 = .ok (.aload_n 0, 1) := by decide +kernel
theorem dX7_unlike_21 : decode cX7_unlike 21 = .ok (.getfield 44, 3) := by decide +kernel
theorem dX7_unlike_24 : decode cX7_unlike 24 = .ok (.iload_n 1, 1) := by decide +kernel
theorem dX7_unlike_25 : decode cX7_unlike 25 = .ok (.iaload, 1) := by decide +kernel
theorem dX7_unlike_26 : decode cX7_unlike 26 = .ok (.istore_n 2, 1) := by decide +kernel
theorem dX7_unlike_27 : decode cX7_unlike 27 = .ok (.iconst 0, 1) := by decide +kernel
theorem dX7_unlike_28 : decode cX7_unlike 28 = .ok (.istore_n 3, 1) := by decide +kernel
theorem dX7_unlike_29 : decode cX7_unlike 29 = .ok (.iconst 0, 1) := by decide +kernel
theorem dX7_unlike_30 : decode cX7_unlike 30 = .ok (.istore 4, 2) := by decide +kernel
theorem dX7_unlike_32 : decode cX7_unlike 32 = .ok (.iload 4, 2) := by decide +kernel
theorem dX7_unlike_34 : decode cX7_unlike 34 = .ok (.aload_n 0, 1) := by decide +kernel
theorem dX7_unlike_35 : decode cX7_unlike 35 = .ok (.getfield 19, 3) := by decide +kernel
theorem dX7_unlike_38 : decode cX7_unlike 38 = .ok (.getfield 132, 3) := by decide +kernel
theorem dX7_unlike_41 : decode cX7_unlike 41 = .ok (.iload_n 2, 1) := by decide +kernel
theorem dX7_unlike_42 : decode cX7_unlike 42 = .ok (.iaload, 1) := by decide +kernel
theorem dX7_unlike_43 : decode cX7_unlike 43 = .ok (.if_icmp .ge 25, 3) := by decide +kernel
theorem dX7_unlike_46 : decode cX7_unlike 46 = .ok (.aload_n 0, 1) := by decide +kernel
theorem dX7_unlike_47 : decode cX7_unlike 47 = .ok (.getfield 19, 3) := by decide +kernel
theorem dX7_unlike_50 : decode cX7_unlike 50 = .ok (.iload_n 2, 1) := by decide +kernel
theorem dX7_unlike_51 : decode cX7_unlike 51 = .ok (.iload 4, 2) := by decide +kernel
theorem dX7_unlike_53 : decode cX7_unlike 53 = .ok (.invokevirtual 265, 3) := by decide +kernel
theorem dX7_unlike_56 : decode cX7_unlike 56 = .ok (.ifCond .ne 6, 3) := by decide +kernel
theorem dX7_unlike_59 : decode cX7_unlike 59 = .ok (.iinc 3 1, 3) := by decide +kernel
theorem dX7_unlike_62 : decode cX7_unlike 62 = .ok (.iinc 4 1, 3) := by decide +kernel
theorem dX7_unlike_65 : decode cX7_unlike 65 = .ok (.goto (-33), 3) := by decide +kernel
theorem dX7_unlike_68 : decode cX7_unlike 68 = .ok (.iload_n 3, 1) := by decide +kernel
theorem dX7_unlike_69 : decode cX7_unlike 69 = .ok (.ireturn, 1) := by decide +kernel
def fX7_unlike_b62 (μ : Mm) (k32 : Int32 → Int32 → Int32 → Option Int32) (v2 : Int32) (v3 : Int32) (v4 : Int32) : Option Int32 := k32 v2 v3 (v4 + (1 : Int32))
def fX7_unlike_b32 (μ : Mm) : Nat → Int32 → Int32 → Int32 → Option Int32
  | 0, _, _, _ => none
  | n + 1, v2, v3, v4 => (if inb v2 26 = true then (if (μ.1 12 (Int32.toNatClampNeg v2)) ≤ v4 then some v3 else ((fX5_stoodBefore v2 v4 μ).bind fun r53 => (if r53 = 0 then fX7_unlike_b62 μ (fX7_unlike_b32 μ n) v2 (v3 + (1 : Int32)) v4 else fX7_unlike_b62 μ (fX7_unlike_b32 μ n) v2 v3 v4))) else none)
def fX7_unlike (p1 : Int32) (μ : Mm) : Option Int32 := ((fX7_isSlot p1).bind fun r1 => (if r1 = 0 then some (-1 : Int32) else ((fX7_holdsArray p1 μ).bind fun r11 => (if r11 = 0 then some (-3 : Int32) else (if inb p1 10 = true then fX7_unlike_b32 μ 100 (μ.1 6 (Int32.toNatClampNeg p1)) (0 : Int32) (0 : Int32) else none)))))
set_option maxRecDepth 100000 in
set_option maxHeartbeats 4000000 in
theorem kX7_unlike (l : Launch) (ε : Ev) (p1 : Int32) (μ : Mm) (out : Int32) (hf : fX7_unlike p1 μ = some out) : Sp l ε layX yX7_unlike cX7_unlike 5 (some .int) 2 [.ref (ea ε 0), .int p1] (some (.int out)) μ μ := by
  refine Sp.of [(0, .ref (ea ε 0)), (1, .int p1)] rfl (by decide +kernel) (Nat.le_of_ble_eq_true rfl) ?_
  intro κ hκ C E hQ
  subst hκ
  replace C : Cf κ cX7_unlike 5 RX7 (some .int) 2 := C
  have b62 : ∀ (k32 : Int32 → Int32 → Int32 → Option Int32) (hk32 : ∀ (v2 : Int32) (v3 : Int32) (v4 : Int32) , k32 v2 v3 v4 = some out → G κ (Vw κ ε layX μ) 5 32 [(0, .ref (ea ε 0)), (2, .int v2), (3, .int v3), (4, .int v4)] []) (v2 : Int32) (v3 : Int32) (v4 : Int32) , fX7_unlike_b62 μ k32 v2 v3 v4 = some out → G κ (Vw κ ε layX μ) 5 62 [(0, .ref (ea ε 0)), (2, .int v2), (3, .int v3), (4, .int v4)] [] := by
    intro k32 hk32 v2 v3 v4 hf
    refine g_iinc (pc := 62) (i := 4) (j := 3) (v := (v4 + (1 : Int32))) (L' := [(4, .int (v4 + (1 : Int32))), (0, .ref (ea ε 0)), (2, .int v2), (3, .int v3)]) C dX7_unlike_62 rfl (cx_1 _) (by decide) rfl ?_
    refine g_goto (pc := 65) (tgt := 32) C dX7_unlike_65 rfl ?_
    exact g_at [1, 2, 3, 0] rfl (hk32 v2 v3 (v4 + (1 : Int32)) hf)
  have b32 : ∀ (n : Nat) (v2 : Int32) (v3 : Int32) (v4 : Int32) , fX7_unlike_b32 μ n v2 v3 v4 = some out → G κ (Vw κ ε layX μ) 5 32 [(0, .ref (ea ε 0)), (2, .int v2), (3, .int v3), (4, .int v4)] [] := by
    intro n
    induction n with
    | zero => intro v2 v3 v4 hf; exact none_ne hf
    | succ n ih =>
      intro v2 v3 v4 hf
      refine g_iload (pc := 32) (i := 4) (j := 3) C dX7_unlike_32 rfl ?_
      refine g_aload_n (pc := 34) (i := 0) (j := 0) C dX7_unlike_34 rfl rfl ?_
      refine g_getr (pc := 35) (j := 2) C E fdX7_19 layX_0_1 dX7_unlike_35 ?_
      refine g_getr (pc := 38) (j := 12) C E fdX7_132 layX_2_1 dX7_unlike_38 ?_
      refine g_iload_n (pc := 41) (i := 2) (j := 1) C dX7_unlike_41 rfl rfl ?_
      refine g_iald (pc := 42) C E layX_12 dX7_unlike_42 hf (fun hf => ?_)
      refine g_icmp_ge (pc := 43) (tgt := 68) C dX7_unlike_43 rfl hf (fun _ hf => ?_) (fun _ hf => ?_)
      · refine g_iload_n (pc := 68) (i := 3) (j := 2) C dX7_unlike_68 rfl rfl ?_
        exact g_iretr (pc := 69) C hQ dX7_unlike_69 hf
      · refine g_aload_n (pc := 46) (i := 0) (j := 0) C dX7_unlike_46 rfl rfl ?_
        refine g_getr (pc := 47) (j := 2) C E fdX7_19 layX_0_1 dX7_unlike_47 ?_
        refine g_iload_n (pc := 50) (i := 2) (j := 1) C dX7_unlike_50 rfl rfl ?_
        refine g_iload (pc := 51) (i := 4) (j := 3) C dX7_unlike_51 rfl ?_
        refine g_cri (pc := 53) (st := []) C E layX_2 lkX7_265 (As := [.int v2, .int v4]) rfl (fun out h => kX5_stoodBefore (kl κ) ε v2 v4 μ out h) (by decide) rfl (Nat.le_of_ble_eq_true rfl) dX7_unlike_53 hf (fun r53 _ hf => ?_)
        refine g_if_ne (pc := 56) (tgt := 62) C dX7_unlike_56 rfl hf (fun _ hf => ?_) (fun _ hf => ?_)
        · exact b62 (fX7_unlike_b32 μ n) ih v2 v3 v4 hf
        · refine g_iinc (pc := 59) (i := 3) (j := 2) (v := (v3 + (1 : Int32))) (L' := [(3, .int (v3 + (1 : Int32))), (0, .ref (ea ε 0)), (2, .int v2), (4, .int v4)]) C dX7_unlike_59 rfl (cx_1 _) (by decide) rfl ?_
          exact g_at [1, 2, 0, 3] rfl (b62 (fX7_unlike_b32 μ n) ih v2 (v3 + (1 : Int32)) v4 hf)
  refine g_iload_n (pc := 0) (i := 1) (j := 1) C dX7_unlike_0 rfl rfl ?_
  refine g_cpi (pc := 1) (st := []) C lkX7_76 (As := [.int p1]) rfl (fun out h => kX7_isSlot (kl κ) p1 out h) (by decide) rfl (Nat.le_of_ble_eq_true rfl) dX7_unlike_1 hf (fun r1 _ hf => ?_)
  refine g_if_ne (pc := 4) (tgt := 9) C dX7_unlike_4 rfl hf (fun _ hf => ?_) (fun _ hf => ?_)
  · refine g_aload_n (pc := 9) (i := 0) (j := 0) C dX7_unlike_9 rfl rfl ?_
    refine g_iload_n (pc := 10) (i := 1) (j := 1) C dX7_unlike_10 rfl rfl ?_
    refine g_cri (pc := 11) (st := []) C E layX_0 lkX7_129 (As := [.int p1]) rfl (fun out h => kX7_holdsArray (kl κ) ε p1 μ out h) (by decide) rfl (Nat.le_of_ble_eq_true rfl) dX7_unlike_11 hf (fun r11 _ hf => ?_)
    refine g_if_ne (pc := 14) (tgt := 20) C dX7_unlike_14 rfl hf (fun _ hf => ?_) (fun _ hf => ?_)
    · refine g_aload_n (pc := 20) (i := 0) (j := 0) C dX7_unlike_20 rfl rfl ?_
      refine g_getr (pc := 21) (j := 6) C E fdX7_44 layX_0_5 dX7_unlike_21 ?_
      refine g_iload_n (pc := 24) (i := 1) (j := 1) C dX7_unlike_24 rfl rfl ?_
      refine g_iald (pc := 25) C E layX_6 dX7_unlike_25 hf (fun hf => ?_)
      refine g_istore_n (pc := 26) (i := 2) (L' := [(2, .int (μ.1 6 (Int32.toNatClampNeg p1))), (0, .ref (ea ε 0)), (1, .int p1)]) C dX7_unlike_26 rfl (by decide) rfl ?_
      refine g_iconst (pc := 27) C dX7_unlike_27 ci_0 ?_
      refine g_istore_n (pc := 28) (i := 3) (L' := [(3, .int (0 : Int32)), (2, .int (μ.1 6 (Int32.toNatClampNeg p1))), (0, .ref (ea ε 0)), (1, .int p1)]) C dX7_unlike_28 rfl (by decide) rfl ?_
      refine g_iconst (pc := 29) C dX7_unlike_29 ci_0 ?_
      refine g_istore (pc := 30) (i := 4) (L' := [(4, .int (0 : Int32)), (3, .int (0 : Int32)), (2, .int (μ.1 6 (Int32.toNatClampNeg p1))), (0, .ref (ea ε 0)), (1, .int p1)]) C dX7_unlike_30 (by decide) rfl ?_
      exact g_at [3, 2, 1, 0] rfl (b32 100 (μ.1 6 (Int32.toNatClampNeg p1)) (0 : Int32) (0 : Int32) hf)
    · refine g_bipush (pc := 17) C dX7_unlike_17 cb_m3 ?_
      exact g_iretr (pc := 19) C hQ dX7_unlike_19 hf
  · refine g_iconst (pc := 7) C dX7_unlike_7 ci_m1 ?_
    exact g_iretr (pc := 8) C hQ dX7_unlike_8 hf
theorem dX7_unsee_0 : decode cX7_unsee 0 = .ok (.aload_n 0, 1) := by decide +kernel
theorem dX7_unsee_1 : decode cX7_unsee 1 = .ok (.getfield 40, 3) := by decide +kernel
theorem dX7_unsee_4 : decode cX7_unsee 4 = .ok (.getfield 114, 3) := by decide +kernel
theorem dX7_unsee_7 : decode cX7_unsee 7 = .ok (.istore_n 1, 1) := by decide +kernel
theorem dX7_unsee_8 : decode cX7_unsee 8 = .ok (.aload_n 0, 1) := by decide +kernel
theorem dX7_unsee_9 : decode cX7_unsee 9 = .ok (.getfield 40, 3) := by decide +kernel
theorem dX7_unsee_12 : decode cX7_unsee 12 = .ok (.iconst 0, 1) := by decide +kernel
theorem dX7_unsee_13 : decode cX7_unsee 13 = .ok (.putfield 114, 3) := by decide +kernel
theorem dX7_unsee_16 : decode cX7_unsee 16 = .ok (.iload_n 1, 1) := by decide +kernel
theorem dX7_unsee_17 : decode cX7_unsee 17 = .ok (.ireturn, 1) := by decide +kernel
def fX7_unsee  (μ : Mm) : Option (Int32 × Mm) := some ((μ.1 5 3), (wI μ 5 3 (0 : Int32)))
set_option maxRecDepth 100000 in
set_option maxHeartbeats 4000000 in
theorem kX7_unsee (l : Launch) (ε : Ev)  (μ : Mm) (out : (Int32 × Mm)) (hf : fX7_unsee μ = some out) : Sp l ε layX yX7_unsee cX7_unsee 2 (some .int) 0 [.ref (ea ε 0)] (some (.int out.1)) μ out.2 := by
  refine Sp.of [(0, .ref (ea ε 0))] rfl (by decide +kernel) (Nat.le_of_ble_eq_true rfl) ?_
  intro κ hκ C E hQ
  subst hκ
  replace C : Cf κ cX7_unsee 2 RX7 (some .int) 0 := C
  refine g_aload_n (pc := 0) (i := 0) (j := 0) C dX7_unsee_0 rfl rfl ?_
  refine g_getr (pc := 1) (j := 5) C E fdX7_40 layX_0_4 dX7_unsee_1 ?_
  refine g_geti (pc := 4) C E fdX7_114 layX_5_3 dX7_unsee_4 ?_
  refine g_istore_n (pc := 7) (i := 1) (L' := [(1, .int (μ.1 5 3)), (0, .ref (ea ε 0))]) C dX7_unsee_7 rfl (by decide) rfl ?_
  refine g_aload_n (pc := 8) (i := 0) (j := 1) C dX7_unsee_8 rfl rfl ?_
  refine g_getr (pc := 9) (j := 5) C E fdX7_40 layX_0_4 dX7_unsee_9 ?_
  refine g_iconst (pc := 12) C dX7_unsee_12 ci_0 ?_
  refine g_puti (pc := 13) C E fdX7_114 layX_5_3 dX7_unsee_13 ?_
  refine g_iload_n (pc := 16) (i := 1) (j := 0) C dX7_unsee_16 rfl rfl ?_
  exact g_iretw (pc := 17) C hQ dX7_unsee_17 hf
theorem dX7_which_0 : decode cX7_which 0 = .ok (.iconst 0, 1) := by decide +kernel
theorem dX7_which_1 : decode cX7_which 1 = .ok (.istore_n 1, 1) := by decide +kernel
theorem dX7_which_2 : decode cX7_which 2 = .ok (.iconst 0, 1) := by decide +kernel
theorem dX7_which_3 : decode cX7_which 3 = .ok (.istore_n 2, 1) := by decide +kernel
theorem dX7_which_4 : decode cX7_which 4 = .ok (.iload_n 2, 1) := by decide +kernel
theorem dX7_which_5 : decode cX7_which 5 = .ok (.bipush 15, 2) := by decide +kernel
theorem dX7_which_7 : decode cX7_which 7 = .ok (.if_icmp .gt 26, 3) := by decide +kernel
theorem dX7_which_10 : decode cX7_which 10 = .ok (.aload_n 0, 1) := by decide +kernel
theorem dX7_which_11 : decode cX7_which 11 = .ok (.getfield 40, 3) := by decide +kernel
theorem dX7_which_14 : decode cX7_which 14 = .ok (.iload_n 2, 1) := by decide +kernel
theorem dX7_which_15 : decode cX7_which 15 = .ok (.invokevirtual 271, 3) := by decide +kernel
theorem dX7_which_18 : decode cX7_which 18 = .ok (.ifCond .eq 9, 3) := by decide +kernel
theorem dX7_which_21 : decode cX7_which 21 = .ok (.iload_n 1, 1) := by decide +kernel
theorem dX7_which_22 : decode cX7_which 22 = .ok (.iconst 1, 1) := by decide +kernel
theorem dX7_which_23 : decode cX7_which 23 = .ok (.iload_n 2, 1) := by decide +kernel
theorem dX7_which_24 : decode cX7_which 24 = .ok (.ishl, 1) := by decide +kernel
theorem dX7_which_25 : decode cX7_which 25 = .ok (.ior, 1) := by decide +kernel
theorem dX7_which_26 : decode cX7_which 26 = .ok (.istore_n 1, 1) := by decide +kernel
theorem dX7_which_27 : decode cX7_which 27 = .ok (.iinc 2 1, 3) := by decide +kernel
theorem dX7_which_30 : decode cX7_which 30 = .ok (.goto (-26), 3) := by decide +kernel
theorem dX7_which_33 : decode cX7_which 33 = .ok (.iload_n 1, 1) := by decide +kernel
theorem dX7_which_34 : decode cX7_which 34 = .ok (.ireturn, 1) := by decide +kernel
def fX7_which_b27 (μ : Mm) (k4 : Int32 → Int32 → Option Int32) (v1 : Int32) (v2 : Int32) : Option Int32 := k4 v1 (v2 + (1 : Int32))
def fX7_which_b4 (μ : Mm) : Nat → Int32 → Int32 → Option Int32
  | 0, _, _ => none
  | n + 1, v1, v2 => (if (15 : Int32) < v2 then some v1 else ((fX6_allow v2 μ).bind fun r15 => (if r15 = 0 then fX7_which_b27 μ (fX7_which_b4 μ n) v1 v2 else fX7_which_b27 μ (fX7_which_b4 μ n) (v1 ||| (jshl (1 : Int32) v2)) v2)))
def fX7_which  (μ : Mm) : Option Int32 := fX7_which_b4 μ 100 (0 : Int32) (0 : Int32)
set_option maxRecDepth 100000 in
set_option maxHeartbeats 4000000 in
theorem kX7_which (l : Launch) (ε : Ev)  (μ : Mm) (out : Int32) (hf : fX7_which μ = some out) : Sp l ε layX yX7_which cX7_which 3 (some .int) 5 [.ref (ea ε 0)] (some (.int out)) μ μ := by
  refine Sp.of [(0, .ref (ea ε 0))] rfl (by decide +kernel) (Nat.le_of_ble_eq_true rfl) ?_
  intro κ hκ C E hQ
  subst hκ
  replace C : Cf κ cX7_which 3 RX7 (some .int) 5 := C
  have b27 : ∀ (k4 : Int32 → Int32 → Option Int32) (hk4 : ∀ (v1 : Int32) (v2 : Int32) , k4 v1 v2 = some out → G κ (Vw κ ε layX μ) 3 4 [(0, .ref (ea ε 0)), (1, .int v1), (2, .int v2)] []) (v1 : Int32) (v2 : Int32) , fX7_which_b27 μ k4 v1 v2 = some out → G κ (Vw κ ε layX μ) 3 27 [(0, .ref (ea ε 0)), (1, .int v1), (2, .int v2)] [] := by
    intro k4 hk4 v1 v2 hf
    refine g_iinc (pc := 27) (i := 2) (j := 2) (v := (v2 + (1 : Int32))) (L' := [(2, .int (v2 + (1 : Int32))), (0, .ref (ea ε 0)), (1, .int v1)]) C dX7_which_27 rfl (cx_1 _) (by decide) rfl ?_
    refine g_goto (pc := 30) (tgt := 4) C dX7_which_30 rfl ?_
    exact g_at [1, 2, 0] rfl (hk4 v1 (v2 + (1 : Int32)) hf)
  have b4 : ∀ (n : Nat) (v1 : Int32) (v2 : Int32) , fX7_which_b4 μ n v1 v2 = some out → G κ (Vw κ ε layX μ) 3 4 [(0, .ref (ea ε 0)), (1, .int v1), (2, .int v2)] [] := by
    intro n
    induction n with
    | zero => intro v1 v2 hf; exact none_ne hf
    | succ n ih =>
      intro v1 v2 hf
      refine g_iload_n (pc := 4) (i := 2) (j := 2) C dX7_which_4 rfl rfl ?_
      refine g_bipush (pc := 5) C dX7_which_5 cb_15 ?_
      refine g_icmp_gt (pc := 7) (tgt := 33) C dX7_which_7 rfl hf (fun _ hf => ?_) (fun _ hf => ?_)
      · refine g_iload_n (pc := 33) (i := 1) (j := 1) C dX7_which_33 rfl rfl ?_
        exact g_iretr (pc := 34) C hQ dX7_which_34 hf
      · refine g_aload_n (pc := 10) (i := 0) (j := 0) C dX7_which_10 rfl rfl ?_
        refine g_getr (pc := 11) (j := 5) C E fdX7_40 layX_0_4 dX7_which_11 ?_
        refine g_iload_n (pc := 14) (i := 2) (j := 2) C dX7_which_14 rfl rfl ?_
        refine g_cri (pc := 15) (st := []) C E layX_5 lkX7_271 (As := [.int v2]) rfl (fun out h => kX6_allow (kl κ) ε v2 μ out h) (by decide) rfl (Nat.le_of_ble_eq_true rfl) dX7_which_15 hf (fun r15 _ hf => ?_)
        refine g_if_eq (pc := 18) (tgt := 27) C dX7_which_18 rfl hf (fun _ hf => ?_) (fun _ hf => ?_)
        · exact b27 (fX7_which_b4 μ n) ih v1 v2 hf
        · refine g_iload_n (pc := 21) (i := 1) (j := 1) C dX7_which_21 rfl rfl ?_
          refine g_iconst (pc := 22) C dX7_which_22 ci_1 ?_
          refine g_iload_n (pc := 23) (i := 2) (j := 2) C dX7_which_23 rfl rfl ?_
          refine g_ishl (pc := 24) C dX7_which_24 ?_
          refine g_ior (pc := 25) C dX7_which_25 ?_
          refine g_istore_n (pc := 26) (i := 1) (L' := [(1, .int (v1 ||| (jshl (1 : Int32) v2))), (0, .ref (ea ε 0)), (2, .int v2)]) C dX7_which_26 rfl (by decide) rfl ?_
          exact g_at [1, 0, 2] rfl (b27 (fX7_which_b4 μ n) ih (v1 ||| (jshl (1 : Int32) v2)) v2 hf)
  refine g_iconst (pc := 0) C dX7_which_0 ci_0 ?_
  refine g_istore_n (pc := 1) (i := 1) (L' := [(1, .int (0 : Int32)), (0, .ref (ea ε 0))]) C dX7_which_1 rfl (by decide) rfl ?_
  refine g_iconst (pc := 2) C dX7_which_2 ci_0 ?_
  refine g_istore_n (pc := 3) (i := 2) (L' := [(2, .int (0 : Int32)), (1, .int (0 : Int32)), (0, .ref (ea ε 0))]) C dX7_which_3 rfl (by decide) rfl ?_
  exact g_at [2, 1, 0] rfl (b4 100 (0 : Int32) (0 : Int32) hf)
theorem dX7_wipe_0 : decode cX7_wipe 0 = .ok (.aload_n 0, 1) := by decide +kernel
theorem dX7_wipe_1 : decode cX7_wipe 1 = .ok (.getfield 12, 3) := by decide +kernel
theorem dX7_wipe_4 : decode cX7_wipe 4 = .ok (.getfield 69, 3) := by decide +kernel
theorem dX7_wipe_7 : decode cX7_wipe 7 = .ok (.istore_n 1, 1) := by decide +kernel
theorem dX7_wipe_8 : decode cX7_wipe 8 = .ok (.aload_n 0, 1) := by decide +kernel
theorem dX7_wipe_9 : decode cX7_wipe 9 = .ok (.getfield 12, 3) := by decide +kernel
theorem dX7_wipe_12 : decode cX7_wipe 12 = .ok (.iconst 0, 1) := by decide +kernel
theorem dX7_wipe_13 : decode cX7_wipe 13 = .ok (.putfield 69, 3) := by decide +kernel
theorem dX7_wipe_16 : decode cX7_wipe 16 = .ok (.iload_n 1, 1) := by decide +kernel
theorem dX7_wipe_17 : decode cX7_wipe 17 = .ok (.ireturn, 1) := by decide +kernel
def fX7_wipe  (μ : Mm) : Option (Int32 × Mm) := some ((μ.1 1 1), (wI μ 1 1 (0 : Int32)))
set_option maxRecDepth 100000 in
set_option maxHeartbeats 4000000 in
theorem kX7_wipe (l : Launch) (ε : Ev)  (μ : Mm) (out : (Int32 × Mm)) (hf : fX7_wipe μ = some out) : Sp l ε layX yX7_wipe cX7_wipe 2 (some .int) 0 [.ref (ea ε 0)] (some (.int out.1)) μ out.2 := by
  refine Sp.of [(0, .ref (ea ε 0))] rfl (by decide +kernel) (Nat.le_of_ble_eq_true rfl) ?_
  intro κ hκ C E hQ
  subst hκ
  replace C : Cf κ cX7_wipe 2 RX7 (some .int) 0 := C
  refine g_aload_n (pc := 0) (i := 0) (j := 0) C dX7_wipe_0 rfl rfl ?_
  refine g_getr (pc := 1) (j := 1) C E fdX7_12 layX_0_0 dX7_wipe_1 ?_
  refine g_geti (pc := 4) C E fdX7_69 layX_1_1 dX7_wipe_4 ?_
  refine g_istore_n (pc := 7) (i := 1) (L' := [(1, .int (μ.1 1 1)), (0, .ref (ea ε 0))]) C dX7_wipe_7 rfl (by decide) rfl ?_
  refine g_aload_n (pc := 8) (i := 0) (j := 1) C dX7_wipe_8 rfl rfl ?_
  refine g_getr (pc := 9) (j := 1) C E fdX7_12 layX_0_0 dX7_wipe_9 ?_
  refine g_iconst (pc := 12) C dX7_wipe_12 ci_0 ?_
  refine g_puti (pc := 13) C E fdX7_69 layX_1_1 dX7_wipe_13 ?_
  refine g_iload_n (pc := 16) (i := 1) (j := 0) C dX7_wipe_16 rfl rfl ?_
  exact g_iretw (pc := 17) C hQ dX7_wipe_17 hf
theorem dX7_write_0 : decode cX7_write 0 = .ok (.iload_n 1, 1) := by decide +kernel
theorem dX7_write_1 : decode cX7_write 1 = .ok (.ifCond .lt 10, 3) := by decide +kernel
theorem dX7_write_4 : decode cX7_write 4 = .ok (.iload_n 1, 1) := by decide +kernel
theorem dX7_write_5 : decode cX7_write 5 = .ok (.sipush 255, 3) := by decide +kernel
theorem dX7_write_8 : decode cX7_write 8 = .ok (.if_icmp .le 6, 3) := by decide +kernel
theorem dX7_write_11 : decode cX7_write 11 = .ok (.bipush (-2), 2) := by decide +kernel
theorem dX7_write_13 : decode cX7_write 13 = .ok (.ireturn, 1) := by decide +kernel
theorem dX7_write_14 : decode cX7_write 14 = .ok (.aload_n 0, 1) := by decide +kernel
theorem dX7_write_15 : decode cX7_write 15 = .ok (.getfield 12, 3) := by decide +kernel
theorem dX7_write_18 : decode cX7_write 18 = .ok (.iload_n 1, 1) := by decide +kernel
theorem dX7_write_19 : decode cX7_write 19 = .ok (.invokevirtual 65, 3) := by decide +kernel
theorem dX7_write_22 : decode cX7_write 22 = .ok (.ifCond .eq 13, 3) := by decide +kernel
theorem dX7_write_25 : decode cX7_write 25 = .ok (.aload_n 0, 1) := by decide +kernel
theorem dX7_write_26 : decode cX7_write 26 = .ok (.getfield 12, 3) := by decide +kernel
theorem dX7_write_29 : decode cX7_write 29 = .ok (.getfield 69, 3) := by decide +kernel
theorem dX7_write_32 : decode cX7_write 32 = .ok (.goto 5, 3) := by decide +kernel
theorem dX7_write_35 : decode cX7_write 35 = .ok (.bipush (-4), 2) := by decide +kernel
theorem dX7_write_37 : decode cX7_write 37 = .ok (.ireturn, 1) := by decide +kernel
def fX7_write (p1 : Int32) (μ : Mm) : Option (Int32 × Mm) := (if p1 < 0 then some ((-2 : Int32), μ) else (if p1 ≤ (255 : Int32) then (bnd (fX3_append p1 μ) fun r19 μ19 => (if r19 = 0 then some ((-4 : Int32), μ19) else some ((μ19.1 1 1), μ19))) else some ((-2 : Int32), μ)))
set_option maxRecDepth 100000 in
set_option maxHeartbeats 4000000 in
theorem kX7_write (l : Launch) (ε : Ev) (p1 : Int32) (μ : Mm) (out : (Int32 × Mm)) (hf : fX7_write p1 μ = some out) : Sp l ε layX yX7_write cX7_write 2 (some .int) 1 [.ref (ea ε 0), .int p1] (some (.int out.1)) μ out.2 := by
  refine Sp.of [(0, .ref (ea ε 0)), (1, .int p1)] rfl (by decide +kernel) (Nat.le_of_ble_eq_true rfl) ?_
  intro κ hκ C E hQ
  subst hκ
  replace C : Cf κ cX7_write 2 RX7 (some .int) 1 := C
  refine g_iload_n (pc := 0) (i := 1) (j := 1) C dX7_write_0 rfl rfl ?_
  refine g_if_lt (pc := 1) (tgt := 11) C dX7_write_1 rfl hf (fun _ hf => ?_) (fun _ hf => ?_)
  · refine g_bipush (pc := 11) C dX7_write_11 cb_m2 ?_
    exact g_iretw (pc := 13) C hQ dX7_write_13 hf
  · refine g_iload_n (pc := 4) (i := 1) (j := 1) C dX7_write_4 rfl rfl ?_
    refine g_sipush (pc := 5) C dX7_write_5 cs_255 ?_
    refine g_icmp_le (pc := 8) (tgt := 14) C dX7_write_8 rfl hf (fun _ hf => ?_) (fun _ hf => ?_)
    · refine g_aload_n (pc := 14) (i := 0) (j := 0) C dX7_write_14 rfl rfl ?_
      refine g_getr (pc := 15) (j := 1) C E fdX7_12 layX_0_0 dX7_write_15 ?_
      refine g_iload_n (pc := 18) (i := 1) (j := 1) C dX7_write_18 rfl rfl ?_
      refine g_cwi (pc := 19) (st := []) C E layX_1 lkX7_65 (As := [.int p1]) rfl (fun out h => kX3_append (kl κ) ε p1 μ out h) (by decide) rfl (Nat.le_of_ble_eq_true rfl) dX7_write_19 hf (fun r19 μ19 _ hf => ?_)
      refine g_if_eq (pc := 22) (tgt := 35) C dX7_write_22 rfl hf (fun _ hf => ?_) (fun _ hf => ?_)
      · refine g_bipush (pc := 35) C dX7_write_35 cb_m4 ?_
        exact g_iretw (pc := 37) C hQ dX7_write_37 hf
      · refine g_aload_n (pc := 25) (i := 0) (j := 0) C dX7_write_25 rfl rfl ?_
        refine g_getr (pc := 26) (j := 1) C E fdX7_12 layX_0_0 dX7_write_26 ?_
        refine g_geti (pc := 29) C E fdX7_69 layX_1_1 dX7_write_29 ?_
        refine g_goto (pc := 32) (tgt := 37) C dX7_write_32 rfl ?_
        exact g_iretw (pc := 37) C hQ dX7_write_37 hf
    · refine g_bipush (pc := 11) C dX7_write_11 cb_m2 ?_
      exact g_iretw (pc := 13) C hQ dX7_write_13 hf
