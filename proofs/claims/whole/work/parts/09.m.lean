theorem dX8_fineOnes_0 : decode cX8_fineOnes 0 = .ok (.iconst 0, 1) := by decide +kernel
theorem dX8_fineOnes_1 : decode cX8_fineOnes 1 = .ok (.istore_n 1, 1) := by decide +kernel
theorem dX8_fineOnes_2 : decode cX8_fineOnes 2 = .ok (.iconst 0, 1) := by decide +kernel
theorem dX8_fineOnes_3 : decode cX8_fineOnes 3 = .ok (.istore_n 2, 1) := by decide +kernel
theorem dX8_fineOnes_4 : decode cX8_fineOnes 4 = .ok (.iload_n 2, 1) := by decide +kernel
theorem dX8_fineOnes_5 : decode cX8_fineOnes 5 = .ok (.aload_n 0, 1) := by decide +kernel
theorem dX8_fineOnes_6 : decode cX8_fineOnes 6 = .ok (.getfield 248, 3) := by decide +kernel
theorem dX8_fineOnes_9 : decode cX8_fineOnes 9 = .ok (.if_icmp .ge 26, 3) := by decide +kernel
theorem dX8_fineOnes_12 : decode cX8_fineOnes 12 = .ok (.iload_n 1, 1) := by decide +kernel
theorem dX8_fineOnes_13 : decode cX8_fineOnes 13 = .ok (.aload_n 0, 1) := by decide +kernel
theorem dX8_fineOnes_14 : decode cX8_fineOnes 14 = .ok (.getfield 42, 3) := by decide +kernel
theorem dX8_fineOnes_17 : decode cX8_fineOnes 17 = .ok (.iload_n 2, 1) := by decide +kernel
theorem dX8_fineOnes_18 : decode cX8_fineOnes 18 = .ok (.iaload, 1) := by decide +kernel
theorem dX8_fineOnes_19 : decode cX8_fineOnes 19 = .ok (.ifCond .ne 7, 3) := by decide +kernel
theorem dX8_fineOnes_22 : decode cX8_fineOnes 22 = .ok (.iconst 1, 1) := by decide +kernel
theorem dX8_fineOnes_23 : decode cX8_fineOnes 23 = .ok (.goto 4, 3) := by decide +kernel
theorem dX8_fineOnes_26 : decode cX8_fineOnes 26 = .ok (.iconst 0, 1) := by decide +kernel
theorem dX8_fineOnes_27 : decode cX8_fineOnes 27 = .ok (.iadd, 1) := by decide +kernel
theorem dX8_fineOnes_28 : decode cX8_fineOnes 28 = .ok (.istore_n 1, 1) := by decide +kernel
theorem dX8_fineOnes_29 : decode cX8_fineOnes 29 = .ok (.iinc 2 1, 3) := by decide +kernel
theorem dX8_fineOnes_32 : decode cX8_fineOnes 32 = .ok (.goto (-28), 3) := by decide +kernel
theorem dX8_fineOnes_35 : decode cX8_fineOnes 35 = .ok (.iload_n 1, 1) := by decide +kernel
theorem dX8_fineOnes_36 : decode cX8_fineOnes 36 = .ok (.ireturn, 1) := by decide +kernel
def fX8_fineOnes_b27 (μ : Mm) (k4 : Int32 → Int32 → Option Int32) (v2 : Int32) (s0 : Int32) (s1 : Int32) : Option Int32 := k4 (s1 + s0) (v2 + (1 : Int32))
def fX8_fineOnes_b4 (μ : Mm) : Nat → Int32 → Int32 → Option Int32
  | 0, _, _ => none
  | n + 1, v1, v2 => (if (μ.1 0 16) ≤ v2 then some v1 else (if inb v2 6 = true then (if (μ.1 11 (Int32.toNatClampNeg v2)) = 0 then fX8_fineOnes_b27 μ (fX8_fineOnes_b4 μ n) v2 (1 : Int32) v1 else fX8_fineOnes_b27 μ (fX8_fineOnes_b4 μ n) v2 (0 : Int32) v1) else none))
def fX8_fineOnes  (μ : Mm) : Option Int32 := fX8_fineOnes_b4 μ 100 (0 : Int32) (0 : Int32)
set_option maxRecDepth 100000 in
set_option maxHeartbeats 4000000 in
theorem kX8_fineOnes (l : Launch) (ε : Ev)  (μ : Mm) (out : Int32) (hf : fX8_fineOnes μ = some out) : Sp l ε layM yX8_fineOnes cX8_fineOnes 3 (some .int) 0 [.ref (ea ε 0)] (some (.int out)) μ μ := by
  refine Sp.of [(0, .ref (ea ε 0))] rfl (by decide +kernel) (Nat.le_of_ble_eq_true rfl) ?_
  intro κ hκ C E hQ
  subst hκ
  replace C : Cf κ cX8_fineOnes 3 RX8 (some .int) 0 := C
  have b27 : ∀ (k4 : Int32 → Int32 → Option Int32) (hk4 : ∀ (v1 : Int32) (v2 : Int32) , k4 v1 v2 = some out → G κ (Vw κ ε layM μ) 3 4 [(0, .ref (ea ε 0)), (1, .int v1), (2, .int v2)] []) (v2 : Int32) (s0 : Int32) (s1 : Int32) , fX8_fineOnes_b27 μ k4 v2 s0 s1 = some out → G κ (Vw κ ε layM μ) 3 27 [(0, .ref (ea ε 0)), (2, .int v2)] [.int s0, .int s1] := by
    intro k4 hk4 v2 s0 s1 hf
    refine g_iadd (pc := 27) C dX8_fineOnes_27 ?_
    refine g_istore_n (pc := 28) (i := 1) (L' := [(1, .int (s1 + s0)), (0, .ref (ea ε 0)), (2, .int v2)]) C dX8_fineOnes_28 rfl (by decide) rfl ?_
    refine g_iinc (pc := 29) (i := 2) (j := 2) (v := (v2 + (1 : Int32))) (L' := [(2, .int (v2 + (1 : Int32))), (1, .int (s1 + s0)), (0, .ref (ea ε 0))]) C dX8_fineOnes_29 rfl (cx_1 _) (by decide) rfl ?_
    refine g_goto (pc := 32) (tgt := 4) C dX8_fineOnes_32 rfl ?_
    exact g_at [2, 1, 0] rfl (hk4 (s1 + s0) (v2 + (1 : Int32)) hf)
  have b4 : ∀ (n : Nat) (v1 : Int32) (v2 : Int32) , fX8_fineOnes_b4 μ n v1 v2 = some out → G κ (Vw κ ε layM μ) 3 4 [(0, .ref (ea ε 0)), (1, .int v1), (2, .int v2)] [] := by
    intro n
    induction n with
    | zero => intro v1 v2 hf; exact none_ne hf
    | succ n ih =>
      intro v1 v2 hf
      refine g_iload_n (pc := 4) (i := 2) (j := 2) C dX8_fineOnes_4 rfl rfl ?_
      refine g_aload_n (pc := 5) (i := 0) (j := 0) C dX8_fineOnes_5 rfl rfl ?_
      refine g_geti (pc := 6) C E fdX8_248 layM_0_16 dX8_fineOnes_6 ?_
      refine g_icmp_ge (pc := 9) (tgt := 35) C dX8_fineOnes_9 rfl hf (fun _ hf => ?_) (fun _ hf => ?_)
      · refine g_iload_n (pc := 35) (i := 1) (j := 1) C dX8_fineOnes_35 rfl rfl ?_
        exact g_iretr (pc := 36) C hQ dX8_fineOnes_36 hf
      · refine g_iload_n (pc := 12) (i := 1) (j := 1) C dX8_fineOnes_12 rfl rfl ?_
        refine g_aload_n (pc := 13) (i := 0) (j := 0) C dX8_fineOnes_13 rfl rfl ?_
        refine g_getr (pc := 14) (j := 11) C E fdX8_42 layM_0_15 dX8_fineOnes_14 ?_
        refine g_iload_n (pc := 17) (i := 2) (j := 2) C dX8_fineOnes_17 rfl rfl ?_
        refine g_iald (pc := 18) C E layM_11 dX8_fineOnes_18 hf (fun hf => ?_)
        refine g_if_ne (pc := 19) (tgt := 26) C dX8_fineOnes_19 rfl hf (fun _ hf => ?_) (fun _ hf => ?_)
        · refine g_iconst (pc := 26) C dX8_fineOnes_26 ci_0 ?_
          exact g_at [0, 2] rfl (b27 (fX8_fineOnes_b4 μ n) ih v2 (0 : Int32) v1 hf)
        · refine g_iconst (pc := 22) C dX8_fineOnes_22 ci_1 ?_
          refine g_goto (pc := 23) (tgt := 27) C dX8_fineOnes_23 rfl ?_
          exact g_at [0, 2] rfl (b27 (fX8_fineOnes_b4 μ n) ih v2 (1 : Int32) v1 hf)
  refine g_iconst (pc := 0) C dX8_fineOnes_0 ci_0 ?_
  refine g_istore_n (pc := 1) (i := 1) (L' := [(1, .int (0 : Int32)), (0, .ref (ea ε 0))]) C dX8_fineOnes_1 rfl (by decide) rfl ?_
  refine g_iconst (pc := 2) C dX8_fineOnes_2 ci_0 ?_
  refine g_istore_n (pc := 3) (i := 2) (L' := [(2, .int (0 : Int32)), (1, .int (0 : Int32)), (0, .ref (ea ε 0))]) C dX8_fineOnes_3 rfl (by decide) rfl ?_
  exact g_at [2, 1, 0] rfl (b4 100 (0 : Int32) (0 : Int32) hf)
theorem dX8_nothings_0 : decode cX8_nothings 0 = .ok (.iconst 0, 1) := by decide +kernel
theorem dX8_nothings_1 : decode cX8_nothings 1 = .ok (.istore_n 1, 1) := by decide +kernel
theorem dX8_nothings_2 : decode cX8_nothings 2 = .ok (.iconst 0, 1) := by decide +kernel
theorem dX8_nothings_3 : decode cX8_nothings 3 = .ok (.istore_n 2, 1) := by decide +kernel
theorem dX8_nothings_4 : decode cX8_nothings 4 = .ok (.iload_n 2, 1) := by decide +kernel
theorem dX8_nothings_5 : decode cX8_nothings 5 = .ok (.bipush 10, 2) := by decide +kernel
theorem dX8_nothings_7 : decode cX8_nothings 7 = .ok (.if_icmp .ge 28, 3) := by decide +kernel
theorem dX8_nothings_10 : decode cX8_nothings 10 = .ok (.iload_n 1, 1) := by decide +kernel
theorem dX8_nothings_11 : decode cX8_nothings 11 = .ok (.aload_n 0, 1) := by decide +kernel
theorem dX8_nothings_12 : decode cX8_nothings 12 = .ok (.getfield 13, 3) := by decide +kernel
theorem dX8_nothings_15 : decode cX8_nothings 15 = .ok (.iload_n 2, 1) := by decide +kernel
theorem dX8_nothings_16 : decode cX8_nothings 16 = .ok (.iaload, 1) := by decide +kernel
theorem dX8_nothings_17 : decode cX8_nothings 17 = .ok (.bipush 15, 2) := by decide +kernel
theorem dX8_nothings_19 : decode cX8_nothings 19 = .ok (.if_icmp .ne 7, 3) := by decide +kernel
theorem dX8_nothings_22 : decode cX8_nothings 22 = .ok (.iconst 1, 1) := by decide +kernel
theorem dX8_nothings_23 : decode cX8_nothings 23 = .ok (.goto 4, 3) := by decide +kernel
theorem dX8_nothings_26 : decode cX8_nothings 26 = .ok (.iconst 0, 1) := by decide +kernel
theorem dX8_nothings_27 : decode cX8_nothings 27 = .ok (.iadd, 1) := by decide +kernel
theorem dX8_nothings_28 : decode cX8_nothings 28 = .ok (.istore_n 1, 1) := by decide +kernel
theorem dX8_nothings_29 : decode cX8_nothings 29 = .ok (.iinc 2 1, 3) := by decide +kernel
theorem dX8_nothings_32 : decode cX8_nothings 32 = .ok (.goto (-28), 3) := by decide +kernel
theorem dX8_nothings_35 : decode cX8_nothings 35 = .ok (.iload_n 1, 1) := by decide +kernel
theorem dX8_nothings_36 : decode cX8_nothings 36 = .ok (.ireturn, 1) := by decide +kernel
def fX8_nothings_b27 (μ : Mm) (k4 : Int32 → Int32 → Option Int32) (v2 : Int32) (s0 : Int32) (s1 : Int32) : Option Int32 := k4 (s1 + s0) (v2 + (1 : Int32))
def fX8_nothings_b4 (μ : Mm) : Nat → Int32 → Int32 → Option Int32
  | 0, _, _ => none
  | n + 1, v1, v2 => (if (10 : Int32) ≤ v2 then some v1 else (if inb v2 10 = true then (if (μ.1 2 (Int32.toNatClampNeg v2)) = (15 : Int32) then fX8_nothings_b27 μ (fX8_nothings_b4 μ n) v2 (1 : Int32) v1 else fX8_nothings_b27 μ (fX8_nothings_b4 μ n) v2 (0 : Int32) v1) else none))
def fX8_nothings  (μ : Mm) : Option Int32 := fX8_nothings_b4 μ 100 (0 : Int32) (0 : Int32)
set_option maxRecDepth 100000 in
set_option maxHeartbeats 4000000 in
theorem kX8_nothings (l : Launch) (ε : Ev)  (μ : Mm) (out : Int32) (hf : fX8_nothings μ = some out) : Sp l ε layM yX8_nothings cX8_nothings 3 (some .int) 0 [.ref (ea ε 0)] (some (.int out)) μ μ := by
  refine Sp.of [(0, .ref (ea ε 0))] rfl (by decide +kernel) (Nat.le_of_ble_eq_true rfl) ?_
  intro κ hκ C E hQ
  subst hκ
  replace C : Cf κ cX8_nothings 3 RX8 (some .int) 0 := C
  have b27 : ∀ (k4 : Int32 → Int32 → Option Int32) (hk4 : ∀ (v1 : Int32) (v2 : Int32) , k4 v1 v2 = some out → G κ (Vw κ ε layM μ) 3 4 [(0, .ref (ea ε 0)), (1, .int v1), (2, .int v2)] []) (v2 : Int32) (s0 : Int32) (s1 : Int32) , fX8_nothings_b27 μ k4 v2 s0 s1 = some out → G κ (Vw κ ε layM μ) 3 27 [(0, .ref (ea ε 0)), (2, .int v2)] [.int s0, .int s1] := by
    intro k4 hk4 v2 s0 s1 hf
    refine g_iadd (pc := 27) C dX8_nothings_27 ?_
    refine g_istore_n (pc := 28) (i := 1) (L' := [(1, .int (s1 + s0)), (0, .ref (ea ε 0)), (2, .int v2)]) C dX8_nothings_28 rfl (by decide) rfl ?_
    refine g_iinc (pc := 29) (i := 2) (j := 2) (v := (v2 + (1 : Int32))) (L' := [(2, .int (v2 + (1 : Int32))), (1, .int (s1 + s0)), (0, .ref (ea ε 0))]) C dX8_nothings_29 rfl (cx_1 _) (by decide) rfl ?_
    refine g_goto (pc := 32) (tgt := 4) C dX8_nothings_32 rfl ?_
    exact g_at [2, 1, 0] rfl (hk4 (s1 + s0) (v2 + (1 : Int32)) hf)
  have b4 : ∀ (n : Nat) (v1 : Int32) (v2 : Int32) , fX8_nothings_b4 μ n v1 v2 = some out → G κ (Vw κ ε layM μ) 3 4 [(0, .ref (ea ε 0)), (1, .int v1), (2, .int v2)] [] := by
    intro n
    induction n with
    | zero => intro v1 v2 hf; exact none_ne hf
    | succ n ih =>
      intro v1 v2 hf
      refine g_iload_n (pc := 4) (i := 2) (j := 2) C dX8_nothings_4 rfl rfl ?_
      refine g_bipush (pc := 5) C dX8_nothings_5 cb_10 ?_
      refine g_icmp_ge (pc := 7) (tgt := 35) C dX8_nothings_7 rfl hf (fun _ hf => ?_) (fun _ hf => ?_)
      · refine g_iload_n (pc := 35) (i := 1) (j := 1) C dX8_nothings_35 rfl rfl ?_
        exact g_iretr (pc := 36) C hQ dX8_nothings_36 hf
      · refine g_iload_n (pc := 10) (i := 1) (j := 1) C dX8_nothings_10 rfl rfl ?_
        refine g_aload_n (pc := 11) (i := 0) (j := 0) C dX8_nothings_11 rfl rfl ?_
        refine g_getr (pc := 12) (j := 2) C E fdX8_13 layM_0_2 dX8_nothings_12 ?_
        refine g_iload_n (pc := 15) (i := 2) (j := 2) C dX8_nothings_15 rfl rfl ?_
        refine g_iald (pc := 16) C E layM_2 dX8_nothings_16 hf (fun hf => ?_)
        refine g_bipush (pc := 17) C dX8_nothings_17 cb_15 ?_
        refine g_icmp_ne (pc := 19) (tgt := 26) C dX8_nothings_19 rfl hf (fun _ hf => ?_) (fun _ hf => ?_)
        · refine g_iconst (pc := 26) C dX8_nothings_26 ci_0 ?_
          exact g_at [0, 2] rfl (b27 (fX8_nothings_b4 μ n) ih v2 (0 : Int32) v1 hf)
        · refine g_iconst (pc := 22) C dX8_nothings_22 ci_1 ?_
          refine g_goto (pc := 23) (tgt := 27) C dX8_nothings_23 rfl ?_
          exact g_at [0, 2] rfl (b27 (fX8_nothings_b4 μ n) ih v2 (1 : Int32) v1 hf)
  refine g_iconst (pc := 0) C dX8_nothings_0 ci_0 ?_
  refine g_istore_n (pc := 1) (i := 1) (L' := [(1, .int (0 : Int32)), (0, .ref (ea ε 0))]) C dX8_nothings_1 rfl (by decide) rfl ?_
  refine g_iconst (pc := 2) C dX8_nothings_2 ci_0 ?_
  refine g_istore_n (pc := 3) (i := 2) (L' := [(2, .int (0 : Int32)), (1, .int (0 : Int32)), (0, .ref (ea ε 0))]) C dX8_nothings_3 rfl (by decide) rfl ?_
  exact g_at [2, 1, 0] rfl (b4 100 (0 : Int32) (0 : Int32) hf)
theorem dX8_isHeld_0 : decode cX8_isHeld 0 = .ok (.iconst 0, 1) := by decide +kernel
theorem dX8_isHeld_1 : decode cX8_isHeld 1 = .ok (.istore_n 2, 1) := by decide +kernel
theorem dX8_isHeld_2 : decode cX8_isHeld 2 = .ok (.iconst 0, 1) := by decide +kernel
theorem dX8_isHeld_3 : decode cX8_isHeld 3 = .ok (.istore_n 3, 1) := by decide +kernel
theorem dX8_isHeld_4 : decode cX8_isHeld 4 = .ok (.iload_n 3, 1) := by decide +kernel
theorem dX8_isHeld_5 : decode cX8_isHeld 5 = .ok (.bipush 10, 2) := by decide +kernel
theorem dX8_isHeld_7 : decode cX8_isHeld 7 = .ok (.if_icmp .ge 29, 3) := by decide +kernel
theorem dX8_isHeld_10 : decode cX8_isHeld 10 = .ok (.iload_n 2, 1) := by decide +kernel
theorem dX8_isHeld_11 : decode cX8_isHeld 11 = .ok (.ifCond .ne 13, 3) := by decide +kernel
theorem dX8_isHeld_14 : decode cX8_isHeld 14 = .ok (.aload_n 0, 1) := by decide +kernel
theorem dX8_isHeld_15 : decode cX8_isHeld 15 = .ok (.getfield 16, 3) := by decide +kernel
theorem dX8_isHeld_18 : decode cX8_isHeld 18 = .ok (.iload_n 3, 1) := by decide +kernel
theorem dX8_isHeld_19 : decode cX8_isHeld 19 = .ok (.iaload, 1) := by decide +kernel
theorem dX8_isHeld_20 : decode cX8_isHeld 20 = .ok (.iload_n 1, 1) := by decide +kernel
theorem dX8_isHeld_21 : decode cX8_isHeld 21 = .ok (.if_icmp .ne 7, 3) := by decide +kernel
theorem dX8_isHeld_24 : decode cX8_isHeld 24 = .ok (.iconst 1, 1) := by decide +kernel
theorem dX8_isHeld_25 : decode cX8_isHeld 25 = .ok (.goto 4, 3) := by decide +kernel
theorem dX8_isHeld_28 : decode cX8_isHeld 28 = .ok (.iconst 0, 1) := by decide +kernel
theorem dX8_isHeld_29 : decode cX8_isHeld 29 = .ok (.istore_n 2, 1) := by decide +kernel
theorem dX8_isHeld_30 : decode cX8_isHeld 30 = .ok (.iinc 3 1, 3) := by decide +kernel
theorem dX8_isHeld_33 : decode cX8_isHeld 33 = .ok (.goto (-29), 3) := by decide +kernel
theorem dX8_isHeld_36 : decode cX8_isHeld 36 = .ok (.iload_n 2, 1) := by decide +kernel
theorem dX8_isHeld_37 : decode cX8_isHeld 37 = .ok (.ireturn, 1) := by decide +kernel
def fX8_isHeld_b29 (μ : Mm) (k4 : Int32 → Int32 → Int32 → Option Int32) (v1 : Int32) (v3 : Int32) (s0 : Int32) : Option Int32 := k4 v1 s0 (v3 + (1 : Int32))
def fX8_isHeld_b24 (μ : Mm) (k4 : Int32 → Int32 → Int32 → Option Int32) (v1 : Int32) (v3 : Int32) : Option Int32 := fX8_isHeld_b29 μ k4 v1 v3 (1 : Int32)
def fX8_isHeld_b4 (μ : Mm) : Nat → Int32 → Int32 → Int32 → Option Int32
  | 0, _, _, _ => none
  | n + 1, v1, v2, v3 => (if (10 : Int32) ≤ v3 then (if rbz v2 = true then some v2 else none) else (if v2 = 0 then (if inb v3 10 = true then (if (μ.1 3 (Int32.toNatClampNeg v3)) = v1 then fX8_isHeld_b24 μ (fX8_isHeld_b4 μ n) v1 v3 else fX8_isHeld_b29 μ (fX8_isHeld_b4 μ n) v1 v3 (0 : Int32)) else none) else fX8_isHeld_b24 μ (fX8_isHeld_b4 μ n) v1 v3))
def fX8_isHeld (p1 : Int32) (μ : Mm) : Option Int32 := fX8_isHeld_b4 μ 100 p1 (0 : Int32) (0 : Int32)
set_option maxRecDepth 100000 in
set_option maxHeartbeats 4000000 in
theorem kX8_isHeld (l : Launch) (ε : Ev) (p1 : Int32) (μ : Mm) (out : Int32) (hf : fX8_isHeld p1 μ = some out) : Sp l ε layM yX8_isHeld cX8_isHeld 4 (some .boolean) 0 [.ref (ea ε 0), .int p1] (some (.int out)) μ μ := by
  refine Sp.of [(0, .ref (ea ε 0)), (1, .int p1)] rfl (by decide +kernel) (Nat.le_of_ble_eq_true rfl) ?_
  intro κ hκ C E hQ
  subst hκ
  replace C : Cf κ cX8_isHeld 4 RX8 (some .boolean) 0 := C
  have b29 : ∀ (k4 : Int32 → Int32 → Int32 → Option Int32) (hk4 : ∀ (v1 : Int32) (v2 : Int32) (v3 : Int32) , k4 v1 v2 v3 = some out → G κ (Vw κ ε layM μ) 4 4 [(0, .ref (ea ε 0)), (1, .int v1), (2, .int v2), (3, .int v3)] []) (v1 : Int32) (v3 : Int32) (s0 : Int32) , fX8_isHeld_b29 μ k4 v1 v3 s0 = some out → G κ (Vw κ ε layM μ) 4 29 [(0, .ref (ea ε 0)), (1, .int v1), (3, .int v3)] [.int s0] := by
    intro k4 hk4 v1 v3 s0 hf
    refine g_istore_n (pc := 29) (i := 2) (L' := [(2, .int s0), (0, .ref (ea ε 0)), (1, .int v1), (3, .int v3)]) C dX8_isHeld_29 rfl (by decide) rfl ?_
    refine g_iinc (pc := 30) (i := 3) (j := 3) (v := (v3 + (1 : Int32))) (L' := [(3, .int (v3 + (1 : Int32))), (2, .int s0), (0, .ref (ea ε 0)), (1, .int v1)]) C dX8_isHeld_30 rfl (cx_1 _) (by decide) rfl ?_
    refine g_goto (pc := 33) (tgt := 4) C dX8_isHeld_33 rfl ?_
    exact g_at [2, 3, 1, 0] rfl (hk4 v1 s0 (v3 + (1 : Int32)) hf)
  have b24 : ∀ (k4 : Int32 → Int32 → Int32 → Option Int32) (hk4 : ∀ (v1 : Int32) (v2 : Int32) (v3 : Int32) , k4 v1 v2 v3 = some out → G κ (Vw κ ε layM μ) 4 4 [(0, .ref (ea ε 0)), (1, .int v1), (2, .int v2), (3, .int v3)] []) (v1 : Int32) (v3 : Int32) , fX8_isHeld_b24 μ k4 v1 v3 = some out → G κ (Vw κ ε layM μ) 4 24 [(0, .ref (ea ε 0)), (1, .int v1), (3, .int v3)] [] := by
    intro k4 hk4 v1 v3 hf
    refine g_iconst (pc := 24) C dX8_isHeld_24 ci_1 ?_
    refine g_goto (pc := 25) (tgt := 29) C dX8_isHeld_25 rfl ?_
    exact b29 k4 hk4 v1 v3 (1 : Int32) hf
  have b4 : ∀ (n : Nat) (v1 : Int32) (v2 : Int32) (v3 : Int32) , fX8_isHeld_b4 μ n v1 v2 v3 = some out → G κ (Vw κ ε layM μ) 4 4 [(0, .ref (ea ε 0)), (1, .int v1), (2, .int v2), (3, .int v3)] [] := by
    intro n
    induction n with
    | zero => intro v1 v2 v3 hf; exact none_ne hf
    | succ n ih =>
      intro v1 v2 v3 hf
      refine g_iload_n (pc := 4) (i := 3) (j := 3) C dX8_isHeld_4 rfl rfl ?_
      refine g_bipush (pc := 5) C dX8_isHeld_5 cb_10 ?_
      refine g_icmp_ge (pc := 7) (tgt := 36) C dX8_isHeld_7 rfl hf (fun _ hf => ?_) (fun _ hf => ?_)
      · refine g_iload_n (pc := 36) (i := 2) (j := 2) C dX8_isHeld_36 rfl rfl ?_
        exact g_zretr (pc := 37) C hQ dX8_isHeld_37 hf
      · refine g_iload_n (pc := 10) (i := 2) (j := 2) C dX8_isHeld_10 rfl rfl ?_
        refine g_if_ne (pc := 11) (tgt := 24) C dX8_isHeld_11 rfl hf (fun _ hf => ?_) (fun _ hf => ?_)
        · exact g_at [0, 1, 3] rfl (b24 (fX8_isHeld_b4 μ n) ih v1 v3 hf)
        · refine g_aload_n (pc := 14) (i := 0) (j := 0) C dX8_isHeld_14 rfl rfl ?_
          refine g_getr (pc := 15) (j := 3) C E fdX8_16 layM_0_3 dX8_isHeld_15 ?_
          refine g_iload_n (pc := 18) (i := 3) (j := 3) C dX8_isHeld_18 rfl rfl ?_
          refine g_iald (pc := 19) C E layM_3 dX8_isHeld_19 hf (fun hf => ?_)
          refine g_iload_n (pc := 20) (i := 1) (j := 1) C dX8_isHeld_20 rfl rfl ?_
          refine g_icmp_ne (pc := 21) (tgt := 28) C dX8_isHeld_21 rfl hf (fun _ hf => ?_) (fun _ hf => ?_)
          · refine g_iconst (pc := 28) C dX8_isHeld_28 ci_0 ?_
            exact g_at [0, 1, 3] rfl (b29 (fX8_isHeld_b4 μ n) ih v1 v3 (0 : Int32) hf)
          · exact g_at [0, 1, 3] rfl (b24 (fX8_isHeld_b4 μ n) ih v1 v3 hf)
  refine g_iconst (pc := 0) C dX8_isHeld_0 ci_0 ?_
  refine g_istore_n (pc := 1) (i := 2) (L' := [(2, .int (0 : Int32)), (0, .ref (ea ε 0)), (1, .int p1)]) C dX8_isHeld_1 rfl (by decide) rfl ?_
  refine g_iconst (pc := 2) C dX8_isHeld_2 ci_0 ?_
  refine g_istore_n (pc := 3) (i := 3) (L' := [(3, .int (0 : Int32)), (2, .int (0 : Int32)), (0, .ref (ea ε 0)), (1, .int p1)]) C dX8_isHeld_3 rfl (by decide) rfl ?_
  exact g_at [2, 3, 1, 0] rfl (b4 100 p1 (0 : Int32) (0 : Int32) hf)
theorem dX8_rowsHeld_0 : decode cX8_rowsHeld 0 = .ok (.iconst 0, 1) := by decide +kernel
theorem dX8_rowsHeld_1 : decode cX8_rowsHeld 1 = .ok (.istore_n 2, 1) := by decide +kernel
theorem dX8_rowsHeld_2 : decode cX8_rowsHeld 2 = .ok (.iconst 0, 1) := by decide +kernel
theorem dX8_rowsHeld_3 : decode cX8_rowsHeld 3 = .ok (.istore_n 3, 1) := by decide +kernel
theorem dX8_rowsHeld_4 : decode cX8_rowsHeld 4 = .ok (.iload_n 3, 1) := by decide +kernel
theorem dX8_rowsHeld_5 : decode cX8_rowsHeld 5 = .ok (.bipush 11, 2) := by decide +kernel
theorem dX8_rowsHeld_7 : decode cX8_rowsHeld 7 = .ok (.if_icmp .ge 39, 3) := by decide +kernel
theorem dX8_rowsHeld_10 : decode cX8_rowsHeld 10 = .ok (.iload_n 2, 1) := by decide +kernel
theorem dX8_rowsHeld_11 : decode cX8_rowsHeld 11 = .ok (.aload_n 0, 1) := by decide +kernel
theorem dX8_rowsHeld_12 : decode cX8_rowsHeld 12 = .ok (.iload_n 3, 1) := by decide +kernel
theorem dX8_rowsHeld_13 : decode cX8_rowsHeld 13 = .ok (.invokevirtual 224, 3) := by decide +kernel
theorem dX8_rowsHeld_16 : decode cX8_rowsHeld 16 = .ok (.ifCond .ne 7, 3) := by decide +kernel
theorem dX8_rowsHeld_19 : decode cX8_rowsHeld 19 = .ok (.iconst 0, 1) := by decide +kernel
theorem dX8_rowsHeld_20 : decode cX8_rowsHeld 20 = .ok (.goto 18, 3) := by decide +kernel
theorem dX8_rowsHeld_23 : decode cX8_rowsHeld 23 = .ok (.iload_n 1, 1) := by decide +kernel
theorem dX8_rowsHeld_24 : decode cX8_rowsHeld 24 = .ok (.iconst 4, 1) := by decide +kernel
theorem dX8_rowsHeld_25 : decode cX8_rowsHeld 25 = .ok (.if_icmp .ne 7, 3) := by decide +kernel
theorem dX8_rowsHeld_28 : decode cX8_rowsHeld 28 = .ok (.iconst 1, 1) := by decide +kernel
theorem dX8_rowsHeld_29 : decode cX8_rowsHeld 29 = .ok (.goto 9, 3) := by decide +kernel
theorem dX8_rowsHeld_32 : decode cX8_rowsHeld 32 = .ok (.aload_n 0, 1) := by decide +kernel
theorem dX8_rowsHeld_33 : decode cX8_rowsHeld 33 = .ok (.getfield 22, 3) := by decide +kernel
theorem dX8_rowsHeld_36 : decode cX8_rowsHeld 36 = .ok (.iload_n 3, 1) := by decide +kernel
theorem dX8_rowsHeld_37 : decode cX8_rowsHeld 37 = .ok (.iaload, 1) := by decide +kernel
theorem dX8_rowsHeld_38 : decode cX8_rowsHeld 38 = .ok (.iadd, 1) := by decide +kernel
theorem dX8_rowsHeld_39 : decode cX8_rowsHeld 39 = .ok (.istore_n 2, 1) := by decide +kernel
theorem dX8_rowsHeld_40 : decode cX8_rowsHeld 40 = .ok (.iinc 3 1, 3) := by decide +kernel
theorem dX8_rowsHeld_43 : decode cX8_rowsHeld 43 = .ok (.goto (-39), 3) := by decide +kernel
theorem dX8_rowsHeld_46 : decode cX8_rowsHeld 46 = .ok (.iload_n 2, 1) := by decide +kernel
theorem dX8_rowsHeld_47 : decode cX8_rowsHeld 47 = .ok (.ireturn, 1) := by decide +kernel
def fX8_rowsHeld_b38 (μ : Mm) (k4 : Int32 → Int32 → Int32 → Option Int32) (v1 : Int32) (v3 : Int32) (s0 : Int32) (s1 : Int32) : Option Int32 := k4 v1 (s1 + s0) (v3 + (1 : Int32))
def fX8_rowsHeld_b4 (μ : Mm) : Nat → Int32 → Int32 → Int32 → Option Int32
  | 0, _, _, _ => none
  | n + 1, v1, v2, v3 => (if (11 : Int32) ≤ v3 then some v2 else ((fX8_isHeld v3 μ).bind fun r13 => (if r13 = 0 then fX8_rowsHeld_b38 μ (fX8_rowsHeld_b4 μ n) v1 v3 (0 : Int32) v2 else (if v1 = (4 : Int32) then fX8_rowsHeld_b38 μ (fX8_rowsHeld_b4 μ n) v1 v3 (1 : Int32) v2 else (if inb v3 11 = true then fX8_rowsHeld_b38 μ (fX8_rowsHeld_b4 μ n) v1 v3 (μ.1 5 (Int32.toNatClampNeg v3)) v2 else none)))))
def fX8_rowsHeld (p1 : Int32) (μ : Mm) : Option Int32 := fX8_rowsHeld_b4 μ 100 p1 (0 : Int32) (0 : Int32)
set_option maxRecDepth 100000 in
set_option maxHeartbeats 4000000 in
theorem kX8_rowsHeld (l : Launch) (ε : Ev) (p1 : Int32) (μ : Mm) (out : Int32) (hf : fX8_rowsHeld p1 μ = some out) : Sp l ε layM yX8_rowsHeld cX8_rowsHeld 4 (some .int) 1 [.ref (ea ε 0), .int p1] (some (.int out)) μ μ := by
  refine Sp.of [(0, .ref (ea ε 0)), (1, .int p1)] rfl (by decide +kernel) (Nat.le_of_ble_eq_true rfl) ?_
  intro κ hκ C E hQ
  subst hκ
  replace C : Cf κ cX8_rowsHeld 4 RX8 (some .int) 1 := C
  have b38 : ∀ (k4 : Int32 → Int32 → Int32 → Option Int32) (hk4 : ∀ (v1 : Int32) (v2 : Int32) (v3 : Int32) , k4 v1 v2 v3 = some out → G κ (Vw κ ε layM μ) 4 4 [(0, .ref (ea ε 0)), (1, .int v1), (2, .int v2), (3, .int v3)] []) (v1 : Int32) (v3 : Int32) (s0 : Int32) (s1 : Int32) , fX8_rowsHeld_b38 μ k4 v1 v3 s0 s1 = some out → G κ (Vw κ ε layM μ) 4 38 [(0, .ref (ea ε 0)), (1, .int v1), (3, .int v3)] [.int s0, .int s1] := by
    intro k4 hk4 v1 v3 s0 s1 hf
    refine g_iadd (pc := 38) C dX8_rowsHeld_38 ?_
    refine g_istore_n (pc := 39) (i := 2) (L' := [(2, .int (s1 + s0)), (0, .ref (ea ε 0)), (1, .int v1), (3, .int v3)]) C dX8_rowsHeld_39 rfl (by decide) rfl ?_
    refine g_iinc (pc := 40) (i := 3) (j := 3) (v := (v3 + (1 : Int32))) (L' := [(3, .int (v3 + (1 : Int32))), (2, .int (s1 + s0)), (0, .ref (ea ε 0)), (1, .int v1)]) C dX8_rowsHeld_40 rfl (cx_1 _) (by decide) rfl ?_
    refine g_goto (pc := 43) (tgt := 4) C dX8_rowsHeld_43 rfl ?_
    exact g_at [2, 3, 1, 0] rfl (hk4 v1 (s1 + s0) (v3 + (1 : Int32)) hf)
  have b4 : ∀ (n : Nat) (v1 : Int32) (v2 : Int32) (v3 : Int32) , fX8_rowsHeld_b4 μ n v1 v2 v3 = some out → G κ (Vw κ ε layM μ) 4 4 [(0, .ref (ea ε 0)), (1, .int v1), (2, .int v2), (3, .int v3)] [] := by
    intro n
    induction n with
    | zero => intro v1 v2 v3 hf; exact none_ne hf
    | succ n ih =>
      intro v1 v2 v3 hf
      refine g_iload_n (pc := 4) (i := 3) (j := 3) C dX8_rowsHeld_4 rfl rfl ?_
      refine g_bipush (pc := 5) C dX8_rowsHeld_5 cb_11 ?_
      refine g_icmp_ge (pc := 7) (tgt := 46) C dX8_rowsHeld_7 rfl hf (fun _ hf => ?_) (fun _ hf => ?_)
      · refine g_iload_n (pc := 46) (i := 2) (j := 2) C dX8_rowsHeld_46 rfl rfl ?_
        exact g_iretr (pc := 47) C hQ dX8_rowsHeld_47 hf
      · refine g_iload_n (pc := 10) (i := 2) (j := 2) C dX8_rowsHeld_10 rfl rfl ?_
        refine g_aload_n (pc := 11) (i := 0) (j := 0) C dX8_rowsHeld_11 rfl rfl ?_
        refine g_iload_n (pc := 12) (i := 3) (j := 3) C dX8_rowsHeld_12 rfl rfl ?_
        refine g_cri (pc := 13) (st := [.int v2]) C E layM_0 lkX8_224 (As := [.int v3]) rfl (fun out h => kX8_isHeld (kl κ) ε v3 μ out h) (by decide) rfl (Nat.le_of_ble_eq_true rfl) dX8_rowsHeld_13 hf (fun r13 _ hf => ?_)
        refine g_if_ne (pc := 16) (tgt := 23) C dX8_rowsHeld_16 rfl hf (fun _ hf => ?_) (fun _ hf => ?_)
        · refine g_iload_n (pc := 23) (i := 1) (j := 1) C dX8_rowsHeld_23 rfl rfl ?_
          refine g_iconst (pc := 24) C dX8_rowsHeld_24 ci_4 ?_
          refine g_icmp_ne (pc := 25) (tgt := 32) C dX8_rowsHeld_25 rfl hf (fun _ hf => ?_) (fun _ hf => ?_)
          · refine g_aload_n (pc := 32) (i := 0) (j := 0) C dX8_rowsHeld_32 rfl rfl ?_
            refine g_getr (pc := 33) (j := 5) C E fdX8_22 layM_0_5 dX8_rowsHeld_33 ?_
            refine g_iload_n (pc := 36) (i := 3) (j := 3) C dX8_rowsHeld_36 rfl rfl ?_
            refine g_iald (pc := 37) C E layM_5 dX8_rowsHeld_37 hf (fun hf => ?_)
            exact g_at [0, 1, 3] rfl (b38 (fX8_rowsHeld_b4 μ n) ih v1 v3 (μ.1 5 (Int32.toNatClampNeg v3)) v2 hf)
          · refine g_iconst (pc := 28) C dX8_rowsHeld_28 ci_1 ?_
            refine g_goto (pc := 29) (tgt := 38) C dX8_rowsHeld_29 rfl ?_
            exact g_at [0, 1, 3] rfl (b38 (fX8_rowsHeld_b4 μ n) ih v1 v3 (1 : Int32) v2 hf)
        · refine g_iconst (pc := 19) C dX8_rowsHeld_19 ci_0 ?_
          refine g_goto (pc := 20) (tgt := 38) C dX8_rowsHeld_20 rfl ?_
          exact g_at [0, 1, 3] rfl (b38 (fX8_rowsHeld_b4 μ n) ih v1 v3 (0 : Int32) v2 hf)
  refine g_iconst (pc := 0) C dX8_rowsHeld_0 ci_0 ?_
  refine g_istore_n (pc := 1) (i := 2) (L' := [(2, .int (0 : Int32)), (0, .ref (ea ε 0)), (1, .int p1)]) C dX8_rowsHeld_1 rfl (by decide) rfl ?_
  refine g_iconst (pc := 2) C dX8_rowsHeld_2 ci_0 ?_
  refine g_istore_n (pc := 3) (i := 3) (L' := [(3, .int (0 : Int32)), (2, .int (0 : Int32)), (0, .ref (ea ε 0)), (1, .int p1)]) C dX8_rowsHeld_3 rfl (by decide) rfl ?_
  exact g_at [2, 3, 1, 0] rfl (b4 100 p1 (0 : Int32) (0 : Int32) hf)
theorem dX8_about_0 : decode cX8_about 0 = .ok (.iload_n 1, 1) := by decide +kernel
theorem dX8_about_1 : decode cX8_about 1 = .ok (.tableswitch 89 0 7 #[47, 52, 57, 62, 67, 73, 79, 84], 47) := by decide +kernel
theorem dX8_about_48 : decode cX8_about 48 = .ok (.aload_n 0, 1) := by decide +kernel
theorem dX8_about_49 : decode cX8_about 49 = .ok (.getfield 230, 3) := by decide +kernel
theorem dX8_about_52 : decode cX8_about 52 = .ok (.ireturn, 1) := by decide +kernel
theorem dX8_about_53 : decode cX8_about 53 = .ok (.aload_n 0, 1) := by decide +kernel
theorem dX8_about_54 : decode cX8_about 54 = .ok (.getfield 233, 3) := by decide +kernel
theorem dX8_about_57 : decode cX8_about 57 = .ok (.ireturn, 1) := by decide +kernel
theorem dX8_about_58 : decode cX8_about 58 = .ok (.aload_n 0, 1) := by decide +kernel
theorem dX8_about_59 : decode cX8_about 59 = .ok (.getfield 251, 3) := by decide +kernel
theorem dX8_about_62 : decode cX8_about 62 = .ok (.ireturn, 1) := by decide +kernel
theorem dX8_about_63 : decode cX8_about 63 = .ok (.aload_n 0, 1) := by decide +kernel
theorem dX8_about_64 : decode cX8_about 64 = .ok (.getfield 162, 3) := by decide +kernel
theorem dX8_about_67 : decode cX8_about 67 = .ok (.ireturn, 1) := by decide +kernel
theorem dX8_about_68 : decode cX8_about 68 = .ok (.aload_n 0, 1) := by decide +kernel
theorem dX8_about_69 : decode cX8_about 69 = .ok (.iconst 4, 1) := by decide +kernel
theorem dX8_about_70 : decode cX8_about 70 = .ok (.invokevirtual 254, 3) := by decide +kernel
theorem dX8_about_73 : decode cX8_about 73 = .ok (.ireturn, 1) := by decide +kernel
theorem dX8_about_74 : decode cX8_about 74 = .ok (.aload_n 0, 1) := by decide +kernel
theorem dX8_about_75 : decode cX8_about 75 = .ok (.iconst 5, 1) := by decide +kernel
theorem dX8_about_76 : decode cX8_about 76 = .ok (.invokevirtual 254, 3) := by decide +kernel
theorem dX8_about_79 : decode cX8_about 79 = .ok (.ireturn, 1) := by decide +kernel
theorem dX8_about_80 : decode cX8_about 80 = .ok (.aload_n 0, 1) := by decide +kernel
theorem dX8_about_81 : decode cX8_about 81 = .ok (.invokevirtual 257, 3) := by decide +kernel
theorem dX8_about_84 : decode cX8_about 84 = .ok (.ireturn, 1) := by decide +kernel
theorem dX8_about_85 : decode cX8_about 85 = .ok (.aload_n 0, 1) := by decide +kernel
theorem dX8_about_86 : decode cX8_about 86 = .ok (.invokevirtual 260, 3) := by decide +kernel
theorem dX8_about_89 : decode cX8_about 89 = .ok (.ireturn, 1) := by decide +kernel
theorem dX8_about_90 : decode cX8_about 90 = .ok (.bipush (-2), 2) := by decide +kernel
theorem dX8_about_92 : decode cX8_about 92 = .ok (.ireturn, 1) := by decide +kernel
def fX8_about (p1 : Int32) (μ : Mm) : Option Int32 := (if p1 = 0 then some (μ.1 0 11) else (if p1 = 1 then some (μ.1 0 26) else (if p1 = 2 then some (μ.1 0 31) else (if p1 = 3 then some (μ.1 0 1) else (if p1 = 4 then ((fX8_rowsHeld (4 : Int32) μ).bind fun r70 => some r70) else (if p1 = 5 then ((fX8_rowsHeld (5 : Int32) μ).bind fun r76 => some r76) else (if p1 = 6 then ((fX8_nothings μ).bind fun r81 => some r81) else (if p1 = 7 then ((fX8_fineOnes μ).bind fun r86 => some r86) else some (-2 : Int32)))))))))
set_option maxRecDepth 100000 in
set_option maxHeartbeats 4000000 in
theorem kX8_about (l : Launch) (ε : Ev) (p1 : Int32) (μ : Mm) (out : Int32) (hf : fX8_about p1 μ = some out) : Sp l ε layM yX8_about cX8_about 2 (some .int) 2 [.ref (ea ε 0), .int p1] (some (.int out)) μ μ := by
  refine Sp.of [(0, .ref (ea ε 0)), (1, .int p1)] rfl (by decide +kernel) (Nat.le_of_ble_eq_true rfl) ?_
  intro κ hκ C E hQ
  subst hκ
  replace C : Cf κ cX8_about 2 RX8 (some .int) 2 := C
  refine g_iload_n (pc := 0) (i := 1) (j := 1) C dX8_about_0 rfl rfl ?_
  by_cases h1_0 : p1 = 0
  · replace hf := ite_t h1_0 hf
    refine g_tabIn (pc := 1) (v := 0) (off := 47) (tgt := 48) C dX8_about_1 h1_0 (by decide) rfl ?_
    refine g_aload_n (pc := 48) (i := 0) (j := 0) C dX8_about_48 rfl rfl ?_
    refine g_geti (pc := 49) C E fdX8_230 layM_0_11 dX8_about_49 ?_
    exact g_iretr (pc := 52) C hQ dX8_about_52 hf
  replace hf := ite_f h1_0 hf
  by_cases h1_1 : p1 = 1
  · replace hf := ite_t h1_1 hf
    refine g_tabIn (pc := 1) (v := 1) (off := 52) (tgt := 53) C dX8_about_1 h1_1 (by decide) rfl ?_
    refine g_aload_n (pc := 53) (i := 0) (j := 0) C dX8_about_53 rfl rfl ?_
    refine g_geti (pc := 54) C E fdX8_233 layM_0_26 dX8_about_54 ?_
    exact g_iretr (pc := 57) C hQ dX8_about_57 hf
  replace hf := ite_f h1_1 hf
  by_cases h1_2 : p1 = 2
  · replace hf := ite_t h1_2 hf
    refine g_tabIn (pc := 1) (v := 2) (off := 57) (tgt := 58) C dX8_about_1 h1_2 (by decide) rfl ?_
    refine g_aload_n (pc := 58) (i := 0) (j := 0) C dX8_about_58 rfl rfl ?_
    refine g_geti (pc := 59) C E fdX8_251 layM_0_31 dX8_about_59 ?_
    exact g_iretr (pc := 62) C hQ dX8_about_62 hf
  replace hf := ite_f h1_2 hf
  by_cases h1_3 : p1 = 3
  · replace hf := ite_t h1_3 hf
    refine g_tabIn (pc := 1) (v := 3) (off := 62) (tgt := 63) C dX8_about_1 h1_3 (by decide) rfl ?_
    refine g_aload_n (pc := 63) (i := 0) (j := 0) C dX8_about_63 rfl rfl ?_
    refine g_geti (pc := 64) C E fdX8_162 layM_0_1 dX8_about_64 ?_
    exact g_iretr (pc := 67) C hQ dX8_about_67 hf
  replace hf := ite_f h1_3 hf
  by_cases h1_4 : p1 = 4
  · replace hf := ite_t h1_4 hf
    refine g_tabIn (pc := 1) (v := 4) (off := 67) (tgt := 68) C dX8_about_1 h1_4 (by decide) rfl ?_
    refine g_aload_n (pc := 68) (i := 0) (j := 0) C dX8_about_68 rfl rfl ?_
    refine g_iconst (pc := 69) C dX8_about_69 ci_4 ?_
    refine g_cri (pc := 70) (st := []) C E layM_0 lkX8_254 (As := [.int (4 : Int32)]) rfl (fun out h => kX8_rowsHeld (kl κ) ε (4 : Int32) μ out h) (by decide) rfl (Nat.le_of_ble_eq_true rfl) dX8_about_70 hf (fun r70 _ hf => ?_)
    exact g_iretr (pc := 73) C hQ dX8_about_73 hf
  replace hf := ite_f h1_4 hf
  by_cases h1_5 : p1 = 5
  · replace hf := ite_t h1_5 hf
    refine g_tabIn (pc := 1) (v := 5) (off := 73) (tgt := 74) C dX8_about_1 h1_5 (by decide) rfl ?_
    refine g_aload_n (pc := 74) (i := 0) (j := 0) C dX8_about_74 rfl rfl ?_
    refine g_iconst (pc := 75) C dX8_about_75 ci_5 ?_
    refine g_cri (pc := 76) (st := []) C E layM_0 lkX8_254 (As := [.int (5 : Int32)]) rfl (fun out h => kX8_rowsHeld (kl κ) ε (5 : Int32) μ out h) (by decide) rfl (Nat.le_of_ble_eq_true rfl) dX8_about_76 hf (fun r76 _ hf => ?_)
    exact g_iretr (pc := 79) C hQ dX8_about_79 hf
  replace hf := ite_f h1_5 hf
  by_cases h1_6 : p1 = 6
  · replace hf := ite_t h1_6 hf
    refine g_tabIn (pc := 1) (v := 6) (off := 79) (tgt := 80) C dX8_about_1 h1_6 (by decide) rfl ?_
    refine g_aload_n (pc := 80) (i := 0) (j := 0) C dX8_about_80 rfl rfl ?_
    refine g_cri (pc := 81) (st := []) C E layM_0 lkX8_257 (As := []) rfl (fun out h => kX8_nothings (kl κ) ε μ out h) (by decide) rfl (Nat.le_of_ble_eq_true rfl) dX8_about_81 hf (fun r81 _ hf => ?_)
    exact g_iretr (pc := 84) C hQ dX8_about_84 hf
  replace hf := ite_f h1_6 hf
  by_cases h1_7 : p1 = 7
  · replace hf := ite_t h1_7 hf
    refine g_tabIn (pc := 1) (v := 7) (off := 84) (tgt := 85) C dX8_about_1 h1_7 (by decide) rfl ?_
    refine g_aload_n (pc := 85) (i := 0) (j := 0) C dX8_about_85 rfl rfl ?_
    refine g_cri (pc := 86) (st := []) C E layM_0 lkX8_260 (As := []) rfl (fun out h => kX8_fineOnes (kl κ) ε μ out h) (by decide) rfl (Nat.le_of_ble_eq_true rfl) dX8_about_86 hf (fun r86 _ hf => ?_)
    exact g_iretr (pc := 89) C hQ dX8_about_89 hf
  replace hf := ite_f h1_7 hf
  have e1_0 := i32_ne (n := 0) h1_0 (by decide)
  have e1_1 := i32_ne (n := 1) h1_1 (by decide)
  have e1_2 := i32_ne (n := 2) h1_2 (by decide)
  have e1_3 := i32_ne (n := 3) h1_3 (by decide)
  have e1_4 := i32_ne (n := 4) h1_4 (by decide)
  have e1_5 := i32_ne (n := 5) h1_5 (by decide)
  have e1_6 := i32_ne (n := 6) h1_6 (by decide)
  have e1_7 := i32_ne (n := 7) h1_7 (by decide)
  refine g_tabOut (pc := 1) (tgt := 90) C dX8_about_1 (by omega) rfl ?_
  refine g_bipush (pc := 90) C dX8_about_90 cb_m2 ?_
  exact g_iretr (pc := 92) C hQ dX8_about_92 hf
theorem dX8_addEnd_0 : decode cX8_addEnd 0 = .ok (.iconst 0, 1) := by decide +kernel
theorem dX8_addEnd_1 : decode cX8_addEnd 1 = .ok (.istore 4, 2) := by decide +kernel
theorem dX8_addEnd_3 : decode cX8_addEnd 3 = .ok (.iconst 0, 1) := by decide +kernel
theorem dX8_addEnd_4 : decode cX8_addEnd 4 = .ok (.istore 5, 2) := by decide +kernel
theorem dX8_addEnd_6 : decode cX8_addEnd 6 = .ok (.iload 5, 2) := by decide +kernel
theorem dX8_addEnd_8 : decode cX8_addEnd 8 = .ok (.aload_n 0, 1) := by decide +kernel
theorem dX8_addEnd_9 : decode cX8_addEnd 9 = .ok (.getfield 93, 3) := by decide +kernel
theorem dX8_addEnd_12 : decode cX8_addEnd 12 = .ok (.iload_n 1, 1) := by decide +kernel
theorem dX8_addEnd_13 : decode cX8_addEnd 13 = .ok (.iaload, 1) := by decide +kernel
theorem dX8_addEnd_14 : decode cX8_addEnd 14 = .ok (.if_icmp .ge 38, 3) := by decide +kernel
theorem dX8_addEnd_17 : decode cX8_addEnd 17 = .ok (.iload 4, 2) := by decide +kernel
theorem dX8_addEnd_19 : decode cX8_addEnd 19 = .ok (.ifCond .ne 20, 3) := by decide +kernel
theorem dX8_addEnd_22 : decode cX8_addEnd 22 = .ok (.aload_n 0, 1) := by decide +kernel
theorem dX8_addEnd_23 : decode cX8_addEnd 23 = .ok (.getfield 90, 3) := by decide +kernel
theorem dX8_addEnd_26 : decode cX8_addEnd 26 = .ok (.bipush 8, 2) := by decide +kernel
theorem dX8_addEnd_28 : decode cX8_addEnd 28 = .ok (.iload_n 1, 1) := by decide +kernel
theorem dX8_addEnd_29 : decode cX8_addEnd 29 = .ok (.imul, 1) := by decide +kernel
theorem dX8_addEnd_30 : decode cX8_addEnd 30 = .ok (.iload 5, 2) := by decide +kernel
theorem dX8_addEnd_32 : decode cX8_addEnd 32 = .ok (.iadd, 1) := by decide +kernel
theorem dX8_addEnd_33 : decode cX8_addEnd 33 = .ok (.laload, 1) := by decide +kernel
theorem dX8_addEnd_34 : decode cX8_addEnd 34 = .ok (.lload_n 2, 1) := by decide +kernel
theorem dX8_addEnd_35 : decode cX8_addEnd 35 = .ok (.lcmp, 1) := by decide +kernel
theorem dX8_addEnd_36 : decode cX8_addEnd 36 = .ok (.ifCond .ne 7, 3) := by decide +kernel
theorem dX8_addEnd_39 : decode cX8_addEnd 39 = .ok (.iconst 1, 1) := by decide +kernel
theorem dX8_addEnd_40 : decode cX8_addEnd 40 = .ok (.goto 4, 3) := by decide +kernel
theorem dX8_addEnd_43 : decode cX8_addEnd 43 = .ok (.iconst 0, 1) := by decide +kernel
theorem dX8_addEnd_44 : decode cX8_addEnd 44 = .ok (.istore 4, 2) := by decide +kernel
theorem dX8_addEnd_46 : decode cX8_addEnd 46 = .ok (.iinc 5 1, 3) := by decide +kernel
theorem dX8_addEnd_49 : decode cX8_addEnd 49 = .ok (.goto (-43), 3) := by decide +kernel
theorem dX8_addEnd_52 : decode cX8_addEnd 52 = .ok (.iload 4, 2) := by decide +kernel
theorem dX8_addEnd_54 : decode cX8_addEnd 54 = .ok (.ifCond .ne 41, 3) := by decide +kernel
theorem dX8_addEnd_57 : decode cX8_addEnd 57 = .ok (.aload_n 0, 1) := by decide +kernel
theorem dX8_addEnd_58 : decode cX8_addEnd 58 = .ok (.getfield 93, 3) := by decide +kernel
theorem dX8_addEnd_61 : decode cX8_addEnd 61 = .ok (.iload_n 1, 1) := by decide +kernel
theorem dX8_addEnd_62 : decode cX8_addEnd 62 = .ok (.iaload, 1) := by decide +kernel
theorem dX8_addEnd_63 : decode cX8_addEnd 63 = .ok (.bipush 8, 2) := by decide +kernel
theorem dX8_addEnd_65 : decode cX8_addEnd 65 = .ok (.if_icmp .ge 30, 3) := by decide +kernel
theorem dX8_addEnd_68 : decode cX8_addEnd 68 = .ok (.aload_n 0, 1) := by decide +kernel
theorem dX8_addEnd_69 : decode cX8_addEnd 69 = .ok (.getfield 90, 3) := by decide +kernel
theorem dX8_addEnd_72 : decode cX8_addEnd 72 = .ok (.bipush 8, 2) := by decide +kernel
theorem dX8_addEnd_74 : decode cX8_addEnd 74 = .ok (.iload_n 1, 1) := by decide +kernel
theorem dX8_addEnd_75 : decode cX8_addEnd 75 = .ok (.imul, 1) := by decide +kernel
theorem dX8_addEnd_76 : decode cX8_addEnd 76 = .ok (.aload_n 0, 1) := by decide +kernel
theorem dX8_addEnd_77 : decode cX8_addEnd 77 = .ok (.getfield 93, 3) := by decide +kernel
theorem dX8_addEnd_80 : decode cX8_addEnd 80 = .ok (.iload_n 1, 1) := by decide +kernel
theorem dX8_addEnd_81 : decode cX8_addEnd 81 = .ok (.iaload, 1) := by decide +kernel
theorem dX8_addEnd_82 : decode cX8_addEnd 82 = .ok (.iadd, 1) := by decide +kernel
theorem dX8_addEnd_83 : decode cX8_addEnd 83 = .ok (.lload_n 2, 1) := by decide +kernel
theorem dX8_addEnd_84 : decode cX8_addEnd 84 = .ok (.lastore, 1) := by decide +kernel
theorem dX8_addEnd_85 : decode cX8_addEnd 85 = .ok (.aload_n 0, 1) := by decide +kernel
theorem dX8_addEnd_86 : decode cX8_addEnd 86 = .ok (.getfield 93, 3) := by decide +kernel
theorem dX8_addEnd_89 : decode cX8_addEnd 89 = .ok (.iload_n 1, 1) := by decide +kernel
theorem dX8_addEnd_90 : decode cX8_addEnd 90 = .ok (.dup2, 1) := by decide +kernel
theorem dX8_addEnd_91 : decode cX8_addEnd 91 = .ok (.iaload, 1) := by decide +kernel
theorem dX8_addEnd_92 : decode cX8_addEnd 92 = .ok (.iconst 1, 1) := by decide +kernel
theorem dX8_addEnd_93 : decode cX8_addEnd 93 = .ok (.iadd, 1) := by decide +kernel
theorem dX8_addEnd_94 : decode cX8_addEnd 94 = .ok (.iastore, 1) := by decide +kernel
theorem dX8_addEnd_95 : decode cX8_addEnd 95 = .ok (.return_, 1) := by decide +kernel
def fX8_addEnd_b44 (k6 : Int32 → Int64 → Int32 → Int32 → Mm → Option Mm) (v1 : Int32) (v2 : Int64) (v5 : Int32) (s0 : Int32) (μ : Mm) : Option Mm := k6 v1 v2 s0 (v5 + (1 : Int32)) μ
def fX8_addEnd_b39 (k6 : Int32 → Int64 → Int32 → Int32 → Mm → Option Mm) (v1 : Int32) (v2 : Int64) (v5 : Int32) (μ : Mm) : Option Mm := fX8_addEnd_b44 k6 v1 v2 v5 (1 : Int32) μ
def fX8_addEnd_b6 : Nat → Int32 → Int64 → Int32 → Int32 → Mm → Option Mm
  | 0, _, _, _, _, _ => none
  | n + 1, v1, v2, v4, v5, μ => (if inb v1 8 = true then (if (μ.1 28 (Int32.toNatClampNeg v1)) ≤ v5 then (if v4 = 0 then (if inb v1 8 = true then (if (8 : Int32) ≤ (μ.1 28 (Int32.toNatClampNeg v1)) then some μ else (if inb v1 8 = true then (if inb (((8 : Int32) * v1) + (μ.1 28 (Int32.toNatClampNeg v1))) 64 = true then (if inb v1 8 = true then (if inb v1 8 = true then some (wI (wL μ 27 (Int32.toNatClampNeg (((8 : Int32) * v1) + (μ.1 28 (Int32.toNatClampNeg v1)))) v2) 28 (Int32.toNatClampNeg v1) (((wL μ 27 (Int32.toNatClampNeg (((8 : Int32) * v1) + (μ.1 28 (Int32.toNatClampNeg v1)))) v2).1 28 (Int32.toNatClampNeg v1)) + (1 : Int32))) else none) else none) else none) else none)) else none) else some μ) else (if v4 = 0 then (if inb (((8 : Int32) * v1) + v5) 64 = true then (if (μ.2 27 (Int32.toNatClampNeg (((8 : Int32) * v1) + v5))) = v2 then fX8_addEnd_b39 (fX8_addEnd_b6 n) v1 v2 v5 μ else fX8_addEnd_b44 (fX8_addEnd_b6 n) v1 v2 v5 (0 : Int32) μ) else none) else fX8_addEnd_b39 (fX8_addEnd_b6 n) v1 v2 v5 μ)) else none)
def fX8_addEnd (p1 : Int32) (p2 : Int64) (μ : Mm) : Option Mm := fX8_addEnd_b6 100 p1 p2 (0 : Int32) (0 : Int32) μ
set_option maxRecDepth 100000 in
set_option maxHeartbeats 4000000 in
theorem kX8_addEnd (l : Launch) (ε : Ev) (p1 : Int32) (p2 : Int64) (μ : Mm) (out : Mm) (hf : fX8_addEnd p1 p2 μ = some out) : Sp l ε layM yX8_addEnd cX8_addEnd 6 none 0 [.ref (ea ε 0), .int p1, .long p2] none μ out := by
  refine Sp.of [(0, .ref (ea ε 0)), (1, .int p1), (2, .long p2)] rfl (by decide +kernel) (Nat.le_of_ble_eq_true rfl) ?_
  intro κ hκ C E hQ
  subst hκ
  replace C : Cf κ cX8_addEnd 6 RX8 none 0 := C
  have b44 : ∀ (k6 : Int32 → Int64 → Int32 → Int32 → Mm → Option Mm) (hk6 : ∀ (v1 : Int32) (v2 : Int64) (v4 : Int32) (v5 : Int32) (μ : Mm) , k6 v1 v2 v4 v5 μ = some out → G κ (Vw κ ε layM μ) 6 6 [(0, .ref (ea ε 0)), (1, .int v1), (2, .long v2), (4, .int v4), (5, .int v5)] []) (v1 : Int32) (v2 : Int64) (v5 : Int32) (s0 : Int32) (μ : Mm) , fX8_addEnd_b44 k6 v1 v2 v5 s0 μ = some out → G κ (Vw κ ε layM μ) 6 44 [(0, .ref (ea ε 0)), (1, .int v1), (2, .long v2), (5, .int v5)] [.int s0] := by
    intro k6 hk6 v1 v2 v5 s0 μ hf
    refine g_istore (pc := 44) (i := 4) (L' := [(4, .int s0), (0, .ref (ea ε 0)), (1, .int v1), (2, .long v2), (5, .int v5)]) C dX8_addEnd_44 (by decide) rfl ?_
    refine g_iinc (pc := 46) (i := 5) (j := 4) (v := (v5 + (1 : Int32))) (L' := [(5, .int (v5 + (1 : Int32))), (4, .int s0), (0, .ref (ea ε 0)), (1, .int v1), (2, .long v2)]) C dX8_addEnd_46 rfl (cx_1 _) (by decide) rfl ?_
    refine g_goto (pc := 49) (tgt := 6) C dX8_addEnd_49 rfl ?_
    exact g_at [2, 3, 4, 1, 0] rfl (hk6 v1 v2 s0 (v5 + (1 : Int32)) μ hf)
  have b39 : ∀ (k6 : Int32 → Int64 → Int32 → Int32 → Mm → Option Mm) (hk6 : ∀ (v1 : Int32) (v2 : Int64) (v4 : Int32) (v5 : Int32) (μ : Mm) , k6 v1 v2 v4 v5 μ = some out → G κ (Vw κ ε layM μ) 6 6 [(0, .ref (ea ε 0)), (1, .int v1), (2, .long v2), (4, .int v4), (5, .int v5)] []) (v1 : Int32) (v2 : Int64) (v5 : Int32) (μ : Mm) , fX8_addEnd_b39 k6 v1 v2 v5 μ = some out → G κ (Vw κ ε layM μ) 6 39 [(0, .ref (ea ε 0)), (1, .int v1), (2, .long v2), (5, .int v5)] [] := by
    intro k6 hk6 v1 v2 v5 μ hf
    refine g_iconst (pc := 39) C dX8_addEnd_39 ci_1 ?_
    refine g_goto (pc := 40) (tgt := 44) C dX8_addEnd_40 rfl ?_
    exact b44 k6 hk6 v1 v2 v5 (1 : Int32) μ hf
  have b6 : ∀ (n : Nat) (v1 : Int32) (v2 : Int64) (v4 : Int32) (v5 : Int32) (μ : Mm) , fX8_addEnd_b6 n v1 v2 v4 v5 μ = some out → G κ (Vw κ ε layM μ) 6 6 [(0, .ref (ea ε 0)), (1, .int v1), (2, .long v2), (4, .int v4), (5, .int v5)] [] := by
    intro n
    induction n with
    | zero => intro v1 v2 v4 v5 μ hf; exact none_ne hf
    | succ n ih =>
      intro v1 v2 v4 v5 μ hf
      refine g_iload (pc := 6) (i := 5) (j := 4) C dX8_addEnd_6 rfl ?_
      refine g_aload_n (pc := 8) (i := 0) (j := 0) C dX8_addEnd_8 rfl rfl ?_
      refine g_getr (pc := 9) (j := 28) C E fdX8_93 layM_0_41 dX8_addEnd_9 ?_
      refine g_iload_n (pc := 12) (i := 1) (j := 1) C dX8_addEnd_12 rfl rfl ?_
      refine g_iald (pc := 13) C E layM_28 dX8_addEnd_13 hf (fun hf => ?_)
      refine g_icmp_ge (pc := 14) (tgt := 52) C dX8_addEnd_14 rfl hf (fun _ hf => ?_) (fun _ hf => ?_)
      · refine g_iload (pc := 52) (i := 4) (j := 3) C dX8_addEnd_52 rfl ?_
        refine g_if_ne (pc := 54) (tgt := 95) C dX8_addEnd_54 rfl hf (fun _ hf => ?_) (fun _ hf => ?_)
        · exact g_vretw (pc := 95) C hQ dX8_addEnd_95 hf
        · refine g_aload_n (pc := 57) (i := 0) (j := 0) C dX8_addEnd_57 rfl rfl ?_
          refine g_getr (pc := 58) (j := 28) C E fdX8_93 layM_0_41 dX8_addEnd_58 ?_
          refine g_iload_n (pc := 61) (i := 1) (j := 1) C dX8_addEnd_61 rfl rfl ?_
          refine g_iald (pc := 62) C E layM_28 dX8_addEnd_62 hf (fun hf => ?_)
          refine g_bipush (pc := 63) C dX8_addEnd_63 cb_8 ?_
          refine g_icmp_ge (pc := 65) (tgt := 95) C dX8_addEnd_65 rfl hf (fun _ hf => ?_) (fun _ hf => ?_)
          · exact g_vretw (pc := 95) C hQ dX8_addEnd_95 hf
          · refine g_aload_n (pc := 68) (i := 0) (j := 0) C dX8_addEnd_68 rfl rfl ?_
            refine g_getr (pc := 69) (j := 27) C E fdX8_90 layM_0_40 dX8_addEnd_69 ?_
            refine g_bipush (pc := 72) C dX8_addEnd_72 cb_8 ?_
            refine g_iload_n (pc := 74) (i := 1) (j := 1) C dX8_addEnd_74 rfl rfl ?_
            refine g_imul (pc := 75) C dX8_addEnd_75 ?_
            refine g_aload_n (pc := 76) (i := 0) (j := 0) C dX8_addEnd_76 rfl rfl ?_
            refine g_getr (pc := 77) (j := 28) C E fdX8_93 layM_0_41 dX8_addEnd_77 ?_
            refine g_iload_n (pc := 80) (i := 1) (j := 1) C dX8_addEnd_80 rfl rfl ?_
            refine g_iald (pc := 81) C E layM_28 dX8_addEnd_81 hf (fun hf => ?_)
            refine g_iadd (pc := 82) C dX8_addEnd_82 ?_
            refine g_lload_n (pc := 83) (i := 2) (j := 2) C dX8_addEnd_83 rfl rfl ?_
            refine g_last (pc := 84) C E layM_27 dX8_addEnd_84 hf (fun hf => ?_)
            refine g_aload_n (pc := 85) (i := 0) (j := 0) C dX8_addEnd_85 rfl rfl ?_
            refine g_getr (pc := 86) (j := 28) C E fdX8_93 layM_0_41 dX8_addEnd_86 ?_
            refine g_iload_n (pc := 89) (i := 1) (j := 1) C dX8_addEnd_89 rfl rfl ?_
            refine g_dup2 (pc := 90) C dX8_addEnd_90 rfl rfl ?_
            refine g_iald (pc := 91) C E layM_28 dX8_addEnd_91 hf (fun hf => ?_)
            refine g_iconst (pc := 92) C dX8_addEnd_92 ci_1 ?_
            refine g_iadd (pc := 93) C dX8_addEnd_93 ?_
            refine g_iast (pc := 94) C E layM_28 dX8_addEnd_94 hf (fun hf => ?_)
            exact g_vretw (pc := 95) C hQ dX8_addEnd_95 hf
      · refine g_iload (pc := 17) (i := 4) (j := 3) C dX8_addEnd_17 rfl ?_
        refine g_if_ne (pc := 19) (tgt := 39) C dX8_addEnd_19 rfl hf (fun _ hf => ?_) (fun _ hf => ?_)
        · exact g_at [0, 1, 2, 4] rfl (b39 (fX8_addEnd_b6 n) ih v1 v2 v5 μ hf)
        · refine g_aload_n (pc := 22) (i := 0) (j := 0) C dX8_addEnd_22 rfl rfl ?_
          refine g_getr (pc := 23) (j := 27) C E fdX8_90 layM_0_40 dX8_addEnd_23 ?_
          refine g_bipush (pc := 26) C dX8_addEnd_26 cb_8 ?_
          refine g_iload_n (pc := 28) (i := 1) (j := 1) C dX8_addEnd_28 rfl rfl ?_
          refine g_imul (pc := 29) C dX8_addEnd_29 ?_
          refine g_iload (pc := 30) (i := 5) (j := 4) C dX8_addEnd_30 rfl ?_
          refine g_iadd (pc := 32) C dX8_addEnd_32 ?_
          refine g_lald (pc := 33) C E layM_27 dX8_addEnd_33 hf (fun hf => ?_)
          refine g_lload_n (pc := 34) (i := 2) (j := 2) C dX8_addEnd_34 rfl rfl ?_
          refine g_lcmp_ne (pc := 35) (tgt := 43) C dX8_addEnd_35 dX8_addEnd_36 rfl hf (fun _ hf => ?_) (fun _ hf => ?_)
          · refine g_iconst (pc := 43) C dX8_addEnd_43 ci_0 ?_
            exact g_at [0, 1, 2, 4] rfl (b44 (fX8_addEnd_b6 n) ih v1 v2 v5 (0 : Int32) μ hf)
          · exact g_at [0, 1, 2, 4] rfl (b39 (fX8_addEnd_b6 n) ih v1 v2 v5 μ hf)
  refine g_iconst (pc := 0) C dX8_addEnd_0 ci_0 ?_
  refine g_istore (pc := 1) (i := 4) (L' := [(4, .int (0 : Int32)), (0, .ref (ea ε 0)), (1, .int p1), (2, .long p2)]) C dX8_addEnd_1 (by decide) rfl ?_
  refine g_iconst (pc := 3) C dX8_addEnd_3 ci_0 ?_
  refine g_istore (pc := 4) (i := 5) (L' := [(5, .int (0 : Int32)), (4, .int (0 : Int32)), (0, .ref (ea ε 0)), (1, .int p1), (2, .long p2)]) C dX8_addEnd_4 (by decide) rfl ?_
  exact g_at [2, 3, 4, 1, 0] rfl (b6 100 p1 p2 (0 : Int32) (0 : Int32) μ hf)
theorem dX8_takeApart_0 : decode cX8_takeApart 0 = .ok (.aload_n 0, 1) := by decide +kernel
theorem dX8_takeApart_1 : decode cX8_takeApart 1 = .ok (.lload_n 2, 1) := by decide +kernel
theorem dX8_takeApart_2 : decode cX8_takeApart 2 = .ok (.putfield 102, 3) := by decide +kernel
theorem dX8_takeApart_5 : decode cX8_takeApart 5 = .ok (.aload_n 0, 1) := by decide +kernel
theorem dX8_takeApart_6 : decode cX8_takeApart 6 = .ok (.iconst 0, 1) := by decide +kernel
theorem dX8_takeApart_7 : decode cX8_takeApart 7 = .ok (.putfield 106, 3) := by decide +kernel
theorem dX8_takeApart_10 : decode cX8_takeApart 10 = .ok (.iload_n 1, 1) := by decide +kernel
theorem dX8_takeApart_11 : decode cX8_takeApart 11 = .ok (.bipush 6, 2) := by decide +kernel
theorem dX8_takeApart_13 : decode cX8_takeApart 13 = .ok (.if_icmp .eq 9, 3) := by decide +kernel
theorem dX8_takeApart_16 : decode cX8_takeApart 16 = .ok (.iload_n 1, 1) := by decide +kernel
theorem dX8_takeApart_17 : decode cX8_takeApart 17 = .ok (.bipush 7, 2) := by decide +kernel
theorem dX8_takeApart_19 : decode cX8_takeApart 19 = .ok (.if_icmp .ne 163, 3) := by decide +kernel
theorem dX8_takeApart_22 : decode cX8_takeApart 22 = .ok (.iload_n 1, 1) := by decide +kernel
theorem dX8_takeApart_23 : decode cX8_takeApart 23 = .ok (.bipush 6, 2) := by decide +kernel
theorem dX8_takeApart_25 : decode cX8_takeApart 25 = .ok (.if_icmp .ne 8, 3) := by decide +kernel
theorem dX8_takeApart_28 : decode cX8_takeApart 28 = .ok (.bipush 23, 2) := by decide +kernel
theorem dX8_takeApart_30 : decode cX8_takeApart 30 = .ok (.goto 5, 3) := by decide +kernel
theorem dX8_takeApart_33 : decode cX8_takeApart 33 = .ok (.bipush 52, 2) := by decide +kernel
theorem dX8_takeApart_35 : decode cX8_takeApart 35 = .ok (.istore 4, 2) := by decide +kernel
theorem dX8_takeApart_37 : decode cX8_takeApart 37 = .ok (.iload_n 1, 1) := by decide +kernel
theorem dX8_takeApart_38 : decode cX8_takeApart 38 = .ok (.bipush 6, 2) := by decide +kernel
theorem dX8_takeApart_40 : decode cX8_takeApart 40 = .ok (.if_icmp .ne 9, 3) := by decide +kernel
theorem dX8_takeApart_43 : decode cX8_takeApart 43 = .ok (.sipush 255, 3) := by decide +kernel
theorem dX8_takeApart_46 : decode cX8_takeApart 46 = .ok (.goto 6, 3) := by decide +kernel
theorem dX8_takeApart_49 : decode cX8_takeApart 49 = .ok (.sipush 2047, 3) := by decide +kernel
theorem dX8_takeApart_52 : decode cX8_takeApart 52 = .ok (.istore 5, 2) := by decide +kernel
theorem dX8_takeApart_54 : decode cX8_takeApart 54 = .ok (.iload_n 1, 1) := by decide +kernel
theorem dX8_takeApart_55 : decode cX8_takeApart 55 = .ok (.bipush 6, 2) := by decide +kernel
theorem dX8_takeApart_57 : decode cX8_takeApart 57 = .ok (.if_icmp .ne 8, 3) := by decide +kernel
theorem dX8_takeApart_60 : decode cX8_takeApart 60 = .ok (.bipush 127, 2) := by decide +kernel
theorem dX8_takeApart_62 : decode cX8_takeApart 62 = .ok (.goto 6, 3) := by decide +kernel
theorem dX8_takeApart_65 : decode cX8_takeApart 65 = .ok (.sipush 1023, 3) := by decide +kernel
theorem dX8_takeApart_68 : decode cX8_takeApart 68 = .ok (.istore 6, 2) := by decide +kernel
theorem dX8_takeApart_70 : decode cX8_takeApart 70 = .ok (.lload_n 2, 1) := by decide +kernel
theorem dX8_takeApart_71 : decode cX8_takeApart 71 = .ok (.lconst 1, 1) := by decide +kernel
theorem dX8_takeApart_72 : decode cX8_takeApart 72 = .ok (.iload 4, 2) := by decide +kernel
theorem dX8_takeApart_74 : decode cX8_takeApart 74 = .ok (.lshl, 1) := by decide +kernel
theorem dX8_takeApart_75 : decode cX8_takeApart 75 = .ok (.lconst 1, 1) := by decide +kernel
theorem dX8_takeApart_76 : decode cX8_takeApart 76 = .ok (.lsub, 1) := by decide +kernel
theorem dX8_takeApart_77 : decode cX8_takeApart 77 = .ok (.land, 1) := by decide +kernel
theorem dX8_takeApart_78 : decode cX8_takeApart 78 = .ok (.lstore 7, 2) := by decide +kernel
theorem dX8_takeApart_80 : decode cX8_takeApart 80 = .ok (.lload_n 2, 1) := by decide +kernel
theorem dX8_takeApart_81 : decode cX8_takeApart 81 = .ok (.iload 4, 2) := by decide +kernel
theorem dX8_takeApart_83 : decode cX8_takeApart 83 = .ok (.lshr, 1) := by decide +kernel
theorem dX8_takeApart_84 : decode cX8_takeApart 84 = .ok (.l2i, 1) := by decide +kernel
theorem dX8_takeApart_85 : decode cX8_takeApart 85 = .ok (.iload 5, 2) := by decide +kernel
theorem dX8_takeApart_87 : decode cX8_takeApart 87 = .ok (.iand, 1) := by decide +kernel
theorem dX8_takeApart_88 : decode cX8_takeApart 88 = .ok (.istore 9, 2) := by decide +kernel
theorem dX8_takeApart_90 : decode cX8_takeApart 90 = .ok (.lload_n 2, 1) := by decide +kernel
theorem dX8_takeApart_91 : decode cX8_takeApart 91 = .ok (.iload 4, 2) := by decide +kernel
theorem dX8_takeApart_93 : decode cX8_takeApart 93 = .ok (.iload_n 1, 1) := by decide +kernel
theorem dX8_takeApart_94 : decode cX8_takeApart 94 = .ok (.bipush 6, 2) := by decide +kernel
theorem dX8_takeApart_96 : decode cX8_takeApart 96 = .ok (.if_icmp .ne 8, 3) := by decide +kernel
theorem dX8_takeApart_99 : decode cX8_takeApart 99 = .ok (.bipush 8, 2) := by decide +kernel
theorem dX8_takeApart_101 : decode cX8_takeApart 101 = .ok (.goto 5, 3) := by decide +kernel
theorem dX8_takeApart_104 : decode cX8_takeApart 104 = .ok (.bipush 11, 2) := by decide +kernel
theorem dX8_takeApart_106 : decode cX8_takeApart 106 = .ok (.iadd, 1) := by decide +kernel
theorem dX8_takeApart_107 : decode cX8_takeApart 107 = .ok (.lshr, 1) := by decide +kernel
theorem dX8_takeApart_108 : decode cX8_takeApart 108 = .ok (.lconst 1, 1) := by decide +kernel
theorem dX8_takeApart_109 : decode cX8_takeApart 109 = .ok (.land, 1) := by decide +kernel
theorem dX8_takeApart_110 : decode cX8_takeApart 110 = .ok (.lconst 1, 1) := by decide +kernel
theorem dX8_takeApart_111 : decode cX8_takeApart 111 = .ok (.lcmp, 1) := by decide +kernel
theorem dX8_takeApart_112 : decode cX8_takeApart 112 = .ok (.ifCond .ne 7, 3) := by decide +kernel
theorem dX8_takeApart_115 : decode cX8_takeApart 115 = .ok (.iconst 1, 1) := by decide +kernel
theorem dX8_takeApart_116 : decode cX8_takeApart 116 = .ok (.goto 4, 3) := by decide +kernel
theorem dX8_takeApart_119 : decode cX8_takeApart 119 = .ok (.iconst 0, 1) := by decide +kernel
theorem dX8_takeApart_120 : decode cX8_takeApart 120 = .ok (.istore 10, 2) := by decide +kernel
theorem dX8_takeApart_122 : decode cX8_takeApart 122 = .ok (.aload_n 0, 1) := by decide +kernel
theorem dX8_takeApart_123 : decode cX8_takeApart 123 = .ok (.iload 9, 2) := by decide +kernel
theorem dX8_takeApart_125 : decode cX8_takeApart 125 = .ok (.ifCond .ne 14, 3) := by decide +kernel
theorem dX8_takeApart_128 : decode cX8_takeApart 128 = .ok (.lload 7, 2) := by decide +kernel
theorem dX8_takeApart_130 : decode cX8_takeApart 130 = .ok (.lconst 0, 1) := by decide +kernel
theorem dX8_takeApart_131 : decode cX8_takeApart 131 = .ok (.lcmp, 1) := by decide +kernel
theorem dX8_takeApart_132 : decode cX8_takeApart 132 = .ok (.ifCond .ne 7, 3) := by decide +kernel
theorem dX8_takeApart_135 : decode cX8_takeApart 135 = .ok (.lconst 0, 1) := by decide +kernel
theorem dX8_takeApart_136 : decode cX8_takeApart 136 = .ok (.goto 10, 3) := by decide +kernel
theorem dX8_takeApart_139 : decode cX8_takeApart 139 = .ok (.lload 7, 2) := by decide +kernel
theorem dX8_takeApart_141 : decode cX8_takeApart 141 = .ok (.lconst 1, 1) := by decide +kernel
theorem dX8_takeApart_142 : decode cX8_takeApart 142 = .ok (.iload 4, 2) := by decide +kernel
theorem dX8_takeApart_144 : decode cX8_takeApart 144 = .ok (.lshl, 1) := by decide +kernel
theorem dX8_takeApart_145 : decode cX8_takeApart 145 = .ok (.lor, 1) := by decide +kernel
theorem dX8_takeApart_146 : decode cX8_takeApart 146 = .ok (.putfield 102, 3) := by decide +kernel
theorem dX8_takeApart_149 : decode cX8_takeApart 149 = .ok (.aload_n 0, 1) := by decide +kernel
theorem dX8_takeApart_150 : decode cX8_takeApart 150 = .ok (.iload 10, 2) := by decide +kernel
theorem dX8_takeApart_152 : decode cX8_takeApart 152 = .ok (.ifCond .eq 11, 3) := by decide +kernel
theorem dX8_takeApart_155 : decode cX8_takeApart 155 = .ok (.aload_n 0, 1) := by decide +kernel
theorem dX8_takeApart_156 : decode cX8_takeApart 156 = .ok (.getfield 102, 3) := by decide +kernel
theorem dX8_takeApart_159 : decode cX8_takeApart 159 = .ok (.lneg, 1) := by decide +kernel
theorem dX8_takeApart_160 : decode cX8_takeApart 160 = .ok (.goto 7, 3) := by decide +kernel
theorem dX8_takeApart_163 : decode cX8_takeApart 163 = .ok (.aload_n 0, 1) := by decide +kernel
theorem dX8_takeApart_164 : decode cX8_takeApart 164 = .ok (.getfield 102, 3) := by decide +kernel
theorem dX8_takeApart_167 : decode cX8_takeApart 167 = .ok (.putfield 102, 3) := by decide +kernel
theorem dX8_takeApart_170 : decode cX8_takeApart 170 = .ok (.aload_n 0, 1) := by decide +kernel
theorem dX8_takeApart_171 : decode cX8_takeApart 171 = .ok (.iload 9, 2) := by decide +kernel
theorem dX8_takeApart_173 : decode cX8_takeApart 173 = .ok (.iload 6, 2) := by decide +kernel
theorem dX8_takeApart_175 : decode cX8_takeApart 175 = .ok (.isub, 1) := by decide +kernel
theorem dX8_takeApart_176 : decode cX8_takeApart 176 = .ok (.iload 4, 2) := by decide +kernel
theorem dX8_takeApart_178 : decode cX8_takeApart 178 = .ok (.isub, 1) := by decide +kernel
theorem dX8_takeApart_179 : decode cX8_takeApart 179 = .ok (.putfield 106, 3) := by decide +kernel
theorem dX8_takeApart_182 : decode cX8_takeApart 182 = .ok (.iconst 0, 1) := by decide +kernel
theorem dX8_takeApart_183 : decode cX8_takeApart 183 = .ok (.istore 4, 2) := by decide +kernel
theorem dX8_takeApart_185 : decode cX8_takeApart 185 = .ok (.iload 4, 2) := by decide +kernel
theorem dX8_takeApart_187 : decode cX8_takeApart 187 = .ok (.bipush 64, 2) := by decide +kernel
theorem dX8_takeApart_189 : decode cX8_takeApart 189 = .ok (.if_icmp .ge 53, 3) := by decide +kernel
theorem dX8_takeApart_192 : decode cX8_takeApart 192 = .ok (.aload_n 0, 1) := by decide +kernel
theorem dX8_takeApart_193 : decode cX8_takeApart 193 = .ok (.getfield 102, 3) := by decide +kernel
theorem dX8_takeApart_196 : decode cX8_takeApart 196 = .ok (.lconst 0, 1) := by decide +kernel
theorem dX8_takeApart_197 : decode cX8_takeApart 197 = .ok (.lcmp, 1) := by decide +kernel
theorem dX8_takeApart_198 : decode cX8_takeApart 198 = .ok (.ifCond .eq 44, 3) := by decide +kernel
theorem dX8_takeApart_201 : decode cX8_takeApart 201 = .ok (.aload_n 0, 1) := by decide +kernel
theorem dX8_takeApart_202 : decode cX8_takeApart 202 = .ok (.getfield 102, 3) := by decide +kernel
theorem dX8_takeApart_205 : decode cX8_takeApart 205 = .ok (.ldc2_w 110, 3) := by decide +kernel
theorem dX8_takeApart_208 : decode cX8_takeApart 208 = .ok (.lrem, 1) := by decide +kernel
theorem dX8_takeApart_209 : decode cX8_takeApart 209 = .ok (.lconst 0, 1) := by decide +kernel
theorem dX8_takeApart_210 : decode cX8_takeApart 210 = .ok (.lcmp, 1) := by decide +kernel
theorem dX8_takeApart_211 : decode cX8_takeApart 211 = .ok (.ifCond .ne 31, 3) := by decide +kernel
theorem dX8_takeApart_214 : decode cX8_takeApart 214 = .ok (.aload_n 0, 1) := by decide +kernel
theorem dX8_takeApart_215 : decode cX8_takeApart 215 = .ok (.dup, 1) := by decide +kernel
theorem dX8_takeApart_216 : decode cX8_takeApart 216 = .ok (.getfield 102, 3) := by decide +kernel
theorem dX8_takeApart_219 : decode cX8_takeApart 219 = .ok (.ldc2_w 110, 3) := by decide +kernel
theorem dX8_takeApart_222 : decode cX8_takeApart 222 = .ok (.ldiv, 1) := by decide +kernel
theorem dX8_takeApart_223 : decode cX8_takeApart 223 = .ok (.putfield 102, 3) := by decide +kernel
theorem dX8_takeApart_226 : decode cX8_takeApart 226 = .ok (.aload_n 0, 1) := by decide +kernel
theorem dX8_takeApart_227 : decode cX8_takeApart 227 = .ok (.dup, 1) := by decide +kernel
theorem dX8_takeApart_228 : decode cX8_takeApart 228 = .ok (.getfield 106, 3) := by decide +kernel
theorem dX8_takeApart_231 : decode cX8_takeApart 231 = .ok (.iconst 1, 1) := by decide +kernel
theorem dX8_takeApart_232 : decode cX8_takeApart 232 = .ok (.iadd, 1) := by decide +kernel
theorem dX8_takeApart_233 : decode cX8_takeApart 233 = .ok (.putfield 106, 3) := by decide +kernel
theorem dX8_takeApart_236 : decode cX8_takeApart 236 = .ok (.iinc 4 1, 3) := by decide +kernel
theorem dX8_takeApart_239 : decode cX8_takeApart 239 = .ok (.goto (-54), 3) := by decide +kernel
theorem dX8_takeApart_242 : decode cX8_takeApart 242 = .ok (.return_, 1) := by decide +kernel
def fX8_takeApart_b185 : Nat → Int32 → Mm → Option Mm
  | 0, _, _ => none
  | n + 1, v4, μ => (if (64 : Int32) ≤ v4 then some μ else (if (μ.2 0 42) = (0 : Int64) then some μ else (if (jlrem (μ.2 0 42) (2 : Int64)) = (0 : Int64) then (fX8_takeApart_b185 n) (v4 + (1 : Int32)) (wI (wL μ 0 42 (jldiv (μ.2 0 42) (2 : Int64))) 0 43 (((wL μ 0 42 (jldiv (μ.2 0 42) (2 : Int64))).1 0 43) + (1 : Int32))) else some μ)))
def fX8_takeApart_b182  (μ : Mm) : Option Mm := fX8_takeApart_b185 100 (0 : Int32) μ
def fX8_takeApart_b167 (v4 : Int32) (v6 : Int32) (v9 : Int32) (s0 : Int64) (μ : Mm) : Option Mm := fX8_takeApart_b182 (wI (wL μ 0 42 s0) 0 43 ((v9 - v6) - v4))
def fX8_takeApart_b146 (v4 : Int32) (v6 : Int32) (v9 : Int32) (v10 : Int32) (s0 : Int64) (μ : Mm) : Option Mm := (if v10 = 0 then fX8_takeApart_b167 v4 v6 v9 ((wL μ 0 42 s0).2 0 42) (wL μ 0 42 s0) else fX8_takeApart_b167 v4 v6 v9 (-((wL μ 0 42 s0).2 0 42)) (wL μ 0 42 s0))
def fX8_takeApart_b139 (v4 : Int32) (v6 : Int32) (v7 : Int64) (v9 : Int32) (v10 : Int32) (μ : Mm) : Option Mm := fX8_takeApart_b146 v4 v6 v9 v10 (v7 ||| (jlshl (1 : Int64) v4)) μ
def fX8_takeApart_b120 (v4 : Int32) (v6 : Int32) (v7 : Int64) (v9 : Int32) (s0 : Int32) (μ : Mm) : Option Mm := (if v9 = 0 then (if v7 = (0 : Int64) then fX8_takeApart_b146 v4 v6 v9 s0 (0 : Int64) μ else fX8_takeApart_b139 v4 v6 v7 v9 s0 μ) else fX8_takeApart_b139 v4 v6 v7 v9 s0 μ)
def fX8_takeApart_b106 (v4 : Int32) (v6 : Int32) (v7 : Int64) (v9 : Int32) (s0 : Int32) (s1 : Int32) (s2 : Int64) (μ : Mm) : Option Mm := (if ((jlshr s2 (s1 + s0)) &&& (1 : Int64)) = (1 : Int64) then fX8_takeApart_b120 v4 v6 v7 v9 (1 : Int32) μ else fX8_takeApart_b120 v4 v6 v7 v9 (0 : Int32) μ)
def fX8_takeApart_b68 (v1 : Int32) (v2 : Int64) (v4 : Int32) (v5 : Int32) (s0 : Int32) (μ : Mm) : Option Mm := (if v1 = (6 : Int32) then fX8_takeApart_b106 v4 s0 (v2 &&& ((jlshl (1 : Int64) v4) - (1 : Int64))) ((Int64.toInt32 (jlshr v2 v4)) &&& v5) (8 : Int32) v4 v2 μ else fX8_takeApart_b106 v4 s0 (v2 &&& ((jlshl (1 : Int64) v4) - (1 : Int64))) ((Int64.toInt32 (jlshr v2 v4)) &&& v5) (11 : Int32) v4 v2 μ)
def fX8_takeApart_b52 (v1 : Int32) (v2 : Int64) (v4 : Int32) (s0 : Int32) (μ : Mm) : Option Mm := (if v1 = (6 : Int32) then fX8_takeApart_b68 v1 v2 v4 s0 (127 : Int32) μ else fX8_takeApart_b68 v1 v2 v4 s0 (1023 : Int32) μ)
def fX8_takeApart_b35 (v1 : Int32) (v2 : Int64) (s0 : Int32) (μ : Mm) : Option Mm := (if v1 = (6 : Int32) then fX8_takeApart_b52 v1 v2 s0 (255 : Int32) μ else fX8_takeApart_b52 v1 v2 s0 (2047 : Int32) μ)
def fX8_takeApart_b22 (v1 : Int32) (v2 : Int64) (μ : Mm) : Option Mm := (if v1 = (6 : Int32) then fX8_takeApart_b35 v1 v2 (23 : Int32) μ else fX8_takeApart_b35 v1 v2 (52 : Int32) μ)
def fX8_takeApart (p1 : Int32) (p2 : Int64) (μ : Mm) : Option Mm := (if p1 = (6 : Int32) then fX8_takeApart_b22 p1 p2 (wI (wL μ 0 42 p2) 0 43 (0 : Int32)) else (if p1 = (7 : Int32) then fX8_takeApart_b22 p1 p2 (wI (wL μ 0 42 p2) 0 43 (0 : Int32)) else fX8_takeApart_b182 (wI (wL μ 0 42 p2) 0 43 (0 : Int32))))
set_option maxRecDepth 100000 in
set_option maxHeartbeats 4000000 in
theorem kX8_takeApart (l : Launch) (ε : Ev) (p1 : Int32) (p2 : Int64) (μ : Mm) (out : Mm) (hf : fX8_takeApart p1 p2 μ = some out) : Sp l ε layM yX8_takeApart cX8_takeApart 11 none 0 [.ref (ea ε 0), .int p1, .long p2] none μ out := by
  refine Sp.of [(0, .ref (ea ε 0)), (1, .int p1), (2, .long p2)] rfl (by decide +kernel) (Nat.le_of_ble_eq_true rfl) ?_
  intro κ hκ C E hQ
  subst hκ
  replace C : Cf κ cX8_takeApart 11 RX8 none 0 := C
  have b185 : ∀ (n : Nat) (v4 : Int32) (μ : Mm) , fX8_takeApart_b185 n v4 μ = some out → G κ (Vw κ ε layM μ) 11 185 [(0, .ref (ea ε 0)), (4, .int v4)] [] := by
    intro n
    induction n with
    | zero => intro v4 μ hf; exact none_ne hf
    | succ n ih =>
      intro v4 μ hf
      refine g_iload (pc := 185) (i := 4) (j := 1) C dX8_takeApart_185 rfl ?_
      refine g_bipush (pc := 187) C dX8_takeApart_187 cb_64 ?_
      refine g_icmp_ge (pc := 189) (tgt := 242) C dX8_takeApart_189 rfl hf (fun _ hf => ?_) (fun _ hf => ?_)
      · exact g_vretw (pc := 242) C hQ dX8_takeApart_242 hf
      · refine g_aload_n (pc := 192) (i := 0) (j := 0) C dX8_takeApart_192 rfl rfl ?_
        refine g_getl (pc := 193) C E fdX8_102 layM_0_42 dX8_takeApart_193 ?_
        refine g_lconst (pc := 196) C dX8_takeApart_196 cl_0 ?_
        refine g_lcmp_eq (pc := 197) (tgt := 242) C dX8_takeApart_197 dX8_takeApart_198 rfl hf (fun _ hf => ?_) (fun _ hf => ?_)
        · exact g_vretw (pc := 242) C hQ dX8_takeApart_242 hf
        · refine g_aload_n (pc := 201) (i := 0) (j := 0) C dX8_takeApart_201 rfl rfl ?_
          refine g_getl (pc := 202) C E fdX8_102 layM_0_42 dX8_takeApart_202 ?_
          refine g_ldc2 (pc := 205) C cnX8_110 dX8_takeApart_205 ?_
          refine g_lrem (pc := 208) C dX8_takeApart_208 (by decide) ?_
          refine g_lconst (pc := 209) C dX8_takeApart_209 cl_0 ?_
          refine g_lcmp_ne (pc := 210) (tgt := 242) C dX8_takeApart_210 dX8_takeApart_211 rfl hf (fun _ hf => ?_) (fun _ hf => ?_)
          · exact g_vretw (pc := 242) C hQ dX8_takeApart_242 hf
          · refine g_aload_n (pc := 214) (i := 0) (j := 0) C dX8_takeApart_214 rfl rfl ?_
            refine g_dup (pc := 215) C dX8_takeApart_215 rfl ?_
            refine g_getl (pc := 216) C E fdX8_102 layM_0_42 dX8_takeApart_216 ?_
            refine g_ldc2 (pc := 219) C cnX8_110 dX8_takeApart_219 ?_
            refine g_ldiv (pc := 222) C dX8_takeApart_222 (by decide) ?_
            refine g_putl (pc := 223) C E fdX8_102 layM_0_42 dX8_takeApart_223 ?_
            refine g_aload_n (pc := 226) (i := 0) (j := 0) C dX8_takeApart_226 rfl rfl ?_
            refine g_dup (pc := 227) C dX8_takeApart_227 rfl ?_
            refine g_geti (pc := 228) C E fdX8_106 layM_0_43 dX8_takeApart_228 ?_
            refine g_iconst (pc := 231) C dX8_takeApart_231 ci_1 ?_
            refine g_iadd (pc := 232) C dX8_takeApart_232 ?_
            refine g_puti (pc := 233) C E fdX8_106 layM_0_43 dX8_takeApart_233 ?_
            refine g_iinc (pc := 236) (i := 4) (j := 1) (v := (v4 + (1 : Int32))) (L' := [(4, .int (v4 + (1 : Int32))), (0, .ref (ea ε 0))]) C dX8_takeApart_236 rfl (cx_1 _) (by decide) rfl ?_
            refine g_goto (pc := 239) (tgt := 185) C dX8_takeApart_239 rfl ?_
            exact g_at [1, 0] rfl (ih (v4 + (1 : Int32)) (wI (wL μ 0 42 (jldiv (μ.2 0 42) (2 : Int64))) 0 43 (((wL μ 0 42 (jldiv (μ.2 0 42) (2 : Int64))).1 0 43) + (1 : Int32))) hf)
  have b182 : ∀ (μ : Mm) , fX8_takeApart_b182 μ = some out → G κ (Vw κ ε layM μ) 11 182 [(0, .ref (ea ε 0))] [] := by
    intro μ hf
    refine g_iconst (pc := 182) C dX8_takeApart_182 ci_0 ?_
    refine g_istore (pc := 183) (i := 4) (L' := [(4, .int (0 : Int32)), (0, .ref (ea ε 0))]) C dX8_takeApart_183 (by decide) rfl ?_
    exact g_at [1, 0] rfl (b185 100 (0 : Int32) μ hf)
  have b167 : ∀ (v4 : Int32) (v6 : Int32) (v9 : Int32) (s0 : Int64) (μ : Mm) , fX8_takeApart_b167 v4 v6 v9 s0 μ = some out → G κ (Vw κ ε layM μ) 11 167 [(0, .ref (ea ε 0)), (4, .int v4), (6, .int v6), (9, .int v9)] [.long s0, .ref (ea ε 0)] := by
    intro v4 v6 v9 s0 μ hf
    refine g_putl (pc := 167) C E fdX8_102 layM_0_42 dX8_takeApart_167 ?_
    refine g_aload_n (pc := 170) (i := 0) (j := 0) C dX8_takeApart_170 rfl rfl ?_
    refine g_iload (pc := 171) (i := 9) (j := 3) C dX8_takeApart_171 rfl ?_
    refine g_iload (pc := 173) (i := 6) (j := 2) C dX8_takeApart_173 rfl ?_
    refine g_isub (pc := 175) C dX8_takeApart_175 ?_
    refine g_iload (pc := 176) (i := 4) (j := 1) C dX8_takeApart_176 rfl ?_
    refine g_isub (pc := 178) C dX8_takeApart_178 ?_
    refine g_puti (pc := 179) C E fdX8_106 layM_0_43 dX8_takeApart_179 ?_
    exact g_at [0] rfl (b182 (wI (wL μ 0 42 s0) 0 43 ((v9 - v6) - v4)) hf)
  have b146 : ∀ (v4 : Int32) (v6 : Int32) (v9 : Int32) (v10 : Int32) (s0 : Int64) (μ : Mm) , fX8_takeApart_b146 v4 v6 v9 v10 s0 μ = some out → G κ (Vw κ ε layM μ) 11 146 [(0, .ref (ea ε 0)), (4, .int v4), (6, .int v6), (9, .int v9), (10, .int v10)] [.long s0, .ref (ea ε 0)] := by
    intro v4 v6 v9 v10 s0 μ hf
    refine g_putl (pc := 146) C E fdX8_102 layM_0_42 dX8_takeApart_146 ?_
    refine g_aload_n (pc := 149) (i := 0) (j := 0) C dX8_takeApart_149 rfl rfl ?_
    refine g_iload (pc := 150) (i := 10) (j := 4) C dX8_takeApart_150 rfl ?_
    refine g_if_eq (pc := 152) (tgt := 163) C dX8_takeApart_152 rfl hf (fun _ hf => ?_) (fun _ hf => ?_)
    · refine g_aload_n (pc := 163) (i := 0) (j := 0) C dX8_takeApart_163 rfl rfl ?_
      refine g_getl (pc := 164) C E fdX8_102 layM_0_42 dX8_takeApart_164 ?_
      exact g_at [0, 1, 2, 3] rfl (b167 v4 v6 v9 ((wL μ 0 42 s0).2 0 42) (wL μ 0 42 s0) hf)
    · refine g_aload_n (pc := 155) (i := 0) (j := 0) C dX8_takeApart_155 rfl rfl ?_
      refine g_getl (pc := 156) C E fdX8_102 layM_0_42 dX8_takeApart_156 ?_
      refine g_lneg (pc := 159) C dX8_takeApart_159 ?_
      refine g_goto (pc := 160) (tgt := 167) C dX8_takeApart_160 rfl ?_
      exact g_at [0, 1, 2, 3] rfl (b167 v4 v6 v9 (-((wL μ 0 42 s0).2 0 42)) (wL μ 0 42 s0) hf)
  have b139 : ∀ (v4 : Int32) (v6 : Int32) (v7 : Int64) (v9 : Int32) (v10 : Int32) (μ : Mm) , fX8_takeApart_b139 v4 v6 v7 v9 v10 μ = some out → G κ (Vw κ ε layM μ) 11 139 [(0, .ref (ea ε 0)), (4, .int v4), (6, .int v6), (7, .long v7), (9, .int v9), (10, .int v10)] [.ref (ea ε 0)] := by
    intro v4 v6 v7 v9 v10 μ hf
    refine g_lload (pc := 139) (i := 7) (j := 3) C dX8_takeApart_139 rfl ?_
    refine g_lconst (pc := 141) C dX8_takeApart_141 cl_1 ?_
    refine g_iload (pc := 142) (i := 4) (j := 1) C dX8_takeApart_142 rfl ?_
    refine g_lshl (pc := 144) C dX8_takeApart_144 ?_
    refine g_lor (pc := 145) C dX8_takeApart_145 ?_
    exact g_at [0, 1, 2, 4, 5] rfl (b146 v4 v6 v9 v10 (v7 ||| (jlshl (1 : Int64) v4)) μ hf)
  have b120 : ∀ (v4 : Int32) (v6 : Int32) (v7 : Int64) (v9 : Int32) (s0 : Int32) (μ : Mm) , fX8_takeApart_b120 v4 v6 v7 v9 s0 μ = some out → G κ (Vw κ ε layM μ) 11 120 [(0, .ref (ea ε 0)), (4, .int v4), (6, .int v6), (7, .long v7), (9, .int v9)] [.int s0] := by
    intro v4 v6 v7 v9 s0 μ hf
    refine g_istore (pc := 120) (i := 10) (L' := [(10, .int s0), (0, .ref (ea ε 0)), (4, .int v4), (6, .int v6), (7, .long v7), (9, .int v9)]) C dX8_takeApart_120 (by decide) rfl ?_
    refine g_aload_n (pc := 122) (i := 0) (j := 1) C dX8_takeApart_122 rfl rfl ?_
    refine g_iload (pc := 123) (i := 9) (j := 5) C dX8_takeApart_123 rfl ?_
    refine g_if_ne (pc := 125) (tgt := 139) C dX8_takeApart_125 rfl hf (fun _ hf => ?_) (fun _ hf => ?_)
    · exact g_at [1, 2, 3, 4, 5, 0] rfl (b139 v4 v6 v7 v9 s0 μ hf)
    · refine g_lload (pc := 128) (i := 7) (j := 4) C dX8_takeApart_128 rfl ?_
      refine g_lconst (pc := 130) C dX8_takeApart_130 cl_0 ?_
      refine g_lcmp_ne (pc := 131) (tgt := 139) C dX8_takeApart_131 dX8_takeApart_132 rfl hf (fun _ hf => ?_) (fun _ hf => ?_)
      · exact g_at [1, 2, 3, 4, 5, 0] rfl (b139 v4 v6 v7 v9 s0 μ hf)
      · refine g_lconst (pc := 135) C dX8_takeApart_135 cl_0 ?_
        refine g_goto (pc := 136) (tgt := 146) C dX8_takeApart_136 rfl ?_
        exact g_at [1, 2, 3, 5, 0] rfl (b146 v4 v6 v9 s0 (0 : Int64) μ hf)
  have b106 : ∀ (v4 : Int32) (v6 : Int32) (v7 : Int64) (v9 : Int32) (s0 : Int32) (s1 : Int32) (s2 : Int64) (μ : Mm) , fX8_takeApart_b106 v4 v6 v7 v9 s0 s1 s2 μ = some out → G κ (Vw κ ε layM μ) 11 106 [(0, .ref (ea ε 0)), (4, .int v4), (6, .int v6), (7, .long v7), (9, .int v9)] [.int s0, .int s1, .long s2] := by
    intro v4 v6 v7 v9 s0 s1 s2 μ hf
    refine g_iadd (pc := 106) C dX8_takeApart_106 ?_
    refine g_lshr (pc := 107) C dX8_takeApart_107 ?_
    refine g_lconst (pc := 108) C dX8_takeApart_108 cl_1 ?_
    refine g_land (pc := 109) C dX8_takeApart_109 ?_
    refine g_lconst (pc := 110) C dX8_takeApart_110 cl_1 ?_
    refine g_lcmp_ne (pc := 111) (tgt := 119) C dX8_takeApart_111 dX8_takeApart_112 rfl hf (fun _ hf => ?_) (fun _ hf => ?_)
    · refine g_iconst (pc := 119) C dX8_takeApart_119 ci_0 ?_
      exact b120 v4 v6 v7 v9 (0 : Int32) μ hf
    · refine g_iconst (pc := 115) C dX8_takeApart_115 ci_1 ?_
      refine g_goto (pc := 116) (tgt := 120) C dX8_takeApart_116 rfl ?_
      exact b120 v4 v6 v7 v9 (1 : Int32) μ hf
  have b68 : ∀ (v1 : Int32) (v2 : Int64) (v4 : Int32) (v5 : Int32) (s0 : Int32) (μ : Mm) , fX8_takeApart_b68 v1 v2 v4 v5 s0 μ = some out → G κ (Vw κ ε layM μ) 11 68 [(0, .ref (ea ε 0)), (1, .int v1), (2, .long v2), (4, .int v4), (5, .int v5)] [.int s0] := by
    intro v1 v2 v4 v5 s0 μ hf
    refine g_istore (pc := 68) (i := 6) (L' := [(6, .int s0), (0, .ref (ea ε 0)), (1, .int v1), (2, .long v2), (4, .int v4), (5, .int v5)]) C dX8_takeApart_68 (by decide) rfl ?_
    refine g_lload_n (pc := 70) (i := 2) (j := 3) C dX8_takeApart_70 rfl rfl ?_
    refine g_lconst (pc := 71) C dX8_takeApart_71 cl_1 ?_
    refine g_iload (pc := 72) (i := 4) (j := 4) C dX8_takeApart_72 rfl ?_
    refine g_lshl (pc := 74) C dX8_takeApart_74 ?_
    refine g_lconst (pc := 75) C dX8_takeApart_75 cl_1 ?_
    refine g_lsub (pc := 76) C dX8_takeApart_76 ?_
    refine g_land (pc := 77) C dX8_takeApart_77 ?_
    refine g_lstore (pc := 78) (i := 7) (L' := [(7, .long (v2 &&& ((jlshl (1 : Int64) v4) - (1 : Int64)))), (6, .int s0), (0, .ref (ea ε 0)), (1, .int v1), (2, .long v2), (4, .int v4), (5, .int v5)]) C dX8_takeApart_78 (by decide) rfl ?_
    refine g_lload_n (pc := 80) (i := 2) (j := 4) C dX8_takeApart_80 rfl rfl ?_
    refine g_iload (pc := 81) (i := 4) (j := 5) C dX8_takeApart_81 rfl ?_
    refine g_lshr (pc := 83) C dX8_takeApart_83 ?_
    refine g_l2i (pc := 84) C dX8_takeApart_84 ?_
    refine g_iload (pc := 85) (i := 5) (j := 6) C dX8_takeApart_85 rfl ?_
    refine g_iand (pc := 87) C dX8_takeApart_87 ?_
    refine g_istore (pc := 88) (i := 9) (L' := [(9, .int ((Int64.toInt32 (jlshr v2 v4)) &&& v5)), (7, .long (v2 &&& ((jlshl (1 : Int64) v4) - (1 : Int64)))), (6, .int s0), (0, .ref (ea ε 0)), (1, .int v1), (2, .long v2), (4, .int v4), (5, .int v5)]) C dX8_takeApart_88 (by decide) rfl ?_
    refine g_lload_n (pc := 90) (i := 2) (j := 5) C dX8_takeApart_90 rfl rfl ?_
    refine g_iload (pc := 91) (i := 4) (j := 6) C dX8_takeApart_91 rfl ?_
    refine g_iload_n (pc := 93) (i := 1) (j := 4) C dX8_takeApart_93 rfl rfl ?_
    refine g_bipush (pc := 94) C dX8_takeApart_94 cb_6 ?_
    refine g_icmp_ne (pc := 96) (tgt := 104) C dX8_takeApart_96 rfl hf (fun _ hf => ?_) (fun _ hf => ?_)
    · refine g_bipush (pc := 104) C dX8_takeApart_104 cb_11 ?_
      exact g_at [3, 6, 2, 1, 0] rfl (b106 v4 s0 (v2 &&& ((jlshl (1 : Int64) v4) - (1 : Int64))) ((Int64.toInt32 (jlshr v2 v4)) &&& v5) (11 : Int32) v4 v2 μ hf)
    · refine g_bipush (pc := 99) C dX8_takeApart_99 cb_8 ?_
      refine g_goto (pc := 101) (tgt := 106) C dX8_takeApart_101 rfl ?_
      exact g_at [3, 6, 2, 1, 0] rfl (b106 v4 s0 (v2 &&& ((jlshl (1 : Int64) v4) - (1 : Int64))) ((Int64.toInt32 (jlshr v2 v4)) &&& v5) (8 : Int32) v4 v2 μ hf)
  have b52 : ∀ (v1 : Int32) (v2 : Int64) (v4 : Int32) (s0 : Int32) (μ : Mm) , fX8_takeApart_b52 v1 v2 v4 s0 μ = some out → G κ (Vw κ ε layM μ) 11 52 [(0, .ref (ea ε 0)), (1, .int v1), (2, .long v2), (4, .int v4)] [.int s0] := by
    intro v1 v2 v4 s0 μ hf
    refine g_istore (pc := 52) (i := 5) (L' := [(5, .int s0), (0, .ref (ea ε 0)), (1, .int v1), (2, .long v2), (4, .int v4)]) C dX8_takeApart_52 (by decide) rfl ?_
    refine g_iload_n (pc := 54) (i := 1) (j := 2) C dX8_takeApart_54 rfl rfl ?_
    refine g_bipush (pc := 55) C dX8_takeApart_55 cb_6 ?_
    refine g_icmp_ne (pc := 57) (tgt := 65) C dX8_takeApart_57 rfl hf (fun _ hf => ?_) (fun _ hf => ?_)
    · refine g_sipush (pc := 65) C dX8_takeApart_65 cs_1023 ?_
      exact g_at [1, 2, 3, 4, 0] rfl (b68 v1 v2 v4 s0 (1023 : Int32) μ hf)
    · refine g_bipush (pc := 60) C dX8_takeApart_60 cb_127 ?_
      refine g_goto (pc := 62) (tgt := 68) C dX8_takeApart_62 rfl ?_
      exact g_at [1, 2, 3, 4, 0] rfl (b68 v1 v2 v4 s0 (127 : Int32) μ hf)
  have b35 : ∀ (v1 : Int32) (v2 : Int64) (s0 : Int32) (μ : Mm) , fX8_takeApart_b35 v1 v2 s0 μ = some out → G κ (Vw κ ε layM μ) 11 35 [(0, .ref (ea ε 0)), (1, .int v1), (2, .long v2)] [.int s0] := by
    intro v1 v2 s0 μ hf
    refine g_istore (pc := 35) (i := 4) (L' := [(4, .int s0), (0, .ref (ea ε 0)), (1, .int v1), (2, .long v2)]) C dX8_takeApart_35 (by decide) rfl ?_
    refine g_iload_n (pc := 37) (i := 1) (j := 2) C dX8_takeApart_37 rfl rfl ?_
    refine g_bipush (pc := 38) C dX8_takeApart_38 cb_6 ?_
    refine g_icmp_ne (pc := 40) (tgt := 49) C dX8_takeApart_40 rfl hf (fun _ hf => ?_) (fun _ hf => ?_)
    · refine g_sipush (pc := 49) C dX8_takeApart_49 cs_2047 ?_
      exact g_at [1, 2, 3, 0] rfl (b52 v1 v2 s0 (2047 : Int32) μ hf)
    · refine g_sipush (pc := 43) C dX8_takeApart_43 cs_255 ?_
      refine g_goto (pc := 46) (tgt := 52) C dX8_takeApart_46 rfl ?_
      exact g_at [1, 2, 3, 0] rfl (b52 v1 v2 s0 (255 : Int32) μ hf)
  have b22 : ∀ (v1 : Int32) (v2 : Int64) (μ : Mm) , fX8_takeApart_b22 v1 v2 μ = some out → G κ (Vw κ ε layM μ) 11 22 [(0, .ref (ea ε 0)), (1, .int v1), (2, .long v2)] [] := by
    intro v1 v2 μ hf
    refine g_iload_n (pc := 22) (i := 1) (j := 1) C dX8_takeApart_22 rfl rfl ?_
    refine g_bipush (pc := 23) C dX8_takeApart_23 cb_6 ?_
    refine g_icmp_ne (pc := 25) (tgt := 33) C dX8_takeApart_25 rfl hf (fun _ hf => ?_) (fun _ hf => ?_)
    · refine g_bipush (pc := 33) C dX8_takeApart_33 cb_52 ?_
      exact b35 v1 v2 (52 : Int32) μ hf
    · refine g_bipush (pc := 28) C dX8_takeApart_28 cb_23 ?_
      refine g_goto (pc := 30) (tgt := 35) C dX8_takeApart_30 rfl ?_
      exact b35 v1 v2 (23 : Int32) μ hf
  refine g_aload_n (pc := 0) (i := 0) (j := 0) C dX8_takeApart_0 rfl rfl ?_
  refine g_lload_n (pc := 1) (i := 2) (j := 2) C dX8_takeApart_1 rfl rfl ?_
  refine g_putl (pc := 2) C E fdX8_102 layM_0_42 dX8_takeApart_2 ?_
  refine g_aload_n (pc := 5) (i := 0) (j := 0) C dX8_takeApart_5 rfl rfl ?_
  refine g_iconst (pc := 6) C dX8_takeApart_6 ci_0 ?_
  refine g_puti (pc := 7) C E fdX8_106 layM_0_43 dX8_takeApart_7 ?_
  refine g_iload_n (pc := 10) (i := 1) (j := 1) C dX8_takeApart_10 rfl rfl ?_
  refine g_bipush (pc := 11) C dX8_takeApart_11 cb_6 ?_
  refine g_icmp_eq (pc := 13) (tgt := 22) C dX8_takeApart_13 rfl hf (fun _ hf => ?_) (fun _ hf => ?_)
  · exact b22 p1 p2 (wI (wL μ 0 42 p2) 0 43 (0 : Int32)) hf
  · refine g_iload_n (pc := 16) (i := 1) (j := 1) C dX8_takeApart_16 rfl rfl ?_
    refine g_bipush (pc := 17) C dX8_takeApart_17 cb_7 ?_
    refine g_icmp_ne (pc := 19) (tgt := 182) C dX8_takeApart_19 rfl hf (fun _ hf => ?_) (fun _ hf => ?_)
    · exact g_at [0] rfl (b182 (wI (wL μ 0 42 p2) 0 43 (0 : Int32)) hf)
    · exact b22 p1 p2 (wI (wL μ 0 42 p2) 0 43 (0 : Int32)) hf
theorem dX8_widened_0 : decode cX8_widened 0 = .ok (.iload 4, 2) := by decide +kernel
theorem dX8_widened_2 : decode cX8_widened 2 = .ok (.bipush 6, 2) := by decide +kernel
theorem dX8_widened_4 : decode cX8_widened 4 = .ok (.if_icmp .lt 9, 3) := by decide +kernel
theorem dX8_widened_7 : decode cX8_widened 7 = .ok (.iload_n 1, 1) := by decide +kernel
theorem dX8_widened_8 : decode cX8_widened 8 = .ok (.iload 4, 2) := by decide +kernel
theorem dX8_widened_10 : decode cX8_widened 10 = .ok (.if_icmp .ne 5, 3) := by decide +kernel
theorem dX8_widened_13 : decode cX8_widened 13 = .ok (.lload_n 2, 1) := by decide +kernel
theorem dX8_widened_14 : decode cX8_widened 14 = .ok (.lreturn, 1) := by decide +kernel
theorem dX8_widened_15 : decode cX8_widened 15 = .ok (.aload_n 0, 1) := by decide +kernel
theorem dX8_widened_16 : decode cX8_widened 16 = .ok (.iload_n 1, 1) := by decide +kernel
theorem dX8_widened_17 : decode cX8_widened 17 = .ok (.lload_n 2, 1) := by decide +kernel
theorem dX8_widened_18 : decode cX8_widened 18 = .ok (.invokevirtual 132, 3) := by decide +kernel
theorem dX8_widened_21 : decode cX8_widened 21 = .ok (.iload 4, 2) := by decide +kernel
theorem dX8_widened_23 : decode cX8_widened 23 = .ok (.aload_n 0, 1) := by decide +kernel
theorem dX8_widened_24 : decode cX8_widened 24 = .ok (.getfield 102, 3) := by decide +kernel
theorem dX8_widened_27 : decode cX8_widened 27 = .ok (.aload_n 0, 1) := by decide +kernel
theorem dX8_widened_28 : decode cX8_widened 28 = .ok (.getfield 106, 3) := by decide +kernel
theorem dX8_widened_31 : decode cX8_widened 31 = .ok (.invokestatic 136, 3) := by decide +kernel
theorem dX8_widened_34 : decode cX8_widened 34 = .ok (.lreturn, 1) := by decide +kernel
def fX8_widened (p1 : Int32) (p2 : Int64) (p3 : Int32) (μ : Mm) : Option (Int64 × Mm) := (if p3 < (6 : Int32) then some (p2, μ) else (if p1 = p3 then some (p2, μ) else ((fX8_takeApart p1 p2 μ).bind fun μ18 => ((fX8_rounded p3 (μ18.2 0 42) (μ18.1 0 43)).bind fun r31 => some (r31, μ18)))))
set_option maxRecDepth 100000 in
set_option maxHeartbeats 4000000 in
theorem kX8_widened (l : Launch) (ε : Ev) (p1 : Int32) (p2 : Int64) (p3 : Int32) (μ : Mm) (out : (Int64 × Mm)) (hf : fX8_widened p1 p2 p3 μ = some out) : Sp l ε layM yX8_widened cX8_widened 5 (some .long) 2 [.ref (ea ε 0), .int p1, .long p2, .int p3] (some (.long out.1)) μ out.2 := by
  refine Sp.of [(0, .ref (ea ε 0)), (1, .int p1), (2, .long p2), (4, .int p3)] rfl (by decide +kernel) (Nat.le_of_ble_eq_true rfl) ?_
  intro κ hκ C E hQ
  subst hκ
  replace C : Cf κ cX8_widened 5 RX8 (some .long) 2 := C
  refine g_iload (pc := 0) (i := 4) (j := 3) C dX8_widened_0 rfl ?_
  refine g_bipush (pc := 2) C dX8_widened_2 cb_6 ?_
  refine g_icmp_lt (pc := 4) (tgt := 13) C dX8_widened_4 rfl hf (fun _ hf => ?_) (fun _ hf => ?_)
  · refine g_lload_n (pc := 13) (i := 2) (j := 2) C dX8_widened_13 rfl rfl ?_
    exact g_lretw (pc := 14) C hQ dX8_widened_14 hf
  · refine g_iload_n (pc := 7) (i := 1) (j := 1) C dX8_widened_7 rfl rfl ?_
    refine g_iload (pc := 8) (i := 4) (j := 3) C dX8_widened_8 rfl ?_
    refine g_icmp_ne (pc := 10) (tgt := 15) C dX8_widened_10 rfl hf (fun _ hf => ?_) (fun _ hf => ?_)
    · refine g_aload_n (pc := 15) (i := 0) (j := 0) C dX8_widened_15 rfl rfl ?_
      refine g_iload_n (pc := 16) (i := 1) (j := 1) C dX8_widened_16 rfl rfl ?_
      refine g_lload_n (pc := 17) (i := 2) (j := 2) C dX8_widened_17 rfl rfl ?_
      refine g_cwv (pc := 18) (st := []) C E layM_0 lkX8_132 (As := [.int p1, .long p2]) rfl (fun out h => kX8_takeApart (kl κ) ε p1 p2 μ out h) (by decide) rfl (Nat.le_of_ble_eq_true rfl) dX8_widened_18 hf (fun μ18 _ hf => ?_)
      refine g_iload (pc := 21) (i := 4) (j := 3) C dX8_widened_21 rfl ?_
      refine g_aload_n (pc := 23) (i := 0) (j := 0) C dX8_widened_23 rfl rfl ?_
      refine g_getl (pc := 24) C E fdX8_102 layM_0_42 dX8_widened_24 ?_
      refine g_aload_n (pc := 27) (i := 0) (j := 0) C dX8_widened_27 rfl rfl ?_
      refine g_geti (pc := 28) C E fdX8_106 layM_0_43 dX8_widened_28 ?_
      refine g_cpl (pc := 31) (st := []) C lkX8_136 (As := [.int p3, .long (μ18.2 0 42), .int (μ18.1 0 43)]) rfl (fun out h => kX8_rounded (kl κ) p3 (μ18.2 0 42) (μ18.1 0 43) out h) (by decide) rfl (Nat.le_of_ble_eq_true rfl) dX8_widened_31 hf (fun r31 _ hf => ?_)
      exact g_lretw (pc := 34) C hQ dX8_widened_34 hf
    · refine g_lload_n (pc := 13) (i := 2) (j := 2) C dX8_widened_13 rfl rfl ?_
      exact g_lretw (pc := 14) C hQ dX8_widened_14 hf
theorem dX8_areAlike_0 : decode cX8_areAlike 0 = .ok (.aload_n 0, 1) := by decide +kernel
theorem dX8_areAlike_1 : decode cX8_areAlike 1 = .ok (.getfield 25, 3) := by decide +kernel
theorem dX8_areAlike_4 : decode cX8_areAlike 4 = .ok (.iload_n 1, 1) := by decide +kernel
theorem dX8_areAlike_5 : decode cX8_areAlike 5 = .ok (.iaload, 1) := by decide +kernel
theorem dX8_areAlike_6 : decode cX8_areAlike 6 = .ok (.iconst 1, 1) := by decide +kernel
theorem dX8_areAlike_7 : decode cX8_areAlike 7 = .ok (.if_icmp .eq 13, 3) := by decide +kernel
theorem dX8_areAlike_10 : decode cX8_areAlike 10 = .ok (.aload_n 0, 1) := by decide +kernel
theorem dX8_areAlike_11 : decode cX8_areAlike 11 = .ok (.getfield 25, 3) := by decide +kernel
theorem dX8_areAlike_14 : decode cX8_areAlike 14 = .ok (.iload_n 1, 1) := by decide +kernel
theorem dX8_areAlike_15 : decode cX8_areAlike 15 = .ok (.iaload, 1) := by decide +kernel
theorem dX8_areAlike_16 : decode cX8_areAlike 16 = .ok (.iconst 2, 1) := by decide +kernel
theorem dX8_areAlike_17 : decode cX8_areAlike 17 = .ok (.if_icmp .ne 27, 3) := by decide +kernel
theorem dX8_areAlike_20 : decode cX8_areAlike 20 = .ok (.aload_n 0, 1) := by decide +kernel
theorem dX8_areAlike_21 : decode cX8_areAlike 21 = .ok (.getfield 25, 3) := by decide +kernel
theorem dX8_areAlike_24 : decode cX8_areAlike 24 = .ok (.iload_n 2, 1) := by decide +kernel
theorem dX8_areAlike_25 : decode cX8_areAlike 25 = .ok (.iaload, 1) := by decide +kernel
theorem dX8_areAlike_26 : decode cX8_areAlike 26 = .ok (.iconst 1, 1) := by decide +kernel
theorem dX8_areAlike_27 : decode cX8_areAlike 27 = .ok (.if_icmp .eq 13, 3) := by decide +kernel
theorem dX8_areAlike_30 : decode cX8_areAlike 30 = .ok (.aload_n 0, 1) := by decide +kernel
theorem dX8_areAlike_31 : decode cX8_areAlike 31 = .ok (.getfield 25, 3) := by decide +kernel
theorem dX8_areAlike_34 : decode cX8_areAlike 34 = .ok (.iload_n 2, 1) := by decide +kernel
theorem dX8_areAlike_35 : decode cX8_areAlike 35 = .ok (.iaload, 1) := by decide +kernel
theorem dX8_areAlike_36 : decode cX8_areAlike 36 = .ok (.iconst 2, 1) := by decide +kernel
theorem dX8_areAlike_37 : decode cX8_areAlike 37 = .ok (.if_icmp .ne 7, 3) := by decide +kernel
theorem dX8_areAlike_40 : decode cX8_areAlike 40 = .ok (.iconst 1, 1) := by decide +kernel
theorem dX8_areAlike_41 : decode cX8_areAlike 41 = .ok (.goto 4, 3) := by decide +kernel
theorem dX8_areAlike_44 : decode cX8_areAlike 44 = .ok (.iconst 0, 1) := by decide +kernel
theorem dX8_areAlike_45 : decode cX8_areAlike 45 = .ok (.istore_n 3, 1) := by decide +kernel
theorem dX8_areAlike_46 : decode cX8_areAlike 46 = .ok (.iload_n 3, 1) := by decide +kernel
theorem dX8_areAlike_47 : decode cX8_areAlike 47 = .ok (.ifCond .ne 49, 3) := by decide +kernel
theorem dX8_areAlike_50 : decode cX8_areAlike 50 = .ok (.aload_n 0, 1) := by decide +kernel
theorem dX8_areAlike_51 : decode cX8_areAlike 51 = .ok (.getfield 25, 3) := by decide +kernel
theorem dX8_areAlike_54 : decode cX8_areAlike 54 = .ok (.iload_n 1, 1) := by decide +kernel
theorem dX8_areAlike_55 : decode cX8_areAlike 55 = .ok (.iaload, 1) := by decide +kernel
theorem dX8_areAlike_56 : decode cX8_areAlike 56 = .ok (.aload_n 0, 1) := by decide +kernel
theorem dX8_areAlike_57 : decode cX8_areAlike 57 = .ok (.getfield 25, 3) := by decide +kernel
theorem dX8_areAlike_60 : decode cX8_areAlike 60 = .ok (.iload_n 2, 1) := by decide +kernel
theorem dX8_areAlike_61 : decode cX8_areAlike 61 = .ok (.iaload, 1) := by decide +kernel
theorem dX8_areAlike_62 : decode cX8_areAlike 62 = .ok (.if_icmp .ne 32, 3) := by decide +kernel
theorem dX8_areAlike_65 : decode cX8_areAlike 65 = .ok (.aload_n 0, 1) := by decide +kernel
theorem dX8_areAlike_66 : decode cX8_areAlike 66 = .ok (.getfield 25, 3) := by decide +kernel
theorem dX8_areAlike_69 : decode cX8_areAlike 69 = .ok (.iload_n 1, 1) := by decide +kernel
theorem dX8_areAlike_70 : decode cX8_areAlike 70 = .ok (.iaload, 1) := by decide +kernel
theorem dX8_areAlike_71 : decode cX8_areAlike 71 = .ok (.ifCond .eq 19, 3) := by decide +kernel
theorem dX8_areAlike_74 : decode cX8_areAlike 74 = .ok (.aload_n 0, 1) := by decide +kernel
theorem dX8_areAlike_75 : decode cX8_areAlike 75 = .ok (.getfield 31, 3) := by decide +kernel
theorem dX8_areAlike_78 : decode cX8_areAlike 78 = .ok (.iload_n 1, 1) := by decide +kernel
theorem dX8_areAlike_79 : decode cX8_areAlike 79 = .ok (.laload, 1) := by decide +kernel
theorem dX8_areAlike_80 : decode cX8_areAlike 80 = .ok (.aload_n 0, 1) := by decide +kernel
theorem dX8_areAlike_81 : decode cX8_areAlike 81 = .ok (.getfield 31, 3) := by decide +kernel
theorem dX8_areAlike_84 : decode cX8_areAlike 84 = .ok (.iload_n 2, 1) := by decide +kernel
theorem dX8_areAlike_85 : decode cX8_areAlike 85 = .ok (.laload, 1) := by decide +kernel
theorem dX8_areAlike_86 : decode cX8_areAlike 86 = .ok (.lcmp, 1) := by decide +kernel
theorem dX8_areAlike_87 : decode cX8_areAlike 87 = .ok (.ifCond .ne 7, 3) := by decide +kernel
theorem dX8_areAlike_90 : decode cX8_areAlike 90 = .ok (.iconst 1, 1) := by decide +kernel
theorem dX8_areAlike_91 : decode cX8_areAlike 91 = .ok (.goto 4, 3) := by decide +kernel
theorem dX8_areAlike_94 : decode cX8_areAlike 94 = .ok (.iconst 0, 1) := by decide +kernel
theorem dX8_areAlike_95 : decode cX8_areAlike 95 = .ok (.ireturn, 1) := by decide +kernel
theorem dX8_areAlike_96 : decode cX8_areAlike 96 = .ok (.aload_n 0, 1) := by decide +kernel
theorem dX8_areAlike_97 : decode cX8_areAlike 97 = .ok (.getfield 28, 3) := by decide +kernel
theorem dX8_areAlike_100 : decode cX8_areAlike 100 = .ok (.iload_n 1, 1) := by decide +kernel
theorem dX8_areAlike_101 : decode cX8_areAlike 101 = .ok (.iaload, 1) := by decide +kernel
theorem dX8_areAlike_102 : decode cX8_areAlike 102 = .ok (.aload_n 0, 1) := by decide +kernel
theorem dX8_areAlike_103 : decode cX8_areAlike 103 = .ok (.getfield 28, 3) := by decide +kernel
theorem dX8_areAlike_106 : decode cX8_areAlike 106 = .ok (.iload_n 2, 1) := by decide +kernel
theorem dX8_areAlike_107 : decode cX8_areAlike 107 = .ok (.iaload, 1) := by decide +kernel
theorem dX8_areAlike_108 : decode cX8_areAlike 108 = .ok (.invokestatic 386, 3) := by decide +kernel
theorem dX8_areAlike_111 : decode cX8_areAlike 111 = .ok (.istore 4, 2) := by decide +kernel
theorem dX8_areAlike_113 : decode cX8_areAlike 113 = .ok (.iload 4, 2) := by decide +kernel
theorem dX8_areAlike_115 : decode cX8_areAlike 115 = .ok (.bipush (-9), 2) := by decide +kernel
theorem dX8_areAlike_117 : decode cX8_areAlike 117 = .ok (.if_icmp .eq 47, 3) := by decide +kernel
theorem dX8_areAlike_120 : decode cX8_areAlike 120 = .ok (.aload_n 0, 1) := by decide +kernel
theorem dX8_areAlike_121 : decode cX8_areAlike 121 = .ok (.aload_n 0, 1) := by decide +kernel
theorem dX8_areAlike_122 : decode cX8_areAlike 122 = .ok (.getfield 28, 3) := by decide +kernel
theorem dX8_areAlike_125 : decode cX8_areAlike 125 = .ok (.iload_n 1, 1) := by decide +kernel
theorem dX8_areAlike_126 : decode cX8_areAlike 126 = .ok (.iaload, 1) := by decide +kernel
theorem dX8_areAlike_127 : decode cX8_areAlike 127 = .ok (.aload_n 0, 1) := by decide +kernel
theorem dX8_areAlike_128 : decode cX8_areAlike 128 = .ok (.getfield 31, 3) := by decide +kernel
theorem dX8_areAlike_131 : decode cX8_areAlike 131 = .ok (.iload_n 1, 1) := by decide +kernel
theorem dX8_areAlike_132 : decode cX8_areAlike 132 = .ok (.laload, 1) := by decide +kernel
theorem dX8_areAlike_133 : decode cX8_areAlike 133 = .ok (.iload 4, 2) := by decide +kernel
theorem dX8_areAlike_135 : decode cX8_areAlike 135 = .ok (.invokevirtual 332, 3) := by decide +kernel
theorem dX8_areAlike_138 : decode cX8_areAlike 138 = .ok (.aload_n 0, 1) := by decide +kernel
theorem dX8_areAlike_139 : decode cX8_areAlike 139 = .ok (.aload_n 0, 1) := by decide +kernel
theorem dX8_areAlike_140 : decode cX8_areAlike 140 = .ok (.getfield 28, 3) := by decide +kernel
theorem dX8_areAlike_143 : decode cX8_areAlike 143 = .ok (.iload_n 2, 1) := by decide +kernel
theorem dX8_areAlike_144 : decode cX8_areAlike 144 = .ok (.iaload, 1) := by decide +kernel
theorem dX8_areAlike_145 : decode cX8_areAlike 145 = .ok (.aload_n 0, 1) := by decide +kernel
theorem dX8_areAlike_146 : decode cX8_areAlike 146 = .ok (.getfield 31, 3) := by decide +kernel
theorem dX8_areAlike_149 : decode cX8_areAlike 149 = .ok (.iload_n 2, 1) := by decide +kernel
theorem dX8_areAlike_150 : decode cX8_areAlike 150 = .ok (.laload, 1) := by decide +kernel
theorem dX8_areAlike_151 : decode cX8_areAlike 151 = .ok (.iload 4, 2) := by decide +kernel
theorem dX8_areAlike_153 : decode cX8_areAlike 153 = .ok (.invokevirtual 332, 3) := by decide +kernel
theorem dX8_areAlike_156 : decode cX8_areAlike 156 = .ok (.lcmp, 1) := by decide +kernel
theorem dX8_areAlike_157 : decode cX8_areAlike 157 = .ok (.ifCond .ne 7, 3) := by decide +kernel
theorem dX8_areAlike_160 : decode cX8_areAlike 160 = .ok (.iconst 1, 1) := by decide +kernel
theorem dX8_areAlike_161 : decode cX8_areAlike 161 = .ok (.goto 4, 3) := by decide +kernel
theorem dX8_areAlike_164 : decode cX8_areAlike 164 = .ok (.iconst 0, 1) := by decide +kernel
theorem dX8_areAlike_165 : decode cX8_areAlike 165 = .ok (.ireturn, 1) := by decide +kernel
def fX8_areAlike_b45 (v1 : Int32) (v2 : Int32) (s0 : Int32) (μ : Mm) : Option (Int32 × Mm) := (if s0 = 0 then (if inb v1 66 = true then (if inb v2 66 = true then (if (μ.1 6 (Int32.toNatClampNeg v1)) = (μ.1 6 (Int32.toNatClampNeg v2)) then (if inb v1 66 = true then (if (μ.1 6 (Int32.toNatClampNeg v1)) = 0 then some ((1 : Int32), μ) else (if inb v1 66 = true then (if inb v2 66 = true then (if (μ.2 8 (Int32.toNatClampNeg v1)) = (μ.2 8 (Int32.toNatClampNeg v2)) then some ((1 : Int32), μ) else some ((0 : Int32), μ)) else none) else none)) else none) else some ((0 : Int32), μ)) else none) else none) else (if inb v1 66 = true then (if inb v2 66 = true then ((fX8_leastOf (μ.1 7 (Int32.toNatClampNeg v1)) (μ.1 7 (Int32.toNatClampNeg v2))).bind fun r108 => (if r108 = (-9 : Int32) then some ((0 : Int32), μ) else (if inb v1 66 = true then (if inb v1 66 = true then (bnd (fX8_widened (μ.1 7 (Int32.toNatClampNeg v1)) (μ.2 8 (Int32.toNatClampNeg v1)) r108 μ) fun r135 μ135 => (if inb v2 66 = true then (if inb v2 66 = true then (bnd (fX8_widened (μ135.1 7 (Int32.toNatClampNeg v2)) (μ135.2 8 (Int32.toNatClampNeg v2)) r108 μ135) fun r153 μ153 => (if r135 = r153 then some ((1 : Int32), μ153) else some ((0 : Int32), μ153))) else none) else none)) else none) else none))) else none) else none))
def fX8_areAlike_b40 (v1 : Int32) (v2 : Int32) (μ : Mm) : Option (Int32 × Mm) := fX8_areAlike_b45 v1 v2 (1 : Int32) μ
def fX8_areAlike_b44 (v1 : Int32) (v2 : Int32) (μ : Mm) : Option (Int32 × Mm) := fX8_areAlike_b45 v1 v2 (0 : Int32) μ
def fX8_areAlike_b20 (v1 : Int32) (v2 : Int32) (μ : Mm) : Option (Int32 × Mm) := (if inb v2 66 = true then (if (μ.1 6 (Int32.toNatClampNeg v2)) = (1 : Int32) then fX8_areAlike_b40 v1 v2 μ else (if inb v2 66 = true then (if (μ.1 6 (Int32.toNatClampNeg v2)) = (2 : Int32) then fX8_areAlike_b40 v1 v2 μ else fX8_areAlike_b44 v1 v2 μ) else none)) else none)
def fX8_areAlike (p1 : Int32) (p2 : Int32) (μ : Mm) : Option (Int32 × Mm) := (if inb p1 66 = true then (if (μ.1 6 (Int32.toNatClampNeg p1)) = (1 : Int32) then fX8_areAlike_b20 p1 p2 μ else (if inb p1 66 = true then (if (μ.1 6 (Int32.toNatClampNeg p1)) = (2 : Int32) then fX8_areAlike_b20 p1 p2 μ else fX8_areAlike_b44 p1 p2 μ) else none)) else none)
set_option maxRecDepth 100000 in
set_option maxHeartbeats 4000000 in
theorem kX8_areAlike (l : Launch) (ε : Ev) (p1 : Int32) (p2 : Int32) (μ : Mm) (out : (Int32 × Mm)) (hf : fX8_areAlike p1 p2 μ = some out) : Sp l ε layM yX8_areAlike cX8_areAlike 5 (some .boolean) 3 [.ref (ea ε 0), .int p1, .int p2] (some (.int out.1)) μ out.2 := by
  refine Sp.of [(0, .ref (ea ε 0)), (1, .int p1), (2, .int p2)] rfl (by decide +kernel) (Nat.le_of_ble_eq_true rfl) ?_
  intro κ hκ C E hQ
  subst hκ
  replace C : Cf κ cX8_areAlike 5 RX8 (some .boolean) 3 := C
  have b45 : ∀ (v1 : Int32) (v2 : Int32) (s0 : Int32) (μ : Mm) , fX8_areAlike_b45 v1 v2 s0 μ = some out → G κ (Vw κ ε layM μ) 5 45 [(0, .ref (ea ε 0)), (1, .int v1), (2, .int v2)] [.int s0] := by
    intro v1 v2 s0 μ hf
    refine g_istore_n (pc := 45) (i := 3) (L' := [(3, .int s0), (0, .ref (ea ε 0)), (1, .int v1), (2, .int v2)]) C dX8_areAlike_45 rfl (by decide) rfl ?_
    refine g_iload_n (pc := 46) (i := 3) (j := 0) C dX8_areAlike_46 rfl rfl ?_
    refine g_if_ne (pc := 47) (tgt := 96) C dX8_areAlike_47 rfl hf (fun _ hf => ?_) (fun _ hf => ?_)
    · refine g_aload_n (pc := 96) (i := 0) (j := 1) C dX8_areAlike_96 rfl rfl ?_
      refine g_getr (pc := 97) (j := 7) C E fdX8_28 layM_0_7 dX8_areAlike_97 ?_
      refine g_iload_n (pc := 100) (i := 1) (j := 2) C dX8_areAlike_100 rfl rfl ?_
      refine g_iald (pc := 101) C E layM_7 dX8_areAlike_101 hf (fun hf => ?_)
      refine g_aload_n (pc := 102) (i := 0) (j := 1) C dX8_areAlike_102 rfl rfl ?_
      refine g_getr (pc := 103) (j := 7) C E fdX8_28 layM_0_7 dX8_areAlike_103 ?_
      refine g_iload_n (pc := 106) (i := 2) (j := 3) C dX8_areAlike_106 rfl rfl ?_
      refine g_iald (pc := 107) C E layM_7 dX8_areAlike_107 hf (fun hf => ?_)
      refine g_cpi (pc := 108) (st := []) C lkX8_386 (As := [.int (μ.1 7 (Int32.toNatClampNeg v1)), .int (μ.1 7 (Int32.toNatClampNeg v2))]) rfl (fun out h => kX8_leastOf (kl κ) (μ.1 7 (Int32.toNatClampNeg v1)) (μ.1 7 (Int32.toNatClampNeg v2)) out h) (by decide) rfl (Nat.le_of_ble_eq_true rfl) dX8_areAlike_108 hf (fun r108 _ hf => ?_)
      refine g_istore (pc := 111) (i := 4) (L' := [(4, .int r108), (3, .int s0), (0, .ref (ea ε 0)), (1, .int v1), (2, .int v2)]) C dX8_areAlike_111 (by decide) rfl ?_
      refine g_iload (pc := 113) (i := 4) (j := 0) C dX8_areAlike_113 rfl ?_
      refine g_bipush (pc := 115) C dX8_areAlike_115 cb_m9 ?_
      refine g_icmp_eq (pc := 117) (tgt := 164) C dX8_areAlike_117 rfl hf (fun _ hf => ?_) (fun _ hf => ?_)
      · refine g_iconst (pc := 164) C dX8_areAlike_164 ci_0 ?_
        exact g_zret1w (pc := 165) C rfl hQ dX8_areAlike_165 hf
      · refine g_aload_n (pc := 120) (i := 0) (j := 2) C dX8_areAlike_120 rfl rfl ?_
        refine g_aload_n (pc := 121) (i := 0) (j := 2) C dX8_areAlike_121 rfl rfl ?_
        refine g_getr (pc := 122) (j := 7) C E fdX8_28 layM_0_7 dX8_areAlike_122 ?_
        refine g_iload_n (pc := 125) (i := 1) (j := 3) C dX8_areAlike_125 rfl rfl ?_
        refine g_iald (pc := 126) C E layM_7 dX8_areAlike_126 hf (fun hf => ?_)
        refine g_aload_n (pc := 127) (i := 0) (j := 2) C dX8_areAlike_127 rfl rfl ?_
        refine g_getr (pc := 128) (j := 8) C E fdX8_31 layM_0_8 dX8_areAlike_128 ?_
        refine g_iload_n (pc := 131) (i := 1) (j := 3) C dX8_areAlike_131 rfl rfl ?_
        refine g_lald (pc := 132) C E layM_8 dX8_areAlike_132 hf (fun hf => ?_)
        refine g_iload (pc := 133) (i := 4) (j := 0) C dX8_areAlike_133 rfl ?_
        refine g_cwl (pc := 135) (st := []) C E layM_0 lkX8_332 (As := [.int (μ.1 7 (Int32.toNatClampNeg v1)), .long (μ.2 8 (Int32.toNatClampNeg v1)), .int r108]) rfl (fun out h => kX8_widened (kl κ) ε (μ.1 7 (Int32.toNatClampNeg v1)) (μ.2 8 (Int32.toNatClampNeg v1)) r108 μ out h) (by decide) rfl (Nat.le_of_ble_eq_true rfl) dX8_areAlike_135 hf (fun r135 μ135 _ hf => ?_)
        refine g_aload_n (pc := 138) (i := 0) (j := 2) C dX8_areAlike_138 rfl rfl ?_
        refine g_aload_n (pc := 139) (i := 0) (j := 2) C dX8_areAlike_139 rfl rfl ?_
        refine g_getr (pc := 140) (j := 7) C E fdX8_28 layM_0_7 dX8_areAlike_140 ?_
        refine g_iload_n (pc := 143) (i := 2) (j := 4) C dX8_areAlike_143 rfl rfl ?_
        refine g_iald (pc := 144) C E layM_7 dX8_areAlike_144 hf (fun hf => ?_)
        refine g_aload_n (pc := 145) (i := 0) (j := 2) C dX8_areAlike_145 rfl rfl ?_
        refine g_getr (pc := 146) (j := 8) C E fdX8_31 layM_0_8 dX8_areAlike_146 ?_
        refine g_iload_n (pc := 149) (i := 2) (j := 4) C dX8_areAlike_149 rfl rfl ?_
        refine g_lald (pc := 150) C E layM_8 dX8_areAlike_150 hf (fun hf => ?_)
        refine g_iload (pc := 151) (i := 4) (j := 0) C dX8_areAlike_151 rfl ?_
        refine g_cwl (pc := 153) (st := [.long r135]) C E layM_0 lkX8_332 (As := [.int (μ135.1 7 (Int32.toNatClampNeg v2)), .long (μ135.2 8 (Int32.toNatClampNeg v2)), .int r108]) rfl (fun out h => kX8_widened (kl κ) ε (μ135.1 7 (Int32.toNatClampNeg v2)) (μ135.2 8 (Int32.toNatClampNeg v2)) r108 μ135 out h) (by decide) rfl (Nat.le_of_ble_eq_true rfl) dX8_areAlike_153 hf (fun r153 μ153 _ hf => ?_)
        refine g_lcmp_ne (pc := 156) (tgt := 164) C dX8_areAlike_156 dX8_areAlike_157 rfl hf (fun _ hf => ?_) (fun _ hf => ?_)
        · refine g_iconst (pc := 164) C dX8_areAlike_164 ci_0 ?_
          exact g_zret1w (pc := 165) C rfl hQ dX8_areAlike_165 hf
        · refine g_iconst (pc := 160) C dX8_areAlike_160 ci_1 ?_
          refine g_goto (pc := 161) (tgt := 165) C dX8_areAlike_161 rfl ?_
          exact g_zret1w (pc := 165) C rfl hQ dX8_areAlike_165 hf
    · refine g_aload_n (pc := 50) (i := 0) (j := 1) C dX8_areAlike_50 rfl rfl ?_
      refine g_getr (pc := 51) (j := 6) C E fdX8_25 layM_0_6 dX8_areAlike_51 ?_
      refine g_iload_n (pc := 54) (i := 1) (j := 2) C dX8_areAlike_54 rfl rfl ?_
      refine g_iald (pc := 55) C E layM_6 dX8_areAlike_55 hf (fun hf => ?_)
      refine g_aload_n (pc := 56) (i := 0) (j := 1) C dX8_areAlike_56 rfl rfl ?_
      refine g_getr (pc := 57) (j := 6) C E fdX8_25 layM_0_6 dX8_areAlike_57 ?_
      refine g_iload_n (pc := 60) (i := 2) (j := 3) C dX8_areAlike_60 rfl rfl ?_
      refine g_iald (pc := 61) C E layM_6 dX8_areAlike_61 hf (fun hf => ?_)
      refine g_icmp_ne (pc := 62) (tgt := 94) C dX8_areAlike_62 rfl hf (fun _ hf => ?_) (fun _ hf => ?_)
      · refine g_iconst (pc := 94) C dX8_areAlike_94 ci_0 ?_
        exact g_zret1w (pc := 95) C rfl hQ dX8_areAlike_95 hf
      · refine g_aload_n (pc := 65) (i := 0) (j := 1) C dX8_areAlike_65 rfl rfl ?_
        refine g_getr (pc := 66) (j := 6) C E fdX8_25 layM_0_6 dX8_areAlike_66 ?_
        refine g_iload_n (pc := 69) (i := 1) (j := 2) C dX8_areAlike_69 rfl rfl ?_
        refine g_iald (pc := 70) C E layM_6 dX8_areAlike_70 hf (fun hf => ?_)
        refine g_if_eq (pc := 71) (tgt := 90) C dX8_areAlike_71 rfl hf (fun _ hf => ?_) (fun _ hf => ?_)
        · refine g_iconst (pc := 90) C dX8_areAlike_90 ci_1 ?_
          refine g_goto (pc := 91) (tgt := 95) C dX8_areAlike_91 rfl ?_
          exact g_zret1w (pc := 95) C rfl hQ dX8_areAlike_95 hf
        · refine g_aload_n (pc := 74) (i := 0) (j := 1) C dX8_areAlike_74 rfl rfl ?_
          refine g_getr (pc := 75) (j := 8) C E fdX8_31 layM_0_8 dX8_areAlike_75 ?_
          refine g_iload_n (pc := 78) (i := 1) (j := 2) C dX8_areAlike_78 rfl rfl ?_
          refine g_lald (pc := 79) C E layM_8 dX8_areAlike_79 hf (fun hf => ?_)
          refine g_aload_n (pc := 80) (i := 0) (j := 1) C dX8_areAlike_80 rfl rfl ?_
          refine g_getr (pc := 81) (j := 8) C E fdX8_31 layM_0_8 dX8_areAlike_81 ?_
          refine g_iload_n (pc := 84) (i := 2) (j := 3) C dX8_areAlike_84 rfl rfl ?_
          refine g_lald (pc := 85) C E layM_8 dX8_areAlike_85 hf (fun hf => ?_)
          refine g_lcmp_ne (pc := 86) (tgt := 94) C dX8_areAlike_86 dX8_areAlike_87 rfl hf (fun _ hf => ?_) (fun _ hf => ?_)
          · refine g_iconst (pc := 94) C dX8_areAlike_94 ci_0 ?_
            exact g_zret1w (pc := 95) C rfl hQ dX8_areAlike_95 hf
          · refine g_iconst (pc := 90) C dX8_areAlike_90 ci_1 ?_
            refine g_goto (pc := 91) (tgt := 95) C dX8_areAlike_91 rfl ?_
            exact g_zret1w (pc := 95) C rfl hQ dX8_areAlike_95 hf
  have b40 : ∀ (v1 : Int32) (v2 : Int32) (μ : Mm) , fX8_areAlike_b40 v1 v2 μ = some out → G κ (Vw κ ε layM μ) 5 40 [(0, .ref (ea ε 0)), (1, .int v1), (2, .int v2)] [] := by
    intro v1 v2 μ hf
    refine g_iconst (pc := 40) C dX8_areAlike_40 ci_1 ?_
    refine g_goto (pc := 41) (tgt := 45) C dX8_areAlike_41 rfl ?_
    exact b45 v1 v2 (1 : Int32) μ hf
  have b44 : ∀ (v1 : Int32) (v2 : Int32) (μ : Mm) , fX8_areAlike_b44 v1 v2 μ = some out → G κ (Vw κ ε layM μ) 5 44 [(0, .ref (ea ε 0)), (1, .int v1), (2, .int v2)] [] := by
    intro v1 v2 μ hf
    refine g_iconst (pc := 44) C dX8_areAlike_44 ci_0 ?_
    exact b45 v1 v2 (0 : Int32) μ hf
  have b20 : ∀ (v1 : Int32) (v2 : Int32) (μ : Mm) , fX8_areAlike_b20 v1 v2 μ = some out → G κ (Vw κ ε layM μ) 5 20 [(0, .ref (ea ε 0)), (1, .int v1), (2, .int v2)] [] := by
    intro v1 v2 μ hf
    refine g_aload_n (pc := 20) (i := 0) (j := 0) C dX8_areAlike_20 rfl rfl ?_
    refine g_getr (pc := 21) (j := 6) C E fdX8_25 layM_0_6 dX8_areAlike_21 ?_
    refine g_iload_n (pc := 24) (i := 2) (j := 2) C dX8_areAlike_24 rfl rfl ?_
    refine g_iald (pc := 25) C E layM_6 dX8_areAlike_25 hf (fun hf => ?_)
    refine g_iconst (pc := 26) C dX8_areAlike_26 ci_1 ?_
    refine g_icmp_eq (pc := 27) (tgt := 40) C dX8_areAlike_27 rfl hf (fun _ hf => ?_) (fun _ hf => ?_)
    · exact b40 v1 v2 μ hf
    · refine g_aload_n (pc := 30) (i := 0) (j := 0) C dX8_areAlike_30 rfl rfl ?_
      refine g_getr (pc := 31) (j := 6) C E fdX8_25 layM_0_6 dX8_areAlike_31 ?_
      refine g_iload_n (pc := 34) (i := 2) (j := 2) C dX8_areAlike_34 rfl rfl ?_
      refine g_iald (pc := 35) C E layM_6 dX8_areAlike_35 hf (fun hf => ?_)
      refine g_iconst (pc := 36) C dX8_areAlike_36 ci_2 ?_
      refine g_icmp_ne (pc := 37) (tgt := 44) C dX8_areAlike_37 rfl hf (fun _ hf => ?_) (fun _ hf => ?_)
      · exact b44 v1 v2 μ hf
      · exact b40 v1 v2 μ hf
  refine g_aload_n (pc := 0) (i := 0) (j := 0) C dX8_areAlike_0 rfl rfl ?_
  refine g_getr (pc := 1) (j := 6) C E fdX8_25 layM_0_6 dX8_areAlike_1 ?_
  refine g_iload_n (pc := 4) (i := 1) (j := 1) C dX8_areAlike_4 rfl rfl ?_
  refine g_iald (pc := 5) C E layM_6 dX8_areAlike_5 hf (fun hf => ?_)
  refine g_iconst (pc := 6) C dX8_areAlike_6 ci_1 ?_
  refine g_icmp_eq (pc := 7) (tgt := 20) C dX8_areAlike_7 rfl hf (fun _ hf => ?_) (fun _ hf => ?_)
  · exact b20 p1 p2 μ hf
  · refine g_aload_n (pc := 10) (i := 0) (j := 0) C dX8_areAlike_10 rfl rfl ?_
    refine g_getr (pc := 11) (j := 6) C E fdX8_25 layM_0_6 dX8_areAlike_11 ?_
    refine g_iload_n (pc := 14) (i := 1) (j := 1) C dX8_areAlike_14 rfl rfl ?_
    refine g_iald (pc := 15) C E layM_6 dX8_areAlike_15 hf (fun hf => ?_)
    refine g_iconst (pc := 16) C dX8_areAlike_16 ci_2 ?_
    refine g_icmp_ne (pc := 17) (tgt := 44) C dX8_areAlike_17 rfl hf (fun _ hf => ?_) (fun _ hf => ?_)
    · exact b44 p1 p2 μ hf
    · exact b20 p1 p2 μ hf
theorem dX8_holdsRow_0 : decode cX8_holdsRow 0 = .ok (.aload_n 0, 1) := by decide +kernel
theorem dX8_holdsRow_1 : decode cX8_holdsRow 1 = .ok (.getfield 13, 3) := by decide +kernel
theorem dX8_holdsRow_4 : decode cX8_holdsRow 4 = .ok (.iload_n 1, 1) := by decide +kernel
theorem dX8_holdsRow_5 : decode cX8_holdsRow 5 = .ok (.iaload, 1) := by decide +kernel
theorem dX8_holdsRow_6 : decode cX8_holdsRow 6 = .ok (.bipush 13, 2) := by decide +kernel
theorem dX8_holdsRow_8 : decode cX8_holdsRow 8 = .ok (.if_icmp .ge 7, 3) := by decide +kernel
theorem dX8_holdsRow_11 : decode cX8_holdsRow 11 = .ok (.iconst 1, 1) := by decide +kernel
theorem dX8_holdsRow_12 : decode cX8_holdsRow 12 = .ok (.goto 4, 3) := by decide +kernel
theorem dX8_holdsRow_15 : decode cX8_holdsRow 15 = .ok (.iconst 0, 1) := by decide +kernel
theorem dX8_holdsRow_16 : decode cX8_holdsRow 16 = .ok (.ireturn, 1) := by decide +kernel
def fX8_holdsRow (p1 : Int32) (μ : Mm) : Option Int32 := (if inb p1 10 = true then (if (13 : Int32) ≤ (μ.1 2 (Int32.toNatClampNeg p1)) then some (0 : Int32) else some (1 : Int32)) else none)
set_option maxRecDepth 100000 in
set_option maxHeartbeats 4000000 in
theorem kX8_holdsRow (l : Launch) (ε : Ev) (p1 : Int32) (μ : Mm) (out : Int32) (hf : fX8_holdsRow p1 μ = some out) : Sp l ε layM yX8_holdsRow cX8_holdsRow 2 (some .boolean) 0 [.ref (ea ε 0), .int p1] (some (.int out)) μ μ := by
  refine Sp.of [(0, .ref (ea ε 0)), (1, .int p1)] rfl (by decide +kernel) (Nat.le_of_ble_eq_true rfl) ?_
  intro κ hκ C E hQ
  subst hκ
  replace C : Cf κ cX8_holdsRow 2 RX8 (some .boolean) 0 := C
  refine g_aload_n (pc := 0) (i := 0) (j := 0) C dX8_holdsRow_0 rfl rfl ?_
  refine g_getr (pc := 1) (j := 2) C E fdX8_13 layM_0_2 dX8_holdsRow_1 ?_
  refine g_iload_n (pc := 4) (i := 1) (j := 1) C dX8_holdsRow_4 rfl rfl ?_
  refine g_iald (pc := 5) C E layM_2 dX8_holdsRow_5 hf (fun hf => ?_)
  refine g_bipush (pc := 6) C dX8_holdsRow_6 cb_13 ?_
  refine g_icmp_ge (pc := 8) (tgt := 15) C dX8_holdsRow_8 rfl hf (fun _ hf => ?_) (fun _ hf => ?_)
  · refine g_iconst (pc := 15) C dX8_holdsRow_15 ci_0 ?_
    exact g_zret1r (pc := 16) C rfl hQ dX8_holdsRow_16 hf
  · refine g_iconst (pc := 11) C dX8_holdsRow_11 ci_1 ?_
    refine g_goto (pc := 12) (tgt := 16) C dX8_holdsRow_12 rfl ?_
    exact g_zret1r (pc := 16) C rfl hQ dX8_holdsRow_16 hf
theorem dX8_alike_0 : decode cX8_alike 0 = .ok (.iload_n 1, 1) := by decide +kernel
theorem dX8_alike_1 : decode cX8_alike 1 = .ok (.invokestatic 242, 3) := by decide +kernel
theorem dX8_alike_4 : decode cX8_alike 4 = .ok (.ifCond .eq 10, 3) := by decide +kernel
theorem dX8_alike_7 : decode cX8_alike 7 = .ok (.iload_n 2, 1) := by decide +kernel
theorem dX8_alike_8 : decode cX8_alike 8 = .ok (.invokestatic 242, 3) := by decide +kernel
theorem dX8_alike_11 : decode cX8_alike 11 = .ok (.ifCond .ne 5, 3) := by decide +kernel
theorem dX8_alike_14 : decode cX8_alike 14 = .ok (.iconst (-1), 1) := by decide +kernel
theorem dX8_alike_15 : decode cX8_alike 15 = .ok (.ireturn, 1) := by decide +kernel
theorem dX8_alike_16 : decode cX8_alike 16 = .ok (.aload_n 0, 1) := by decide +kernel
theorem dX8_alike_17 : decode cX8_alike 17 = .ok (.iload_n 1, 1) := by decide +kernel
theorem dX8_alike_18 : decode cX8_alike 18 = .ok (.invokevirtual 267, 3) := by decide +kernel
theorem dX8_alike_21 : decode cX8_alike 21 = .ok (.ifCond .eq 11, 3) := by decide +kernel
theorem dX8_alike_24 : decode cX8_alike 24 = .ok (.aload_n 0, 1) := by decide +kernel
theorem dX8_alike_25 : decode cX8_alike 25 = .ok (.iload_n 2, 1) := by decide +kernel
theorem dX8_alike_26 : decode cX8_alike 26 = .ok (.invokevirtual 267, 3) := by decide +kernel
theorem dX8_alike_29 : decode cX8_alike 29 = .ok (.ifCond .ne 6, 3) := by decide +kernel
theorem dX8_alike_32 : decode cX8_alike 32 = .ok (.bipush (-3), 2) := by decide +kernel
theorem dX8_alike_34 : decode cX8_alike 34 = .ok (.ireturn, 1) := by decide +kernel
theorem dX8_alike_35 : decode cX8_alike 35 = .ok (.aload_n 0, 1) := by decide +kernel
theorem dX8_alike_36 : decode cX8_alike 36 = .ok (.getfield 16, 3) := by decide +kernel
theorem dX8_alike_39 : decode cX8_alike 39 = .ok (.iload_n 1, 1) := by decide +kernel
theorem dX8_alike_40 : decode cX8_alike 40 = .ok (.iaload, 1) := by decide +kernel
theorem dX8_alike_41 : decode cX8_alike 41 = .ok (.istore_n 3, 1) := by decide +kernel
theorem dX8_alike_42 : decode cX8_alike 42 = .ok (.aload_n 0, 1) := by decide +kernel
theorem dX8_alike_43 : decode cX8_alike 43 = .ok (.getfield 16, 3) := by decide +kernel
theorem dX8_alike_46 : decode cX8_alike 46 = .ok (.iload_n 2, 1) := by decide +kernel
theorem dX8_alike_47 : decode cX8_alike 47 = .ok (.iaload, 1) := by decide +kernel
theorem dX8_alike_48 : decode cX8_alike 48 = .ok (.istore 4, 2) := by decide +kernel
theorem dX8_alike_50 : decode cX8_alike 50 = .ok (.aload_n 0, 1) := by decide +kernel
theorem dX8_alike_51 : decode cX8_alike 51 = .ok (.getfield 22, 3) := by decide +kernel
theorem dX8_alike_54 : decode cX8_alike 54 = .ok (.iload_n 3, 1) := by decide +kernel
theorem dX8_alike_55 : decode cX8_alike 55 = .ok (.iaload, 1) := by decide +kernel
theorem dX8_alike_56 : decode cX8_alike 56 = .ok (.aload_n 0, 1) := by decide +kernel
theorem dX8_alike_57 : decode cX8_alike 57 = .ok (.getfield 22, 3) := by decide +kernel
theorem dX8_alike_60 : decode cX8_alike 60 = .ok (.iload 4, 2) := by decide +kernel
theorem dX8_alike_62 : decode cX8_alike 62 = .ok (.iaload, 1) := by decide +kernel
theorem dX8_alike_63 : decode cX8_alike 63 = .ok (.if_icmp .ge 12, 3) := by decide +kernel
theorem dX8_alike_66 : decode cX8_alike 66 = .ok (.aload_n 0, 1) := by decide +kernel
theorem dX8_alike_67 : decode cX8_alike 67 = .ok (.getfield 22, 3) := by decide +kernel
theorem dX8_alike_70 : decode cX8_alike 70 = .ok (.iload_n 3, 1) := by decide +kernel
theorem dX8_alike_71 : decode cX8_alike 71 = .ok (.iaload, 1) := by decide +kernel
theorem dX8_alike_72 : decode cX8_alike 72 = .ok (.goto 10, 3) := by decide +kernel
theorem dX8_alike_75 : decode cX8_alike 75 = .ok (.aload_n 0, 1) := by decide +kernel
theorem dX8_alike_76 : decode cX8_alike 76 = .ok (.getfield 22, 3) := by decide +kernel
theorem dX8_alike_79 : decode cX8_alike 79 = .ok (.iload 4, 2) := by decide +kernel
theorem dX8_alike_81 : decode cX8_alike 81 = .ok (.iaload, 1) := by decide +kernel
theorem dX8_alike_82 : decode cX8_alike 82 = .ok (.istore 5, 2) := by decide +kernel
theorem dX8_alike_84 : decode cX8_alike 84 = .ok (.iconst 0, 1) := by decide +kernel
theorem dX8_alike_85 : decode cX8_alike 85 = .ok (.istore 6, 2) := by decide +kernel
theorem dX8_alike_87 : decode cX8_alike 87 = .ok (.iload 6, 2) := by decide +kernel
theorem dX8_alike_89 : decode cX8_alike 89 = .ok (.iload 5, 2) := by decide +kernel
theorem dX8_alike_91 : decode cX8_alike 91 = .ok (.if_icmp .ge 34, 3) := by decide +kernel
theorem dX8_alike_94 : decode cX8_alike 94 = .ok (.aload_n 0, 1) := by decide +kernel
theorem dX8_alike_95 : decode cX8_alike 95 = .ok (.bipush 6, 2) := by decide +kernel
theorem dX8_alike_97 : decode cX8_alike 97 = .ok (.iload_n 3, 1) := by decide +kernel
theorem dX8_alike_98 : decode cX8_alike 98 = .ok (.imul, 1) := by decide +kernel
theorem dX8_alike_99 : decode cX8_alike 99 = .ok (.iload 6, 2) := by decide +kernel
theorem dX8_alike_101 : decode cX8_alike 101 = .ok (.iadd, 1) := by decide +kernel
theorem dX8_alike_102 : decode cX8_alike 102 = .ok (.bipush 6, 2) := by decide +kernel
theorem dX8_alike_104 : decode cX8_alike 104 = .ok (.iload 4, 2) := by decide +kernel
theorem dX8_alike_106 : decode cX8_alike 106 = .ok (.imul, 1) := by decide +kernel
theorem dX8_alike_107 : decode cX8_alike 107 = .ok (.iload 6, 2) := by decide +kernel
theorem dX8_alike_109 : decode cX8_alike 109 = .ok (.iadd, 1) := by decide +kernel
theorem dX8_alike_110 : decode cX8_alike 110 = .ok (.invokevirtual 397, 3) := by decide +kernel
theorem dX8_alike_113 : decode cX8_alike 113 = .ok (.ifCond .ne 6, 3) := by decide +kernel
theorem dX8_alike_116 : decode cX8_alike 116 = .ok (.iload 6, 2) := by decide +kernel
theorem dX8_alike_118 : decode cX8_alike 118 = .ok (.ireturn, 1) := by decide +kernel
theorem dX8_alike_119 : decode cX8_alike 119 = .ok (.iinc 6 1, 3) := by decide +kernel
theorem dX8_alike_122 : decode cX8_alike 122 = .ok (.goto (-35), 3) := by decide +kernel
theorem dX8_alike_125 : decode cX8_alike 125 = .ok (.aload_n 0, 1) := by decide +kernel
theorem dX8_alike_126 : decode cX8_alike 126 = .ok (.getfield 22, 3) := by decide +kernel
theorem dX8_alike_129 : decode cX8_alike 129 = .ok (.iload_n 3, 1) := by decide +kernel
theorem dX8_alike_130 : decode cX8_alike 130 = .ok (.iaload, 1) := by decide +kernel
theorem dX8_alike_131 : decode cX8_alike 131 = .ok (.aload_n 0, 1) := by decide +kernel
theorem dX8_alike_132 : decode cX8_alike 132 = .ok (.getfield 22, 3) := by decide +kernel
theorem dX8_alike_135 : decode cX8_alike 135 = .ok (.iload 4, 2) := by decide +kernel
theorem dX8_alike_137 : decode cX8_alike 137 = .ok (.iaload, 1) := by decide +kernel
theorem dX8_alike_138 : decode cX8_alike 138 = .ok (.if_icmp .ne 8, 3) := by decide +kernel
theorem dX8_alike_141 : decode cX8_alike 141 = .ok (.bipush (-9), 2) := by decide +kernel
theorem dX8_alike_143 : decode cX8_alike 143 = .ok (.goto 5, 3) := by decide +kernel
theorem dX8_alike_146 : decode cX8_alike 146 = .ok (.iload 5, 2) := by decide +kernel
theorem dX8_alike_148 : decode cX8_alike 148 = .ok (.ireturn, 1) := by decide +kernel
def fX8_alike_b87 : Nat → Int32 → Int32 → Int32 → Int32 → Mm → Option (Int32 × Mm)
  | 0, _, _, _, _, _ => none
  | n + 1, v3, v4, v5, v6, μ => (if v5 ≤ v6 then (if inb v3 11 = true then (if inb v4 11 = true then (if (μ.1 5 (Int32.toNatClampNeg v3)) = (μ.1 5 (Int32.toNatClampNeg v4)) then some ((-9 : Int32), μ) else some (v5, μ)) else none) else none) else (bnd (fX8_areAlike (((6 : Int32) * v3) + v6) (((6 : Int32) * v4) + v6) μ) fun r110 μ110 => (if r110 = 0 then some (v6, μ110) else (fX8_alike_b87 n) v3 v4 v5 (v6 + (1 : Int32)) μ110)))
def fX8_alike_b82 (v3 : Int32) (v4 : Int32) (s0 : Int32) (μ : Mm) : Option (Int32 × Mm) := fX8_alike_b87 100 v3 v4 s0 (0 : Int32) μ
def fX8_alike (p1 : Int32) (p2 : Int32) (μ : Mm) : Option (Int32 × Mm) := ((fX8_isSlot p1).bind fun r1 => (if r1 = 0 then some ((-1 : Int32), μ) else ((fX8_isSlot p2).bind fun r8 => (if r8 = 0 then some ((-1 : Int32), μ) else ((fX8_holdsRow p1 μ).bind fun r18 => (if r18 = 0 then some ((-3 : Int32), μ) else ((fX8_holdsRow p2 μ).bind fun r26 => (if r26 = 0 then some ((-3 : Int32), μ) else (if inb p1 10 = true then (if inb p2 10 = true then (if inb (μ.1 3 (Int32.toNatClampNeg p1)) 11 = true then (if inb (μ.1 3 (Int32.toNatClampNeg p2)) 11 = true then (if (μ.1 5 (Int32.toNatClampNeg (μ.1 3 (Int32.toNatClampNeg p2)))) ≤ (μ.1 5 (Int32.toNatClampNeg (μ.1 3 (Int32.toNatClampNeg p1)))) then (if inb (μ.1 3 (Int32.toNatClampNeg p2)) 11 = true then fX8_alike_b82 (μ.1 3 (Int32.toNatClampNeg p1)) (μ.1 3 (Int32.toNatClampNeg p2)) (μ.1 5 (Int32.toNatClampNeg (μ.1 3 (Int32.toNatClampNeg p2)))) μ else none) else (if inb (μ.1 3 (Int32.toNatClampNeg p1)) 11 = true then fX8_alike_b82 (μ.1 3 (Int32.toNatClampNeg p1)) (μ.1 3 (Int32.toNatClampNeg p2)) (μ.1 5 (Int32.toNatClampNeg (μ.1 3 (Int32.toNatClampNeg p1)))) μ else none)) else none) else none) else none) else none)))))))))
set_option maxRecDepth 100000 in
set_option maxHeartbeats 4000000 in
theorem kX8_alike (l : Launch) (ε : Ev) (p1 : Int32) (p2 : Int32) (μ : Mm) (out : (Int32 × Mm)) (hf : fX8_alike p1 p2 μ = some out) : Sp l ε layM yX8_alike cX8_alike 7 (some .int) 4 [.ref (ea ε 0), .int p1, .int p2] (some (.int out.1)) μ out.2 := by
  refine Sp.of [(0, .ref (ea ε 0)), (1, .int p1), (2, .int p2)] rfl (by decide +kernel) (Nat.le_of_ble_eq_true rfl) ?_
  intro κ hκ C E hQ
  subst hκ
  replace C : Cf κ cX8_alike 7 RX8 (some .int) 4 := C
  have b87 : ∀ (n : Nat) (v3 : Int32) (v4 : Int32) (v5 : Int32) (v6 : Int32) (μ : Mm) , fX8_alike_b87 n v3 v4 v5 v6 μ = some out → G κ (Vw κ ε layM μ) 7 87 [(0, .ref (ea ε 0)), (3, .int v3), (4, .int v4), (5, .int v5), (6, .int v6)] [] := by
    intro n
    induction n with
    | zero => intro v3 v4 v5 v6 μ hf; exact none_ne hf
    | succ n ih =>
      intro v3 v4 v5 v6 μ hf
      refine g_iload (pc := 87) (i := 6) (j := 4) C dX8_alike_87 rfl ?_
      refine g_iload (pc := 89) (i := 5) (j := 3) C dX8_alike_89 rfl ?_
      refine g_icmp_ge (pc := 91) (tgt := 125) C dX8_alike_91 rfl hf (fun _ hf => ?_) (fun _ hf => ?_)
      · refine g_aload_n (pc := 125) (i := 0) (j := 0) C dX8_alike_125 rfl rfl ?_
        refine g_getr (pc := 126) (j := 5) C E fdX8_22 layM_0_5 dX8_alike_126 ?_
        refine g_iload_n (pc := 129) (i := 3) (j := 1) C dX8_alike_129 rfl rfl ?_
        refine g_iald (pc := 130) C E layM_5 dX8_alike_130 hf (fun hf => ?_)
        refine g_aload_n (pc := 131) (i := 0) (j := 0) C dX8_alike_131 rfl rfl ?_
        refine g_getr (pc := 132) (j := 5) C E fdX8_22 layM_0_5 dX8_alike_132 ?_
        refine g_iload (pc := 135) (i := 4) (j := 2) C dX8_alike_135 rfl ?_
        refine g_iald (pc := 137) C E layM_5 dX8_alike_137 hf (fun hf => ?_)
        refine g_icmp_ne (pc := 138) (tgt := 146) C dX8_alike_138 rfl hf (fun _ hf => ?_) (fun _ hf => ?_)
        · refine g_iload (pc := 146) (i := 5) (j := 3) C dX8_alike_146 rfl ?_
          exact g_iretw (pc := 148) C hQ dX8_alike_148 hf
        · refine g_bipush (pc := 141) C dX8_alike_141 cb_m9 ?_
          refine g_goto (pc := 143) (tgt := 148) C dX8_alike_143 rfl ?_
          exact g_iretw (pc := 148) C hQ dX8_alike_148 hf
      · refine g_aload_n (pc := 94) (i := 0) (j := 0) C dX8_alike_94 rfl rfl ?_
        refine g_bipush (pc := 95) C dX8_alike_95 cb_6 ?_
        refine g_iload_n (pc := 97) (i := 3) (j := 1) C dX8_alike_97 rfl rfl ?_
        refine g_imul (pc := 98) C dX8_alike_98 ?_
        refine g_iload (pc := 99) (i := 6) (j := 4) C dX8_alike_99 rfl ?_
        refine g_iadd (pc := 101) C dX8_alike_101 ?_
        refine g_bipush (pc := 102) C dX8_alike_102 cb_6 ?_
        refine g_iload (pc := 104) (i := 4) (j := 2) C dX8_alike_104 rfl ?_
        refine g_imul (pc := 106) C dX8_alike_106 ?_
        refine g_iload (pc := 107) (i := 6) (j := 4) C dX8_alike_107 rfl ?_
        refine g_iadd (pc := 109) C dX8_alike_109 ?_
        refine g_cwi (pc := 110) (st := []) C E layM_0 lkX8_397 (As := [.int (((6 : Int32) * v3) + v6), .int (((6 : Int32) * v4) + v6)]) rfl (fun out h => kX8_areAlike (kl κ) ε (((6 : Int32) * v3) + v6) (((6 : Int32) * v4) + v6) μ out h) (by decide) rfl (Nat.le_of_ble_eq_true rfl) dX8_alike_110 hf (fun r110 μ110 _ hf => ?_)
        refine g_if_ne (pc := 113) (tgt := 119) C dX8_alike_113 rfl hf (fun _ hf => ?_) (fun _ hf => ?_)
        · refine g_iinc (pc := 119) (i := 6) (j := 4) (v := (v6 + (1 : Int32))) (L' := [(6, .int (v6 + (1 : Int32))), (0, .ref (ea ε 0)), (3, .int v3), (4, .int v4), (5, .int v5)]) C dX8_alike_119 rfl (cx_1 _) (by decide) rfl ?_
          refine g_goto (pc := 122) (tgt := 87) C dX8_alike_122 rfl ?_
          exact g_at [1, 2, 3, 4, 0] rfl (ih v3 v4 v5 (v6 + (1 : Int32)) μ110 hf)
        · refine g_iload (pc := 116) (i := 6) (j := 4) C dX8_alike_116 rfl ?_
          exact g_iretw (pc := 118) C hQ dX8_alike_118 hf
  have b82 : ∀ (v3 : Int32) (v4 : Int32) (s0 : Int32) (μ : Mm) , fX8_alike_b82 v3 v4 s0 μ = some out → G κ (Vw κ ε layM μ) 7 82 [(0, .ref (ea ε 0)), (3, .int v3), (4, .int v4)] [.int s0] := by
    intro v3 v4 s0 μ hf
    refine g_istore (pc := 82) (i := 5) (L' := [(5, .int s0), (0, .ref (ea ε 0)), (3, .int v3), (4, .int v4)]) C dX8_alike_82 (by decide) rfl ?_
    refine g_iconst (pc := 84) C dX8_alike_84 ci_0 ?_
    refine g_istore (pc := 85) (i := 6) (L' := [(6, .int (0 : Int32)), (5, .int s0), (0, .ref (ea ε 0)), (3, .int v3), (4, .int v4)]) C dX8_alike_85 (by decide) rfl ?_
    exact g_at [2, 3, 4, 1, 0] rfl (b87 100 v3 v4 s0 (0 : Int32) μ hf)
  refine g_iload_n (pc := 0) (i := 1) (j := 1) C dX8_alike_0 rfl rfl ?_
  refine g_cpi (pc := 1) (st := []) C lkX8_242 (As := [.int p1]) rfl (fun out h => kX8_isSlot (kl κ) p1 out h) (by decide) rfl (Nat.le_of_ble_eq_true rfl) dX8_alike_1 hf (fun r1 _ hf => ?_)
  refine g_if_eq (pc := 4) (tgt := 14) C dX8_alike_4 rfl hf (fun _ hf => ?_) (fun _ hf => ?_)
  · refine g_iconst (pc := 14) C dX8_alike_14 ci_m1 ?_
    exact g_iretw (pc := 15) C hQ dX8_alike_15 hf
  · refine g_iload_n (pc := 7) (i := 2) (j := 2) C dX8_alike_7 rfl rfl ?_
    refine g_cpi (pc := 8) (st := []) C lkX8_242 (As := [.int p2]) rfl (fun out h => kX8_isSlot (kl κ) p2 out h) (by decide) rfl (Nat.le_of_ble_eq_true rfl) dX8_alike_8 hf (fun r8 _ hf => ?_)
    refine g_if_ne (pc := 11) (tgt := 16) C dX8_alike_11 rfl hf (fun _ hf => ?_) (fun _ hf => ?_)
    · refine g_aload_n (pc := 16) (i := 0) (j := 0) C dX8_alike_16 rfl rfl ?_
      refine g_iload_n (pc := 17) (i := 1) (j := 1) C dX8_alike_17 rfl rfl ?_
      refine g_cri (pc := 18) (st := []) C E layM_0 lkX8_267 (As := [.int p1]) rfl (fun out h => kX8_holdsRow (kl κ) ε p1 μ out h) (by decide) rfl (Nat.le_of_ble_eq_true rfl) dX8_alike_18 hf (fun r18 _ hf => ?_)
      refine g_if_eq (pc := 21) (tgt := 32) C dX8_alike_21 rfl hf (fun _ hf => ?_) (fun _ hf => ?_)
      · refine g_bipush (pc := 32) C dX8_alike_32 cb_m3 ?_
        exact g_iretw (pc := 34) C hQ dX8_alike_34 hf
      · refine g_aload_n (pc := 24) (i := 0) (j := 0) C dX8_alike_24 rfl rfl ?_
        refine g_iload_n (pc := 25) (i := 2) (j := 2) C dX8_alike_25 rfl rfl ?_
        refine g_cri (pc := 26) (st := []) C E layM_0 lkX8_267 (As := [.int p2]) rfl (fun out h => kX8_holdsRow (kl κ) ε p2 μ out h) (by decide) rfl (Nat.le_of_ble_eq_true rfl) dX8_alike_26 hf (fun r26 _ hf => ?_)
        refine g_if_ne (pc := 29) (tgt := 35) C dX8_alike_29 rfl hf (fun _ hf => ?_) (fun _ hf => ?_)
        · refine g_aload_n (pc := 35) (i := 0) (j := 0) C dX8_alike_35 rfl rfl ?_
          refine g_getr (pc := 36) (j := 3) C E fdX8_16 layM_0_3 dX8_alike_36 ?_
          refine g_iload_n (pc := 39) (i := 1) (j := 1) C dX8_alike_39 rfl rfl ?_
          refine g_iald (pc := 40) C E layM_3 dX8_alike_40 hf (fun hf => ?_)
          refine g_istore_n (pc := 41) (i := 3) (L' := [(3, .int (μ.1 3 (Int32.toNatClampNeg p1))), (0, .ref (ea ε 0)), (1, .int p1), (2, .int p2)]) C dX8_alike_41 rfl (by decide) rfl ?_
          refine g_aload_n (pc := 42) (i := 0) (j := 1) C dX8_alike_42 rfl rfl ?_
          refine g_getr (pc := 43) (j := 3) C E fdX8_16 layM_0_3 dX8_alike_43 ?_
          refine g_iload_n (pc := 46) (i := 2) (j := 3) C dX8_alike_46 rfl rfl ?_
          refine g_iald (pc := 47) C E layM_3 dX8_alike_47 hf (fun hf => ?_)
          refine g_istore (pc := 48) (i := 4) (L' := [(4, .int (μ.1 3 (Int32.toNatClampNeg p2))), (3, .int (μ.1 3 (Int32.toNatClampNeg p1))), (0, .ref (ea ε 0)), (1, .int p1), (2, .int p2)]) C dX8_alike_48 (by decide) rfl ?_
          refine g_aload_n (pc := 50) (i := 0) (j := 2) C dX8_alike_50 rfl rfl ?_
          refine g_getr (pc := 51) (j := 5) C E fdX8_22 layM_0_5 dX8_alike_51 ?_
          refine g_iload_n (pc := 54) (i := 3) (j := 1) C dX8_alike_54 rfl rfl ?_
          refine g_iald (pc := 55) C E layM_5 dX8_alike_55 hf (fun hf => ?_)
          refine g_aload_n (pc := 56) (i := 0) (j := 2) C dX8_alike_56 rfl rfl ?_
          refine g_getr (pc := 57) (j := 5) C E fdX8_22 layM_0_5 dX8_alike_57 ?_
          refine g_iload (pc := 60) (i := 4) (j := 0) C dX8_alike_60 rfl ?_
          refine g_iald (pc := 62) C E layM_5 dX8_alike_62 hf (fun hf => ?_)
          refine g_icmp_ge (pc := 63) (tgt := 75) C dX8_alike_63 rfl hf (fun _ hf => ?_) (fun _ hf => ?_)
          · refine g_aload_n (pc := 75) (i := 0) (j := 2) C dX8_alike_75 rfl rfl ?_
            refine g_getr (pc := 76) (j := 5) C E fdX8_22 layM_0_5 dX8_alike_76 ?_
            refine g_iload (pc := 79) (i := 4) (j := 0) C dX8_alike_79 rfl ?_
            refine g_iald (pc := 81) C E layM_5 dX8_alike_81 hf (fun hf => ?_)
            exact g_at [2, 1, 0] rfl (b82 (μ.1 3 (Int32.toNatClampNeg p1)) (μ.1 3 (Int32.toNatClampNeg p2)) (μ.1 5 (Int32.toNatClampNeg (μ.1 3 (Int32.toNatClampNeg p2)))) μ hf)
          · refine g_aload_n (pc := 66) (i := 0) (j := 2) C dX8_alike_66 rfl rfl ?_
            refine g_getr (pc := 67) (j := 5) C E fdX8_22 layM_0_5 dX8_alike_67 ?_
            refine g_iload_n (pc := 70) (i := 3) (j := 1) C dX8_alike_70 rfl rfl ?_
            refine g_iald (pc := 71) C E layM_5 dX8_alike_71 hf (fun hf => ?_)
            refine g_goto (pc := 72) (tgt := 82) C dX8_alike_72 rfl ?_
            exact g_at [2, 1, 0] rfl (b82 (μ.1 3 (Int32.toNatClampNeg p1)) (μ.1 3 (Int32.toNatClampNeg p2)) (μ.1 5 (Int32.toNatClampNeg (μ.1 3 (Int32.toNatClampNeg p1)))) μ hf)
        · refine g_bipush (pc := 32) C dX8_alike_32 cb_m3 ?_
          exact g_iretw (pc := 34) C hQ dX8_alike_34 hf
    · refine g_iconst (pc := 14) C dX8_alike_14 ci_m1 ?_
      exact g_iretw (pc := 15) C hQ dX8_alike_15 hf
theorem dX8_areSame_0 : decode cX8_areSame 0 = .ok (.aload_n 0, 1) := by decide +kernel
theorem dX8_areSame_1 : decode cX8_areSame 1 = .ok (.getfield 25, 3) := by decide +kernel
theorem dX8_areSame_4 : decode cX8_areSame 4 = .ok (.iload_n 1, 1) := by decide +kernel
theorem dX8_areSame_5 : decode cX8_areSame 5 = .ok (.iaload, 1) := by decide +kernel
theorem dX8_areSame_6 : decode cX8_areSame 6 = .ok (.aload_n 0, 1) := by decide +kernel
theorem dX8_areSame_7 : decode cX8_areSame 7 = .ok (.getfield 25, 3) := by decide +kernel
theorem dX8_areSame_10 : decode cX8_areSame 10 = .ok (.iload_n 2, 1) := by decide +kernel
theorem dX8_areSame_11 : decode cX8_areSame 11 = .ok (.iaload, 1) := by decide +kernel
theorem dX8_areSame_12 : decode cX8_areSame 12 = .ok (.if_icmp .eq 5, 3) := by decide +kernel
theorem dX8_areSame_15 : decode cX8_areSame 15 = .ok (.iconst 0, 1) := by decide +kernel
theorem dX8_areSame_16 : decode cX8_areSame 16 = .ok (.ireturn, 1) := by decide +kernel
theorem dX8_areSame_17 : decode cX8_areSame 17 = .ok (.aload_n 0, 1) := by decide +kernel
theorem dX8_areSame_18 : decode cX8_areSame 18 = .ok (.getfield 25, 3) := by decide +kernel
theorem dX8_areSame_21 : decode cX8_areSame 21 = .ok (.iload_n 1, 1) := by decide +kernel
theorem dX8_areSame_22 : decode cX8_areSame 22 = .ok (.iaload, 1) := by decide +kernel
theorem dX8_areSame_23 : decode cX8_areSame 23 = .ok (.ifCond .eq 44, 3) := by decide +kernel
theorem dX8_areSame_26 : decode cX8_areSame 26 = .ok (.aload_n 0, 1) := by decide +kernel
theorem dX8_areSame_27 : decode cX8_areSame 27 = .ok (.getfield 31, 3) := by decide +kernel
theorem dX8_areSame_30 : decode cX8_areSame 30 = .ok (.iload_n 1, 1) := by decide +kernel
theorem dX8_areSame_31 : decode cX8_areSame 31 = .ok (.laload, 1) := by decide +kernel
theorem dX8_areSame_32 : decode cX8_areSame 32 = .ok (.aload_n 0, 1) := by decide +kernel
theorem dX8_areSame_33 : decode cX8_areSame 33 = .ok (.getfield 31, 3) := by decide +kernel
theorem dX8_areSame_36 : decode cX8_areSame 36 = .ok (.iload_n 2, 1) := by decide +kernel
theorem dX8_areSame_37 : decode cX8_areSame 37 = .ok (.laload, 1) := by decide +kernel
theorem dX8_areSame_38 : decode cX8_areSame 38 = .ok (.lcmp, 1) := by decide +kernel
theorem dX8_areSame_39 : decode cX8_areSame 39 = .ok (.ifCond .ne 32, 3) := by decide +kernel
theorem dX8_areSame_42 : decode cX8_areSame 42 = .ok (.aload_n 0, 1) := by decide +kernel
theorem dX8_areSame_43 : decode cX8_areSame 43 = .ok (.getfield 25, 3) := by decide +kernel
theorem dX8_areSame_46 : decode cX8_areSame 46 = .ok (.iload_n 1, 1) := by decide +kernel
theorem dX8_areSame_47 : decode cX8_areSame 47 = .ok (.iaload, 1) := by decide +kernel
theorem dX8_areSame_48 : decode cX8_areSame 48 = .ok (.iconst 2, 1) := by decide +kernel
theorem dX8_areSame_49 : decode cX8_areSame 49 = .ok (.if_icmp .gt 18, 3) := by decide +kernel
theorem dX8_areSame_52 : decode cX8_areSame 52 = .ok (.aload_n 0, 1) := by decide +kernel
theorem dX8_areSame_53 : decode cX8_areSame 53 = .ok (.getfield 28, 3) := by decide +kernel
theorem dX8_areSame_56 : decode cX8_areSame 56 = .ok (.iload_n 1, 1) := by decide +kernel
theorem dX8_areSame_57 : decode cX8_areSame 57 = .ok (.iaload, 1) := by decide +kernel
theorem dX8_areSame_58 : decode cX8_areSame 58 = .ok (.aload_n 0, 1) := by decide +kernel
theorem dX8_areSame_59 : decode cX8_areSame 59 = .ok (.getfield 28, 3) := by decide +kernel
theorem dX8_areSame_62 : decode cX8_areSame 62 = .ok (.iload_n 2, 1) := by decide +kernel
theorem dX8_areSame_63 : decode cX8_areSame 63 = .ok (.iaload, 1) := by decide +kernel
theorem dX8_areSame_64 : decode cX8_areSame 64 = .ok (.if_icmp .ne 7, 3) := by decide +kernel
theorem dX8_areSame_67 : decode cX8_areSame 67 = .ok (.iconst 1, 1) := by decide +kernel
theorem dX8_areSame_68 : decode cX8_areSame 68 = .ok (.goto 4, 3) := by decide +kernel
theorem dX8_areSame_71 : decode cX8_areSame 71 = .ok (.iconst 0, 1) := by decide +kernel
theorem dX8_areSame_72 : decode cX8_areSame 72 = .ok (.ireturn, 1) := by decide +kernel
def fX8_areSame (p1 : Int32) (p2 : Int32) (μ : Mm) : Option Int32 := (if inb p1 66 = true then (if inb p2 66 = true then (if (μ.1 6 (Int32.toNatClampNeg p1)) = (μ.1 6 (Int32.toNatClampNeg p2)) then (if inb p1 66 = true then (if (μ.1 6 (Int32.toNatClampNeg p1)) = 0 then some (1 : Int32) else (if inb p1 66 = true then (if inb p2 66 = true then (if (μ.2 8 (Int32.toNatClampNeg p1)) = (μ.2 8 (Int32.toNatClampNeg p2)) then (if inb p1 66 = true then (if (2 : Int32) < (μ.1 6 (Int32.toNatClampNeg p1)) then some (1 : Int32) else (if inb p1 66 = true then (if inb p2 66 = true then (if (μ.1 7 (Int32.toNatClampNeg p1)) = (μ.1 7 (Int32.toNatClampNeg p2)) then some (1 : Int32) else some (0 : Int32)) else none) else none)) else none) else some (0 : Int32)) else none) else none)) else none) else some (0 : Int32)) else none) else none)
set_option maxRecDepth 100000 in
set_option maxHeartbeats 4000000 in
theorem kX8_areSame (l : Launch) (ε : Ev) (p1 : Int32) (p2 : Int32) (μ : Mm) (out : Int32) (hf : fX8_areSame p1 p2 μ = some out) : Sp l ε layM yX8_areSame cX8_areSame 3 (some .boolean) 0 [.ref (ea ε 0), .int p1, .int p2] (some (.int out)) μ μ := by
  refine Sp.of [(0, .ref (ea ε 0)), (1, .int p1), (2, .int p2)] rfl (by decide +kernel) (Nat.le_of_ble_eq_true rfl) ?_
  intro κ hκ C E hQ
  subst hκ
  replace C : Cf κ cX8_areSame 3 RX8 (some .boolean) 0 := C
  refine g_aload_n (pc := 0) (i := 0) (j := 0) C dX8_areSame_0 rfl rfl ?_
  refine g_getr (pc := 1) (j := 6) C E fdX8_25 layM_0_6 dX8_areSame_1 ?_
  refine g_iload_n (pc := 4) (i := 1) (j := 1) C dX8_areSame_4 rfl rfl ?_
  refine g_iald (pc := 5) C E layM_6 dX8_areSame_5 hf (fun hf => ?_)
  refine g_aload_n (pc := 6) (i := 0) (j := 0) C dX8_areSame_6 rfl rfl ?_
  refine g_getr (pc := 7) (j := 6) C E fdX8_25 layM_0_6 dX8_areSame_7 ?_
  refine g_iload_n (pc := 10) (i := 2) (j := 2) C dX8_areSame_10 rfl rfl ?_
  refine g_iald (pc := 11) C E layM_6 dX8_areSame_11 hf (fun hf => ?_)
  refine g_icmp_eq (pc := 12) (tgt := 17) C dX8_areSame_12 rfl hf (fun _ hf => ?_) (fun _ hf => ?_)
  · refine g_aload_n (pc := 17) (i := 0) (j := 0) C dX8_areSame_17 rfl rfl ?_
    refine g_getr (pc := 18) (j := 6) C E fdX8_25 layM_0_6 dX8_areSame_18 ?_
    refine g_iload_n (pc := 21) (i := 1) (j := 1) C dX8_areSame_21 rfl rfl ?_
    refine g_iald (pc := 22) C E layM_6 dX8_areSame_22 hf (fun hf => ?_)
    refine g_if_eq (pc := 23) (tgt := 67) C dX8_areSame_23 rfl hf (fun _ hf => ?_) (fun _ hf => ?_)
    · refine g_iconst (pc := 67) C dX8_areSame_67 ci_1 ?_
      refine g_goto (pc := 68) (tgt := 72) C dX8_areSame_68 rfl ?_
      exact g_zret1r (pc := 72) C rfl hQ dX8_areSame_72 hf
    · refine g_aload_n (pc := 26) (i := 0) (j := 0) C dX8_areSame_26 rfl rfl ?_
      refine g_getr (pc := 27) (j := 8) C E fdX8_31 layM_0_8 dX8_areSame_27 ?_
      refine g_iload_n (pc := 30) (i := 1) (j := 1) C dX8_areSame_30 rfl rfl ?_
      refine g_lald (pc := 31) C E layM_8 dX8_areSame_31 hf (fun hf => ?_)
      refine g_aload_n (pc := 32) (i := 0) (j := 0) C dX8_areSame_32 rfl rfl ?_
      refine g_getr (pc := 33) (j := 8) C E fdX8_31 layM_0_8 dX8_areSame_33 ?_
      refine g_iload_n (pc := 36) (i := 2) (j := 2) C dX8_areSame_36 rfl rfl ?_
      refine g_lald (pc := 37) C E layM_8 dX8_areSame_37 hf (fun hf => ?_)
      refine g_lcmp_ne (pc := 38) (tgt := 71) C dX8_areSame_38 dX8_areSame_39 rfl hf (fun _ hf => ?_) (fun _ hf => ?_)
      · refine g_iconst (pc := 71) C dX8_areSame_71 ci_0 ?_
        exact g_zret1r (pc := 72) C rfl hQ dX8_areSame_72 hf
      · refine g_aload_n (pc := 42) (i := 0) (j := 0) C dX8_areSame_42 rfl rfl ?_
        refine g_getr (pc := 43) (j := 6) C E fdX8_25 layM_0_6 dX8_areSame_43 ?_
        refine g_iload_n (pc := 46) (i := 1) (j := 1) C dX8_areSame_46 rfl rfl ?_
        refine g_iald (pc := 47) C E layM_6 dX8_areSame_47 hf (fun hf => ?_)
        refine g_iconst (pc := 48) C dX8_areSame_48 ci_2 ?_
        refine g_icmp_gt (pc := 49) (tgt := 67) C dX8_areSame_49 rfl hf (fun _ hf => ?_) (fun _ hf => ?_)
        · refine g_iconst (pc := 67) C dX8_areSame_67 ci_1 ?_
          refine g_goto (pc := 68) (tgt := 72) C dX8_areSame_68 rfl ?_
          exact g_zret1r (pc := 72) C rfl hQ dX8_areSame_72 hf
        · refine g_aload_n (pc := 52) (i := 0) (j := 0) C dX8_areSame_52 rfl rfl ?_
          refine g_getr (pc := 53) (j := 7) C E fdX8_28 layM_0_7 dX8_areSame_53 ?_
          refine g_iload_n (pc := 56) (i := 1) (j := 1) C dX8_areSame_56 rfl rfl ?_
          refine g_iald (pc := 57) C E layM_7 dX8_areSame_57 hf (fun hf => ?_)
          refine g_aload_n (pc := 58) (i := 0) (j := 0) C dX8_areSame_58 rfl rfl ?_
          refine g_getr (pc := 59) (j := 7) C E fdX8_28 layM_0_7 dX8_areSame_59 ?_
          refine g_iload_n (pc := 62) (i := 2) (j := 2) C dX8_areSame_62 rfl rfl ?_
          refine g_iald (pc := 63) C E layM_7 dX8_areSame_63 hf (fun hf => ?_)
          refine g_icmp_ne (pc := 64) (tgt := 71) C dX8_areSame_64 rfl hf (fun _ hf => ?_) (fun _ hf => ?_)
          · refine g_iconst (pc := 71) C dX8_areSame_71 ci_0 ?_
            exact g_zret1r (pc := 72) C rfl hQ dX8_areSame_72 hf
          · refine g_iconst (pc := 67) C dX8_areSame_67 ci_1 ?_
            refine g_goto (pc := 68) (tgt := 72) C dX8_areSame_68 rfl ?_
            exact g_zret1r (pc := 72) C rfl hQ dX8_areSame_72 hf
  · refine g_iconst (pc := 15) C dX8_areSame_15 ci_0 ?_
    exact g_zret1r (pc := 16) C rfl hQ dX8_areSame_16 hf
theorem dX8_asOne_0 : decode cX8_asOne 0 = .ok (.aload_n 0, 1) := by decide +kernel
theorem dX8_asOne_1 : decode cX8_asOne 1 = .ok (.iload_n 1, 1) := by decide +kernel
theorem dX8_asOne_2 : decode cX8_asOne 2 = .ok (.lload_n 2, 1) := by decide +kernel
theorem dX8_asOne_3 : decode cX8_asOne 3 = .ok (.invokevirtual 132, 3) := by decide +kernel
theorem dX8_asOne_6 : decode cX8_asOne 6 = .ok (.iload 4, 2) := by decide +kernel
theorem dX8_asOne_8 : decode cX8_asOne 8 = .ok (.bipush 6, 2) := by decide +kernel
theorem dX8_asOne_10 : decode cX8_asOne 10 = .ok (.if_icmp .lt 17, 3) := by decide +kernel
theorem dX8_asOne_13 : decode cX8_asOne 13 = .ok (.iload 4, 2) := by decide +kernel
theorem dX8_asOne_15 : decode cX8_asOne 15 = .ok (.aload_n 0, 1) := by decide +kernel
theorem dX8_asOne_16 : decode cX8_asOne 16 = .ok (.getfield 102, 3) := by decide +kernel
theorem dX8_asOne_19 : decode cX8_asOne 19 = .ok (.aload_n 0, 1) := by decide +kernel
theorem dX8_asOne_20 : decode cX8_asOne 20 = .ok (.getfield 106, 3) := by decide +kernel
theorem dX8_asOne_23 : decode cX8_asOne 23 = .ok (.invokestatic 136, 3) := by decide +kernel
theorem dX8_asOne_26 : decode cX8_asOne 26 = .ok (.lreturn, 1) := by decide +kernel
theorem dX8_asOne_27 : decode cX8_asOne 27 = .ok (.aload_n 0, 1) := by decide +kernel
theorem dX8_asOne_28 : decode cX8_asOne 28 = .ok (.getfield 102, 3) := by decide +kernel
theorem dX8_asOne_31 : decode cX8_asOne 31 = .ok (.lconst 0, 1) := by decide +kernel
theorem dX8_asOne_32 : decode cX8_asOne 32 = .ok (.lcmp, 1) := by decide +kernel
theorem dX8_asOne_33 : decode cX8_asOne 33 = .ok (.ifCond .ne 7, 3) := by decide +kernel
theorem dX8_asOne_36 : decode cX8_asOne 36 = .ok (.lconst 0, 1) := by decide +kernel
theorem dX8_asOne_37 : decode cX8_asOne 37 = .ok (.goto 12, 3) := by decide +kernel
theorem dX8_asOne_40 : decode cX8_asOne 40 = .ok (.aload_n 0, 1) := by decide +kernel
theorem dX8_asOne_41 : decode cX8_asOne 41 = .ok (.getfield 102, 3) := by decide +kernel
theorem dX8_asOne_44 : decode cX8_asOne 44 = .ok (.aload_n 0, 1) := by decide +kernel
theorem dX8_asOne_45 : decode cX8_asOne 45 = .ok (.getfield 106, 3) := by decide +kernel
theorem dX8_asOne_48 : decode cX8_asOne 48 = .ok (.lshl, 1) := by decide +kernel
theorem dX8_asOne_49 : decode cX8_asOne 49 = .ok (.lreturn, 1) := by decide +kernel
def fX8_asOne (p1 : Int32) (p2 : Int64) (p3 : Int32) (μ : Mm) : Option (Int64 × Mm) := ((fX8_takeApart p1 p2 μ).bind fun μ3 => (if p3 < (6 : Int32) then (if (μ3.2 0 42) = (0 : Int64) then some ((0 : Int64), μ3) else some ((jlshl (μ3.2 0 42) (μ3.1 0 43)), μ3)) else ((fX8_rounded p3 (μ3.2 0 42) (μ3.1 0 43)).bind fun r23 => some (r23, μ3))))
set_option maxRecDepth 100000 in
set_option maxHeartbeats 4000000 in
theorem kX8_asOne (l : Launch) (ε : Ev) (p1 : Int32) (p2 : Int64) (p3 : Int32) (μ : Mm) (out : (Int64 × Mm)) (hf : fX8_asOne p1 p2 p3 μ = some out) : Sp l ε layM yX8_asOne cX8_asOne 5 (some .long) 2 [.ref (ea ε 0), .int p1, .long p2, .int p3] (some (.long out.1)) μ out.2 := by
  refine Sp.of [(0, .ref (ea ε 0)), (1, .int p1), (2, .long p2), (4, .int p3)] rfl (by decide +kernel) (Nat.le_of_ble_eq_true rfl) ?_
  intro κ hκ C E hQ
  subst hκ
  replace C : Cf κ cX8_asOne 5 RX8 (some .long) 2 := C
  refine g_aload_n (pc := 0) (i := 0) (j := 0) C dX8_asOne_0 rfl rfl ?_
  refine g_iload_n (pc := 1) (i := 1) (j := 1) C dX8_asOne_1 rfl rfl ?_
  refine g_lload_n (pc := 2) (i := 2) (j := 2) C dX8_asOne_2 rfl rfl ?_
  refine g_cwv (pc := 3) (st := []) C E layM_0 lkX8_132 (As := [.int p1, .long p2]) rfl (fun out h => kX8_takeApart (kl κ) ε p1 p2 μ out h) (by decide) rfl (Nat.le_of_ble_eq_true rfl) dX8_asOne_3 hf (fun μ3 _ hf => ?_)
  refine g_iload (pc := 6) (i := 4) (j := 3) C dX8_asOne_6 rfl ?_
  refine g_bipush (pc := 8) C dX8_asOne_8 cb_6 ?_
  refine g_icmp_lt (pc := 10) (tgt := 27) C dX8_asOne_10 rfl hf (fun _ hf => ?_) (fun _ hf => ?_)
  · refine g_aload_n (pc := 27) (i := 0) (j := 0) C dX8_asOne_27 rfl rfl ?_
    refine g_getl (pc := 28) C E fdX8_102 layM_0_42 dX8_asOne_28 ?_
    refine g_lconst (pc := 31) C dX8_asOne_31 cl_0 ?_
    refine g_lcmp_ne (pc := 32) (tgt := 40) C dX8_asOne_32 dX8_asOne_33 rfl hf (fun _ hf => ?_) (fun _ hf => ?_)
    · refine g_aload_n (pc := 40) (i := 0) (j := 0) C dX8_asOne_40 rfl rfl ?_
      refine g_getl (pc := 41) C E fdX8_102 layM_0_42 dX8_asOne_41 ?_
      refine g_aload_n (pc := 44) (i := 0) (j := 0) C dX8_asOne_44 rfl rfl ?_
      refine g_geti (pc := 45) C E fdX8_106 layM_0_43 dX8_asOne_45 ?_
      refine g_lshl (pc := 48) C dX8_asOne_48 ?_
      exact g_lretw (pc := 49) C hQ dX8_asOne_49 hf
    · refine g_lconst (pc := 36) C dX8_asOne_36 cl_0 ?_
      refine g_goto (pc := 37) (tgt := 49) C dX8_asOne_37 rfl ?_
      exact g_lretw (pc := 49) C hQ dX8_asOne_49 hf
  · refine g_iload (pc := 13) (i := 4) (j := 3) C dX8_asOne_13 rfl ?_
    refine g_aload_n (pc := 15) (i := 0) (j := 0) C dX8_asOne_15 rfl rfl ?_
    refine g_getl (pc := 16) C E fdX8_102 layM_0_42 dX8_asOne_16 ?_
    refine g_aload_n (pc := 19) (i := 0) (j := 0) C dX8_asOne_19 rfl rfl ?_
    refine g_geti (pc := 20) C E fdX8_106 layM_0_43 dX8_asOne_20 ?_
    refine g_cpl (pc := 23) (st := []) C lkX8_136 (As := [.int p3, .long (μ3.2 0 42), .int (μ3.1 0 43)]) rfl (fun out h => kX8_rounded (kl κ) p3 (μ3.2 0 42) (μ3.1 0 43) out h) (by decide) rfl (Nat.le_of_ble_eq_true rfl) dX8_asOne_23 hf (fun r23 _ hf => ?_)
    exact g_lretw (pc := 26) C hQ dX8_asOne_26 hf
theorem dX8_bring_0 : decode cX8_bring 0 = .ok (.iload_n 1, 1) := by decide +kernel
theorem dX8_bring_1 : decode cX8_bring 1 = .ok (.invokestatic 198, 3) := by decide +kernel
theorem dX8_bring_4 : decode cX8_bring 4 = .ok (.ifCond .eq 36, 3) := by decide +kernel
theorem dX8_bring_7 : decode cX8_bring 7 = .ok (.iload_n 2, 1) := by decide +kernel
theorem dX8_bring_8 : decode cX8_bring 8 = .ok (.ifCond .ne 8, 3) := by decide +kernel
theorem dX8_bring_11 : decode cX8_bring 11 = .ok (.bipush 7, 2) := by decide +kernel
theorem dX8_bring_13 : decode cX8_bring 13 = .ok (.goto 26, 3) := by decide +kernel
theorem dX8_bring_16 : decode cX8_bring 16 = .ok (.iload_n 2, 1) := by decide +kernel
theorem dX8_bring_17 : decode cX8_bring 17 = .ok (.iconst 1, 1) := by decide +kernel
theorem dX8_bring_18 : decode cX8_bring 18 = .ok (.if_icmp .eq 8, 3) := by decide +kernel
theorem dX8_bring_21 : decode cX8_bring 21 = .ok (.iload_n 2, 1) := by decide +kernel
theorem dX8_bring_22 : decode cX8_bring 22 = .ok (.iconst 2, 1) := by decide +kernel
theorem dX8_bring_23 : decode cX8_bring 23 = .ok (.if_icmp .ne 15, 3) := by decide +kernel
theorem dX8_bring_26 : decode cX8_bring 26 = .ok (.iload_n 3, 1) := by decide +kernel
theorem dX8_bring_27 : decode cX8_bring 27 = .ok (.iload_n 1, 1) := by decide +kernel
theorem dX8_bring_28 : decode cX8_bring 28 = .ok (.invokestatic 313, 3) := by decide +kernel
theorem dX8_bring_31 : decode cX8_bring 31 = .ok (.ifCond .eq 7, 3) := by decide +kernel
theorem dX8_bring_34 : decode cX8_bring 34 = .ok (.iconst 0, 1) := by decide +kernel
theorem dX8_bring_35 : decode cX8_bring 35 = .ok (.goto 4, 3) := by decide +kernel
theorem dX8_bring_38 : decode cX8_bring 38 = .ok (.iconst 2, 1) := by decide +kernel
theorem dX8_bring_39 : decode cX8_bring 39 = .ok (.ireturn, 1) := by decide +kernel
theorem dX8_bring_40 : decode cX8_bring 40 = .ok (.iload_n 2, 1) := by decide +kernel
theorem dX8_bring_41 : decode cX8_bring 41 = .ok (.ifCond .eq 9, 3) := by decide +kernel
theorem dX8_bring_44 : decode cX8_bring 44 = .ok (.iload_n 1, 1) := by decide +kernel
theorem dX8_bring_45 : decode cX8_bring 45 = .ok (.bipush 12, 2) := by decide +kernel
theorem dX8_bring_47 : decode cX8_bring 47 = .ok (.if_icmp .ne 7, 3) := by decide +kernel
theorem dX8_bring_50 : decode cX8_bring 50 = .ok (.iconst 1, 1) := by decide +kernel
theorem dX8_bring_51 : decode cX8_bring 51 = .ok (.goto 4, 3) := by decide +kernel
theorem dX8_bring_54 : decode cX8_bring 54 = .ok (.iconst 0, 1) := by decide +kernel
theorem dX8_bring_55 : decode cX8_bring 55 = .ok (.istore 6, 2) := by decide +kernel
theorem dX8_bring_57 : decode cX8_bring 57 = .ok (.iload 6, 2) := by decide +kernel
theorem dX8_bring_59 : decode cX8_bring 59 = .ok (.ifCond .ne 19, 3) := by decide +kernel
theorem dX8_bring_62 : decode cX8_bring 62 = .ok (.iload_n 2, 1) := by decide +kernel
theorem dX8_bring_63 : decode cX8_bring 63 = .ok (.iconst 2, 1) := by decide +kernel
theorem dX8_bring_64 : decode cX8_bring 64 = .ok (.if_icmp .ne 18, 3) := by decide +kernel
theorem dX8_bring_67 : decode cX8_bring 67 = .ok (.iload_n 1, 1) := by decide +kernel
theorem dX8_bring_68 : decode cX8_bring 68 = .ok (.bipush 11, 2) := by decide +kernel
theorem dX8_bring_70 : decode cX8_bring 70 = .ok (.if_icmp .ne 12, 3) := by decide +kernel
theorem dX8_bring_73 : decode cX8_bring 73 = .ok (.iload_n 3, 1) := by decide +kernel
theorem dX8_bring_74 : decode cX8_bring 74 = .ok (.iconst 4, 1) := by decide +kernel
theorem dX8_bring_75 : decode cX8_bring 75 = .ok (.if_icmp .ne 7, 3) := by decide +kernel
theorem dX8_bring_78 : decode cX8_bring 78 = .ok (.iconst 1, 1) := by decide +kernel
theorem dX8_bring_79 : decode cX8_bring 79 = .ok (.goto 4, 3) := by decide +kernel
theorem dX8_bring_82 : decode cX8_bring 82 = .ok (.iconst 0, 1) := by decide +kernel
theorem dX8_bring_83 : decode cX8_bring 83 = .ok (.istore 6, 2) := by decide +kernel
theorem dX8_bring_85 : decode cX8_bring 85 = .ok (.iload 6, 2) := by decide +kernel
theorem dX8_bring_87 : decode cX8_bring 87 = .ok (.ifCond .ne 14, 3) := by decide +kernel
theorem dX8_bring_90 : decode cX8_bring 90 = .ok (.iload_n 2, 1) := by decide +kernel
theorem dX8_bring_91 : decode cX8_bring 91 = .ok (.iconst 4, 1) := by decide +kernel
theorem dX8_bring_92 : decode cX8_bring 92 = .ok (.if_icmp .ne 13, 3) := by decide +kernel
theorem dX8_bring_95 : decode cX8_bring 95 = .ok (.iload_n 1, 1) := by decide +kernel
theorem dX8_bring_96 : decode cX8_bring 96 = .ok (.bipush 10, 2) := by decide +kernel
theorem dX8_bring_98 : decode cX8_bring 98 = .ok (.if_icmp .ne 7, 3) := by decide +kernel
theorem dX8_bring_101 : decode cX8_bring 101 = .ok (.iconst 1, 1) := by decide +kernel
theorem dX8_bring_102 : decode cX8_bring 102 = .ok (.goto 4, 3) := by decide +kernel
theorem dX8_bring_105 : decode cX8_bring 105 = .ok (.iconst 0, 1) := by decide +kernel
theorem dX8_bring_106 : decode cX8_bring 106 = .ok (.istore 6, 2) := by decide +kernel
theorem dX8_bring_108 : decode cX8_bring 108 = .ok (.iload 6, 2) := by decide +kernel
theorem dX8_bring_110 : decode cX8_bring 110 = .ok (.ifCond .ne 31, 3) := by decide +kernel
theorem dX8_bring_113 : decode cX8_bring 113 = .ok (.iload_n 2, 1) := by decide +kernel
theorem dX8_bring_114 : decode cX8_bring 114 = .ok (.iconst 3, 1) := by decide +kernel
theorem dX8_bring_115 : decode cX8_bring 115 = .ok (.if_icmp .ne 30, 3) := by decide +kernel
theorem dX8_bring_118 : decode cX8_bring 118 = .ok (.iload_n 1, 1) := by decide +kernel
theorem dX8_bring_119 : decode cX8_bring 119 = .ok (.bipush 8, 2) := by decide +kernel
theorem dX8_bring_121 : decode cX8_bring 121 = .ok (.if_icmp .eq 20, 3) := by decide +kernel
theorem dX8_bring_124 : decode cX8_bring 124 = .ok (.iload_n 1, 1) := by decide +kernel
theorem dX8_bring_125 : decode cX8_bring 125 = .ok (.bipush 9, 2) := by decide +kernel
theorem dX8_bring_127 : decode cX8_bring 127 = .ok (.if_icmp .ne 18, 3) := by decide +kernel
theorem dX8_bring_130 : decode cX8_bring 130 = .ok (.aload_n 0, 1) := by decide +kernel
theorem dX8_bring_131 : decode cX8_bring 131 = .ok (.getfield 38, 3) := by decide +kernel
theorem dX8_bring_134 : decode cX8_bring 134 = .ok (.lload 4, 2) := by decide +kernel
theorem dX8_bring_136 : decode cX8_bring 136 = .ok (.l2i, 1) := by decide +kernel
theorem dX8_bring_137 : decode cX8_bring 137 = .ok (.baload, 1) := by decide +kernel
theorem dX8_bring_138 : decode cX8_bring 138 = .ok (.ifCond .eq 7, 3) := by decide +kernel
theorem dX8_bring_141 : decode cX8_bring 141 = .ok (.iconst 1, 1) := by decide +kernel
theorem dX8_bring_142 : decode cX8_bring 142 = .ok (.goto 4, 3) := by decide +kernel
theorem dX8_bring_145 : decode cX8_bring 145 = .ok (.iconst 0, 1) := by decide +kernel
theorem dX8_bring_146 : decode cX8_bring 146 = .ok (.istore 6, 2) := by decide +kernel
theorem dX8_bring_148 : decode cX8_bring 148 = .ok (.iload_n 2, 1) := by decide +kernel
theorem dX8_bring_149 : decode cX8_bring 149 = .ok (.iconst 1, 1) := by decide +kernel
theorem dX8_bring_150 : decode cX8_bring 150 = .ok (.if_icmp .ne 7, 3) := by decide +kernel
theorem dX8_bring_153 : decode cX8_bring 153 = .ok (.iconst 4, 1) := by decide +kernel
theorem dX8_bring_154 : decode cX8_bring 154 = .ok (.goto 13, 3) := by decide +kernel
theorem dX8_bring_157 : decode cX8_bring 157 = .ok (.iload 6, 2) := by decide +kernel
theorem dX8_bring_159 : decode cX8_bring 159 = .ok (.ifCond .eq 7, 3) := by decide +kernel
theorem dX8_bring_162 : decode cX8_bring 162 = .ok (.iconst 0, 1) := by decide +kernel
theorem dX8_bring_163 : decode cX8_bring 163 = .ok (.goto 4, 3) := by decide +kernel
theorem dX8_bring_166 : decode cX8_bring 166 = .ok (.iconst 2, 1) := by decide +kernel
theorem dX8_bring_167 : decode cX8_bring 167 = .ok (.ireturn, 1) := by decide +kernel
def fX8_bring_b146 (μ : Mm) (v2 : Int32) (s0 : Int32) : Option Int32 := (if v2 = (1 : Int32) then some (4 : Int32) else (if s0 = 0 then some (2 : Int32) else some (0 : Int32)))
def fX8_bring_b141 (μ : Mm) (v2 : Int32) : Option Int32 := fX8_bring_b146 μ v2 (1 : Int32)
def fX8_bring_b145 (μ : Mm) (v2 : Int32) : Option Int32 := fX8_bring_b146 μ v2 (0 : Int32)
def fX8_bring_b106 (μ : Mm) (v1 : Int32) (v2 : Int32) (v4 : Int64) (s0 : Int32) : Option Int32 := (if s0 = 0 then (if v2 = (3 : Int32) then (if v1 = (8 : Int32) then fX8_bring_b141 μ v2 else (if v1 = (9 : Int32) then (if inb (Int64.toInt32 v4) 20 = true then (if (μ.1 10 (Int32.toNatClampNeg (Int64.toInt32 v4))) = 0 then fX8_bring_b145 μ v2 else fX8_bring_b141 μ v2) else none) else fX8_bring_b145 μ v2)) else fX8_bring_b145 μ v2) else fX8_bring_b141 μ v2)
def fX8_bring_b101 (μ : Mm) (v1 : Int32) (v2 : Int32) (v4 : Int64) : Option Int32 := fX8_bring_b106 μ v1 v2 v4 (1 : Int32)
def fX8_bring_b105 (μ : Mm) (v1 : Int32) (v2 : Int32) (v4 : Int64) : Option Int32 := fX8_bring_b106 μ v1 v2 v4 (0 : Int32)
def fX8_bring_b83 (μ : Mm) (v1 : Int32) (v2 : Int32) (v4 : Int64) (s0 : Int32) : Option Int32 := (if s0 = 0 then (if v2 = (4 : Int32) then (if v1 = (10 : Int32) then fX8_bring_b101 μ v1 v2 v4 else fX8_bring_b105 μ v1 v2 v4) else fX8_bring_b105 μ v1 v2 v4) else fX8_bring_b101 μ v1 v2 v4)
def fX8_bring_b78 (μ : Mm) (v1 : Int32) (v2 : Int32) (v4 : Int64) : Option Int32 := fX8_bring_b83 μ v1 v2 v4 (1 : Int32)
def fX8_bring_b82 (μ : Mm) (v1 : Int32) (v2 : Int32) (v4 : Int64) : Option Int32 := fX8_bring_b83 μ v1 v2 v4 (0 : Int32)
def fX8_bring_b55 (μ : Mm) (v1 : Int32) (v2 : Int32) (v3 : Int32) (v4 : Int64) (s0 : Int32) : Option Int32 := (if s0 = 0 then (if v2 = (2 : Int32) then (if v1 = (11 : Int32) then (if v3 = (4 : Int32) then fX8_bring_b78 μ v1 v2 v4 else fX8_bring_b82 μ v1 v2 v4) else fX8_bring_b82 μ v1 v2 v4) else fX8_bring_b82 μ v1 v2 v4) else fX8_bring_b78 μ v1 v2 v4)
def fX8_bring_b50 (μ : Mm) (v1 : Int32) (v2 : Int32) (v3 : Int32) (v4 : Int64) : Option Int32 := fX8_bring_b55 μ v1 v2 v3 v4 (1 : Int32)
def fX8_bring_b26 (μ : Mm) (v1 : Int32) (v3 : Int32) : Option Int32 := ((fX8_widens v3 v1).bind fun r28 => (if r28 = 0 then some (2 : Int32) else some (0 : Int32)))
def fX8_bring (p1 : Int32) (p2 : Int32) (p3 : Int32) (p4 : Int64) (μ : Mm) : Option Int32 := ((fX8_isPlain p1).bind fun r1 => (if r1 = 0 then (if p2 = 0 then fX8_bring_b50 μ p1 p2 p3 p4 else (if p1 = (12 : Int32) then fX8_bring_b50 μ p1 p2 p3 p4 else fX8_bring_b55 μ p1 p2 p3 p4 (0 : Int32))) else (if p2 = 0 then some (7 : Int32) else (if p2 = (1 : Int32) then fX8_bring_b26 μ p1 p3 else (if p2 = (2 : Int32) then fX8_bring_b26 μ p1 p3 else some (2 : Int32))))))
set_option maxRecDepth 100000 in
set_option maxHeartbeats 4000000 in
theorem kX8_bring (l : Launch) (ε : Ev) (p1 : Int32) (p2 : Int32) (p3 : Int32) (p4 : Int64) (μ : Mm) (out : Int32) (hf : fX8_bring p1 p2 p3 p4 μ = some out) : Sp l ε layM yX8_bring cX8_bring 7 (some .int) 2 [.ref (ea ε 0), .int p1, .int p2, .int p3, .long p4] (some (.int out)) μ μ := by
  refine Sp.of [(0, .ref (ea ε 0)), (1, .int p1), (2, .int p2), (3, .int p3), (4, .long p4)] rfl (by decide +kernel) (Nat.le_of_ble_eq_true rfl) ?_
  intro κ hκ C E hQ
  subst hκ
  replace C : Cf κ cX8_bring 7 RX8 (some .int) 2 := C
  have b146 : ∀ (v2 : Int32) (s0 : Int32) , fX8_bring_b146 μ v2 s0 = some out → G κ (Vw κ ε layM μ) 7 146 [(2, .int v2)] [.int s0] := by
    intro v2 s0 hf
    refine g_istore (pc := 146) (i := 6) (L' := [(6, .int s0), (2, .int v2)]) C dX8_bring_146 (by decide) rfl ?_
    refine g_iload_n (pc := 148) (i := 2) (j := 1) C dX8_bring_148 rfl rfl ?_
    refine g_iconst (pc := 149) C dX8_bring_149 ci_1 ?_
    refine g_icmp_ne (pc := 150) (tgt := 157) C dX8_bring_150 rfl hf (fun _ hf => ?_) (fun _ hf => ?_)
    · refine g_iload (pc := 157) (i := 6) (j := 0) C dX8_bring_157 rfl ?_
      refine g_if_eq (pc := 159) (tgt := 166) C dX8_bring_159 rfl hf (fun _ hf => ?_) (fun _ hf => ?_)
      · refine g_iconst (pc := 166) C dX8_bring_166 ci_2 ?_
        exact g_iretr (pc := 167) C hQ dX8_bring_167 hf
      · refine g_iconst (pc := 162) C dX8_bring_162 ci_0 ?_
        refine g_goto (pc := 163) (tgt := 167) C dX8_bring_163 rfl ?_
        exact g_iretr (pc := 167) C hQ dX8_bring_167 hf
    · refine g_iconst (pc := 153) C dX8_bring_153 ci_4 ?_
      refine g_goto (pc := 154) (tgt := 167) C dX8_bring_154 rfl ?_
      exact g_iretr (pc := 167) C hQ dX8_bring_167 hf
  have b141 : ∀ (v2 : Int32) , fX8_bring_b141 μ v2 = some out → G κ (Vw κ ε layM μ) 7 141 [(2, .int v2)] [] := by
    intro v2 hf
    refine g_iconst (pc := 141) C dX8_bring_141 ci_1 ?_
    refine g_goto (pc := 142) (tgt := 146) C dX8_bring_142 rfl ?_
    exact b146 v2 (1 : Int32) hf
  have b145 : ∀ (v2 : Int32) , fX8_bring_b145 μ v2 = some out → G κ (Vw κ ε layM μ) 7 145 [(2, .int v2)] [] := by
    intro v2 hf
    refine g_iconst (pc := 145) C dX8_bring_145 ci_0 ?_
    exact b146 v2 (0 : Int32) hf
  have b106 : ∀ (v1 : Int32) (v2 : Int32) (v4 : Int64) (s0 : Int32) , fX8_bring_b106 μ v1 v2 v4 s0 = some out → G κ (Vw κ ε layM μ) 7 106 [(0, .ref (ea ε 0)), (1, .int v1), (2, .int v2), (4, .long v4)] [.int s0] := by
    intro v1 v2 v4 s0 hf
    refine g_istore (pc := 106) (i := 6) (L' := [(6, .int s0), (0, .ref (ea ε 0)), (1, .int v1), (2, .int v2), (4, .long v4)]) C dX8_bring_106 (by decide) rfl ?_
    refine g_iload (pc := 108) (i := 6) (j := 0) C dX8_bring_108 rfl ?_
    refine g_if_ne (pc := 110) (tgt := 141) C dX8_bring_110 rfl hf (fun _ hf => ?_) (fun _ hf => ?_)
    · exact g_at [3] rfl (b141 v2 hf)
    · refine g_iload_n (pc := 113) (i := 2) (j := 3) C dX8_bring_113 rfl rfl ?_
      refine g_iconst (pc := 114) C dX8_bring_114 ci_3 ?_
      refine g_icmp_ne (pc := 115) (tgt := 145) C dX8_bring_115 rfl hf (fun _ hf => ?_) (fun _ hf => ?_)
      · exact g_at [3] rfl (b145 v2 hf)
      · refine g_iload_n (pc := 118) (i := 1) (j := 2) C dX8_bring_118 rfl rfl ?_
        refine g_bipush (pc := 119) C dX8_bring_119 cb_8 ?_
        refine g_icmp_eq (pc := 121) (tgt := 141) C dX8_bring_121 rfl hf (fun _ hf => ?_) (fun _ hf => ?_)
        · exact g_at [3] rfl (b141 v2 hf)
        · refine g_iload_n (pc := 124) (i := 1) (j := 2) C dX8_bring_124 rfl rfl ?_
          refine g_bipush (pc := 125) C dX8_bring_125 cb_9 ?_
          refine g_icmp_ne (pc := 127) (tgt := 145) C dX8_bring_127 rfl hf (fun _ hf => ?_) (fun _ hf => ?_)
          · exact g_at [3] rfl (b145 v2 hf)
          · refine g_aload_n (pc := 130) (i := 0) (j := 1) C dX8_bring_130 rfl rfl ?_
            refine g_getr (pc := 131) (j := 10) C E fdX8_38 layM_0_10 dX8_bring_131 ?_
            refine g_lload (pc := 134) (i := 4) (j := 4) C dX8_bring_134 rfl ?_
            refine g_l2i (pc := 136) C dX8_bring_136 ?_
            refine g_zald (pc := 137) C E layM_10 dX8_bring_137 hf (fun hf => ?_)
            refine g_if_eq (pc := 138) (tgt := 145) C dX8_bring_138 rfl hf (fun _ hf => ?_) (fun _ hf => ?_)
            · exact g_at [3] rfl (b145 v2 hf)
            · exact g_at [3] rfl (b141 v2 hf)
  have b101 : ∀ (v1 : Int32) (v2 : Int32) (v4 : Int64) , fX8_bring_b101 μ v1 v2 v4 = some out → G κ (Vw κ ε layM μ) 7 101 [(0, .ref (ea ε 0)), (1, .int v1), (2, .int v2), (4, .long v4)] [] := by
    intro v1 v2 v4 hf
    refine g_iconst (pc := 101) C dX8_bring_101 ci_1 ?_
    refine g_goto (pc := 102) (tgt := 106) C dX8_bring_102 rfl ?_
    exact b106 v1 v2 v4 (1 : Int32) hf
  have b105 : ∀ (v1 : Int32) (v2 : Int32) (v4 : Int64) , fX8_bring_b105 μ v1 v2 v4 = some out → G κ (Vw κ ε layM μ) 7 105 [(0, .ref (ea ε 0)), (1, .int v1), (2, .int v2), (4, .long v4)] [] := by
    intro v1 v2 v4 hf
    refine g_iconst (pc := 105) C dX8_bring_105 ci_0 ?_
    exact b106 v1 v2 v4 (0 : Int32) hf
  have b83 : ∀ (v1 : Int32) (v2 : Int32) (v4 : Int64) (s0 : Int32) , fX8_bring_b83 μ v1 v2 v4 s0 = some out → G κ (Vw κ ε layM μ) 7 83 [(0, .ref (ea ε 0)), (1, .int v1), (2, .int v2), (4, .long v4)] [.int s0] := by
    intro v1 v2 v4 s0 hf
    refine g_istore (pc := 83) (i := 6) (L' := [(6, .int s0), (0, .ref (ea ε 0)), (1, .int v1), (2, .int v2), (4, .long v4)]) C dX8_bring_83 (by decide) rfl ?_
    refine g_iload (pc := 85) (i := 6) (j := 0) C dX8_bring_85 rfl ?_
    refine g_if_ne (pc := 87) (tgt := 101) C dX8_bring_87 rfl hf (fun _ hf => ?_) (fun _ hf => ?_)
    · exact g_at [1, 2, 3, 4] rfl (b101 v1 v2 v4 hf)
    · refine g_iload_n (pc := 90) (i := 2) (j := 3) C dX8_bring_90 rfl rfl ?_
      refine g_iconst (pc := 91) C dX8_bring_91 ci_4 ?_
      refine g_icmp_ne (pc := 92) (tgt := 105) C dX8_bring_92 rfl hf (fun _ hf => ?_) (fun _ hf => ?_)
      · exact g_at [1, 2, 3, 4] rfl (b105 v1 v2 v4 hf)
      · refine g_iload_n (pc := 95) (i := 1) (j := 2) C dX8_bring_95 rfl rfl ?_
        refine g_bipush (pc := 96) C dX8_bring_96 cb_10 ?_
        refine g_icmp_ne (pc := 98) (tgt := 105) C dX8_bring_98 rfl hf (fun _ hf => ?_) (fun _ hf => ?_)
        · exact g_at [1, 2, 3, 4] rfl (b105 v1 v2 v4 hf)
        · exact g_at [1, 2, 3, 4] rfl (b101 v1 v2 v4 hf)
  have b78 : ∀ (v1 : Int32) (v2 : Int32) (v4 : Int64) , fX8_bring_b78 μ v1 v2 v4 = some out → G κ (Vw κ ε layM μ) 7 78 [(0, .ref (ea ε 0)), (1, .int v1), (2, .int v2), (4, .long v4)] [] := by
    intro v1 v2 v4 hf
    refine g_iconst (pc := 78) C dX8_bring_78 ci_1 ?_
    refine g_goto (pc := 79) (tgt := 83) C dX8_bring_79 rfl ?_
    exact b83 v1 v2 v4 (1 : Int32) hf
  have b82 : ∀ (v1 : Int32) (v2 : Int32) (v4 : Int64) , fX8_bring_b82 μ v1 v2 v4 = some out → G κ (Vw κ ε layM μ) 7 82 [(0, .ref (ea ε 0)), (1, .int v1), (2, .int v2), (4, .long v4)] [] := by
    intro v1 v2 v4 hf
    refine g_iconst (pc := 82) C dX8_bring_82 ci_0 ?_
    exact b83 v1 v2 v4 (0 : Int32) hf
  have b55 : ∀ (v1 : Int32) (v2 : Int32) (v3 : Int32) (v4 : Int64) (s0 : Int32) , fX8_bring_b55 μ v1 v2 v3 v4 s0 = some out → G κ (Vw κ ε layM μ) 7 55 [(0, .ref (ea ε 0)), (1, .int v1), (2, .int v2), (3, .int v3), (4, .long v4)] [.int s0] := by
    intro v1 v2 v3 v4 s0 hf
    refine g_istore (pc := 55) (i := 6) (L' := [(6, .int s0), (0, .ref (ea ε 0)), (1, .int v1), (2, .int v2), (3, .int v3), (4, .long v4)]) C dX8_bring_55 (by decide) rfl ?_
    refine g_iload (pc := 57) (i := 6) (j := 0) C dX8_bring_57 rfl ?_
    refine g_if_ne (pc := 59) (tgt := 78) C dX8_bring_59 rfl hf (fun _ hf => ?_) (fun _ hf => ?_)
    · exact g_at [1, 2, 3, 5] rfl (b78 v1 v2 v4 hf)
    · refine g_iload_n (pc := 62) (i := 2) (j := 3) C dX8_bring_62 rfl rfl ?_
      refine g_iconst (pc := 63) C dX8_bring_63 ci_2 ?_
      refine g_icmp_ne (pc := 64) (tgt := 82) C dX8_bring_64 rfl hf (fun _ hf => ?_) (fun _ hf => ?_)
      · exact g_at [1, 2, 3, 5] rfl (b82 v1 v2 v4 hf)
      · refine g_iload_n (pc := 67) (i := 1) (j := 2) C dX8_bring_67 rfl rfl ?_
        refine g_bipush (pc := 68) C dX8_bring_68 cb_11 ?_
        refine g_icmp_ne (pc := 70) (tgt := 82) C dX8_bring_70 rfl hf (fun _ hf => ?_) (fun _ hf => ?_)
        · exact g_at [1, 2, 3, 5] rfl (b82 v1 v2 v4 hf)
        · refine g_iload_n (pc := 73) (i := 3) (j := 4) C dX8_bring_73 rfl rfl ?_
          refine g_iconst (pc := 74) C dX8_bring_74 ci_4 ?_
          refine g_icmp_ne (pc := 75) (tgt := 82) C dX8_bring_75 rfl hf (fun _ hf => ?_) (fun _ hf => ?_)
          · exact g_at [1, 2, 3, 5] rfl (b82 v1 v2 v4 hf)
          · exact g_at [1, 2, 3, 5] rfl (b78 v1 v2 v4 hf)
  have b50 : ∀ (v1 : Int32) (v2 : Int32) (v3 : Int32) (v4 : Int64) , fX8_bring_b50 μ v1 v2 v3 v4 = some out → G κ (Vw κ ε layM μ) 7 50 [(0, .ref (ea ε 0)), (1, .int v1), (2, .int v2), (3, .int v3), (4, .long v4)] [] := by
    intro v1 v2 v3 v4 hf
    refine g_iconst (pc := 50) C dX8_bring_50 ci_1 ?_
    refine g_goto (pc := 51) (tgt := 55) C dX8_bring_51 rfl ?_
    exact b55 v1 v2 v3 v4 (1 : Int32) hf
  have b26 : ∀ (v1 : Int32) (v3 : Int32) , fX8_bring_b26 μ v1 v3 = some out → G κ (Vw κ ε layM μ) 7 26 [(1, .int v1), (3, .int v3)] [] := by
    intro v1 v3 hf
    refine g_iload_n (pc := 26) (i := 3) (j := 1) C dX8_bring_26 rfl rfl ?_
    refine g_iload_n (pc := 27) (i := 1) (j := 0) C dX8_bring_27 rfl rfl ?_
    refine g_cpi (pc := 28) (st := []) C lkX8_313 (As := [.int v3, .int v1]) rfl (fun out h => kX8_widens (kl κ) v3 v1 out h) (by decide) rfl (Nat.le_of_ble_eq_true rfl) dX8_bring_28 hf (fun r28 _ hf => ?_)
    refine g_if_eq (pc := 31) (tgt := 38) C dX8_bring_31 rfl hf (fun _ hf => ?_) (fun _ hf => ?_)
    · refine g_iconst (pc := 38) C dX8_bring_38 ci_2 ?_
      exact g_iretr (pc := 39) C hQ dX8_bring_39 hf
    · refine g_iconst (pc := 34) C dX8_bring_34 ci_0 ?_
      refine g_goto (pc := 35) (tgt := 39) C dX8_bring_35 rfl ?_
      exact g_iretr (pc := 39) C hQ dX8_bring_39 hf
  refine g_iload_n (pc := 0) (i := 1) (j := 1) C dX8_bring_0 rfl rfl ?_
  refine g_cpi (pc := 1) (st := []) C lkX8_198 (As := [.int p1]) rfl (fun out h => kX8_isPlain (kl κ) p1 out h) (by decide) rfl (Nat.le_of_ble_eq_true rfl) dX8_bring_1 hf (fun r1 _ hf => ?_)
  refine g_if_eq (pc := 4) (tgt := 40) C dX8_bring_4 rfl hf (fun _ hf => ?_) (fun _ hf => ?_)
  · refine g_iload_n (pc := 40) (i := 2) (j := 2) C dX8_bring_40 rfl rfl ?_
    refine g_if_eq (pc := 41) (tgt := 50) C dX8_bring_41 rfl hf (fun _ hf => ?_) (fun _ hf => ?_)
    · exact b50 p1 p2 p3 p4 hf
    · refine g_iload_n (pc := 44) (i := 1) (j := 1) C dX8_bring_44 rfl rfl ?_
      refine g_bipush (pc := 45) C dX8_bring_45 cb_12 ?_
      refine g_icmp_ne (pc := 47) (tgt := 54) C dX8_bring_47 rfl hf (fun _ hf => ?_) (fun _ hf => ?_)
      · refine g_iconst (pc := 54) C dX8_bring_54 ci_0 ?_
        exact b55 p1 p2 p3 p4 (0 : Int32) hf
      · exact b50 p1 p2 p3 p4 hf
  · refine g_iload_n (pc := 7) (i := 2) (j := 2) C dX8_bring_7 rfl rfl ?_
    refine g_if_ne (pc := 8) (tgt := 16) C dX8_bring_8 rfl hf (fun _ hf => ?_) (fun _ hf => ?_)
    · refine g_iload_n (pc := 16) (i := 2) (j := 2) C dX8_bring_16 rfl rfl ?_
      refine g_iconst (pc := 17) C dX8_bring_17 ci_1 ?_
      refine g_icmp_eq (pc := 18) (tgt := 26) C dX8_bring_18 rfl hf (fun _ hf => ?_) (fun _ hf => ?_)
      · exact g_at [1, 3] rfl (b26 p1 p3 hf)
      · refine g_iload_n (pc := 21) (i := 2) (j := 2) C dX8_bring_21 rfl rfl ?_
        refine g_iconst (pc := 22) C dX8_bring_22 ci_2 ?_
        refine g_icmp_ne (pc := 23) (tgt := 38) C dX8_bring_23 rfl hf (fun _ hf => ?_) (fun _ hf => ?_)
        · refine g_iconst (pc := 38) C dX8_bring_38 ci_2 ?_
          exact g_iretr (pc := 39) C hQ dX8_bring_39 hf
        · exact g_at [1, 3] rfl (b26 p1 p3 hf)
    · refine g_bipush (pc := 11) C dX8_bring_11 cb_7 ?_
      refine g_goto (pc := 13) (tgt := 39) C dX8_bring_13 rfl ?_
      exact g_iretr (pc := 39) C hQ dX8_bring_39 hf
theorem dX8_get_0 : decode cX8_get 0 = .ok (.bipush 6, 2) := by decide +kernel
theorem dX8_get_2 : decode cX8_get 2 = .ok (.iload_n 1, 1) := by decide +kernel
theorem dX8_get_3 : decode cX8_get 3 = .ok (.imul, 1) := by decide +kernel
theorem dX8_get_4 : decode cX8_get 4 = .ok (.iload_n 2, 1) := by decide +kernel
theorem dX8_get_5 : decode cX8_get 5 = .ok (.iadd, 1) := by decide +kernel
theorem dX8_get_6 : decode cX8_get 6 = .ok (.istore_n 3, 1) := by decide +kernel
theorem dX8_get_7 : decode cX8_get 7 = .ok (.aload_n 0, 1) := by decide +kernel
theorem dX8_get_8 : decode cX8_get 8 = .ok (.aload_n 0, 1) := by decide +kernel
theorem dX8_get_9 : decode cX8_get 9 = .ok (.getfield 25, 3) := by decide +kernel
theorem dX8_get_12 : decode cX8_get 12 = .ok (.iload_n 3, 1) := by decide +kernel
theorem dX8_get_13 : decode cX8_get 13 = .ok (.iaload, 1) := by decide +kernel
theorem dX8_get_14 : decode cX8_get 14 = .ok (.iconst 1, 1) := by decide +kernel
theorem dX8_get_15 : decode cX8_get 15 = .ok (.if_icmp .ne 7, 3) := by decide +kernel
theorem dX8_get_18 : decode cX8_get 18 = .ok (.iconst 2, 1) := by decide +kernel
theorem dX8_get_19 : decode cX8_get 19 = .ok (.goto 9, 3) := by decide +kernel
theorem dX8_get_22 : decode cX8_get 22 = .ok (.aload_n 0, 1) := by decide +kernel
theorem dX8_get_23 : decode cX8_get 23 = .ok (.getfield 25, 3) := by decide +kernel
theorem dX8_get_26 : decode cX8_get 26 = .ok (.iload_n 3, 1) := by decide +kernel
theorem dX8_get_27 : decode cX8_get 27 = .ok (.iaload, 1) := by decide +kernel
theorem dX8_get_28 : decode cX8_get 28 = .ok (.putfield 270, 3) := by decide +kernel
theorem dX8_get_31 : decode cX8_get 31 = .ok (.aload_n 0, 1) := by decide +kernel
theorem dX8_get_32 : decode cX8_get 32 = .ok (.aload_n 0, 1) := by decide +kernel
theorem dX8_get_33 : decode cX8_get 33 = .ok (.getfield 28, 3) := by decide +kernel
theorem dX8_get_36 : decode cX8_get 36 = .ok (.iload_n 3, 1) := by decide +kernel
theorem dX8_get_37 : decode cX8_get 37 = .ok (.iaload, 1) := by decide +kernel
theorem dX8_get_38 : decode cX8_get 38 = .ok (.putfield 273, 3) := by decide +kernel
theorem dX8_get_41 : decode cX8_get 41 = .ok (.aload_n 0, 1) := by decide +kernel
theorem dX8_get_42 : decode cX8_get 42 = .ok (.aload_n 0, 1) := by decide +kernel
theorem dX8_get_43 : decode cX8_get 43 = .ok (.getfield 31, 3) := by decide +kernel
theorem dX8_get_46 : decode cX8_get 46 = .ok (.iload_n 3, 1) := by decide +kernel
theorem dX8_get_47 : decode cX8_get 47 = .ok (.laload, 1) := by decide +kernel
theorem dX8_get_48 : decode cX8_get 48 = .ok (.putfield 276, 3) := by decide +kernel
theorem dX8_get_51 : decode cX8_get 51 = .ok (.return_, 1) := by decide +kernel
def fX8_get_b28 (v3 : Int32) (s0 : Int32) (μ : Mm) : Option Mm := (if inb v3 66 = true then (if inb v3 66 = true then some (wL (wI (wI μ 0 37 s0) 0 38 ((wI μ 0 37 s0).1 7 (Int32.toNatClampNeg v3))) 0 39 ((wI (wI μ 0 37 s0) 0 38 ((wI μ 0 37 s0).1 7 (Int32.toNatClampNeg v3))).2 8 (Int32.toNatClampNeg v3))) else none) else none)
def fX8_get (p1 : Int32) (p2 : Int32) (μ : Mm) : Option Mm := (if inb (((6 : Int32) * p1) + p2) 66 = true then (if (μ.1 6 (Int32.toNatClampNeg (((6 : Int32) * p1) + p2))) = (1 : Int32) then fX8_get_b28 (((6 : Int32) * p1) + p2) (2 : Int32) μ else (if inb (((6 : Int32) * p1) + p2) 66 = true then fX8_get_b28 (((6 : Int32) * p1) + p2) (μ.1 6 (Int32.toNatClampNeg (((6 : Int32) * p1) + p2))) μ else none)) else none)
set_option maxRecDepth 100000 in
set_option maxHeartbeats 4000000 in
theorem kX8_get (l : Launch) (ε : Ev) (p1 : Int32) (p2 : Int32) (μ : Mm) (out : Mm) (hf : fX8_get p1 p2 μ = some out) : Sp l ε layM yX8_get cX8_get 4 none 0 [.ref (ea ε 0), .int p1, .int p2] none μ out := by
  refine Sp.of [(0, .ref (ea ε 0)), (1, .int p1), (2, .int p2)] rfl (by decide +kernel) (Nat.le_of_ble_eq_true rfl) ?_
  intro κ hκ C E hQ
  subst hκ
  replace C : Cf κ cX8_get 4 RX8 none 0 := C
  have b28 : ∀ (v3 : Int32) (s0 : Int32) (μ : Mm) , fX8_get_b28 v3 s0 μ = some out → G κ (Vw κ ε layM μ) 4 28 [(0, .ref (ea ε 0)), (3, .int v3)] [.int s0, .ref (ea ε 0)] := by
    intro v3 s0 μ hf
    refine g_puti (pc := 28) C E fdX8_270 layM_0_37 dX8_get_28 ?_
    refine g_aload_n (pc := 31) (i := 0) (j := 0) C dX8_get_31 rfl rfl ?_
    refine g_aload_n (pc := 32) (i := 0) (j := 0) C dX8_get_32 rfl rfl ?_
    refine g_getr (pc := 33) (j := 7) C E fdX8_28 layM_0_7 dX8_get_33 ?_
    refine g_iload_n (pc := 36) (i := 3) (j := 1) C dX8_get_36 rfl rfl ?_
    refine g_iald (pc := 37) C E layM_7 dX8_get_37 hf (fun hf => ?_)
    refine g_puti (pc := 38) C E fdX8_273 layM_0_38 dX8_get_38 ?_
    refine g_aload_n (pc := 41) (i := 0) (j := 0) C dX8_get_41 rfl rfl ?_
    refine g_aload_n (pc := 42) (i := 0) (j := 0) C dX8_get_42 rfl rfl ?_
    refine g_getr (pc := 43) (j := 8) C E fdX8_31 layM_0_8 dX8_get_43 ?_
    refine g_iload_n (pc := 46) (i := 3) (j := 1) C dX8_get_46 rfl rfl ?_
    refine g_lald (pc := 47) C E layM_8 dX8_get_47 hf (fun hf => ?_)
    refine g_putl (pc := 48) C E fdX8_276 layM_0_39 dX8_get_48 ?_
    exact g_vretw (pc := 51) C hQ dX8_get_51 hf
  refine g_bipush (pc := 0) C dX8_get_0 cb_6 ?_
  refine g_iload_n (pc := 2) (i := 1) (j := 1) C dX8_get_2 rfl rfl ?_
  refine g_imul (pc := 3) C dX8_get_3 ?_
  refine g_iload_n (pc := 4) (i := 2) (j := 2) C dX8_get_4 rfl rfl ?_
  refine g_iadd (pc := 5) C dX8_get_5 ?_
  refine g_istore_n (pc := 6) (i := 3) (L' := [(3, .int (((6 : Int32) * p1) + p2)), (0, .ref (ea ε 0)), (1, .int p1), (2, .int p2)]) C dX8_get_6 rfl (by decide) rfl ?_
  refine g_aload_n (pc := 7) (i := 0) (j := 1) C dX8_get_7 rfl rfl ?_
  refine g_aload_n (pc := 8) (i := 0) (j := 1) C dX8_get_8 rfl rfl ?_
  refine g_getr (pc := 9) (j := 6) C E fdX8_25 layM_0_6 dX8_get_9 ?_
  refine g_iload_n (pc := 12) (i := 3) (j := 0) C dX8_get_12 rfl rfl ?_
  refine g_iald (pc := 13) C E layM_6 dX8_get_13 hf (fun hf => ?_)
  refine g_iconst (pc := 14) C dX8_get_14 ci_1 ?_
  refine g_icmp_ne (pc := 15) (tgt := 22) C dX8_get_15 rfl hf (fun _ hf => ?_) (fun _ hf => ?_)
  · refine g_aload_n (pc := 22) (i := 0) (j := 1) C dX8_get_22 rfl rfl ?_
    refine g_getr (pc := 23) (j := 6) C E fdX8_25 layM_0_6 dX8_get_23 ?_
    refine g_iload_n (pc := 26) (i := 3) (j := 0) C dX8_get_26 rfl rfl ?_
    refine g_iald (pc := 27) C E layM_6 dX8_get_27 hf (fun hf => ?_)
    exact g_at [1, 0] rfl (b28 (((6 : Int32) * p1) + p2) (μ.1 6 (Int32.toNatClampNeg (((6 : Int32) * p1) + p2))) μ hf)
  · refine g_iconst (pc := 18) C dX8_get_18 ci_2 ?_
    refine g_goto (pc := 19) (tgt := 28) C dX8_get_19 rfl ?_
    exact g_at [1, 0] rfl (b28 (((6 : Int32) * p1) + p2) (2 : Int32) μ hf)
theorem dX8_hold_0 : decode cX8_hold 0 = .ok (.aload_n 0, 1) := by decide +kernel
theorem dX8_hold_1 : decode cX8_hold 1 = .ok (.iload_n 1, 1) := by decide +kernel
theorem dX8_hold_2 : decode cX8_hold 2 = .ok (.putfield 296, 3) := by decide +kernel
theorem dX8_hold_5 : decode cX8_hold 5 = .ok (.aload_n 0, 1) := by decide +kernel
theorem dX8_hold_6 : decode cX8_hold 6 = .ok (.iload_n 2, 1) := by decide +kernel
theorem dX8_hold_7 : decode cX8_hold 7 = .ok (.putfield 299, 3) := by decide +kernel
theorem dX8_hold_10 : decode cX8_hold 10 = .ok (.aload_n 0, 1) := by decide +kernel
theorem dX8_hold_11 : decode cX8_hold 11 = .ok (.lload_n 3, 1) := by decide +kernel
theorem dX8_hold_12 : decode cX8_hold 12 = .ok (.putfield 302, 3) := by decide +kernel
theorem dX8_hold_15 : decode cX8_hold 15 = .ok (.return_, 1) := by decide +kernel
def fX8_hold (p1 : Int32) (p2 : Int32) (p3 : Int64) (μ : Mm) : Option Mm := some (wL (wI (wI μ 0 12 p1) 0 13 p2) 0 14 p3)
set_option maxRecDepth 100000 in
set_option maxHeartbeats 4000000 in
theorem kX8_hold (l : Launch) (ε : Ev) (p1 : Int32) (p2 : Int32) (p3 : Int64) (μ : Mm) (out : Mm) (hf : fX8_hold p1 p2 p3 μ = some out) : Sp l ε layM yX8_hold cX8_hold 5 none 0 [.ref (ea ε 0), .int p1, .int p2, .long p3] none μ out := by
  refine Sp.of [(0, .ref (ea ε 0)), (1, .int p1), (2, .int p2), (3, .long p3)] rfl (by decide +kernel) (Nat.le_of_ble_eq_true rfl) ?_
  intro κ hκ C E hQ
  subst hκ
  replace C : Cf κ cX8_hold 5 RX8 none 0 := C
  refine g_aload_n (pc := 0) (i := 0) (j := 0) C dX8_hold_0 rfl rfl ?_
  refine g_iload_n (pc := 1) (i := 1) (j := 1) C dX8_hold_1 rfl rfl ?_
  refine g_puti (pc := 2) C E fdX8_296 layM_0_12 dX8_hold_2 ?_
  refine g_aload_n (pc := 5) (i := 0) (j := 0) C dX8_hold_5 rfl rfl ?_
  refine g_iload_n (pc := 6) (i := 2) (j := 2) C dX8_hold_6 rfl rfl ?_
  refine g_puti (pc := 7) C E fdX8_299 layM_0_13 dX8_hold_7 ?_
  refine g_aload_n (pc := 10) (i := 0) (j := 0) C dX8_hold_10 rfl rfl ?_
  refine g_lload_n (pc := 11) (i := 3) (j := 3) C dX8_hold_11 rfl rfl ?_
  refine g_putl (pc := 12) C E fdX8_302 layM_0_14 dX8_hold_12 ?_
  exact g_vretw (pc := 15) C hQ dX8_hold_15 hf
theorem dX8_reasonOf_0 : decode cX8_reasonOf 0 = .ok (.aload_n 0, 1) := by decide +kernel
theorem dX8_reasonOf_1 : decode cX8_reasonOf 1 = .ok (.iload_n 1, 1) := by decide +kernel
theorem dX8_reasonOf_2 : decode cX8_reasonOf 2 = .ok (.invokevirtual 267, 3) := by decide +kernel
theorem dX8_reasonOf_5 : decode cX8_reasonOf 5 = .ok (.ifCond .eq 7, 3) := by decide +kernel
theorem dX8_reasonOf_8 : decode cX8_reasonOf 8 = .ok (.iconst 0, 1) := by decide +kernel
theorem dX8_reasonOf_9 : decode cX8_reasonOf 9 = .ok (.goto 19, 3) := by decide +kernel
theorem dX8_reasonOf_12 : decode cX8_reasonOf 12 = .ok (.aload_n 0, 1) := by decide +kernel
theorem dX8_reasonOf_13 : decode cX8_reasonOf 13 = .ok (.getfield 13, 3) := by decide +kernel
theorem dX8_reasonOf_16 : decode cX8_reasonOf 16 = .ok (.iload_n 1, 1) := by decide +kernel
theorem dX8_reasonOf_17 : decode cX8_reasonOf 17 = .ok (.iaload, 1) := by decide +kernel
theorem dX8_reasonOf_18 : decode cX8_reasonOf 18 = .ok (.bipush 15, 2) := by decide +kernel
theorem dX8_reasonOf_20 : decode cX8_reasonOf 20 = .ok (.if_icmp .ne 7, 3) := by decide +kernel
theorem dX8_reasonOf_23 : decode cX8_reasonOf 23 = .ok (.iconst 5, 1) := by decide +kernel
theorem dX8_reasonOf_24 : decode cX8_reasonOf 24 = .ok (.goto 4, 3) := by decide +kernel
theorem dX8_reasonOf_27 : decode cX8_reasonOf 27 = .ok (.iconst 3, 1) := by decide +kernel
theorem dX8_reasonOf_28 : decode cX8_reasonOf 28 = .ok (.ireturn, 1) := by decide +kernel
def fX8_reasonOf (p1 : Int32) (μ : Mm) : Option Int32 := ((fX8_holdsRow p1 μ).bind fun r2 => (if r2 = 0 then (if inb p1 10 = true then (if (μ.1 2 (Int32.toNatClampNeg p1)) = (15 : Int32) then some (5 : Int32) else some (3 : Int32)) else none) else some (0 : Int32)))
set_option maxRecDepth 100000 in
set_option maxHeartbeats 4000000 in
theorem kX8_reasonOf (l : Launch) (ε : Ev) (p1 : Int32) (μ : Mm) (out : Int32) (hf : fX8_reasonOf p1 μ = some out) : Sp l ε layM yX8_reasonOf cX8_reasonOf 2 (some .int) 1 [.ref (ea ε 0), .int p1] (some (.int out)) μ μ := by
  refine Sp.of [(0, .ref (ea ε 0)), (1, .int p1)] rfl (by decide +kernel) (Nat.le_of_ble_eq_true rfl) ?_
  intro κ hκ C E hQ
  subst hκ
  replace C : Cf κ cX8_reasonOf 2 RX8 (some .int) 1 := C
  refine g_aload_n (pc := 0) (i := 0) (j := 0) C dX8_reasonOf_0 rfl rfl ?_
  refine g_iload_n (pc := 1) (i := 1) (j := 1) C dX8_reasonOf_1 rfl rfl ?_
  refine g_cri (pc := 2) (st := []) C E layM_0 lkX8_267 (As := [.int p1]) rfl (fun out h => kX8_holdsRow (kl κ) ε p1 μ out h) (by decide) rfl (Nat.le_of_ble_eq_true rfl) dX8_reasonOf_2 hf (fun r2 _ hf => ?_)
  refine g_if_eq (pc := 5) (tgt := 12) C dX8_reasonOf_5 rfl hf (fun _ hf => ?_) (fun _ hf => ?_)
  · refine g_aload_n (pc := 12) (i := 0) (j := 0) C dX8_reasonOf_12 rfl rfl ?_
    refine g_getr (pc := 13) (j := 2) C E fdX8_13 layM_0_2 dX8_reasonOf_13 ?_
    refine g_iload_n (pc := 16) (i := 1) (j := 1) C dX8_reasonOf_16 rfl rfl ?_
    refine g_iald (pc := 17) C E layM_2 dX8_reasonOf_17 hf (fun hf => ?_)
    refine g_bipush (pc := 18) C dX8_reasonOf_18 cb_15 ?_
    refine g_icmp_ne (pc := 20) (tgt := 27) C dX8_reasonOf_20 rfl hf (fun _ hf => ?_) (fun _ hf => ?_)
    · refine g_iconst (pc := 27) C dX8_reasonOf_27 ci_3 ?_
      exact g_iretr (pc := 28) C hQ dX8_reasonOf_28 hf
    · refine g_iconst (pc := 23) C dX8_reasonOf_23 ci_5 ?_
      refine g_goto (pc := 24) (tgt := 28) C dX8_reasonOf_24 rfl ?_
      exact g_iretr (pc := 28) C hQ dX8_reasonOf_28 hf
  · refine g_iconst (pc := 8) C dX8_reasonOf_8 ci_0 ?_
    refine g_goto (pc := 9) (tgt := 28) C dX8_reasonOf_9 rfl ?_
    exact g_iretr (pc := 28) C hQ dX8_reasonOf_28 hf
theorem dX8_reasonToFetch_0 : decode cX8_reasonToFetch 0 = .ok (.aload_n 0, 1) := by decide +kernel
theorem dX8_reasonToFetch_1 : decode cX8_reasonToFetch 1 = .ok (.iload_n 1, 1) := by decide +kernel
theorem dX8_reasonToFetch_2 : decode cX8_reasonToFetch 2 = .ok (.invokevirtual 317, 3) := by decide +kernel
theorem dX8_reasonToFetch_5 : decode cX8_reasonToFetch 5 = .ok (.istore_n 3, 1) := by decide +kernel
theorem dX8_reasonToFetch_6 : decode cX8_reasonToFetch 6 = .ok (.iload_n 3, 1) := by decide +kernel
theorem dX8_reasonToFetch_7 : decode cX8_reasonToFetch 7 = .ok (.ifCond .eq 7, 3) := by decide +kernel
theorem dX8_reasonToFetch_10 : decode cX8_reasonToFetch 10 = .ok (.iload_n 3, 1) := by decide +kernel
theorem dX8_reasonToFetch_11 : decode cX8_reasonToFetch 11 = .ok (.goto 31, 3) := by decide +kernel
theorem dX8_reasonToFetch_14 : decode cX8_reasonToFetch 14 = .ok (.iload_n 2, 1) := by decide +kernel
theorem dX8_reasonToFetch_15 : decode cX8_reasonToFetch 15 = .ok (.i2l, 1) := by decide +kernel
theorem dX8_reasonToFetch_16 : decode cX8_reasonToFetch 16 = .ok (.lconst 0, 1) := by decide +kernel
theorem dX8_reasonToFetch_17 : decode cX8_reasonToFetch 17 = .ok (.aload_n 0, 1) := by decide +kernel
theorem dX8_reasonToFetch_18 : decode cX8_reasonToFetch 18 = .ok (.getfield 22, 3) := by decide +kernel
theorem dX8_reasonToFetch_21 : decode cX8_reasonToFetch 21 = .ok (.aload_n 0, 1) := by decide +kernel
theorem dX8_reasonToFetch_22 : decode cX8_reasonToFetch 22 = .ok (.getfield 16, 3) := by decide +kernel
theorem dX8_reasonToFetch_25 : decode cX8_reasonToFetch 25 = .ok (.iload_n 1, 1) := by decide +kernel
theorem dX8_reasonToFetch_26 : decode cX8_reasonToFetch 26 = .ok (.iaload, 1) := by decide +kernel
theorem dX8_reasonToFetch_27 : decode cX8_reasonToFetch 27 = .ok (.iaload, 1) := by decide +kernel
theorem dX8_reasonToFetch_28 : decode cX8_reasonToFetch 28 = .ok (.iconst 1, 1) := by decide +kernel
theorem dX8_reasonToFetch_29 : decode cX8_reasonToFetch 29 = .ok (.isub, 1) := by decide +kernel
theorem dX8_reasonToFetch_30 : decode cX8_reasonToFetch 30 = .ok (.i2l, 1) := by decide +kernel
theorem dX8_reasonToFetch_31 : decode cX8_reasonToFetch 31 = .ok (.invokestatic 98, 3) := by decide +kernel
theorem dX8_reasonToFetch_34 : decode cX8_reasonToFetch 34 = .ok (.ifCond .eq 7, 3) := by decide +kernel
theorem dX8_reasonToFetch_37 : decode cX8_reasonToFetch 37 = .ok (.iconst 0, 1) := by decide +kernel
theorem dX8_reasonToFetch_38 : decode cX8_reasonToFetch 38 = .ok (.goto 4, 3) := by decide +kernel
theorem dX8_reasonToFetch_41 : decode cX8_reasonToFetch 41 = .ok (.iconst 1, 1) := by decide +kernel
theorem dX8_reasonToFetch_42 : decode cX8_reasonToFetch 42 = .ok (.ireturn, 1) := by decide +kernel
def fX8_reasonToFetch (p1 : Int32) (p2 : Int32) (μ : Mm) : Option Int32 := ((fX8_reasonOf p1 μ).bind fun r2 => (if r2 = 0 then (if inb p1 10 = true then (if inb (μ.1 3 (Int32.toNatClampNeg p1)) 11 = true then ((fX8_in (Int32.toInt64 p2) (0 : Int64) (Int32.toInt64 ((μ.1 5 (Int32.toNatClampNeg (μ.1 3 (Int32.toNatClampNeg p1)))) - (1 : Int32)))).bind fun r31 => (if r31 = 0 then some (1 : Int32) else some (0 : Int32))) else none) else none) else some r2))
set_option maxRecDepth 100000 in
set_option maxHeartbeats 4000000 in
theorem kX8_reasonToFetch (l : Launch) (ε : Ev) (p1 : Int32) (p2 : Int32) (μ : Mm) (out : Int32) (hf : fX8_reasonToFetch p1 p2 μ = some out) : Sp l ε layM yX8_reasonToFetch cX8_reasonToFetch 4 (some .int) 2 [.ref (ea ε 0), .int p1, .int p2] (some (.int out)) μ μ := by
  refine Sp.of [(0, .ref (ea ε 0)), (1, .int p1), (2, .int p2)] rfl (by decide +kernel) (Nat.le_of_ble_eq_true rfl) ?_
  intro κ hκ C E hQ
  subst hκ
  replace C : Cf κ cX8_reasonToFetch 4 RX8 (some .int) 2 := C
  refine g_aload_n (pc := 0) (i := 0) (j := 0) C dX8_reasonToFetch_0 rfl rfl ?_
  refine g_iload_n (pc := 1) (i := 1) (j := 1) C dX8_reasonToFetch_1 rfl rfl ?_
  refine g_cri (pc := 2) (st := []) C E layM_0 lkX8_317 (As := [.int p1]) rfl (fun out h => kX8_reasonOf (kl κ) ε p1 μ out h) (by decide) rfl (Nat.le_of_ble_eq_true rfl) dX8_reasonToFetch_2 hf (fun r2 _ hf => ?_)
  refine g_istore_n (pc := 5) (i := 3) (L' := [(3, .int r2), (0, .ref (ea ε 0)), (1, .int p1), (2, .int p2)]) C dX8_reasonToFetch_5 rfl (by decide) rfl ?_
  refine g_iload_n (pc := 6) (i := 3) (j := 0) C dX8_reasonToFetch_6 rfl rfl ?_
  refine g_if_eq (pc := 7) (tgt := 14) C dX8_reasonToFetch_7 rfl hf (fun _ hf => ?_) (fun _ hf => ?_)
  · refine g_iload_n (pc := 14) (i := 2) (j := 3) C dX8_reasonToFetch_14 rfl rfl ?_
    refine g_i2l (pc := 15) C dX8_reasonToFetch_15 ?_
    refine g_lconst (pc := 16) C dX8_reasonToFetch_16 cl_0 ?_
    refine g_aload_n (pc := 17) (i := 0) (j := 1) C dX8_reasonToFetch_17 rfl rfl ?_
    refine g_getr (pc := 18) (j := 5) C E fdX8_22 layM_0_5 dX8_reasonToFetch_18 ?_
    refine g_aload_n (pc := 21) (i := 0) (j := 1) C dX8_reasonToFetch_21 rfl rfl ?_
    refine g_getr (pc := 22) (j := 3) C E fdX8_16 layM_0_3 dX8_reasonToFetch_22 ?_
    refine g_iload_n (pc := 25) (i := 1) (j := 2) C dX8_reasonToFetch_25 rfl rfl ?_
    refine g_iald (pc := 26) C E layM_3 dX8_reasonToFetch_26 hf (fun hf => ?_)
    refine g_iald (pc := 27) C E layM_5 dX8_reasonToFetch_27 hf (fun hf => ?_)
    refine g_iconst (pc := 28) C dX8_reasonToFetch_28 ci_1 ?_
    refine g_isub (pc := 29) C dX8_reasonToFetch_29 ?_
    refine g_i2l (pc := 30) C dX8_reasonToFetch_30 ?_
    refine g_cpi (pc := 31) (st := []) C lkX8_98 (As := [.long (Int32.toInt64 p2), .long (0 : Int64), .long (Int32.toInt64 ((μ.1 5 (Int32.toNatClampNeg (μ.1 3 (Int32.toNatClampNeg p1)))) - (1 : Int32)))]) rfl (fun out h => kX8_in (kl κ) (Int32.toInt64 p2) (0 : Int64) (Int32.toInt64 ((μ.1 5 (Int32.toNatClampNeg (μ.1 3 (Int32.toNatClampNeg p1)))) - (1 : Int32))) out h) (by decide) rfl (Nat.le_of_ble_eq_true rfl) dX8_reasonToFetch_31 hf (fun r31 _ hf => ?_)
    refine g_if_eq (pc := 34) (tgt := 41) C dX8_reasonToFetch_34 rfl hf (fun _ hf => ?_) (fun _ hf => ?_)
    · refine g_iconst (pc := 41) C dX8_reasonToFetch_41 ci_1 ?_
      exact g_iretr (pc := 42) C hQ dX8_reasonToFetch_42 hf
    · refine g_iconst (pc := 37) C dX8_reasonToFetch_37 ci_0 ?_
      refine g_goto (pc := 38) (tgt := 42) C dX8_reasonToFetch_38 rfl ?_
      exact g_iretr (pc := 42) C hQ dX8_reasonToFetch_42 hf
  · refine g_iload_n (pc := 10) (i := 3) (j := 0) C dX8_reasonToFetch_10 rfl rfl ?_
    refine g_goto (pc := 11) (tgt := 42) C dX8_reasonToFetch_11 rfl ?_
    exact g_iretr (pc := 42) C hQ dX8_reasonToFetch_42 hf
theorem dX8_carry_0 : decode cX8_carry 0 = .ok (.iload_n 1, 1) := by decide +kernel
theorem dX8_carry_1 : decode cX8_carry 1 = .ok (.invokestatic 242, 3) := by decide +kernel
theorem dX8_carry_4 : decode cX8_carry 4 = .ok (.ifCond .ne 5, 3) := by decide +kernel
theorem dX8_carry_7 : decode cX8_carry 7 = .ok (.iconst (-1), 1) := by decide +kernel
theorem dX8_carry_8 : decode cX8_carry 8 = .ok (.ireturn, 1) := by decide +kernel
theorem dX8_carry_9 : decode cX8_carry 9 = .ok (.iload_n 3, 1) := by decide +kernel
theorem dX8_carry_10 : decode cX8_carry 10 = .ok (.invokestatic 374, 3) := by decide +kernel
theorem dX8_carry_13 : decode cX8_carry 13 = .ok (.ifCond .ne 6, 3) := by decide +kernel
theorem dX8_carry_16 : decode cX8_carry 16 = .ok (.bipush (-2), 2) := by decide +kernel
theorem dX8_carry_18 : decode cX8_carry 18 = .ok (.ireturn, 1) := by decide +kernel
theorem dX8_carry_19 : decode cX8_carry 19 = .ok (.aload_n 0, 1) := by decide +kernel
theorem dX8_carry_20 : decode cX8_carry 20 = .ok (.iload_n 1, 1) := by decide +kernel
theorem dX8_carry_21 : decode cX8_carry 21 = .ok (.iload_n 2, 1) := by decide +kernel
theorem dX8_carry_22 : decode cX8_carry 22 = .ok (.invokevirtual 339, 3) := by decide +kernel
theorem dX8_carry_25 : decode cX8_carry 25 = .ok (.istore 4, 2) := by decide +kernel
theorem dX8_carry_27 : decode cX8_carry 27 = .ok (.iload 4, 2) := by decide +kernel
theorem dX8_carry_29 : decode cX8_carry 29 = .ok (.ifCond .eq 6, 3) := by decide +kernel
theorem dX8_carry_32 : decode cX8_carry 32 = .ok (.iload 4, 2) := by decide +kernel
theorem dX8_carry_34 : decode cX8_carry 34 = .ok (.ireturn, 1) := by decide +kernel
theorem dX8_carry_35 : decode cX8_carry 35 = .ok (.aload_n 0, 1) := by decide +kernel
theorem dX8_carry_36 : decode cX8_carry 36 = .ok (.aload_n 0, 1) := by decide +kernel
theorem dX8_carry_37 : decode cX8_carry 37 = .ok (.getfield 16, 3) := by decide +kernel
theorem dX8_carry_40 : decode cX8_carry 40 = .ok (.iload_n 1, 1) := by decide +kernel
theorem dX8_carry_41 : decode cX8_carry 41 = .ok (.iaload, 1) := by decide +kernel
theorem dX8_carry_42 : decode cX8_carry 42 = .ok (.iload_n 2, 1) := by decide +kernel
theorem dX8_carry_43 : decode cX8_carry 43 = .ok (.invokevirtual 283, 3) := by decide +kernel
theorem dX8_carry_46 : decode cX8_carry 46 = .ok (.aload_n 0, 1) := by decide +kernel
theorem dX8_carry_47 : decode cX8_carry 47 = .ok (.getfield 270, 3) := by decide +kernel
theorem dX8_carry_50 : decode cX8_carry 50 = .ok (.istore 5, 2) := by decide +kernel
theorem dX8_carry_52 : decode cX8_carry 52 = .ok (.aload_n 0, 1) := by decide +kernel
theorem dX8_carry_53 : decode cX8_carry 53 = .ok (.getfield 273, 3) := by decide +kernel
theorem dX8_carry_56 : decode cX8_carry 56 = .ok (.istore 6, 2) := by decide +kernel
theorem dX8_carry_58 : decode cX8_carry 58 = .ok (.aload_n 0, 1) := by decide +kernel
theorem dX8_carry_59 : decode cX8_carry 59 = .ok (.getfield 276, 3) := by decide +kernel
theorem dX8_carry_62 : decode cX8_carry 62 = .ok (.lstore 7, 2) := by decide +kernel
theorem dX8_carry_64 : decode cX8_carry 64 = .ok (.ldc_w 377, 3) := by decide +kernel
theorem dX8_carry_67 : decode cX8_carry 67 = .ok (.istore 9, 2) := by decide +kernel
theorem dX8_carry_69 : decode cX8_carry 69 = .ok (.iload 9, 2) := by decide +kernel
theorem dX8_carry_71 : decode cX8_carry 71 = .ok (.ifCond .le 83, 3) := by decide +kernel
theorem dX8_carry_74 : decode cX8_carry 74 = .ok (.iload_n 3, 1) := by decide +kernel
theorem dX8_carry_75 : decode cX8_carry 75 = .ok (.iload 9, 2) := by decide +kernel
theorem dX8_carry_77 : decode cX8_carry 77 = .ok (.if_icmp .lt 67, 3) := by decide +kernel
theorem dX8_carry_80 : decode cX8_carry 80 = .ok (.iload_n 3, 1) := by decide +kernel
theorem dX8_carry_81 : decode cX8_carry 81 = .ok (.iload 9, 2) := by decide +kernel
theorem dX8_carry_83 : decode cX8_carry 83 = .ok (.idiv, 1) := by decide +kernel
theorem dX8_carry_84 : decode cX8_carry 84 = .ok (.bipush 10, 2) := by decide +kernel
theorem dX8_carry_86 : decode cX8_carry 86 = .ok (.irem, 1) := by decide +kernel
theorem dX8_carry_87 : decode cX8_carry 87 = .ok (.iconst 1, 1) := by decide +kernel
theorem dX8_carry_88 : decode cX8_carry 88 = .ok (.isub, 1) := by decide +kernel
theorem dX8_carry_89 : decode cX8_carry 89 = .ok (.istore 10, 2) := by decide +kernel
theorem dX8_carry_91 : decode cX8_carry 91 = .ok (.iload 4, 2) := by decide +kernel
theorem dX8_carry_93 : decode cX8_carry 93 = .ok (.ifCond .ne 18, 3) := by decide +kernel
theorem dX8_carry_96 : decode cX8_carry 96 = .ok (.aload_n 0, 1) := by decide +kernel
theorem dX8_carry_97 : decode cX8_carry 97 = .ok (.iload 10, 2) := by decide +kernel
theorem dX8_carry_99 : decode cX8_carry 99 = .ok (.iload 5, 2) := by decide +kernel
theorem dX8_carry_101 : decode cX8_carry 101 = .ok (.iload 6, 2) := by decide +kernel
theorem dX8_carry_103 : decode cX8_carry 103 = .ok (.lload 7, 2) := by decide +kernel
theorem dX8_carry_105 : decode cX8_carry 105 = .ok (.invokevirtual 328, 3) := by decide +kernel
theorem dX8_carry_108 : decode cX8_carry 108 = .ok (.goto 5, 3) := by decide +kernel
theorem dX8_carry_111 : decode cX8_carry 111 = .ok (.iload 4, 2) := by decide +kernel
theorem dX8_carry_113 : decode cX8_carry 113 = .ok (.istore 4, 2) := by decide +kernel
theorem dX8_carry_115 : decode cX8_carry 115 = .ok (.iload 4, 2) := by decide +kernel
theorem dX8_carry_117 : decode cX8_carry 117 = .ok (.ifCond .ne 16, 3) := by decide +kernel
theorem dX8_carry_120 : decode cX8_carry 120 = .ok (.aload_n 0, 1) := by decide +kernel
theorem dX8_carry_121 : decode cX8_carry 121 = .ok (.iload 6, 2) := by decide +kernel
theorem dX8_carry_123 : decode cX8_carry 123 = .ok (.lload 7, 2) := by decide +kernel
theorem dX8_carry_125 : decode cX8_carry 125 = .ok (.iload 10, 2) := by decide +kernel
theorem dX8_carry_127 : decode cX8_carry 127 = .ok (.invokevirtual 332, 3) := by decide +kernel
theorem dX8_carry_130 : decode cX8_carry 130 = .ok (.goto 5, 3) := by decide +kernel
theorem dX8_carry_133 : decode cX8_carry 133 = .ok (.lload 7, 2) := by decide +kernel
theorem dX8_carry_135 : decode cX8_carry 135 = .ok (.lstore 7, 2) := by decide +kernel
theorem dX8_carry_137 : decode cX8_carry 137 = .ok (.iconst 1, 1) := by decide +kernel
theorem dX8_carry_138 : decode cX8_carry 138 = .ok (.istore 5, 2) := by decide +kernel
theorem dX8_carry_140 : decode cX8_carry 140 = .ok (.iload 10, 2) := by decide +kernel
theorem dX8_carry_142 : decode cX8_carry 142 = .ok (.istore 6, 2) := by decide +kernel
theorem dX8_carry_144 : decode cX8_carry 144 = .ok (.iload 9, 2) := by decide +kernel
theorem dX8_carry_146 : decode cX8_carry 146 = .ok (.bipush 10, 2) := by decide +kernel
theorem dX8_carry_148 : decode cX8_carry 148 = .ok (.idiv, 1) := by decide +kernel
theorem dX8_carry_149 : decode cX8_carry 149 = .ok (.istore 9, 2) := by decide +kernel
theorem dX8_carry_151 : decode cX8_carry 151 = .ok (.goto (-82), 3) := by decide +kernel
theorem dX8_carry_154 : decode cX8_carry 154 = .ok (.iload 4, 2) := by decide +kernel
theorem dX8_carry_156 : decode cX8_carry 156 = .ok (.ifCond .ne 12, 3) := by decide +kernel
theorem dX8_carry_159 : decode cX8_carry 159 = .ok (.aload_n 0, 1) := by decide +kernel
theorem dX8_carry_160 : decode cX8_carry 160 = .ok (.iconst 1, 1) := by decide +kernel
theorem dX8_carry_161 : decode cX8_carry 161 = .ok (.iload 6, 2) := by decide +kernel
theorem dX8_carry_163 : decode cX8_carry 163 = .ok (.lload 7, 2) := by decide +kernel
theorem dX8_carry_165 : decode cX8_carry 165 = .ok (.invokevirtual 308, 3) := by decide +kernel
theorem dX8_carry_168 : decode cX8_carry 168 = .ok (.iload 4, 2) := by decide +kernel
theorem dX8_carry_170 : decode cX8_carry 170 = .ok (.ireturn, 1) := by decide +kernel
def fX8_carry_b144 (k69 : Int32 → Int32 → Int32 → Int32 → Int64 → Int32 → Mm → Option (Int32 × Mm)) (v3 : Int32) (v4 : Int32) (v5 : Int32) (v6 : Int32) (v7 : Int64) (v9 : Int32) (μ : Mm) : Option (Int32 × Mm) := k69 v3 v4 v5 v6 v7 (jdiv v9 (10 : Int32)) μ
def fX8_carry_b135 (k69 : Int32 → Int32 → Int32 → Int32 → Int64 → Int32 → Mm → Option (Int32 × Mm)) (v3 : Int32) (v4 : Int32) (v9 : Int32) (v10 : Int32) (s0 : Int64) (μ : Mm) : Option (Int32 × Mm) := fX8_carry_b144 k69 v3 v4 (1 : Int32) v10 s0 v9 μ
def fX8_carry_b113 (k69 : Int32 → Int32 → Int32 → Int32 → Int64 → Int32 → Mm → Option (Int32 × Mm)) (v3 : Int32) (v6 : Int32) (v7 : Int64) (v9 : Int32) (v10 : Int32) (s0 : Int32) (μ : Mm) : Option (Int32 × Mm) := (if s0 = 0 then (bnd (fX8_widened v6 v7 v10 μ) fun r127 μ127 => fX8_carry_b135 k69 v3 s0 v9 v10 r127 μ127) else fX8_carry_b135 k69 v3 s0 v9 v10 v7 μ)
def fX8_carry_b69 : Nat → Int32 → Int32 → Int32 → Int32 → Int64 → Int32 → Mm → Option (Int32 × Mm)
  | 0, _, _, _, _, _, _, _ => none
  | n + 1, v3, v4, v5, v6, v7, v9, μ => (if v9 ≤ 0 then (if v4 = 0 then ((fX8_hold (1 : Int32) v6 v7 μ).bind fun μ165 => some (v4, μ165)) else some (v4, μ)) else (if v3 < v9 then fX8_carry_b144 (fX8_carry_b69 n) v3 v4 v5 v6 v7 v9 μ else (if v9 = 0 then none else (if v4 = 0 then ((fX8_bring ((jrem (jdiv v3 v9) (10 : Int32)) - (1 : Int32)) v5 v6 v7 μ).bind fun r105 => fX8_carry_b113 (fX8_carry_b69 n) v3 v6 v7 v9 ((jrem (jdiv v3 v9) (10 : Int32)) - (1 : Int32)) r105 μ) else fX8_carry_b113 (fX8_carry_b69 n) v3 v6 v7 v9 ((jrem (jdiv v3 v9) (10 : Int32)) - (1 : Int32)) v4 μ))))
def fX8_carry (p1 : Int32) (p2 : Int32) (p3 : Int32) (μ : Mm) : Option (Int32 × Mm) := ((fX8_isSlot p1).bind fun r1 => (if r1 = 0 then some ((-1 : Int32), μ) else ((fX8_isWay p3).bind fun r10 => (if r10 = 0 then some ((-2 : Int32), μ) else ((fX8_reasonToFetch p1 p2 μ).bind fun r22 => (if r22 = 0 then (if inb p1 10 = true then ((fX8_get (μ.1 3 (Int32.toNatClampNeg p1)) p2 μ).bind fun μ43 => fX8_carry_b69 100 p3 r22 (μ43.1 0 37) (μ43.1 0 38) (μ43.2 0 39) (100000 : Int32) μ43) else none) else some (r22, μ)))))))
set_option maxRecDepth 100000 in
set_option maxHeartbeats 4000000 in
theorem kX8_carry (l : Launch) (ε : Ev) (p1 : Int32) (p2 : Int32) (p3 : Int32) (μ : Mm) (out : (Int32 × Mm)) (hf : fX8_carry p1 p2 p3 μ = some out) : Sp l ε layM yX8_carry cX8_carry 11 (some .int) 3 [.ref (ea ε 0), .int p1, .int p2, .int p3] (some (.int out.1)) μ out.2 := by
  refine Sp.of [(0, .ref (ea ε 0)), (1, .int p1), (2, .int p2), (3, .int p3)] rfl (by decide +kernel) (Nat.le_of_ble_eq_true rfl) ?_
  intro κ hκ C E hQ
  subst hκ
  replace C : Cf κ cX8_carry 11 RX8 (some .int) 3 := C
  have b144 : ∀ (k69 : Int32 → Int32 → Int32 → Int32 → Int64 → Int32 → Mm → Option (Int32 × Mm)) (hk69 : ∀ (v3 : Int32) (v4 : Int32) (v5 : Int32) (v6 : Int32) (v7 : Int64) (v9 : Int32) (μ : Mm) , k69 v3 v4 v5 v6 v7 v9 μ = some out → G κ (Vw κ ε layM μ) 11 69 [(0, .ref (ea ε 0)), (3, .int v3), (4, .int v4), (5, .int v5), (6, .int v6), (7, .long v7), (9, .int v9)] []) (v3 : Int32) (v4 : Int32) (v5 : Int32) (v6 : Int32) (v7 : Int64) (v9 : Int32) (μ : Mm) , fX8_carry_b144 k69 v3 v4 v5 v6 v7 v9 μ = some out → G κ (Vw κ ε layM μ) 11 144 [(0, .ref (ea ε 0)), (3, .int v3), (4, .int v4), (5, .int v5), (6, .int v6), (7, .long v7), (9, .int v9)] [] := by
    intro k69 hk69 v3 v4 v5 v6 v7 v9 μ hf
    refine g_iload (pc := 144) (i := 9) (j := 6) C dX8_carry_144 rfl ?_
    refine g_bipush (pc := 146) C dX8_carry_146 cb_10 ?_
    refine g_idiv (pc := 148) C dX8_carry_148 (by decide) ?_
    refine g_istore (pc := 149) (i := 9) (L' := [(9, .int (jdiv v9 (10 : Int32))), (0, .ref (ea ε 0)), (3, .int v3), (4, .int v4), (5, .int v5), (6, .int v6), (7, .long v7)]) C dX8_carry_149 (by decide) rfl ?_
    refine g_goto (pc := 151) (tgt := 69) C dX8_carry_151 rfl ?_
    exact g_at [1, 2, 3, 4, 5, 6, 0] rfl (hk69 v3 v4 v5 v6 v7 (jdiv v9 (10 : Int32)) μ hf)
  have b135 : ∀ (k69 : Int32 → Int32 → Int32 → Int32 → Int64 → Int32 → Mm → Option (Int32 × Mm)) (hk69 : ∀ (v3 : Int32) (v4 : Int32) (v5 : Int32) (v6 : Int32) (v7 : Int64) (v9 : Int32) (μ : Mm) , k69 v3 v4 v5 v6 v7 v9 μ = some out → G κ (Vw κ ε layM μ) 11 69 [(0, .ref (ea ε 0)), (3, .int v3), (4, .int v4), (5, .int v5), (6, .int v6), (7, .long v7), (9, .int v9)] []) (v3 : Int32) (v4 : Int32) (v9 : Int32) (v10 : Int32) (s0 : Int64) (μ : Mm) , fX8_carry_b135 k69 v3 v4 v9 v10 s0 μ = some out → G κ (Vw κ ε layM μ) 11 135 [(0, .ref (ea ε 0)), (3, .int v3), (4, .int v4), (9, .int v9), (10, .int v10)] [.long s0] := by
    intro k69 hk69 v3 v4 v9 v10 s0 μ hf
    refine g_lstore (pc := 135) (i := 7) (L' := [(7, .long s0), (0, .ref (ea ε 0)), (3, .int v3), (4, .int v4), (9, .int v9), (10, .int v10)]) C dX8_carry_135 (by decide) rfl ?_
    refine g_iconst (pc := 137) C dX8_carry_137 ci_1 ?_
    refine g_istore (pc := 138) (i := 5) (L' := [(5, .int (1 : Int32)), (7, .long s0), (0, .ref (ea ε 0)), (3, .int v3), (4, .int v4), (9, .int v9), (10, .int v10)]) C dX8_carry_138 (by decide) rfl ?_
    refine g_iload (pc := 140) (i := 10) (j := 6) C dX8_carry_140 rfl ?_
    refine g_istore (pc := 142) (i := 6) (L' := [(6, .int v10), (5, .int (1 : Int32)), (7, .long s0), (0, .ref (ea ε 0)), (3, .int v3), (4, .int v4), (9, .int v9), (10, .int v10)]) C dX8_carry_142 (by decide) rfl ?_
    exact g_at [3, 4, 5, 1, 0, 2, 6] rfl (b144 k69 hk69 v3 v4 (1 : Int32) v10 s0 v9 μ hf)
  have b113 : ∀ (k69 : Int32 → Int32 → Int32 → Int32 → Int64 → Int32 → Mm → Option (Int32 × Mm)) (hk69 : ∀ (v3 : Int32) (v4 : Int32) (v5 : Int32) (v6 : Int32) (v7 : Int64) (v9 : Int32) (μ : Mm) , k69 v3 v4 v5 v6 v7 v9 μ = some out → G κ (Vw κ ε layM μ) 11 69 [(0, .ref (ea ε 0)), (3, .int v3), (4, .int v4), (5, .int v5), (6, .int v6), (7, .long v7), (9, .int v9)] []) (v3 : Int32) (v6 : Int32) (v7 : Int64) (v9 : Int32) (v10 : Int32) (s0 : Int32) (μ : Mm) , fX8_carry_b113 k69 v3 v6 v7 v9 v10 s0 μ = some out → G κ (Vw κ ε layM μ) 11 113 [(0, .ref (ea ε 0)), (3, .int v3), (6, .int v6), (7, .long v7), (9, .int v9), (10, .int v10)] [.int s0] := by
    intro k69 hk69 v3 v6 v7 v9 v10 s0 μ hf
    refine g_istore (pc := 113) (i := 4) (L' := [(4, .int s0), (0, .ref (ea ε 0)), (3, .int v3), (6, .int v6), (7, .long v7), (9, .int v9), (10, .int v10)]) C dX8_carry_113 (by decide) rfl ?_
    refine g_iload (pc := 115) (i := 4) (j := 0) C dX8_carry_115 rfl ?_
    refine g_if_ne (pc := 117) (tgt := 133) C dX8_carry_117 rfl hf (fun _ hf => ?_) (fun _ hf => ?_)
    · refine g_lload (pc := 133) (i := 7) (j := 4) C dX8_carry_133 rfl ?_
      exact g_at [1, 2, 0, 5, 6] rfl (b135 k69 hk69 v3 s0 v9 v10 v7 μ hf)
    · refine g_aload_n (pc := 120) (i := 0) (j := 1) C dX8_carry_120 rfl rfl ?_
      refine g_iload (pc := 121) (i := 6) (j := 3) C dX8_carry_121 rfl ?_
      refine g_lload (pc := 123) (i := 7) (j := 4) C dX8_carry_123 rfl ?_
      refine g_iload (pc := 125) (i := 10) (j := 6) C dX8_carry_125 rfl ?_
      refine g_cwl (pc := 127) (st := []) C E layM_0 lkX8_332 (As := [.int v6, .long v7, .int v10]) rfl (fun out h => kX8_widened (kl κ) ε v6 v7 v10 μ out h) (by decide) rfl (Nat.le_of_ble_eq_true rfl) dX8_carry_127 hf (fun r127 μ127 _ hf => ?_)
      refine g_goto (pc := 130) (tgt := 135) C dX8_carry_130 rfl ?_
      exact g_at [1, 2, 0, 5, 6] rfl (b135 k69 hk69 v3 s0 v9 v10 r127 μ127 hf)
  have b69 : ∀ (n : Nat) (v3 : Int32) (v4 : Int32) (v5 : Int32) (v6 : Int32) (v7 : Int64) (v9 : Int32) (μ : Mm) , fX8_carry_b69 n v3 v4 v5 v6 v7 v9 μ = some out → G κ (Vw κ ε layM μ) 11 69 [(0, .ref (ea ε 0)), (3, .int v3), (4, .int v4), (5, .int v5), (6, .int v6), (7, .long v7), (9, .int v9)] [] := by
    intro n
    induction n with
    | zero => intro v3 v4 v5 v6 v7 v9 μ hf; exact none_ne hf
    | succ n ih =>
      intro v3 v4 v5 v6 v7 v9 μ hf
      refine g_iload (pc := 69) (i := 9) (j := 6) C dX8_carry_69 rfl ?_
      refine g_if_le (pc := 71) (tgt := 154) C dX8_carry_71 rfl hf (fun _ hf => ?_) (fun _ hf => ?_)
      · refine g_iload (pc := 154) (i := 4) (j := 2) C dX8_carry_154 rfl ?_
        refine g_if_ne (pc := 156) (tgt := 168) C dX8_carry_156 rfl hf (fun _ hf => ?_) (fun _ hf => ?_)
        · refine g_iload (pc := 168) (i := 4) (j := 2) C dX8_carry_168 rfl ?_
          exact g_iretw (pc := 170) C hQ dX8_carry_170 hf
        · refine g_aload_n (pc := 159) (i := 0) (j := 0) C dX8_carry_159 rfl rfl ?_
          refine g_iconst (pc := 160) C dX8_carry_160 ci_1 ?_
          refine g_iload (pc := 161) (i := 6) (j := 4) C dX8_carry_161 rfl ?_
          refine g_lload (pc := 163) (i := 7) (j := 5) C dX8_carry_163 rfl ?_
          refine g_cwv (pc := 165) (st := []) C E layM_0 lkX8_308 (As := [.int (1 : Int32), .int v6, .long v7]) rfl (fun out h => kX8_hold (kl κ) ε (1 : Int32) v6 v7 μ out h) (by decide) rfl (Nat.le_of_ble_eq_true rfl) dX8_carry_165 hf (fun μ165 _ hf => ?_)
          refine g_iload (pc := 168) (i := 4) (j := 2) C dX8_carry_168 rfl ?_
          exact g_iretw (pc := 170) C hQ dX8_carry_170 hf
      · refine g_iload_n (pc := 74) (i := 3) (j := 1) C dX8_carry_74 rfl rfl ?_
        refine g_iload (pc := 75) (i := 9) (j := 6) C dX8_carry_75 rfl ?_
        refine g_icmp_lt (pc := 77) (tgt := 144) C dX8_carry_77 rfl hf (fun _ hf => ?_) (fun _ hf => ?_)
        · exact b144 (fX8_carry_b69 n) ih v3 v4 v5 v6 v7 v9 μ hf
        · refine g_iload_n (pc := 80) (i := 3) (j := 1) C dX8_carry_80 rfl rfl ?_
          refine g_iload (pc := 81) (i := 9) (j := 6) C dX8_carry_81 rfl ?_
          obtain ⟨hz83, hf⟩ := ite_none hf
          refine g_idiv (pc := 83) C dX8_carry_83 hz83 ?_
          refine g_bipush (pc := 84) C dX8_carry_84 cb_10 ?_
          refine g_irem (pc := 86) C dX8_carry_86 (by decide) ?_
          refine g_iconst (pc := 87) C dX8_carry_87 ci_1 ?_
          refine g_isub (pc := 88) C dX8_carry_88 ?_
          refine g_istore (pc := 89) (i := 10) (L' := [(10, .int ((jrem (jdiv v3 v9) (10 : Int32)) - (1 : Int32))), (0, .ref (ea ε 0)), (3, .int v3), (4, .int v4), (5, .int v5), (6, .int v6), (7, .long v7), (9, .int v9)]) C dX8_carry_89 (by decide) rfl ?_
          refine g_iload (pc := 91) (i := 4) (j := 3) C dX8_carry_91 rfl ?_
          refine g_if_ne (pc := 93) (tgt := 111) C dX8_carry_93 rfl hf (fun _ hf => ?_) (fun _ hf => ?_)
          · refine g_iload (pc := 111) (i := 4) (j := 3) C dX8_carry_111 rfl ?_
            exact g_at [1, 2, 5, 6, 7, 0] rfl (b113 (fX8_carry_b69 n) ih v3 v6 v7 v9 ((jrem (jdiv v3 v9) (10 : Int32)) - (1 : Int32)) v4 μ hf)
          · refine g_aload_n (pc := 96) (i := 0) (j := 1) C dX8_carry_96 rfl rfl ?_
            refine g_iload (pc := 97) (i := 10) (j := 0) C dX8_carry_97 rfl ?_
            refine g_iload (pc := 99) (i := 5) (j := 4) C dX8_carry_99 rfl ?_
            refine g_iload (pc := 101) (i := 6) (j := 5) C dX8_carry_101 rfl ?_
            refine g_lload (pc := 103) (i := 7) (j := 6) C dX8_carry_103 rfl ?_
            refine g_cri (pc := 105) (st := []) C E layM_0 lkX8_328 (As := [.int ((jrem (jdiv v3 v9) (10 : Int32)) - (1 : Int32)), .int v5, .int v6, .long v7]) rfl (fun out h => kX8_bring (kl κ) ε ((jrem (jdiv v3 v9) (10 : Int32)) - (1 : Int32)) v5 v6 v7 μ out h) (by decide) rfl (Nat.le_of_ble_eq_true rfl) dX8_carry_105 hf (fun r105 _ hf => ?_)
            refine g_goto (pc := 108) (tgt := 113) C dX8_carry_108 rfl ?_
            exact g_at [1, 2, 5, 6, 7, 0] rfl (b113 (fX8_carry_b69 n) ih v3 v6 v7 v9 ((jrem (jdiv v3 v9) (10 : Int32)) - (1 : Int32)) r105 μ hf)
  refine g_iload_n (pc := 0) (i := 1) (j := 1) C dX8_carry_0 rfl rfl ?_
  refine g_cpi (pc := 1) (st := []) C lkX8_242 (As := [.int p1]) rfl (fun out h => kX8_isSlot (kl κ) p1 out h) (by decide) rfl (Nat.le_of_ble_eq_true rfl) dX8_carry_1 hf (fun r1 _ hf => ?_)
  refine g_if_ne (pc := 4) (tgt := 9) C dX8_carry_4 rfl hf (fun _ hf => ?_) (fun _ hf => ?_)
  · refine g_iload_n (pc := 9) (i := 3) (j := 3) C dX8_carry_9 rfl rfl ?_
    refine g_cpi (pc := 10) (st := []) C lkX8_374 (As := [.int p3]) rfl (fun out h => kX8_isWay (kl κ) p3 out h) (by decide) rfl (Nat.le_of_ble_eq_true rfl) dX8_carry_10 hf (fun r10 _ hf => ?_)
    refine g_if_ne (pc := 13) (tgt := 19) C dX8_carry_13 rfl hf (fun _ hf => ?_) (fun _ hf => ?_)
    · refine g_aload_n (pc := 19) (i := 0) (j := 0) C dX8_carry_19 rfl rfl ?_
      refine g_iload_n (pc := 20) (i := 1) (j := 1) C dX8_carry_20 rfl rfl ?_
      refine g_iload_n (pc := 21) (i := 2) (j := 2) C dX8_carry_21 rfl rfl ?_
      refine g_cri (pc := 22) (st := []) C E layM_0 lkX8_339 (As := [.int p1, .int p2]) rfl (fun out h => kX8_reasonToFetch (kl κ) ε p1 p2 μ out h) (by decide) rfl (Nat.le_of_ble_eq_true rfl) dX8_carry_22 hf (fun r22 _ hf => ?_)
      refine g_istore (pc := 25) (i := 4) (L' := [(4, .int r22), (0, .ref (ea ε 0)), (1, .int p1), (2, .int p2), (3, .int p3)]) C dX8_carry_25 (by decide) rfl ?_
      refine g_iload (pc := 27) (i := 4) (j := 0) C dX8_carry_27 rfl ?_
      refine g_if_eq (pc := 29) (tgt := 35) C dX8_carry_29 rfl hf (fun _ hf => ?_) (fun _ hf => ?_)
      · refine g_aload_n (pc := 35) (i := 0) (j := 1) C dX8_carry_35 rfl rfl ?_
        refine g_aload_n (pc := 36) (i := 0) (j := 1) C dX8_carry_36 rfl rfl ?_
        refine g_getr (pc := 37) (j := 3) C E fdX8_16 layM_0_3 dX8_carry_37 ?_
        refine g_iload_n (pc := 40) (i := 1) (j := 2) C dX8_carry_40 rfl rfl ?_
        refine g_iald (pc := 41) C E layM_3 dX8_carry_41 hf (fun hf => ?_)
        refine g_iload_n (pc := 42) (i := 2) (j := 3) C dX8_carry_42 rfl rfl ?_
        refine g_cwv (pc := 43) (st := []) C E layM_0 lkX8_283 (As := [.int (μ.1 3 (Int32.toNatClampNeg p1)), .int p2]) rfl (fun out h => kX8_get (kl κ) ε (μ.1 3 (Int32.toNatClampNeg p1)) p2 μ out h) (by decide) rfl (Nat.le_of_ble_eq_true rfl) dX8_carry_43 hf (fun μ43 _ hf => ?_)
        refine g_aload_n (pc := 46) (i := 0) (j := 1) C dX8_carry_46 rfl rfl ?_
        refine g_geti (pc := 47) C E fdX8_270 layM_0_37 dX8_carry_47 ?_
        refine g_istore (pc := 50) (i := 5) (L' := [(5, .int (μ43.1 0 37)), (4, .int r22), (0, .ref (ea ε 0)), (1, .int p1), (2, .int p2), (3, .int p3)]) C dX8_carry_50 (by decide) rfl ?_
        refine g_aload_n (pc := 52) (i := 0) (j := 2) C dX8_carry_52 rfl rfl ?_
        refine g_geti (pc := 53) C E fdX8_273 layM_0_38 dX8_carry_53 ?_
        refine g_istore (pc := 56) (i := 6) (L' := [(6, .int (μ43.1 0 38)), (5, .int (μ43.1 0 37)), (4, .int r22), (0, .ref (ea ε 0)), (1, .int p1), (2, .int p2), (3, .int p3)]) C dX8_carry_56 (by decide) rfl ?_
        refine g_aload_n (pc := 58) (i := 0) (j := 3) C dX8_carry_58 rfl rfl ?_
        refine g_getl (pc := 59) C E fdX8_276 layM_0_39 dX8_carry_59 ?_
        refine g_lstore (pc := 62) (i := 7) (L' := [(7, .long (μ43.2 0 39)), (6, .int (μ43.1 0 38)), (5, .int (μ43.1 0 37)), (4, .int r22), (0, .ref (ea ε 0)), (1, .int p1), (2, .int p2), (3, .int p3)]) C dX8_carry_62 (by decide) rfl ?_
        refine g_ldcw (pc := 64) C cnX8_377 dX8_carry_64 ?_
        refine g_istore (pc := 67) (i := 9) (L' := [(9, .int (100000 : Int32)), (7, .long (μ43.2 0 39)), (6, .int (μ43.1 0 38)), (5, .int (μ43.1 0 37)), (4, .int r22), (0, .ref (ea ε 0)), (1, .int p1), (2, .int p2), (3, .int p3)]) C dX8_carry_67 (by decide) rfl ?_
        exact g_at [5, 8, 4, 3, 2, 1, 0] rfl (b69 100 p3 r22 (μ43.1 0 37) (μ43.1 0 38) (μ43.2 0 39) (100000 : Int32) μ43 hf)
      · refine g_iload (pc := 32) (i := 4) (j := 0) C dX8_carry_32 rfl ?_
        exact g_iretw (pc := 34) C hQ dX8_carry_34 hf
    · refine g_bipush (pc := 16) C dX8_carry_16 cb_m2 ?_
      exact g_iretw (pc := 18) C hQ dX8_carry_18 hf
  · refine g_iconst (pc := 7) C dX8_carry_7 ci_m1 ?_
    exact g_iretw (pc := 8) C hQ dX8_carry_8 hf
theorem dX8_kindTold_0 : decode cX8_kindTold 0 = .ok (.iload_n 1, 1) := by decide +kernel
theorem dX8_kindTold_1 : decode cX8_kindTold 1 = .ok (.tableswitch 56 1 4 #[31, 33, 35, 53], 31) := by decide +kernel
theorem dX8_kindTold_32 : decode cX8_kindTold 32 = .ok (.iload_n 2, 1) := by decide +kernel
theorem dX8_kindTold_33 : decode cX8_kindTold 33 = .ok (.ireturn, 1) := by decide +kernel
theorem dX8_kindTold_34 : decode cX8_kindTold 34 = .ok (.iload_n 2, 1) := by decide +kernel
theorem dX8_kindTold_35 : decode cX8_kindTold 35 = .ok (.ireturn, 1) := by decide +kernel
theorem dX8_kindTold_36 : decode cX8_kindTold 36 = .ok (.aload_n 0, 1) := by decide +kernel
theorem dX8_kindTold_37 : decode cX8_kindTold 37 = .ok (.getfield 38, 3) := by decide +kernel
theorem dX8_kindTold_40 : decode cX8_kindTold 40 = .ok (.lload_n 3, 1) := by decide +kernel
theorem dX8_kindTold_41 : decode cX8_kindTold 41 = .ok (.l2i, 1) := by decide +kernel
theorem dX8_kindTold_42 : decode cX8_kindTold 42 = .ok (.baload, 1) := by decide +kernel
theorem dX8_kindTold_43 : decode cX8_kindTold 43 = .ok (.ifCond .eq 8, 3) := by decide +kernel
theorem dX8_kindTold_46 : decode cX8_kindTold 46 = .ok (.bipush 9, 2) := by decide +kernel
theorem dX8_kindTold_48 : decode cX8_kindTold 48 = .ok (.goto 5, 3) := by decide +kernel
theorem dX8_kindTold_51 : decode cX8_kindTold 51 = .ok (.bipush 8, 2) := by decide +kernel
theorem dX8_kindTold_53 : decode cX8_kindTold 53 = .ok (.ireturn, 1) := by decide +kernel
theorem dX8_kindTold_54 : decode cX8_kindTold 54 = .ok (.bipush 10, 2) := by decide +kernel
theorem dX8_kindTold_56 : decode cX8_kindTold 56 = .ok (.ireturn, 1) := by decide +kernel
theorem dX8_kindTold_57 : decode cX8_kindTold 57 = .ok (.bipush (-9), 2) := by decide +kernel
theorem dX8_kindTold_59 : decode cX8_kindTold 59 = .ok (.ireturn, 1) := by decide +kernel
def fX8_kindTold (p1 : Int32) (p2 : Int32) (p3 : Int64) (μ : Mm) : Option Int32 := (if p1 = 1 then some p2 else (if p1 = 2 then some p2 else (if p1 = 3 then (if inb (Int64.toInt32 p3) 20 = true then (if (μ.1 10 (Int32.toNatClampNeg (Int64.toInt32 p3))) = 0 then some (8 : Int32) else some (9 : Int32)) else none) else (if p1 = 4 then some (10 : Int32) else some (-9 : Int32)))))
set_option maxRecDepth 100000 in
set_option maxHeartbeats 4000000 in
theorem kX8_kindTold (l : Launch) (ε : Ev) (p1 : Int32) (p2 : Int32) (p3 : Int64) (μ : Mm) (out : Int32) (hf : fX8_kindTold p1 p2 p3 μ = some out) : Sp l ε layM yX8_kindTold cX8_kindTold 5 (some .int) 0 [.ref (ea ε 0), .int p1, .int p2, .long p3] (some (.int out)) μ μ := by
  refine Sp.of [(0, .ref (ea ε 0)), (1, .int p1), (2, .int p2), (3, .long p3)] rfl (by decide +kernel) (Nat.le_of_ble_eq_true rfl) ?_
  intro κ hκ C E hQ
  subst hκ
  replace C : Cf κ cX8_kindTold 5 RX8 (some .int) 0 := C
  refine g_iload_n (pc := 0) (i := 1) (j := 1) C dX8_kindTold_0 rfl rfl ?_
  by_cases h1_0 : p1 = 1
  · replace hf := ite_t h1_0 hf
    refine g_tabIn (pc := 1) (v := 1) (off := 31) (tgt := 32) C dX8_kindTold_1 h1_0 (by decide) rfl ?_
    refine g_iload_n (pc := 32) (i := 2) (j := 2) C dX8_kindTold_32 rfl rfl ?_
    exact g_iretr (pc := 33) C hQ dX8_kindTold_33 hf
  replace hf := ite_f h1_0 hf
  by_cases h1_1 : p1 = 2
  · replace hf := ite_t h1_1 hf
    refine g_tabIn (pc := 1) (v := 2) (off := 33) (tgt := 34) C dX8_kindTold_1 h1_1 (by decide) rfl ?_
    refine g_iload_n (pc := 34) (i := 2) (j := 2) C dX8_kindTold_34 rfl rfl ?_
    exact g_iretr (pc := 35) C hQ dX8_kindTold_35 hf
  replace hf := ite_f h1_1 hf
  by_cases h1_2 : p1 = 3
  · replace hf := ite_t h1_2 hf
    refine g_tabIn (pc := 1) (v := 3) (off := 35) (tgt := 36) C dX8_kindTold_1 h1_2 (by decide) rfl ?_
    refine g_aload_n (pc := 36) (i := 0) (j := 0) C dX8_kindTold_36 rfl rfl ?_
    refine g_getr (pc := 37) (j := 10) C E fdX8_38 layM_0_10 dX8_kindTold_37 ?_
    refine g_lload_n (pc := 40) (i := 3) (j := 3) C dX8_kindTold_40 rfl rfl ?_
    refine g_l2i (pc := 41) C dX8_kindTold_41 ?_
    refine g_zald (pc := 42) C E layM_10 dX8_kindTold_42 hf (fun hf => ?_)
    refine g_if_eq (pc := 43) (tgt := 51) C dX8_kindTold_43 rfl hf (fun _ hf => ?_) (fun _ hf => ?_)
    · refine g_bipush (pc := 51) C dX8_kindTold_51 cb_8 ?_
      exact g_iretr (pc := 53) C hQ dX8_kindTold_53 hf
    · refine g_bipush (pc := 46) C dX8_kindTold_46 cb_9 ?_
      refine g_goto (pc := 48) (tgt := 53) C dX8_kindTold_48 rfl ?_
      exact g_iretr (pc := 53) C hQ dX8_kindTold_53 hf
  replace hf := ite_f h1_2 hf
  by_cases h1_3 : p1 = 4
  · replace hf := ite_t h1_3 hf
    refine g_tabIn (pc := 1) (v := 4) (off := 53) (tgt := 54) C dX8_kindTold_1 h1_3 (by decide) rfl ?_
    refine g_bipush (pc := 54) C dX8_kindTold_54 cb_10 ?_
    exact g_iretr (pc := 56) C hQ dX8_kindTold_56 hf
  replace hf := ite_f h1_3 hf
  have e1_0 := i32_ne (n := 1) h1_0 (by decide)
  have e1_1 := i32_ne (n := 2) h1_1 (by decide)
  have e1_2 := i32_ne (n := 3) h1_2 (by decide)
  have e1_3 := i32_ne (n := 4) h1_3 (by decide)
  refine g_tabOut (pc := 1) (tgt := 57) C dX8_kindTold_1 (by omega) rfl ?_
  refine g_bipush (pc := 57) C dX8_kindTold_57 cb_m9 ?_
  exact g_iretr (pc := 59) C hQ dX8_kindTold_59 hf
theorem dX8_told_0 : decode cX8_told 0 = .ok (.iload_n 1, 1) := by decide +kernel
theorem dX8_told_1 : decode cX8_told 1 = .ok (.ifCond .ne 7, 3) := by decide +kernel
theorem dX8_told_4 : decode cX8_told 4 = .ok (.lconst 0, 1) := by decide +kernel
theorem dX8_told_5 : decode cX8_told 5 = .ok (.goto 20, 3) := by decide +kernel
theorem dX8_told_8 : decode cX8_told 8 = .ok (.iload_n 1, 1) := by decide +kernel
theorem dX8_told_9 : decode cX8_told 9 = .ok (.iconst 3, 1) := by decide +kernel
theorem dX8_told_10 : decode cX8_told 10 = .ok (.if_icmp .ne 14, 3) := by decide +kernel
theorem dX8_told_13 : decode cX8_told 13 = .ok (.aload_n 0, 1) := by decide +kernel
theorem dX8_told_14 : decode cX8_told 14 = .ok (.getfield 35, 3) := by decide +kernel
theorem dX8_told_17 : decode cX8_told 17 = .ok (.lload_n 2, 1) := by decide +kernel
theorem dX8_told_18 : decode cX8_told 18 = .ok (.l2i, 1) := by decide +kernel
theorem dX8_told_19 : decode cX8_told 19 = .ok (.iaload, 1) := by decide +kernel
theorem dX8_told_20 : decode cX8_told 20 = .ok (.i2l, 1) := by decide +kernel
theorem dX8_told_21 : decode cX8_told 21 = .ok (.goto 4, 3) := by decide +kernel
theorem dX8_told_24 : decode cX8_told 24 = .ok (.lload_n 2, 1) := by decide +kernel
theorem dX8_told_25 : decode cX8_told 25 = .ok (.lreturn, 1) := by decide +kernel
def fX8_told (p1 : Int32) (p2 : Int64) (μ : Mm) : Option Int64 := (if p1 = 0 then some (0 : Int64) else (if p1 = (3 : Int32) then (if inb (Int64.toInt32 p2) 20 = true then some (Int32.toInt64 (μ.1 9 (Int32.toNatClampNeg (Int64.toInt32 p2)))) else none) else some p2))
set_option maxRecDepth 100000 in
set_option maxHeartbeats 4000000 in
theorem kX8_told (l : Launch) (ε : Ev) (p1 : Int32) (p2 : Int64) (μ : Mm) (out : Int64) (hf : fX8_told p1 p2 μ = some out) : Sp l ε layM yX8_told cX8_told 4 (some .long) 0 [.ref (ea ε 0), .int p1, .long p2] (some (.long out)) μ μ := by
  refine Sp.of [(0, .ref (ea ε 0)), (1, .int p1), (2, .long p2)] rfl (by decide +kernel) (Nat.le_of_ble_eq_true rfl) ?_
  intro κ hκ C E hQ
  subst hκ
  replace C : Cf κ cX8_told 4 RX8 (some .long) 0 := C
  refine g_iload_n (pc := 0) (i := 1) (j := 1) C dX8_told_0 rfl rfl ?_
  refine g_if_ne (pc := 1) (tgt := 8) C dX8_told_1 rfl hf (fun _ hf => ?_) (fun _ hf => ?_)
  · refine g_iload_n (pc := 8) (i := 1) (j := 1) C dX8_told_8 rfl rfl ?_
    refine g_iconst (pc := 9) C dX8_told_9 ci_3 ?_
    refine g_icmp_ne (pc := 10) (tgt := 24) C dX8_told_10 rfl hf (fun _ hf => ?_) (fun _ hf => ?_)
    · refine g_lload_n (pc := 24) (i := 2) (j := 2) C dX8_told_24 rfl rfl ?_
      exact g_lretr (pc := 25) C hQ dX8_told_25 hf
    · refine g_aload_n (pc := 13) (i := 0) (j := 0) C dX8_told_13 rfl rfl ?_
      refine g_getr (pc := 14) (j := 9) C E fdX8_35 layM_0_9 dX8_told_14 ?_
      refine g_lload_n (pc := 17) (i := 2) (j := 2) C dX8_told_17 rfl rfl ?_
      refine g_l2i (pc := 18) C dX8_told_18 ?_
      refine g_iald (pc := 19) C E layM_9 dX8_told_19 hf (fun hf => ?_)
      refine g_i2l (pc := 20) C dX8_told_20 ?_
      refine g_goto (pc := 21) (tgt := 25) C dX8_told_21 rfl ?_
      exact g_lretr (pc := 25) C hQ dX8_told_25 hf
  · refine g_lconst (pc := 4) C dX8_told_4 cl_0 ?_
    refine g_goto (pc := 5) (tgt := 25) C dX8_told_5 rfl ?_
    exact g_lretr (pc := 25) C hQ dX8_told_25 hf
theorem dX8_cell_0 : decode cX8_cell 0 = .ok (.iload_n 1, 1) := by decide +kernel
theorem dX8_cell_1 : decode cX8_cell 1 = .ok (.invokestatic 242, 3) := by decide +kernel
theorem dX8_cell_4 : decode cX8_cell 4 = .ok (.ifCond .ne 7, 3) := by decide +kernel
theorem dX8_cell_7 : decode cX8_cell 7 = .ok (.ldc2_w 156, 3) := by decide +kernel
theorem dX8_cell_10 : decode cX8_cell 10 = .ok (.lreturn, 1) := by decide +kernel
theorem dX8_cell_11 : decode cX8_cell 11 = .ok (.aload_n 0, 1) := by decide +kernel
theorem dX8_cell_12 : decode cX8_cell 12 = .ok (.iload_n 1, 1) := by decide +kernel
theorem dX8_cell_13 : decode cX8_cell 13 = .ok (.invokevirtual 267, 3) := by decide +kernel
theorem dX8_cell_16 : decode cX8_cell 16 = .ok (.ifCond .ne 7, 3) := by decide +kernel
theorem dX8_cell_19 : decode cX8_cell 19 = .ok (.ldc2_w 279, 3) := by decide +kernel
theorem dX8_cell_22 : decode cX8_cell 22 = .ok (.lreturn, 1) := by decide +kernel
theorem dX8_cell_23 : decode cX8_cell 23 = .ok (.iload_n 2, 1) := by decide +kernel
theorem dX8_cell_24 : decode cX8_cell 24 = .ok (.i2l, 1) := by decide +kernel
theorem dX8_cell_25 : decode cX8_cell 25 = .ok (.lconst 0, 1) := by decide +kernel
theorem dX8_cell_26 : decode cX8_cell 26 = .ok (.aload_n 0, 1) := by decide +kernel
theorem dX8_cell_27 : decode cX8_cell 27 = .ok (.getfield 22, 3) := by decide +kernel
theorem dX8_cell_30 : decode cX8_cell 30 = .ok (.aload_n 0, 1) := by decide +kernel
theorem dX8_cell_31 : decode cX8_cell 31 = .ok (.getfield 16, 3) := by decide +kernel
theorem dX8_cell_34 : decode cX8_cell 34 = .ok (.iload_n 1, 1) := by decide +kernel
theorem dX8_cell_35 : decode cX8_cell 35 = .ok (.iaload, 1) := by decide +kernel
theorem dX8_cell_36 : decode cX8_cell 36 = .ok (.iaload, 1) := by decide +kernel
theorem dX8_cell_37 : decode cX8_cell 37 = .ok (.iconst 1, 1) := by decide +kernel
theorem dX8_cell_38 : decode cX8_cell 38 = .ok (.isub, 1) := by decide +kernel
theorem dX8_cell_39 : decode cX8_cell 39 = .ok (.i2l, 1) := by decide +kernel
theorem dX8_cell_40 : decode cX8_cell 40 = .ok (.invokestatic 98, 3) := by decide +kernel
theorem dX8_cell_43 : decode cX8_cell 43 = .ok (.ifCond .eq 15, 3) := by decide +kernel
theorem dX8_cell_46 : decode cX8_cell 46 = .ok (.iload_n 3, 1) := by decide +kernel
theorem dX8_cell_47 : decode cX8_cell 47 = .ok (.i2l, 1) := by decide +kernel
theorem dX8_cell_48 : decode cX8_cell 48 = .ok (.lconst 0, 1) := by decide +kernel
theorem dX8_cell_49 : decode cX8_cell 49 = .ok (.ldc2_w 110, 3) := by decide +kernel
theorem dX8_cell_52 : decode cX8_cell 52 = .ok (.invokestatic 98, 3) := by decide +kernel
theorem dX8_cell_55 : decode cX8_cell 55 = .ok (.ifCond .ne 7, 3) := by decide +kernel
theorem dX8_cell_58 : decode cX8_cell 58 = .ok (.ldc2_w 281, 3) := by decide +kernel
theorem dX8_cell_61 : decode cX8_cell 61 = .ok (.lreturn, 1) := by decide +kernel
theorem dX8_cell_62 : decode cX8_cell 62 = .ok (.aload_n 0, 1) := by decide +kernel
theorem dX8_cell_63 : decode cX8_cell 63 = .ok (.aload_n 0, 1) := by decide +kernel
theorem dX8_cell_64 : decode cX8_cell 64 = .ok (.getfield 16, 3) := by decide +kernel
theorem dX8_cell_67 : decode cX8_cell 67 = .ok (.iload_n 1, 1) := by decide +kernel
theorem dX8_cell_68 : decode cX8_cell 68 = .ok (.iaload, 1) := by decide +kernel
theorem dX8_cell_69 : decode cX8_cell 69 = .ok (.iload_n 2, 1) := by decide +kernel
theorem dX8_cell_70 : decode cX8_cell 70 = .ok (.invokevirtual 283, 3) := by decide +kernel
theorem dX8_cell_73 : decode cX8_cell 73 = .ok (.iload_n 3, 1) := by decide +kernel
theorem dX8_cell_74 : decode cX8_cell 74 = .ok (.lookupswitch 57 #[(0, 26), (1, 44)], 26) := by decide +kernel
theorem dX8_cell_100 : decode cX8_cell 100 = .ok (.aload_n 0, 1) := by decide +kernel
theorem dX8_cell_101 : decode cX8_cell 101 = .ok (.aload_n 0, 1) := by decide +kernel
theorem dX8_cell_102 : decode cX8_cell 102 = .ok (.getfield 270, 3) := by decide +kernel
theorem dX8_cell_105 : decode cX8_cell 105 = .ok (.aload_n 0, 1) := by decide +kernel
theorem dX8_cell_106 : decode cX8_cell 106 = .ok (.getfield 273, 3) := by decide +kernel
theorem dX8_cell_109 : decode cX8_cell 109 = .ok (.aload_n 0, 1) := by decide +kernel
theorem dX8_cell_110 : decode cX8_cell 110 = .ok (.getfield 276, 3) := by decide +kernel
theorem dX8_cell_113 : decode cX8_cell 113 = .ok (.invokevirtual 287, 3) := by decide +kernel
theorem dX8_cell_116 : decode cX8_cell 116 = .ok (.i2l, 1) := by decide +kernel
theorem dX8_cell_117 : decode cX8_cell 117 = .ok (.lreturn, 1) := by decide +kernel
theorem dX8_cell_118 : decode cX8_cell 118 = .ok (.aload_n 0, 1) := by decide +kernel
theorem dX8_cell_119 : decode cX8_cell 119 = .ok (.aload_n 0, 1) := by decide +kernel
theorem dX8_cell_120 : decode cX8_cell 120 = .ok (.getfield 270, 3) := by decide +kernel
theorem dX8_cell_123 : decode cX8_cell 123 = .ok (.aload_n 0, 1) := by decide +kernel
theorem dX8_cell_124 : decode cX8_cell 124 = .ok (.getfield 276, 3) := by decide +kernel
theorem dX8_cell_127 : decode cX8_cell 127 = .ok (.invokevirtual 291, 3) := by decide +kernel
theorem dX8_cell_130 : decode cX8_cell 130 = .ok (.lreturn, 1) := by decide +kernel
theorem dX8_cell_131 : decode cX8_cell 131 = .ok (.aload_n 0, 1) := by decide +kernel
theorem dX8_cell_132 : decode cX8_cell 132 = .ok (.getfield 270, 3) := by decide +kernel
theorem dX8_cell_135 : decode cX8_cell 135 = .ok (.iconst 3, 1) := by decide +kernel
theorem dX8_cell_136 : decode cX8_cell 136 = .ok (.if_icmp .ne 10, 3) := by decide +kernel
theorem dX8_cell_139 : decode cX8_cell 139 = .ok (.aload_n 0, 1) := by decide +kernel
theorem dX8_cell_140 : decode cX8_cell 140 = .ok (.getfield 276, 3) := by decide +kernel
theorem dX8_cell_143 : decode cX8_cell 143 = .ok (.goto 6, 3) := by decide +kernel
theorem dX8_cell_146 : decode cX8_cell 146 = .ok (.ldc2_w 294, 3) := by decide +kernel
theorem dX8_cell_149 : decode cX8_cell 149 = .ok (.lreturn, 1) := by decide +kernel
def fX8_cell (p1 : Int32) (p2 : Int32) (p3 : Int32) (μ : Mm) : Option (Int64 × Mm) := ((fX8_isSlot p1).bind fun r1 => (if r1 = 0 then some ((-1 : Int64), μ) else ((fX8_holdsRow p1 μ).bind fun r13 => (if r13 = 0 then some ((-3 : Int64), μ) else (if inb p1 10 = true then (if inb (μ.1 3 (Int32.toNatClampNeg p1)) 11 = true then ((fX8_in (Int32.toInt64 p2) (0 : Int64) (Int32.toInt64 ((μ.1 5 (Int32.toNatClampNeg (μ.1 3 (Int32.toNatClampNeg p1)))) - (1 : Int32)))).bind fun r40 => (if r40 = 0 then some ((-2 : Int64), μ) else ((fX8_in (Int32.toInt64 p3) (0 : Int64) (2 : Int64)).bind fun r52 => (if r52 = 0 then some ((-2 : Int64), μ) else (if inb p1 10 = true then ((fX8_get (μ.1 3 (Int32.toNatClampNeg p1)) p2 μ).bind fun μ70 => (if p3 = 0 then ((fX8_kindTold (μ70.1 0 37) (μ70.1 0 38) (μ70.2 0 39) μ70).bind fun r113 => some ((Int32.toInt64 r113), μ70)) else (if p3 = 1 then ((fX8_told (μ70.1 0 37) (μ70.2 0 39) μ70).bind fun r127 => some (r127, μ70)) else (if (μ70.1 0 37) = (3 : Int32) then some ((μ70.2 0 39), μ70) else some ((-9 : Int64), μ70))))) else none))))) else none) else none)))))
set_option maxRecDepth 100000 in
set_option maxHeartbeats 4000000 in
theorem kX8_cell (l : Launch) (ε : Ev) (p1 : Int32) (p2 : Int32) (p3 : Int32) (μ : Mm) (out : (Int64 × Mm)) (hf : fX8_cell p1 p2 p3 μ = some out) : Sp l ε layM yX8_cell cX8_cell 4 (some .long) 2 [.ref (ea ε 0), .int p1, .int p2, .int p3] (some (.long out.1)) μ out.2 := by
  refine Sp.of [(0, .ref (ea ε 0)), (1, .int p1), (2, .int p2), (3, .int p3)] rfl (by decide +kernel) (Nat.le_of_ble_eq_true rfl) ?_
  intro κ hκ C E hQ
  subst hκ
  replace C : Cf κ cX8_cell 4 RX8 (some .long) 2 := C
  refine g_iload_n (pc := 0) (i := 1) (j := 1) C dX8_cell_0 rfl rfl ?_
  refine g_cpi (pc := 1) (st := []) C lkX8_242 (As := [.int p1]) rfl (fun out h => kX8_isSlot (kl κ) p1 out h) (by decide) rfl (Nat.le_of_ble_eq_true rfl) dX8_cell_1 hf (fun r1 _ hf => ?_)
  refine g_if_ne (pc := 4) (tgt := 11) C dX8_cell_4 rfl hf (fun _ hf => ?_) (fun _ hf => ?_)
  · refine g_aload_n (pc := 11) (i := 0) (j := 0) C dX8_cell_11 rfl rfl ?_
    refine g_iload_n (pc := 12) (i := 1) (j := 1) C dX8_cell_12 rfl rfl ?_
    refine g_cri (pc := 13) (st := []) C E layM_0 lkX8_267 (As := [.int p1]) rfl (fun out h => kX8_holdsRow (kl κ) ε p1 μ out h) (by decide) rfl (Nat.le_of_ble_eq_true rfl) dX8_cell_13 hf (fun r13 _ hf => ?_)
    refine g_if_ne (pc := 16) (tgt := 23) C dX8_cell_16 rfl hf (fun _ hf => ?_) (fun _ hf => ?_)
    · refine g_iload_n (pc := 23) (i := 2) (j := 2) C dX8_cell_23 rfl rfl ?_
      refine g_i2l (pc := 24) C dX8_cell_24 ?_
      refine g_lconst (pc := 25) C dX8_cell_25 cl_0 ?_
      refine g_aload_n (pc := 26) (i := 0) (j := 0) C dX8_cell_26 rfl rfl ?_
      refine g_getr (pc := 27) (j := 5) C E fdX8_22 layM_0_5 dX8_cell_27 ?_
      refine g_aload_n (pc := 30) (i := 0) (j := 0) C dX8_cell_30 rfl rfl ?_
      refine g_getr (pc := 31) (j := 3) C E fdX8_16 layM_0_3 dX8_cell_31 ?_
      refine g_iload_n (pc := 34) (i := 1) (j := 1) C dX8_cell_34 rfl rfl ?_
      refine g_iald (pc := 35) C E layM_3 dX8_cell_35 hf (fun hf => ?_)
      refine g_iald (pc := 36) C E layM_5 dX8_cell_36 hf (fun hf => ?_)
      refine g_iconst (pc := 37) C dX8_cell_37 ci_1 ?_
      refine g_isub (pc := 38) C dX8_cell_38 ?_
      refine g_i2l (pc := 39) C dX8_cell_39 ?_
      refine g_cpi (pc := 40) (st := []) C lkX8_98 (As := [.long (Int32.toInt64 p2), .long (0 : Int64), .long (Int32.toInt64 ((μ.1 5 (Int32.toNatClampNeg (μ.1 3 (Int32.toNatClampNeg p1)))) - (1 : Int32)))]) rfl (fun out h => kX8_in (kl κ) (Int32.toInt64 p2) (0 : Int64) (Int32.toInt64 ((μ.1 5 (Int32.toNatClampNeg (μ.1 3 (Int32.toNatClampNeg p1)))) - (1 : Int32))) out h) (by decide) rfl (Nat.le_of_ble_eq_true rfl) dX8_cell_40 hf (fun r40 _ hf => ?_)
      refine g_if_eq (pc := 43) (tgt := 58) C dX8_cell_43 rfl hf (fun _ hf => ?_) (fun _ hf => ?_)
      · refine g_ldc2 (pc := 58) C cnX8_281 dX8_cell_58 ?_
        exact g_lretw (pc := 61) C hQ dX8_cell_61 hf
      · refine g_iload_n (pc := 46) (i := 3) (j := 3) C dX8_cell_46 rfl rfl ?_
        refine g_i2l (pc := 47) C dX8_cell_47 ?_
        refine g_lconst (pc := 48) C dX8_cell_48 cl_0 ?_
        refine g_ldc2 (pc := 49) C cnX8_110 dX8_cell_49 ?_
        refine g_cpi (pc := 52) (st := []) C lkX8_98 (As := [.long (Int32.toInt64 p3), .long (0 : Int64), .long (2 : Int64)]) rfl (fun out h => kX8_in (kl κ) (Int32.toInt64 p3) (0 : Int64) (2 : Int64) out h) (by decide) rfl (Nat.le_of_ble_eq_true rfl) dX8_cell_52 hf (fun r52 _ hf => ?_)
        refine g_if_ne (pc := 55) (tgt := 62) C dX8_cell_55 rfl hf (fun _ hf => ?_) (fun _ hf => ?_)
        · refine g_aload_n (pc := 62) (i := 0) (j := 0) C dX8_cell_62 rfl rfl ?_
          refine g_aload_n (pc := 63) (i := 0) (j := 0) C dX8_cell_63 rfl rfl ?_
          refine g_getr (pc := 64) (j := 3) C E fdX8_16 layM_0_3 dX8_cell_64 ?_
          refine g_iload_n (pc := 67) (i := 1) (j := 1) C dX8_cell_67 rfl rfl ?_
          refine g_iald (pc := 68) C E layM_3 dX8_cell_68 hf (fun hf => ?_)
          refine g_iload_n (pc := 69) (i := 2) (j := 2) C dX8_cell_69 rfl rfl ?_
          refine g_cwv (pc := 70) (st := []) C E layM_0 lkX8_283 (As := [.int (μ.1 3 (Int32.toNatClampNeg p1)), .int p2]) rfl (fun out h => kX8_get (kl κ) ε (μ.1 3 (Int32.toNatClampNeg p1)) p2 μ out h) (by decide) rfl (Nat.le_of_ble_eq_true rfl) dX8_cell_70 hf (fun μ70 _ hf => ?_)
          refine g_iload_n (pc := 73) (i := 3) (j := 3) C dX8_cell_73 rfl rfl ?_
          by_cases h74_0 : p3 = 0
          · replace hf := ite_t h74_0 hf
            refine g_look (pc := 74) (off := 26) (tgt := 100) C dX8_cell_74 (by decide) (by rw [h74_0]; decide) rfl ?_
            refine g_aload_n (pc := 100) (i := 0) (j := 0) C dX8_cell_100 rfl rfl ?_
            refine g_aload_n (pc := 101) (i := 0) (j := 0) C dX8_cell_101 rfl rfl ?_
            refine g_geti (pc := 102) C E fdX8_270 layM_0_37 dX8_cell_102 ?_
            refine g_aload_n (pc := 105) (i := 0) (j := 0) C dX8_cell_105 rfl rfl ?_
            refine g_geti (pc := 106) C E fdX8_273 layM_0_38 dX8_cell_106 ?_
            refine g_aload_n (pc := 109) (i := 0) (j := 0) C dX8_cell_109 rfl rfl ?_
            refine g_getl (pc := 110) C E fdX8_276 layM_0_39 dX8_cell_110 ?_
            refine g_cri (pc := 113) (st := []) C E layM_0 lkX8_287 (As := [.int (μ70.1 0 37), .int (μ70.1 0 38), .long (μ70.2 0 39)]) rfl (fun out h => kX8_kindTold (kl κ) ε (μ70.1 0 37) (μ70.1 0 38) (μ70.2 0 39) μ70 out h) (by decide) rfl (Nat.le_of_ble_eq_true rfl) dX8_cell_113 hf (fun r113 _ hf => ?_)
            refine g_i2l (pc := 116) C dX8_cell_116 ?_
            exact g_lretw (pc := 117) C hQ dX8_cell_117 hf
          replace hf := ite_f h74_0 hf
          by_cases h74_1 : p3 = 1
          · replace hf := ite_t h74_1 hf
            refine g_look (pc := 74) (off := 44) (tgt := 118) C dX8_cell_74 (by decide) (by rw [h74_1]; decide) rfl ?_
            refine g_aload_n (pc := 118) (i := 0) (j := 0) C dX8_cell_118 rfl rfl ?_
            refine g_aload_n (pc := 119) (i := 0) (j := 0) C dX8_cell_119 rfl rfl ?_
            refine g_geti (pc := 120) C E fdX8_270 layM_0_37 dX8_cell_120 ?_
            refine g_aload_n (pc := 123) (i := 0) (j := 0) C dX8_cell_123 rfl rfl ?_
            refine g_getl (pc := 124) C E fdX8_276 layM_0_39 dX8_cell_124 ?_
            refine g_crl (pc := 127) (st := []) C E layM_0 lkX8_291 (As := [.int (μ70.1 0 37), .long (μ70.2 0 39)]) rfl (fun out h => kX8_told (kl κ) ε (μ70.1 0 37) (μ70.2 0 39) μ70 out h) (by decide) rfl (Nat.le_of_ble_eq_true rfl) dX8_cell_127 hf (fun r127 _ hf => ?_)
            exact g_lretw (pc := 130) C hQ dX8_cell_130 hf
          replace hf := ite_f h74_1 hf
          refine g_look (pc := 74) (off := 57) (tgt := 131) C dX8_cell_74 (by decide) (by show Op.lookupswitch.offset [(0, 26), (1, 44)] 57 _ = _; rw [lv_osw h74_0 (by decide), lv_osw h74_1 (by decide)]; rfl) rfl ?_
          refine g_aload_n (pc := 131) (i := 0) (j := 0) C dX8_cell_131 rfl rfl ?_
          refine g_geti (pc := 132) C E fdX8_270 layM_0_37 dX8_cell_132 ?_
          refine g_iconst (pc := 135) C dX8_cell_135 ci_3 ?_
          refine g_icmp_ne (pc := 136) (tgt := 146) C dX8_cell_136 rfl hf (fun _ hf => ?_) (fun _ hf => ?_)
          · refine g_ldc2 (pc := 146) C cnX8_294 dX8_cell_146 ?_
            exact g_lretw (pc := 149) C hQ dX8_cell_149 hf
          · refine g_aload_n (pc := 139) (i := 0) (j := 0) C dX8_cell_139 rfl rfl ?_
            refine g_getl (pc := 140) C E fdX8_276 layM_0_39 dX8_cell_140 ?_
            refine g_goto (pc := 143) (tgt := 149) C dX8_cell_143 rfl ?_
            exact g_lretw (pc := 149) C hQ dX8_cell_149 hf
        · refine g_ldc2 (pc := 58) C cnX8_281 dX8_cell_58 ?_
          exact g_lretw (pc := 61) C hQ dX8_cell_61 hf
    · refine g_ldc2 (pc := 19) C cnX8_279 dX8_cell_19 ?_
      exact g_lretw (pc := 22) C hQ dX8_cell_22 hf
  · refine g_ldc2 (pc := 7) C cnX8_156 dX8_cell_7 ?_
    exact g_lretw (pc := 10) C hQ dX8_cell_10 hf
theorem dX8_chains_0 : decode cX8_chains 0 = .ok (.iload_n 1, 1) := by decide +kernel
theorem dX8_chains_1 : decode cX8_chains 1 = .ok (.invokestatic 198, 3) := by decide +kernel
theorem dX8_chains_4 : decode cX8_chains 4 = .ok (.ifCond .eq 10, 3) := by decide +kernel
theorem dX8_chains_7 : decode cX8_chains 7 = .ok (.iload_n 2, 1) := by decide +kernel
theorem dX8_chains_8 : decode cX8_chains 8 = .ok (.invokestatic 198, 3) := by decide +kernel
theorem dX8_chains_11 : decode cX8_chains 11 = .ok (.ifCond .ne 6, 3) := by decide +kernel
theorem dX8_chains_14 : decode cX8_chains 14 = .ok (.bipush (-2), 2) := by decide +kernel
theorem dX8_chains_16 : decode cX8_chains 16 = .ok (.ireturn, 1) := by decide +kernel
theorem dX8_chains_17 : decode cX8_chains 17 = .ok (.iconst 0, 1) := by decide +kernel
theorem dX8_chains_18 : decode cX8_chains 18 = .ok (.istore_n 3, 1) := by decide +kernel
theorem dX8_chains_19 : decode cX8_chains 19 = .ok (.iload_n 3, 1) := by decide +kernel
theorem dX8_chains_20 : decode cX8_chains 20 = .ok (.bipush 8, 2) := by decide +kernel
theorem dX8_chains_22 : decode cX8_chains 22 = .ok (.if_icmp .ge 25, 3) := by decide +kernel
theorem dX8_chains_25 : decode cX8_chains 25 = .ok (.aload_n 0, 1) := by decide +kernel
theorem dX8_chains_26 : decode cX8_chains 26 = .ok (.getfield 93, 3) := by decide +kernel
theorem dX8_chains_29 : decode cX8_chains 29 = .ok (.iload_n 3, 1) := by decide +kernel
theorem dX8_chains_30 : decode cX8_chains 30 = .ok (.iload_n 3, 1) := by decide +kernel
theorem dX8_chains_31 : decode cX8_chains 31 = .ok (.iload_n 1, 1) := by decide +kernel
theorem dX8_chains_32 : decode cX8_chains 32 = .ok (.if_icmp .ne 7, 3) := by decide +kernel
theorem dX8_chains_35 : decode cX8_chains 35 = .ok (.iconst 1, 1) := by decide +kernel
theorem dX8_chains_36 : decode cX8_chains 36 = .ok (.goto 4, 3) := by decide +kernel
theorem dX8_chains_39 : decode cX8_chains 39 = .ok (.iconst 0, 1) := by decide +kernel
theorem dX8_chains_40 : decode cX8_chains 40 = .ok (.iastore, 1) := by decide +kernel
theorem dX8_chains_41 : decode cX8_chains 41 = .ok (.iinc 3 1, 3) := by decide +kernel
theorem dX8_chains_44 : decode cX8_chains 44 = .ok (.goto (-25), 3) := by decide +kernel
theorem dX8_chains_47 : decode cX8_chains 47 = .ok (.iconst 0, 1) := by decide +kernel
theorem dX8_chains_48 : decode cX8_chains 48 = .ok (.istore_n 3, 1) := by decide +kernel
theorem dX8_chains_49 : decode cX8_chains 49 = .ok (.iload_n 3, 1) := by decide +kernel
theorem dX8_chains_50 : decode cX8_chains 50 = .ok (.bipush 8, 2) := by decide +kernel
theorem dX8_chains_52 : decode cX8_chains 52 = .ok (.if_icmp .ge 53, 3) := by decide +kernel
theorem dX8_chains_55 : decode cX8_chains 55 = .ok (.iconst 0, 1) := by decide +kernel
theorem dX8_chains_56 : decode cX8_chains 56 = .ok (.istore 4, 2) := by decide +kernel
theorem dX8_chains_58 : decode cX8_chains 58 = .ok (.iload 4, 2) := by decide +kernel
theorem dX8_chains_60 : decode cX8_chains 60 = .ok (.iload_n 3, 1) := by decide +kernel
theorem dX8_chains_61 : decode cX8_chains 61 = .ok (.if_icmp .ge 38, 3) := by decide +kernel
theorem dX8_chains_64 : decode cX8_chains 64 = .ok (.aload_n 0, 1) := by decide +kernel
theorem dX8_chains_65 : decode cX8_chains 65 = .ok (.getfield 93, 3) := by decide +kernel
theorem dX8_chains_68 : decode cX8_chains 68 = .ok (.iload_n 3, 1) := by decide +kernel
theorem dX8_chains_69 : decode cX8_chains 69 = .ok (.dup2, 1) := by decide +kernel
theorem dX8_chains_70 : decode cX8_chains 70 = .ok (.iaload, 1) := by decide +kernel
theorem dX8_chains_71 : decode cX8_chains 71 = .ok (.iload 4, 2) := by decide +kernel
theorem dX8_chains_73 : decode cX8_chains 73 = .ok (.iload_n 3, 1) := by decide +kernel
theorem dX8_chains_74 : decode cX8_chains 74 = .ok (.invokestatic 313, 3) := by decide +kernel
theorem dX8_chains_77 : decode cX8_chains 77 = .ok (.ifCond .eq 13, 3) := by decide +kernel
theorem dX8_chains_80 : decode cX8_chains 80 = .ok (.aload_n 0, 1) := by decide +kernel
theorem dX8_chains_81 : decode cX8_chains 81 = .ok (.getfield 93, 3) := by decide +kernel
theorem dX8_chains_84 : decode cX8_chains 84 = .ok (.iload 4, 2) := by decide +kernel
theorem dX8_chains_86 : decode cX8_chains 86 = .ok (.iaload, 1) := by decide +kernel
theorem dX8_chains_87 : decode cX8_chains 87 = .ok (.goto 4, 3) := by decide +kernel
theorem dX8_chains_90 : decode cX8_chains 90 = .ok (.iconst 0, 1) := by decide +kernel
theorem dX8_chains_91 : decode cX8_chains 91 = .ok (.iadd, 1) := by decide +kernel
theorem dX8_chains_92 : decode cX8_chains 92 = .ok (.iastore, 1) := by decide +kernel
theorem dX8_chains_93 : decode cX8_chains 93 = .ok (.iinc 4 1, 3) := by decide +kernel
theorem dX8_chains_96 : decode cX8_chains 96 = .ok (.goto (-38), 3) := by decide +kernel
theorem dX8_chains_99 : decode cX8_chains 99 = .ok (.iinc 3 1, 3) := by decide +kernel
theorem dX8_chains_102 : decode cX8_chains 102 = .ok (.goto (-53), 3) := by decide +kernel
theorem dX8_chains_105 : decode cX8_chains 105 = .ok (.aload_n 0, 1) := by decide +kernel
theorem dX8_chains_106 : decode cX8_chains 106 = .ok (.getfield 93, 3) := by decide +kernel
theorem dX8_chains_109 : decode cX8_chains 109 = .ok (.iload_n 2, 1) := by decide +kernel
theorem dX8_chains_110 : decode cX8_chains 110 = .ok (.iaload, 1) := by decide +kernel
theorem dX8_chains_111 : decode cX8_chains 111 = .ok (.ireturn, 1) := by decide +kernel
def fX8_chains_b91 (k49 : Int32 → Int32 → Mm → Option (Int32 × Mm)) (k58 : Int32 → Int32 → Int32 → Mm → Option (Int32 × Mm)) (v2 : Int32) (v3 : Int32) (v4 : Int32) (s0 : Int32) (s1 : Int32) (s2 : Int32) (μ : Mm) : Option (Int32 × Mm) := (if inb s2 8 = true then k58 v2 v3 (v4 + (1 : Int32)) (wI μ 28 (Int32.toNatClampNeg s2) (s1 + s0)) else none)
def fX8_chains_b58 (k49 : Int32 → Int32 → Mm → Option (Int32 × Mm)) : Nat → Int32 → Int32 → Int32 → Mm → Option (Int32 × Mm)
  | 0, _, _, _, _ => none
  | n + 1, v2, v3, v4, μ => (if v3 ≤ v4 then k49 v2 (v3 + (1 : Int32)) μ else (if inb v3 8 = true then ((fX8_widens v4 v3).bind fun r74 => (if r74 = 0 then fX8_chains_b91 k49 (fX8_chains_b58 k49 n) v2 v3 v4 (0 : Int32) (μ.1 28 (Int32.toNatClampNeg v3)) v3 μ else (if inb v4 8 = true then fX8_chains_b91 k49 (fX8_chains_b58 k49 n) v2 v3 v4 (μ.1 28 (Int32.toNatClampNeg v4)) (μ.1 28 (Int32.toNatClampNeg v3)) v3 μ else none))) else none))
def fX8_chains_b49 : Nat → Int32 → Int32 → Mm → Option (Int32 × Mm)
  | 0, _, _, _ => none
  | n + 1, v2, v3, μ => (if (8 : Int32) ≤ v3 then (if inb v2 8 = true then some ((μ.1 28 (Int32.toNatClampNeg v2)), μ) else none) else fX8_chains_b58 (fX8_chains_b49 n) 100 v2 v3 (0 : Int32) μ)
def fX8_chains_b40 (k19 : Int32 → Int32 → Int32 → Mm → Option (Int32 × Mm)) (v1 : Int32) (v2 : Int32) (v3 : Int32) (s0 : Int32) (s1 : Int32) (μ : Mm) : Option (Int32 × Mm) := (if inb s1 8 = true then k19 v1 v2 (v3 + (1 : Int32)) (wI μ 28 (Int32.toNatClampNeg s1) s0) else none)
def fX8_chains_b19 : Nat → Int32 → Int32 → Int32 → Mm → Option (Int32 × Mm)
  | 0, _, _, _, _ => none
  | n + 1, v1, v2, v3, μ => (if (8 : Int32) ≤ v3 then fX8_chains_b49 100 v2 (0 : Int32) μ else (if v3 = v1 then fX8_chains_b40 (fX8_chains_b19 n) v1 v2 v3 (1 : Int32) v3 μ else fX8_chains_b40 (fX8_chains_b19 n) v1 v2 v3 (0 : Int32) v3 μ))
def fX8_chains (p1 : Int32) (p2 : Int32) (μ : Mm) : Option (Int32 × Mm) := ((fX8_isPlain p1).bind fun r1 => (if r1 = 0 then some ((-2 : Int32), μ) else ((fX8_isPlain p2).bind fun r8 => (if r8 = 0 then some ((-2 : Int32), μ) else fX8_chains_b19 100 p1 p2 (0 : Int32) μ))))
set_option maxRecDepth 100000 in
set_option maxHeartbeats 4000000 in
theorem kX8_chains (l : Launch) (ε : Ev) (p1 : Int32) (p2 : Int32) (μ : Mm) (out : (Int32 × Mm)) (hf : fX8_chains p1 p2 μ = some out) : Sp l ε layM yX8_chains cX8_chains 5 (some .int) 2 [.ref (ea ε 0), .int p1, .int p2] (some (.int out.1)) μ out.2 := by
  refine Sp.of [(0, .ref (ea ε 0)), (1, .int p1), (2, .int p2)] rfl (by decide +kernel) (Nat.le_of_ble_eq_true rfl) ?_
  intro κ hκ C E hQ
  subst hκ
  replace C : Cf κ cX8_chains 5 RX8 (some .int) 2 := C
  have b91 : ∀ (k49 : Int32 → Int32 → Mm → Option (Int32 × Mm)) (hk49 : ∀ (v2 : Int32) (v3 : Int32) (μ : Mm) , k49 v2 v3 μ = some out → G κ (Vw κ ε layM μ) 5 49 [(0, .ref (ea ε 0)), (2, .int v2), (3, .int v3)] []) (k58 : Int32 → Int32 → Int32 → Mm → Option (Int32 × Mm)) (hk58 : ∀ (v2 : Int32) (v3 : Int32) (v4 : Int32) (μ : Mm) , k58 v2 v3 v4 μ = some out → G κ (Vw κ ε layM μ) 5 58 [(0, .ref (ea ε 0)), (2, .int v2), (3, .int v3), (4, .int v4)] []) (v2 : Int32) (v3 : Int32) (v4 : Int32) (s0 : Int32) (s1 : Int32) (s2 : Int32) (μ : Mm) , fX8_chains_b91 k49 k58 v2 v3 v4 s0 s1 s2 μ = some out → G κ (Vw κ ε layM μ) 5 91 [(0, .ref (ea ε 0)), (2, .int v2), (3, .int v3), (4, .int v4)] [.int s0, .int s1, .int s2, .ref (ea ε 28)] := by
    intro k49 hk49 k58 hk58 v2 v3 v4 s0 s1 s2 μ hf
    refine g_iadd (pc := 91) C dX8_chains_91 ?_
    refine g_iast (pc := 92) C E layM_28 dX8_chains_92 hf (fun hf => ?_)
    refine g_iinc (pc := 93) (i := 4) (j := 3) (v := (v4 + (1 : Int32))) (L' := [(4, .int (v4 + (1 : Int32))), (0, .ref (ea ε 0)), (2, .int v2), (3, .int v3)]) C dX8_chains_93 rfl (cx_1 _) (by decide) rfl ?_
    refine g_goto (pc := 96) (tgt := 58) C dX8_chains_96 rfl ?_
    exact g_at [1, 2, 3, 0] rfl (hk58 v2 v3 (v4 + (1 : Int32)) (wI μ 28 (Int32.toNatClampNeg s2) (s1 + s0)) hf)
  have b58 : ∀ (k49 : Int32 → Int32 → Mm → Option (Int32 × Mm)) (hk49 : ∀ (v2 : Int32) (v3 : Int32) (μ : Mm) , k49 v2 v3 μ = some out → G κ (Vw κ ε layM μ) 5 49 [(0, .ref (ea ε 0)), (2, .int v2), (3, .int v3)] []) (n : Nat) (v2 : Int32) (v3 : Int32) (v4 : Int32) (μ : Mm) , fX8_chains_b58 k49 n v2 v3 v4 μ = some out → G κ (Vw κ ε layM μ) 5 58 [(0, .ref (ea ε 0)), (2, .int v2), (3, .int v3), (4, .int v4)] [] := by
    intro k49 hk49 n
    induction n with
    | zero => intro v2 v3 v4 μ hf; exact none_ne hf
    | succ n ih =>
      intro v2 v3 v4 μ hf
      refine g_iload (pc := 58) (i := 4) (j := 3) C dX8_chains_58 rfl ?_
      refine g_iload_n (pc := 60) (i := 3) (j := 2) C dX8_chains_60 rfl rfl ?_
      refine g_icmp_ge (pc := 61) (tgt := 99) C dX8_chains_61 rfl hf (fun _ hf => ?_) (fun _ hf => ?_)
      · refine g_iinc (pc := 99) (i := 3) (j := 2) (v := (v3 + (1 : Int32))) (L' := [(3, .int (v3 + (1 : Int32))), (0, .ref (ea ε 0)), (2, .int v2), (4, .int v4)]) C dX8_chains_99 rfl (cx_1 _) (by decide) rfl ?_
        refine g_goto (pc := 102) (tgt := 49) C dX8_chains_102 rfl ?_
        exact g_at [1, 2, 0] rfl (hk49 v2 (v3 + (1 : Int32)) μ hf)
      · refine g_aload_n (pc := 64) (i := 0) (j := 0) C dX8_chains_64 rfl rfl ?_
        refine g_getr (pc := 65) (j := 28) C E fdX8_93 layM_0_41 dX8_chains_65 ?_
        refine g_iload_n (pc := 68) (i := 3) (j := 2) C dX8_chains_68 rfl rfl ?_
        refine g_dup2 (pc := 69) C dX8_chains_69 rfl rfl ?_
        refine g_iald (pc := 70) C E layM_28 dX8_chains_70 hf (fun hf => ?_)
        refine g_iload (pc := 71) (i := 4) (j := 3) C dX8_chains_71 rfl ?_
        refine g_iload_n (pc := 73) (i := 3) (j := 2) C dX8_chains_73 rfl rfl ?_
        refine g_cpi (pc := 74) (st := [.int (μ.1 28 (Int32.toNatClampNeg v3)), .int v3, .ref (ea ε 28)]) C lkX8_313 (As := [.int v4, .int v3]) rfl (fun out h => kX8_widens (kl κ) v4 v3 out h) (by decide) rfl (Nat.le_of_ble_eq_true rfl) dX8_chains_74 hf (fun r74 _ hf => ?_)
        refine g_if_eq (pc := 77) (tgt := 90) C dX8_chains_77 rfl hf (fun _ hf => ?_) (fun _ hf => ?_)
        · refine g_iconst (pc := 90) C dX8_chains_90 ci_0 ?_
          exact b91 k49 hk49 (fX8_chains_b58 k49 n) ih v2 v3 v4 (0 : Int32) (μ.1 28 (Int32.toNatClampNeg v3)) v3 μ hf
        · refine g_aload_n (pc := 80) (i := 0) (j := 0) C dX8_chains_80 rfl rfl ?_
          refine g_getr (pc := 81) (j := 28) C E fdX8_93 layM_0_41 dX8_chains_81 ?_
          refine g_iload (pc := 84) (i := 4) (j := 3) C dX8_chains_84 rfl ?_
          refine g_iald (pc := 86) C E layM_28 dX8_chains_86 hf (fun hf => ?_)
          refine g_goto (pc := 87) (tgt := 91) C dX8_chains_87 rfl ?_
          exact b91 k49 hk49 (fX8_chains_b58 k49 n) ih v2 v3 v4 (μ.1 28 (Int32.toNatClampNeg v4)) (μ.1 28 (Int32.toNatClampNeg v3)) v3 μ hf
  have b49 : ∀ (n : Nat) (v2 : Int32) (v3 : Int32) (μ : Mm) , fX8_chains_b49 n v2 v3 μ = some out → G κ (Vw κ ε layM μ) 5 49 [(0, .ref (ea ε 0)), (2, .int v2), (3, .int v3)] [] := by
    intro n
    induction n with
    | zero => intro v2 v3 μ hf; exact none_ne hf
    | succ n ih =>
      intro v2 v3 μ hf
      refine g_iload_n (pc := 49) (i := 3) (j := 2) C dX8_chains_49 rfl rfl ?_
      refine g_bipush (pc := 50) C dX8_chains_50 cb_8 ?_
      refine g_icmp_ge (pc := 52) (tgt := 105) C dX8_chains_52 rfl hf (fun _ hf => ?_) (fun _ hf => ?_)
      · refine g_aload_n (pc := 105) (i := 0) (j := 0) C dX8_chains_105 rfl rfl ?_
        refine g_getr (pc := 106) (j := 28) C E fdX8_93 layM_0_41 dX8_chains_106 ?_
        refine g_iload_n (pc := 109) (i := 2) (j := 1) C dX8_chains_109 rfl rfl ?_
        refine g_iald (pc := 110) C E layM_28 dX8_chains_110 hf (fun hf => ?_)
        exact g_iretw (pc := 111) C hQ dX8_chains_111 hf
      · refine g_iconst (pc := 55) C dX8_chains_55 ci_0 ?_
        refine g_istore (pc := 56) (i := 4) (L' := [(4, .int (0 : Int32)), (0, .ref (ea ε 0)), (2, .int v2), (3, .int v3)]) C dX8_chains_56 (by decide) rfl ?_
        exact g_at [1, 2, 3, 0] rfl (b58 (fX8_chains_b49 n) ih 100 v2 v3 (0 : Int32) μ hf)
  have b40 : ∀ (k19 : Int32 → Int32 → Int32 → Mm → Option (Int32 × Mm)) (hk19 : ∀ (v1 : Int32) (v2 : Int32) (v3 : Int32) (μ : Mm) , k19 v1 v2 v3 μ = some out → G κ (Vw κ ε layM μ) 5 19 [(0, .ref (ea ε 0)), (1, .int v1), (2, .int v2), (3, .int v3)] []) (v1 : Int32) (v2 : Int32) (v3 : Int32) (s0 : Int32) (s1 : Int32) (μ : Mm) , fX8_chains_b40 k19 v1 v2 v3 s0 s1 μ = some out → G κ (Vw κ ε layM μ) 5 40 [(0, .ref (ea ε 0)), (1, .int v1), (2, .int v2), (3, .int v3)] [.int s0, .int s1, .ref (ea ε 28)] := by
    intro k19 hk19 v1 v2 v3 s0 s1 μ hf
    refine g_iast (pc := 40) C E layM_28 dX8_chains_40 hf (fun hf => ?_)
    refine g_iinc (pc := 41) (i := 3) (j := 3) (v := (v3 + (1 : Int32))) (L' := [(3, .int (v3 + (1 : Int32))), (0, .ref (ea ε 0)), (1, .int v1), (2, .int v2)]) C dX8_chains_41 rfl (cx_1 _) (by decide) rfl ?_
    refine g_goto (pc := 44) (tgt := 19) C dX8_chains_44 rfl ?_
    exact g_at [1, 2, 3, 0] rfl (hk19 v1 v2 (v3 + (1 : Int32)) (wI μ 28 (Int32.toNatClampNeg s1) s0) hf)
  have b19 : ∀ (n : Nat) (v1 : Int32) (v2 : Int32) (v3 : Int32) (μ : Mm) , fX8_chains_b19 n v1 v2 v3 μ = some out → G κ (Vw κ ε layM μ) 5 19 [(0, .ref (ea ε 0)), (1, .int v1), (2, .int v2), (3, .int v3)] [] := by
    intro n
    induction n with
    | zero => intro v1 v2 v3 μ hf; exact none_ne hf
    | succ n ih =>
      intro v1 v2 v3 μ hf
      refine g_iload_n (pc := 19) (i := 3) (j := 3) C dX8_chains_19 rfl rfl ?_
      refine g_bipush (pc := 20) C dX8_chains_20 cb_8 ?_
      refine g_icmp_ge (pc := 22) (tgt := 47) C dX8_chains_22 rfl hf (fun _ hf => ?_) (fun _ hf => ?_)
      · refine g_iconst (pc := 47) C dX8_chains_47 ci_0 ?_
        refine g_istore_n (pc := 48) (i := 3) (L' := [(3, .int (0 : Int32)), (0, .ref (ea ε 0)), (1, .int v1), (2, .int v2)]) C dX8_chains_48 rfl (by decide) rfl ?_
        exact g_at [1, 3, 0] rfl (b49 100 v2 (0 : Int32) μ hf)
      · refine g_aload_n (pc := 25) (i := 0) (j := 0) C dX8_chains_25 rfl rfl ?_
        refine g_getr (pc := 26) (j := 28) C E fdX8_93 layM_0_41 dX8_chains_26 ?_
        refine g_iload_n (pc := 29) (i := 3) (j := 3) C dX8_chains_29 rfl rfl ?_
        refine g_iload_n (pc := 30) (i := 3) (j := 3) C dX8_chains_30 rfl rfl ?_
        refine g_iload_n (pc := 31) (i := 1) (j := 1) C dX8_chains_31 rfl rfl ?_
        refine g_icmp_ne (pc := 32) (tgt := 39) C dX8_chains_32 rfl hf (fun _ hf => ?_) (fun _ hf => ?_)
        · refine g_iconst (pc := 39) C dX8_chains_39 ci_0 ?_
          exact b40 (fX8_chains_b19 n) ih v1 v2 v3 (0 : Int32) v3 μ hf
        · refine g_iconst (pc := 35) C dX8_chains_35 ci_1 ?_
          refine g_goto (pc := 36) (tgt := 40) C dX8_chains_36 rfl ?_
          exact b40 (fX8_chains_b19 n) ih v1 v2 v3 (1 : Int32) v3 μ hf
  refine g_iload_n (pc := 0) (i := 1) (j := 1) C dX8_chains_0 rfl rfl ?_
  refine g_cpi (pc := 1) (st := []) C lkX8_198 (As := [.int p1]) rfl (fun out h => kX8_isPlain (kl κ) p1 out h) (by decide) rfl (Nat.le_of_ble_eq_true rfl) dX8_chains_1 hf (fun r1 _ hf => ?_)
  refine g_if_eq (pc := 4) (tgt := 14) C dX8_chains_4 rfl hf (fun _ hf => ?_) (fun _ hf => ?_)
  · refine g_bipush (pc := 14) C dX8_chains_14 cb_m2 ?_
    exact g_iretw (pc := 16) C hQ dX8_chains_16 hf
  · refine g_iload_n (pc := 7) (i := 2) (j := 2) C dX8_chains_7 rfl rfl ?_
    refine g_cpi (pc := 8) (st := []) C lkX8_198 (As := [.int p2]) rfl (fun out h => kX8_isPlain (kl κ) p2 out h) (by decide) rfl (Nat.le_of_ble_eq_true rfl) dX8_chains_8 hf (fun r8 _ hf => ?_)
    refine g_if_ne (pc := 11) (tgt := 17) C dX8_chains_11 rfl hf (fun _ hf => ?_) (fun _ hf => ?_)
    · refine g_iconst (pc := 17) C dX8_chains_17 ci_0 ?_
      refine g_istore_n (pc := 18) (i := 3) (L' := [(3, .int (0 : Int32)), (0, .ref (ea ε 0)), (1, .int p1), (2, .int p2)]) C dX8_chains_18 rfl (by decide) rfl ?_
      exact g_at [1, 2, 3, 0] rfl (b19 100 p1 p2 (0 : Int32) μ hf)
    · refine g_bipush (pc := 14) C dX8_chains_14 cb_m2 ?_
      exact g_iretw (pc := 16) C hQ dX8_chains_16 hf
theorem dX8_isOne_0 : decode cX8_isOne 0 = .ok (.aload_n 0, 1) := by decide +kernel
theorem dX8_isOne_1 : decode cX8_isOne 1 = .ok (.iload_n 1, 1) := by decide +kernel
theorem dX8_isOne_2 : decode cX8_isOne 2 = .ok (.lload_n 2, 1) := by decide +kernel
theorem dX8_isOne_3 : decode cX8_isOne 3 = .ok (.invokevirtual 132, 3) := by decide +kernel
theorem dX8_isOne_6 : decode cX8_isOne 6 = .ok (.iload 4, 2) := by decide +kernel
theorem dX8_isOne_8 : decode cX8_isOne 8 = .ok (.bipush 6, 2) := by decide +kernel
theorem dX8_isOne_10 : decode cX8_isOne 10 = .ok (.if_icmp .lt 50, 3) := by decide +kernel
theorem dX8_isOne_13 : decode cX8_isOne 13 = .ok (.aload_n 0, 1) := by decide +kernel
theorem dX8_isOne_14 : decode cX8_isOne 14 = .ok (.getfield 102, 3) := by decide +kernel
theorem dX8_isOne_17 : decode cX8_isOne 17 = .ok (.lconst 0, 1) := by decide +kernel
theorem dX8_isOne_18 : decode cX8_isOne 18 = .ok (.lcmp, 1) := by decide +kernel
theorem dX8_isOne_19 : decode cX8_isOne 19 = .ok (.ifCond .ge 11, 3) := by decide +kernel
theorem dX8_isOne_22 : decode cX8_isOne 22 = .ok (.aload_n 0, 1) := by decide +kernel
theorem dX8_isOne_23 : decode cX8_isOne 23 = .ok (.getfield 102, 3) := by decide +kernel
theorem dX8_isOne_26 : decode cX8_isOne 26 = .ok (.lneg, 1) := by decide +kernel
theorem dX8_isOne_27 : decode cX8_isOne 27 = .ok (.goto 7, 3) := by decide +kernel
theorem dX8_isOne_30 : decode cX8_isOne 30 = .ok (.aload_n 0, 1) := by decide +kernel
theorem dX8_isOne_31 : decode cX8_isOne 31 = .ok (.getfield 102, 3) := by decide +kernel
theorem dX8_isOne_34 : decode cX8_isOne 34 = .ok (.invokestatic 114, 3) := by decide +kernel
theorem dX8_isOne_37 : decode cX8_isOne 37 = .ok (.iload 4, 2) := by decide +kernel
theorem dX8_isOne_39 : decode cX8_isOne 39 = .ok (.bipush 6, 2) := by decide +kernel
theorem dX8_isOne_41 : decode cX8_isOne 41 = .ok (.if_icmp .ne 8, 3) := by decide +kernel
theorem dX8_isOne_44 : decode cX8_isOne 44 = .ok (.bipush 24, 2) := by decide +kernel
theorem dX8_isOne_46 : decode cX8_isOne 46 = .ok (.goto 5, 3) := by decide +kernel
theorem dX8_isOne_49 : decode cX8_isOne 49 = .ok (.bipush 53, 2) := by decide +kernel
theorem dX8_isOne_51 : decode cX8_isOne 51 = .ok (.if_icmp .gt 7, 3) := by decide +kernel
theorem dX8_isOne_54 : decode cX8_isOne 54 = .ok (.iconst 1, 1) := by decide +kernel
theorem dX8_isOne_55 : decode cX8_isOne 55 = .ok (.goto 4, 3) := by decide +kernel
theorem dX8_isOne_58 : decode cX8_isOne 58 = .ok (.iconst 0, 1) := by decide +kernel
theorem dX8_isOne_59 : decode cX8_isOne 59 = .ok (.ireturn, 1) := by decide +kernel
theorem dX8_isOne_60 : decode cX8_isOne 60 = .ok (.aload_n 0, 1) := by decide +kernel
theorem dX8_isOne_61 : decode cX8_isOne 61 = .ok (.getfield 102, 3) := by decide +kernel
theorem dX8_isOne_64 : decode cX8_isOne 64 = .ok (.lconst 0, 1) := by decide +kernel
theorem dX8_isOne_65 : decode cX8_isOne 65 = .ok (.lcmp, 1) := by decide +kernel
theorem dX8_isOne_66 : decode cX8_isOne 66 = .ok (.ifCond .ne 5, 3) := by decide +kernel
theorem dX8_isOne_69 : decode cX8_isOne 69 = .ok (.iconst 1, 1) := by decide +kernel
theorem dX8_isOne_70 : decode cX8_isOne 70 = .ok (.ireturn, 1) := by decide +kernel
theorem dX8_isOne_71 : decode cX8_isOne 71 = .ok (.aload_n 0, 1) := by decide +kernel
theorem dX8_isOne_72 : decode cX8_isOne 72 = .ok (.getfield 106, 3) := by decide +kernel
theorem dX8_isOne_75 : decode cX8_isOne 75 = .ok (.ifCond .ge 5, 3) := by decide +kernel
theorem dX8_isOne_78 : decode cX8_isOne 78 = .ok (.iconst 0, 1) := by decide +kernel
theorem dX8_isOne_79 : decode cX8_isOne 79 = .ok (.ireturn, 1) := by decide +kernel
theorem dX8_isOne_80 : decode cX8_isOne 80 = .ok (.aload_n 0, 1) := by decide +kernel
theorem dX8_isOne_81 : decode cX8_isOne 81 = .ok (.getfield 102, 3) := by decide +kernel
theorem dX8_isOne_84 : decode cX8_isOne 84 = .ok (.lconst 0, 1) := by decide +kernel
theorem dX8_isOne_85 : decode cX8_isOne 85 = .ok (.lcmp, 1) := by decide +kernel
theorem dX8_isOne_86 : decode cX8_isOne 86 = .ok (.ifCond .ge 11, 3) := by decide +kernel
theorem dX8_isOne_89 : decode cX8_isOne 89 = .ok (.aload_n 0, 1) := by decide +kernel
theorem dX8_isOne_90 : decode cX8_isOne 90 = .ok (.getfield 102, 3) := by decide +kernel
theorem dX8_isOne_93 : decode cX8_isOne 93 = .ok (.lneg, 1) := by decide +kernel
theorem dX8_isOne_94 : decode cX8_isOne 94 = .ok (.goto 7, 3) := by decide +kernel
theorem dX8_isOne_97 : decode cX8_isOne 97 = .ok (.aload_n 0, 1) := by decide +kernel
theorem dX8_isOne_98 : decode cX8_isOne 98 = .ok (.getfield 102, 3) := by decide +kernel
theorem dX8_isOne_101 : decode cX8_isOne 101 = .ok (.invokestatic 114, 3) := by decide +kernel
theorem dX8_isOne_104 : decode cX8_isOne 104 = .ok (.aload_n 0, 1) := by decide +kernel
theorem dX8_isOne_105 : decode cX8_isOne 105 = .ok (.getfield 106, 3) := by decide +kernel
theorem dX8_isOne_108 : decode cX8_isOne 108 = .ok (.iadd, 1) := by decide +kernel
theorem dX8_isOne_109 : decode cX8_isOne 109 = .ok (.istore 5, 2) := by decide +kernel
theorem dX8_isOne_111 : decode cX8_isOne 111 = .ok (.iload 5, 2) := by decide +kernel
theorem dX8_isOne_113 : decode cX8_isOne 113 = .ok (.bipush 63, 2) := by decide +kernel
theorem dX8_isOne_115 : decode cX8_isOne 115 = .ok (.if_icmp .le 35, 3) := by decide +kernel
theorem dX8_isOne_118 : decode cX8_isOne 118 = .ok (.iload 4, 2) := by decide +kernel
theorem dX8_isOne_120 : decode cX8_isOne 120 = .ok (.iconst 5, 1) := by decide +kernel
theorem dX8_isOne_121 : decode cX8_isOne 121 = .ok (.if_icmp .ne 27, 3) := by decide +kernel
theorem dX8_isOne_124 : decode cX8_isOne 124 = .ok (.aload_n 0, 1) := by decide +kernel
theorem dX8_isOne_125 : decode cX8_isOne 125 = .ok (.getfield 102, 3) := by decide +kernel
theorem dX8_isOne_128 : decode cX8_isOne 128 = .ok (.ldc2_w 156, 3) := by decide +kernel
theorem dX8_isOne_131 : decode cX8_isOne 131 = .ok (.lcmp, 1) := by decide +kernel
theorem dX8_isOne_132 : decode cX8_isOne 132 = .ok (.ifCond .ne 16, 3) := by decide +kernel
theorem dX8_isOne_135 : decode cX8_isOne 135 = .ok (.aload_n 0, 1) := by decide +kernel
theorem dX8_isOne_136 : decode cX8_isOne 136 = .ok (.getfield 106, 3) := by decide +kernel
theorem dX8_isOne_139 : decode cX8_isOne 139 = .ok (.bipush 63, 2) := by decide +kernel
theorem dX8_isOne_141 : decode cX8_isOne 141 = .ok (.if_icmp .ne 7, 3) := by decide +kernel
theorem dX8_isOne_144 : decode cX8_isOne 144 = .ok (.iconst 1, 1) := by decide +kernel
theorem dX8_isOne_145 : decode cX8_isOne 145 = .ok (.goto 4, 3) := by decide +kernel
theorem dX8_isOne_148 : decode cX8_isOne 148 = .ok (.iconst 0, 1) := by decide +kernel
theorem dX8_isOne_149 : decode cX8_isOne 149 = .ok (.ireturn, 1) := by decide +kernel
theorem dX8_isOne_150 : decode cX8_isOne 150 = .ok (.iload 4, 2) := by decide +kernel
theorem dX8_isOne_152 : decode cX8_isOne 152 = .ok (.aload_n 0, 1) := by decide +kernel
theorem dX8_isOne_153 : decode cX8_isOne 153 = .ok (.getfield 102, 3) := by decide +kernel
theorem dX8_isOne_156 : decode cX8_isOne 156 = .ok (.aload_n 0, 1) := by decide +kernel
theorem dX8_isOne_157 : decode cX8_isOne 157 = .ok (.getfield 106, 3) := by decide +kernel
theorem dX8_isOne_160 : decode cX8_isOne 160 = .ok (.lshl, 1) := by decide +kernel
theorem dX8_isOne_161 : decode cX8_isOne 161 = .ok (.invokestatic 158, 3) := by decide +kernel
theorem dX8_isOne_164 : decode cX8_isOne 164 = .ok (.ireturn, 1) := by decide +kernel
def fX8_isOne_b101 (v4 : Int32) (s0 : Int64) (μ : Mm) : Option (Int32 × Mm) := ((fX8_lengthOf s0).bind fun r101 => (if (r101 + (μ.1 0 43)) ≤ (63 : Int32) then ((fX8_fits v4 (jlshl (μ.2 0 42) (μ.1 0 43))).bind fun r161 => (if rbz r161 = true then some (r161, μ) else none)) else (if v4 = (5 : Int32) then (if (μ.2 0 42) = (-1 : Int64) then (if (μ.1 0 43) = (63 : Int32) then some ((1 : Int32), μ) else some ((0 : Int32), μ)) else some ((0 : Int32), μ)) else some ((0 : Int32), μ))))
def fX8_isOne_b51 (s0 : Int32) (s1 : Int32) (μ : Mm) : Option (Int32 × Mm) := (if s0 < s1 then some ((0 : Int32), μ) else some ((1 : Int32), μ))
def fX8_isOne_b34 (v4 : Int32) (s0 : Int64) (μ : Mm) : Option (Int32 × Mm) := ((fX8_lengthOf s0).bind fun r34 => (if v4 = (6 : Int32) then fX8_isOne_b51 (24 : Int32) r34 μ else fX8_isOne_b51 (53 : Int32) r34 μ))
def fX8_isOne (p1 : Int32) (p2 : Int64) (p3 : Int32) (μ : Mm) : Option (Int32 × Mm) := ((fX8_takeApart p1 p2 μ).bind fun μ3 => (if p3 < (6 : Int32) then (if (μ3.2 0 42) = (0 : Int64) then some ((1 : Int32), μ3) else (if 0 ≤ (μ3.1 0 43) then (if (0 : Int64) ≤ (μ3.2 0 42) then fX8_isOne_b101 p3 (μ3.2 0 42) μ3 else fX8_isOne_b101 p3 (-(μ3.2 0 42)) μ3) else some ((0 : Int32), μ3))) else (if (0 : Int64) ≤ (μ3.2 0 42) then fX8_isOne_b34 p3 (μ3.2 0 42) μ3 else fX8_isOne_b34 p3 (-(μ3.2 0 42)) μ3)))
set_option maxRecDepth 100000 in
set_option maxHeartbeats 4000000 in
theorem kX8_isOne (l : Launch) (ε : Ev) (p1 : Int32) (p2 : Int64) (p3 : Int32) (μ : Mm) (out : (Int32 × Mm)) (hf : fX8_isOne p1 p2 p3 μ = some out) : Sp l ε layM yX8_isOne cX8_isOne 6 (some .boolean) 2 [.ref (ea ε 0), .int p1, .long p2, .int p3] (some (.int out.1)) μ out.2 := by
  refine Sp.of [(0, .ref (ea ε 0)), (1, .int p1), (2, .long p2), (4, .int p3)] rfl (by decide +kernel) (Nat.le_of_ble_eq_true rfl) ?_
  intro κ hκ C E hQ
  subst hκ
  replace C : Cf κ cX8_isOne 6 RX8 (some .boolean) 2 := C
  have b101 : ∀ (v4 : Int32) (s0 : Int64) (μ : Mm) , fX8_isOne_b101 v4 s0 μ = some out → G κ (Vw κ ε layM μ) 6 101 [(0, .ref (ea ε 0)), (4, .int v4)] [.long s0] := by
    intro v4 s0 μ hf
    refine g_cpi (pc := 101) (st := []) C lkX8_114 (As := [.long s0]) rfl (fun out h => kX8_lengthOf (kl κ) s0 out h) (by decide) rfl (Nat.le_of_ble_eq_true rfl) dX8_isOne_101 hf (fun r101 _ hf => ?_)
    refine g_aload_n (pc := 104) (i := 0) (j := 0) C dX8_isOne_104 rfl rfl ?_
    refine g_geti (pc := 105) C E fdX8_106 layM_0_43 dX8_isOne_105 ?_
    refine g_iadd (pc := 108) C dX8_isOne_108 ?_
    refine g_istore (pc := 109) (i := 5) (L' := [(5, .int (r101 + (μ.1 0 43))), (0, .ref (ea ε 0)), (4, .int v4)]) C dX8_isOne_109 (by decide) rfl ?_
    refine g_iload (pc := 111) (i := 5) (j := 0) C dX8_isOne_111 rfl ?_
    refine g_bipush (pc := 113) C dX8_isOne_113 cb_63 ?_
    refine g_icmp_le (pc := 115) (tgt := 150) C dX8_isOne_115 rfl hf (fun _ hf => ?_) (fun _ hf => ?_)
    · refine g_iload (pc := 150) (i := 4) (j := 2) C dX8_isOne_150 rfl ?_
      refine g_aload_n (pc := 152) (i := 0) (j := 1) C dX8_isOne_152 rfl rfl ?_
      refine g_getl (pc := 153) C E fdX8_102 layM_0_42 dX8_isOne_153 ?_
      refine g_aload_n (pc := 156) (i := 0) (j := 1) C dX8_isOne_156 rfl rfl ?_
      refine g_geti (pc := 157) C E fdX8_106 layM_0_43 dX8_isOne_157 ?_
      refine g_lshl (pc := 160) C dX8_isOne_160 ?_
      refine g_cpi (pc := 161) (st := []) C lkX8_158 (As := [.int v4, .long (jlshl (μ.2 0 42) (μ.1 0 43))]) rfl (fun out h => kX8_fits (kl κ) v4 (jlshl (μ.2 0 42) (μ.1 0 43)) out h) (by decide) rfl (Nat.le_of_ble_eq_true rfl) dX8_isOne_161 hf (fun r161 _ hf => ?_)
      exact g_zretw (pc := 164) C hQ dX8_isOne_164 hf
    · refine g_iload (pc := 118) (i := 4) (j := 2) C dX8_isOne_118 rfl ?_
      refine g_iconst (pc := 120) C dX8_isOne_120 ci_5 ?_
      refine g_icmp_ne (pc := 121) (tgt := 148) C dX8_isOne_121 rfl hf (fun _ hf => ?_) (fun _ hf => ?_)
      · refine g_iconst (pc := 148) C dX8_isOne_148 ci_0 ?_
        exact g_zret1w (pc := 149) C rfl hQ dX8_isOne_149 hf
      · refine g_aload_n (pc := 124) (i := 0) (j := 1) C dX8_isOne_124 rfl rfl ?_
        refine g_getl (pc := 125) C E fdX8_102 layM_0_42 dX8_isOne_125 ?_
        refine g_ldc2 (pc := 128) C cnX8_156 dX8_isOne_128 ?_
        refine g_lcmp_ne (pc := 131) (tgt := 148) C dX8_isOne_131 dX8_isOne_132 rfl hf (fun _ hf => ?_) (fun _ hf => ?_)
        · refine g_iconst (pc := 148) C dX8_isOne_148 ci_0 ?_
          exact g_zret1w (pc := 149) C rfl hQ dX8_isOne_149 hf
        · refine g_aload_n (pc := 135) (i := 0) (j := 1) C dX8_isOne_135 rfl rfl ?_
          refine g_geti (pc := 136) C E fdX8_106 layM_0_43 dX8_isOne_136 ?_
          refine g_bipush (pc := 139) C dX8_isOne_139 cb_63 ?_
          refine g_icmp_ne (pc := 141) (tgt := 148) C dX8_isOne_141 rfl hf (fun _ hf => ?_) (fun _ hf => ?_)
          · refine g_iconst (pc := 148) C dX8_isOne_148 ci_0 ?_
            exact g_zret1w (pc := 149) C rfl hQ dX8_isOne_149 hf
          · refine g_iconst (pc := 144) C dX8_isOne_144 ci_1 ?_
            refine g_goto (pc := 145) (tgt := 149) C dX8_isOne_145 rfl ?_
            exact g_zret1w (pc := 149) C rfl hQ dX8_isOne_149 hf
  have b51 : ∀ (s0 : Int32) (s1 : Int32) (μ : Mm) , fX8_isOne_b51 s0 s1 μ = some out → G κ (Vw κ ε layM μ) 6 51 [] [.int s0, .int s1] := by
    intro s0 s1 μ hf
    refine g_icmp_gt (pc := 51) (tgt := 58) C dX8_isOne_51 rfl hf (fun _ hf => ?_) (fun _ hf => ?_)
    · refine g_iconst (pc := 58) C dX8_isOne_58 ci_0 ?_
      exact g_zret1w (pc := 59) C rfl hQ dX8_isOne_59 hf
    · refine g_iconst (pc := 54) C dX8_isOne_54 ci_1 ?_
      refine g_goto (pc := 55) (tgt := 59) C dX8_isOne_55 rfl ?_
      exact g_zret1w (pc := 59) C rfl hQ dX8_isOne_59 hf
  have b34 : ∀ (v4 : Int32) (s0 : Int64) (μ : Mm) , fX8_isOne_b34 v4 s0 μ = some out → G κ (Vw κ ε layM μ) 6 34 [(4, .int v4)] [.long s0] := by
    intro v4 s0 μ hf
    refine g_cpi (pc := 34) (st := []) C lkX8_114 (As := [.long s0]) rfl (fun out h => kX8_lengthOf (kl κ) s0 out h) (by decide) rfl (Nat.le_of_ble_eq_true rfl) dX8_isOne_34 hf (fun r34 _ hf => ?_)
    refine g_iload (pc := 37) (i := 4) (j := 0) C dX8_isOne_37 rfl ?_
    refine g_bipush (pc := 39) C dX8_isOne_39 cb_6 ?_
    refine g_icmp_ne (pc := 41) (tgt := 49) C dX8_isOne_41 rfl hf (fun _ hf => ?_) (fun _ hf => ?_)
    · refine g_bipush (pc := 49) C dX8_isOne_49 cb_53 ?_
      exact g_at [] rfl (b51 (53 : Int32) r34 μ hf)
    · refine g_bipush (pc := 44) C dX8_isOne_44 cb_24 ?_
      refine g_goto (pc := 46) (tgt := 51) C dX8_isOne_46 rfl ?_
      exact g_at [] rfl (b51 (24 : Int32) r34 μ hf)
  refine g_aload_n (pc := 0) (i := 0) (j := 0) C dX8_isOne_0 rfl rfl ?_
  refine g_iload_n (pc := 1) (i := 1) (j := 1) C dX8_isOne_1 rfl rfl ?_
  refine g_lload_n (pc := 2) (i := 2) (j := 2) C dX8_isOne_2 rfl rfl ?_
  refine g_cwv (pc := 3) (st := []) C E layM_0 lkX8_132 (As := [.int p1, .long p2]) rfl (fun out h => kX8_takeApart (kl κ) ε p1 p2 μ out h) (by decide) rfl (Nat.le_of_ble_eq_true rfl) dX8_isOne_3 hf (fun μ3 _ hf => ?_)
  refine g_iload (pc := 6) (i := 4) (j := 3) C dX8_isOne_6 rfl ?_
  refine g_bipush (pc := 8) C dX8_isOne_8 cb_6 ?_
  refine g_icmp_lt (pc := 10) (tgt := 60) C dX8_isOne_10 rfl hf (fun _ hf => ?_) (fun _ hf => ?_)
  · refine g_aload_n (pc := 60) (i := 0) (j := 0) C dX8_isOne_60 rfl rfl ?_
    refine g_getl (pc := 61) C E fdX8_102 layM_0_42 dX8_isOne_61 ?_
    refine g_lconst (pc := 64) C dX8_isOne_64 cl_0 ?_
    refine g_lcmp_ne (pc := 65) (tgt := 71) C dX8_isOne_65 dX8_isOne_66 rfl hf (fun _ hf => ?_) (fun _ hf => ?_)
    · refine g_aload_n (pc := 71) (i := 0) (j := 0) C dX8_isOne_71 rfl rfl ?_
      refine g_geti (pc := 72) C E fdX8_106 layM_0_43 dX8_isOne_72 ?_
      refine g_if_ge (pc := 75) (tgt := 80) C dX8_isOne_75 rfl hf (fun _ hf => ?_) (fun _ hf => ?_)
      · refine g_aload_n (pc := 80) (i := 0) (j := 0) C dX8_isOne_80 rfl rfl ?_
        refine g_getl (pc := 81) C E fdX8_102 layM_0_42 dX8_isOne_81 ?_
        refine g_lconst (pc := 84) C dX8_isOne_84 cl_0 ?_
        refine g_lcmp_ge (pc := 85) (tgt := 97) C dX8_isOne_85 dX8_isOne_86 rfl hf (fun _ hf => ?_) (fun _ hf => ?_)
        · refine g_aload_n (pc := 97) (i := 0) (j := 0) C dX8_isOne_97 rfl rfl ?_
          refine g_getl (pc := 98) C E fdX8_102 layM_0_42 dX8_isOne_98 ?_
          exact g_at [0, 3] rfl (b101 p3 (μ3.2 0 42) μ3 hf)
        · refine g_aload_n (pc := 89) (i := 0) (j := 0) C dX8_isOne_89 rfl rfl ?_
          refine g_getl (pc := 90) C E fdX8_102 layM_0_42 dX8_isOne_90 ?_
          refine g_lneg (pc := 93) C dX8_isOne_93 ?_
          refine g_goto (pc := 94) (tgt := 101) C dX8_isOne_94 rfl ?_
          exact g_at [0, 3] rfl (b101 p3 (-(μ3.2 0 42)) μ3 hf)
      · refine g_iconst (pc := 78) C dX8_isOne_78 ci_0 ?_
        exact g_zret1w (pc := 79) C rfl hQ dX8_isOne_79 hf
    · refine g_iconst (pc := 69) C dX8_isOne_69 ci_1 ?_
      exact g_zret1w (pc := 70) C rfl hQ dX8_isOne_70 hf
  · refine g_aload_n (pc := 13) (i := 0) (j := 0) C dX8_isOne_13 rfl rfl ?_
    refine g_getl (pc := 14) C E fdX8_102 layM_0_42 dX8_isOne_14 ?_
    refine g_lconst (pc := 17) C dX8_isOne_17 cl_0 ?_
    refine g_lcmp_ge (pc := 18) (tgt := 30) C dX8_isOne_18 dX8_isOne_19 rfl hf (fun _ hf => ?_) (fun _ hf => ?_)
    · refine g_aload_n (pc := 30) (i := 0) (j := 0) C dX8_isOne_30 rfl rfl ?_
      refine g_getl (pc := 31) C E fdX8_102 layM_0_42 dX8_isOne_31 ?_
      exact g_at [3] rfl (b34 p3 (μ3.2 0 42) μ3 hf)
    · refine g_aload_n (pc := 22) (i := 0) (j := 0) C dX8_isOne_22 rfl rfl ?_
      refine g_getl (pc := 23) C E fdX8_102 layM_0_42 dX8_isOne_23 ?_
      refine g_lneg (pc := 26) C dX8_isOne_26 ?_
      refine g_goto (pc := 27) (tgt := 34) C dX8_isOne_27 rfl ?_
      exact g_at [3] rfl (b34 p3 (-(μ3.2 0 42)) μ3 hf)
theorem dX8_convertCell_0 : decode cX8_convertCell 0 = .ok (.aload_n 0, 1) := by decide +kernel
theorem dX8_convertCell_1 : decode cX8_convertCell 1 = .ok (.getfield 19, 3) := by decide +kernel
theorem dX8_convertCell_4 : decode cX8_convertCell 4 = .ok (.iload_n 1, 1) := by decide +kernel
theorem dX8_convertCell_5 : decode cX8_convertCell 5 = .ok (.iaload, 1) := by decide +kernel
theorem dX8_convertCell_6 : decode cX8_convertCell 6 = .ok (.istore 5, 2) := by decide +kernel
theorem dX8_convertCell_8 : decode cX8_convertCell 8 = .ok (.aload_n 0, 1) := by decide +kernel
theorem dX8_convertCell_9 : decode cX8_convertCell 9 = .ok (.getfield 19, 3) := by decide +kernel
theorem dX8_convertCell_12 : decode cX8_convertCell 12 = .ok (.iload_n 2, 1) := by decide +kernel
theorem dX8_convertCell_13 : decode cX8_convertCell 13 = .ok (.iaload, 1) := by decide +kernel
theorem dX8_convertCell_14 : decode cX8_convertCell 14 = .ok (.istore 6, 2) := by decide +kernel
theorem dX8_convertCell_16 : decode cX8_convertCell 16 = .ok (.iload 4, 2) := by decide +kernel
theorem dX8_convertCell_18 : decode cX8_convertCell 18 = .ok (.iconst 2, 1) := by decide +kernel
theorem dX8_convertCell_19 : decode cX8_convertCell 19 = .ok (.if_icmp .ge 87, 3) := by decide +kernel
theorem dX8_convertCell_22 : decode cX8_convertCell 22 = .ok (.iload 4, 2) := by decide +kernel
theorem dX8_convertCell_24 : decode cX8_convertCell 24 = .ok (.ifCond .ne 8, 3) := by decide +kernel
theorem dX8_convertCell_27 : decode cX8_convertCell 27 = .ok (.iload 5, 2) := by decide +kernel
theorem dX8_convertCell_29 : decode cX8_convertCell 29 = .ok (.goto 5, 3) := by decide +kernel
theorem dX8_convertCell_32 : decode cX8_convertCell 32 = .ok (.iload 6, 2) := by decide +kernel
theorem dX8_convertCell_34 : decode cX8_convertCell 34 = .ok (.istore 7, 2) := by decide +kernel
theorem dX8_convertCell_36 : decode cX8_convertCell 36 = .ok (.iload 7, 2) := by decide +kernel
theorem dX8_convertCell_38 : decode cX8_convertCell 38 = .ok (.invokestatic 198, 3) := by decide +kernel
theorem dX8_convertCell_41 : decode cX8_convertCell 41 = .ok (.ifCond .eq 8, 3) := by decide +kernel
theorem dX8_convertCell_44 : decode cX8_convertCell 44 = .ok (.iload 7, 2) := by decide +kernel
theorem dX8_convertCell_46 : decode cX8_convertCell 46 = .ok (.goto 4, 3) := by decide +kernel
theorem dX8_convertCell_49 : decode cX8_convertCell 49 = .ok (.iconst 4, 1) := by decide +kernel
theorem dX8_convertCell_50 : decode cX8_convertCell 50 = .ok (.istore 8, 2) := by decide +kernel
theorem dX8_convertCell_52 : decode cX8_convertCell 52 = .ok (.iload 5, 2) := by decide +kernel
theorem dX8_convertCell_54 : decode cX8_convertCell 54 = .ok (.iload 8, 2) := by decide +kernel
theorem dX8_convertCell_56 : decode cX8_convertCell 56 = .ok (.invokestatic 320, 3) := by decide +kernel
theorem dX8_convertCell_59 : decode cX8_convertCell 59 = .ok (.istore 9, 2) := by decide +kernel
theorem dX8_convertCell_61 : decode cX8_convertCell 61 = .ok (.iload 9, 2) := by decide +kernel
theorem dX8_convertCell_63 : decode cX8_convertCell 63 = .ok (.ifCond .eq 6, 3) := by decide +kernel
theorem dX8_convertCell_66 : decode cX8_convertCell 66 = .ok (.iload 9, 2) := by decide +kernel
theorem dX8_convertCell_68 : decode cX8_convertCell 68 = .ok (.ireturn, 1) := by decide +kernel
theorem dX8_convertCell_69 : decode cX8_convertCell 69 = .ok (.aload_n 0, 1) := by decide +kernel
theorem dX8_convertCell_70 : decode cX8_convertCell 70 = .ok (.iconst 1, 1) := by decide +kernel
theorem dX8_convertCell_71 : decode cX8_convertCell 71 = .ok (.putfield 270, 3) := by decide +kernel
theorem dX8_convertCell_74 : decode cX8_convertCell 74 = .ok (.aload_n 0, 1) := by decide +kernel
theorem dX8_convertCell_75 : decode cX8_convertCell 75 = .ok (.iload 8, 2) := by decide +kernel
theorem dX8_convertCell_77 : decode cX8_convertCell 77 = .ok (.putfield 273, 3) := by decide +kernel
theorem dX8_convertCell_80 : decode cX8_convertCell 80 = .ok (.aload_n 0, 1) := by decide +kernel
theorem dX8_convertCell_81 : decode cX8_convertCell 81 = .ok (.aload_n 0, 1) := by decide +kernel
theorem dX8_convertCell_82 : decode cX8_convertCell 82 = .ok (.iload 5, 2) := by decide +kernel
theorem dX8_convertCell_84 : decode cX8_convertCell 84 = .ok (.aload_n 0, 1) := by decide +kernel
theorem dX8_convertCell_85 : decode cX8_convertCell 85 = .ok (.getfield 31, 3) := by decide +kernel
theorem dX8_convertCell_88 : decode cX8_convertCell 88 = .ok (.bipush 6, 2) := by decide +kernel
theorem dX8_convertCell_90 : decode cX8_convertCell 90 = .ok (.iload_n 1, 1) := by decide +kernel
theorem dX8_convertCell_91 : decode cX8_convertCell 91 = .ok (.imul, 1) := by decide +kernel
theorem dX8_convertCell_92 : decode cX8_convertCell 92 = .ok (.iload_n 3, 1) := by decide +kernel
theorem dX8_convertCell_93 : decode cX8_convertCell 93 = .ok (.iadd, 1) := by decide +kernel
theorem dX8_convertCell_94 : decode cX8_convertCell 94 = .ok (.laload, 1) := by decide +kernel
theorem dX8_convertCell_95 : decode cX8_convertCell 95 = .ok (.iload 8, 2) := by decide +kernel
theorem dX8_convertCell_97 : decode cX8_convertCell 97 = .ok (.invokevirtual 332, 3) := by decide +kernel
theorem dX8_convertCell_100 : decode cX8_convertCell 100 = .ok (.putfield 276, 3) := by decide +kernel
theorem dX8_convertCell_103 : decode cX8_convertCell 103 = .ok (.goto 9, 3) := by decide +kernel
theorem dX8_convertCell_106 : decode cX8_convertCell 106 = .ok (.aload_n 0, 1) := by decide +kernel
theorem dX8_convertCell_107 : decode cX8_convertCell 107 = .ok (.iload_n 1, 1) := by decide +kernel
theorem dX8_convertCell_108 : decode cX8_convertCell 108 = .ok (.iload_n 3, 1) := by decide +kernel
theorem dX8_convertCell_109 : decode cX8_convertCell 109 = .ok (.invokevirtual 283, 3) := by decide +kernel
theorem dX8_convertCell_112 : decode cX8_convertCell 112 = .ok (.iload 4, 2) := by decide +kernel
theorem dX8_convertCell_114 : decode cX8_convertCell 114 = .ok (.iconst 3, 1) := by decide +kernel
theorem dX8_convertCell_115 : decode cX8_convertCell 115 = .ok (.if_icmp .ne 35, 3) := by decide +kernel
theorem dX8_convertCell_118 : decode cX8_convertCell 118 = .ok (.aload_n 0, 1) := by decide +kernel
theorem dX8_convertCell_119 : decode cX8_convertCell 119 = .ok (.getfield 270, 3) := by decide +kernel
theorem dX8_convertCell_122 : decode cX8_convertCell 122 = .ok (.iconst 2, 1) := by decide +kernel
theorem dX8_convertCell_123 : decode cX8_convertCell 123 = .ok (.if_icmp .ne 27, 3) := by decide +kernel
theorem dX8_convertCell_126 : decode cX8_convertCell 126 = .ok (.aload_n 0, 1) := by decide +kernel
theorem dX8_convertCell_127 : decode cX8_convertCell 127 = .ok (.getfield 273, 3) := by decide +kernel
theorem dX8_convertCell_130 : decode cX8_convertCell 130 = .ok (.ifCond .le 20, 3) := by decide +kernel
theorem dX8_convertCell_133 : decode cX8_convertCell 133 = .ok (.iload 6, 2) := by decide +kernel
theorem dX8_convertCell_135 : decode cX8_convertCell 135 = .ok (.i2l, 1) := by decide +kernel
theorem dX8_convertCell_136 : decode cX8_convertCell 136 = .ok (.lconst 1, 1) := by decide +kernel
theorem dX8_convertCell_137 : decode cX8_convertCell 137 = .ok (.ldc2_w 96, 3) := by decide +kernel
theorem dX8_convertCell_140 : decode cX8_convertCell 140 = .ok (.invokestatic 98, 3) := by decide +kernel
theorem dX8_convertCell_143 : decode cX8_convertCell 143 = .ok (.ifCond .eq 7, 3) := by decide +kernel
theorem dX8_convertCell_146 : decode cX8_convertCell 146 = .ok (.iconst 1, 1) := by decide +kernel
theorem dX8_convertCell_147 : decode cX8_convertCell 147 = .ok (.goto 4, 3) := by decide +kernel
theorem dX8_convertCell_150 : decode cX8_convertCell 150 = .ok (.iconst 0, 1) := by decide +kernel
theorem dX8_convertCell_151 : decode cX8_convertCell 151 = .ok (.istore 7, 2) := by decide +kernel
theorem dX8_convertCell_153 : decode cX8_convertCell 153 = .ok (.iload 7, 2) := by decide +kernel
theorem dX8_convertCell_155 : decode cX8_convertCell 155 = .ok (.ifCond .ne 22, 3) := by decide +kernel
theorem dX8_convertCell_158 : decode cX8_convertCell 158 = .ok (.aload_n 0, 1) := by decide +kernel
theorem dX8_convertCell_159 : decode cX8_convertCell 159 = .ok (.iload 6, 2) := by decide +kernel
theorem dX8_convertCell_161 : decode cX8_convertCell 161 = .ok (.aload_n 0, 1) := by decide +kernel
theorem dX8_convertCell_162 : decode cX8_convertCell 162 = .ok (.getfield 270, 3) := by decide +kernel
theorem dX8_convertCell_165 : decode cX8_convertCell 165 = .ok (.aload_n 0, 1) := by decide +kernel
theorem dX8_convertCell_166 : decode cX8_convertCell 166 = .ok (.getfield 273, 3) := by decide +kernel
theorem dX8_convertCell_169 : decode cX8_convertCell 169 = .ok (.aload_n 0, 1) := by decide +kernel
theorem dX8_convertCell_170 : decode cX8_convertCell 170 = .ok (.getfield 276, 3) := by decide +kernel
theorem dX8_convertCell_173 : decode cX8_convertCell 173 = .ok (.invokevirtual 328, 3) := by decide +kernel
theorem dX8_convertCell_176 : decode cX8_convertCell 176 = .ok (.ireturn, 1) := by decide +kernel
theorem dX8_convertCell_177 : decode cX8_convertCell 177 = .ok (.aload_n 0, 1) := by decide +kernel
theorem dX8_convertCell_178 : decode cX8_convertCell 178 = .ok (.aload_n 0, 1) := by decide +kernel
theorem dX8_convertCell_179 : decode cX8_convertCell 179 = .ok (.getfield 273, 3) := by decide +kernel
theorem dX8_convertCell_182 : decode cX8_convertCell 182 = .ok (.aload_n 0, 1) := by decide +kernel
theorem dX8_convertCell_183 : decode cX8_convertCell 183 = .ok (.getfield 276, 3) := by decide +kernel
theorem dX8_convertCell_186 : decode cX8_convertCell 186 = .ok (.iload 6, 2) := by decide +kernel
theorem dX8_convertCell_188 : decode cX8_convertCell 188 = .ok (.invokevirtual 357, 3) := by decide +kernel
theorem dX8_convertCell_191 : decode cX8_convertCell 191 = .ok (.ifCond .ne 6, 3) := by decide +kernel
theorem dX8_convertCell_194 : decode cX8_convertCell 194 = .ok (.bipush 8, 2) := by decide +kernel
theorem dX8_convertCell_196 : decode cX8_convertCell 196 = .ok (.ireturn, 1) := by decide +kernel
theorem dX8_convertCell_197 : decode cX8_convertCell 197 = .ok (.aload_n 0, 1) := by decide +kernel
theorem dX8_convertCell_198 : decode cX8_convertCell 198 = .ok (.aload_n 0, 1) := by decide +kernel
theorem dX8_convertCell_199 : decode cX8_convertCell 199 = .ok (.aload_n 0, 1) := by decide +kernel
theorem dX8_convertCell_200 : decode cX8_convertCell 200 = .ok (.getfield 273, 3) := by decide +kernel
theorem dX8_convertCell_203 : decode cX8_convertCell 203 = .ok (.aload_n 0, 1) := by decide +kernel
theorem dX8_convertCell_204 : decode cX8_convertCell 204 = .ok (.getfield 276, 3) := by decide +kernel
theorem dX8_convertCell_207 : decode cX8_convertCell 207 = .ok (.iload 6, 2) := by decide +kernel
theorem dX8_convertCell_209 : decode cX8_convertCell 209 = .ok (.invokevirtual 361, 3) := by decide +kernel
theorem dX8_convertCell_212 : decode cX8_convertCell 212 = .ok (.putfield 276, 3) := by decide +kernel
theorem dX8_convertCell_215 : decode cX8_convertCell 215 = .ok (.aload_n 0, 1) := by decide +kernel
theorem dX8_convertCell_216 : decode cX8_convertCell 216 = .ok (.iload 6, 2) := by decide +kernel
theorem dX8_convertCell_218 : decode cX8_convertCell 218 = .ok (.putfield 273, 3) := by decide +kernel
theorem dX8_convertCell_221 : decode cX8_convertCell 221 = .ok (.iconst 0, 1) := by decide +kernel
theorem dX8_convertCell_222 : decode cX8_convertCell 222 = .ok (.ireturn, 1) := by decide +kernel
def fX8_convertCell_b151 (v6 : Int32) (s0 : Int32) (μ : Mm) : Option (Int32 × Mm) := (if s0 = 0 then ((fX8_bring v6 (μ.1 0 37) (μ.1 0 38) (μ.2 0 39) μ).bind fun r173 => some (r173, μ)) else (bnd (fX8_isOne (μ.1 0 38) (μ.2 0 39) v6 μ) fun r188 μ188 => (if r188 = 0 then some ((8 : Int32), μ188) else (bnd (fX8_asOne (μ188.1 0 38) (μ188.2 0 39) v6 μ188) fun r209 μ209 => some ((0 : Int32), (wI (wL μ209 0 39 r209) 0 38 v6))))))
def fX8_convertCell_b150 (v6 : Int32) (μ : Mm) : Option (Int32 × Mm) := fX8_convertCell_b151 v6 (0 : Int32) μ
def fX8_convertCell_b112 (v4 : Int32) (v6 : Int32) (μ : Mm) : Option (Int32 × Mm) := (if v4 = (3 : Int32) then (if (μ.1 0 37) = (2 : Int32) then (if (μ.1 0 38) ≤ 0 then fX8_convertCell_b150 v6 μ else ((fX8_in (Int32.toInt64 v6) (1 : Int64) (7 : Int64)).bind fun r140 => (if r140 = 0 then fX8_convertCell_b150 v6 μ else fX8_convertCell_b151 v6 (1 : Int32) μ))) else fX8_convertCell_b150 v6 μ) else fX8_convertCell_b150 v6 μ)
def fX8_convertCell_b50 (v1 : Int32) (v3 : Int32) (v4 : Int32) (v5 : Int32) (v6 : Int32) (s0 : Int32) (μ : Mm) : Option (Int32 × Mm) := ((fX8_takeFrom v5 s0).bind fun r56 => (if r56 = 0 then (if inb (((6 : Int32) * v1) + v3) 66 = true then (bnd (fX8_widened v5 ((wI (wI μ 0 37 (1 : Int32)) 0 38 s0).2 8 (Int32.toNatClampNeg (((6 : Int32) * v1) + v3))) s0 (wI (wI μ 0 37 (1 : Int32)) 0 38 s0)) fun r97 μ97 => fX8_convertCell_b112 v4 v6 (wL μ97 0 39 r97)) else none) else some (r56, μ)))
def fX8_convertCell_b34 (v1 : Int32) (v3 : Int32) (v4 : Int32) (v5 : Int32) (v6 : Int32) (s0 : Int32) (μ : Mm) : Option (Int32 × Mm) := ((fX8_isPlain s0).bind fun r38 => (if r38 = 0 then fX8_convertCell_b50 v1 v3 v4 v5 v6 (4 : Int32) μ else fX8_convertCell_b50 v1 v3 v4 v5 v6 s0 μ))
def fX8_convertCell (p1 : Int32) (p2 : Int32) (p3 : Int32) (p4 : Int32) (μ : Mm) : Option (Int32 × Mm) := (if inb p1 11 = true then (if inb p2 11 = true then (if (2 : Int32) ≤ p4 then ((fX8_get p1 p3 μ).bind fun μ109 => fX8_convertCell_b112 p4 (μ.1 4 (Int32.toNatClampNeg p2)) μ109) else (if p4 = 0 then fX8_convertCell_b34 p1 p3 p4 (μ.1 4 (Int32.toNatClampNeg p1)) (μ.1 4 (Int32.toNatClampNeg p2)) (μ.1 4 (Int32.toNatClampNeg p1)) μ else fX8_convertCell_b34 p1 p3 p4 (μ.1 4 (Int32.toNatClampNeg p1)) (μ.1 4 (Int32.toNatClampNeg p2)) (μ.1 4 (Int32.toNatClampNeg p2)) μ)) else none) else none)
set_option maxRecDepth 100000 in
set_option maxHeartbeats 4000000 in
theorem kX8_convertCell (l : Launch) (ε : Ev) (p1 : Int32) (p2 : Int32) (p3 : Int32) (p4 : Int32) (μ : Mm) (out : (Int32 × Mm)) (hf : fX8_convertCell p1 p2 p3 p4 μ = some out) : Sp l ε layM yX8_convertCell cX8_convertCell 10 (some .int) 3 [.ref (ea ε 0), .int p1, .int p2, .int p3, .int p4] (some (.int out.1)) μ out.2 := by
  refine Sp.of [(0, .ref (ea ε 0)), (1, .int p1), (2, .int p2), (3, .int p3), (4, .int p4)] rfl (by decide +kernel) (Nat.le_of_ble_eq_true rfl) ?_
  intro κ hκ C E hQ
  subst hκ
  replace C : Cf κ cX8_convertCell 10 RX8 (some .int) 3 := C
  have b151 : ∀ (v6 : Int32) (s0 : Int32) (μ : Mm) , fX8_convertCell_b151 v6 s0 μ = some out → G κ (Vw κ ε layM μ) 10 151 [(0, .ref (ea ε 0)), (6, .int v6)] [.int s0] := by
    intro v6 s0 μ hf
    refine g_istore (pc := 151) (i := 7) (L' := [(7, .int s0), (0, .ref (ea ε 0)), (6, .int v6)]) C dX8_convertCell_151 (by decide) rfl ?_
    refine g_iload (pc := 153) (i := 7) (j := 0) C dX8_convertCell_153 rfl ?_
    refine g_if_ne (pc := 155) (tgt := 177) C dX8_convertCell_155 rfl hf (fun _ hf => ?_) (fun _ hf => ?_)
    · refine g_aload_n (pc := 177) (i := 0) (j := 1) C dX8_convertCell_177 rfl rfl ?_
      refine g_aload_n (pc := 178) (i := 0) (j := 1) C dX8_convertCell_178 rfl rfl ?_
      refine g_geti (pc := 179) C E fdX8_273 layM_0_38 dX8_convertCell_179 ?_
      refine g_aload_n (pc := 182) (i := 0) (j := 1) C dX8_convertCell_182 rfl rfl ?_
      refine g_getl (pc := 183) C E fdX8_276 layM_0_39 dX8_convertCell_183 ?_
      refine g_iload (pc := 186) (i := 6) (j := 2) C dX8_convertCell_186 rfl ?_
      refine g_cwi (pc := 188) (st := []) C E layM_0 lkX8_357 (As := [.int (μ.1 0 38), .long (μ.2 0 39), .int v6]) rfl (fun out h => kX8_isOne (kl κ) ε (μ.1 0 38) (μ.2 0 39) v6 μ out h) (by decide) rfl (Nat.le_of_ble_eq_true rfl) dX8_convertCell_188 hf (fun r188 μ188 _ hf => ?_)
      refine g_if_ne (pc := 191) (tgt := 197) C dX8_convertCell_191 rfl hf (fun _ hf => ?_) (fun _ hf => ?_)
      · refine g_aload_n (pc := 197) (i := 0) (j := 1) C dX8_convertCell_197 rfl rfl ?_
        refine g_aload_n (pc := 198) (i := 0) (j := 1) C dX8_convertCell_198 rfl rfl ?_
        refine g_aload_n (pc := 199) (i := 0) (j := 1) C dX8_convertCell_199 rfl rfl ?_
        refine g_geti (pc := 200) C E fdX8_273 layM_0_38 dX8_convertCell_200 ?_
        refine g_aload_n (pc := 203) (i := 0) (j := 1) C dX8_convertCell_203 rfl rfl ?_
        refine g_getl (pc := 204) C E fdX8_276 layM_0_39 dX8_convertCell_204 ?_
        refine g_iload (pc := 207) (i := 6) (j := 2) C dX8_convertCell_207 rfl ?_
        refine g_cwl (pc := 209) (st := [.ref (ea ε 0)]) C E layM_0 lkX8_361 (As := [.int (μ188.1 0 38), .long (μ188.2 0 39), .int v6]) rfl (fun out h => kX8_asOne (kl κ) ε (μ188.1 0 38) (μ188.2 0 39) v6 μ188 out h) (by decide) rfl (Nat.le_of_ble_eq_true rfl) dX8_convertCell_209 hf (fun r209 μ209 _ hf => ?_)
        refine g_putl (pc := 212) C E fdX8_276 layM_0_39 dX8_convertCell_212 ?_
        refine g_aload_n (pc := 215) (i := 0) (j := 1) C dX8_convertCell_215 rfl rfl ?_
        refine g_iload (pc := 216) (i := 6) (j := 2) C dX8_convertCell_216 rfl ?_
        refine g_puti (pc := 218) C E fdX8_273 layM_0_38 dX8_convertCell_218 ?_
        refine g_iconst (pc := 221) C dX8_convertCell_221 ci_0 ?_
        exact g_iretw (pc := 222) C hQ dX8_convertCell_222 hf
      · refine g_bipush (pc := 194) C dX8_convertCell_194 cb_8 ?_
        exact g_iretw (pc := 196) C hQ dX8_convertCell_196 hf
    · refine g_aload_n (pc := 158) (i := 0) (j := 1) C dX8_convertCell_158 rfl rfl ?_
      refine g_iload (pc := 159) (i := 6) (j := 2) C dX8_convertCell_159 rfl ?_
      refine g_aload_n (pc := 161) (i := 0) (j := 1) C dX8_convertCell_161 rfl rfl ?_
      refine g_geti (pc := 162) C E fdX8_270 layM_0_37 dX8_convertCell_162 ?_
      refine g_aload_n (pc := 165) (i := 0) (j := 1) C dX8_convertCell_165 rfl rfl ?_
      refine g_geti (pc := 166) C E fdX8_273 layM_0_38 dX8_convertCell_166 ?_
      refine g_aload_n (pc := 169) (i := 0) (j := 1) C dX8_convertCell_169 rfl rfl ?_
      refine g_getl (pc := 170) C E fdX8_276 layM_0_39 dX8_convertCell_170 ?_
      refine g_cri (pc := 173) (st := []) C E layM_0 lkX8_328 (As := [.int v6, .int (μ.1 0 37), .int (μ.1 0 38), .long (μ.2 0 39)]) rfl (fun out h => kX8_bring (kl κ) ε v6 (μ.1 0 37) (μ.1 0 38) (μ.2 0 39) μ out h) (by decide) rfl (Nat.le_of_ble_eq_true rfl) dX8_convertCell_173 hf (fun r173 _ hf => ?_)
      exact g_iretw (pc := 176) C hQ dX8_convertCell_176 hf
  have b150 : ∀ (v6 : Int32) (μ : Mm) , fX8_convertCell_b150 v6 μ = some out → G κ (Vw κ ε layM μ) 10 150 [(0, .ref (ea ε 0)), (6, .int v6)] [] := by
    intro v6 μ hf
    refine g_iconst (pc := 150) C dX8_convertCell_150 ci_0 ?_
    exact b151 v6 (0 : Int32) μ hf
  have b112 : ∀ (v4 : Int32) (v6 : Int32) (μ : Mm) , fX8_convertCell_b112 v4 v6 μ = some out → G κ (Vw κ ε layM μ) 10 112 [(0, .ref (ea ε 0)), (4, .int v4), (6, .int v6)] [] := by
    intro v4 v6 μ hf
    refine g_iload (pc := 112) (i := 4) (j := 1) C dX8_convertCell_112 rfl ?_
    refine g_iconst (pc := 114) C dX8_convertCell_114 ci_3 ?_
    refine g_icmp_ne (pc := 115) (tgt := 150) C dX8_convertCell_115 rfl hf (fun _ hf => ?_) (fun _ hf => ?_)
    · exact g_at [0, 2] rfl (b150 v6 μ hf)
    · refine g_aload_n (pc := 118) (i := 0) (j := 0) C dX8_convertCell_118 rfl rfl ?_
      refine g_geti (pc := 119) C E fdX8_270 layM_0_37 dX8_convertCell_119 ?_
      refine g_iconst (pc := 122) C dX8_convertCell_122 ci_2 ?_
      refine g_icmp_ne (pc := 123) (tgt := 150) C dX8_convertCell_123 rfl hf (fun _ hf => ?_) (fun _ hf => ?_)
      · exact g_at [0, 2] rfl (b150 v6 μ hf)
      · refine g_aload_n (pc := 126) (i := 0) (j := 0) C dX8_convertCell_126 rfl rfl ?_
        refine g_geti (pc := 127) C E fdX8_273 layM_0_38 dX8_convertCell_127 ?_
        refine g_if_le (pc := 130) (tgt := 150) C dX8_convertCell_130 rfl hf (fun _ hf => ?_) (fun _ hf => ?_)
        · exact g_at [0, 2] rfl (b150 v6 μ hf)
        · refine g_iload (pc := 133) (i := 6) (j := 2) C dX8_convertCell_133 rfl ?_
          refine g_i2l (pc := 135) C dX8_convertCell_135 ?_
          refine g_lconst (pc := 136) C dX8_convertCell_136 cl_1 ?_
          refine g_ldc2 (pc := 137) C cnX8_96 dX8_convertCell_137 ?_
          refine g_cpi (pc := 140) (st := []) C lkX8_98 (As := [.long (Int32.toInt64 v6), .long (1 : Int64), .long (7 : Int64)]) rfl (fun out h => kX8_in (kl κ) (Int32.toInt64 v6) (1 : Int64) (7 : Int64) out h) (by decide) rfl (Nat.le_of_ble_eq_true rfl) dX8_convertCell_140 hf (fun r140 _ hf => ?_)
          refine g_if_eq (pc := 143) (tgt := 150) C dX8_convertCell_143 rfl hf (fun _ hf => ?_) (fun _ hf => ?_)
          · exact g_at [0, 2] rfl (b150 v6 μ hf)
          · refine g_iconst (pc := 146) C dX8_convertCell_146 ci_1 ?_
            refine g_goto (pc := 147) (tgt := 151) C dX8_convertCell_147 rfl ?_
            exact g_at [0, 2] rfl (b151 v6 (1 : Int32) μ hf)
  have b50 : ∀ (v1 : Int32) (v3 : Int32) (v4 : Int32) (v5 : Int32) (v6 : Int32) (s0 : Int32) (μ : Mm) , fX8_convertCell_b50 v1 v3 v4 v5 v6 s0 μ = some out → G κ (Vw κ ε layM μ) 10 50 [(0, .ref (ea ε 0)), (1, .int v1), (3, .int v3), (4, .int v4), (5, .int v5), (6, .int v6)] [.int s0] := by
    intro v1 v3 v4 v5 v6 s0 μ hf
    refine g_istore (pc := 50) (i := 8) (L' := [(8, .int s0), (0, .ref (ea ε 0)), (1, .int v1), (3, .int v3), (4, .int v4), (5, .int v5), (6, .int v6)]) C dX8_convertCell_50 (by decide) rfl ?_
    refine g_iload (pc := 52) (i := 5) (j := 5) C dX8_convertCell_52 rfl ?_
    refine g_iload (pc := 54) (i := 8) (j := 0) C dX8_convertCell_54 rfl ?_
    refine g_cpi (pc := 56) (st := []) C lkX8_320 (As := [.int v5, .int s0]) rfl (fun out h => kX8_takeFrom (kl κ) v5 s0 out h) (by decide) rfl (Nat.le_of_ble_eq_true rfl) dX8_convertCell_56 hf (fun r56 _ hf => ?_)
    refine g_istore (pc := 59) (i := 9) (L' := [(9, .int r56), (8, .int s0), (0, .ref (ea ε 0)), (1, .int v1), (3, .int v3), (4, .int v4), (5, .int v5), (6, .int v6)]) C dX8_convertCell_59 (by decide) rfl ?_
    refine g_iload (pc := 61) (i := 9) (j := 0) C dX8_convertCell_61 rfl ?_
    refine g_if_eq (pc := 63) (tgt := 69) C dX8_convertCell_63 rfl hf (fun _ hf => ?_) (fun _ hf => ?_)
    · refine g_aload_n (pc := 69) (i := 0) (j := 2) C dX8_convertCell_69 rfl rfl ?_
      refine g_iconst (pc := 70) C dX8_convertCell_70 ci_1 ?_
      refine g_puti (pc := 71) C E fdX8_270 layM_0_37 dX8_convertCell_71 ?_
      refine g_aload_n (pc := 74) (i := 0) (j := 2) C dX8_convertCell_74 rfl rfl ?_
      refine g_iload (pc := 75) (i := 8) (j := 1) C dX8_convertCell_75 rfl ?_
      refine g_puti (pc := 77) C E fdX8_273 layM_0_38 dX8_convertCell_77 ?_
      refine g_aload_n (pc := 80) (i := 0) (j := 2) C dX8_convertCell_80 rfl rfl ?_
      refine g_aload_n (pc := 81) (i := 0) (j := 2) C dX8_convertCell_81 rfl rfl ?_
      refine g_iload (pc := 82) (i := 5) (j := 6) C dX8_convertCell_82 rfl ?_
      refine g_aload_n (pc := 84) (i := 0) (j := 2) C dX8_convertCell_84 rfl rfl ?_
      refine g_getr (pc := 85) (j := 8) C E fdX8_31 layM_0_8 dX8_convertCell_85 ?_
      refine g_bipush (pc := 88) C dX8_convertCell_88 cb_6 ?_
      refine g_iload_n (pc := 90) (i := 1) (j := 3) C dX8_convertCell_90 rfl rfl ?_
      refine g_imul (pc := 91) C dX8_convertCell_91 ?_
      refine g_iload_n (pc := 92) (i := 3) (j := 4) C dX8_convertCell_92 rfl rfl ?_
      refine g_iadd (pc := 93) C dX8_convertCell_93 ?_
      refine g_lald (pc := 94) C E layM_8 dX8_convertCell_94 hf (fun hf => ?_)
      refine g_iload (pc := 95) (i := 8) (j := 1) C dX8_convertCell_95 rfl ?_
      refine g_cwl (pc := 97) (st := [.ref (ea ε 0)]) C E layM_0 lkX8_332 (As := [.int v5, .long ((wI (wI μ 0 37 (1 : Int32)) 0 38 s0).2 8 (Int32.toNatClampNeg (((6 : Int32) * v1) + v3))), .int s0]) rfl (fun out h => kX8_widened (kl κ) ε v5 ((wI (wI μ 0 37 (1 : Int32)) 0 38 s0).2 8 (Int32.toNatClampNeg (((6 : Int32) * v1) + v3))) s0 (wI (wI μ 0 37 (1 : Int32)) 0 38 s0) out h) (by decide) rfl (Nat.le_of_ble_eq_true rfl) dX8_convertCell_97 hf (fun r97 μ97 _ hf => ?_)
      refine g_putl (pc := 100) C E fdX8_276 layM_0_39 dX8_convertCell_100 ?_
      refine g_goto (pc := 103) (tgt := 112) C dX8_convertCell_103 rfl ?_
      exact g_at [2, 5, 7] rfl (b112 v4 v6 (wL μ97 0 39 r97) hf)
    · refine g_iload (pc := 66) (i := 9) (j := 0) C dX8_convertCell_66 rfl ?_
      exact g_iretw (pc := 68) C hQ dX8_convertCell_68 hf
  have b34 : ∀ (v1 : Int32) (v3 : Int32) (v4 : Int32) (v5 : Int32) (v6 : Int32) (s0 : Int32) (μ : Mm) , fX8_convertCell_b34 v1 v3 v4 v5 v6 s0 μ = some out → G κ (Vw κ ε layM μ) 10 34 [(0, .ref (ea ε 0)), (1, .int v1), (3, .int v3), (4, .int v4), (5, .int v5), (6, .int v6)] [.int s0] := by
    intro v1 v3 v4 v5 v6 s0 μ hf
    refine g_istore (pc := 34) (i := 7) (L' := [(7, .int s0), (0, .ref (ea ε 0)), (1, .int v1), (3, .int v3), (4, .int v4), (5, .int v5), (6, .int v6)]) C dX8_convertCell_34 (by decide) rfl ?_
    refine g_iload (pc := 36) (i := 7) (j := 0) C dX8_convertCell_36 rfl ?_
    refine g_cpi (pc := 38) (st := []) C lkX8_198 (As := [.int s0]) rfl (fun out h => kX8_isPlain (kl κ) s0 out h) (by decide) rfl (Nat.le_of_ble_eq_true rfl) dX8_convertCell_38 hf (fun r38 _ hf => ?_)
    refine g_if_eq (pc := 41) (tgt := 49) C dX8_convertCell_41 rfl hf (fun _ hf => ?_) (fun _ hf => ?_)
    · refine g_iconst (pc := 49) C dX8_convertCell_49 ci_4 ?_
      exact g_at [1, 2, 3, 4, 5, 6] rfl (b50 v1 v3 v4 v5 v6 (4 : Int32) μ hf)
    · refine g_iload (pc := 44) (i := 7) (j := 0) C dX8_convertCell_44 rfl ?_
      refine g_goto (pc := 46) (tgt := 50) C dX8_convertCell_46 rfl ?_
      exact g_at [1, 2, 3, 4, 5, 6] rfl (b50 v1 v3 v4 v5 v6 s0 μ hf)
  refine g_aload_n (pc := 0) (i := 0) (j := 0) C dX8_convertCell_0 rfl rfl ?_
  refine g_getr (pc := 1) (j := 4) C E fdX8_19 layM_0_4 dX8_convertCell_1 ?_
  refine g_iload_n (pc := 4) (i := 1) (j := 1) C dX8_convertCell_4 rfl rfl ?_
  refine g_iald (pc := 5) C E layM_4 dX8_convertCell_5 hf (fun hf => ?_)
  refine g_istore (pc := 6) (i := 5) (L' := [(5, .int (μ.1 4 (Int32.toNatClampNeg p1))), (0, .ref (ea ε 0)), (1, .int p1), (2, .int p2), (3, .int p3), (4, .int p4)]) C dX8_convertCell_6 (by decide) rfl ?_
  refine g_aload_n (pc := 8) (i := 0) (j := 1) C dX8_convertCell_8 rfl rfl ?_
  refine g_getr (pc := 9) (j := 4) C E fdX8_19 layM_0_4 dX8_convertCell_9 ?_
  refine g_iload_n (pc := 12) (i := 2) (j := 3) C dX8_convertCell_12 rfl rfl ?_
  refine g_iald (pc := 13) C E layM_4 dX8_convertCell_13 hf (fun hf => ?_)
  refine g_istore (pc := 14) (i := 6) (L' := [(6, .int (μ.1 4 (Int32.toNatClampNeg p2))), (5, .int (μ.1 4 (Int32.toNatClampNeg p1))), (0, .ref (ea ε 0)), (1, .int p1), (2, .int p2), (3, .int p3), (4, .int p4)]) C dX8_convertCell_14 (by decide) rfl ?_
  refine g_iload (pc := 16) (i := 4) (j := 6) C dX8_convertCell_16 rfl ?_
  refine g_iconst (pc := 18) C dX8_convertCell_18 ci_2 ?_
  refine g_icmp_ge (pc := 19) (tgt := 106) C dX8_convertCell_19 rfl hf (fun _ hf => ?_) (fun _ hf => ?_)
  · refine g_aload_n (pc := 106) (i := 0) (j := 2) C dX8_convertCell_106 rfl rfl ?_
    refine g_iload_n (pc := 107) (i := 1) (j := 3) C dX8_convertCell_107 rfl rfl ?_
    refine g_iload_n (pc := 108) (i := 3) (j := 5) C dX8_convertCell_108 rfl rfl ?_
    refine g_cwv (pc := 109) (st := []) C E layM_0 lkX8_283 (As := [.int p1, .int p3]) rfl (fun out h => kX8_get (kl κ) ε p1 p3 μ out h) (by decide) rfl (Nat.le_of_ble_eq_true rfl) dX8_convertCell_109 hf (fun μ109 _ hf => ?_)
    exact g_at [2, 6, 0] rfl (b112 p4 (μ.1 4 (Int32.toNatClampNeg p2)) μ109 hf)
  · refine g_iload (pc := 22) (i := 4) (j := 6) C dX8_convertCell_22 rfl ?_
    refine g_if_ne (pc := 24) (tgt := 32) C dX8_convertCell_24 rfl hf (fun _ hf => ?_) (fun _ hf => ?_)
    · refine g_iload (pc := 32) (i := 6) (j := 0) C dX8_convertCell_32 rfl ?_
      exact g_at [2, 3, 5, 6, 1, 0] rfl (b34 p1 p3 p4 (μ.1 4 (Int32.toNatClampNeg p1)) (μ.1 4 (Int32.toNatClampNeg p2)) (μ.1 4 (Int32.toNatClampNeg p2)) μ hf)
    · refine g_iload (pc := 27) (i := 5) (j := 1) C dX8_convertCell_27 rfl ?_
      refine g_goto (pc := 29) (tgt := 34) C dX8_convertCell_29 rfl ?_
      exact g_at [2, 3, 5, 6, 1, 0] rfl (b34 p1 p3 p4 (μ.1 4 (Int32.toNatClampNeg p1)) (μ.1 4 (Int32.toNatClampNeg p2)) (μ.1 4 (Int32.toNatClampNeg p1)) μ hf)
theorem dX8_note_0 : decode cX8_note 0 = .ok (.iconst 0, 1) := by decide +kernel
theorem dX8_note_1 : decode cX8_note 1 = .ok (.istore_n 1, 1) := by decide +kernel
theorem dX8_note_2 : decode cX8_note 2 = .ok (.iload_n 1, 1) := by decide +kernel
theorem dX8_note_3 : decode cX8_note 3 = .ok (.bipush 10, 2) := by decide +kernel
theorem dX8_note_5 : decode cX8_note 5 = .ok (.if_icmp .ge 49, 3) := by decide +kernel
theorem dX8_note_8 : decode cX8_note 8 = .ok (.aload_n 0, 1) := by decide +kernel
theorem dX8_note_9 : decode cX8_note 9 = .ok (.getfield 45, 3) := by decide +kernel
theorem dX8_note_12 : decode cX8_note 12 = .ok (.bipush 10, 2) := by decide +kernel
theorem dX8_note_14 : decode cX8_note 14 = .ok (.aload_n 0, 1) := by decide +kernel
theorem dX8_note_15 : decode cX8_note 15 = .ok (.getfield 227, 3) := by decide +kernel
theorem dX8_note_18 : decode cX8_note 18 = .ok (.imul, 1) := by decide +kernel
theorem dX8_note_19 : decode cX8_note 19 = .ok (.iload_n 1, 1) := by decide +kernel
theorem dX8_note_20 : decode cX8_note 20 = .ok (.iadd, 1) := by decide +kernel
theorem dX8_note_21 : decode cX8_note 21 = .ok (.aload_n 0, 1) := by decide +kernel
theorem dX8_note_22 : decode cX8_note 22 = .ok (.getfield 13, 3) := by decide +kernel
theorem dX8_note_25 : decode cX8_note 25 = .ok (.iload_n 1, 1) := by decide +kernel
theorem dX8_note_26 : decode cX8_note 26 = .ok (.iaload, 1) := by decide +kernel
theorem dX8_note_27 : decode cX8_note 27 = .ok (.iastore, 1) := by decide +kernel
theorem dX8_note_28 : decode cX8_note 28 = .ok (.aload_n 0, 1) := by decide +kernel
theorem dX8_note_29 : decode cX8_note 29 = .ok (.getfield 48, 3) := by decide +kernel
theorem dX8_note_32 : decode cX8_note 32 = .ok (.bipush 10, 2) := by decide +kernel
theorem dX8_note_34 : decode cX8_note 34 = .ok (.aload_n 0, 1) := by decide +kernel
theorem dX8_note_35 : decode cX8_note 35 = .ok (.getfield 227, 3) := by decide +kernel
theorem dX8_note_38 : decode cX8_note 38 = .ok (.imul, 1) := by decide +kernel
theorem dX8_note_39 : decode cX8_note 39 = .ok (.iload_n 1, 1) := by decide +kernel
theorem dX8_note_40 : decode cX8_note 40 = .ok (.iadd, 1) := by decide +kernel
theorem dX8_note_41 : decode cX8_note 41 = .ok (.aload_n 0, 1) := by decide +kernel
theorem dX8_note_42 : decode cX8_note 42 = .ok (.getfield 16, 3) := by decide +kernel
theorem dX8_note_45 : decode cX8_note 45 = .ok (.iload_n 1, 1) := by decide +kernel
theorem dX8_note_46 : decode cX8_note 46 = .ok (.iaload, 1) := by decide +kernel
theorem dX8_note_47 : decode cX8_note 47 = .ok (.iastore, 1) := by decide +kernel
theorem dX8_note_48 : decode cX8_note 48 = .ok (.iinc 1 1, 3) := by decide +kernel
theorem dX8_note_51 : decode cX8_note 51 = .ok (.goto (-49), 3) := by decide +kernel
theorem dX8_note_54 : decode cX8_note 54 = .ok (.iconst 0, 1) := by decide +kernel
theorem dX8_note_55 : decode cX8_note 55 = .ok (.istore_n 1, 1) := by decide +kernel
theorem dX8_note_56 : decode cX8_note 56 = .ok (.iload_n 1, 1) := by decide +kernel
theorem dX8_note_57 : decode cX8_note 57 = .ok (.bipush 11, 2) := by decide +kernel
theorem dX8_note_59 : decode cX8_note 59 = .ok (.if_icmp .ge 49, 3) := by decide +kernel
theorem dX8_note_62 : decode cX8_note 62 = .ok (.aload_n 0, 1) := by decide +kernel
theorem dX8_note_63 : decode cX8_note 63 = .ok (.getfield 51, 3) := by decide +kernel
theorem dX8_note_66 : decode cX8_note 66 = .ok (.bipush 11, 2) := by decide +kernel
theorem dX8_note_68 : decode cX8_note 68 = .ok (.aload_n 0, 1) := by decide +kernel
theorem dX8_note_69 : decode cX8_note 69 = .ok (.getfield 227, 3) := by decide +kernel
theorem dX8_note_72 : decode cX8_note 72 = .ok (.imul, 1) := by decide +kernel
theorem dX8_note_73 : decode cX8_note 73 = .ok (.iload_n 1, 1) := by decide +kernel
theorem dX8_note_74 : decode cX8_note 74 = .ok (.iadd, 1) := by decide +kernel
theorem dX8_note_75 : decode cX8_note 75 = .ok (.aload_n 0, 1) := by decide +kernel
theorem dX8_note_76 : decode cX8_note 76 = .ok (.getfield 19, 3) := by decide +kernel
theorem dX8_note_79 : decode cX8_note 79 = .ok (.iload_n 1, 1) := by decide +kernel
theorem dX8_note_80 : decode cX8_note 80 = .ok (.iaload, 1) := by decide +kernel
theorem dX8_note_81 : decode cX8_note 81 = .ok (.iastore, 1) := by decide +kernel
theorem dX8_note_82 : decode cX8_note 82 = .ok (.aload_n 0, 1) := by decide +kernel
theorem dX8_note_83 : decode cX8_note 83 = .ok (.getfield 54, 3) := by decide +kernel
theorem dX8_note_86 : decode cX8_note 86 = .ok (.bipush 11, 2) := by decide +kernel
theorem dX8_note_88 : decode cX8_note 88 = .ok (.aload_n 0, 1) := by decide +kernel
theorem dX8_note_89 : decode cX8_note 89 = .ok (.getfield 227, 3) := by decide +kernel
theorem dX8_note_92 : decode cX8_note 92 = .ok (.imul, 1) := by decide +kernel
theorem dX8_note_93 : decode cX8_note 93 = .ok (.iload_n 1, 1) := by decide +kernel
theorem dX8_note_94 : decode cX8_note 94 = .ok (.iadd, 1) := by decide +kernel
theorem dX8_note_95 : decode cX8_note 95 = .ok (.aload_n 0, 1) := by decide +kernel
theorem dX8_note_96 : decode cX8_note 96 = .ok (.getfield 22, 3) := by decide +kernel
theorem dX8_note_99 : decode cX8_note 99 = .ok (.iload_n 1, 1) := by decide +kernel
theorem dX8_note_100 : decode cX8_note 100 = .ok (.iaload, 1) := by decide +kernel
theorem dX8_note_101 : decode cX8_note 101 = .ok (.iastore, 1) := by decide +kernel
theorem dX8_note_102 : decode cX8_note 102 = .ok (.iinc 1 1, 3) := by decide +kernel
theorem dX8_note_105 : decode cX8_note 105 = .ok (.goto (-49), 3) := by decide +kernel
theorem dX8_note_108 : decode cX8_note 108 = .ok (.iconst 0, 1) := by decide +kernel
theorem dX8_note_109 : decode cX8_note 109 = .ok (.istore_n 1, 1) := by decide +kernel
theorem dX8_note_110 : decode cX8_note 110 = .ok (.iload_n 1, 1) := by decide +kernel
theorem dX8_note_111 : decode cX8_note 111 = .ok (.bipush 66, 2) := by decide +kernel
theorem dX8_note_113 : decode cX8_note 113 = .ok (.if_icmp .ge 69, 3) := by decide +kernel
theorem dX8_note_116 : decode cX8_note 116 = .ok (.aload_n 0, 1) := by decide +kernel
theorem dX8_note_117 : decode cX8_note 117 = .ok (.getfield 57, 3) := by decide +kernel
theorem dX8_note_120 : decode cX8_note 120 = .ok (.bipush 66, 2) := by decide +kernel
theorem dX8_note_122 : decode cX8_note 122 = .ok (.aload_n 0, 1) := by decide +kernel
theorem dX8_note_123 : decode cX8_note 123 = .ok (.getfield 227, 3) := by decide +kernel
theorem dX8_note_126 : decode cX8_note 126 = .ok (.imul, 1) := by decide +kernel
theorem dX8_note_127 : decode cX8_note 127 = .ok (.iload_n 1, 1) := by decide +kernel
theorem dX8_note_128 : decode cX8_note 128 = .ok (.iadd, 1) := by decide +kernel
theorem dX8_note_129 : decode cX8_note 129 = .ok (.aload_n 0, 1) := by decide +kernel
theorem dX8_note_130 : decode cX8_note 130 = .ok (.getfield 25, 3) := by decide +kernel
theorem dX8_note_133 : decode cX8_note 133 = .ok (.iload_n 1, 1) := by decide +kernel
theorem dX8_note_134 : decode cX8_note 134 = .ok (.iaload, 1) := by decide +kernel
theorem dX8_note_135 : decode cX8_note 135 = .ok (.iastore, 1) := by decide +kernel
theorem dX8_note_136 : decode cX8_note 136 = .ok (.aload_n 0, 1) := by decide +kernel
theorem dX8_note_137 : decode cX8_note 137 = .ok (.getfield 60, 3) := by decide +kernel
theorem dX8_note_140 : decode cX8_note 140 = .ok (.bipush 66, 2) := by decide +kernel
theorem dX8_note_142 : decode cX8_note 142 = .ok (.aload_n 0, 1) := by decide +kernel
theorem dX8_note_143 : decode cX8_note 143 = .ok (.getfield 227, 3) := by decide +kernel
theorem dX8_note_146 : decode cX8_note 146 = .ok (.imul, 1) := by decide +kernel
theorem dX8_note_147 : decode cX8_note 147 = .ok (.iload_n 1, 1) := by decide +kernel
theorem dX8_note_148 : decode cX8_note 148 = .ok (.iadd, 1) := by decide +kernel
theorem dX8_note_149 : decode cX8_note 149 = .ok (.aload_n 0, 1) := by decide +kernel
theorem dX8_note_150 : decode cX8_note 150 = .ok (.getfield 28, 3) := by decide +kernel
theorem dX8_note_153 : decode cX8_note 153 = .ok (.iload_n 1, 1) := by decide +kernel
theorem dX8_note_154 : decode cX8_note 154 = .ok (.iaload, 1) := by decide +kernel
theorem dX8_note_155 : decode cX8_note 155 = .ok (.iastore, 1) := by decide +kernel
theorem dX8_note_156 : decode cX8_note 156 = .ok (.aload_n 0, 1) := by decide +kernel
theorem dX8_note_157 : decode cX8_note 157 = .ok (.getfield 63, 3) := by decide +kernel
theorem dX8_note_160 : decode cX8_note 160 = .ok (.bipush 66, 2) := by decide +kernel
theorem dX8_note_162 : decode cX8_note 162 = .ok (.aload_n 0, 1) := by decide +kernel
theorem dX8_note_163 : decode cX8_note 163 = .ok (.getfield 227, 3) := by decide +kernel
theorem dX8_note_166 : decode cX8_note 166 = .ok (.imul, 1) := by decide +kernel
theorem dX8_note_167 : decode cX8_note 167 = .ok (.iload_n 1, 1) := by decide +kernel
theorem dX8_note_168 : decode cX8_note 168 = .ok (.iadd, 1) := by decide +kernel
theorem dX8_note_169 : decode cX8_note 169 = .ok (.aload_n 0, 1) := by decide +kernel
theorem dX8_note_170 : decode cX8_note 170 = .ok (.getfield 31, 3) := by decide +kernel
theorem dX8_note_173 : decode cX8_note 173 = .ok (.iload_n 1, 1) := by decide +kernel
theorem dX8_note_174 : decode cX8_note 174 = .ok (.laload, 1) := by decide +kernel
theorem dX8_note_175 : decode cX8_note 175 = .ok (.lastore, 1) := by decide +kernel
theorem dX8_note_176 : decode cX8_note 176 = .ok (.iinc 1 1, 3) := by decide +kernel
theorem dX8_note_179 : decode cX8_note 179 = .ok (.goto (-69), 3) := by decide +kernel
theorem dX8_note_182 : decode cX8_note 182 = .ok (.iconst 0, 1) := by decide +kernel
theorem dX8_note_183 : decode cX8_note 183 = .ok (.istore_n 1, 1) := by decide +kernel
theorem dX8_note_184 : decode cX8_note 184 = .ok (.iload_n 1, 1) := by decide +kernel
theorem dX8_note_185 : decode cX8_note 185 = .ok (.bipush 20, 2) := by decide +kernel
theorem dX8_note_187 : decode cX8_note 187 = .ok (.if_icmp .ge 29, 3) := by decide +kernel
theorem dX8_note_190 : decode cX8_note 190 = .ok (.aload_n 0, 1) := by decide +kernel
theorem dX8_note_191 : decode cX8_note 191 = .ok (.getfield 66, 3) := by decide +kernel
theorem dX8_note_194 : decode cX8_note 194 = .ok (.bipush 20, 2) := by decide +kernel
theorem dX8_note_196 : decode cX8_note 196 = .ok (.aload_n 0, 1) := by decide +kernel
theorem dX8_note_197 : decode cX8_note 197 = .ok (.getfield 227, 3) := by decide +kernel
theorem dX8_note_200 : decode cX8_note 200 = .ok (.imul, 1) := by decide +kernel
theorem dX8_note_201 : decode cX8_note 201 = .ok (.iload_n 1, 1) := by decide +kernel
theorem dX8_note_202 : decode cX8_note 202 = .ok (.iadd, 1) := by decide +kernel
theorem dX8_note_203 : decode cX8_note 203 = .ok (.aload_n 0, 1) := by decide +kernel
theorem dX8_note_204 : decode cX8_note 204 = .ok (.getfield 35, 3) := by decide +kernel
theorem dX8_note_207 : decode cX8_note 207 = .ok (.iload_n 1, 1) := by decide +kernel
theorem dX8_note_208 : decode cX8_note 208 = .ok (.iaload, 1) := by decide +kernel
theorem dX8_note_209 : decode cX8_note 209 = .ok (.iastore, 1) := by decide +kernel
theorem dX8_note_210 : decode cX8_note 210 = .ok (.iinc 1 1, 3) := by decide +kernel
theorem dX8_note_213 : decode cX8_note 213 = .ok (.goto (-29), 3) := by decide +kernel
theorem dX8_note_216 : decode cX8_note 216 = .ok (.aload_n 0, 1) := by decide +kernel
theorem dX8_note_217 : decode cX8_note 217 = .ok (.getfield 69, 3) := by decide +kernel
theorem dX8_note_220 : decode cX8_note 220 = .ok (.aload_n 0, 1) := by decide +kernel
theorem dX8_note_221 : decode cX8_note 221 = .ok (.getfield 227, 3) := by decide +kernel
theorem dX8_note_224 : decode cX8_note 224 = .ok (.aload_n 0, 1) := by decide +kernel
theorem dX8_note_225 : decode cX8_note 225 = .ok (.getfield 230, 3) := by decide +kernel
theorem dX8_note_228 : decode cX8_note 228 = .ok (.iastore, 1) := by decide +kernel
theorem dX8_note_229 : decode cX8_note 229 = .ok (.aload_n 0, 1) := by decide +kernel
theorem dX8_note_230 : decode cX8_note 230 = .ok (.aload_n 0, 1) := by decide +kernel
theorem dX8_note_231 : decode cX8_note 231 = .ok (.getfield 227, 3) := by decide +kernel
theorem dX8_note_234 : decode cX8_note 234 = .ok (.iconst 1, 1) := by decide +kernel
theorem dX8_note_235 : decode cX8_note 235 = .ok (.iadd, 1) := by decide +kernel
theorem dX8_note_236 : decode cX8_note 236 = .ok (.bipush 14, 2) := by decide +kernel
theorem dX8_note_238 : decode cX8_note 238 = .ok (.irem, 1) := by decide +kernel
theorem dX8_note_239 : decode cX8_note 239 = .ok (.putfield 227, 3) := by decide +kernel
theorem dX8_note_242 : decode cX8_note 242 = .ok (.aload_n 0, 1) := by decide +kernel
theorem dX8_note_243 : decode cX8_note 243 = .ok (.aload_n 0, 1) := by decide +kernel
theorem dX8_note_244 : decode cX8_note 244 = .ok (.getfield 233, 3) := by decide +kernel
theorem dX8_note_247 : decode cX8_note 247 = .ok (.bipush 14, 2) := by decide +kernel
theorem dX8_note_249 : decode cX8_note 249 = .ok (.if_icmp .ge 12, 3) := by decide +kernel
theorem dX8_note_252 : decode cX8_note 252 = .ok (.aload_n 0, 1) := by decide +kernel
theorem dX8_note_253 : decode cX8_note 253 = .ok (.getfield 233, 3) := by decide +kernel
theorem dX8_note_256 : decode cX8_note 256 = .ok (.iconst 1, 1) := by decide +kernel
theorem dX8_note_257 : decode cX8_note 257 = .ok (.iadd, 1) := by decide +kernel
theorem dX8_note_258 : decode cX8_note 258 = .ok (.goto 5, 3) := by decide +kernel
theorem dX8_note_261 : decode cX8_note 261 = .ok (.bipush 14, 2) := by decide +kernel
theorem dX8_note_263 : decode cX8_note 263 = .ok (.putfield 233, 3) := by decide +kernel
theorem dX8_note_266 : decode cX8_note 266 = .ok (.return_, 1) := by decide +kernel
def fX8_note_b184 : Nat → Int32 → Mm → Option Mm
  | 0, _, _ => none
  | n + 1, v1, μ => (if (20 : Int32) ≤ v1 then (if inb (μ.1 0 27) 14 = true then (if (14 : Int32) ≤ ((wI (wI μ 20 (Int32.toNatClampNeg (μ.1 0 27)) (μ.1 0 11)) 0 27 (jrem (((wI μ 20 (Int32.toNatClampNeg (μ.1 0 27)) (μ.1 0 11)).1 0 27) + (1 : Int32)) (14 : Int32))).1 0 26) then some (wI (wI (wI μ 20 (Int32.toNatClampNeg (μ.1 0 27)) (μ.1 0 11)) 0 27 (jrem (((wI μ 20 (Int32.toNatClampNeg (μ.1 0 27)) (μ.1 0 11)).1 0 27) + (1 : Int32)) (14 : Int32))) 0 26 (14 : Int32)) else some (wI (wI (wI μ 20 (Int32.toNatClampNeg (μ.1 0 27)) (μ.1 0 11)) 0 27 (jrem (((wI μ 20 (Int32.toNatClampNeg (μ.1 0 27)) (μ.1 0 11)).1 0 27) + (1 : Int32)) (14 : Int32))) 0 26 (((wI (wI μ 20 (Int32.toNatClampNeg (μ.1 0 27)) (μ.1 0 11)) 0 27 (jrem (((wI μ 20 (Int32.toNatClampNeg (μ.1 0 27)) (μ.1 0 11)).1 0 27) + (1 : Int32)) (14 : Int32))).1 0 26) + (1 : Int32)))) else none) else (if inb v1 20 = true then (if inb (((20 : Int32) * (μ.1 0 27)) + v1) 280 = true then (fX8_note_b184 n) (v1 + (1 : Int32)) (wI μ 19 (Int32.toNatClampNeg (((20 : Int32) * (μ.1 0 27)) + v1)) (μ.1 9 (Int32.toNatClampNeg v1))) else none) else none))
def fX8_note_b110 : Nat → Int32 → Mm → Option Mm
  | 0, _, _ => none
  | n + 1, v1, μ => (if (66 : Int32) ≤ v1 then fX8_note_b184 100 (0 : Int32) μ else (if inb v1 66 = true then (if inb (((66 : Int32) * (μ.1 0 27)) + v1) 924 = true then (if inb v1 66 = true then (if inb (((66 : Int32) * ((wI μ 16 (Int32.toNatClampNeg (((66 : Int32) * (μ.1 0 27)) + v1)) (μ.1 6 (Int32.toNatClampNeg v1))).1 0 27)) + v1) 924 = true then (if inb v1 66 = true then (if inb (((66 : Int32) * ((wI (wI μ 16 (Int32.toNatClampNeg (((66 : Int32) * (μ.1 0 27)) + v1)) (μ.1 6 (Int32.toNatClampNeg v1))) 17 (Int32.toNatClampNeg (((66 : Int32) * ((wI μ 16 (Int32.toNatClampNeg (((66 : Int32) * (μ.1 0 27)) + v1)) (μ.1 6 (Int32.toNatClampNeg v1))).1 0 27)) + v1)) ((wI μ 16 (Int32.toNatClampNeg (((66 : Int32) * (μ.1 0 27)) + v1)) (μ.1 6 (Int32.toNatClampNeg v1))).1 7 (Int32.toNatClampNeg v1))).1 0 27)) + v1) 924 = true then (fX8_note_b110 n) (v1 + (1 : Int32)) (wL (wI (wI μ 16 (Int32.toNatClampNeg (((66 : Int32) * (μ.1 0 27)) + v1)) (μ.1 6 (Int32.toNatClampNeg v1))) 17 (Int32.toNatClampNeg (((66 : Int32) * ((wI μ 16 (Int32.toNatClampNeg (((66 : Int32) * (μ.1 0 27)) + v1)) (μ.1 6 (Int32.toNatClampNeg v1))).1 0 27)) + v1)) ((wI μ 16 (Int32.toNatClampNeg (((66 : Int32) * (μ.1 0 27)) + v1)) (μ.1 6 (Int32.toNatClampNeg v1))).1 7 (Int32.toNatClampNeg v1))) 18 (Int32.toNatClampNeg (((66 : Int32) * ((wI (wI μ 16 (Int32.toNatClampNeg (((66 : Int32) * (μ.1 0 27)) + v1)) (μ.1 6 (Int32.toNatClampNeg v1))) 17 (Int32.toNatClampNeg (((66 : Int32) * ((wI μ 16 (Int32.toNatClampNeg (((66 : Int32) * (μ.1 0 27)) + v1)) (μ.1 6 (Int32.toNatClampNeg v1))).1 0 27)) + v1)) ((wI μ 16 (Int32.toNatClampNeg (((66 : Int32) * (μ.1 0 27)) + v1)) (μ.1 6 (Int32.toNatClampNeg v1))).1 7 (Int32.toNatClampNeg v1))).1 0 27)) + v1)) ((wI (wI μ 16 (Int32.toNatClampNeg (((66 : Int32) * (μ.1 0 27)) + v1)) (μ.1 6 (Int32.toNatClampNeg v1))) 17 (Int32.toNatClampNeg (((66 : Int32) * ((wI μ 16 (Int32.toNatClampNeg (((66 : Int32) * (μ.1 0 27)) + v1)) (μ.1 6 (Int32.toNatClampNeg v1))).1 0 27)) + v1)) ((wI μ 16 (Int32.toNatClampNeg (((66 : Int32) * (μ.1 0 27)) + v1)) (μ.1 6 (Int32.toNatClampNeg v1))).1 7 (Int32.toNatClampNeg v1))).2 8 (Int32.toNatClampNeg v1))) else none) else none) else none) else none) else none) else none))
def fX8_note_b56 : Nat → Int32 → Mm → Option Mm
  | 0, _, _ => none
  | n + 1, v1, μ => (if (11 : Int32) ≤ v1 then fX8_note_b110 100 (0 : Int32) μ else (if inb v1 11 = true then (if inb (((11 : Int32) * (μ.1 0 27)) + v1) 154 = true then (if inb v1 11 = true then (if inb (((11 : Int32) * ((wI μ 14 (Int32.toNatClampNeg (((11 : Int32) * (μ.1 0 27)) + v1)) (μ.1 4 (Int32.toNatClampNeg v1))).1 0 27)) + v1) 154 = true then (fX8_note_b56 n) (v1 + (1 : Int32)) (wI (wI μ 14 (Int32.toNatClampNeg (((11 : Int32) * (μ.1 0 27)) + v1)) (μ.1 4 (Int32.toNatClampNeg v1))) 15 (Int32.toNatClampNeg (((11 : Int32) * ((wI μ 14 (Int32.toNatClampNeg (((11 : Int32) * (μ.1 0 27)) + v1)) (μ.1 4 (Int32.toNatClampNeg v1))).1 0 27)) + v1)) ((wI μ 14 (Int32.toNatClampNeg (((11 : Int32) * (μ.1 0 27)) + v1)) (μ.1 4 (Int32.toNatClampNeg v1))).1 5 (Int32.toNatClampNeg v1))) else none) else none) else none) else none))
def fX8_note_b2 : Nat → Int32 → Mm → Option Mm
  | 0, _, _ => none
  | n + 1, v1, μ => (if (10 : Int32) ≤ v1 then fX8_note_b56 100 (0 : Int32) μ else (if inb v1 10 = true then (if inb (((10 : Int32) * (μ.1 0 27)) + v1) 140 = true then (if inb v1 10 = true then (if inb (((10 : Int32) * ((wI μ 12 (Int32.toNatClampNeg (((10 : Int32) * (μ.1 0 27)) + v1)) (μ.1 2 (Int32.toNatClampNeg v1))).1 0 27)) + v1) 140 = true then (fX8_note_b2 n) (v1 + (1 : Int32)) (wI (wI μ 12 (Int32.toNatClampNeg (((10 : Int32) * (μ.1 0 27)) + v1)) (μ.1 2 (Int32.toNatClampNeg v1))) 13 (Int32.toNatClampNeg (((10 : Int32) * ((wI μ 12 (Int32.toNatClampNeg (((10 : Int32) * (μ.1 0 27)) + v1)) (μ.1 2 (Int32.toNatClampNeg v1))).1 0 27)) + v1)) ((wI μ 12 (Int32.toNatClampNeg (((10 : Int32) * (μ.1 0 27)) + v1)) (μ.1 2 (Int32.toNatClampNeg v1))).1 3 (Int32.toNatClampNeg v1))) else none) else none) else none) else none))
def fX8_note  (μ : Mm) : Option Mm := fX8_note_b2 100 (0 : Int32) μ
set_option maxRecDepth 100000 in
set_option maxHeartbeats 4000000 in
theorem kX8_note (l : Launch) (ε : Ev)  (μ : Mm) (out : Mm) (hf : fX8_note μ = some out) : Sp l ε layM yX8_note cX8_note 2 none 0 [.ref (ea ε 0)] none μ out := by
  refine Sp.of [(0, .ref (ea ε 0))] rfl (by decide +kernel) (Nat.le_of_ble_eq_true rfl) ?_
  intro κ hκ C E hQ
  subst hκ
  replace C : Cf κ cX8_note 2 RX8 none 0 := C
  have b184 : ∀ (n : Nat) (v1 : Int32) (μ : Mm) , fX8_note_b184 n v1 μ = some out → G κ (Vw κ ε layM μ) 2 184 [(0, .ref (ea ε 0)), (1, .int v1)] [] := by
    intro n
    induction n with
    | zero => intro v1 μ hf; exact none_ne hf
    | succ n ih =>
      intro v1 μ hf
      refine g_iload_n (pc := 184) (i := 1) (j := 1) C dX8_note_184 rfl rfl ?_
      refine g_bipush (pc := 185) C dX8_note_185 cb_20 ?_
      refine g_icmp_ge (pc := 187) (tgt := 216) C dX8_note_187 rfl hf (fun _ hf => ?_) (fun _ hf => ?_)
      · refine g_aload_n (pc := 216) (i := 0) (j := 0) C dX8_note_216 rfl rfl ?_
        refine g_getr (pc := 217) (j := 20) C E fdX8_69 layM_0_25 dX8_note_217 ?_
        refine g_aload_n (pc := 220) (i := 0) (j := 0) C dX8_note_220 rfl rfl ?_
        refine g_geti (pc := 221) C E fdX8_227 layM_0_27 dX8_note_221 ?_
        refine g_aload_n (pc := 224) (i := 0) (j := 0) C dX8_note_224 rfl rfl ?_
        refine g_geti (pc := 225) C E fdX8_230 layM_0_11 dX8_note_225 ?_
        refine g_iast (pc := 228) C E layM_20 dX8_note_228 hf (fun hf => ?_)
        refine g_aload_n (pc := 229) (i := 0) (j := 0) C dX8_note_229 rfl rfl ?_
        refine g_aload_n (pc := 230) (i := 0) (j := 0) C dX8_note_230 rfl rfl ?_
        refine g_geti (pc := 231) C E fdX8_227 layM_0_27 dX8_note_231 ?_
        refine g_iconst (pc := 234) C dX8_note_234 ci_1 ?_
        refine g_iadd (pc := 235) C dX8_note_235 ?_
        refine g_bipush (pc := 236) C dX8_note_236 cb_14 ?_
        refine g_irem (pc := 238) C dX8_note_238 (by decide) ?_
        refine g_puti (pc := 239) C E fdX8_227 layM_0_27 dX8_note_239 ?_
        refine g_aload_n (pc := 242) (i := 0) (j := 0) C dX8_note_242 rfl rfl ?_
        refine g_aload_n (pc := 243) (i := 0) (j := 0) C dX8_note_243 rfl rfl ?_
        refine g_geti (pc := 244) C E fdX8_233 layM_0_26 dX8_note_244 ?_
        refine g_bipush (pc := 247) C dX8_note_247 cb_14 ?_
        refine g_icmp_ge (pc := 249) (tgt := 261) C dX8_note_249 rfl hf (fun _ hf => ?_) (fun _ hf => ?_)
        · refine g_bipush (pc := 261) C dX8_note_261 cb_14 ?_
          refine g_puti (pc := 263) C E fdX8_233 layM_0_26 dX8_note_263 ?_
          exact g_vretw (pc := 266) C hQ dX8_note_266 hf
        · refine g_aload_n (pc := 252) (i := 0) (j := 0) C dX8_note_252 rfl rfl ?_
          refine g_geti (pc := 253) C E fdX8_233 layM_0_26 dX8_note_253 ?_
          refine g_iconst (pc := 256) C dX8_note_256 ci_1 ?_
          refine g_iadd (pc := 257) C dX8_note_257 ?_
          refine g_goto (pc := 258) (tgt := 263) C dX8_note_258 rfl ?_
          refine g_puti (pc := 263) C E fdX8_233 layM_0_26 dX8_note_263 ?_
          exact g_vretw (pc := 266) C hQ dX8_note_266 hf
      · refine g_aload_n (pc := 190) (i := 0) (j := 0) C dX8_note_190 rfl rfl ?_
        refine g_getr (pc := 191) (j := 19) C E fdX8_66 layM_0_24 dX8_note_191 ?_
        refine g_bipush (pc := 194) C dX8_note_194 cb_20 ?_
        refine g_aload_n (pc := 196) (i := 0) (j := 0) C dX8_note_196 rfl rfl ?_
        refine g_geti (pc := 197) C E fdX8_227 layM_0_27 dX8_note_197 ?_
        refine g_imul (pc := 200) C dX8_note_200 ?_
        refine g_iload_n (pc := 201) (i := 1) (j := 1) C dX8_note_201 rfl rfl ?_
        refine g_iadd (pc := 202) C dX8_note_202 ?_
        refine g_aload_n (pc := 203) (i := 0) (j := 0) C dX8_note_203 rfl rfl ?_
        refine g_getr (pc := 204) (j := 9) C E fdX8_35 layM_0_9 dX8_note_204 ?_
        refine g_iload_n (pc := 207) (i := 1) (j := 1) C dX8_note_207 rfl rfl ?_
        refine g_iald (pc := 208) C E layM_9 dX8_note_208 hf (fun hf => ?_)
        refine g_iast (pc := 209) C E layM_19 dX8_note_209 hf (fun hf => ?_)
        refine g_iinc (pc := 210) (i := 1) (j := 1) (v := (v1 + (1 : Int32))) (L' := [(1, .int (v1 + (1 : Int32))), (0, .ref (ea ε 0))]) C dX8_note_210 rfl (cx_1 _) (by decide) rfl ?_
        refine g_goto (pc := 213) (tgt := 184) C dX8_note_213 rfl ?_
        exact g_at [1, 0] rfl (ih (v1 + (1 : Int32)) (wI μ 19 (Int32.toNatClampNeg (((20 : Int32) * (μ.1 0 27)) + v1)) (μ.1 9 (Int32.toNatClampNeg v1))) hf)
  have b110 : ∀ (n : Nat) (v1 : Int32) (μ : Mm) , fX8_note_b110 n v1 μ = some out → G κ (Vw κ ε layM μ) 2 110 [(0, .ref (ea ε 0)), (1, .int v1)] [] := by
    intro n
    induction n with
    | zero => intro v1 μ hf; exact none_ne hf
    | succ n ih =>
      intro v1 μ hf
      refine g_iload_n (pc := 110) (i := 1) (j := 1) C dX8_note_110 rfl rfl ?_
      refine g_bipush (pc := 111) C dX8_note_111 cb_66 ?_
      refine g_icmp_ge (pc := 113) (tgt := 182) C dX8_note_113 rfl hf (fun _ hf => ?_) (fun _ hf => ?_)
      · refine g_iconst (pc := 182) C dX8_note_182 ci_0 ?_
        refine g_istore_n (pc := 183) (i := 1) (L' := [(1, .int (0 : Int32)), (0, .ref (ea ε 0))]) C dX8_note_183 rfl (by decide) rfl ?_
        exact g_at [1, 0] rfl (b184 100 (0 : Int32) μ hf)
      · refine g_aload_n (pc := 116) (i := 0) (j := 0) C dX8_note_116 rfl rfl ?_
        refine g_getr (pc := 117) (j := 16) C E fdX8_57 layM_0_21 dX8_note_117 ?_
        refine g_bipush (pc := 120) C dX8_note_120 cb_66 ?_
        refine g_aload_n (pc := 122) (i := 0) (j := 0) C dX8_note_122 rfl rfl ?_
        refine g_geti (pc := 123) C E fdX8_227 layM_0_27 dX8_note_123 ?_
        refine g_imul (pc := 126) C dX8_note_126 ?_
        refine g_iload_n (pc := 127) (i := 1) (j := 1) C dX8_note_127 rfl rfl ?_
        refine g_iadd (pc := 128) C dX8_note_128 ?_
        refine g_aload_n (pc := 129) (i := 0) (j := 0) C dX8_note_129 rfl rfl ?_
        refine g_getr (pc := 130) (j := 6) C E fdX8_25 layM_0_6 dX8_note_130 ?_
        refine g_iload_n (pc := 133) (i := 1) (j := 1) C dX8_note_133 rfl rfl ?_
        refine g_iald (pc := 134) C E layM_6 dX8_note_134 hf (fun hf => ?_)
        refine g_iast (pc := 135) C E layM_16 dX8_note_135 hf (fun hf => ?_)
        refine g_aload_n (pc := 136) (i := 0) (j := 0) C dX8_note_136 rfl rfl ?_
        refine g_getr (pc := 137) (j := 17) C E fdX8_60 layM_0_22 dX8_note_137 ?_
        refine g_bipush (pc := 140) C dX8_note_140 cb_66 ?_
        refine g_aload_n (pc := 142) (i := 0) (j := 0) C dX8_note_142 rfl rfl ?_
        refine g_geti (pc := 143) C E fdX8_227 layM_0_27 dX8_note_143 ?_
        refine g_imul (pc := 146) C dX8_note_146 ?_
        refine g_iload_n (pc := 147) (i := 1) (j := 1) C dX8_note_147 rfl rfl ?_
        refine g_iadd (pc := 148) C dX8_note_148 ?_
        refine g_aload_n (pc := 149) (i := 0) (j := 0) C dX8_note_149 rfl rfl ?_
        refine g_getr (pc := 150) (j := 7) C E fdX8_28 layM_0_7 dX8_note_150 ?_
        refine g_iload_n (pc := 153) (i := 1) (j := 1) C dX8_note_153 rfl rfl ?_
        refine g_iald (pc := 154) C E layM_7 dX8_note_154 hf (fun hf => ?_)
        refine g_iast (pc := 155) C E layM_17 dX8_note_155 hf (fun hf => ?_)
        refine g_aload_n (pc := 156) (i := 0) (j := 0) C dX8_note_156 rfl rfl ?_
        refine g_getr (pc := 157) (j := 18) C E fdX8_63 layM_0_23 dX8_note_157 ?_
        refine g_bipush (pc := 160) C dX8_note_160 cb_66 ?_
        refine g_aload_n (pc := 162) (i := 0) (j := 0) C dX8_note_162 rfl rfl ?_
        refine g_geti (pc := 163) C E fdX8_227 layM_0_27 dX8_note_163 ?_
        refine g_imul (pc := 166) C dX8_note_166 ?_
        refine g_iload_n (pc := 167) (i := 1) (j := 1) C dX8_note_167 rfl rfl ?_
        refine g_iadd (pc := 168) C dX8_note_168 ?_
        refine g_aload_n (pc := 169) (i := 0) (j := 0) C dX8_note_169 rfl rfl ?_
        refine g_getr (pc := 170) (j := 8) C E fdX8_31 layM_0_8 dX8_note_170 ?_
        refine g_iload_n (pc := 173) (i := 1) (j := 1) C dX8_note_173 rfl rfl ?_
        refine g_lald (pc := 174) C E layM_8 dX8_note_174 hf (fun hf => ?_)
        refine g_last (pc := 175) C E layM_18 dX8_note_175 hf (fun hf => ?_)
        refine g_iinc (pc := 176) (i := 1) (j := 1) (v := (v1 + (1 : Int32))) (L' := [(1, .int (v1 + (1 : Int32))), (0, .ref (ea ε 0))]) C dX8_note_176 rfl (cx_1 _) (by decide) rfl ?_
        refine g_goto (pc := 179) (tgt := 110) C dX8_note_179 rfl ?_
        exact g_at [1, 0] rfl (ih (v1 + (1 : Int32)) (wL (wI (wI μ 16 (Int32.toNatClampNeg (((66 : Int32) * (μ.1 0 27)) + v1)) (μ.1 6 (Int32.toNatClampNeg v1))) 17 (Int32.toNatClampNeg (((66 : Int32) * ((wI μ 16 (Int32.toNatClampNeg (((66 : Int32) * (μ.1 0 27)) + v1)) (μ.1 6 (Int32.toNatClampNeg v1))).1 0 27)) + v1)) ((wI μ 16 (Int32.toNatClampNeg (((66 : Int32) * (μ.1 0 27)) + v1)) (μ.1 6 (Int32.toNatClampNeg v1))).1 7 (Int32.toNatClampNeg v1))) 18 (Int32.toNatClampNeg (((66 : Int32) * ((wI (wI μ 16 (Int32.toNatClampNeg (((66 : Int32) * (μ.1 0 27)) + v1)) (μ.1 6 (Int32.toNatClampNeg v1))) 17 (Int32.toNatClampNeg (((66 : Int32) * ((wI μ 16 (Int32.toNatClampNeg (((66 : Int32) * (μ.1 0 27)) + v1)) (μ.1 6 (Int32.toNatClampNeg v1))).1 0 27)) + v1)) ((wI μ 16 (Int32.toNatClampNeg (((66 : Int32) * (μ.1 0 27)) + v1)) (μ.1 6 (Int32.toNatClampNeg v1))).1 7 (Int32.toNatClampNeg v1))).1 0 27)) + v1)) ((wI (wI μ 16 (Int32.toNatClampNeg (((66 : Int32) * (μ.1 0 27)) + v1)) (μ.1 6 (Int32.toNatClampNeg v1))) 17 (Int32.toNatClampNeg (((66 : Int32) * ((wI μ 16 (Int32.toNatClampNeg (((66 : Int32) * (μ.1 0 27)) + v1)) (μ.1 6 (Int32.toNatClampNeg v1))).1 0 27)) + v1)) ((wI μ 16 (Int32.toNatClampNeg (((66 : Int32) * (μ.1 0 27)) + v1)) (μ.1 6 (Int32.toNatClampNeg v1))).1 7 (Int32.toNatClampNeg v1))).2 8 (Int32.toNatClampNeg v1))) hf)
  have b56 : ∀ (n : Nat) (v1 : Int32) (μ : Mm) , fX8_note_b56 n v1 μ = some out → G κ (Vw κ ε layM μ) 2 56 [(0, .ref (ea ε 0)), (1, .int v1)] [] := by
    intro n
    induction n with
    | zero => intro v1 μ hf; exact none_ne hf
    | succ n ih =>
      intro v1 μ hf
      refine g_iload_n (pc := 56) (i := 1) (j := 1) C dX8_note_56 rfl rfl ?_
      refine g_bipush (pc := 57) C dX8_note_57 cb_11 ?_
      refine g_icmp_ge (pc := 59) (tgt := 108) C dX8_note_59 rfl hf (fun _ hf => ?_) (fun _ hf => ?_)
      · refine g_iconst (pc := 108) C dX8_note_108 ci_0 ?_
        refine g_istore_n (pc := 109) (i := 1) (L' := [(1, .int (0 : Int32)), (0, .ref (ea ε 0))]) C dX8_note_109 rfl (by decide) rfl ?_
        exact g_at [1, 0] rfl (b110 100 (0 : Int32) μ hf)
      · refine g_aload_n (pc := 62) (i := 0) (j := 0) C dX8_note_62 rfl rfl ?_
        refine g_getr (pc := 63) (j := 14) C E fdX8_51 layM_0_19 dX8_note_63 ?_
        refine g_bipush (pc := 66) C dX8_note_66 cb_11 ?_
        refine g_aload_n (pc := 68) (i := 0) (j := 0) C dX8_note_68 rfl rfl ?_
        refine g_geti (pc := 69) C E fdX8_227 layM_0_27 dX8_note_69 ?_
        refine g_imul (pc := 72) C dX8_note_72 ?_
        refine g_iload_n (pc := 73) (i := 1) (j := 1) C dX8_note_73 rfl rfl ?_
        refine g_iadd (pc := 74) C dX8_note_74 ?_
        refine g_aload_n (pc := 75) (i := 0) (j := 0) C dX8_note_75 rfl rfl ?_
        refine g_getr (pc := 76) (j := 4) C E fdX8_19 layM_0_4 dX8_note_76 ?_
        refine g_iload_n (pc := 79) (i := 1) (j := 1) C dX8_note_79 rfl rfl ?_
        refine g_iald (pc := 80) C E layM_4 dX8_note_80 hf (fun hf => ?_)
        refine g_iast (pc := 81) C E layM_14 dX8_note_81 hf (fun hf => ?_)
        refine g_aload_n (pc := 82) (i := 0) (j := 0) C dX8_note_82 rfl rfl ?_
        refine g_getr (pc := 83) (j := 15) C E fdX8_54 layM_0_20 dX8_note_83 ?_
        refine g_bipush (pc := 86) C dX8_note_86 cb_11 ?_
        refine g_aload_n (pc := 88) (i := 0) (j := 0) C dX8_note_88 rfl rfl ?_
        refine g_geti (pc := 89) C E fdX8_227 layM_0_27 dX8_note_89 ?_
        refine g_imul (pc := 92) C dX8_note_92 ?_
        refine g_iload_n (pc := 93) (i := 1) (j := 1) C dX8_note_93 rfl rfl ?_
        refine g_iadd (pc := 94) C dX8_note_94 ?_
        refine g_aload_n (pc := 95) (i := 0) (j := 0) C dX8_note_95 rfl rfl ?_
        refine g_getr (pc := 96) (j := 5) C E fdX8_22 layM_0_5 dX8_note_96 ?_
        refine g_iload_n (pc := 99) (i := 1) (j := 1) C dX8_note_99 rfl rfl ?_
        refine g_iald (pc := 100) C E layM_5 dX8_note_100 hf (fun hf => ?_)
        refine g_iast (pc := 101) C E layM_15 dX8_note_101 hf (fun hf => ?_)
        refine g_iinc (pc := 102) (i := 1) (j := 1) (v := (v1 + (1 : Int32))) (L' := [(1, .int (v1 + (1 : Int32))), (0, .ref (ea ε 0))]) C dX8_note_102 rfl (cx_1 _) (by decide) rfl ?_
        refine g_goto (pc := 105) (tgt := 56) C dX8_note_105 rfl ?_
        exact g_at [1, 0] rfl (ih (v1 + (1 : Int32)) (wI (wI μ 14 (Int32.toNatClampNeg (((11 : Int32) * (μ.1 0 27)) + v1)) (μ.1 4 (Int32.toNatClampNeg v1))) 15 (Int32.toNatClampNeg (((11 : Int32) * ((wI μ 14 (Int32.toNatClampNeg (((11 : Int32) * (μ.1 0 27)) + v1)) (μ.1 4 (Int32.toNatClampNeg v1))).1 0 27)) + v1)) ((wI μ 14 (Int32.toNatClampNeg (((11 : Int32) * (μ.1 0 27)) + v1)) (μ.1 4 (Int32.toNatClampNeg v1))).1 5 (Int32.toNatClampNeg v1))) hf)
  have b2 : ∀ (n : Nat) (v1 : Int32) (μ : Mm) , fX8_note_b2 n v1 μ = some out → G κ (Vw κ ε layM μ) 2 2 [(0, .ref (ea ε 0)), (1, .int v1)] [] := by
    intro n
    induction n with
    | zero => intro v1 μ hf; exact none_ne hf
    | succ n ih =>
      intro v1 μ hf
      refine g_iload_n (pc := 2) (i := 1) (j := 1) C dX8_note_2 rfl rfl ?_
      refine g_bipush (pc := 3) C dX8_note_3 cb_10 ?_
      refine g_icmp_ge (pc := 5) (tgt := 54) C dX8_note_5 rfl hf (fun _ hf => ?_) (fun _ hf => ?_)
      · refine g_iconst (pc := 54) C dX8_note_54 ci_0 ?_
        refine g_istore_n (pc := 55) (i := 1) (L' := [(1, .int (0 : Int32)), (0, .ref (ea ε 0))]) C dX8_note_55 rfl (by decide) rfl ?_
        exact g_at [1, 0] rfl (b56 100 (0 : Int32) μ hf)
      · refine g_aload_n (pc := 8) (i := 0) (j := 0) C dX8_note_8 rfl rfl ?_
        refine g_getr (pc := 9) (j := 12) C E fdX8_45 layM_0_17 dX8_note_9 ?_
        refine g_bipush (pc := 12) C dX8_note_12 cb_10 ?_
        refine g_aload_n (pc := 14) (i := 0) (j := 0) C dX8_note_14 rfl rfl ?_
        refine g_geti (pc := 15) C E fdX8_227 layM_0_27 dX8_note_15 ?_
        refine g_imul (pc := 18) C dX8_note_18 ?_
        refine g_iload_n (pc := 19) (i := 1) (j := 1) C dX8_note_19 rfl rfl ?_
        refine g_iadd (pc := 20) C dX8_note_20 ?_
        refine g_aload_n (pc := 21) (i := 0) (j := 0) C dX8_note_21 rfl rfl ?_
        refine g_getr (pc := 22) (j := 2) C E fdX8_13 layM_0_2 dX8_note_22 ?_
        refine g_iload_n (pc := 25) (i := 1) (j := 1) C dX8_note_25 rfl rfl ?_
        refine g_iald (pc := 26) C E layM_2 dX8_note_26 hf (fun hf => ?_)
        refine g_iast (pc := 27) C E layM_12 dX8_note_27 hf (fun hf => ?_)
        refine g_aload_n (pc := 28) (i := 0) (j := 0) C dX8_note_28 rfl rfl ?_
        refine g_getr (pc := 29) (j := 13) C E fdX8_48 layM_0_18 dX8_note_29 ?_
        refine g_bipush (pc := 32) C dX8_note_32 cb_10 ?_
        refine g_aload_n (pc := 34) (i := 0) (j := 0) C dX8_note_34 rfl rfl ?_
        refine g_geti (pc := 35) C E fdX8_227 layM_0_27 dX8_note_35 ?_
        refine g_imul (pc := 38) C dX8_note_38 ?_
        refine g_iload_n (pc := 39) (i := 1) (j := 1) C dX8_note_39 rfl rfl ?_
        refine g_iadd (pc := 40) C dX8_note_40 ?_
        refine g_aload_n (pc := 41) (i := 0) (j := 0) C dX8_note_41 rfl rfl ?_
        refine g_getr (pc := 42) (j := 3) C E fdX8_16 layM_0_3 dX8_note_42 ?_
        refine g_iload_n (pc := 45) (i := 1) (j := 1) C dX8_note_45 rfl rfl ?_
        refine g_iald (pc := 46) C E layM_3 dX8_note_46 hf (fun hf => ?_)
        refine g_iast (pc := 47) C E layM_13 dX8_note_47 hf (fun hf => ?_)
        refine g_iinc (pc := 48) (i := 1) (j := 1) (v := (v1 + (1 : Int32))) (L' := [(1, .int (v1 + (1 : Int32))), (0, .ref (ea ε 0))]) C dX8_note_48 rfl (cx_1 _) (by decide) rfl ?_
        refine g_goto (pc := 51) (tgt := 2) C dX8_note_51 rfl ?_
        exact g_at [1, 0] rfl (ih (v1 + (1 : Int32)) (wI (wI μ 12 (Int32.toNatClampNeg (((10 : Int32) * (μ.1 0 27)) + v1)) (μ.1 2 (Int32.toNatClampNeg v1))) 13 (Int32.toNatClampNeg (((10 : Int32) * ((wI μ 12 (Int32.toNatClampNeg (((10 : Int32) * (μ.1 0 27)) + v1)) (μ.1 2 (Int32.toNatClampNeg v1))).1 0 27)) + v1)) ((wI μ 12 (Int32.toNatClampNeg (((10 : Int32) * (μ.1 0 27)) + v1)) (μ.1 2 (Int32.toNatClampNeg v1))).1 3 (Int32.toNatClampNeg v1))) hf)
  refine g_iconst (pc := 0) C dX8_note_0 ci_0 ?_
  refine g_istore_n (pc := 1) (i := 1) (L' := [(1, .int (0 : Int32)), (0, .ref (ea ε 0))]) C dX8_note_1 rfl (by decide) rfl ?_
  exact g_at [1, 0] rfl (b2 100 (0 : Int32) μ hf)
theorem dX8_put_0 : decode cX8_put 0 = .ok (.bipush 6, 2) := by decide +kernel
theorem dX8_put_2 : decode cX8_put 2 = .ok (.iload_n 1, 1) := by decide +kernel
theorem dX8_put_3 : decode cX8_put 3 = .ok (.imul, 1) := by decide +kernel
theorem dX8_put_4 : decode cX8_put 4 = .ok (.iload_n 2, 1) := by decide +kernel
theorem dX8_put_5 : decode cX8_put 5 = .ok (.iadd, 1) := by decide +kernel
theorem dX8_put_6 : decode cX8_put 6 = .ok (.istore 7, 2) := by decide +kernel
theorem dX8_put_8 : decode cX8_put 8 = .ok (.aload_n 0, 1) := by decide +kernel
theorem dX8_put_9 : decode cX8_put 9 = .ok (.getfield 19, 3) := by decide +kernel
theorem dX8_put_12 : decode cX8_put 12 = .ok (.iload_n 1, 1) := by decide +kernel
theorem dX8_put_13 : decode cX8_put 13 = .ok (.iaload, 1) := by decide +kernel
theorem dX8_put_14 : decode cX8_put 14 = .ok (.invokestatic 198, 3) := by decide +kernel
theorem dX8_put_17 : decode cX8_put 17 = .ok (.istore 8, 2) := by decide +kernel
theorem dX8_put_19 : decode cX8_put 19 = .ok (.aload_n 0, 1) := by decide +kernel
theorem dX8_put_20 : decode cX8_put 20 = .ok (.getfield 25, 3) := by decide +kernel
theorem dX8_put_23 : decode cX8_put 23 = .ok (.iload 7, 2) := by decide +kernel
theorem dX8_put_25 : decode cX8_put 25 = .ok (.iload 8, 2) := by decide +kernel
theorem dX8_put_27 : decode cX8_put 27 = .ok (.ifCond .eq 7, 3) := by decide +kernel
theorem dX8_put_30 : decode cX8_put 30 = .ok (.iconst 1, 1) := by decide +kernel
theorem dX8_put_31 : decode cX8_put 31 = .ok (.goto 4, 3) := by decide +kernel
theorem dX8_put_34 : decode cX8_put 34 = .ok (.iload_n 3, 1) := by decide +kernel
theorem dX8_put_35 : decode cX8_put 35 = .ok (.iastore, 1) := by decide +kernel
theorem dX8_put_36 : decode cX8_put 36 = .ok (.aload_n 0, 1) := by decide +kernel
theorem dX8_put_37 : decode cX8_put 37 = .ok (.getfield 31, 3) := by decide +kernel
theorem dX8_put_40 : decode cX8_put 40 = .ok (.iload 7, 2) := by decide +kernel
theorem dX8_put_42 : decode cX8_put 42 = .ok (.iload 8, 2) := by decide +kernel
theorem dX8_put_44 : decode cX8_put 44 = .ok (.ifCond .eq 20, 3) := by decide +kernel
theorem dX8_put_47 : decode cX8_put 47 = .ok (.aload_n 0, 1) := by decide +kernel
theorem dX8_put_48 : decode cX8_put 48 = .ok (.iload 4, 2) := by decide +kernel
theorem dX8_put_50 : decode cX8_put 50 = .ok (.lload 5, 2) := by decide +kernel
theorem dX8_put_52 : decode cX8_put 52 = .ok (.aload_n 0, 1) := by decide +kernel
theorem dX8_put_53 : decode cX8_put 53 = .ok (.getfield 19, 3) := by decide +kernel
theorem dX8_put_56 : decode cX8_put 56 = .ok (.iload_n 1, 1) := by decide +kernel
theorem dX8_put_57 : decode cX8_put 57 = .ok (.iaload, 1) := by decide +kernel
theorem dX8_put_58 : decode cX8_put 58 = .ok (.invokevirtual 332, 3) := by decide +kernel
theorem dX8_put_61 : decode cX8_put 61 = .ok (.goto 5, 3) := by decide +kernel
theorem dX8_put_64 : decode cX8_put 64 = .ok (.lload 5, 2) := by decide +kernel
theorem dX8_put_66 : decode cX8_put 66 = .ok (.lastore, 1) := by decide +kernel
theorem dX8_put_67 : decode cX8_put 67 = .ok (.aload_n 0, 1) := by decide +kernel
theorem dX8_put_68 : decode cX8_put 68 = .ok (.getfield 28, 3) := by decide +kernel
theorem dX8_put_71 : decode cX8_put 71 = .ok (.iload 7, 2) := by decide +kernel
theorem dX8_put_73 : decode cX8_put 73 = .ok (.iload 8, 2) := by decide +kernel
theorem dX8_put_75 : decode cX8_put 75 = .ok (.ifCond .eq 12, 3) := by decide +kernel
theorem dX8_put_78 : decode cX8_put 78 = .ok (.aload_n 0, 1) := by decide +kernel
theorem dX8_put_79 : decode cX8_put 79 = .ok (.getfield 19, 3) := by decide +kernel
theorem dX8_put_82 : decode cX8_put 82 = .ok (.iload_n 1, 1) := by decide +kernel
theorem dX8_put_83 : decode cX8_put 83 = .ok (.iaload, 1) := by decide +kernel
theorem dX8_put_84 : decode cX8_put 84 = .ok (.goto 5, 3) := by decide +kernel
theorem dX8_put_87 : decode cX8_put 87 = .ok (.iload 4, 2) := by decide +kernel
theorem dX8_put_89 : decode cX8_put 89 = .ok (.iastore, 1) := by decide +kernel
theorem dX8_put_90 : decode cX8_put 90 = .ok (.return_, 1) := by decide +kernel
def fX8_put_b66 (v1 : Int32) (v4 : Int32) (v7 : Int32) (v8 : Int32) (s0 : Int64) (s1 : Int32) (μ : Mm) : Option Mm := (if inb s1 66 = true then (if v8 = 0 then (if inb v7 66 = true then some (wI (wL μ 8 (Int32.toNatClampNeg s1) s0) 7 (Int32.toNatClampNeg v7) v4) else none) else (if inb v1 11 = true then (if inb v7 66 = true then some (wI (wL μ 8 (Int32.toNatClampNeg s1) s0) 7 (Int32.toNatClampNeg v7) ((wL μ 8 (Int32.toNatClampNeg s1) s0).1 4 (Int32.toNatClampNeg v1))) else none) else none)) else none)
def fX8_put_b35 (v1 : Int32) (v4 : Int32) (v5 : Int64) (v7 : Int32) (v8 : Int32) (s0 : Int32) (s1 : Int32) (μ : Mm) : Option Mm := (if inb s1 66 = true then (if v8 = 0 then fX8_put_b66 v1 v4 v7 v8 v5 v7 (wI μ 6 (Int32.toNatClampNeg s1) s0) else (if inb v1 11 = true then (bnd (fX8_widened v4 v5 ((wI μ 6 (Int32.toNatClampNeg s1) s0).1 4 (Int32.toNatClampNeg v1)) (wI μ 6 (Int32.toNatClampNeg s1) s0)) fun r58 μ58 => fX8_put_b66 v1 v4 v7 v8 r58 v7 μ58) else none)) else none)
def fX8_put (p1 : Int32) (p2 : Int32) (p3 : Int32) (p4 : Int32) (p5 : Int64) (μ : Mm) : Option Mm := (if inb p1 11 = true then ((fX8_isPlain (μ.1 4 (Int32.toNatClampNeg p1))).bind fun r14 => (if r14 = 0 then fX8_put_b35 p1 p4 p5 (((6 : Int32) * p1) + p2) r14 p3 (((6 : Int32) * p1) + p2) μ else fX8_put_b35 p1 p4 p5 (((6 : Int32) * p1) + p2) r14 (1 : Int32) (((6 : Int32) * p1) + p2) μ)) else none)
set_option maxRecDepth 100000 in
set_option maxHeartbeats 4000000 in
theorem kX8_put (l : Launch) (ε : Ev) (p1 : Int32) (p2 : Int32) (p3 : Int32) (p4 : Int32) (p5 : Int64) (μ : Mm) (out : Mm) (hf : fX8_put p1 p2 p3 p4 p5 μ = some out) : Sp l ε layM yX8_put cX8_put 9 none 3 [.ref (ea ε 0), .int p1, .int p2, .int p3, .int p4, .long p5] none μ out := by
  refine Sp.of [(0, .ref (ea ε 0)), (1, .int p1), (2, .int p2), (3, .int p3), (4, .int p4), (5, .long p5)] rfl (by decide +kernel) (Nat.le_of_ble_eq_true rfl) ?_
  intro κ hκ C E hQ
  subst hκ
  replace C : Cf κ cX8_put 9 RX8 none 3 := C
  have b66 : ∀ (v1 : Int32) (v4 : Int32) (v7 : Int32) (v8 : Int32) (s0 : Int64) (s1 : Int32) (μ : Mm) , fX8_put_b66 v1 v4 v7 v8 s0 s1 μ = some out → G κ (Vw κ ε layM μ) 9 66 [(0, .ref (ea ε 0)), (1, .int v1), (4, .int v4), (7, .int v7), (8, .int v8)] [.long s0, .int s1, .ref (ea ε 8)] := by
    intro v1 v4 v7 v8 s0 s1 μ hf
    refine g_last (pc := 66) C E layM_8 dX8_put_66 hf (fun hf => ?_)
    refine g_aload_n (pc := 67) (i := 0) (j := 0) C dX8_put_67 rfl rfl ?_
    refine g_getr (pc := 68) (j := 7) C E fdX8_28 layM_0_7 dX8_put_68 ?_
    refine g_iload (pc := 71) (i := 7) (j := 3) C dX8_put_71 rfl ?_
    refine g_iload (pc := 73) (i := 8) (j := 4) C dX8_put_73 rfl ?_
    refine g_if_eq (pc := 75) (tgt := 87) C dX8_put_75 rfl hf (fun _ hf => ?_) (fun _ hf => ?_)
    · refine g_iload (pc := 87) (i := 4) (j := 2) C dX8_put_87 rfl ?_
      refine g_iast (pc := 89) C E layM_7 dX8_put_89 hf (fun hf => ?_)
      exact g_vretw (pc := 90) C hQ dX8_put_90 hf
    · refine g_aload_n (pc := 78) (i := 0) (j := 0) C dX8_put_78 rfl rfl ?_
      refine g_getr (pc := 79) (j := 4) C E fdX8_19 layM_0_4 dX8_put_79 ?_
      refine g_iload_n (pc := 82) (i := 1) (j := 1) C dX8_put_82 rfl rfl ?_
      refine g_iald (pc := 83) C E layM_4 dX8_put_83 hf (fun hf => ?_)
      refine g_goto (pc := 84) (tgt := 89) C dX8_put_84 rfl ?_
      refine g_iast (pc := 89) C E layM_7 dX8_put_89 hf (fun hf => ?_)
      exact g_vretw (pc := 90) C hQ dX8_put_90 hf
  have b35 : ∀ (v1 : Int32) (v4 : Int32) (v5 : Int64) (v7 : Int32) (v8 : Int32) (s0 : Int32) (s1 : Int32) (μ : Mm) , fX8_put_b35 v1 v4 v5 v7 v8 s0 s1 μ = some out → G κ (Vw κ ε layM μ) 9 35 [(0, .ref (ea ε 0)), (1, .int v1), (4, .int v4), (5, .long v5), (7, .int v7), (8, .int v8)] [.int s0, .int s1, .ref (ea ε 6)] := by
    intro v1 v4 v5 v7 v8 s0 s1 μ hf
    refine g_iast (pc := 35) C E layM_6 dX8_put_35 hf (fun hf => ?_)
    refine g_aload_n (pc := 36) (i := 0) (j := 0) C dX8_put_36 rfl rfl ?_
    refine g_getr (pc := 37) (j := 8) C E fdX8_31 layM_0_8 dX8_put_37 ?_
    refine g_iload (pc := 40) (i := 7) (j := 4) C dX8_put_40 rfl ?_
    refine g_iload (pc := 42) (i := 8) (j := 5) C dX8_put_42 rfl ?_
    refine g_if_eq (pc := 44) (tgt := 64) C dX8_put_44 rfl hf (fun _ hf => ?_) (fun _ hf => ?_)
    · refine g_lload (pc := 64) (i := 5) (j := 3) C dX8_put_64 rfl ?_
      exact g_at [0, 1, 2, 4, 5] rfl (b66 v1 v4 v7 v8 v5 v7 (wI μ 6 (Int32.toNatClampNeg s1) s0) hf)
    · refine g_aload_n (pc := 47) (i := 0) (j := 0) C dX8_put_47 rfl rfl ?_
      refine g_iload (pc := 48) (i := 4) (j := 2) C dX8_put_48 rfl ?_
      refine g_lload (pc := 50) (i := 5) (j := 3) C dX8_put_50 rfl ?_
      refine g_aload_n (pc := 52) (i := 0) (j := 0) C dX8_put_52 rfl rfl ?_
      refine g_getr (pc := 53) (j := 4) C E fdX8_19 layM_0_4 dX8_put_53 ?_
      refine g_iload_n (pc := 56) (i := 1) (j := 1) C dX8_put_56 rfl rfl ?_
      refine g_iald (pc := 57) C E layM_4 dX8_put_57 hf (fun hf => ?_)
      refine g_cwl (pc := 58) (st := [.int v7, .ref (ea ε 8)]) C E layM_0 lkX8_332 (As := [.int v4, .long v5, .int ((wI μ 6 (Int32.toNatClampNeg s1) s0).1 4 (Int32.toNatClampNeg v1))]) rfl (fun out h => kX8_widened (kl κ) ε v4 v5 ((wI μ 6 (Int32.toNatClampNeg s1) s0).1 4 (Int32.toNatClampNeg v1)) (wI μ 6 (Int32.toNatClampNeg s1) s0) out h) (by decide) rfl (Nat.le_of_ble_eq_true rfl) dX8_put_58 hf (fun r58 μ58 _ hf => ?_)
      refine g_goto (pc := 61) (tgt := 66) C dX8_put_61 rfl ?_
      exact g_at [0, 1, 2, 4, 5] rfl (b66 v1 v4 v7 v8 r58 v7 μ58 hf)
  refine g_bipush (pc := 0) C dX8_put_0 cb_6 ?_
  refine g_iload_n (pc := 2) (i := 1) (j := 1) C dX8_put_2 rfl rfl ?_
  refine g_imul (pc := 3) C dX8_put_3 ?_
  refine g_iload_n (pc := 4) (i := 2) (j := 2) C dX8_put_4 rfl rfl ?_
  refine g_iadd (pc := 5) C dX8_put_5 ?_
  refine g_istore (pc := 6) (i := 7) (L' := [(7, .int (((6 : Int32) * p1) + p2)), (0, .ref (ea ε 0)), (1, .int p1), (2, .int p2), (3, .int p3), (4, .int p4), (5, .long p5)]) C dX8_put_6 (by decide) rfl ?_
  refine g_aload_n (pc := 8) (i := 0) (j := 1) C dX8_put_8 rfl rfl ?_
  refine g_getr (pc := 9) (j := 4) C E fdX8_19 layM_0_4 dX8_put_9 ?_
  refine g_iload_n (pc := 12) (i := 1) (j := 2) C dX8_put_12 rfl rfl ?_
  refine g_iald (pc := 13) C E layM_4 dX8_put_13 hf (fun hf => ?_)
  refine g_cpi (pc := 14) (st := []) C lkX8_198 (As := [.int (μ.1 4 (Int32.toNatClampNeg p1))]) rfl (fun out h => kX8_isPlain (kl κ) (μ.1 4 (Int32.toNatClampNeg p1)) out h) (by decide) rfl (Nat.le_of_ble_eq_true rfl) dX8_put_14 hf (fun r14 _ hf => ?_)
  refine g_istore (pc := 17) (i := 8) (L' := [(8, .int r14), (7, .int (((6 : Int32) * p1) + p2)), (0, .ref (ea ε 0)), (1, .int p1), (2, .int p2), (3, .int p3), (4, .int p4), (5, .long p5)]) C dX8_put_17 (by decide) rfl ?_
  refine g_aload_n (pc := 19) (i := 0) (j := 2) C dX8_put_19 rfl rfl ?_
  refine g_getr (pc := 20) (j := 6) C E fdX8_25 layM_0_6 dX8_put_20 ?_
  refine g_iload (pc := 23) (i := 7) (j := 1) C dX8_put_23 rfl ?_
  refine g_iload (pc := 25) (i := 8) (j := 0) C dX8_put_25 rfl ?_
  refine g_if_eq (pc := 27) (tgt := 34) C dX8_put_27 rfl hf (fun _ hf => ?_) (fun _ hf => ?_)
  · refine g_iload_n (pc := 34) (i := 3) (j := 5) C dX8_put_34 rfl rfl ?_
    exact g_at [2, 3, 6, 7, 1, 0] rfl (b35 p1 p4 p5 (((6 : Int32) * p1) + p2) r14 p3 (((6 : Int32) * p1) + p2) μ hf)
  · refine g_iconst (pc := 30) C dX8_put_30 ci_1 ?_
    refine g_goto (pc := 31) (tgt := 35) C dX8_put_31 rfl ?_
    exact g_at [2, 3, 6, 7, 1, 0] rfl (b35 p1 p4 p5 (((6 : Int32) * p1) + p2) r14 (1 : Int32) (((6 : Int32) * p1) + p2) μ hf)
theorem dX8_convert_0 : decode cX8_convert 0 = .ok (.iload_n 1, 1) := by decide +kernel
theorem dX8_convert_1 : decode cX8_convert 1 = .ok (.invokestatic 242, 3) := by decide +kernel
theorem dX8_convert_4 : decode cX8_convert 4 = .ok (.ifCond .eq 10, 3) := by decide +kernel
theorem dX8_convert_7 : decode cX8_convert 7 = .ok (.iload_n 2, 1) := by decide +kernel
theorem dX8_convert_8 : decode cX8_convert 8 = .ok (.invokestatic 242, 3) := by decide +kernel
theorem dX8_convert_11 : decode cX8_convert 11 = .ok (.ifCond .ne 5, 3) := by decide +kernel
theorem dX8_convert_14 : decode cX8_convert 14 = .ok (.iconst (-1), 1) := by decide +kernel
theorem dX8_convert_15 : decode cX8_convert 15 = .ok (.ireturn, 1) := by decide +kernel
theorem dX8_convert_16 : decode cX8_convert 16 = .ok (.aload_n 0, 1) := by decide +kernel
theorem dX8_convert_17 : decode cX8_convert 17 = .ok (.iload_n 1, 1) := by decide +kernel
theorem dX8_convert_18 : decode cX8_convert 18 = .ok (.invokevirtual 267, 3) := by decide +kernel
theorem dX8_convert_21 : decode cX8_convert 21 = .ok (.ifCond .eq 11, 3) := by decide +kernel
theorem dX8_convert_24 : decode cX8_convert 24 = .ok (.aload_n 0, 1) := by decide +kernel
theorem dX8_convert_25 : decode cX8_convert 25 = .ok (.iload_n 2, 1) := by decide +kernel
theorem dX8_convert_26 : decode cX8_convert 26 = .ok (.invokevirtual 267, 3) := by decide +kernel
theorem dX8_convert_29 : decode cX8_convert 29 = .ok (.ifCond .ne 6, 3) := by decide +kernel
theorem dX8_convert_32 : decode cX8_convert 32 = .ok (.bipush (-3), 2) := by decide +kernel
theorem dX8_convert_34 : decode cX8_convert 34 = .ok (.ireturn, 1) := by decide +kernel
theorem dX8_convert_35 : decode cX8_convert 35 = .ok (.iload_n 3, 1) := by decide +kernel
theorem dX8_convert_36 : decode cX8_convert 36 = .ok (.i2l, 1) := by decide +kernel
theorem dX8_convert_37 : decode cX8_convert 37 = .ok (.lconst 0, 1) := by decide +kernel
theorem dX8_convert_38 : decode cX8_convert 38 = .ok (.ldc2_w 364, 3) := by decide +kernel
theorem dX8_convert_41 : decode cX8_convert 41 = .ok (.invokestatic 98, 3) := by decide +kernel
theorem dX8_convert_44 : decode cX8_convert 44 = .ok (.ifCond .ne 6, 3) := by decide +kernel
theorem dX8_convert_47 : decode cX8_convert 47 = .ok (.bipush (-2), 2) := by decide +kernel
theorem dX8_convert_49 : decode cX8_convert 49 = .ok (.ireturn, 1) := by decide +kernel
theorem dX8_convert_50 : decode cX8_convert 50 = .ok (.aload_n 0, 1) := by decide +kernel
theorem dX8_convert_51 : decode cX8_convert 51 = .ok (.getfield 16, 3) := by decide +kernel
theorem dX8_convert_54 : decode cX8_convert 54 = .ok (.iload_n 1, 1) := by decide +kernel
theorem dX8_convert_55 : decode cX8_convert 55 = .ok (.iaload, 1) := by decide +kernel
theorem dX8_convert_56 : decode cX8_convert 56 = .ok (.istore 4, 2) := by decide +kernel
theorem dX8_convert_58 : decode cX8_convert 58 = .ok (.aload_n 0, 1) := by decide +kernel
theorem dX8_convert_59 : decode cX8_convert 59 = .ok (.getfield 16, 3) := by decide +kernel
theorem dX8_convert_62 : decode cX8_convert 62 = .ok (.iload_n 2, 1) := by decide +kernel
theorem dX8_convert_63 : decode cX8_convert 63 = .ok (.iaload, 1) := by decide +kernel
theorem dX8_convert_64 : decode cX8_convert 64 = .ok (.istore 5, 2) := by decide +kernel
theorem dX8_convert_66 : decode cX8_convert 66 = .ok (.aload_n 0, 1) := by decide +kernel
theorem dX8_convert_67 : decode cX8_convert 67 = .ok (.getfield 22, 3) := by decide +kernel
theorem dX8_convert_70 : decode cX8_convert 70 = .ok (.iload 4, 2) := by decide +kernel
theorem dX8_convert_72 : decode cX8_convert 72 = .ok (.iaload, 1) := by decide +kernel
theorem dX8_convert_73 : decode cX8_convert 73 = .ok (.aload_n 0, 1) := by decide +kernel
theorem dX8_convert_74 : decode cX8_convert 74 = .ok (.getfield 22, 3) := by decide +kernel
theorem dX8_convert_77 : decode cX8_convert 77 = .ok (.iload 5, 2) := by decide +kernel
theorem dX8_convert_79 : decode cX8_convert 79 = .ok (.iaload, 1) := by decide +kernel
theorem dX8_convert_80 : decode cX8_convert 80 = .ok (.if_icmp .ge 13, 3) := by decide +kernel
theorem dX8_convert_83 : decode cX8_convert 83 = .ok (.aload_n 0, 1) := by decide +kernel
theorem dX8_convert_84 : decode cX8_convert 84 = .ok (.getfield 22, 3) := by decide +kernel
theorem dX8_convert_87 : decode cX8_convert 87 = .ok (.iload 4, 2) := by decide +kernel
theorem dX8_convert_89 : decode cX8_convert 89 = .ok (.iaload, 1) := by decide +kernel
theorem dX8_convert_90 : decode cX8_convert 90 = .ok (.goto 10, 3) := by decide +kernel
theorem dX8_convert_93 : decode cX8_convert 93 = .ok (.aload_n 0, 1) := by decide +kernel
theorem dX8_convert_94 : decode cX8_convert 94 = .ok (.getfield 22, 3) := by decide +kernel
theorem dX8_convert_97 : decode cX8_convert 97 = .ok (.iload 5, 2) := by decide +kernel
theorem dX8_convert_99 : decode cX8_convert 99 = .ok (.iaload, 1) := by decide +kernel
theorem dX8_convert_100 : decode cX8_convert 100 = .ok (.istore 6, 2) := by decide +kernel
theorem dX8_convert_102 : decode cX8_convert 102 = .ok (.iconst 0, 1) := by decide +kernel
theorem dX8_convert_103 : decode cX8_convert 103 = .ok (.istore 7, 2) := by decide +kernel
theorem dX8_convert_105 : decode cX8_convert 105 = .ok (.aload_n 0, 1) := by decide +kernel
theorem dX8_convert_106 : decode cX8_convert 106 = .ok (.iload 6, 2) := by decide +kernel
theorem dX8_convert_108 : decode cX8_convert 108 = .ok (.putfield 248, 3) := by decide +kernel
theorem dX8_convert_111 : decode cX8_convert 111 = .ok (.iconst 0, 1) := by decide +kernel
theorem dX8_convert_112 : decode cX8_convert 112 = .ok (.istore 8, 2) := by decide +kernel
theorem dX8_convert_114 : decode cX8_convert 114 = .ok (.iload 8, 2) := by decide +kernel
theorem dX8_convert_116 : decode cX8_convert 116 = .ok (.iload 6, 2) := by decide +kernel
theorem dX8_convert_118 : decode cX8_convert 118 = .ok (.if_icmp .ge 69, 3) := by decide +kernel
theorem dX8_convert_121 : decode cX8_convert 121 = .ok (.aload_n 0, 1) := by decide +kernel
theorem dX8_convert_122 : decode cX8_convert 122 = .ok (.getfield 42, 3) := by decide +kernel
theorem dX8_convert_125 : decode cX8_convert 125 = .ok (.iload 8, 2) := by decide +kernel
theorem dX8_convert_127 : decode cX8_convert 127 = .ok (.aload_n 0, 1) := by decide +kernel
theorem dX8_convert_128 : decode cX8_convert 128 = .ok (.iload 4, 2) := by decide +kernel
theorem dX8_convert_130 : decode cX8_convert 130 = .ok (.iload 5, 2) := by decide +kernel
theorem dX8_convert_132 : decode cX8_convert 132 = .ok (.iload 8, 2) := by decide +kernel
theorem dX8_convert_134 : decode cX8_convert 134 = .ok (.iload_n 3, 1) := by decide +kernel
theorem dX8_convert_135 : decode cX8_convert 135 = .ok (.invokevirtual 366, 3) := by decide +kernel
theorem dX8_convert_138 : decode cX8_convert 138 = .ok (.iastore, 1) := by decide +kernel
theorem dX8_convert_139 : decode cX8_convert 139 = .ok (.aload_n 0, 1) := by decide +kernel
theorem dX8_convert_140 : decode cX8_convert 140 = .ok (.getfield 42, 3) := by decide +kernel
theorem dX8_convert_143 : decode cX8_convert 143 = .ok (.iload 8, 2) := by decide +kernel
theorem dX8_convert_145 : decode cX8_convert 145 = .ok (.iaload, 1) := by decide +kernel
theorem dX8_convert_146 : decode cX8_convert 146 = .ok (.ifCond .ne 35, 3) := by decide +kernel
theorem dX8_convert_149 : decode cX8_convert 149 = .ok (.iload 7, 2) := by decide +kernel
theorem dX8_convert_151 : decode cX8_convert 151 = .ok (.ifCond .ne 7, 3) := by decide +kernel
theorem dX8_convert_154 : decode cX8_convert 154 = .ok (.aload_n 0, 1) := by decide +kernel
theorem dX8_convert_155 : decode cX8_convert 155 = .ok (.invokevirtual 236, 3) := by decide +kernel
theorem dX8_convert_158 : decode cX8_convert 158 = .ok (.aload_n 0, 1) := by decide +kernel
theorem dX8_convert_159 : decode cX8_convert 159 = .ok (.iload 5, 2) := by decide +kernel
theorem dX8_convert_161 : decode cX8_convert 161 = .ok (.iload 8, 2) := by decide +kernel
theorem dX8_convert_163 : decode cX8_convert 163 = .ok (.aload_n 0, 1) := by decide +kernel
theorem dX8_convert_164 : decode cX8_convert 164 = .ok (.getfield 270, 3) := by decide +kernel
theorem dX8_convert_167 : decode cX8_convert 167 = .ok (.aload_n 0, 1) := by decide +kernel
theorem dX8_convert_168 : decode cX8_convert 168 = .ok (.getfield 273, 3) := by decide +kernel
theorem dX8_convert_171 : decode cX8_convert 171 = .ok (.aload_n 0, 1) := by decide +kernel
theorem dX8_convert_172 : decode cX8_convert 172 = .ok (.getfield 276, 3) := by decide +kernel
theorem dX8_convert_175 : decode cX8_convert 175 = .ok (.invokevirtual 346, 3) := by decide +kernel
theorem dX8_convert_178 : decode cX8_convert 178 = .ok (.iinc 7 1, 3) := by decide +kernel
theorem dX8_convert_181 : decode cX8_convert 181 = .ok (.iinc 8 1, 3) := by decide +kernel
theorem dX8_convert_184 : decode cX8_convert 184 = .ok (.goto (-70), 3) := by decide +kernel
theorem dX8_convert_187 : decode cX8_convert 187 = .ok (.iload 7, 2) := by decide +kernel
theorem dX8_convert_189 : decode cX8_convert 189 = .ok (.ireturn, 1) := by decide +kernel
def fX8_convert_b181 (k114 : Int32 → Int32 → Int32 → Int32 → Int32 → Int32 → Mm → Option (Int32 × Mm)) (v3 : Int32) (v4 : Int32) (v5 : Int32) (v6 : Int32) (v7 : Int32) (v8 : Int32) (μ : Mm) : Option (Int32 × Mm) := k114 v3 v4 v5 v6 v7 (v8 + (1 : Int32)) μ
def fX8_convert_b158 (k114 : Int32 → Int32 → Int32 → Int32 → Int32 → Int32 → Mm → Option (Int32 × Mm)) (v3 : Int32) (v4 : Int32) (v5 : Int32) (v6 : Int32) (v7 : Int32) (v8 : Int32) (μ : Mm) : Option (Int32 × Mm) := ((fX8_put v5 v8 (μ.1 0 37) (μ.1 0 38) (μ.2 0 39) μ).bind fun μ175 => fX8_convert_b181 k114 v3 v4 v5 v6 (v7 + (1 : Int32)) v8 μ175)
def fX8_convert_b114 : Nat → Int32 → Int32 → Int32 → Int32 → Int32 → Int32 → Mm → Option (Int32 × Mm)
  | 0, _, _, _, _, _, _, _ => none
  | n + 1, v3, v4, v5, v6, v7, v8, μ => (if v6 ≤ v8 then some (v7, μ) else (bnd (fX8_convertCell v4 v5 v8 v3 μ) fun r135 μ135 => (if inb v8 6 = true then (if inb v8 6 = true then (if ((wI μ135 11 (Int32.toNatClampNeg v8) r135).1 11 (Int32.toNatClampNeg v8)) = 0 then (if v7 = 0 then ((fX8_note (wI μ135 11 (Int32.toNatClampNeg v8) r135)).bind fun μ155 => fX8_convert_b158 (fX8_convert_b114 n) v3 v4 v5 v6 v7 v8 μ155) else fX8_convert_b158 (fX8_convert_b114 n) v3 v4 v5 v6 v7 v8 (wI μ135 11 (Int32.toNatClampNeg v8) r135)) else fX8_convert_b181 (fX8_convert_b114 n) v3 v4 v5 v6 v7 v8 (wI μ135 11 (Int32.toNatClampNeg v8) r135)) else none) else none)))
def fX8_convert_b100 (v3 : Int32) (v4 : Int32) (v5 : Int32) (s0 : Int32) (μ : Mm) : Option (Int32 × Mm) := fX8_convert_b114 100 v3 v4 v5 s0 (0 : Int32) (0 : Int32) (wI μ 0 16 s0)
def fX8_convert (p1 : Int32) (p2 : Int32) (p3 : Int32) (μ : Mm) : Option (Int32 × Mm) := ((fX8_isSlot p1).bind fun r1 => (if r1 = 0 then some ((-1 : Int32), μ) else ((fX8_isSlot p2).bind fun r8 => (if r8 = 0 then some ((-1 : Int32), μ) else ((fX8_holdsRow p1 μ).bind fun r18 => (if r18 = 0 then some ((-3 : Int32), μ) else ((fX8_holdsRow p2 μ).bind fun r26 => (if r26 = 0 then some ((-3 : Int32), μ) else ((fX8_in (Int32.toInt64 p3) (0 : Int64) (3 : Int64)).bind fun r41 => (if r41 = 0 then some ((-2 : Int32), μ) else (if inb p1 10 = true then (if inb p2 10 = true then (if inb (μ.1 3 (Int32.toNatClampNeg p1)) 11 = true then (if inb (μ.1 3 (Int32.toNatClampNeg p2)) 11 = true then (if (μ.1 5 (Int32.toNatClampNeg (μ.1 3 (Int32.toNatClampNeg p2)))) ≤ (μ.1 5 (Int32.toNatClampNeg (μ.1 3 (Int32.toNatClampNeg p1)))) then (if inb (μ.1 3 (Int32.toNatClampNeg p2)) 11 = true then fX8_convert_b100 p3 (μ.1 3 (Int32.toNatClampNeg p1)) (μ.1 3 (Int32.toNatClampNeg p2)) (μ.1 5 (Int32.toNatClampNeg (μ.1 3 (Int32.toNatClampNeg p2)))) μ else none) else (if inb (μ.1 3 (Int32.toNatClampNeg p1)) 11 = true then fX8_convert_b100 p3 (μ.1 3 (Int32.toNatClampNeg p1)) (μ.1 3 (Int32.toNatClampNeg p2)) (μ.1 5 (Int32.toNatClampNeg (μ.1 3 (Int32.toNatClampNeg p1)))) μ else none)) else none) else none) else none) else none)))))))))))
set_option maxRecDepth 100000 in
set_option maxHeartbeats 4000000 in
theorem kX8_convert (l : Launch) (ε : Ev) (p1 : Int32) (p2 : Int32) (p3 : Int32) (μ : Mm) (out : (Int32 × Mm)) (hf : fX8_convert p1 p2 p3 μ = some out) : Sp l ε layM yX8_convert cX8_convert 9 (some .int) 4 [.ref (ea ε 0), .int p1, .int p2, .int p3] (some (.int out.1)) μ out.2 := by
  refine Sp.of [(0, .ref (ea ε 0)), (1, .int p1), (2, .int p2), (3, .int p3)] rfl (by decide +kernel) (Nat.le_of_ble_eq_true rfl) ?_
  intro κ hκ C E hQ
  subst hκ
  replace C : Cf κ cX8_convert 9 RX8 (some .int) 4 := C
  have b181 : ∀ (k114 : Int32 → Int32 → Int32 → Int32 → Int32 → Int32 → Mm → Option (Int32 × Mm)) (hk114 : ∀ (v3 : Int32) (v4 : Int32) (v5 : Int32) (v6 : Int32) (v7 : Int32) (v8 : Int32) (μ : Mm) , k114 v3 v4 v5 v6 v7 v8 μ = some out → G κ (Vw κ ε layM μ) 9 114 [(0, .ref (ea ε 0)), (3, .int v3), (4, .int v4), (5, .int v5), (6, .int v6), (7, .int v7), (8, .int v8)] []) (v3 : Int32) (v4 : Int32) (v5 : Int32) (v6 : Int32) (v7 : Int32) (v8 : Int32) (μ : Mm) , fX8_convert_b181 k114 v3 v4 v5 v6 v7 v8 μ = some out → G κ (Vw κ ε layM μ) 9 181 [(0, .ref (ea ε 0)), (3, .int v3), (4, .int v4), (5, .int v5), (6, .int v6), (7, .int v7), (8, .int v8)] [] := by
    intro k114 hk114 v3 v4 v5 v6 v7 v8 μ hf
    refine g_iinc (pc := 181) (i := 8) (j := 6) (v := (v8 + (1 : Int32))) (L' := [(8, .int (v8 + (1 : Int32))), (0, .ref (ea ε 0)), (3, .int v3), (4, .int v4), (5, .int v5), (6, .int v6), (7, .int v7)]) C dX8_convert_181 rfl (cx_1 _) (by decide) rfl ?_
    refine g_goto (pc := 184) (tgt := 114) C dX8_convert_184 rfl ?_
    exact g_at [1, 2, 3, 4, 5, 6, 0] rfl (hk114 v3 v4 v5 v6 v7 (v8 + (1 : Int32)) μ hf)
  have b158 : ∀ (k114 : Int32 → Int32 → Int32 → Int32 → Int32 → Int32 → Mm → Option (Int32 × Mm)) (hk114 : ∀ (v3 : Int32) (v4 : Int32) (v5 : Int32) (v6 : Int32) (v7 : Int32) (v8 : Int32) (μ : Mm) , k114 v3 v4 v5 v6 v7 v8 μ = some out → G κ (Vw κ ε layM μ) 9 114 [(0, .ref (ea ε 0)), (3, .int v3), (4, .int v4), (5, .int v5), (6, .int v6), (7, .int v7), (8, .int v8)] []) (v3 : Int32) (v4 : Int32) (v5 : Int32) (v6 : Int32) (v7 : Int32) (v8 : Int32) (μ : Mm) , fX8_convert_b158 k114 v3 v4 v5 v6 v7 v8 μ = some out → G κ (Vw κ ε layM μ) 9 158 [(0, .ref (ea ε 0)), (3, .int v3), (4, .int v4), (5, .int v5), (6, .int v6), (7, .int v7), (8, .int v8)] [] := by
    intro k114 hk114 v3 v4 v5 v6 v7 v8 μ hf
    refine g_aload_n (pc := 158) (i := 0) (j := 0) C dX8_convert_158 rfl rfl ?_
    refine g_iload (pc := 159) (i := 5) (j := 3) C dX8_convert_159 rfl ?_
    refine g_iload (pc := 161) (i := 8) (j := 6) C dX8_convert_161 rfl ?_
    refine g_aload_n (pc := 163) (i := 0) (j := 0) C dX8_convert_163 rfl rfl ?_
    refine g_geti (pc := 164) C E fdX8_270 layM_0_37 dX8_convert_164 ?_
    refine g_aload_n (pc := 167) (i := 0) (j := 0) C dX8_convert_167 rfl rfl ?_
    refine g_geti (pc := 168) C E fdX8_273 layM_0_38 dX8_convert_168 ?_
    refine g_aload_n (pc := 171) (i := 0) (j := 0) C dX8_convert_171 rfl rfl ?_
    refine g_getl (pc := 172) C E fdX8_276 layM_0_39 dX8_convert_172 ?_
    refine g_cwv (pc := 175) (st := []) C E layM_0 lkX8_346 (As := [.int v5, .int v8, .int (μ.1 0 37), .int (μ.1 0 38), .long (μ.2 0 39)]) rfl (fun out h => kX8_put (kl κ) ε v5 v8 (μ.1 0 37) (μ.1 0 38) (μ.2 0 39) μ out h) (by decide) rfl (Nat.le_of_ble_eq_true rfl) dX8_convert_175 hf (fun μ175 _ hf => ?_)
    refine g_iinc (pc := 178) (i := 7) (j := 5) (v := (v7 + (1 : Int32))) (L' := [(7, .int (v7 + (1 : Int32))), (0, .ref (ea ε 0)), (3, .int v3), (4, .int v4), (5, .int v5), (6, .int v6), (8, .int v8)]) C dX8_convert_178 rfl (cx_1 _) (by decide) rfl ?_
    exact g_at [1, 2, 3, 4, 5, 0, 6] rfl (b181 k114 hk114 v3 v4 v5 v6 (v7 + (1 : Int32)) v8 μ175 hf)
  have b114 : ∀ (n : Nat) (v3 : Int32) (v4 : Int32) (v5 : Int32) (v6 : Int32) (v7 : Int32) (v8 : Int32) (μ : Mm) , fX8_convert_b114 n v3 v4 v5 v6 v7 v8 μ = some out → G κ (Vw κ ε layM μ) 9 114 [(0, .ref (ea ε 0)), (3, .int v3), (4, .int v4), (5, .int v5), (6, .int v6), (7, .int v7), (8, .int v8)] [] := by
    intro n
    induction n with
    | zero => intro v3 v4 v5 v6 v7 v8 μ hf; exact none_ne hf
    | succ n ih =>
      intro v3 v4 v5 v6 v7 v8 μ hf
      refine g_iload (pc := 114) (i := 8) (j := 6) C dX8_convert_114 rfl ?_
      refine g_iload (pc := 116) (i := 6) (j := 4) C dX8_convert_116 rfl ?_
      refine g_icmp_ge (pc := 118) (tgt := 187) C dX8_convert_118 rfl hf (fun _ hf => ?_) (fun _ hf => ?_)
      · refine g_iload (pc := 187) (i := 7) (j := 5) C dX8_convert_187 rfl ?_
        exact g_iretw (pc := 189) C hQ dX8_convert_189 hf
      · refine g_aload_n (pc := 121) (i := 0) (j := 0) C dX8_convert_121 rfl rfl ?_
        refine g_getr (pc := 122) (j := 11) C E fdX8_42 layM_0_15 dX8_convert_122 ?_
        refine g_iload (pc := 125) (i := 8) (j := 6) C dX8_convert_125 rfl ?_
        refine g_aload_n (pc := 127) (i := 0) (j := 0) C dX8_convert_127 rfl rfl ?_
        refine g_iload (pc := 128) (i := 4) (j := 2) C dX8_convert_128 rfl ?_
        refine g_iload (pc := 130) (i := 5) (j := 3) C dX8_convert_130 rfl ?_
        refine g_iload (pc := 132) (i := 8) (j := 6) C dX8_convert_132 rfl ?_
        refine g_iload_n (pc := 134) (i := 3) (j := 1) C dX8_convert_134 rfl rfl ?_
        refine g_cwi (pc := 135) (st := [.int v8, .ref (ea ε 11)]) C E layM_0 lkX8_366 (As := [.int v4, .int v5, .int v8, .int v3]) rfl (fun out h => kX8_convertCell (kl κ) ε v4 v5 v8 v3 μ out h) (by decide) rfl (Nat.le_of_ble_eq_true rfl) dX8_convert_135 hf (fun r135 μ135 _ hf => ?_)
        refine g_iast (pc := 138) C E layM_11 dX8_convert_138 hf (fun hf => ?_)
        refine g_aload_n (pc := 139) (i := 0) (j := 0) C dX8_convert_139 rfl rfl ?_
        refine g_getr (pc := 140) (j := 11) C E fdX8_42 layM_0_15 dX8_convert_140 ?_
        refine g_iload (pc := 143) (i := 8) (j := 6) C dX8_convert_143 rfl ?_
        refine g_iald (pc := 145) C E layM_11 dX8_convert_145 hf (fun hf => ?_)
        refine g_if_ne (pc := 146) (tgt := 181) C dX8_convert_146 rfl hf (fun _ hf => ?_) (fun _ hf => ?_)
        · exact b181 (fX8_convert_b114 n) ih v3 v4 v5 v6 v7 v8 (wI μ135 11 (Int32.toNatClampNeg v8) r135) hf
        · refine g_iload (pc := 149) (i := 7) (j := 5) C dX8_convert_149 rfl ?_
          refine g_if_ne (pc := 151) (tgt := 158) C dX8_convert_151 rfl hf (fun _ hf => ?_) (fun _ hf => ?_)
          · exact b158 (fX8_convert_b114 n) ih v3 v4 v5 v6 v7 v8 (wI μ135 11 (Int32.toNatClampNeg v8) r135) hf
          · refine g_aload_n (pc := 154) (i := 0) (j := 0) C dX8_convert_154 rfl rfl ?_
            refine g_cwv (pc := 155) (st := []) C E layM_0 lkX8_236 (As := []) rfl (fun out h => kX8_note (kl κ) ε (wI μ135 11 (Int32.toNatClampNeg v8) r135) out h) (by decide) rfl (Nat.le_of_ble_eq_true rfl) dX8_convert_155 hf (fun μ155 _ hf => ?_)
            exact b158 (fX8_convert_b114 n) ih v3 v4 v5 v6 v7 v8 μ155 hf
  have b100 : ∀ (v3 : Int32) (v4 : Int32) (v5 : Int32) (s0 : Int32) (μ : Mm) , fX8_convert_b100 v3 v4 v5 s0 μ = some out → G κ (Vw κ ε layM μ) 9 100 [(0, .ref (ea ε 0)), (3, .int v3), (4, .int v4), (5, .int v5)] [.int s0] := by
    intro v3 v4 v5 s0 μ hf
    refine g_istore (pc := 100) (i := 6) (L' := [(6, .int s0), (0, .ref (ea ε 0)), (3, .int v3), (4, .int v4), (5, .int v5)]) C dX8_convert_100 (by decide) rfl ?_
    refine g_iconst (pc := 102) C dX8_convert_102 ci_0 ?_
    refine g_istore (pc := 103) (i := 7) (L' := [(7, .int (0 : Int32)), (6, .int s0), (0, .ref (ea ε 0)), (3, .int v3), (4, .int v4), (5, .int v5)]) C dX8_convert_103 (by decide) rfl ?_
    refine g_aload_n (pc := 105) (i := 0) (j := 2) C dX8_convert_105 rfl rfl ?_
    refine g_iload (pc := 106) (i := 6) (j := 1) C dX8_convert_106 rfl ?_
    refine g_puti (pc := 108) C E fdX8_248 layM_0_16 dX8_convert_108 ?_
    refine g_iconst (pc := 111) C dX8_convert_111 ci_0 ?_
    refine g_istore (pc := 112) (i := 8) (L' := [(8, .int (0 : Int32)), (7, .int (0 : Int32)), (6, .int s0), (0, .ref (ea ε 0)), (3, .int v3), (4, .int v4), (5, .int v5)]) C dX8_convert_112 (by decide) rfl ?_
    exact g_at [3, 4, 5, 6, 2, 1, 0] rfl (b114 100 v3 v4 v5 s0 (0 : Int32) (0 : Int32) (wI μ 0 16 s0) hf)
  refine g_iload_n (pc := 0) (i := 1) (j := 1) C dX8_convert_0 rfl rfl ?_
  refine g_cpi (pc := 1) (st := []) C lkX8_242 (As := [.int p1]) rfl (fun out h => kX8_isSlot (kl κ) p1 out h) (by decide) rfl (Nat.le_of_ble_eq_true rfl) dX8_convert_1 hf (fun r1 _ hf => ?_)
  refine g_if_eq (pc := 4) (tgt := 14) C dX8_convert_4 rfl hf (fun _ hf => ?_) (fun _ hf => ?_)
  · refine g_iconst (pc := 14) C dX8_convert_14 ci_m1 ?_
    exact g_iretw (pc := 15) C hQ dX8_convert_15 hf
  · refine g_iload_n (pc := 7) (i := 2) (j := 2) C dX8_convert_7 rfl rfl ?_
    refine g_cpi (pc := 8) (st := []) C lkX8_242 (As := [.int p2]) rfl (fun out h => kX8_isSlot (kl κ) p2 out h) (by decide) rfl (Nat.le_of_ble_eq_true rfl) dX8_convert_8 hf (fun r8 _ hf => ?_)
    refine g_if_ne (pc := 11) (tgt := 16) C dX8_convert_11 rfl hf (fun _ hf => ?_) (fun _ hf => ?_)
    · refine g_aload_n (pc := 16) (i := 0) (j := 0) C dX8_convert_16 rfl rfl ?_
      refine g_iload_n (pc := 17) (i := 1) (j := 1) C dX8_convert_17 rfl rfl ?_
      refine g_cri (pc := 18) (st := []) C E layM_0 lkX8_267 (As := [.int p1]) rfl (fun out h => kX8_holdsRow (kl κ) ε p1 μ out h) (by decide) rfl (Nat.le_of_ble_eq_true rfl) dX8_convert_18 hf (fun r18 _ hf => ?_)
      refine g_if_eq (pc := 21) (tgt := 32) C dX8_convert_21 rfl hf (fun _ hf => ?_) (fun _ hf => ?_)
      · refine g_bipush (pc := 32) C dX8_convert_32 cb_m3 ?_
        exact g_iretw (pc := 34) C hQ dX8_convert_34 hf
      · refine g_aload_n (pc := 24) (i := 0) (j := 0) C dX8_convert_24 rfl rfl ?_
        refine g_iload_n (pc := 25) (i := 2) (j := 2) C dX8_convert_25 rfl rfl ?_
        refine g_cri (pc := 26) (st := []) C E layM_0 lkX8_267 (As := [.int p2]) rfl (fun out h => kX8_holdsRow (kl κ) ε p2 μ out h) (by decide) rfl (Nat.le_of_ble_eq_true rfl) dX8_convert_26 hf (fun r26 _ hf => ?_)
        refine g_if_ne (pc := 29) (tgt := 35) C dX8_convert_29 rfl hf (fun _ hf => ?_) (fun _ hf => ?_)
        · refine g_iload_n (pc := 35) (i := 3) (j := 3) C dX8_convert_35 rfl rfl ?_
          refine g_i2l (pc := 36) C dX8_convert_36 ?_
          refine g_lconst (pc := 37) C dX8_convert_37 cl_0 ?_
          refine g_ldc2 (pc := 38) C cnX8_364 dX8_convert_38 ?_
          refine g_cpi (pc := 41) (st := []) C lkX8_98 (As := [.long (Int32.toInt64 p3), .long (0 : Int64), .long (3 : Int64)]) rfl (fun out h => kX8_in (kl κ) (Int32.toInt64 p3) (0 : Int64) (3 : Int64) out h) (by decide) rfl (Nat.le_of_ble_eq_true rfl) dX8_convert_41 hf (fun r41 _ hf => ?_)
          refine g_if_ne (pc := 44) (tgt := 50) C dX8_convert_44 rfl hf (fun _ hf => ?_) (fun _ hf => ?_)
          · refine g_aload_n (pc := 50) (i := 0) (j := 0) C dX8_convert_50 rfl rfl ?_
            refine g_getr (pc := 51) (j := 3) C E fdX8_16 layM_0_3 dX8_convert_51 ?_
            refine g_iload_n (pc := 54) (i := 1) (j := 1) C dX8_convert_54 rfl rfl ?_
            refine g_iald (pc := 55) C E layM_3 dX8_convert_55 hf (fun hf => ?_)
            refine g_istore (pc := 56) (i := 4) (L' := [(4, .int (μ.1 3 (Int32.toNatClampNeg p1))), (0, .ref (ea ε 0)), (1, .int p1), (2, .int p2), (3, .int p3)]) C dX8_convert_56 (by decide) rfl ?_
            refine g_aload_n (pc := 58) (i := 0) (j := 1) C dX8_convert_58 rfl rfl ?_
            refine g_getr (pc := 59) (j := 3) C E fdX8_16 layM_0_3 dX8_convert_59 ?_
            refine g_iload_n (pc := 62) (i := 2) (j := 3) C dX8_convert_62 rfl rfl ?_
            refine g_iald (pc := 63) C E layM_3 dX8_convert_63 hf (fun hf => ?_)
            refine g_istore (pc := 64) (i := 5) (L' := [(5, .int (μ.1 3 (Int32.toNatClampNeg p2))), (4, .int (μ.1 3 (Int32.toNatClampNeg p1))), (0, .ref (ea ε 0)), (1, .int p1), (2, .int p2), (3, .int p3)]) C dX8_convert_64 (by decide) rfl ?_
            refine g_aload_n (pc := 66) (i := 0) (j := 2) C dX8_convert_66 rfl rfl ?_
            refine g_getr (pc := 67) (j := 5) C E fdX8_22 layM_0_5 dX8_convert_67 ?_
            refine g_iload (pc := 70) (i := 4) (j := 1) C dX8_convert_70 rfl ?_
            refine g_iald (pc := 72) C E layM_5 dX8_convert_72 hf (fun hf => ?_)
            refine g_aload_n (pc := 73) (i := 0) (j := 2) C dX8_convert_73 rfl rfl ?_
            refine g_getr (pc := 74) (j := 5) C E fdX8_22 layM_0_5 dX8_convert_74 ?_
            refine g_iload (pc := 77) (i := 5) (j := 0) C dX8_convert_77 rfl ?_
            refine g_iald (pc := 79) C E layM_5 dX8_convert_79 hf (fun hf => ?_)
            refine g_icmp_ge (pc := 80) (tgt := 93) C dX8_convert_80 rfl hf (fun _ hf => ?_) (fun _ hf => ?_)
            · refine g_aload_n (pc := 93) (i := 0) (j := 2) C dX8_convert_93 rfl rfl ?_
              refine g_getr (pc := 94) (j := 5) C E fdX8_22 layM_0_5 dX8_convert_94 ?_
              refine g_iload (pc := 97) (i := 5) (j := 0) C dX8_convert_97 rfl ?_
              refine g_iald (pc := 99) C E layM_5 dX8_convert_99 hf (fun hf => ?_)
              exact g_at [2, 5, 1, 0] rfl (b100 p3 (μ.1 3 (Int32.toNatClampNeg p1)) (μ.1 3 (Int32.toNatClampNeg p2)) (μ.1 5 (Int32.toNatClampNeg (μ.1 3 (Int32.toNatClampNeg p2)))) μ hf)
            · refine g_aload_n (pc := 83) (i := 0) (j := 2) C dX8_convert_83 rfl rfl ?_
              refine g_getr (pc := 84) (j := 5) C E fdX8_22 layM_0_5 dX8_convert_84 ?_
              refine g_iload (pc := 87) (i := 4) (j := 1) C dX8_convert_87 rfl ?_
              refine g_iald (pc := 89) C E layM_5 dX8_convert_89 hf (fun hf => ?_)
              refine g_goto (pc := 90) (tgt := 100) C dX8_convert_90 rfl ?_
              exact g_at [2, 5, 1, 0] rfl (b100 p3 (μ.1 3 (Int32.toNatClampNeg p1)) (μ.1 3 (Int32.toNatClampNeg p2)) (μ.1 5 (Int32.toNatClampNeg (μ.1 3 (Int32.toNatClampNeg p1)))) μ hf)
          · refine g_bipush (pc := 47) C dX8_convert_47 cb_m2 ?_
            exact g_iretw (pc := 49) C hQ dX8_convert_49 hf
        · refine g_bipush (pc := 32) C dX8_convert_32 cb_m3 ?_
          exact g_iretw (pc := 34) C hQ dX8_convert_34 hf
    · refine g_iconst (pc := 14) C dX8_convert_14 ci_m1 ?_
      exact g_iretw (pc := 15) C hQ dX8_convert_15 hf
theorem dX8_freeRow_0 : decode cX8_freeRow 0 = .ok (.bipush 10, 2) := by decide +kernel
theorem dX8_freeRow_2 : decode cX8_freeRow 2 = .ok (.istore_n 1, 1) := by decide +kernel
theorem dX8_freeRow_3 : decode cX8_freeRow 3 = .ok (.bipush 10, 2) := by decide +kernel
theorem dX8_freeRow_5 : decode cX8_freeRow 5 = .ok (.istore_n 2, 1) := by decide +kernel
theorem dX8_freeRow_6 : decode cX8_freeRow 6 = .ok (.iload_n 2, 1) := by decide +kernel
theorem dX8_freeRow_7 : decode cX8_freeRow 7 = .ok (.ifCond .lt 23, 3) := by decide +kernel
theorem dX8_freeRow_10 : decode cX8_freeRow 10 = .ok (.aload_n 0, 1) := by decide +kernel
theorem dX8_freeRow_11 : decode cX8_freeRow 11 = .ok (.iload_n 2, 1) := by decide +kernel
theorem dX8_freeRow_12 : decode cX8_freeRow 12 = .ok (.invokevirtual 224, 3) := by decide +kernel
theorem dX8_freeRow_15 : decode cX8_freeRow 15 = .ok (.ifCond .eq 7, 3) := by decide +kernel
theorem dX8_freeRow_18 : decode cX8_freeRow 18 = .ok (.iload_n 1, 1) := by decide +kernel
theorem dX8_freeRow_19 : decode cX8_freeRow 19 = .ok (.goto 4, 3) := by decide +kernel
theorem dX8_freeRow_22 : decode cX8_freeRow 22 = .ok (.iload_n 2, 1) := by decide +kernel
theorem dX8_freeRow_23 : decode cX8_freeRow 23 = .ok (.istore_n 1, 1) := by decide +kernel
theorem dX8_freeRow_24 : decode cX8_freeRow 24 = .ok (.iinc 2 (-1), 3) := by decide +kernel
theorem dX8_freeRow_27 : decode cX8_freeRow 27 = .ok (.goto (-21), 3) := by decide +kernel
theorem dX8_freeRow_30 : decode cX8_freeRow 30 = .ok (.iload_n 1, 1) := by decide +kernel
theorem dX8_freeRow_31 : decode cX8_freeRow 31 = .ok (.ireturn, 1) := by decide +kernel
def fX8_freeRow_b23 (μ : Mm) (k6 : Int32 → Int32 → Option Int32) (v2 : Int32) (s0 : Int32) : Option Int32 := k6 s0 (v2 + (-1 : Int32))
def fX8_freeRow_b6 (μ : Mm) : Nat → Int32 → Int32 → Option Int32
  | 0, _, _ => none
  | n + 1, v1, v2 => (if v2 < 0 then some v1 else ((fX8_isHeld v2 μ).bind fun r12 => (if r12 = 0 then fX8_freeRow_b23 μ (fX8_freeRow_b6 μ n) v2 v2 else fX8_freeRow_b23 μ (fX8_freeRow_b6 μ n) v2 v1)))
def fX8_freeRow  (μ : Mm) : Option Int32 := fX8_freeRow_b6 μ 100 (10 : Int32) (10 : Int32)
set_option maxRecDepth 100000 in
set_option maxHeartbeats 4000000 in
theorem kX8_freeRow (l : Launch) (ε : Ev)  (μ : Mm) (out : Int32) (hf : fX8_freeRow μ = some out) : Sp l ε layM yX8_freeRow cX8_freeRow 3 (some .int) 1 [.ref (ea ε 0)] (some (.int out)) μ μ := by
  refine Sp.of [(0, .ref (ea ε 0))] rfl (by decide +kernel) (Nat.le_of_ble_eq_true rfl) ?_
  intro κ hκ C E hQ
  subst hκ
  replace C : Cf κ cX8_freeRow 3 RX8 (some .int) 1 := C
  have b23 : ∀ (k6 : Int32 → Int32 → Option Int32) (hk6 : ∀ (v1 : Int32) (v2 : Int32) , k6 v1 v2 = some out → G κ (Vw κ ε layM μ) 3 6 [(0, .ref (ea ε 0)), (1, .int v1), (2, .int v2)] []) (v2 : Int32) (s0 : Int32) , fX8_freeRow_b23 μ k6 v2 s0 = some out → G κ (Vw κ ε layM μ) 3 23 [(0, .ref (ea ε 0)), (2, .int v2)] [.int s0] := by
    intro k6 hk6 v2 s0 hf
    refine g_istore_n (pc := 23) (i := 1) (L' := [(1, .int s0), (0, .ref (ea ε 0)), (2, .int v2)]) C dX8_freeRow_23 rfl (by decide) rfl ?_
    refine g_iinc (pc := 24) (i := 2) (j := 2) (v := (v2 + (-1 : Int32))) (L' := [(2, .int (v2 + (-1 : Int32))), (1, .int s0), (0, .ref (ea ε 0))]) C dX8_freeRow_24 rfl (cx_m1 _) (by decide) rfl ?_
    refine g_goto (pc := 27) (tgt := 6) C dX8_freeRow_27 rfl ?_
    exact g_at [2, 1, 0] rfl (hk6 s0 (v2 + (-1 : Int32)) hf)
  have b6 : ∀ (n : Nat) (v1 : Int32) (v2 : Int32) , fX8_freeRow_b6 μ n v1 v2 = some out → G κ (Vw κ ε layM μ) 3 6 [(0, .ref (ea ε 0)), (1, .int v1), (2, .int v2)] [] := by
    intro n
    induction n with
    | zero => intro v1 v2 hf; exact none_ne hf
    | succ n ih =>
      intro v1 v2 hf
      refine g_iload_n (pc := 6) (i := 2) (j := 2) C dX8_freeRow_6 rfl rfl ?_
      refine g_if_lt (pc := 7) (tgt := 30) C dX8_freeRow_7 rfl hf (fun _ hf => ?_) (fun _ hf => ?_)
      · refine g_iload_n (pc := 30) (i := 1) (j := 1) C dX8_freeRow_30 rfl rfl ?_
        exact g_iretr (pc := 31) C hQ dX8_freeRow_31 hf
      · refine g_aload_n (pc := 10) (i := 0) (j := 0) C dX8_freeRow_10 rfl rfl ?_
        refine g_iload_n (pc := 11) (i := 2) (j := 2) C dX8_freeRow_11 rfl rfl ?_
        refine g_cri (pc := 12) (st := []) C E layM_0 lkX8_224 (As := [.int v2]) rfl (fun out h => kX8_isHeld (kl κ) ε v2 μ out h) (by decide) rfl (Nat.le_of_ble_eq_true rfl) dX8_freeRow_12 hf (fun r12 _ hf => ?_)
        refine g_if_eq (pc := 15) (tgt := 22) C dX8_freeRow_15 rfl hf (fun _ hf => ?_) (fun _ hf => ?_)
        · refine g_iload_n (pc := 22) (i := 2) (j := 2) C dX8_freeRow_22 rfl rfl ?_
          exact g_at [0, 2] rfl (b23 (fX8_freeRow_b6 μ n) ih v2 v2 hf)
        · refine g_iload_n (pc := 18) (i := 1) (j := 1) C dX8_freeRow_18 rfl rfl ?_
          refine g_goto (pc := 19) (tgt := 23) C dX8_freeRow_19 rfl ?_
          exact g_at [0, 2] rfl (b23 (fX8_freeRow_b6 μ n) ih v2 v1 hf)
  refine g_bipush (pc := 0) C dX8_freeRow_0 cb_10 ?_
  refine g_istore_n (pc := 2) (i := 1) (L' := [(1, .int (10 : Int32)), (0, .ref (ea ε 0))]) C dX8_freeRow_2 rfl (by decide) rfl ?_
  refine g_bipush (pc := 3) C dX8_freeRow_3 cb_10 ?_
  refine g_istore_n (pc := 5) (i := 2) (L' := [(2, .int (10 : Int32)), (1, .int (10 : Int32)), (0, .ref (ea ε 0))]) C dX8_freeRow_5 rfl (by decide) rfl ?_
  exact g_at [2, 1, 0] rfl (b6 100 (10 : Int32) (10 : Int32) hf)
theorem dX8_holdNew_0 : decode cX8_holdNew 0 = .ok (.aload_n 0, 1) := by decide +kernel
theorem dX8_holdNew_1 : decode cX8_holdNew 1 = .ok (.invokevirtual 236, 3) := by decide +kernel
theorem dX8_holdNew_4 : decode cX8_holdNew 4 = .ok (.aload_n 0, 1) := by decide +kernel
theorem dX8_holdNew_5 : decode cX8_holdNew 5 = .ok (.invokevirtual 239, 3) := by decide +kernel
theorem dX8_holdNew_8 : decode cX8_holdNew 8 = .ok (.istore_n 2, 1) := by decide +kernel
theorem dX8_holdNew_9 : decode cX8_holdNew 9 = .ok (.aload_n 0, 1) := by decide +kernel
theorem dX8_holdNew_10 : decode cX8_holdNew 10 = .ok (.getfield 13, 3) := by decide +kernel
theorem dX8_holdNew_13 : decode cX8_holdNew 13 = .ok (.iload_n 1, 1) := by decide +kernel
theorem dX8_holdNew_14 : decode cX8_holdNew 14 = .ok (.aload_n 0, 1) := by decide +kernel
theorem dX8_holdNew_15 : decode cX8_holdNew 15 = .ok (.getfield 195, 3) := by decide +kernel
theorem dX8_holdNew_18 : decode cX8_holdNew 18 = .ok (.iastore, 1) := by decide +kernel
theorem dX8_holdNew_19 : decode cX8_holdNew 19 = .ok (.aload_n 0, 1) := by decide +kernel
theorem dX8_holdNew_20 : decode cX8_holdNew 20 = .ok (.getfield 16, 3) := by decide +kernel
theorem dX8_holdNew_23 : decode cX8_holdNew 23 = .ok (.iload_n 1, 1) := by decide +kernel
theorem dX8_holdNew_24 : decode cX8_holdNew 24 = .ok (.iload_n 2, 1) := by decide +kernel
theorem dX8_holdNew_25 : decode cX8_holdNew 25 = .ok (.iastore, 1) := by decide +kernel
theorem dX8_holdNew_26 : decode cX8_holdNew 26 = .ok (.aload_n 0, 1) := by decide +kernel
theorem dX8_holdNew_27 : decode cX8_holdNew 27 = .ok (.getfield 19, 3) := by decide +kernel
theorem dX8_holdNew_30 : decode cX8_holdNew 30 = .ok (.iload_n 2, 1) := by decide +kernel
theorem dX8_holdNew_31 : decode cX8_holdNew 31 = .ok (.aload_n 0, 1) := by decide +kernel
theorem dX8_holdNew_32 : decode cX8_holdNew 32 = .ok (.getfield 195, 3) := by decide +kernel
theorem dX8_holdNew_35 : decode cX8_holdNew 35 = .ok (.iastore, 1) := by decide +kernel
theorem dX8_holdNew_36 : decode cX8_holdNew 36 = .ok (.aload_n 0, 1) := by decide +kernel
theorem dX8_holdNew_37 : decode cX8_holdNew 37 = .ok (.getfield 22, 3) := by decide +kernel
theorem dX8_holdNew_40 : decode cX8_holdNew 40 = .ok (.iload_n 2, 1) := by decide +kernel
theorem dX8_holdNew_41 : decode cX8_holdNew 41 = .ok (.aload_n 0, 1) := by decide +kernel
theorem dX8_holdNew_42 : decode cX8_holdNew 42 = .ok (.getfield 192, 3) := by decide +kernel
theorem dX8_holdNew_45 : decode cX8_holdNew 45 = .ok (.iastore, 1) := by decide +kernel
theorem dX8_holdNew_46 : decode cX8_holdNew 46 = .ok (.iconst 0, 1) := by decide +kernel
theorem dX8_holdNew_47 : decode cX8_holdNew 47 = .ok (.istore_n 3, 1) := by decide +kernel
theorem dX8_holdNew_48 : decode cX8_holdNew 48 = .ok (.iload_n 3, 1) := by decide +kernel
theorem dX8_holdNew_49 : decode cX8_holdNew 49 = .ok (.aload_n 0, 1) := by decide +kernel
theorem dX8_holdNew_50 : decode cX8_holdNew 50 = .ok (.getfield 192, 3) := by decide +kernel
theorem dX8_holdNew_53 : decode cX8_holdNew 53 = .ok (.if_icmp .ge 60, 3) := by decide +kernel
theorem dX8_holdNew_56 : decode cX8_holdNew 56 = .ok (.aload_n 0, 1) := by decide +kernel
theorem dX8_holdNew_57 : decode cX8_holdNew 57 = .ok (.getfield 25, 3) := by decide +kernel
theorem dX8_holdNew_60 : decode cX8_holdNew 60 = .ok (.bipush 6, 2) := by decide +kernel
theorem dX8_holdNew_62 : decode cX8_holdNew 62 = .ok (.iload_n 2, 1) := by decide +kernel
theorem dX8_holdNew_63 : decode cX8_holdNew 63 = .ok (.imul, 1) := by decide +kernel
theorem dX8_holdNew_64 : decode cX8_holdNew 64 = .ok (.iload_n 3, 1) := by decide +kernel
theorem dX8_holdNew_65 : decode cX8_holdNew 65 = .ok (.iadd, 1) := by decide +kernel
theorem dX8_holdNew_66 : decode cX8_holdNew 66 = .ok (.aload_n 0, 1) := by decide +kernel
theorem dX8_holdNew_67 : decode cX8_holdNew 67 = .ok (.getfield 81, 3) := by decide +kernel
theorem dX8_holdNew_70 : decode cX8_holdNew 70 = .ok (.iload_n 3, 1) := by decide +kernel
theorem dX8_holdNew_71 : decode cX8_holdNew 71 = .ok (.iaload, 1) := by decide +kernel
theorem dX8_holdNew_72 : decode cX8_holdNew 72 = .ok (.iastore, 1) := by decide +kernel
theorem dX8_holdNew_73 : decode cX8_holdNew 73 = .ok (.aload_n 0, 1) := by decide +kernel
theorem dX8_holdNew_74 : decode cX8_holdNew 74 = .ok (.getfield 28, 3) := by decide +kernel
theorem dX8_holdNew_77 : decode cX8_holdNew 77 = .ok (.bipush 6, 2) := by decide +kernel
theorem dX8_holdNew_79 : decode cX8_holdNew 79 = .ok (.iload_n 2, 1) := by decide +kernel
theorem dX8_holdNew_80 : decode cX8_holdNew 80 = .ok (.imul, 1) := by decide +kernel
theorem dX8_holdNew_81 : decode cX8_holdNew 81 = .ok (.iload_n 3, 1) := by decide +kernel
theorem dX8_holdNew_82 : decode cX8_holdNew 82 = .ok (.iadd, 1) := by decide +kernel
theorem dX8_holdNew_83 : decode cX8_holdNew 83 = .ok (.aload_n 0, 1) := by decide +kernel
theorem dX8_holdNew_84 : decode cX8_holdNew 84 = .ok (.getfield 84, 3) := by decide +kernel
theorem dX8_holdNew_87 : decode cX8_holdNew 87 = .ok (.iload_n 3, 1) := by decide +kernel
theorem dX8_holdNew_88 : decode cX8_holdNew 88 = .ok (.iaload, 1) := by decide +kernel
theorem dX8_holdNew_89 : decode cX8_holdNew 89 = .ok (.iastore, 1) := by decide +kernel
theorem dX8_holdNew_90 : decode cX8_holdNew 90 = .ok (.aload_n 0, 1) := by decide +kernel
theorem dX8_holdNew_91 : decode cX8_holdNew 91 = .ok (.getfield 31, 3) := by decide +kernel
theorem dX8_holdNew_94 : decode cX8_holdNew 94 = .ok (.bipush 6, 2) := by decide +kernel
theorem dX8_holdNew_96 : decode cX8_holdNew 96 = .ok (.iload_n 2, 1) := by decide +kernel
theorem dX8_holdNew_97 : decode cX8_holdNew 97 = .ok (.imul, 1) := by decide +kernel
theorem dX8_holdNew_98 : decode cX8_holdNew 98 = .ok (.iload_n 3, 1) := by decide +kernel
theorem dX8_holdNew_99 : decode cX8_holdNew 99 = .ok (.iadd, 1) := by decide +kernel
theorem dX8_holdNew_100 : decode cX8_holdNew 100 = .ok (.aload_n 0, 1) := by decide +kernel
theorem dX8_holdNew_101 : decode cX8_holdNew 101 = .ok (.getfield 87, 3) := by decide +kernel
theorem dX8_holdNew_104 : decode cX8_holdNew 104 = .ok (.iload_n 3, 1) := by decide +kernel
theorem dX8_holdNew_105 : decode cX8_holdNew 105 = .ok (.laload, 1) := by decide +kernel
theorem dX8_holdNew_106 : decode cX8_holdNew 106 = .ok (.lastore, 1) := by decide +kernel
theorem dX8_holdNew_107 : decode cX8_holdNew 107 = .ok (.iinc 3 1, 3) := by decide +kernel
theorem dX8_holdNew_110 : decode cX8_holdNew 110 = .ok (.goto (-62), 3) := by decide +kernel
theorem dX8_holdNew_113 : decode cX8_holdNew 113 = .ok (.return_, 1) := by decide +kernel
def fX8_holdNew_b48 : Nat → Int32 → Int32 → Mm → Option Mm
  | 0, _, _, _ => none
  | n + 1, v2, v3, μ => (if (μ.1 0 33) ≤ v3 then some μ else (if inb v3 6 = true then (if inb (((6 : Int32) * v2) + v3) 66 = true then (if inb v3 6 = true then (if inb (((6 : Int32) * v2) + v3) 66 = true then (if inb v3 6 = true then (if inb (((6 : Int32) * v2) + v3) 66 = true then (fX8_holdNew_b48 n) v2 (v3 + (1 : Int32)) (wL (wI (wI μ 6 (Int32.toNatClampNeg (((6 : Int32) * v2) + v3)) (μ.1 24 (Int32.toNatClampNeg v3))) 7 (Int32.toNatClampNeg (((6 : Int32) * v2) + v3)) ((wI μ 6 (Int32.toNatClampNeg (((6 : Int32) * v2) + v3)) (μ.1 24 (Int32.toNatClampNeg v3))).1 25 (Int32.toNatClampNeg v3))) 8 (Int32.toNatClampNeg (((6 : Int32) * v2) + v3)) ((wI (wI μ 6 (Int32.toNatClampNeg (((6 : Int32) * v2) + v3)) (μ.1 24 (Int32.toNatClampNeg v3))) 7 (Int32.toNatClampNeg (((6 : Int32) * v2) + v3)) ((wI μ 6 (Int32.toNatClampNeg (((6 : Int32) * v2) + v3)) (μ.1 24 (Int32.toNatClampNeg v3))).1 25 (Int32.toNatClampNeg v3))).2 26 (Int32.toNatClampNeg v3))) else none) else none) else none) else none) else none) else none))
def fX8_holdNew (p1 : Int32) (μ : Mm) : Option Mm := ((fX8_note μ).bind fun μ1 => ((fX8_freeRow μ1).bind fun r5 => (if inb p1 10 = true then (if inb p1 10 = true then (if inb r5 11 = true then (if inb r5 11 = true then fX8_holdNew_b48 100 r5 (0 : Int32) (wI (wI (wI (wI μ1 2 (Int32.toNatClampNeg p1) (μ1.1 0 32)) 3 (Int32.toNatClampNeg p1) r5) 4 (Int32.toNatClampNeg r5) ((wI (wI μ1 2 (Int32.toNatClampNeg p1) (μ1.1 0 32)) 3 (Int32.toNatClampNeg p1) r5).1 0 32)) 5 (Int32.toNatClampNeg r5) ((wI (wI (wI μ1 2 (Int32.toNatClampNeg p1) (μ1.1 0 32)) 3 (Int32.toNatClampNeg p1) r5) 4 (Int32.toNatClampNeg r5) ((wI (wI μ1 2 (Int32.toNatClampNeg p1) (μ1.1 0 32)) 3 (Int32.toNatClampNeg p1) r5).1 0 32)).1 0 33)) else none) else none) else none) else none)))
set_option maxRecDepth 100000 in
set_option maxHeartbeats 4000000 in
theorem kX8_holdNew (l : Launch) (ε : Ev) (p1 : Int32) (μ : Mm) (out : Mm) (hf : fX8_holdNew p1 μ = some out) : Sp l ε layM yX8_holdNew cX8_holdNew 4 none 2 [.ref (ea ε 0), .int p1] none μ out := by
  refine Sp.of [(0, .ref (ea ε 0)), (1, .int p1)] rfl (by decide +kernel) (Nat.le_of_ble_eq_true rfl) ?_
  intro κ hκ C E hQ
  subst hκ
  replace C : Cf κ cX8_holdNew 4 RX8 none 2 := C
  have b48 : ∀ (n : Nat) (v2 : Int32) (v3 : Int32) (μ : Mm) , fX8_holdNew_b48 n v2 v3 μ = some out → G κ (Vw κ ε layM μ) 4 48 [(0, .ref (ea ε 0)), (2, .int v2), (3, .int v3)] [] := by
    intro n
    induction n with
    | zero => intro v2 v3 μ hf; exact none_ne hf
    | succ n ih =>
      intro v2 v3 μ hf
      refine g_iload_n (pc := 48) (i := 3) (j := 2) C dX8_holdNew_48 rfl rfl ?_
      refine g_aload_n (pc := 49) (i := 0) (j := 0) C dX8_holdNew_49 rfl rfl ?_
      refine g_geti (pc := 50) C E fdX8_192 layM_0_33 dX8_holdNew_50 ?_
      refine g_icmp_ge (pc := 53) (tgt := 113) C dX8_holdNew_53 rfl hf (fun _ hf => ?_) (fun _ hf => ?_)
      · exact g_vretw (pc := 113) C hQ dX8_holdNew_113 hf
      · refine g_aload_n (pc := 56) (i := 0) (j := 0) C dX8_holdNew_56 rfl rfl ?_
        refine g_getr (pc := 57) (j := 6) C E fdX8_25 layM_0_6 dX8_holdNew_57 ?_
        refine g_bipush (pc := 60) C dX8_holdNew_60 cb_6 ?_
        refine g_iload_n (pc := 62) (i := 2) (j := 1) C dX8_holdNew_62 rfl rfl ?_
        refine g_imul (pc := 63) C dX8_holdNew_63 ?_
        refine g_iload_n (pc := 64) (i := 3) (j := 2) C dX8_holdNew_64 rfl rfl ?_
        refine g_iadd (pc := 65) C dX8_holdNew_65 ?_
        refine g_aload_n (pc := 66) (i := 0) (j := 0) C dX8_holdNew_66 rfl rfl ?_
        refine g_getr (pc := 67) (j := 24) C E fdX8_81 layM_0_34 dX8_holdNew_67 ?_
        refine g_iload_n (pc := 70) (i := 3) (j := 2) C dX8_holdNew_70 rfl rfl ?_
        refine g_iald (pc := 71) C E layM_24 dX8_holdNew_71 hf (fun hf => ?_)
        refine g_iast (pc := 72) C E layM_6 dX8_holdNew_72 hf (fun hf => ?_)
        refine g_aload_n (pc := 73) (i := 0) (j := 0) C dX8_holdNew_73 rfl rfl ?_
        refine g_getr (pc := 74) (j := 7) C E fdX8_28 layM_0_7 dX8_holdNew_74 ?_
        refine g_bipush (pc := 77) C dX8_holdNew_77 cb_6 ?_
        refine g_iload_n (pc := 79) (i := 2) (j := 1) C dX8_holdNew_79 rfl rfl ?_
        refine g_imul (pc := 80) C dX8_holdNew_80 ?_
        refine g_iload_n (pc := 81) (i := 3) (j := 2) C dX8_holdNew_81 rfl rfl ?_
        refine g_iadd (pc := 82) C dX8_holdNew_82 ?_
        refine g_aload_n (pc := 83) (i := 0) (j := 0) C dX8_holdNew_83 rfl rfl ?_
        refine g_getr (pc := 84) (j := 25) C E fdX8_84 layM_0_35 dX8_holdNew_84 ?_
        refine g_iload_n (pc := 87) (i := 3) (j := 2) C dX8_holdNew_87 rfl rfl ?_
        refine g_iald (pc := 88) C E layM_25 dX8_holdNew_88 hf (fun hf => ?_)
        refine g_iast (pc := 89) C E layM_7 dX8_holdNew_89 hf (fun hf => ?_)
        refine g_aload_n (pc := 90) (i := 0) (j := 0) C dX8_holdNew_90 rfl rfl ?_
        refine g_getr (pc := 91) (j := 8) C E fdX8_31 layM_0_8 dX8_holdNew_91 ?_
        refine g_bipush (pc := 94) C dX8_holdNew_94 cb_6 ?_
        refine g_iload_n (pc := 96) (i := 2) (j := 1) C dX8_holdNew_96 rfl rfl ?_
        refine g_imul (pc := 97) C dX8_holdNew_97 ?_
        refine g_iload_n (pc := 98) (i := 3) (j := 2) C dX8_holdNew_98 rfl rfl ?_
        refine g_iadd (pc := 99) C dX8_holdNew_99 ?_
        refine g_aload_n (pc := 100) (i := 0) (j := 0) C dX8_holdNew_100 rfl rfl ?_
        refine g_getr (pc := 101) (j := 26) C E fdX8_87 layM_0_36 dX8_holdNew_101 ?_
        refine g_iload_n (pc := 104) (i := 3) (j := 2) C dX8_holdNew_104 rfl rfl ?_
        refine g_lald (pc := 105) C E layM_26 dX8_holdNew_105 hf (fun hf => ?_)
        refine g_last (pc := 106) C E layM_8 dX8_holdNew_106 hf (fun hf => ?_)
        refine g_iinc (pc := 107) (i := 3) (j := 2) (v := (v3 + (1 : Int32))) (L' := [(3, .int (v3 + (1 : Int32))), (0, .ref (ea ε 0)), (2, .int v2)]) C dX8_holdNew_107 rfl (cx_1 _) (by decide) rfl ?_
        refine g_goto (pc := 110) (tgt := 48) C dX8_holdNew_110 rfl ?_
        exact g_at [1, 2, 0] rfl (ih v2 (v3 + (1 : Int32)) (wL (wI (wI μ 6 (Int32.toNatClampNeg (((6 : Int32) * v2) + v3)) (μ.1 24 (Int32.toNatClampNeg v3))) 7 (Int32.toNatClampNeg (((6 : Int32) * v2) + v3)) ((wI μ 6 (Int32.toNatClampNeg (((6 : Int32) * v2) + v3)) (μ.1 24 (Int32.toNatClampNeg v3))).1 25 (Int32.toNatClampNeg v3))) 8 (Int32.toNatClampNeg (((6 : Int32) * v2) + v3)) ((wI (wI μ 6 (Int32.toNatClampNeg (((6 : Int32) * v2) + v3)) (μ.1 24 (Int32.toNatClampNeg v3))) 7 (Int32.toNatClampNeg (((6 : Int32) * v2) + v3)) ((wI μ 6 (Int32.toNatClampNeg (((6 : Int32) * v2) + v3)) (μ.1 24 (Int32.toNatClampNeg v3))).1 25 (Int32.toNatClampNeg v3))).2 26 (Int32.toNatClampNeg v3))) hf)
  refine g_aload_n (pc := 0) (i := 0) (j := 0) C dX8_holdNew_0 rfl rfl ?_
  refine g_cwv (pc := 1) (st := []) C E layM_0 lkX8_236 (As := []) rfl (fun out h => kX8_note (kl κ) ε μ out h) (by decide) rfl (Nat.le_of_ble_eq_true rfl) dX8_holdNew_1 hf (fun μ1 _ hf => ?_)
  refine g_aload_n (pc := 4) (i := 0) (j := 0) C dX8_holdNew_4 rfl rfl ?_
  refine g_cri (pc := 5) (st := []) C E layM_0 lkX8_239 (As := []) rfl (fun out h => kX8_freeRow (kl κ) ε μ1 out h) (by decide) rfl (Nat.le_of_ble_eq_true rfl) dX8_holdNew_5 hf (fun r5 _ hf => ?_)
  refine g_istore_n (pc := 8) (i := 2) (L' := [(2, .int r5), (0, .ref (ea ε 0)), (1, .int p1)]) C dX8_holdNew_8 rfl (by decide) rfl ?_
  refine g_aload_n (pc := 9) (i := 0) (j := 1) C dX8_holdNew_9 rfl rfl ?_
  refine g_getr (pc := 10) (j := 2) C E fdX8_13 layM_0_2 dX8_holdNew_10 ?_
  refine g_iload_n (pc := 13) (i := 1) (j := 2) C dX8_holdNew_13 rfl rfl ?_
  refine g_aload_n (pc := 14) (i := 0) (j := 1) C dX8_holdNew_14 rfl rfl ?_
  refine g_geti (pc := 15) C E fdX8_195 layM_0_32 dX8_holdNew_15 ?_
  refine g_iast (pc := 18) C E layM_2 dX8_holdNew_18 hf (fun hf => ?_)
  refine g_aload_n (pc := 19) (i := 0) (j := 1) C dX8_holdNew_19 rfl rfl ?_
  refine g_getr (pc := 20) (j := 3) C E fdX8_16 layM_0_3 dX8_holdNew_20 ?_
  refine g_iload_n (pc := 23) (i := 1) (j := 2) C dX8_holdNew_23 rfl rfl ?_
  refine g_iload_n (pc := 24) (i := 2) (j := 0) C dX8_holdNew_24 rfl rfl ?_
  refine g_iast (pc := 25) C E layM_3 dX8_holdNew_25 hf (fun hf => ?_)
  refine g_aload_n (pc := 26) (i := 0) (j := 1) C dX8_holdNew_26 rfl rfl ?_
  refine g_getr (pc := 27) (j := 4) C E fdX8_19 layM_0_4 dX8_holdNew_27 ?_
  refine g_iload_n (pc := 30) (i := 2) (j := 0) C dX8_holdNew_30 rfl rfl ?_
  refine g_aload_n (pc := 31) (i := 0) (j := 1) C dX8_holdNew_31 rfl rfl ?_
  refine g_geti (pc := 32) C E fdX8_195 layM_0_32 dX8_holdNew_32 ?_
  refine g_iast (pc := 35) C E layM_4 dX8_holdNew_35 hf (fun hf => ?_)
  refine g_aload_n (pc := 36) (i := 0) (j := 1) C dX8_holdNew_36 rfl rfl ?_
  refine g_getr (pc := 37) (j := 5) C E fdX8_22 layM_0_5 dX8_holdNew_37 ?_
  refine g_iload_n (pc := 40) (i := 2) (j := 0) C dX8_holdNew_40 rfl rfl ?_
  refine g_aload_n (pc := 41) (i := 0) (j := 1) C dX8_holdNew_41 rfl rfl ?_
  refine g_geti (pc := 42) C E fdX8_192 layM_0_33 dX8_holdNew_42 ?_
  refine g_iast (pc := 45) C E layM_5 dX8_holdNew_45 hf (fun hf => ?_)
  refine g_iconst (pc := 46) C dX8_holdNew_46 ci_0 ?_
  refine g_istore_n (pc := 47) (i := 3) (L' := [(3, .int (0 : Int32)), (2, .int r5), (0, .ref (ea ε 0)), (1, .int p1)]) C dX8_holdNew_47 rfl (by decide) rfl ?_
  exact g_at [2, 1, 0] rfl (b48 100 r5 (0 : Int32) (wI (wI (wI (wI μ1 2 (Int32.toNatClampNeg p1) (μ1.1 0 32)) 3 (Int32.toNatClampNeg p1) r5) 4 (Int32.toNatClampNeg r5) ((wI (wI μ1 2 (Int32.toNatClampNeg p1) (μ1.1 0 32)) 3 (Int32.toNatClampNeg p1) r5).1 0 32)) 5 (Int32.toNatClampNeg r5) ((wI (wI (wI μ1 2 (Int32.toNatClampNeg p1) (μ1.1 0 32)) 3 (Int32.toNatClampNeg p1) r5) 4 (Int32.toNatClampNeg r5) ((wI (wI μ1 2 (Int32.toNatClampNeg p1) (μ1.1 0 32)) 3 (Int32.toNatClampNeg p1) r5).1 0 32)).1 0 33)) hf)
theorem dX8_putTold_0 : decode cX8_putTold 0 = .ok (.aload_n 0, 1) := by decide +kernel
theorem dX8_putTold_1 : decode cX8_putTold 1 = .ok (.getfield 81, 3) := by decide +kernel
theorem dX8_putTold_4 : decode cX8_putTold 4 = .ok (.aload_n 0, 1) := by decide +kernel
theorem dX8_putTold_5 : decode cX8_putTold 5 = .ok (.getfield 192, 3) := by decide +kernel
theorem dX8_putTold_8 : decode cX8_putTold 8 = .ok (.iload_n 1, 1) := by decide +kernel
theorem dX8_putTold_9 : decode cX8_putTold 9 = .ok (.iastore, 1) := by decide +kernel
theorem dX8_putTold_10 : decode cX8_putTold 10 = .ok (.aload_n 0, 1) := by decide +kernel
theorem dX8_putTold_11 : decode cX8_putTold 11 = .ok (.getfield 84, 3) := by decide +kernel
theorem dX8_putTold_14 : decode cX8_putTold 14 = .ok (.aload_n 0, 1) := by decide +kernel
theorem dX8_putTold_15 : decode cX8_putTold 15 = .ok (.getfield 192, 3) := by decide +kernel
theorem dX8_putTold_18 : decode cX8_putTold 18 = .ok (.iload_n 2, 1) := by decide +kernel
theorem dX8_putTold_19 : decode cX8_putTold 19 = .ok (.iastore, 1) := by decide +kernel
theorem dX8_putTold_20 : decode cX8_putTold 20 = .ok (.aload_n 0, 1) := by decide +kernel
theorem dX8_putTold_21 : decode cX8_putTold 21 = .ok (.getfield 87, 3) := by decide +kernel
theorem dX8_putTold_24 : decode cX8_putTold 24 = .ok (.aload_n 0, 1) := by decide +kernel
theorem dX8_putTold_25 : decode cX8_putTold 25 = .ok (.getfield 192, 3) := by decide +kernel
theorem dX8_putTold_28 : decode cX8_putTold 28 = .ok (.lload_n 3, 1) := by decide +kernel
theorem dX8_putTold_29 : decode cX8_putTold 29 = .ok (.lastore, 1) := by decide +kernel
theorem dX8_putTold_30 : decode cX8_putTold 30 = .ok (.aload_n 0, 1) := by decide +kernel
theorem dX8_putTold_31 : decode cX8_putTold 31 = .ok (.dup, 1) := by decide +kernel
theorem dX8_putTold_32 : decode cX8_putTold 32 = .ok (.getfield 192, 3) := by decide +kernel
theorem dX8_putTold_35 : decode cX8_putTold 35 = .ok (.iconst 1, 1) := by decide +kernel
theorem dX8_putTold_36 : decode cX8_putTold 36 = .ok (.iadd, 1) := by decide +kernel
theorem dX8_putTold_37 : decode cX8_putTold 37 = .ok (.putfield 192, 3) := by decide +kernel
theorem dX8_putTold_40 : decode cX8_putTold 40 = .ok (.return_, 1) := by decide +kernel
def fX8_putTold (p1 : Int32) (p2 : Int32) (p3 : Int64) (μ : Mm) : Option Mm := (if inb (μ.1 0 33) 6 = true then (if inb ((wI μ 24 (Int32.toNatClampNeg (μ.1 0 33)) p1).1 0 33) 6 = true then (if inb ((wI (wI μ 24 (Int32.toNatClampNeg (μ.1 0 33)) p1) 25 (Int32.toNatClampNeg ((wI μ 24 (Int32.toNatClampNeg (μ.1 0 33)) p1).1 0 33)) p2).1 0 33) 6 = true then some (wI (wL (wI (wI μ 24 (Int32.toNatClampNeg (μ.1 0 33)) p1) 25 (Int32.toNatClampNeg ((wI μ 24 (Int32.toNatClampNeg (μ.1 0 33)) p1).1 0 33)) p2) 26 (Int32.toNatClampNeg ((wI (wI μ 24 (Int32.toNatClampNeg (μ.1 0 33)) p1) 25 (Int32.toNatClampNeg ((wI μ 24 (Int32.toNatClampNeg (μ.1 0 33)) p1).1 0 33)) p2).1 0 33)) p3) 0 33 (((wL (wI (wI μ 24 (Int32.toNatClampNeg (μ.1 0 33)) p1) 25 (Int32.toNatClampNeg ((wI μ 24 (Int32.toNatClampNeg (μ.1 0 33)) p1).1 0 33)) p2) 26 (Int32.toNatClampNeg ((wI (wI μ 24 (Int32.toNatClampNeg (μ.1 0 33)) p1) 25 (Int32.toNatClampNeg ((wI μ 24 (Int32.toNatClampNeg (μ.1 0 33)) p1).1 0 33)) p2).1 0 33)) p3).1 0 33) + (1 : Int32))) else none) else none) else none)
set_option maxRecDepth 100000 in
set_option maxHeartbeats 4000000 in
theorem kX8_putTold (l : Launch) (ε : Ev) (p1 : Int32) (p2 : Int32) (p3 : Int64) (μ : Mm) (out : Mm) (hf : fX8_putTold p1 p2 p3 μ = some out) : Sp l ε layM yX8_putTold cX8_putTold 5 none 0 [.ref (ea ε 0), .int p1, .int p2, .long p3] none μ out := by
  refine Sp.of [(0, .ref (ea ε 0)), (1, .int p1), (2, .int p2), (3, .long p3)] rfl (by decide +kernel) (Nat.le_of_ble_eq_true rfl) ?_
  intro κ hκ C E hQ
  subst hκ
  replace C : Cf κ cX8_putTold 5 RX8 none 0 := C
  refine g_aload_n (pc := 0) (i := 0) (j := 0) C dX8_putTold_0 rfl rfl ?_
  refine g_getr (pc := 1) (j := 24) C E fdX8_81 layM_0_34 dX8_putTold_1 ?_
  refine g_aload_n (pc := 4) (i := 0) (j := 0) C dX8_putTold_4 rfl rfl ?_
  refine g_geti (pc := 5) C E fdX8_192 layM_0_33 dX8_putTold_5 ?_
  refine g_iload_n (pc := 8) (i := 1) (j := 1) C dX8_putTold_8 rfl rfl ?_
  refine g_iast (pc := 9) C E layM_24 dX8_putTold_9 hf (fun hf => ?_)
  refine g_aload_n (pc := 10) (i := 0) (j := 0) C dX8_putTold_10 rfl rfl ?_
  refine g_getr (pc := 11) (j := 25) C E fdX8_84 layM_0_35 dX8_putTold_11 ?_
  refine g_aload_n (pc := 14) (i := 0) (j := 0) C dX8_putTold_14 rfl rfl ?_
  refine g_geti (pc := 15) C E fdX8_192 layM_0_33 dX8_putTold_15 ?_
  refine g_iload_n (pc := 18) (i := 2) (j := 2) C dX8_putTold_18 rfl rfl ?_
  refine g_iast (pc := 19) C E layM_25 dX8_putTold_19 hf (fun hf => ?_)
  refine g_aload_n (pc := 20) (i := 0) (j := 0) C dX8_putTold_20 rfl rfl ?_
  refine g_getr (pc := 21) (j := 26) C E fdX8_87 layM_0_36 dX8_putTold_21 ?_
  refine g_aload_n (pc := 24) (i := 0) (j := 0) C dX8_putTold_24 rfl rfl ?_
  refine g_geti (pc := 25) C E fdX8_192 layM_0_33 dX8_putTold_25 ?_
  refine g_lload_n (pc := 28) (i := 3) (j := 3) C dX8_putTold_28 rfl rfl ?_
  refine g_last (pc := 29) C E layM_26 dX8_putTold_29 hf (fun hf => ?_)
  refine g_aload_n (pc := 30) (i := 0) (j := 0) C dX8_putTold_30 rfl rfl ?_
  refine g_dup (pc := 31) C dX8_putTold_31 rfl ?_
  refine g_geti (pc := 32) C E fdX8_192 layM_0_33 dX8_putTold_32 ?_
  refine g_iconst (pc := 35) C dX8_putTold_35 ci_1 ?_
  refine g_iadd (pc := 36) C dX8_putTold_36 ?_
  refine g_puti (pc := 37) C E fdX8_192 layM_0_33 dX8_putTold_37 ?_
  exact g_vretw (pc := 40) C hQ dX8_putTold_40 hf
theorem dX8_cut_0 : decode cX8_cut 0 = .ok (.iload_n 1, 1) := by decide +kernel
theorem dX8_cut_1 : decode cX8_cut 1 = .ok (.invokestatic 242, 3) := by decide +kernel
theorem dX8_cut_4 : decode cX8_cut 4 = .ok (.ifCond .eq 10, 3) := by decide +kernel
theorem dX8_cut_7 : decode cX8_cut 7 = .ok (.iload_n 2, 1) := by decide +kernel
theorem dX8_cut_8 : decode cX8_cut 8 = .ok (.invokestatic 242, 3) := by decide +kernel
theorem dX8_cut_11 : decode cX8_cut 11 = .ok (.ifCond .ne 5, 3) := by decide +kernel
theorem dX8_cut_14 : decode cX8_cut 14 = .ok (.iconst (-1), 1) := by decide +kernel
theorem dX8_cut_15 : decode cX8_cut 15 = .ok (.ireturn, 1) := by decide +kernel
theorem dX8_cut_16 : decode cX8_cut 16 = .ok (.aload_n 0, 1) := by decide +kernel
theorem dX8_cut_17 : decode cX8_cut 17 = .ok (.iload_n 1, 1) := by decide +kernel
theorem dX8_cut_18 : decode cX8_cut 18 = .ok (.invokevirtual 267, 3) := by decide +kernel
theorem dX8_cut_21 : decode cX8_cut 21 = .ok (.ifCond .ne 6, 3) := by decide +kernel
theorem dX8_cut_24 : decode cX8_cut 24 = .ok (.bipush (-3), 2) := by decide +kernel
theorem dX8_cut_26 : decode cX8_cut 26 = .ok (.ireturn, 1) := by decide +kernel
theorem dX8_cut_27 : decode cX8_cut 27 = .ok (.aload_n 0, 1) := by decide +kernel
theorem dX8_cut_28 : decode cX8_cut 28 = .ok (.getfield 16, 3) := by decide +kernel
theorem dX8_cut_31 : decode cX8_cut 31 = .ok (.iload_n 1, 1) := by decide +kernel
theorem dX8_cut_32 : decode cX8_cut 32 = .ok (.iaload, 1) := by decide +kernel
theorem dX8_cut_33 : decode cX8_cut 33 = .ok (.istore 4, 2) := by decide +kernel
theorem dX8_cut_35 : decode cX8_cut 35 = .ok (.iload_n 3, 1) := by decide +kernel
theorem dX8_cut_36 : decode cX8_cut 36 = .ok (.i2l, 1) := by decide +kernel
theorem dX8_cut_37 : decode cX8_cut 37 = .ok (.lconst 0, 1) := by decide +kernel
theorem dX8_cut_38 : decode cX8_cut 38 = .ok (.ldc2_w 395, 3) := by decide +kernel
theorem dX8_cut_41 : decode cX8_cut 41 = .ok (.invokestatic 98, 3) := by decide +kernel
theorem dX8_cut_44 : decode cX8_cut 44 = .ok (.ifCond .eq 22, 3) := by decide +kernel
theorem dX8_cut_47 : decode cX8_cut 47 = .ok (.iload_n 3, 1) := by decide +kernel
theorem dX8_cut_48 : decode cX8_cut 48 = .ok (.bipush 10, 2) := by decide +kernel
theorem dX8_cut_50 : decode cX8_cut 50 = .ok (.idiv, 1) := by decide +kernel
theorem dX8_cut_51 : decode cX8_cut 51 = .ok (.iload_n 3, 1) := by decide +kernel
theorem dX8_cut_52 : decode cX8_cut 52 = .ok (.bipush 10, 2) := by decide +kernel
theorem dX8_cut_54 : decode cX8_cut 54 = .ok (.irem, 1) := by decide +kernel
theorem dX8_cut_55 : decode cX8_cut 55 = .ok (.iadd, 1) := by decide +kernel
theorem dX8_cut_56 : decode cX8_cut 56 = .ok (.aload_n 0, 1) := by decide +kernel
theorem dX8_cut_57 : decode cX8_cut 57 = .ok (.getfield 22, 3) := by decide +kernel
theorem dX8_cut_60 : decode cX8_cut 60 = .ok (.iload 4, 2) := by decide +kernel
theorem dX8_cut_62 : decode cX8_cut 62 = .ok (.iaload, 1) := by decide +kernel
theorem dX8_cut_63 : decode cX8_cut 63 = .ok (.if_icmp .le 6, 3) := by decide +kernel
theorem dX8_cut_66 : decode cX8_cut 66 = .ok (.bipush (-2), 2) := by decide +kernel
theorem dX8_cut_68 : decode cX8_cut 68 = .ok (.ireturn, 1) := by decide +kernel
theorem dX8_cut_69 : decode cX8_cut 69 = .ok (.aload_n 0, 1) := by decide +kernel
theorem dX8_cut_70 : decode cX8_cut 70 = .ok (.aload_n 0, 1) := by decide +kernel
theorem dX8_cut_71 : decode cX8_cut 71 = .ok (.getfield 19, 3) := by decide +kernel
theorem dX8_cut_74 : decode cX8_cut 74 = .ok (.iload 4, 2) := by decide +kernel
theorem dX8_cut_76 : decode cX8_cut 76 = .ok (.iaload, 1) := by decide +kernel
theorem dX8_cut_77 : decode cX8_cut 77 = .ok (.putfield 195, 3) := by decide +kernel
theorem dX8_cut_80 : decode cX8_cut 80 = .ok (.aload_n 0, 1) := by decide +kernel
theorem dX8_cut_81 : decode cX8_cut 81 = .ok (.iconst 0, 1) := by decide +kernel
theorem dX8_cut_82 : decode cX8_cut 82 = .ok (.putfield 192, 3) := by decide +kernel
theorem dX8_cut_85 : decode cX8_cut 85 = .ok (.iload_n 3, 1) := by decide +kernel
theorem dX8_cut_86 : decode cX8_cut 86 = .ok (.bipush 10, 2) := by decide +kernel
theorem dX8_cut_88 : decode cX8_cut 88 = .ok (.idiv, 1) := by decide +kernel
theorem dX8_cut_89 : decode cX8_cut 89 = .ok (.istore 5, 2) := by decide +kernel
theorem dX8_cut_91 : decode cX8_cut 91 = .ok (.iload 5, 2) := by decide +kernel
theorem dX8_cut_93 : decode cX8_cut 93 = .ok (.iload_n 3, 1) := by decide +kernel
theorem dX8_cut_94 : decode cX8_cut 94 = .ok (.bipush 10, 2) := by decide +kernel
theorem dX8_cut_96 : decode cX8_cut 96 = .ok (.idiv, 1) := by decide +kernel
theorem dX8_cut_97 : decode cX8_cut 97 = .ok (.iload_n 3, 1) := by decide +kernel
theorem dX8_cut_98 : decode cX8_cut 98 = .ok (.bipush 10, 2) := by decide +kernel
theorem dX8_cut_100 : decode cX8_cut 100 = .ok (.irem, 1) := by decide +kernel
theorem dX8_cut_101 : decode cX8_cut 101 = .ok (.iadd, 1) := by decide +kernel
theorem dX8_cut_102 : decode cX8_cut 102 = .ok (.if_icmp .ge 52, 3) := by decide +kernel
theorem dX8_cut_105 : decode cX8_cut 105 = .ok (.aload_n 0, 1) := by decide +kernel
theorem dX8_cut_106 : decode cX8_cut 106 = .ok (.aload_n 0, 1) := by decide +kernel
theorem dX8_cut_107 : decode cX8_cut 107 = .ok (.getfield 25, 3) := by decide +kernel
theorem dX8_cut_110 : decode cX8_cut 110 = .ok (.bipush 6, 2) := by decide +kernel
theorem dX8_cut_112 : decode cX8_cut 112 = .ok (.iload 4, 2) := by decide +kernel
theorem dX8_cut_114 : decode cX8_cut 114 = .ok (.imul, 1) := by decide +kernel
theorem dX8_cut_115 : decode cX8_cut 115 = .ok (.iload 5, 2) := by decide +kernel
theorem dX8_cut_117 : decode cX8_cut 117 = .ok (.iadd, 1) := by decide +kernel
theorem dX8_cut_118 : decode cX8_cut 118 = .ok (.iaload, 1) := by decide +kernel
theorem dX8_cut_119 : decode cX8_cut 119 = .ok (.aload_n 0, 1) := by decide +kernel
theorem dX8_cut_120 : decode cX8_cut 120 = .ok (.getfield 28, 3) := by decide +kernel
theorem dX8_cut_123 : decode cX8_cut 123 = .ok (.bipush 6, 2) := by decide +kernel
theorem dX8_cut_125 : decode cX8_cut 125 = .ok (.iload 4, 2) := by decide +kernel
theorem dX8_cut_127 : decode cX8_cut 127 = .ok (.imul, 1) := by decide +kernel
theorem dX8_cut_128 : decode cX8_cut 128 = .ok (.iload 5, 2) := by decide +kernel
theorem dX8_cut_130 : decode cX8_cut 130 = .ok (.iadd, 1) := by decide +kernel
theorem dX8_cut_131 : decode cX8_cut 131 = .ok (.iaload, 1) := by decide +kernel
theorem dX8_cut_132 : decode cX8_cut 132 = .ok (.aload_n 0, 1) := by decide +kernel
theorem dX8_cut_133 : decode cX8_cut 133 = .ok (.getfield 31, 3) := by decide +kernel
theorem dX8_cut_136 : decode cX8_cut 136 = .ok (.bipush 6, 2) := by decide +kernel
theorem dX8_cut_138 : decode cX8_cut 138 = .ok (.iload 4, 2) := by decide +kernel
theorem dX8_cut_140 : decode cX8_cut 140 = .ok (.imul, 1) := by decide +kernel
theorem dX8_cut_141 : decode cX8_cut 141 = .ok (.iload 5, 2) := by decide +kernel
theorem dX8_cut_143 : decode cX8_cut 143 = .ok (.iadd, 1) := by decide +kernel
theorem dX8_cut_144 : decode cX8_cut 144 = .ok (.laload, 1) := by decide +kernel
theorem dX8_cut_145 : decode cX8_cut 145 = .ok (.invokevirtual 202, 3) := by decide +kernel
theorem dX8_cut_148 : decode cX8_cut 148 = .ok (.iinc 5 1, 3) := by decide +kernel
theorem dX8_cut_151 : decode cX8_cut 151 = .ok (.goto (-60), 3) := by decide +kernel
theorem dX8_cut_154 : decode cX8_cut 154 = .ok (.aload_n 0, 1) := by decide +kernel
theorem dX8_cut_155 : decode cX8_cut 155 = .ok (.iload_n 2, 1) := by decide +kernel
theorem dX8_cut_156 : decode cX8_cut 156 = .ok (.invokevirtual 245, 3) := by decide +kernel
theorem dX8_cut_159 : decode cX8_cut 159 = .ok (.aload_n 0, 1) := by decide +kernel
theorem dX8_cut_160 : decode cX8_cut 160 = .ok (.getfield 195, 3) := by decide +kernel
theorem dX8_cut_163 : decode cX8_cut 163 = .ok (.ireturn, 1) := by decide +kernel
def fX8_cut_b91 : Nat → Int32 → Int32 → Int32 → Int32 → Mm → Option (Int32 × Mm)
  | 0, _, _, _, _, _ => none
  | n + 1, v2, v3, v4, v5, μ => (if ((jdiv v3 (10 : Int32)) + (jrem v3 (10 : Int32))) ≤ v5 then ((fX8_holdNew v2 μ).bind fun μ156 => some ((μ156.1 0 32), μ156)) else (if inb (((6 : Int32) * v4) + v5) 66 = true then (if inb (((6 : Int32) * v4) + v5) 66 = true then (if inb (((6 : Int32) * v4) + v5) 66 = true then ((fX8_putTold (μ.1 6 (Int32.toNatClampNeg (((6 : Int32) * v4) + v5))) (μ.1 7 (Int32.toNatClampNeg (((6 : Int32) * v4) + v5))) (μ.2 8 (Int32.toNatClampNeg (((6 : Int32) * v4) + v5))) μ).bind fun μ145 => (fX8_cut_b91 n) v2 v3 v4 (v5 + (1 : Int32)) μ145) else none) else none) else none))
def fX8_cut (p1 : Int32) (p2 : Int32) (p3 : Int32) (μ : Mm) : Option (Int32 × Mm) := ((fX8_isSlot p1).bind fun r1 => (if r1 = 0 then some ((-1 : Int32), μ) else ((fX8_isSlot p2).bind fun r8 => (if r8 = 0 then some ((-1 : Int32), μ) else ((fX8_holdsRow p1 μ).bind fun r18 => (if r18 = 0 then some ((-3 : Int32), μ) else (if inb p1 10 = true then ((fX8_in (Int32.toInt64 p3) (0 : Int64) (69 : Int64)).bind fun r41 => (if r41 = 0 then some ((-2 : Int32), μ) else (if inb (μ.1 3 (Int32.toNatClampNeg p1)) 11 = true then (if ((jdiv p3 (10 : Int32)) + (jrem p3 (10 : Int32))) ≤ (μ.1 5 (Int32.toNatClampNeg (μ.1 3 (Int32.toNatClampNeg p1)))) then (if inb (μ.1 3 (Int32.toNatClampNeg p1)) 11 = true then fX8_cut_b91 100 p2 p3 (μ.1 3 (Int32.toNatClampNeg p1)) (jdiv p3 (10 : Int32)) (wI (wI μ 0 32 (μ.1 4 (Int32.toNatClampNeg (μ.1 3 (Int32.toNatClampNeg p1))))) 0 33 (0 : Int32)) else none) else some ((-2 : Int32), μ)) else none))) else none)))))))
set_option maxRecDepth 100000 in
set_option maxHeartbeats 4000000 in
theorem kX8_cut (l : Launch) (ε : Ev) (p1 : Int32) (p2 : Int32) (p3 : Int32) (μ : Mm) (out : (Int32 × Mm)) (hf : fX8_cut p1 p2 p3 μ = some out) : Sp l ε layM yX8_cut cX8_cut 6 (some .int) 3 [.ref (ea ε 0), .int p1, .int p2, .int p3] (some (.int out.1)) μ out.2 := by
  refine Sp.of [(0, .ref (ea ε 0)), (1, .int p1), (2, .int p2), (3, .int p3)] rfl (by decide +kernel) (Nat.le_of_ble_eq_true rfl) ?_
  intro κ hκ C E hQ
  subst hκ
  replace C : Cf κ cX8_cut 6 RX8 (some .int) 3 := C
  have b91 : ∀ (n : Nat) (v2 : Int32) (v3 : Int32) (v4 : Int32) (v5 : Int32) (μ : Mm) , fX8_cut_b91 n v2 v3 v4 v5 μ = some out → G κ (Vw κ ε layM μ) 6 91 [(0, .ref (ea ε 0)), (2, .int v2), (3, .int v3), (4, .int v4), (5, .int v5)] [] := by
    intro n
    induction n with
    | zero => intro v2 v3 v4 v5 μ hf; exact none_ne hf
    | succ n ih =>
      intro v2 v3 v4 v5 μ hf
      refine g_iload (pc := 91) (i := 5) (j := 4) C dX8_cut_91 rfl ?_
      refine g_iload_n (pc := 93) (i := 3) (j := 2) C dX8_cut_93 rfl rfl ?_
      refine g_bipush (pc := 94) C dX8_cut_94 cb_10 ?_
      refine g_idiv (pc := 96) C dX8_cut_96 (by decide) ?_
      refine g_iload_n (pc := 97) (i := 3) (j := 2) C dX8_cut_97 rfl rfl ?_
      refine g_bipush (pc := 98) C dX8_cut_98 cb_10 ?_
      refine g_irem (pc := 100) C dX8_cut_100 (by decide) ?_
      refine g_iadd (pc := 101) C dX8_cut_101 ?_
      refine g_icmp_ge (pc := 102) (tgt := 154) C dX8_cut_102 rfl hf (fun _ hf => ?_) (fun _ hf => ?_)
      · refine g_aload_n (pc := 154) (i := 0) (j := 0) C dX8_cut_154 rfl rfl ?_
        refine g_iload_n (pc := 155) (i := 2) (j := 1) C dX8_cut_155 rfl rfl ?_
        refine g_cwv (pc := 156) (st := []) C E layM_0 lkX8_245 (As := [.int v2]) rfl (fun out h => kX8_holdNew (kl κ) ε v2 μ out h) (by decide) rfl (Nat.le_of_ble_eq_true rfl) dX8_cut_156 hf (fun μ156 _ hf => ?_)
        refine g_aload_n (pc := 159) (i := 0) (j := 0) C dX8_cut_159 rfl rfl ?_
        refine g_geti (pc := 160) C E fdX8_195 layM_0_32 dX8_cut_160 ?_
        exact g_iretw (pc := 163) C hQ dX8_cut_163 hf
      · refine g_aload_n (pc := 105) (i := 0) (j := 0) C dX8_cut_105 rfl rfl ?_
        refine g_aload_n (pc := 106) (i := 0) (j := 0) C dX8_cut_106 rfl rfl ?_
        refine g_getr (pc := 107) (j := 6) C E fdX8_25 layM_0_6 dX8_cut_107 ?_
        refine g_bipush (pc := 110) C dX8_cut_110 cb_6 ?_
        refine g_iload (pc := 112) (i := 4) (j := 3) C dX8_cut_112 rfl ?_
        refine g_imul (pc := 114) C dX8_cut_114 ?_
        refine g_iload (pc := 115) (i := 5) (j := 4) C dX8_cut_115 rfl ?_
        refine g_iadd (pc := 117) C dX8_cut_117 ?_
        refine g_iald (pc := 118) C E layM_6 dX8_cut_118 hf (fun hf => ?_)
        refine g_aload_n (pc := 119) (i := 0) (j := 0) C dX8_cut_119 rfl rfl ?_
        refine g_getr (pc := 120) (j := 7) C E fdX8_28 layM_0_7 dX8_cut_120 ?_
        refine g_bipush (pc := 123) C dX8_cut_123 cb_6 ?_
        refine g_iload (pc := 125) (i := 4) (j := 3) C dX8_cut_125 rfl ?_
        refine g_imul (pc := 127) C dX8_cut_127 ?_
        refine g_iload (pc := 128) (i := 5) (j := 4) C dX8_cut_128 rfl ?_
        refine g_iadd (pc := 130) C dX8_cut_130 ?_
        refine g_iald (pc := 131) C E layM_7 dX8_cut_131 hf (fun hf => ?_)
        refine g_aload_n (pc := 132) (i := 0) (j := 0) C dX8_cut_132 rfl rfl ?_
        refine g_getr (pc := 133) (j := 8) C E fdX8_31 layM_0_8 dX8_cut_133 ?_
        refine g_bipush (pc := 136) C dX8_cut_136 cb_6 ?_
        refine g_iload (pc := 138) (i := 4) (j := 3) C dX8_cut_138 rfl ?_
        refine g_imul (pc := 140) C dX8_cut_140 ?_
        refine g_iload (pc := 141) (i := 5) (j := 4) C dX8_cut_141 rfl ?_
        refine g_iadd (pc := 143) C dX8_cut_143 ?_
        refine g_lald (pc := 144) C E layM_8 dX8_cut_144 hf (fun hf => ?_)
        refine g_cwv (pc := 145) (st := []) C E layM_0 lkX8_202 (As := [.int (μ.1 6 (Int32.toNatClampNeg (((6 : Int32) * v4) + v5))), .int (μ.1 7 (Int32.toNatClampNeg (((6 : Int32) * v4) + v5))), .long (μ.2 8 (Int32.toNatClampNeg (((6 : Int32) * v4) + v5)))]) rfl (fun out h => kX8_putTold (kl κ) ε (μ.1 6 (Int32.toNatClampNeg (((6 : Int32) * v4) + v5))) (μ.1 7 (Int32.toNatClampNeg (((6 : Int32) * v4) + v5))) (μ.2 8 (Int32.toNatClampNeg (((6 : Int32) * v4) + v5))) μ out h) (by decide) rfl (Nat.le_of_ble_eq_true rfl) dX8_cut_145 hf (fun μ145 _ hf => ?_)
        refine g_iinc (pc := 148) (i := 5) (j := 4) (v := (v5 + (1 : Int32))) (L' := [(5, .int (v5 + (1 : Int32))), (0, .ref (ea ε 0)), (2, .int v2), (3, .int v3), (4, .int v4)]) C dX8_cut_148 rfl (cx_1 _) (by decide) rfl ?_
        refine g_goto (pc := 151) (tgt := 91) C dX8_cut_151 rfl ?_
        exact g_at [1, 2, 3, 4, 0] rfl (ih v2 v3 v4 (v5 + (1 : Int32)) μ145 hf)
  refine g_iload_n (pc := 0) (i := 1) (j := 1) C dX8_cut_0 rfl rfl ?_
  refine g_cpi (pc := 1) (st := []) C lkX8_242 (As := [.int p1]) rfl (fun out h => kX8_isSlot (kl κ) p1 out h) (by decide) rfl (Nat.le_of_ble_eq_true rfl) dX8_cut_1 hf (fun r1 _ hf => ?_)
  refine g_if_eq (pc := 4) (tgt := 14) C dX8_cut_4 rfl hf (fun _ hf => ?_) (fun _ hf => ?_)
  · refine g_iconst (pc := 14) C dX8_cut_14 ci_m1 ?_
    exact g_iretw (pc := 15) C hQ dX8_cut_15 hf
  · refine g_iload_n (pc := 7) (i := 2) (j := 2) C dX8_cut_7 rfl rfl ?_
    refine g_cpi (pc := 8) (st := []) C lkX8_242 (As := [.int p2]) rfl (fun out h => kX8_isSlot (kl κ) p2 out h) (by decide) rfl (Nat.le_of_ble_eq_true rfl) dX8_cut_8 hf (fun r8 _ hf => ?_)
    refine g_if_ne (pc := 11) (tgt := 16) C dX8_cut_11 rfl hf (fun _ hf => ?_) (fun _ hf => ?_)
    · refine g_aload_n (pc := 16) (i := 0) (j := 0) C dX8_cut_16 rfl rfl ?_
      refine g_iload_n (pc := 17) (i := 1) (j := 1) C dX8_cut_17 rfl rfl ?_
      refine g_cri (pc := 18) (st := []) C E layM_0 lkX8_267 (As := [.int p1]) rfl (fun out h => kX8_holdsRow (kl κ) ε p1 μ out h) (by decide) rfl (Nat.le_of_ble_eq_true rfl) dX8_cut_18 hf (fun r18 _ hf => ?_)
      refine g_if_ne (pc := 21) (tgt := 27) C dX8_cut_21 rfl hf (fun _ hf => ?_) (fun _ hf => ?_)
      · refine g_aload_n (pc := 27) (i := 0) (j := 0) C dX8_cut_27 rfl rfl ?_
        refine g_getr (pc := 28) (j := 3) C E fdX8_16 layM_0_3 dX8_cut_28 ?_
        refine g_iload_n (pc := 31) (i := 1) (j := 1) C dX8_cut_31 rfl rfl ?_
        refine g_iald (pc := 32) C E layM_3 dX8_cut_32 hf (fun hf => ?_)
        refine g_istore (pc := 33) (i := 4) (L' := [(4, .int (μ.1 3 (Int32.toNatClampNeg p1))), (0, .ref (ea ε 0)), (1, .int p1), (2, .int p2), (3, .int p3)]) C dX8_cut_33 (by decide) rfl ?_
        refine g_iload_n (pc := 35) (i := 3) (j := 4) C dX8_cut_35 rfl rfl ?_
        refine g_i2l (pc := 36) C dX8_cut_36 ?_
        refine g_lconst (pc := 37) C dX8_cut_37 cl_0 ?_
        refine g_ldc2 (pc := 38) C cnX8_395 dX8_cut_38 ?_
        refine g_cpi (pc := 41) (st := []) C lkX8_98 (As := [.long (Int32.toInt64 p3), .long (0 : Int64), .long (69 : Int64)]) rfl (fun out h => kX8_in (kl κ) (Int32.toInt64 p3) (0 : Int64) (69 : Int64) out h) (by decide) rfl (Nat.le_of_ble_eq_true rfl) dX8_cut_41 hf (fun r41 _ hf => ?_)
        refine g_if_eq (pc := 44) (tgt := 66) C dX8_cut_44 rfl hf (fun _ hf => ?_) (fun _ hf => ?_)
        · refine g_bipush (pc := 66) C dX8_cut_66 cb_m2 ?_
          exact g_iretw (pc := 68) C hQ dX8_cut_68 hf
        · refine g_iload_n (pc := 47) (i := 3) (j := 4) C dX8_cut_47 rfl rfl ?_
          refine g_bipush (pc := 48) C dX8_cut_48 cb_10 ?_
          refine g_idiv (pc := 50) C dX8_cut_50 (by decide) ?_
          refine g_iload_n (pc := 51) (i := 3) (j := 4) C dX8_cut_51 rfl rfl ?_
          refine g_bipush (pc := 52) C dX8_cut_52 cb_10 ?_
          refine g_irem (pc := 54) C dX8_cut_54 (by decide) ?_
          refine g_iadd (pc := 55) C dX8_cut_55 ?_
          refine g_aload_n (pc := 56) (i := 0) (j := 1) C dX8_cut_56 rfl rfl ?_
          refine g_getr (pc := 57) (j := 5) C E fdX8_22 layM_0_5 dX8_cut_57 ?_
          refine g_iload (pc := 60) (i := 4) (j := 0) C dX8_cut_60 rfl ?_
          refine g_iald (pc := 62) C E layM_5 dX8_cut_62 hf (fun hf => ?_)
          refine g_icmp_le (pc := 63) (tgt := 69) C dX8_cut_63 rfl hf (fun _ hf => ?_) (fun _ hf => ?_)
          · refine g_aload_n (pc := 69) (i := 0) (j := 1) C dX8_cut_69 rfl rfl ?_
            refine g_aload_n (pc := 70) (i := 0) (j := 1) C dX8_cut_70 rfl rfl ?_
            refine g_getr (pc := 71) (j := 4) C E fdX8_19 layM_0_4 dX8_cut_71 ?_
            refine g_iload (pc := 74) (i := 4) (j := 0) C dX8_cut_74 rfl ?_
            refine g_iald (pc := 76) C E layM_4 dX8_cut_76 hf (fun hf => ?_)
            refine g_puti (pc := 77) C E fdX8_195 layM_0_32 dX8_cut_77 ?_
            refine g_aload_n (pc := 80) (i := 0) (j := 1) C dX8_cut_80 rfl rfl ?_
            refine g_iconst (pc := 81) C dX8_cut_81 ci_0 ?_
            refine g_puti (pc := 82) C E fdX8_192 layM_0_33 dX8_cut_82 ?_
            refine g_iload_n (pc := 85) (i := 3) (j := 4) C dX8_cut_85 rfl rfl ?_
            refine g_bipush (pc := 86) C dX8_cut_86 cb_10 ?_
            refine g_idiv (pc := 88) C dX8_cut_88 (by decide) ?_
            refine g_istore (pc := 89) (i := 5) (L' := [(5, .int (jdiv p3 (10 : Int32))), (4, .int (μ.1 3 (Int32.toNatClampNeg p1))), (0, .ref (ea ε 0)), (1, .int p1), (2, .int p2), (3, .int p3)]) C dX8_cut_89 (by decide) rfl ?_
            exact g_at [2, 4, 5, 1, 0] rfl (b91 100 p2 p3 (μ.1 3 (Int32.toNatClampNeg p1)) (jdiv p3 (10 : Int32)) (wI (wI μ 0 32 (μ.1 4 (Int32.toNatClampNeg (μ.1 3 (Int32.toNatClampNeg p1))))) 0 33 (0 : Int32)) hf)
          · refine g_bipush (pc := 66) C dX8_cut_66 cb_m2 ?_
            exact g_iretw (pc := 68) C hQ dX8_cut_68 hf
      · refine g_bipush (pc := 24) C dX8_cut_24 cb_m3 ?_
        exact g_iretw (pc := 26) C hQ dX8_cut_26 hf
    · refine g_iconst (pc := 14) C dX8_cut_14 ci_m1 ?_
      exact g_iretw (pc := 15) C hQ dX8_cut_15 hf
theorem dX8_ends_0 : decode cX8_ends 0 = .ok (.iload_n 1, 1) := by decide +kernel
theorem dX8_ends_1 : decode cX8_ends 1 = .ok (.invokestatic 242, 3) := by decide +kernel
theorem dX8_ends_4 : decode cX8_ends 4 = .ok (.ifCond .ne 5, 3) := by decide +kernel
theorem dX8_ends_7 : decode cX8_ends 7 = .ok (.iconst (-1), 1) := by decide +kernel
theorem dX8_ends_8 : decode cX8_ends 8 = .ok (.ireturn, 1) := by decide +kernel
theorem dX8_ends_9 : decode cX8_ends 9 = .ok (.iload_n 3, 1) := by decide +kernel
theorem dX8_ends_10 : decode cX8_ends 10 = .ok (.invokestatic 198, 3) := by decide +kernel
theorem dX8_ends_13 : decode cX8_ends 13 = .ok (.ifCond .ne 6, 3) := by decide +kernel
theorem dX8_ends_16 : decode cX8_ends 16 = .ok (.bipush (-2), 2) := by decide +kernel
theorem dX8_ends_18 : decode cX8_ends 18 = .ok (.ireturn, 1) := by decide +kernel
theorem dX8_ends_19 : decode cX8_ends 19 = .ok (.aload_n 0, 1) := by decide +kernel
theorem dX8_ends_20 : decode cX8_ends 20 = .ok (.iload_n 1, 1) := by decide +kernel
theorem dX8_ends_21 : decode cX8_ends 21 = .ok (.iload_n 2, 1) := by decide +kernel
theorem dX8_ends_22 : decode cX8_ends 22 = .ok (.invokevirtual 339, 3) := by decide +kernel
theorem dX8_ends_25 : decode cX8_ends 25 = .ok (.ifCond .eq 6, 3) := by decide +kernel
theorem dX8_ends_28 : decode cX8_ends 28 = .ok (.bipush (-9), 2) := by decide +kernel
theorem dX8_ends_30 : decode cX8_ends 30 = .ok (.ireturn, 1) := by decide +kernel
theorem dX8_ends_31 : decode cX8_ends 31 = .ok (.aload_n 0, 1) := by decide +kernel
theorem dX8_ends_32 : decode cX8_ends 32 = .ok (.aload_n 0, 1) := by decide +kernel
theorem dX8_ends_33 : decode cX8_ends 33 = .ok (.getfield 16, 3) := by decide +kernel
theorem dX8_ends_36 : decode cX8_ends 36 = .ok (.iload_n 1, 1) := by decide +kernel
theorem dX8_ends_37 : decode cX8_ends 37 = .ok (.iaload, 1) := by decide +kernel
theorem dX8_ends_38 : decode cX8_ends 38 = .ok (.iload_n 2, 1) := by decide +kernel
theorem dX8_ends_39 : decode cX8_ends 39 = .ok (.invokevirtual 283, 3) := by decide +kernel
theorem dX8_ends_42 : decode cX8_ends 42 = .ok (.aload_n 0, 1) := by decide +kernel
theorem dX8_ends_43 : decode cX8_ends 43 = .ok (.getfield 270, 3) := by decide +kernel
theorem dX8_ends_46 : decode cX8_ends 46 = .ok (.iconst 2, 1) := by decide +kernel
theorem dX8_ends_47 : decode cX8_ends 47 = .ok (.if_icmp .eq 6, 3) := by decide +kernel
theorem dX8_ends_50 : decode cX8_ends 50 = .ok (.bipush (-9), 2) := by decide +kernel
theorem dX8_ends_52 : decode cX8_ends 52 = .ok (.ireturn, 1) := by decide +kernel
theorem dX8_ends_53 : decode cX8_ends 53 = .ok (.iconst 0, 1) := by decide +kernel
theorem dX8_ends_54 : decode cX8_ends 54 = .ok (.istore 4, 2) := by decide +kernel
theorem dX8_ends_56 : decode cX8_ends 56 = .ok (.iload 4, 2) := by decide +kernel
theorem dX8_ends_58 : decode cX8_ends 58 = .ok (.bipush 8, 2) := by decide +kernel
theorem dX8_ends_60 : decode cX8_ends 60 = .ok (.if_icmp .ge 17, 3) := by decide +kernel
theorem dX8_ends_63 : decode cX8_ends 63 = .ok (.aload_n 0, 1) := by decide +kernel
theorem dX8_ends_64 : decode cX8_ends 64 = .ok (.getfield 93, 3) := by decide +kernel
theorem dX8_ends_67 : decode cX8_ends 67 = .ok (.iload 4, 2) := by decide +kernel
theorem dX8_ends_69 : decode cX8_ends 69 = .ok (.iconst 0, 1) := by decide +kernel
theorem dX8_ends_70 : decode cX8_ends 70 = .ok (.iastore, 1) := by decide +kernel
theorem dX8_ends_71 : decode cX8_ends 71 = .ok (.iinc 4 1, 3) := by decide +kernel
theorem dX8_ends_74 : decode cX8_ends 74 = .ok (.goto (-18), 3) := by decide +kernel
theorem dX8_ends_77 : decode cX8_ends 77 = .ok (.aload_n 0, 1) := by decide +kernel
theorem dX8_ends_78 : decode cX8_ends 78 = .ok (.aload_n 0, 1) := by decide +kernel
theorem dX8_ends_79 : decode cX8_ends 79 = .ok (.getfield 273, 3) := by decide +kernel
theorem dX8_ends_82 : decode cX8_ends 82 = .ok (.aload_n 0, 1) := by decide +kernel
theorem dX8_ends_83 : decode cX8_ends 83 = .ok (.getfield 276, 3) := by decide +kernel
theorem dX8_ends_86 : decode cX8_ends 86 = .ok (.invokevirtual 378, 3) := by decide +kernel
theorem dX8_ends_89 : decode cX8_ends 89 = .ok (.aload_n 0, 1) := by decide +kernel
theorem dX8_ends_90 : decode cX8_ends 90 = .ok (.getfield 273, 3) := by decide +kernel
theorem dX8_ends_93 : decode cX8_ends 93 = .ok (.istore 4, 2) := by decide +kernel
theorem dX8_ends_95 : decode cX8_ends 95 = .ok (.iload 4, 2) := by decide +kernel
theorem dX8_ends_97 : decode cX8_ends 97 = .ok (.bipush 8, 2) := by decide +kernel
theorem dX8_ends_99 : decode cX8_ends 99 = .ok (.if_icmp .ge 86, 3) := by decide +kernel
theorem dX8_ends_102 : decode cX8_ends 102 = .ok (.iload 4, 2) := by decide +kernel
theorem dX8_ends_104 : decode cX8_ends 104 = .ok (.iconst 1, 1) := by decide +kernel
theorem dX8_ends_105 : decode cX8_ends 105 = .ok (.iadd, 1) := by decide +kernel
theorem dX8_ends_106 : decode cX8_ends 106 = .ok (.istore 5, 2) := by decide +kernel
theorem dX8_ends_108 : decode cX8_ends 108 = .ok (.iload 5, 2) := by decide +kernel
theorem dX8_ends_110 : decode cX8_ends 110 = .ok (.bipush 8, 2) := by decide +kernel
theorem dX8_ends_112 : decode cX8_ends 112 = .ok (.if_icmp .ge 67, 3) := by decide +kernel
theorem dX8_ends_115 : decode cX8_ends 115 = .ok (.iconst 0, 1) := by decide +kernel
theorem dX8_ends_116 : decode cX8_ends 116 = .ok (.istore 6, 2) := by decide +kernel
theorem dX8_ends_118 : decode cX8_ends 118 = .ok (.iload 6, 2) := by decide +kernel
theorem dX8_ends_120 : decode cX8_ends 120 = .ok (.aload_n 0, 1) := by decide +kernel
theorem dX8_ends_121 : decode cX8_ends 121 = .ok (.getfield 93, 3) := by decide +kernel
theorem dX8_ends_124 : decode cX8_ends 124 = .ok (.iload 4, 2) := by decide +kernel
theorem dX8_ends_126 : decode cX8_ends 126 = .ok (.iaload, 1) := by decide +kernel
theorem dX8_ends_127 : decode cX8_ends 127 = .ok (.if_icmp .ge 46, 3) := by decide +kernel
theorem dX8_ends_130 : decode cX8_ends 130 = .ok (.iload 4, 2) := by decide +kernel
theorem dX8_ends_132 : decode cX8_ends 132 = .ok (.iload 5, 2) := by decide +kernel
theorem dX8_ends_134 : decode cX8_ends 134 = .ok (.invokestatic 313, 3) := by decide +kernel
theorem dX8_ends_137 : decode cX8_ends 137 = .ok (.ifCond .eq 36, 3) := by decide +kernel
theorem dX8_ends_140 : decode cX8_ends 140 = .ok (.aload_n 0, 1) := by decide +kernel
theorem dX8_ends_141 : decode cX8_ends 141 = .ok (.iload 5, 2) := by decide +kernel
theorem dX8_ends_143 : decode cX8_ends 143 = .ok (.aload_n 0, 1) := by decide +kernel
theorem dX8_ends_144 : decode cX8_ends 144 = .ok (.iload 4, 2) := by decide +kernel
theorem dX8_ends_146 : decode cX8_ends 146 = .ok (.aload_n 0, 1) := by decide +kernel
theorem dX8_ends_147 : decode cX8_ends 147 = .ok (.getfield 90, 3) := by decide +kernel
theorem dX8_ends_150 : decode cX8_ends 150 = .ok (.bipush 8, 2) := by decide +kernel
theorem dX8_ends_152 : decode cX8_ends 152 = .ok (.iload 4, 2) := by decide +kernel
theorem dX8_ends_154 : decode cX8_ends 154 = .ok (.imul, 1) := by decide +kernel
theorem dX8_ends_155 : decode cX8_ends 155 = .ok (.iload 6, 2) := by decide +kernel
theorem dX8_ends_157 : decode cX8_ends 157 = .ok (.iadd, 1) := by decide +kernel
theorem dX8_ends_158 : decode cX8_ends 158 = .ok (.laload, 1) := by decide +kernel
theorem dX8_ends_159 : decode cX8_ends 159 = .ok (.iload 5, 2) := by decide +kernel
theorem dX8_ends_161 : decode cX8_ends 161 = .ok (.invokevirtual 332, 3) := by decide +kernel
theorem dX8_ends_164 : decode cX8_ends 164 = .ok (.invokevirtual 378, 3) := by decide +kernel
theorem dX8_ends_167 : decode cX8_ends 167 = .ok (.iinc 6 1, 3) := by decide +kernel
theorem dX8_ends_170 : decode cX8_ends 170 = .ok (.goto (-52), 3) := by decide +kernel
theorem dX8_ends_173 : decode cX8_ends 173 = .ok (.iinc 5 1, 3) := by decide +kernel
theorem dX8_ends_176 : decode cX8_ends 176 = .ok (.goto (-68), 3) := by decide +kernel
theorem dX8_ends_179 : decode cX8_ends 179 = .ok (.iinc 4 1, 3) := by decide +kernel
theorem dX8_ends_182 : decode cX8_ends 182 = .ok (.goto (-87), 3) := by decide +kernel
theorem dX8_ends_185 : decode cX8_ends 185 = .ok (.aload_n 0, 1) := by decide +kernel
theorem dX8_ends_186 : decode cX8_ends 186 = .ok (.getfield 93, 3) := by decide +kernel
theorem dX8_ends_189 : decode cX8_ends 189 = .ok (.iload_n 3, 1) := by decide +kernel
theorem dX8_ends_190 : decode cX8_ends 190 = .ok (.iaload, 1) := by decide +kernel
theorem dX8_ends_191 : decode cX8_ends 191 = .ok (.ireturn, 1) := by decide +kernel
def fX8_ends_b173 (k95 : Int32 → Int32 → Mm → Option (Int32 × Mm)) (k108 : Int32 → Int32 → Int32 → Mm → Option (Int32 × Mm)) (v3 : Int32) (v4 : Int32) (v5 : Int32) (μ : Mm) : Option (Int32 × Mm) := k108 v3 v4 (v5 + (1 : Int32)) μ
def fX8_ends_b118 (k95 : Int32 → Int32 → Mm → Option (Int32 × Mm)) (k108 : Int32 → Int32 → Int32 → Mm → Option (Int32 × Mm)) : Nat → Int32 → Int32 → Int32 → Int32 → Mm → Option (Int32 × Mm)
  | 0, _, _, _, _, _ => none
  | n + 1, v3, v4, v5, v6, μ => (if inb v4 8 = true then (if (μ.1 28 (Int32.toNatClampNeg v4)) ≤ v6 then fX8_ends_b173 k95 k108 v3 v4 v5 μ else ((fX8_widens v4 v5).bind fun r134 => (if r134 = 0 then fX8_ends_b173 k95 k108 v3 v4 v5 μ else (if inb (((8 : Int32) * v4) + v6) 64 = true then (bnd (fX8_widened v4 (μ.2 27 (Int32.toNatClampNeg (((8 : Int32) * v4) + v6))) v5 μ) fun r161 μ161 => ((fX8_addEnd v5 r161 μ161).bind fun μ164 => (fX8_ends_b118 k95 k108 n) v3 v4 v5 (v6 + (1 : Int32)) μ164)) else none)))) else none)
def fX8_ends_b108 (k95 : Int32 → Int32 → Mm → Option (Int32 × Mm)) : Nat → Int32 → Int32 → Int32 → Mm → Option (Int32 × Mm)
  | 0, _, _, _, _ => none
  | n + 1, v3, v4, v5, μ => (if (8 : Int32) ≤ v5 then k95 v3 (v4 + (1 : Int32)) μ else fX8_ends_b118 k95 (fX8_ends_b108 k95 n) 100 v3 v4 v5 (0 : Int32) μ)
def fX8_ends_b95 : Nat → Int32 → Int32 → Mm → Option (Int32 × Mm)
  | 0, _, _, _ => none
  | n + 1, v3, v4, μ => (if (8 : Int32) ≤ v4 then (if inb v3 8 = true then some ((μ.1 28 (Int32.toNatClampNeg v3)), μ) else none) else fX8_ends_b108 (fX8_ends_b95 n) 100 v3 v4 (v4 + (1 : Int32)) μ)
def fX8_ends_b56 : Nat → Int32 → Int32 → Mm → Option (Int32 × Mm)
  | 0, _, _, _ => none
  | n + 1, v3, v4, μ => (if (8 : Int32) ≤ v4 then ((fX8_addEnd (μ.1 0 38) (μ.2 0 39) μ).bind fun μ86 => fX8_ends_b95 100 v3 (μ86.1 0 38) μ86) else (if inb v4 8 = true then (fX8_ends_b56 n) v3 (v4 + (1 : Int32)) (wI μ 28 (Int32.toNatClampNeg v4) (0 : Int32)) else none))
def fX8_ends (p1 : Int32) (p2 : Int32) (p3 : Int32) (μ : Mm) : Option (Int32 × Mm) := ((fX8_isSlot p1).bind fun r1 => (if r1 = 0 then some ((-1 : Int32), μ) else ((fX8_isPlain p3).bind fun r10 => (if r10 = 0 then some ((-2 : Int32), μ) else ((fX8_reasonToFetch p1 p2 μ).bind fun r22 => (if r22 = 0 then (if inb p1 10 = true then ((fX8_get (μ.1 3 (Int32.toNatClampNeg p1)) p2 μ).bind fun μ39 => (if (μ39.1 0 37) = (2 : Int32) then fX8_ends_b56 100 p3 (0 : Int32) μ39 else some ((-9 : Int32), μ39))) else none) else some ((-9 : Int32), μ)))))))
set_option maxRecDepth 100000 in
set_option maxHeartbeats 4000000 in
theorem kX8_ends (l : Launch) (ε : Ev) (p1 : Int32) (p2 : Int32) (p3 : Int32) (μ : Mm) (out : (Int32 × Mm)) (hf : fX8_ends p1 p2 p3 μ = some out) : Sp l ε layM yX8_ends cX8_ends 7 (some .int) 3 [.ref (ea ε 0), .int p1, .int p2, .int p3] (some (.int out.1)) μ out.2 := by
  refine Sp.of [(0, .ref (ea ε 0)), (1, .int p1), (2, .int p2), (3, .int p3)] rfl (by decide +kernel) (Nat.le_of_ble_eq_true rfl) ?_
  intro κ hκ C E hQ
  subst hκ
  replace C : Cf κ cX8_ends 7 RX8 (some .int) 3 := C
  have b173 : ∀ (k95 : Int32 → Int32 → Mm → Option (Int32 × Mm)) (hk95 : ∀ (v3 : Int32) (v4 : Int32) (μ : Mm) , k95 v3 v4 μ = some out → G κ (Vw κ ε layM μ) 7 95 [(0, .ref (ea ε 0)), (3, .int v3), (4, .int v4)] []) (k108 : Int32 → Int32 → Int32 → Mm → Option (Int32 × Mm)) (hk108 : ∀ (v3 : Int32) (v4 : Int32) (v5 : Int32) (μ : Mm) , k108 v3 v4 v5 μ = some out → G κ (Vw κ ε layM μ) 7 108 [(0, .ref (ea ε 0)), (3, .int v3), (4, .int v4), (5, .int v5)] []) (v3 : Int32) (v4 : Int32) (v5 : Int32) (μ : Mm) , fX8_ends_b173 k95 k108 v3 v4 v5 μ = some out → G κ (Vw κ ε layM μ) 7 173 [(0, .ref (ea ε 0)), (3, .int v3), (4, .int v4), (5, .int v5)] [] := by
    intro k95 hk95 k108 hk108 v3 v4 v5 μ hf
    refine g_iinc (pc := 173) (i := 5) (j := 3) (v := (v5 + (1 : Int32))) (L' := [(5, .int (v5 + (1 : Int32))), (0, .ref (ea ε 0)), (3, .int v3), (4, .int v4)]) C dX8_ends_173 rfl (cx_1 _) (by decide) rfl ?_
    refine g_goto (pc := 176) (tgt := 108) C dX8_ends_176 rfl ?_
    exact g_at [1, 2, 3, 0] rfl (hk108 v3 v4 (v5 + (1 : Int32)) μ hf)
  have b118 : ∀ (k95 : Int32 → Int32 → Mm → Option (Int32 × Mm)) (hk95 : ∀ (v3 : Int32) (v4 : Int32) (μ : Mm) , k95 v3 v4 μ = some out → G κ (Vw κ ε layM μ) 7 95 [(0, .ref (ea ε 0)), (3, .int v3), (4, .int v4)] []) (k108 : Int32 → Int32 → Int32 → Mm → Option (Int32 × Mm)) (hk108 : ∀ (v3 : Int32) (v4 : Int32) (v5 : Int32) (μ : Mm) , k108 v3 v4 v5 μ = some out → G κ (Vw κ ε layM μ) 7 108 [(0, .ref (ea ε 0)), (3, .int v3), (4, .int v4), (5, .int v5)] []) (n : Nat) (v3 : Int32) (v4 : Int32) (v5 : Int32) (v6 : Int32) (μ : Mm) , fX8_ends_b118 k95 k108 n v3 v4 v5 v6 μ = some out → G κ (Vw κ ε layM μ) 7 118 [(0, .ref (ea ε 0)), (3, .int v3), (4, .int v4), (5, .int v5), (6, .int v6)] [] := by
    intro k95 hk95 k108 hk108 n
    induction n with
    | zero => intro v3 v4 v5 v6 μ hf; exact none_ne hf
    | succ n ih =>
      intro v3 v4 v5 v6 μ hf
      refine g_iload (pc := 118) (i := 6) (j := 4) C dX8_ends_118 rfl ?_
      refine g_aload_n (pc := 120) (i := 0) (j := 0) C dX8_ends_120 rfl rfl ?_
      refine g_getr (pc := 121) (j := 28) C E fdX8_93 layM_0_41 dX8_ends_121 ?_
      refine g_iload (pc := 124) (i := 4) (j := 2) C dX8_ends_124 rfl ?_
      refine g_iald (pc := 126) C E layM_28 dX8_ends_126 hf (fun hf => ?_)
      refine g_icmp_ge (pc := 127) (tgt := 173) C dX8_ends_127 rfl hf (fun _ hf => ?_) (fun _ hf => ?_)
      · exact g_at [0, 1, 2, 3] rfl (b173 k95 hk95 k108 hk108 v3 v4 v5 μ hf)
      · refine g_iload (pc := 130) (i := 4) (j := 2) C dX8_ends_130 rfl ?_
        refine g_iload (pc := 132) (i := 5) (j := 3) C dX8_ends_132 rfl ?_
        refine g_cpi (pc := 134) (st := []) C lkX8_313 (As := [.int v4, .int v5]) rfl (fun out h => kX8_widens (kl κ) v4 v5 out h) (by decide) rfl (Nat.le_of_ble_eq_true rfl) dX8_ends_134 hf (fun r134 _ hf => ?_)
        refine g_if_eq (pc := 137) (tgt := 173) C dX8_ends_137 rfl hf (fun _ hf => ?_) (fun _ hf => ?_)
        · exact g_at [0, 1, 2, 3] rfl (b173 k95 hk95 k108 hk108 v3 v4 v5 μ hf)
        · refine g_aload_n (pc := 140) (i := 0) (j := 0) C dX8_ends_140 rfl rfl ?_
          refine g_iload (pc := 141) (i := 5) (j := 3) C dX8_ends_141 rfl ?_
          refine g_aload_n (pc := 143) (i := 0) (j := 0) C dX8_ends_143 rfl rfl ?_
          refine g_iload (pc := 144) (i := 4) (j := 2) C dX8_ends_144 rfl ?_
          refine g_aload_n (pc := 146) (i := 0) (j := 0) C dX8_ends_146 rfl rfl ?_
          refine g_getr (pc := 147) (j := 27) C E fdX8_90 layM_0_40 dX8_ends_147 ?_
          refine g_bipush (pc := 150) C dX8_ends_150 cb_8 ?_
          refine g_iload (pc := 152) (i := 4) (j := 2) C dX8_ends_152 rfl ?_
          refine g_imul (pc := 154) C dX8_ends_154 ?_
          refine g_iload (pc := 155) (i := 6) (j := 4) C dX8_ends_155 rfl ?_
          refine g_iadd (pc := 157) C dX8_ends_157 ?_
          refine g_lald (pc := 158) C E layM_27 dX8_ends_158 hf (fun hf => ?_)
          refine g_iload (pc := 159) (i := 5) (j := 3) C dX8_ends_159 rfl ?_
          refine g_cwl (pc := 161) (st := [.int v5, .ref (ea ε 0)]) C E layM_0 lkX8_332 (As := [.int v4, .long (μ.2 27 (Int32.toNatClampNeg (((8 : Int32) * v4) + v6))), .int v5]) rfl (fun out h => kX8_widened (kl κ) ε v4 (μ.2 27 (Int32.toNatClampNeg (((8 : Int32) * v4) + v6))) v5 μ out h) (by decide) rfl (Nat.le_of_ble_eq_true rfl) dX8_ends_161 hf (fun r161 μ161 _ hf => ?_)
          refine g_cwv (pc := 164) (st := []) C E layM_0 lkX8_378 (As := [.int v5, .long r161]) rfl (fun out h => kX8_addEnd (kl κ) ε v5 r161 μ161 out h) (by decide) rfl (Nat.le_of_ble_eq_true rfl) dX8_ends_164 hf (fun μ164 _ hf => ?_)
          refine g_iinc (pc := 167) (i := 6) (j := 4) (v := (v6 + (1 : Int32))) (L' := [(6, .int (v6 + (1 : Int32))), (0, .ref (ea ε 0)), (3, .int v3), (4, .int v4), (5, .int v5)]) C dX8_ends_167 rfl (cx_1 _) (by decide) rfl ?_
          refine g_goto (pc := 170) (tgt := 118) C dX8_ends_170 rfl ?_
          exact g_at [1, 2, 3, 4, 0] rfl (ih v3 v4 v5 (v6 + (1 : Int32)) μ164 hf)
  have b108 : ∀ (k95 : Int32 → Int32 → Mm → Option (Int32 × Mm)) (hk95 : ∀ (v3 : Int32) (v4 : Int32) (μ : Mm) , k95 v3 v4 μ = some out → G κ (Vw κ ε layM μ) 7 95 [(0, .ref (ea ε 0)), (3, .int v3), (4, .int v4)] []) (n : Nat) (v3 : Int32) (v4 : Int32) (v5 : Int32) (μ : Mm) , fX8_ends_b108 k95 n v3 v4 v5 μ = some out → G κ (Vw κ ε layM μ) 7 108 [(0, .ref (ea ε 0)), (3, .int v3), (4, .int v4), (5, .int v5)] [] := by
    intro k95 hk95 n
    induction n with
    | zero => intro v3 v4 v5 μ hf; exact none_ne hf
    | succ n ih =>
      intro v3 v4 v5 μ hf
      refine g_iload (pc := 108) (i := 5) (j := 3) C dX8_ends_108 rfl ?_
      refine g_bipush (pc := 110) C dX8_ends_110 cb_8 ?_
      refine g_icmp_ge (pc := 112) (tgt := 179) C dX8_ends_112 rfl hf (fun _ hf => ?_) (fun _ hf => ?_)
      · refine g_iinc (pc := 179) (i := 4) (j := 2) (v := (v4 + (1 : Int32))) (L' := [(4, .int (v4 + (1 : Int32))), (0, .ref (ea ε 0)), (3, .int v3), (5, .int v5)]) C dX8_ends_179 rfl (cx_1 _) (by decide) rfl ?_
        refine g_goto (pc := 182) (tgt := 95) C dX8_ends_182 rfl ?_
        exact g_at [1, 2, 0] rfl (hk95 v3 (v4 + (1 : Int32)) μ hf)
      · refine g_iconst (pc := 115) C dX8_ends_115 ci_0 ?_
        refine g_istore (pc := 116) (i := 6) (L' := [(6, .int (0 : Int32)), (0, .ref (ea ε 0)), (3, .int v3), (4, .int v4), (5, .int v5)]) C dX8_ends_116 (by decide) rfl ?_
        exact g_at [1, 2, 3, 4, 0] rfl (b118 k95 hk95 (fX8_ends_b108 k95 n) ih 100 v3 v4 v5 (0 : Int32) μ hf)
  have b95 : ∀ (n : Nat) (v3 : Int32) (v4 : Int32) (μ : Mm) , fX8_ends_b95 n v3 v4 μ = some out → G κ (Vw κ ε layM μ) 7 95 [(0, .ref (ea ε 0)), (3, .int v3), (4, .int v4)] [] := by
    intro n
    induction n with
    | zero => intro v3 v4 μ hf; exact none_ne hf
    | succ n ih =>
      intro v3 v4 μ hf
      refine g_iload (pc := 95) (i := 4) (j := 2) C dX8_ends_95 rfl ?_
      refine g_bipush (pc := 97) C dX8_ends_97 cb_8 ?_
      refine g_icmp_ge (pc := 99) (tgt := 185) C dX8_ends_99 rfl hf (fun _ hf => ?_) (fun _ hf => ?_)
      · refine g_aload_n (pc := 185) (i := 0) (j := 0) C dX8_ends_185 rfl rfl ?_
        refine g_getr (pc := 186) (j := 28) C E fdX8_93 layM_0_41 dX8_ends_186 ?_
        refine g_iload_n (pc := 189) (i := 3) (j := 1) C dX8_ends_189 rfl rfl ?_
        refine g_iald (pc := 190) C E layM_28 dX8_ends_190 hf (fun hf => ?_)
        exact g_iretw (pc := 191) C hQ dX8_ends_191 hf
      · refine g_iload (pc := 102) (i := 4) (j := 2) C dX8_ends_102 rfl ?_
        refine g_iconst (pc := 104) C dX8_ends_104 ci_1 ?_
        refine g_iadd (pc := 105) C dX8_ends_105 ?_
        refine g_istore (pc := 106) (i := 5) (L' := [(5, .int (v4 + (1 : Int32))), (0, .ref (ea ε 0)), (3, .int v3), (4, .int v4)]) C dX8_ends_106 (by decide) rfl ?_
        exact g_at [1, 2, 3, 0] rfl (b108 (fX8_ends_b95 n) ih 100 v3 v4 (v4 + (1 : Int32)) μ hf)
  have b56 : ∀ (n : Nat) (v3 : Int32) (v4 : Int32) (μ : Mm) , fX8_ends_b56 n v3 v4 μ = some out → G κ (Vw κ ε layM μ) 7 56 [(0, .ref (ea ε 0)), (3, .int v3), (4, .int v4)] [] := by
    intro n
    induction n with
    | zero => intro v3 v4 μ hf; exact none_ne hf
    | succ n ih =>
      intro v3 v4 μ hf
      refine g_iload (pc := 56) (i := 4) (j := 2) C dX8_ends_56 rfl ?_
      refine g_bipush (pc := 58) C dX8_ends_58 cb_8 ?_
      refine g_icmp_ge (pc := 60) (tgt := 77) C dX8_ends_60 rfl hf (fun _ hf => ?_) (fun _ hf => ?_)
      · refine g_aload_n (pc := 77) (i := 0) (j := 0) C dX8_ends_77 rfl rfl ?_
        refine g_aload_n (pc := 78) (i := 0) (j := 0) C dX8_ends_78 rfl rfl ?_
        refine g_geti (pc := 79) C E fdX8_273 layM_0_38 dX8_ends_79 ?_
        refine g_aload_n (pc := 82) (i := 0) (j := 0) C dX8_ends_82 rfl rfl ?_
        refine g_getl (pc := 83) C E fdX8_276 layM_0_39 dX8_ends_83 ?_
        refine g_cwv (pc := 86) (st := []) C E layM_0 lkX8_378 (As := [.int (μ.1 0 38), .long (μ.2 0 39)]) rfl (fun out h => kX8_addEnd (kl κ) ε (μ.1 0 38) (μ.2 0 39) μ out h) (by decide) rfl (Nat.le_of_ble_eq_true rfl) dX8_ends_86 hf (fun μ86 _ hf => ?_)
        refine g_aload_n (pc := 89) (i := 0) (j := 0) C dX8_ends_89 rfl rfl ?_
        refine g_geti (pc := 90) C E fdX8_273 layM_0_38 dX8_ends_90 ?_
        refine g_istore (pc := 93) (i := 4) (L' := [(4, .int (μ86.1 0 38)), (0, .ref (ea ε 0)), (3, .int v3)]) C dX8_ends_93 (by decide) rfl ?_
        exact g_at [1, 2, 0] rfl (b95 100 v3 (μ86.1 0 38) μ86 hf)
      · refine g_aload_n (pc := 63) (i := 0) (j := 0) C dX8_ends_63 rfl rfl ?_
        refine g_getr (pc := 64) (j := 28) C E fdX8_93 layM_0_41 dX8_ends_64 ?_
        refine g_iload (pc := 67) (i := 4) (j := 2) C dX8_ends_67 rfl ?_
        refine g_iconst (pc := 69) C dX8_ends_69 ci_0 ?_
        refine g_iast (pc := 70) C E layM_28 dX8_ends_70 hf (fun hf => ?_)
        refine g_iinc (pc := 71) (i := 4) (j := 2) (v := (v4 + (1 : Int32))) (L' := [(4, .int (v4 + (1 : Int32))), (0, .ref (ea ε 0)), (3, .int v3)]) C dX8_ends_71 rfl (cx_1 _) (by decide) rfl ?_
        refine g_goto (pc := 74) (tgt := 56) C dX8_ends_74 rfl ?_
        exact g_at [1, 2, 0] rfl (ih v3 (v4 + (1 : Int32)) (wI μ 28 (Int32.toNatClampNeg v4) (0 : Int32)) hf)
  refine g_iload_n (pc := 0) (i := 1) (j := 1) C dX8_ends_0 rfl rfl ?_
  refine g_cpi (pc := 1) (st := []) C lkX8_242 (As := [.int p1]) rfl (fun out h => kX8_isSlot (kl κ) p1 out h) (by decide) rfl (Nat.le_of_ble_eq_true rfl) dX8_ends_1 hf (fun r1 _ hf => ?_)
  refine g_if_ne (pc := 4) (tgt := 9) C dX8_ends_4 rfl hf (fun _ hf => ?_) (fun _ hf => ?_)
  · refine g_iload_n (pc := 9) (i := 3) (j := 3) C dX8_ends_9 rfl rfl ?_
    refine g_cpi (pc := 10) (st := []) C lkX8_198 (As := [.int p3]) rfl (fun out h => kX8_isPlain (kl κ) p3 out h) (by decide) rfl (Nat.le_of_ble_eq_true rfl) dX8_ends_10 hf (fun r10 _ hf => ?_)
    refine g_if_ne (pc := 13) (tgt := 19) C dX8_ends_13 rfl hf (fun _ hf => ?_) (fun _ hf => ?_)
    · refine g_aload_n (pc := 19) (i := 0) (j := 0) C dX8_ends_19 rfl rfl ?_
      refine g_iload_n (pc := 20) (i := 1) (j := 1) C dX8_ends_20 rfl rfl ?_
      refine g_iload_n (pc := 21) (i := 2) (j := 2) C dX8_ends_21 rfl rfl ?_
      refine g_cri (pc := 22) (st := []) C E layM_0 lkX8_339 (As := [.int p1, .int p2]) rfl (fun out h => kX8_reasonToFetch (kl κ) ε p1 p2 μ out h) (by decide) rfl (Nat.le_of_ble_eq_true rfl) dX8_ends_22 hf (fun r22 _ hf => ?_)
      refine g_if_eq (pc := 25) (tgt := 31) C dX8_ends_25 rfl hf (fun _ hf => ?_) (fun _ hf => ?_)
      · refine g_aload_n (pc := 31) (i := 0) (j := 0) C dX8_ends_31 rfl rfl ?_
        refine g_aload_n (pc := 32) (i := 0) (j := 0) C dX8_ends_32 rfl rfl ?_
        refine g_getr (pc := 33) (j := 3) C E fdX8_16 layM_0_3 dX8_ends_33 ?_
        refine g_iload_n (pc := 36) (i := 1) (j := 1) C dX8_ends_36 rfl rfl ?_
        refine g_iald (pc := 37) C E layM_3 dX8_ends_37 hf (fun hf => ?_)
        refine g_iload_n (pc := 38) (i := 2) (j := 2) C dX8_ends_38 rfl rfl ?_
        refine g_cwv (pc := 39) (st := []) C E layM_0 lkX8_283 (As := [.int (μ.1 3 (Int32.toNatClampNeg p1)), .int p2]) rfl (fun out h => kX8_get (kl κ) ε (μ.1 3 (Int32.toNatClampNeg p1)) p2 μ out h) (by decide) rfl (Nat.le_of_ble_eq_true rfl) dX8_ends_39 hf (fun μ39 _ hf => ?_)
        refine g_aload_n (pc := 42) (i := 0) (j := 0) C dX8_ends_42 rfl rfl ?_
        refine g_geti (pc := 43) C E fdX8_270 layM_0_37 dX8_ends_43 ?_
        refine g_iconst (pc := 46) C dX8_ends_46 ci_2 ?_
        refine g_icmp_eq (pc := 47) (tgt := 53) C dX8_ends_47 rfl hf (fun _ hf => ?_) (fun _ hf => ?_)
        · refine g_iconst (pc := 53) C dX8_ends_53 ci_0 ?_
          refine g_istore (pc := 54) (i := 4) (L' := [(4, .int (0 : Int32)), (0, .ref (ea ε 0)), (1, .int p1), (2, .int p2), (3, .int p3)]) C dX8_ends_54 (by decide) rfl ?_
          exact g_at [1, 4, 0] rfl (b56 100 p3 (0 : Int32) μ39 hf)
        · refine g_bipush (pc := 50) C dX8_ends_50 cb_m9 ?_
          exact g_iretw (pc := 52) C hQ dX8_ends_52 hf
      · refine g_bipush (pc := 28) C dX8_ends_28 cb_m9 ?_
        exact g_iretw (pc := 30) C hQ dX8_ends_30 hf
    · refine g_bipush (pc := 16) C dX8_ends_16 cb_m2 ?_
      exact g_iretw (pc := 18) C hQ dX8_ends_18 hf
  · refine g_iconst (pc := 7) C dX8_ends_7 ci_m1 ?_
    exact g_iretw (pc := 8) C hQ dX8_ends_8 hf
theorem dX8_letter_0 : decode cX8_letter 0 = .ok (.aload_n 0, 1) := by decide +kernel
theorem dX8_letter_1 : decode cX8_letter 1 = .ok (.getfield 169, 3) := by decide +kernel
theorem dX8_letter_4 : decode cX8_letter 4 = .ok (.aload_n 0, 1) := by decide +kernel
theorem dX8_letter_5 : decode cX8_letter 5 = .ok (.getfield 162, 3) := by decide +kernel
theorem dX8_letter_8 : decode cX8_letter 8 = .ok (.if_icmp .ge 15, 3) := by decide +kernel
theorem dX8_letter_11 : decode cX8_letter 11 = .ok (.aload_n 0, 1) := by decide +kernel
theorem dX8_letter_12 : decode cX8_letter 12 = .ok (.getfield 7, 3) := by decide +kernel
theorem dX8_letter_15 : decode cX8_letter 15 = .ok (.aload_n 0, 1) := by decide +kernel
theorem dX8_letter_16 : decode cX8_letter 16 = .ok (.getfield 169, 3) := by decide +kernel
theorem dX8_letter_19 : decode cX8_letter 19 = .ok (.iaload, 1) := by decide +kernel
theorem dX8_letter_20 : decode cX8_letter 20 = .ok (.goto 5, 3) := by decide +kernel
theorem dX8_letter_23 : decode cX8_letter 23 = .ok (.bipush (-9), 2) := by decide +kernel
theorem dX8_letter_25 : decode cX8_letter 25 = .ok (.ireturn, 1) := by decide +kernel
def fX8_letter  (μ : Mm) : Option Int32 := (if (μ.1 0 1) ≤ (μ.1 0 44) then some (-9 : Int32) else (if inb (μ.1 0 44) 60 = true then some (μ.1 1 (Int32.toNatClampNeg (μ.1 0 44))) else none))
set_option maxRecDepth 100000 in
set_option maxHeartbeats 4000000 in
theorem kX8_letter (l : Launch) (ε : Ev)  (μ : Mm) (out : Int32) (hf : fX8_letter μ = some out) : Sp l ε layM yX8_letter cX8_letter 1 (some .int) 0 [.ref (ea ε 0)] (some (.int out)) μ μ := by
  refine Sp.of [(0, .ref (ea ε 0))] rfl (by decide +kernel) (Nat.le_of_ble_eq_true rfl) ?_
  intro κ hκ C E hQ
  subst hκ
  replace C : Cf κ cX8_letter 1 RX8 (some .int) 0 := C
  refine g_aload_n (pc := 0) (i := 0) (j := 0) C dX8_letter_0 rfl rfl ?_
  refine g_geti (pc := 1) C E fdX8_169 layM_0_44 dX8_letter_1 ?_
  refine g_aload_n (pc := 4) (i := 0) (j := 0) C dX8_letter_4 rfl rfl ?_
  refine g_geti (pc := 5) C E fdX8_162 layM_0_1 dX8_letter_5 ?_
  refine g_icmp_ge (pc := 8) (tgt := 23) C dX8_letter_8 rfl hf (fun _ hf => ?_) (fun _ hf => ?_)
  · refine g_bipush (pc := 23) C dX8_letter_23 cb_m9 ?_
    exact g_iretr (pc := 25) C hQ dX8_letter_25 hf
  · refine g_aload_n (pc := 11) (i := 0) (j := 0) C dX8_letter_11 rfl rfl ?_
    refine g_getr (pc := 12) (j := 1) C E fdX8_7 layM_0_0 dX8_letter_12 ?_
    refine g_aload_n (pc := 15) (i := 0) (j := 0) C dX8_letter_15 rfl rfl ?_
    refine g_geti (pc := 16) C E fdX8_169 layM_0_44 dX8_letter_16 ?_
    refine g_iald (pc := 19) C E layM_1 dX8_letter_19 hf (fun hf => ?_)
    refine g_goto (pc := 20) (tgt := 25) C dX8_letter_20 rfl ?_
    exact g_iretr (pc := 25) C hQ dX8_letter_25 hf
theorem dX8_readNumber_0 : decode cX8_readNumber 0 = .ok (.iload_n 1, 1) := by decide +kernel
theorem dX8_readNumber_1 : decode cX8_readNumber 1 = .ok (.ifCond .eq 18, 3) := by decide +kernel
theorem dX8_readNumber_4 : decode cX8_readNumber 4 = .ok (.iload_n 1, 1) := by decide +kernel
theorem dX8_readNumber_5 : decode cX8_readNumber 5 = .ok (.iconst 2, 1) := by decide +kernel
theorem dX8_readNumber_6 : decode cX8_readNumber 6 = .ok (.if_icmp .eq 13, 3) := by decide +kernel
theorem dX8_readNumber_9 : decode cX8_readNumber 9 = .ok (.iload_n 1, 1) := by decide +kernel
theorem dX8_readNumber_10 : decode cX8_readNumber 10 = .ok (.bipush 10, 2) := by decide +kernel
theorem dX8_readNumber_12 : decode cX8_readNumber 12 = .ok (.if_icmp .eq 7, 3) := by decide +kernel
theorem dX8_readNumber_15 : decode cX8_readNumber 15 = .ok (.iconst 1, 1) := by decide +kernel
theorem dX8_readNumber_16 : decode cX8_readNumber 16 = .ok (.goto 4, 3) := by decide +kernel
theorem dX8_readNumber_19 : decode cX8_readNumber 19 = .ok (.iconst 0, 1) := by decide +kernel
theorem dX8_readNumber_20 : decode cX8_readNumber 20 = .ok (.istore_n 2, 1) := by decide +kernel
theorem dX8_readNumber_21 : decode cX8_readNumber 21 = .ok (.iload_n 2, 1) := by decide +kernel
theorem dX8_readNumber_22 : decode cX8_readNumber 22 = .ok (.ifCond .eq 16, 3) := by decide +kernel
theorem dX8_readNumber_25 : decode cX8_readNumber 25 = .ok (.aload_n 0, 1) := by decide +kernel
theorem dX8_readNumber_26 : decode cX8_readNumber 26 = .ok (.invokevirtual 172, 3) := by decide +kernel
theorem dX8_readNumber_29 : decode cX8_readNumber 29 = .ok (.bipush 45, 2) := by decide +kernel
theorem dX8_readNumber_31 : decode cX8_readNumber 31 = .ok (.if_icmp .ne 7, 3) := by decide +kernel
theorem dX8_readNumber_34 : decode cX8_readNumber 34 = .ok (.iconst 1, 1) := by decide +kernel
theorem dX8_readNumber_35 : decode cX8_readNumber 35 = .ok (.goto 4, 3) := by decide +kernel
theorem dX8_readNumber_38 : decode cX8_readNumber 38 = .ok (.iconst 0, 1) := by decide +kernel
theorem dX8_readNumber_39 : decode cX8_readNumber 39 = .ok (.istore_n 3, 1) := by decide +kernel
theorem dX8_readNumber_40 : decode cX8_readNumber 40 = .ok (.aload_n 0, 1) := by decide +kernel
theorem dX8_readNumber_41 : decode cX8_readNumber 41 = .ok (.dup, 1) := by decide +kernel
theorem dX8_readNumber_42 : decode cX8_readNumber 42 = .ok (.getfield 169, 3) := by decide +kernel
theorem dX8_readNumber_45 : decode cX8_readNumber 45 = .ok (.iload_n 3, 1) := by decide +kernel
theorem dX8_readNumber_46 : decode cX8_readNumber 46 = .ok (.ifCond .eq 7, 3) := by decide +kernel
theorem dX8_readNumber_49 : decode cX8_readNumber 49 = .ok (.iconst 1, 1) := by decide +kernel
theorem dX8_readNumber_50 : decode cX8_readNumber 50 = .ok (.goto 4, 3) := by decide +kernel
theorem dX8_readNumber_53 : decode cX8_readNumber 53 = .ok (.iconst 0, 1) := by decide +kernel
theorem dX8_readNumber_54 : decode cX8_readNumber 54 = .ok (.iadd, 1) := by decide +kernel
theorem dX8_readNumber_55 : decode cX8_readNumber 55 = .ok (.putfield 169, 3) := by decide +kernel
theorem dX8_readNumber_58 : decode cX8_readNumber 58 = .ok (.iconst 0, 1) := by decide +kernel
theorem dX8_readNumber_59 : decode cX8_readNumber 59 = .ok (.istore 4, 2) := by decide +kernel
theorem dX8_readNumber_61 : decode cX8_readNumber 61 = .ok (.lconst 0, 1) := by decide +kernel
theorem dX8_readNumber_62 : decode cX8_readNumber 62 = .ok (.lstore 5, 2) := by decide +kernel
theorem dX8_readNumber_64 : decode cX8_readNumber 64 = .ok (.iconst 1, 1) := by decide +kernel
theorem dX8_readNumber_65 : decode cX8_readNumber 65 = .ok (.istore 7, 2) := by decide +kernel
theorem dX8_readNumber_67 : decode cX8_readNumber 67 = .ok (.iload 7, 2) := by decide +kernel
theorem dX8_readNumber_69 : decode cX8_readNumber 69 = .ok (.ifCond .eq 156, 3) := by decide +kernel
theorem dX8_readNumber_72 : decode cX8_readNumber 72 = .ok (.aload_n 0, 1) := by decide +kernel
theorem dX8_readNumber_73 : decode cX8_readNumber 73 = .ok (.invokevirtual 172, 3) := by decide +kernel
theorem dX8_readNumber_76 : decode cX8_readNumber 76 = .ok (.bipush 48, 2) := by decide +kernel
theorem dX8_readNumber_78 : decode cX8_readNumber 78 = .ok (.isub, 1) := by decide +kernel
theorem dX8_readNumber_79 : decode cX8_readNumber 79 = .ok (.istore 8, 2) := by decide +kernel
theorem dX8_readNumber_81 : decode cX8_readNumber 81 = .ok (.ldc2_w 176, 3) := by decide +kernel
theorem dX8_readNumber_84 : decode cX8_readNumber 84 = .ok (.lload 5, 2) := by decide +kernel
theorem dX8_readNumber_86 : decode cX8_readNumber 86 = .ok (.lmul, 1) := by decide +kernel
theorem dX8_readNumber_87 : decode cX8_readNumber 87 = .ok (.iload 8, 2) := by decide +kernel
theorem dX8_readNumber_89 : decode cX8_readNumber 89 = .ok (.i2l, 1) := by decide +kernel
theorem dX8_readNumber_90 : decode cX8_readNumber 90 = .ok (.ladd, 1) := by decide +kernel
theorem dX8_readNumber_91 : decode cX8_readNumber 91 = .ok (.lstore 9, 2) := by decide +kernel
theorem dX8_readNumber_93 : decode cX8_readNumber 93 = .ok (.iload 8, 2) := by decide +kernel
theorem dX8_readNumber_95 : decode cX8_readNumber 95 = .ok (.i2l, 1) := by decide +kernel
theorem dX8_readNumber_96 : decode cX8_readNumber 96 = .ok (.lconst 0, 1) := by decide +kernel
theorem dX8_readNumber_97 : decode cX8_readNumber 97 = .ok (.ldc2_w 178, 3) := by decide +kernel
theorem dX8_readNumber_100 : decode cX8_readNumber 100 = .ok (.invokestatic 98, 3) := by decide +kernel
theorem dX8_readNumber_103 : decode cX8_readNumber 103 = .ok (.ifCond .eq 37, 3) := by decide +kernel
theorem dX8_readNumber_106 : decode cX8_readNumber 106 = .ok (.iload 4, 2) := by decide +kernel
theorem dX8_readNumber_108 : decode cX8_readNumber 108 = .ok (.bipush 9, 2) := by decide +kernel
theorem dX8_readNumber_110 : decode cX8_readNumber 110 = .ok (.if_icmp .ge 30, 3) := by decide +kernel
theorem dX8_readNumber_113 : decode cX8_readNumber 113 = .ok (.iload 4, 2) := by decide +kernel
theorem dX8_readNumber_115 : decode cX8_readNumber 115 = .ok (.ifCond .le 10, 3) := by decide +kernel
theorem dX8_readNumber_118 : decode cX8_readNumber 118 = .ok (.lload 5, 2) := by decide +kernel
theorem dX8_readNumber_120 : decode cX8_readNumber 120 = .ok (.lconst 0, 1) := by decide +kernel
theorem dX8_readNumber_121 : decode cX8_readNumber 121 = .ok (.lcmp, 1) := by decide +kernel
theorem dX8_readNumber_122 : decode cX8_readNumber 122 = .ok (.ifCond .eq 18, 3) := by decide +kernel
theorem dX8_readNumber_125 : decode cX8_readNumber 125 = .ok (.iload_n 3, 1) := by decide +kernel
theorem dX8_readNumber_126 : decode cX8_readNumber 126 = .ok (.ifCond .eq 10, 3) := by decide +kernel
theorem dX8_readNumber_129 : decode cX8_readNumber 129 = .ok (.lload 9, 2) := by decide +kernel
theorem dX8_readNumber_131 : decode cX8_readNumber 131 = .ok (.lconst 0, 1) := by decide +kernel
theorem dX8_readNumber_132 : decode cX8_readNumber 132 = .ok (.lcmp, 1) := by decide +kernel
theorem dX8_readNumber_133 : decode cX8_readNumber 133 = .ok (.ifCond .eq 7, 3) := by decide +kernel
theorem dX8_readNumber_136 : decode cX8_readNumber 136 = .ok (.iconst 1, 1) := by decide +kernel
theorem dX8_readNumber_137 : decode cX8_readNumber 137 = .ok (.goto 4, 3) := by decide +kernel
theorem dX8_readNumber_140 : decode cX8_readNumber 140 = .ok (.iconst 0, 1) := by decide +kernel
theorem dX8_readNumber_141 : decode cX8_readNumber 141 = .ok (.istore 11, 2) := by decide +kernel
theorem dX8_readNumber_143 : decode cX8_readNumber 143 = .ok (.iload 11, 2) := by decide +kernel
theorem dX8_readNumber_145 : decode cX8_readNumber 145 = .ok (.ifCond .eq 26, 3) := by decide +kernel
theorem dX8_readNumber_148 : decode cX8_readNumber 148 = .ok (.iload_n 1, 1) := by decide +kernel
theorem dX8_readNumber_149 : decode cX8_readNumber 149 = .ok (.iload_n 3, 1) := by decide +kernel
theorem dX8_readNumber_150 : decode cX8_readNumber 150 = .ok (.ifCond .eq 9, 3) := by decide +kernel
theorem dX8_readNumber_153 : decode cX8_readNumber 153 = .ok (.lload 9, 2) := by decide +kernel
theorem dX8_readNumber_155 : decode cX8_readNumber 155 = .ok (.lneg, 1) := by decide +kernel
theorem dX8_readNumber_156 : decode cX8_readNumber 156 = .ok (.goto 5, 3) := by decide +kernel
theorem dX8_readNumber_159 : decode cX8_readNumber 159 = .ok (.lload 9, 2) := by decide +kernel
theorem dX8_readNumber_161 : decode cX8_readNumber 161 = .ok (.invokestatic 180, 3) := by decide +kernel
theorem dX8_readNumber_164 : decode cX8_readNumber 164 = .ok (.ifCond .eq 7, 3) := by decide +kernel
theorem dX8_readNumber_167 : decode cX8_readNumber 167 = .ok (.iconst 1, 1) := by decide +kernel
theorem dX8_readNumber_168 : decode cX8_readNumber 168 = .ok (.goto 4, 3) := by decide +kernel
theorem dX8_readNumber_171 : decode cX8_readNumber 171 = .ok (.iconst 0, 1) := by decide +kernel
theorem dX8_readNumber_172 : decode cX8_readNumber 172 = .ok (.istore 7, 2) := by decide +kernel
theorem dX8_readNumber_174 : decode cX8_readNumber 174 = .ok (.iload 7, 2) := by decide +kernel
theorem dX8_readNumber_176 : decode cX8_readNumber 176 = .ok (.ifCond .eq 8, 3) := by decide +kernel
theorem dX8_readNumber_179 : decode cX8_readNumber 179 = .ok (.lload 9, 2) := by decide +kernel
theorem dX8_readNumber_181 : decode cX8_readNumber 181 = .ok (.goto 5, 3) := by decide +kernel
theorem dX8_readNumber_184 : decode cX8_readNumber 184 = .ok (.lload 5, 2) := by decide +kernel
theorem dX8_readNumber_186 : decode cX8_readNumber 186 = .ok (.lstore 5, 2) := by decide +kernel
theorem dX8_readNumber_188 : decode cX8_readNumber 188 = .ok (.iload 4, 2) := by decide +kernel
theorem dX8_readNumber_190 : decode cX8_readNumber 190 = .ok (.iload 7, 2) := by decide +kernel
theorem dX8_readNumber_192 : decode cX8_readNumber 192 = .ok (.ifCond .eq 7, 3) := by decide +kernel
theorem dX8_readNumber_195 : decode cX8_readNumber 195 = .ok (.iconst 1, 1) := by decide +kernel
theorem dX8_readNumber_196 : decode cX8_readNumber 196 = .ok (.goto 4, 3) := by decide +kernel
theorem dX8_readNumber_199 : decode cX8_readNumber 199 = .ok (.iconst 0, 1) := by decide +kernel
theorem dX8_readNumber_200 : decode cX8_readNumber 200 = .ok (.iadd, 1) := by decide +kernel
theorem dX8_readNumber_201 : decode cX8_readNumber 201 = .ok (.istore 4, 2) := by decide +kernel
theorem dX8_readNumber_203 : decode cX8_readNumber 203 = .ok (.aload_n 0, 1) := by decide +kernel
theorem dX8_readNumber_204 : decode cX8_readNumber 204 = .ok (.dup, 1) := by decide +kernel
theorem dX8_readNumber_205 : decode cX8_readNumber 205 = .ok (.getfield 169, 3) := by decide +kernel
theorem dX8_readNumber_208 : decode cX8_readNumber 208 = .ok (.iload 7, 2) := by decide +kernel
theorem dX8_readNumber_210 : decode cX8_readNumber 210 = .ok (.ifCond .eq 7, 3) := by decide +kernel
theorem dX8_readNumber_213 : decode cX8_readNumber 213 = .ok (.iconst 1, 1) := by decide +kernel
theorem dX8_readNumber_214 : decode cX8_readNumber 214 = .ok (.goto 4, 3) := by decide +kernel
theorem dX8_readNumber_217 : decode cX8_readNumber 217 = .ok (.iconst 0, 1) := by decide +kernel
theorem dX8_readNumber_218 : decode cX8_readNumber 218 = .ok (.iadd, 1) := by decide +kernel
theorem dX8_readNumber_219 : decode cX8_readNumber 219 = .ok (.putfield 169, 3) := by decide +kernel
theorem dX8_readNumber_222 : decode cX8_readNumber 222 = .ok (.goto (-155), 3) := by decide +kernel
theorem dX8_readNumber_225 : decode cX8_readNumber 225 = .ok (.aload_n 0, 1) := by decide +kernel
theorem dX8_readNumber_226 : decode cX8_readNumber 226 = .ok (.iload_n 3, 1) := by decide +kernel
theorem dX8_readNumber_227 : decode cX8_readNumber 227 = .ok (.ifCond .eq 9, 3) := by decide +kernel
theorem dX8_readNumber_230 : decode cX8_readNumber 230 = .ok (.lload 5, 2) := by decide +kernel
theorem dX8_readNumber_232 : decode cX8_readNumber 232 = .ok (.lneg, 1) := by decide +kernel
theorem dX8_readNumber_233 : decode cX8_readNumber 233 = .ok (.goto 5, 3) := by decide +kernel
theorem dX8_readNumber_236 : decode cX8_readNumber 236 = .ok (.lload 5, 2) := by decide +kernel
theorem dX8_readNumber_238 : decode cX8_readNumber 238 = .ok (.putfield 183, 3) := by decide +kernel
theorem dX8_readNumber_241 : decode cX8_readNumber 241 = .ok (.aload_n 0, 1) := by decide +kernel
theorem dX8_readNumber_242 : decode cX8_readNumber 242 = .ok (.iload 4, 2) := by decide +kernel
theorem dX8_readNumber_244 : decode cX8_readNumber 244 = .ok (.ifCond .le 7, 3) := by decide +kernel
theorem dX8_readNumber_247 : decode cX8_readNumber 247 = .ok (.iconst 1, 1) := by decide +kernel
theorem dX8_readNumber_248 : decode cX8_readNumber 248 = .ok (.goto 4, 3) := by decide +kernel
theorem dX8_readNumber_251 : decode cX8_readNumber 251 = .ok (.iconst 0, 1) := by decide +kernel
theorem dX8_readNumber_252 : decode cX8_readNumber 252 = .ok (.putfield 186, 3) := by decide +kernel
theorem dX8_readNumber_255 : decode cX8_readNumber 255 = .ok (.return_, 1) := by decide +kernel
def fX8_readNumber_b238 (v4 : Int32) (s0 : Int64) (μ : Mm) : Option Mm := (if v4 ≤ 0 then (if rbz (0 : Int32) = true then some (wI (wL μ 0 45 s0) 0 46 (0 : Int32)) else none) else (if rbz (1 : Int32) = true then some (wI (wL μ 0 45 s0) 0 46 (1 : Int32)) else none))
def fX8_readNumber_b218 (k67 : Int32 → Int32 → Int32 → Int64 → Int32 → Mm → Option Mm) (v1 : Int32) (v3 : Int32) (v4 : Int32) (v5 : Int64) (v7 : Int32) (s0 : Int32) (s1 : Int32) (μ : Mm) : Option Mm := k67 v1 v3 v4 v5 v7 (wI μ 0 44 (s1 + s0))
def fX8_readNumber_b200 (k67 : Int32 → Int32 → Int32 → Int64 → Int32 → Mm → Option Mm) (v1 : Int32) (v3 : Int32) (v5 : Int64) (v7 : Int32) (s0 : Int32) (s1 : Int32) (μ : Mm) : Option Mm := (if v7 = 0 then fX8_readNumber_b218 k67 v1 v3 (s1 + s0) v5 v7 (0 : Int32) (μ.1 0 44) μ else fX8_readNumber_b218 k67 v1 v3 (s1 + s0) v5 v7 (1 : Int32) (μ.1 0 44) μ)
def fX8_readNumber_b186 (k67 : Int32 → Int32 → Int32 → Int64 → Int32 → Mm → Option Mm) (v1 : Int32) (v3 : Int32) (v4 : Int32) (v7 : Int32) (s0 : Int64) (μ : Mm) : Option Mm := (if v7 = 0 then fX8_readNumber_b200 k67 v1 v3 s0 v7 (0 : Int32) v4 μ else fX8_readNumber_b200 k67 v1 v3 s0 v7 (1 : Int32) v4 μ)
def fX8_readNumber_b172 (k67 : Int32 → Int32 → Int32 → Int64 → Int32 → Mm → Option Mm) (v1 : Int32) (v3 : Int32) (v4 : Int32) (v5 : Int64) (v9 : Int64) (s0 : Int32) (μ : Mm) : Option Mm := (if s0 = 0 then fX8_readNumber_b186 k67 v1 v3 v4 s0 v5 μ else fX8_readNumber_b186 k67 v1 v3 v4 s0 v9 μ)
def fX8_readNumber_b171 (k67 : Int32 → Int32 → Int32 → Int64 → Int32 → Mm → Option Mm) (v1 : Int32) (v3 : Int32) (v4 : Int32) (v5 : Int64) (v9 : Int64) (μ : Mm) : Option Mm := fX8_readNumber_b172 k67 v1 v3 v4 v5 v9 (0 : Int32) μ
def fX8_readNumber_b161 (k67 : Int32 → Int32 → Int32 → Int64 → Int32 → Mm → Option Mm) (v1 : Int32) (v3 : Int32) (v4 : Int32) (v5 : Int64) (v9 : Int64) (s0 : Int64) (s1 : Int32) (μ : Mm) : Option Mm := ((fX8_isNumber s1 s0).bind fun r161 => (if r161 = 0 then fX8_readNumber_b171 k67 v1 v3 v4 v5 v9 μ else fX8_readNumber_b172 k67 v1 v3 v4 v5 v9 (1 : Int32) μ))
def fX8_readNumber_b141 (k67 : Int32 → Int32 → Int32 → Int64 → Int32 → Mm → Option Mm) (v1 : Int32) (v3 : Int32) (v4 : Int32) (v5 : Int64) (v9 : Int64) (s0 : Int32) (μ : Mm) : Option Mm := (if s0 = 0 then fX8_readNumber_b171 k67 v1 v3 v4 v5 v9 μ else (if v3 = 0 then fX8_readNumber_b161 k67 v1 v3 v4 v5 v9 v9 v1 μ else fX8_readNumber_b161 k67 v1 v3 v4 v5 v9 (-v9) v1 μ))
def fX8_readNumber_b140 (k67 : Int32 → Int32 → Int32 → Int64 → Int32 → Mm → Option Mm) (v1 : Int32) (v3 : Int32) (v4 : Int32) (v5 : Int64) (v9 : Int64) (μ : Mm) : Option Mm := fX8_readNumber_b141 k67 v1 v3 v4 v5 v9 (0 : Int32) μ
def fX8_readNumber_b136 (k67 : Int32 → Int32 → Int32 → Int64 → Int32 → Mm → Option Mm) (v1 : Int32) (v3 : Int32) (v4 : Int32) (v5 : Int64) (v9 : Int64) (μ : Mm) : Option Mm := fX8_readNumber_b141 k67 v1 v3 v4 v5 v9 (1 : Int32) μ
def fX8_readNumber_b125 (k67 : Int32 → Int32 → Int32 → Int64 → Int32 → Mm → Option Mm) (v1 : Int32) (v3 : Int32) (v4 : Int32) (v5 : Int64) (v9 : Int64) (μ : Mm) : Option Mm := (if v3 = 0 then fX8_readNumber_b136 k67 v1 v3 v4 v5 v9 μ else (if v9 = (0 : Int64) then fX8_readNumber_b140 k67 v1 v3 v4 v5 v9 μ else fX8_readNumber_b136 k67 v1 v3 v4 v5 v9 μ))
def fX8_readNumber_b67 : Nat → Int32 → Int32 → Int32 → Int64 → Int32 → Mm → Option Mm
  | 0, _, _, _, _, _, _ => none
  | n + 1, v1, v3, v4, v5, v7, μ => (if v7 = 0 then (if v3 = 0 then fX8_readNumber_b238 v4 v5 μ else fX8_readNumber_b238 v4 (-v5) μ) else ((fX8_letter μ).bind fun r73 => ((fX8_in (Int32.toInt64 (r73 - (48 : Int32))) (0 : Int64) (9 : Int64)).bind fun r100 => (if r100 = 0 then fX8_readNumber_b140 (fX8_readNumber_b67 n) v1 v3 v4 v5 (((10 : Int64) * v5) + (Int32.toInt64 (r73 - (48 : Int32)))) μ else (if (9 : Int32) ≤ v4 then fX8_readNumber_b140 (fX8_readNumber_b67 n) v1 v3 v4 v5 (((10 : Int64) * v5) + (Int32.toInt64 (r73 - (48 : Int32)))) μ else (if v4 ≤ 0 then fX8_readNumber_b125 (fX8_readNumber_b67 n) v1 v3 v4 v5 (((10 : Int64) * v5) + (Int32.toInt64 (r73 - (48 : Int32)))) μ else (if v5 = (0 : Int64) then fX8_readNumber_b140 (fX8_readNumber_b67 n) v1 v3 v4 v5 (((10 : Int64) * v5) + (Int32.toInt64 (r73 - (48 : Int32)))) μ else fX8_readNumber_b125 (fX8_readNumber_b67 n) v1 v3 v4 v5 (((10 : Int64) * v5) + (Int32.toInt64 (r73 - (48 : Int32)))) μ)))))))
def fX8_readNumber_b54 (v1 : Int32) (v3 : Int32) (s0 : Int32) (s1 : Int32) (μ : Mm) : Option Mm := fX8_readNumber_b67 100 v1 v3 (0 : Int32) (0 : Int64) (1 : Int32) (wI μ 0 44 (s1 + s0))
def fX8_readNumber_b39 (v1 : Int32) (s0 : Int32) (μ : Mm) : Option Mm := (if s0 = 0 then fX8_readNumber_b54 v1 s0 (0 : Int32) (μ.1 0 44) μ else fX8_readNumber_b54 v1 s0 (1 : Int32) (μ.1 0 44) μ)
def fX8_readNumber_b38 (v1 : Int32) (μ : Mm) : Option Mm := fX8_readNumber_b39 v1 (0 : Int32) μ
def fX8_readNumber_b20 (v1 : Int32) (s0 : Int32) (μ : Mm) : Option Mm := (if s0 = 0 then fX8_readNumber_b38 v1 μ else ((fX8_letter μ).bind fun r26 => (if r26 = (45 : Int32) then fX8_readNumber_b39 v1 (1 : Int32) μ else fX8_readNumber_b38 v1 μ)))
def fX8_readNumber_b19 (v1 : Int32) (μ : Mm) : Option Mm := fX8_readNumber_b20 v1 (0 : Int32) μ
def fX8_readNumber (p1 : Int32) (μ : Mm) : Option Mm := (if p1 = 0 then fX8_readNumber_b19 p1 μ else (if p1 = (2 : Int32) then fX8_readNumber_b19 p1 μ else (if p1 = (10 : Int32) then fX8_readNumber_b19 p1 μ else fX8_readNumber_b20 p1 (1 : Int32) μ)))
set_option maxRecDepth 100000 in
set_option maxHeartbeats 4000000 in
theorem kX8_readNumber (l : Launch) (ε : Ev) (p1 : Int32) (μ : Mm) (out : Mm) (hf : fX8_readNumber p1 μ = some out) : Sp l ε layM yX8_readNumber cX8_readNumber 12 none 3 [.ref (ea ε 0), .int p1] none μ out := by
  refine Sp.of [(0, .ref (ea ε 0)), (1, .int p1)] rfl (by decide +kernel) (Nat.le_of_ble_eq_true rfl) ?_
  intro κ hκ C E hQ
  subst hκ
  replace C : Cf κ cX8_readNumber 12 RX8 none 3 := C
  have b238 : ∀ (v4 : Int32) (s0 : Int64) (μ : Mm) , fX8_readNumber_b238 v4 s0 μ = some out → G κ (Vw κ ε layM μ) 12 238 [(0, .ref (ea ε 0)), (4, .int v4)] [.long s0, .ref (ea ε 0)] := by
    intro v4 s0 μ hf
    refine g_putl (pc := 238) C E fdX8_183 layM_0_45 dX8_readNumber_238 ?_
    refine g_aload_n (pc := 241) (i := 0) (j := 0) C dX8_readNumber_241 rfl rfl ?_
    refine g_iload (pc := 242) (i := 4) (j := 1) C dX8_readNumber_242 rfl ?_
    refine g_if_le (pc := 244) (tgt := 251) C dX8_readNumber_244 rfl hf (fun _ hf => ?_) (fun _ hf => ?_)
    · refine g_iconst (pc := 251) C dX8_readNumber_251 ci_0 ?_
      refine g_putz (pc := 252) C E fdX8_186 layM_0_46 dX8_readNumber_252 hf (fun hf => ?_)
      exact g_vretw (pc := 255) C hQ dX8_readNumber_255 hf
    · refine g_iconst (pc := 247) C dX8_readNumber_247 ci_1 ?_
      refine g_goto (pc := 248) (tgt := 252) C dX8_readNumber_248 rfl ?_
      refine g_putz (pc := 252) C E fdX8_186 layM_0_46 dX8_readNumber_252 hf (fun hf => ?_)
      exact g_vretw (pc := 255) C hQ dX8_readNumber_255 hf
  have b218 : ∀ (k67 : Int32 → Int32 → Int32 → Int64 → Int32 → Mm → Option Mm) (hk67 : ∀ (v1 : Int32) (v3 : Int32) (v4 : Int32) (v5 : Int64) (v7 : Int32) (μ : Mm) , k67 v1 v3 v4 v5 v7 μ = some out → G κ (Vw κ ε layM μ) 12 67 [(0, .ref (ea ε 0)), (1, .int v1), (3, .int v3), (4, .int v4), (5, .long v5), (7, .int v7)] []) (v1 : Int32) (v3 : Int32) (v4 : Int32) (v5 : Int64) (v7 : Int32) (s0 : Int32) (s1 : Int32) (μ : Mm) , fX8_readNumber_b218 k67 v1 v3 v4 v5 v7 s0 s1 μ = some out → G κ (Vw κ ε layM μ) 12 218 [(0, .ref (ea ε 0)), (1, .int v1), (3, .int v3), (4, .int v4), (5, .long v5), (7, .int v7)] [.int s0, .int s1, .ref (ea ε 0)] := by
    intro k67 hk67 v1 v3 v4 v5 v7 s0 s1 μ hf
    refine g_iadd (pc := 218) C dX8_readNumber_218 ?_
    refine g_puti (pc := 219) C E fdX8_169 layM_0_44 dX8_readNumber_219 ?_
    refine g_goto (pc := 222) (tgt := 67) C dX8_readNumber_222 rfl ?_
    exact hk67 v1 v3 v4 v5 v7 (wI μ 0 44 (s1 + s0)) hf
  have b200 : ∀ (k67 : Int32 → Int32 → Int32 → Int64 → Int32 → Mm → Option Mm) (hk67 : ∀ (v1 : Int32) (v3 : Int32) (v4 : Int32) (v5 : Int64) (v7 : Int32) (μ : Mm) , k67 v1 v3 v4 v5 v7 μ = some out → G κ (Vw κ ε layM μ) 12 67 [(0, .ref (ea ε 0)), (1, .int v1), (3, .int v3), (4, .int v4), (5, .long v5), (7, .int v7)] []) (v1 : Int32) (v3 : Int32) (v5 : Int64) (v7 : Int32) (s0 : Int32) (s1 : Int32) (μ : Mm) , fX8_readNumber_b200 k67 v1 v3 v5 v7 s0 s1 μ = some out → G κ (Vw κ ε layM μ) 12 200 [(0, .ref (ea ε 0)), (1, .int v1), (3, .int v3), (5, .long v5), (7, .int v7)] [.int s0, .int s1] := by
    intro k67 hk67 v1 v3 v5 v7 s0 s1 μ hf
    refine g_iadd (pc := 200) C dX8_readNumber_200 ?_
    refine g_istore (pc := 201) (i := 4) (L' := [(4, .int (s1 + s0)), (0, .ref (ea ε 0)), (1, .int v1), (3, .int v3), (5, .long v5), (7, .int v7)]) C dX8_readNumber_201 (by decide) rfl ?_
    refine g_aload_n (pc := 203) (i := 0) (j := 1) C dX8_readNumber_203 rfl rfl ?_
    refine g_dup (pc := 204) C dX8_readNumber_204 rfl ?_
    refine g_geti (pc := 205) C E fdX8_169 layM_0_44 dX8_readNumber_205 ?_
    refine g_iload (pc := 208) (i := 7) (j := 5) C dX8_readNumber_208 rfl ?_
    refine g_if_eq (pc := 210) (tgt := 217) C dX8_readNumber_210 rfl hf (fun _ hf => ?_) (fun _ hf => ?_)
    · refine g_iconst (pc := 217) C dX8_readNumber_217 ci_0 ?_
      exact g_at [1, 2, 3, 0, 4, 5] rfl (b218 k67 hk67 v1 v3 (s1 + s0) v5 v7 (0 : Int32) (μ.1 0 44) μ hf)
    · refine g_iconst (pc := 213) C dX8_readNumber_213 ci_1 ?_
      refine g_goto (pc := 214) (tgt := 218) C dX8_readNumber_214 rfl ?_
      exact g_at [1, 2, 3, 0, 4, 5] rfl (b218 k67 hk67 v1 v3 (s1 + s0) v5 v7 (1 : Int32) (μ.1 0 44) μ hf)
  have b186 : ∀ (k67 : Int32 → Int32 → Int32 → Int64 → Int32 → Mm → Option Mm) (hk67 : ∀ (v1 : Int32) (v3 : Int32) (v4 : Int32) (v5 : Int64) (v7 : Int32) (μ : Mm) , k67 v1 v3 v4 v5 v7 μ = some out → G κ (Vw κ ε layM μ) 12 67 [(0, .ref (ea ε 0)), (1, .int v1), (3, .int v3), (4, .int v4), (5, .long v5), (7, .int v7)] []) (v1 : Int32) (v3 : Int32) (v4 : Int32) (v7 : Int32) (s0 : Int64) (μ : Mm) , fX8_readNumber_b186 k67 v1 v3 v4 v7 s0 μ = some out → G κ (Vw κ ε layM μ) 12 186 [(0, .ref (ea ε 0)), (1, .int v1), (3, .int v3), (4, .int v4), (7, .int v7)] [.long s0] := by
    intro k67 hk67 v1 v3 v4 v7 s0 μ hf
    refine g_lstore (pc := 186) (i := 5) (L' := [(5, .long s0), (0, .ref (ea ε 0)), (1, .int v1), (3, .int v3), (4, .int v4), (7, .int v7)]) C dX8_readNumber_186 (by decide) rfl ?_
    refine g_iload (pc := 188) (i := 4) (j := 4) C dX8_readNumber_188 rfl ?_
    refine g_iload (pc := 190) (i := 7) (j := 5) C dX8_readNumber_190 rfl ?_
    refine g_if_eq (pc := 192) (tgt := 199) C dX8_readNumber_192 rfl hf (fun _ hf => ?_) (fun _ hf => ?_)
    · refine g_iconst (pc := 199) C dX8_readNumber_199 ci_0 ?_
      exact g_at [1, 2, 3, 0, 5] rfl (b200 k67 hk67 v1 v3 s0 v7 (0 : Int32) v4 μ hf)
    · refine g_iconst (pc := 195) C dX8_readNumber_195 ci_1 ?_
      refine g_goto (pc := 196) (tgt := 200) C dX8_readNumber_196 rfl ?_
      exact g_at [1, 2, 3, 0, 5] rfl (b200 k67 hk67 v1 v3 s0 v7 (1 : Int32) v4 μ hf)
  have b172 : ∀ (k67 : Int32 → Int32 → Int32 → Int64 → Int32 → Mm → Option Mm) (hk67 : ∀ (v1 : Int32) (v3 : Int32) (v4 : Int32) (v5 : Int64) (v7 : Int32) (μ : Mm) , k67 v1 v3 v4 v5 v7 μ = some out → G κ (Vw κ ε layM μ) 12 67 [(0, .ref (ea ε 0)), (1, .int v1), (3, .int v3), (4, .int v4), (5, .long v5), (7, .int v7)] []) (v1 : Int32) (v3 : Int32) (v4 : Int32) (v5 : Int64) (v9 : Int64) (s0 : Int32) (μ : Mm) , fX8_readNumber_b172 k67 v1 v3 v4 v5 v9 s0 μ = some out → G κ (Vw κ ε layM μ) 12 172 [(0, .ref (ea ε 0)), (1, .int v1), (3, .int v3), (4, .int v4), (5, .long v5), (9, .long v9)] [.int s0] := by
    intro k67 hk67 v1 v3 v4 v5 v9 s0 μ hf
    refine g_istore (pc := 172) (i := 7) (L' := [(7, .int s0), (0, .ref (ea ε 0)), (1, .int v1), (3, .int v3), (4, .int v4), (5, .long v5), (9, .long v9)]) C dX8_readNumber_172 (by decide) rfl ?_
    refine g_iload (pc := 174) (i := 7) (j := 0) C dX8_readNumber_174 rfl ?_
    refine g_if_eq (pc := 176) (tgt := 184) C dX8_readNumber_176 rfl hf (fun _ hf => ?_) (fun _ hf => ?_)
    · refine g_lload (pc := 184) (i := 5) (j := 5) C dX8_readNumber_184 rfl ?_
      exact g_at [1, 2, 3, 4, 0] rfl (b186 k67 hk67 v1 v3 v4 s0 v5 μ hf)
    · refine g_lload (pc := 179) (i := 9) (j := 6) C dX8_readNumber_179 rfl ?_
      refine g_goto (pc := 181) (tgt := 186) C dX8_readNumber_181 rfl ?_
      exact g_at [1, 2, 3, 4, 0] rfl (b186 k67 hk67 v1 v3 v4 s0 v9 μ hf)
  have b171 : ∀ (k67 : Int32 → Int32 → Int32 → Int64 → Int32 → Mm → Option Mm) (hk67 : ∀ (v1 : Int32) (v3 : Int32) (v4 : Int32) (v5 : Int64) (v7 : Int32) (μ : Mm) , k67 v1 v3 v4 v5 v7 μ = some out → G κ (Vw κ ε layM μ) 12 67 [(0, .ref (ea ε 0)), (1, .int v1), (3, .int v3), (4, .int v4), (5, .long v5), (7, .int v7)] []) (v1 : Int32) (v3 : Int32) (v4 : Int32) (v5 : Int64) (v9 : Int64) (μ : Mm) , fX8_readNumber_b171 k67 v1 v3 v4 v5 v9 μ = some out → G κ (Vw κ ε layM μ) 12 171 [(0, .ref (ea ε 0)), (1, .int v1), (3, .int v3), (4, .int v4), (5, .long v5), (9, .long v9)] [] := by
    intro k67 hk67 v1 v3 v4 v5 v9 μ hf
    refine g_iconst (pc := 171) C dX8_readNumber_171 ci_0 ?_
    exact b172 k67 hk67 v1 v3 v4 v5 v9 (0 : Int32) μ hf
  have b161 : ∀ (k67 : Int32 → Int32 → Int32 → Int64 → Int32 → Mm → Option Mm) (hk67 : ∀ (v1 : Int32) (v3 : Int32) (v4 : Int32) (v5 : Int64) (v7 : Int32) (μ : Mm) , k67 v1 v3 v4 v5 v7 μ = some out → G κ (Vw κ ε layM μ) 12 67 [(0, .ref (ea ε 0)), (1, .int v1), (3, .int v3), (4, .int v4), (5, .long v5), (7, .int v7)] []) (v1 : Int32) (v3 : Int32) (v4 : Int32) (v5 : Int64) (v9 : Int64) (s0 : Int64) (s1 : Int32) (μ : Mm) , fX8_readNumber_b161 k67 v1 v3 v4 v5 v9 s0 s1 μ = some out → G κ (Vw κ ε layM μ) 12 161 [(0, .ref (ea ε 0)), (1, .int v1), (3, .int v3), (4, .int v4), (5, .long v5), (9, .long v9)] [.long s0, .int s1] := by
    intro k67 hk67 v1 v3 v4 v5 v9 s0 s1 μ hf
    refine g_cpi (pc := 161) (st := []) C lkX8_180 (As := [.int s1, .long s0]) rfl (fun out h => kX8_isNumber (kl κ) s1 s0 out h) (by decide) rfl (Nat.le_of_ble_eq_true rfl) dX8_readNumber_161 hf (fun r161 _ hf => ?_)
    refine g_if_eq (pc := 164) (tgt := 171) C dX8_readNumber_164 rfl hf (fun _ hf => ?_) (fun _ hf => ?_)
    · exact b171 k67 hk67 v1 v3 v4 v5 v9 μ hf
    · refine g_iconst (pc := 167) C dX8_readNumber_167 ci_1 ?_
      refine g_goto (pc := 168) (tgt := 172) C dX8_readNumber_168 rfl ?_
      exact b172 k67 hk67 v1 v3 v4 v5 v9 (1 : Int32) μ hf
  have b141 : ∀ (k67 : Int32 → Int32 → Int32 → Int64 → Int32 → Mm → Option Mm) (hk67 : ∀ (v1 : Int32) (v3 : Int32) (v4 : Int32) (v5 : Int64) (v7 : Int32) (μ : Mm) , k67 v1 v3 v4 v5 v7 μ = some out → G κ (Vw κ ε layM μ) 12 67 [(0, .ref (ea ε 0)), (1, .int v1), (3, .int v3), (4, .int v4), (5, .long v5), (7, .int v7)] []) (v1 : Int32) (v3 : Int32) (v4 : Int32) (v5 : Int64) (v9 : Int64) (s0 : Int32) (μ : Mm) , fX8_readNumber_b141 k67 v1 v3 v4 v5 v9 s0 μ = some out → G κ (Vw κ ε layM μ) 12 141 [(0, .ref (ea ε 0)), (1, .int v1), (3, .int v3), (4, .int v4), (5, .long v5), (9, .long v9)] [.int s0] := by
    intro k67 hk67 v1 v3 v4 v5 v9 s0 μ hf
    refine g_istore (pc := 141) (i := 11) (L' := [(11, .int s0), (0, .ref (ea ε 0)), (1, .int v1), (3, .int v3), (4, .int v4), (5, .long v5), (9, .long v9)]) C dX8_readNumber_141 (by decide) rfl ?_
    refine g_iload (pc := 143) (i := 11) (j := 0) C dX8_readNumber_143 rfl ?_
    refine g_if_eq (pc := 145) (tgt := 171) C dX8_readNumber_145 rfl hf (fun _ hf => ?_) (fun _ hf => ?_)
    · exact g_at [1, 2, 3, 4, 5, 6] rfl (b171 k67 hk67 v1 v3 v4 v5 v9 μ hf)
    · refine g_iload_n (pc := 148) (i := 1) (j := 2) C dX8_readNumber_148 rfl rfl ?_
      refine g_iload_n (pc := 149) (i := 3) (j := 3) C dX8_readNumber_149 rfl rfl ?_
      refine g_if_eq (pc := 150) (tgt := 159) C dX8_readNumber_150 rfl hf (fun _ hf => ?_) (fun _ hf => ?_)
      · refine g_lload (pc := 159) (i := 9) (j := 6) C dX8_readNumber_159 rfl ?_
        exact g_at [1, 2, 3, 4, 5, 6] rfl (b161 k67 hk67 v1 v3 v4 v5 v9 v9 v1 μ hf)
      · refine g_lload (pc := 153) (i := 9) (j := 6) C dX8_readNumber_153 rfl ?_
        refine g_lneg (pc := 155) C dX8_readNumber_155 ?_
        refine g_goto (pc := 156) (tgt := 161) C dX8_readNumber_156 rfl ?_
        exact g_at [1, 2, 3, 4, 5, 6] rfl (b161 k67 hk67 v1 v3 v4 v5 v9 (-v9) v1 μ hf)
  have b140 : ∀ (k67 : Int32 → Int32 → Int32 → Int64 → Int32 → Mm → Option Mm) (hk67 : ∀ (v1 : Int32) (v3 : Int32) (v4 : Int32) (v5 : Int64) (v7 : Int32) (μ : Mm) , k67 v1 v3 v4 v5 v7 μ = some out → G κ (Vw κ ε layM μ) 12 67 [(0, .ref (ea ε 0)), (1, .int v1), (3, .int v3), (4, .int v4), (5, .long v5), (7, .int v7)] []) (v1 : Int32) (v3 : Int32) (v4 : Int32) (v5 : Int64) (v9 : Int64) (μ : Mm) , fX8_readNumber_b140 k67 v1 v3 v4 v5 v9 μ = some out → G κ (Vw κ ε layM μ) 12 140 [(0, .ref (ea ε 0)), (1, .int v1), (3, .int v3), (4, .int v4), (5, .long v5), (9, .long v9)] [] := by
    intro k67 hk67 v1 v3 v4 v5 v9 μ hf
    refine g_iconst (pc := 140) C dX8_readNumber_140 ci_0 ?_
    exact b141 k67 hk67 v1 v3 v4 v5 v9 (0 : Int32) μ hf
  have b136 : ∀ (k67 : Int32 → Int32 → Int32 → Int64 → Int32 → Mm → Option Mm) (hk67 : ∀ (v1 : Int32) (v3 : Int32) (v4 : Int32) (v5 : Int64) (v7 : Int32) (μ : Mm) , k67 v1 v3 v4 v5 v7 μ = some out → G κ (Vw κ ε layM μ) 12 67 [(0, .ref (ea ε 0)), (1, .int v1), (3, .int v3), (4, .int v4), (5, .long v5), (7, .int v7)] []) (v1 : Int32) (v3 : Int32) (v4 : Int32) (v5 : Int64) (v9 : Int64) (μ : Mm) , fX8_readNumber_b136 k67 v1 v3 v4 v5 v9 μ = some out → G κ (Vw κ ε layM μ) 12 136 [(0, .ref (ea ε 0)), (1, .int v1), (3, .int v3), (4, .int v4), (5, .long v5), (9, .long v9)] [] := by
    intro k67 hk67 v1 v3 v4 v5 v9 μ hf
    refine g_iconst (pc := 136) C dX8_readNumber_136 ci_1 ?_
    refine g_goto (pc := 137) (tgt := 141) C dX8_readNumber_137 rfl ?_
    exact b141 k67 hk67 v1 v3 v4 v5 v9 (1 : Int32) μ hf
  have b125 : ∀ (k67 : Int32 → Int32 → Int32 → Int64 → Int32 → Mm → Option Mm) (hk67 : ∀ (v1 : Int32) (v3 : Int32) (v4 : Int32) (v5 : Int64) (v7 : Int32) (μ : Mm) , k67 v1 v3 v4 v5 v7 μ = some out → G κ (Vw κ ε layM μ) 12 67 [(0, .ref (ea ε 0)), (1, .int v1), (3, .int v3), (4, .int v4), (5, .long v5), (7, .int v7)] []) (v1 : Int32) (v3 : Int32) (v4 : Int32) (v5 : Int64) (v9 : Int64) (μ : Mm) , fX8_readNumber_b125 k67 v1 v3 v4 v5 v9 μ = some out → G κ (Vw κ ε layM μ) 12 125 [(0, .ref (ea ε 0)), (1, .int v1), (3, .int v3), (4, .int v4), (5, .long v5), (9, .long v9)] [] := by
    intro k67 hk67 v1 v3 v4 v5 v9 μ hf
    refine g_iload_n (pc := 125) (i := 3) (j := 2) C dX8_readNumber_125 rfl rfl ?_
    refine g_if_eq (pc := 126) (tgt := 136) C dX8_readNumber_126 rfl hf (fun _ hf => ?_) (fun _ hf => ?_)
    · exact b136 k67 hk67 v1 v3 v4 v5 v9 μ hf
    · refine g_lload (pc := 129) (i := 9) (j := 5) C dX8_readNumber_129 rfl ?_
      refine g_lconst (pc := 131) C dX8_readNumber_131 cl_0 ?_
      refine g_lcmp_eq (pc := 132) (tgt := 140) C dX8_readNumber_132 dX8_readNumber_133 rfl hf (fun _ hf => ?_) (fun _ hf => ?_)
      · exact b140 k67 hk67 v1 v3 v4 v5 v9 μ hf
      · exact b136 k67 hk67 v1 v3 v4 v5 v9 μ hf
  have b67 : ∀ (n : Nat) (v1 : Int32) (v3 : Int32) (v4 : Int32) (v5 : Int64) (v7 : Int32) (μ : Mm) , fX8_readNumber_b67 n v1 v3 v4 v5 v7 μ = some out → G κ (Vw κ ε layM μ) 12 67 [(0, .ref (ea ε 0)), (1, .int v1), (3, .int v3), (4, .int v4), (5, .long v5), (7, .int v7)] [] := by
    intro n
    induction n with
    | zero => intro v1 v3 v4 v5 v7 μ hf; exact none_ne hf
    | succ n ih =>
      intro v1 v3 v4 v5 v7 μ hf
      refine g_iload (pc := 67) (i := 7) (j := 5) C dX8_readNumber_67 rfl ?_
      refine g_if_eq (pc := 69) (tgt := 225) C dX8_readNumber_69 rfl hf (fun _ hf => ?_) (fun _ hf => ?_)
      · refine g_aload_n (pc := 225) (i := 0) (j := 0) C dX8_readNumber_225 rfl rfl ?_
        refine g_iload_n (pc := 226) (i := 3) (j := 2) C dX8_readNumber_226 rfl rfl ?_
        refine g_if_eq (pc := 227) (tgt := 236) C dX8_readNumber_227 rfl hf (fun _ hf => ?_) (fun _ hf => ?_)
        · refine g_lload (pc := 236) (i := 5) (j := 4) C dX8_readNumber_236 rfl ?_
          exact g_at [0, 3] rfl (b238 v4 v5 μ hf)
        · refine g_lload (pc := 230) (i := 5) (j := 4) C dX8_readNumber_230 rfl ?_
          refine g_lneg (pc := 232) C dX8_readNumber_232 ?_
          refine g_goto (pc := 233) (tgt := 238) C dX8_readNumber_233 rfl ?_
          exact g_at [0, 3] rfl (b238 v4 (-v5) μ hf)
      · refine g_aload_n (pc := 72) (i := 0) (j := 0) C dX8_readNumber_72 rfl rfl ?_
        refine g_cri (pc := 73) (st := []) C E layM_0 lkX8_172 (As := []) rfl (fun out h => kX8_letter (kl κ) ε μ out h) (by decide) rfl (Nat.le_of_ble_eq_true rfl) dX8_readNumber_73 hf (fun r73 _ hf => ?_)
        refine g_bipush (pc := 76) C dX8_readNumber_76 cb_48 ?_
        refine g_isub (pc := 78) C dX8_readNumber_78 ?_
        refine g_istore (pc := 79) (i := 8) (L' := [(8, .int (r73 - (48 : Int32))), (0, .ref (ea ε 0)), (1, .int v1), (3, .int v3), (4, .int v4), (5, .long v5), (7, .int v7)]) C dX8_readNumber_79 (by decide) rfl ?_
        refine g_ldc2 (pc := 81) C cnX8_176 dX8_readNumber_81 ?_
        refine g_lload (pc := 84) (i := 5) (j := 5) C dX8_readNumber_84 rfl ?_
        refine g_lmul (pc := 86) C dX8_readNumber_86 ?_
        refine g_iload (pc := 87) (i := 8) (j := 0) C dX8_readNumber_87 rfl ?_
        refine g_i2l (pc := 89) C dX8_readNumber_89 ?_
        refine g_ladd (pc := 90) C dX8_readNumber_90 ?_
        refine g_lstore (pc := 91) (i := 9) (L' := [(9, .long (((10 : Int64) * v5) + (Int32.toInt64 (r73 - (48 : Int32))))), (8, .int (r73 - (48 : Int32))), (0, .ref (ea ε 0)), (1, .int v1), (3, .int v3), (4, .int v4), (5, .long v5), (7, .int v7)]) C dX8_readNumber_91 (by decide) rfl ?_
        refine g_iload (pc := 93) (i := 8) (j := 1) C dX8_readNumber_93 rfl ?_
        refine g_i2l (pc := 95) C dX8_readNumber_95 ?_
        refine g_lconst (pc := 96) C dX8_readNumber_96 cl_0 ?_
        refine g_ldc2 (pc := 97) C cnX8_178 dX8_readNumber_97 ?_
        refine g_cpi (pc := 100) (st := []) C lkX8_98 (As := [.long (Int32.toInt64 (r73 - (48 : Int32))), .long (0 : Int64), .long (9 : Int64)]) rfl (fun out h => kX8_in (kl κ) (Int32.toInt64 (r73 - (48 : Int32))) (0 : Int64) (9 : Int64) out h) (by decide) rfl (Nat.le_of_ble_eq_true rfl) dX8_readNumber_100 hf (fun r100 _ hf => ?_)
        refine g_if_eq (pc := 103) (tgt := 140) C dX8_readNumber_103 rfl hf (fun _ hf => ?_) (fun _ hf => ?_)
        · exact g_at [2, 3, 4, 5, 6, 0] rfl (b140 (fX8_readNumber_b67 n) ih v1 v3 v4 v5 (((10 : Int64) * v5) + (Int32.toInt64 (r73 - (48 : Int32)))) μ hf)
        · refine g_iload (pc := 106) (i := 4) (j := 5) C dX8_readNumber_106 rfl ?_
          refine g_bipush (pc := 108) C dX8_readNumber_108 cb_9 ?_
          refine g_icmp_ge (pc := 110) (tgt := 140) C dX8_readNumber_110 rfl hf (fun _ hf => ?_) (fun _ hf => ?_)
          · exact g_at [2, 3, 4, 5, 6, 0] rfl (b140 (fX8_readNumber_b67 n) ih v1 v3 v4 v5 (((10 : Int64) * v5) + (Int32.toInt64 (r73 - (48 : Int32)))) μ hf)
          · refine g_iload (pc := 113) (i := 4) (j := 5) C dX8_readNumber_113 rfl ?_
            refine g_if_le (pc := 115) (tgt := 125) C dX8_readNumber_115 rfl hf (fun _ hf => ?_) (fun _ hf => ?_)
            · exact g_at [2, 3, 4, 5, 6, 0] rfl (b125 (fX8_readNumber_b67 n) ih v1 v3 v4 v5 (((10 : Int64) * v5) + (Int32.toInt64 (r73 - (48 : Int32)))) μ hf)
            · refine g_lload (pc := 118) (i := 5) (j := 6) C dX8_readNumber_118 rfl ?_
              refine g_lconst (pc := 120) C dX8_readNumber_120 cl_0 ?_
              refine g_lcmp_eq (pc := 121) (tgt := 140) C dX8_readNumber_121 dX8_readNumber_122 rfl hf (fun _ hf => ?_) (fun _ hf => ?_)
              · exact g_at [2, 3, 4, 5, 6, 0] rfl (b140 (fX8_readNumber_b67 n) ih v1 v3 v4 v5 (((10 : Int64) * v5) + (Int32.toInt64 (r73 - (48 : Int32)))) μ hf)
              · exact g_at [2, 3, 4, 5, 6, 0] rfl (b125 (fX8_readNumber_b67 n) ih v1 v3 v4 v5 (((10 : Int64) * v5) + (Int32.toInt64 (r73 - (48 : Int32)))) μ hf)
  have b54 : ∀ (v1 : Int32) (v3 : Int32) (s0 : Int32) (s1 : Int32) (μ : Mm) , fX8_readNumber_b54 v1 v3 s0 s1 μ = some out → G κ (Vw κ ε layM μ) 12 54 [(0, .ref (ea ε 0)), (1, .int v1), (3, .int v3)] [.int s0, .int s1, .ref (ea ε 0)] := by
    intro v1 v3 s0 s1 μ hf
    refine g_iadd (pc := 54) C dX8_readNumber_54 ?_
    refine g_puti (pc := 55) C E fdX8_169 layM_0_44 dX8_readNumber_55 ?_
    refine g_iconst (pc := 58) C dX8_readNumber_58 ci_0 ?_
    refine g_istore (pc := 59) (i := 4) (L' := [(4, .int (0 : Int32)), (0, .ref (ea ε 0)), (1, .int v1), (3, .int v3)]) C dX8_readNumber_59 (by decide) rfl ?_
    refine g_lconst (pc := 61) C dX8_readNumber_61 cl_0 ?_
    refine g_lstore (pc := 62) (i := 5) (L' := [(5, .long (0 : Int64)), (4, .int (0 : Int32)), (0, .ref (ea ε 0)), (1, .int v1), (3, .int v3)]) C dX8_readNumber_62 (by decide) rfl ?_
    refine g_iconst (pc := 64) C dX8_readNumber_64 ci_1 ?_
    refine g_istore (pc := 65) (i := 7) (L' := [(7, .int (1 : Int32)), (5, .long (0 : Int64)), (4, .int (0 : Int32)), (0, .ref (ea ε 0)), (1, .int v1), (3, .int v3)]) C dX8_readNumber_65 (by decide) rfl ?_
    exact g_at [3, 4, 5, 2, 1, 0] rfl (b67 100 v1 v3 (0 : Int32) (0 : Int64) (1 : Int32) (wI μ 0 44 (s1 + s0)) hf)
  have b39 : ∀ (v1 : Int32) (s0 : Int32) (μ : Mm) , fX8_readNumber_b39 v1 s0 μ = some out → G κ (Vw κ ε layM μ) 12 39 [(0, .ref (ea ε 0)), (1, .int v1)] [.int s0] := by
    intro v1 s0 μ hf
    refine g_istore_n (pc := 39) (i := 3) (L' := [(3, .int s0), (0, .ref (ea ε 0)), (1, .int v1)]) C dX8_readNumber_39 rfl (by decide) rfl ?_
    refine g_aload_n (pc := 40) (i := 0) (j := 1) C dX8_readNumber_40 rfl rfl ?_
    refine g_dup (pc := 41) C dX8_readNumber_41 rfl ?_
    refine g_geti (pc := 42) C E fdX8_169 layM_0_44 dX8_readNumber_42 ?_
    refine g_iload_n (pc := 45) (i := 3) (j := 0) C dX8_readNumber_45 rfl rfl ?_
    refine g_if_eq (pc := 46) (tgt := 53) C dX8_readNumber_46 rfl hf (fun _ hf => ?_) (fun _ hf => ?_)
    · refine g_iconst (pc := 53) C dX8_readNumber_53 ci_0 ?_
      exact g_at [1, 2, 0] rfl (b54 v1 s0 (0 : Int32) (μ.1 0 44) μ hf)
    · refine g_iconst (pc := 49) C dX8_readNumber_49 ci_1 ?_
      refine g_goto (pc := 50) (tgt := 54) C dX8_readNumber_50 rfl ?_
      exact g_at [1, 2, 0] rfl (b54 v1 s0 (1 : Int32) (μ.1 0 44) μ hf)
  have b38 : ∀ (v1 : Int32) (μ : Mm) , fX8_readNumber_b38 v1 μ = some out → G κ (Vw κ ε layM μ) 12 38 [(0, .ref (ea ε 0)), (1, .int v1)] [] := by
    intro v1 μ hf
    refine g_iconst (pc := 38) C dX8_readNumber_38 ci_0 ?_
    exact b39 v1 (0 : Int32) μ hf
  have b20 : ∀ (v1 : Int32) (s0 : Int32) (μ : Mm) , fX8_readNumber_b20 v1 s0 μ = some out → G κ (Vw κ ε layM μ) 12 20 [(0, .ref (ea ε 0)), (1, .int v1)] [.int s0] := by
    intro v1 s0 μ hf
    refine g_istore_n (pc := 20) (i := 2) (L' := [(2, .int s0), (0, .ref (ea ε 0)), (1, .int v1)]) C dX8_readNumber_20 rfl (by decide) rfl ?_
    refine g_iload_n (pc := 21) (i := 2) (j := 0) C dX8_readNumber_21 rfl rfl ?_
    refine g_if_eq (pc := 22) (tgt := 38) C dX8_readNumber_22 rfl hf (fun _ hf => ?_) (fun _ hf => ?_)
    · exact g_at [1, 2] rfl (b38 v1 μ hf)
    · refine g_aload_n (pc := 25) (i := 0) (j := 1) C dX8_readNumber_25 rfl rfl ?_
      refine g_cri (pc := 26) (st := []) C E layM_0 lkX8_172 (As := []) rfl (fun out h => kX8_letter (kl κ) ε μ out h) (by decide) rfl (Nat.le_of_ble_eq_true rfl) dX8_readNumber_26 hf (fun r26 _ hf => ?_)
      refine g_bipush (pc := 29) C dX8_readNumber_29 cb_45 ?_
      refine g_icmp_ne (pc := 31) (tgt := 38) C dX8_readNumber_31 rfl hf (fun _ hf => ?_) (fun _ hf => ?_)
      · exact g_at [1, 2] rfl (b38 v1 μ hf)
      · refine g_iconst (pc := 34) C dX8_readNumber_34 ci_1 ?_
        refine g_goto (pc := 35) (tgt := 39) C dX8_readNumber_35 rfl ?_
        exact g_at [1, 2] rfl (b39 v1 (1 : Int32) μ hf)
  have b19 : ∀ (v1 : Int32) (μ : Mm) , fX8_readNumber_b19 v1 μ = some out → G κ (Vw κ ε layM μ) 12 19 [(0, .ref (ea ε 0)), (1, .int v1)] [] := by
    intro v1 μ hf
    refine g_iconst (pc := 19) C dX8_readNumber_19 ci_0 ?_
    exact b20 v1 (0 : Int32) μ hf
  refine g_iload_n (pc := 0) (i := 1) (j := 1) C dX8_readNumber_0 rfl rfl ?_
  refine g_if_eq (pc := 1) (tgt := 19) C dX8_readNumber_1 rfl hf (fun _ hf => ?_) (fun _ hf => ?_)
  · exact b19 p1 μ hf
  · refine g_iload_n (pc := 4) (i := 1) (j := 1) C dX8_readNumber_4 rfl rfl ?_
    refine g_iconst (pc := 5) C dX8_readNumber_5 ci_2 ?_
    refine g_icmp_eq (pc := 6) (tgt := 19) C dX8_readNumber_6 rfl hf (fun _ hf => ?_) (fun _ hf => ?_)
    · exact b19 p1 μ hf
    · refine g_iload_n (pc := 9) (i := 1) (j := 1) C dX8_readNumber_9 rfl rfl ?_
      refine g_bipush (pc := 10) C dX8_readNumber_10 cb_10 ?_
      refine g_icmp_eq (pc := 12) (tgt := 19) C dX8_readNumber_12 rfl hf (fun _ hf => ?_) (fun _ hf => ?_)
      · exact b19 p1 μ hf
      · refine g_iconst (pc := 15) C dX8_readNumber_15 ci_1 ?_
        refine g_goto (pc := 16) (tgt := 20) C dX8_readNumber_16 rfl ?_
        exact b20 p1 (1 : Int32) μ hf
theorem dX8_readCell_0 : decode cX8_readCell 0 = .ok (.aload_n 0, 1) := by decide +kernel
theorem dX8_readCell_1 : decode cX8_readCell 1 = .ok (.getfield 195, 3) := by decide +kernel
theorem dX8_readCell_4 : decode cX8_readCell 4 = .ok (.invokestatic 198, 3) := by decide +kernel
theorem dX8_readCell_7 : decode cX8_readCell 7 = .ok (.ifCond .ne 31, 3) := by decide +kernel
theorem dX8_readCell_10 : decode cX8_readCell 10 = .ok (.aload_n 0, 1) := by decide +kernel
theorem dX8_readCell_11 : decode cX8_readCell 11 = .ok (.invokevirtual 172, 3) := by decide +kernel
theorem dX8_readCell_14 : decode cX8_readCell 14 = .ok (.bipush 42, 2) := by decide +kernel
theorem dX8_readCell_16 : decode cX8_readCell 16 = .ok (.if_icmp .ne 22, 3) := by decide +kernel
theorem dX8_readCell_19 : decode cX8_readCell 19 = .ok (.aload_n 0, 1) := by decide +kernel
theorem dX8_readCell_20 : decode cX8_readCell 20 = .ok (.dup, 1) := by decide +kernel
theorem dX8_readCell_21 : decode cX8_readCell 21 = .ok (.getfield 169, 3) := by decide +kernel
theorem dX8_readCell_24 : decode cX8_readCell 24 = .ok (.iconst 1, 1) := by decide +kernel
theorem dX8_readCell_25 : decode cX8_readCell 25 = .ok (.iadd, 1) := by decide +kernel
theorem dX8_readCell_26 : decode cX8_readCell 26 = .ok (.putfield 169, 3) := by decide +kernel
theorem dX8_readCell_29 : decode cX8_readCell 29 = .ok (.aload_n 0, 1) := by decide +kernel
theorem dX8_readCell_30 : decode cX8_readCell 30 = .ok (.iconst 0, 1) := by decide +kernel
theorem dX8_readCell_31 : decode cX8_readCell 31 = .ok (.iconst 0, 1) := by decide +kernel
theorem dX8_readCell_32 : decode cX8_readCell 32 = .ok (.lconst 0, 1) := by decide +kernel
theorem dX8_readCell_33 : decode cX8_readCell 33 = .ok (.invokevirtual 202, 3) := by decide +kernel
theorem dX8_readCell_36 : decode cX8_readCell 36 = .ok (.iconst 1, 1) := by decide +kernel
theorem dX8_readCell_37 : decode cX8_readCell 37 = .ok (.ireturn, 1) := by decide +kernel
theorem dX8_readCell_38 : decode cX8_readCell 38 = .ok (.aload_n 0, 1) := by decide +kernel
theorem dX8_readCell_39 : decode cX8_readCell 39 = .ok (.getfield 195, 3) := by decide +kernel
theorem dX8_readCell_42 : decode cX8_readCell 42 = .ok (.bipush 11, 2) := by decide +kernel
theorem dX8_readCell_44 : decode cX8_readCell 44 = .ok (.if_icmp .ne 7, 3) := by decide +kernel
theorem dX8_readCell_47 : decode cX8_readCell 47 = .ok (.iconst 4, 1) := by decide +kernel
theorem dX8_readCell_48 : decode cX8_readCell 48 = .ok (.goto 7, 3) := by decide +kernel
theorem dX8_readCell_51 : decode cX8_readCell 51 = .ok (.aload_n 0, 1) := by decide +kernel
theorem dX8_readCell_52 : decode cX8_readCell 52 = .ok (.getfield 195, 3) := by decide +kernel
theorem dX8_readCell_55 : decode cX8_readCell 55 = .ok (.istore_n 1, 1) := by decide +kernel
theorem dX8_readCell_56 : decode cX8_readCell 56 = .ok (.aload_n 0, 1) := by decide +kernel
theorem dX8_readCell_57 : decode cX8_readCell 57 = .ok (.getfield 195, 3) := by decide +kernel
theorem dX8_readCell_60 : decode cX8_readCell 60 = .ok (.bipush 12, 2) := by decide +kernel
theorem dX8_readCell_62 : decode cX8_readCell 62 = .ok (.if_icmp .ne 43, 3) := by decide +kernel
theorem dX8_readCell_65 : decode cX8_readCell 65 = .ok (.aload_n 0, 1) := by decide +kernel
theorem dX8_readCell_66 : decode cX8_readCell 66 = .ok (.invokevirtual 172, 3) := by decide +kernel
theorem dX8_readCell_69 : decode cX8_readCell 69 = .ok (.bipush 116, 2) := by decide +kernel
theorem dX8_readCell_71 : decode cX8_readCell 71 = .ok (.if_icmp .ne 8, 3) := by decide +kernel
theorem dX8_readCell_74 : decode cX8_readCell 74 = .ok (.bipush 10, 2) := by decide +kernel
theorem dX8_readCell_76 : decode cX8_readCell 76 = .ok (.goto 10, 3) := by decide +kernel
theorem dX8_readCell_79 : decode cX8_readCell 79 = .ok (.aload_n 0, 1) := by decide +kernel
theorem dX8_readCell_80 : decode cX8_readCell 80 = .ok (.invokevirtual 172, 3) := by decide +kernel
theorem dX8_readCell_83 : decode cX8_readCell 83 = .ok (.invokestatic 165, 3) := by decide +kernel
theorem dX8_readCell_86 : decode cX8_readCell 86 = .ok (.istore_n 1, 1) := by decide +kernel
theorem dX8_readCell_87 : decode cX8_readCell 87 = .ok (.iload_n 1, 1) := by decide +kernel
theorem dX8_readCell_88 : decode cX8_readCell 88 = .ok (.bipush (-9), 2) := by decide +kernel
theorem dX8_readCell_90 : decode cX8_readCell 90 = .ok (.if_icmp .ne 5, 3) := by decide +kernel
theorem dX8_readCell_93 : decode cX8_readCell 93 = .ok (.iconst 0, 1) := by decide +kernel
theorem dX8_readCell_94 : decode cX8_readCell 94 = .ok (.ireturn, 1) := by decide +kernel
theorem dX8_readCell_95 : decode cX8_readCell 95 = .ok (.aload_n 0, 1) := by decide +kernel
theorem dX8_readCell_96 : decode cX8_readCell 96 = .ok (.dup, 1) := by decide +kernel
theorem dX8_readCell_97 : decode cX8_readCell 97 = .ok (.getfield 169, 3) := by decide +kernel
theorem dX8_readCell_100 : decode cX8_readCell 100 = .ok (.iconst 1, 1) := by decide +kernel
theorem dX8_readCell_101 : decode cX8_readCell 101 = .ok (.iadd, 1) := by decide +kernel
theorem dX8_readCell_102 : decode cX8_readCell 102 = .ok (.putfield 169, 3) := by decide +kernel
theorem dX8_readCell_105 : decode cX8_readCell 105 = .ok (.aload_n 0, 1) := by decide +kernel
theorem dX8_readCell_106 : decode cX8_readCell 106 = .ok (.iload_n 1, 1) := by decide +kernel
theorem dX8_readCell_107 : decode cX8_readCell 107 = .ok (.invokevirtual 206, 3) := by decide +kernel
theorem dX8_readCell_110 : decode cX8_readCell 110 = .ok (.aload_n 0, 1) := by decide +kernel
theorem dX8_readCell_111 : decode cX8_readCell 111 = .ok (.getfield 186, 3) := by decide +kernel
theorem dX8_readCell_114 : decode cX8_readCell 114 = .ok (.ifCond .ne 5, 3) := by decide +kernel
theorem dX8_readCell_117 : decode cX8_readCell 117 = .ok (.iconst 0, 1) := by decide +kernel
theorem dX8_readCell_118 : decode cX8_readCell 118 = .ok (.ireturn, 1) := by decide +kernel
theorem dX8_readCell_119 : decode cX8_readCell 119 = .ok (.iload_n 1, 1) := by decide +kernel
theorem dX8_readCell_120 : decode cX8_readCell 120 = .ok (.bipush 10, 2) := by decide +kernel
theorem dX8_readCell_122 : decode cX8_readCell 122 = .ok (.if_icmp .ne 16, 3) := by decide +kernel
theorem dX8_readCell_125 : decode cX8_readCell 125 = .ok (.aload_n 0, 1) := by decide +kernel
theorem dX8_readCell_126 : decode cX8_readCell 126 = .ok (.iconst 4, 1) := by decide +kernel
theorem dX8_readCell_127 : decode cX8_readCell 127 = .ok (.iconst 0, 1) := by decide +kernel
theorem dX8_readCell_128 : decode cX8_readCell 128 = .ok (.aload_n 0, 1) := by decide +kernel
theorem dX8_readCell_129 : decode cX8_readCell 129 = .ok (.getfield 183, 3) := by decide +kernel
theorem dX8_readCell_132 : decode cX8_readCell 132 = .ok (.invokevirtual 202, 3) := by decide +kernel
theorem dX8_readCell_135 : decode cX8_readCell 135 = .ok (.goto 31, 3) := by decide +kernel
theorem dX8_readCell_138 : decode cX8_readCell 138 = .ok (.aload_n 0, 1) := by decide +kernel
theorem dX8_readCell_139 : decode cX8_readCell 139 = .ok (.aload_n 0, 1) := by decide +kernel
theorem dX8_readCell_140 : decode cX8_readCell 140 = .ok (.getfield 195, 3) := by decide +kernel
theorem dX8_readCell_143 : decode cX8_readCell 143 = .ok (.invokestatic 198, 3) := by decide +kernel
theorem dX8_readCell_146 : decode cX8_readCell 146 = .ok (.ifCond .eq 7, 3) := by decide +kernel
theorem dX8_readCell_149 : decode cX8_readCell 149 = .ok (.iconst 1, 1) := by decide +kernel
theorem dX8_readCell_150 : decode cX8_readCell 150 = .ok (.goto 4, 3) := by decide +kernel
theorem dX8_readCell_153 : decode cX8_readCell 153 = .ok (.iconst 2, 1) := by decide +kernel
theorem dX8_readCell_154 : decode cX8_readCell 154 = .ok (.iload_n 1, 1) := by decide +kernel
theorem dX8_readCell_155 : decode cX8_readCell 155 = .ok (.iload_n 1, 1) := by decide +kernel
theorem dX8_readCell_156 : decode cX8_readCell 156 = .ok (.aload_n 0, 1) := by decide +kernel
theorem dX8_readCell_157 : decode cX8_readCell 157 = .ok (.getfield 183, 3) := by decide +kernel
theorem dX8_readCell_160 : decode cX8_readCell 160 = .ok (.invokestatic 210, 3) := by decide +kernel
theorem dX8_readCell_163 : decode cX8_readCell 163 = .ok (.invokevirtual 202, 3) := by decide +kernel
theorem dX8_readCell_166 : decode cX8_readCell 166 = .ok (.iconst 1, 1) := by decide +kernel
theorem dX8_readCell_167 : decode cX8_readCell 167 = .ok (.ireturn, 1) := by decide +kernel
def fX8_readCell_b154 (v1 : Int32) (s0 : Int32) (μ : Mm) : Option (Int32 × Mm) := ((fX8_toldOf v1 (μ.2 0 45)).bind fun r160 => ((fX8_putTold s0 v1 r160 μ).bind fun μ163 => some ((1 : Int32), μ163)))
def fX8_readCell_b105 (v1 : Int32) (μ : Mm) : Option (Int32 × Mm) := ((fX8_readNumber v1 μ).bind fun μ107 => (if (μ107.1 0 46) = 0 then some ((0 : Int32), μ107) else (if v1 = (10 : Int32) then ((fX8_putTold (4 : Int32) (0 : Int32) (μ107.2 0 45) μ107).bind fun μ132 => some ((1 : Int32), μ132)) else ((fX8_isPlain (μ107.1 0 32)).bind fun r143 => (if r143 = 0 then fX8_readCell_b154 v1 (2 : Int32) μ107 else fX8_readCell_b154 v1 (1 : Int32) μ107)))))
def fX8_readCell_b86 (s0 : Int32) (μ : Mm) : Option (Int32 × Mm) := (if s0 = (-9 : Int32) then some ((0 : Int32), μ) else fX8_readCell_b105 s0 (wI μ 0 44 ((μ.1 0 44) + (1 : Int32))))
def fX8_readCell_b55 (s0 : Int32) (μ : Mm) : Option (Int32 × Mm) := (if (μ.1 0 32) = (12 : Int32) then ((fX8_letter μ).bind fun r66 => (if r66 = (116 : Int32) then fX8_readCell_b86 (10 : Int32) μ else ((fX8_letter μ).bind fun r80 => ((fX8_plainOf r80).bind fun r83 => fX8_readCell_b86 r83 μ)))) else fX8_readCell_b105 s0 μ)
def fX8_readCell_b38  (μ : Mm) : Option (Int32 × Mm) := (if (μ.1 0 32) = (11 : Int32) then fX8_readCell_b55 (4 : Int32) μ else fX8_readCell_b55 (μ.1 0 32) μ)
def fX8_readCell  (μ : Mm) : Option (Int32 × Mm) := ((fX8_isPlain (μ.1 0 32)).bind fun r4 => (if r4 = 0 then ((fX8_letter μ).bind fun r11 => (if r11 = (42 : Int32) then ((fX8_putTold (0 : Int32) (0 : Int32) (0 : Int64) (wI μ 0 44 ((μ.1 0 44) + (1 : Int32)))).bind fun μ33 => some ((1 : Int32), μ33)) else fX8_readCell_b38 μ)) else fX8_readCell_b38 μ))
set_option maxRecDepth 100000 in
set_option maxHeartbeats 4000000 in
theorem kX8_readCell (l : Launch) (ε : Ev)  (μ : Mm) (out : (Int32 × Mm)) (hf : fX8_readCell μ = some out) : Sp l ε layM yX8_readCell cX8_readCell 2 (some .boolean) 4 [.ref (ea ε 0)] (some (.int out.1)) μ out.2 := by
  refine Sp.of [(0, .ref (ea ε 0))] rfl (by decide +kernel) (Nat.le_of_ble_eq_true rfl) ?_
  intro κ hκ C E hQ
  subst hκ
  replace C : Cf κ cX8_readCell 2 RX8 (some .boolean) 4 := C
  have b154 : ∀ (v1 : Int32) (s0 : Int32) (μ : Mm) , fX8_readCell_b154 v1 s0 μ = some out → G κ (Vw κ ε layM μ) 2 154 [(0, .ref (ea ε 0)), (1, .int v1)] [.int s0, .ref (ea ε 0)] := by
    intro v1 s0 μ hf
    refine g_iload_n (pc := 154) (i := 1) (j := 1) C dX8_readCell_154 rfl rfl ?_
    refine g_iload_n (pc := 155) (i := 1) (j := 1) C dX8_readCell_155 rfl rfl ?_
    refine g_aload_n (pc := 156) (i := 0) (j := 0) C dX8_readCell_156 rfl rfl ?_
    refine g_getl (pc := 157) C E fdX8_183 layM_0_45 dX8_readCell_157 ?_
    refine g_cpl (pc := 160) (st := [.int v1, .int s0, .ref (ea ε 0)]) C lkX8_210 (As := [.int v1, .long (μ.2 0 45)]) rfl (fun out h => kX8_toldOf (kl κ) v1 (μ.2 0 45) out h) (by decide) rfl (Nat.le_of_ble_eq_true rfl) dX8_readCell_160 hf (fun r160 _ hf => ?_)
    refine g_cwv (pc := 163) (st := []) C E layM_0 lkX8_202 (As := [.int s0, .int v1, .long r160]) rfl (fun out h => kX8_putTold (kl κ) ε s0 v1 r160 μ out h) (by decide) rfl (Nat.le_of_ble_eq_true rfl) dX8_readCell_163 hf (fun μ163 _ hf => ?_)
    refine g_iconst (pc := 166) C dX8_readCell_166 ci_1 ?_
    exact g_zret1w (pc := 167) C rfl hQ dX8_readCell_167 hf
  have b105 : ∀ (v1 : Int32) (μ : Mm) , fX8_readCell_b105 v1 μ = some out → G κ (Vw κ ε layM μ) 2 105 [(0, .ref (ea ε 0)), (1, .int v1)] [] := by
    intro v1 μ hf
    refine g_aload_n (pc := 105) (i := 0) (j := 0) C dX8_readCell_105 rfl rfl ?_
    refine g_iload_n (pc := 106) (i := 1) (j := 1) C dX8_readCell_106 rfl rfl ?_
    refine g_cwv (pc := 107) (st := []) C E layM_0 lkX8_206 (As := [.int v1]) rfl (fun out h => kX8_readNumber (kl κ) ε v1 μ out h) (by decide) rfl (Nat.le_of_ble_eq_true rfl) dX8_readCell_107 hf (fun μ107 _ hf => ?_)
    refine g_aload_n (pc := 110) (i := 0) (j := 0) C dX8_readCell_110 rfl rfl ?_
    refine g_geti (pc := 111) C E fdX8_186 layM_0_46 dX8_readCell_111 ?_
    refine g_if_ne (pc := 114) (tgt := 119) C dX8_readCell_114 rfl hf (fun _ hf => ?_) (fun _ hf => ?_)
    · refine g_iload_n (pc := 119) (i := 1) (j := 1) C dX8_readCell_119 rfl rfl ?_
      refine g_bipush (pc := 120) C dX8_readCell_120 cb_10 ?_
      refine g_icmp_ne (pc := 122) (tgt := 138) C dX8_readCell_122 rfl hf (fun _ hf => ?_) (fun _ hf => ?_)
      · refine g_aload_n (pc := 138) (i := 0) (j := 0) C dX8_readCell_138 rfl rfl ?_
        refine g_aload_n (pc := 139) (i := 0) (j := 0) C dX8_readCell_139 rfl rfl ?_
        refine g_geti (pc := 140) C E fdX8_195 layM_0_32 dX8_readCell_140 ?_
        refine g_cpi (pc := 143) (st := [.ref (ea ε 0)]) C lkX8_198 (As := [.int (μ107.1 0 32)]) rfl (fun out h => kX8_isPlain (kl κ) (μ107.1 0 32) out h) (by decide) rfl (Nat.le_of_ble_eq_true rfl) dX8_readCell_143 hf (fun r143 _ hf => ?_)
        refine g_if_eq (pc := 146) (tgt := 153) C dX8_readCell_146 rfl hf (fun _ hf => ?_) (fun _ hf => ?_)
        · refine g_iconst (pc := 153) C dX8_readCell_153 ci_2 ?_
          exact b154 v1 (2 : Int32) μ107 hf
        · refine g_iconst (pc := 149) C dX8_readCell_149 ci_1 ?_
          refine g_goto (pc := 150) (tgt := 154) C dX8_readCell_150 rfl ?_
          exact b154 v1 (1 : Int32) μ107 hf
      · refine g_aload_n (pc := 125) (i := 0) (j := 0) C dX8_readCell_125 rfl rfl ?_
        refine g_iconst (pc := 126) C dX8_readCell_126 ci_4 ?_
        refine g_iconst (pc := 127) C dX8_readCell_127 ci_0 ?_
        refine g_aload_n (pc := 128) (i := 0) (j := 0) C dX8_readCell_128 rfl rfl ?_
        refine g_getl (pc := 129) C E fdX8_183 layM_0_45 dX8_readCell_129 ?_
        refine g_cwv (pc := 132) (st := []) C E layM_0 lkX8_202 (As := [.int (4 : Int32), .int (0 : Int32), .long (μ107.2 0 45)]) rfl (fun out h => kX8_putTold (kl κ) ε (4 : Int32) (0 : Int32) (μ107.2 0 45) μ107 out h) (by decide) rfl (Nat.le_of_ble_eq_true rfl) dX8_readCell_132 hf (fun μ132 _ hf => ?_)
        refine g_goto (pc := 135) (tgt := 166) C dX8_readCell_135 rfl ?_
        refine g_iconst (pc := 166) C dX8_readCell_166 ci_1 ?_
        exact g_zret1w (pc := 167) C rfl hQ dX8_readCell_167 hf
    · refine g_iconst (pc := 117) C dX8_readCell_117 ci_0 ?_
      exact g_zret1w (pc := 118) C rfl hQ dX8_readCell_118 hf
  have b86 : ∀ (s0 : Int32) (μ : Mm) , fX8_readCell_b86 s0 μ = some out → G κ (Vw κ ε layM μ) 2 86 [(0, .ref (ea ε 0))] [.int s0] := by
    intro s0 μ hf
    refine g_istore_n (pc := 86) (i := 1) (L' := [(1, .int s0), (0, .ref (ea ε 0))]) C dX8_readCell_86 rfl (by decide) rfl ?_
    refine g_iload_n (pc := 87) (i := 1) (j := 0) C dX8_readCell_87 rfl rfl ?_
    refine g_bipush (pc := 88) C dX8_readCell_88 cb_m9 ?_
    refine g_icmp_ne (pc := 90) (tgt := 95) C dX8_readCell_90 rfl hf (fun _ hf => ?_) (fun _ hf => ?_)
    · refine g_aload_n (pc := 95) (i := 0) (j := 1) C dX8_readCell_95 rfl rfl ?_
      refine g_dup (pc := 96) C dX8_readCell_96 rfl ?_
      refine g_geti (pc := 97) C E fdX8_169 layM_0_44 dX8_readCell_97 ?_
      refine g_iconst (pc := 100) C dX8_readCell_100 ci_1 ?_
      refine g_iadd (pc := 101) C dX8_readCell_101 ?_
      refine g_puti (pc := 102) C E fdX8_169 layM_0_44 dX8_readCell_102 ?_
      exact g_at [1, 0] rfl (b105 s0 (wI μ 0 44 ((μ.1 0 44) + (1 : Int32))) hf)
    · refine g_iconst (pc := 93) C dX8_readCell_93 ci_0 ?_
      exact g_zret1w (pc := 94) C rfl hQ dX8_readCell_94 hf
  have b55 : ∀ (s0 : Int32) (μ : Mm) , fX8_readCell_b55 s0 μ = some out → G κ (Vw κ ε layM μ) 2 55 [(0, .ref (ea ε 0))] [.int s0] := by
    intro s0 μ hf
    refine g_istore_n (pc := 55) (i := 1) (L' := [(1, .int s0), (0, .ref (ea ε 0))]) C dX8_readCell_55 rfl (by decide) rfl ?_
    refine g_aload_n (pc := 56) (i := 0) (j := 1) C dX8_readCell_56 rfl rfl ?_
    refine g_geti (pc := 57) C E fdX8_195 layM_0_32 dX8_readCell_57 ?_
    refine g_bipush (pc := 60) C dX8_readCell_60 cb_12 ?_
    refine g_icmp_ne (pc := 62) (tgt := 105) C dX8_readCell_62 rfl hf (fun _ hf => ?_) (fun _ hf => ?_)
    · exact g_at [1, 0] rfl (b105 s0 μ hf)
    · refine g_aload_n (pc := 65) (i := 0) (j := 1) C dX8_readCell_65 rfl rfl ?_
      refine g_cri (pc := 66) (st := []) C E layM_0 lkX8_172 (As := []) rfl (fun out h => kX8_letter (kl κ) ε μ out h) (by decide) rfl (Nat.le_of_ble_eq_true rfl) dX8_readCell_66 hf (fun r66 _ hf => ?_)
      refine g_bipush (pc := 69) C dX8_readCell_69 cb_116 ?_
      refine g_icmp_ne (pc := 71) (tgt := 79) C dX8_readCell_71 rfl hf (fun _ hf => ?_) (fun _ hf => ?_)
      · refine g_aload_n (pc := 79) (i := 0) (j := 1) C dX8_readCell_79 rfl rfl ?_
        refine g_cri (pc := 80) (st := []) C E layM_0 lkX8_172 (As := []) rfl (fun out h => kX8_letter (kl κ) ε μ out h) (by decide) rfl (Nat.le_of_ble_eq_true rfl) dX8_readCell_80 hf (fun r80 _ hf => ?_)
        refine g_cpi (pc := 83) (st := []) C lkX8_165 (As := [.int r80]) rfl (fun out h => kX8_plainOf (kl κ) r80 out h) (by decide) rfl (Nat.le_of_ble_eq_true rfl) dX8_readCell_83 hf (fun r83 _ hf => ?_)
        exact g_at [1] rfl (b86 r83 μ hf)
      · refine g_bipush (pc := 74) C dX8_readCell_74 cb_10 ?_
        refine g_goto (pc := 76) (tgt := 86) C dX8_readCell_76 rfl ?_
        exact g_at [1] rfl (b86 (10 : Int32) μ hf)
  have b38 : ∀ (μ : Mm) , fX8_readCell_b38 μ = some out → G κ (Vw κ ε layM μ) 2 38 [(0, .ref (ea ε 0))] [] := by
    intro μ hf
    refine g_aload_n (pc := 38) (i := 0) (j := 0) C dX8_readCell_38 rfl rfl ?_
    refine g_geti (pc := 39) C E fdX8_195 layM_0_32 dX8_readCell_39 ?_
    refine g_bipush (pc := 42) C dX8_readCell_42 cb_11 ?_
    refine g_icmp_ne (pc := 44) (tgt := 51) C dX8_readCell_44 rfl hf (fun _ hf => ?_) (fun _ hf => ?_)
    · refine g_aload_n (pc := 51) (i := 0) (j := 0) C dX8_readCell_51 rfl rfl ?_
      refine g_geti (pc := 52) C E fdX8_195 layM_0_32 dX8_readCell_52 ?_
      exact b55 (μ.1 0 32) μ hf
    · refine g_iconst (pc := 47) C dX8_readCell_47 ci_4 ?_
      refine g_goto (pc := 48) (tgt := 55) C dX8_readCell_48 rfl ?_
      exact b55 (4 : Int32) μ hf
  refine g_aload_n (pc := 0) (i := 0) (j := 0) C dX8_readCell_0 rfl rfl ?_
  refine g_geti (pc := 1) C E fdX8_195 layM_0_32 dX8_readCell_1 ?_
  refine g_cpi (pc := 4) (st := []) C lkX8_198 (As := [.int (μ.1 0 32)]) rfl (fun out h => kX8_isPlain (kl κ) (μ.1 0 32) out h) (by decide) rfl (Nat.le_of_ble_eq_true rfl) dX8_readCell_4 hf (fun r4 _ hf => ?_)
  refine g_if_ne (pc := 7) (tgt := 38) C dX8_readCell_7 rfl hf (fun _ hf => ?_) (fun _ hf => ?_)
  · exact b38 μ hf
  · refine g_aload_n (pc := 10) (i := 0) (j := 0) C dX8_readCell_10 rfl rfl ?_
    refine g_cri (pc := 11) (st := []) C E layM_0 lkX8_172 (As := []) rfl (fun out h => kX8_letter (kl κ) ε μ out h) (by decide) rfl (Nat.le_of_ble_eq_true rfl) dX8_readCell_11 hf (fun r11 _ hf => ?_)
    refine g_bipush (pc := 14) C dX8_readCell_14 cb_42 ?_
    refine g_icmp_ne (pc := 16) (tgt := 38) C dX8_readCell_16 rfl hf (fun _ hf => ?_) (fun _ hf => ?_)
    · exact b38 μ hf
    · refine g_aload_n (pc := 19) (i := 0) (j := 0) C dX8_readCell_19 rfl rfl ?_
      refine g_dup (pc := 20) C dX8_readCell_20 rfl ?_
      refine g_geti (pc := 21) C E fdX8_169 layM_0_44 dX8_readCell_21 ?_
      refine g_iconst (pc := 24) C dX8_readCell_24 ci_1 ?_
      refine g_iadd (pc := 25) C dX8_readCell_25 ?_
      refine g_puti (pc := 26) C E fdX8_169 layM_0_44 dX8_readCell_26 ?_
      refine g_aload_n (pc := 29) (i := 0) (j := 0) C dX8_readCell_29 rfl rfl ?_
      refine g_iconst (pc := 30) C dX8_readCell_30 ci_0 ?_
      refine g_iconst (pc := 31) C dX8_readCell_31 ci_0 ?_
      refine g_lconst (pc := 32) C dX8_readCell_32 cl_0 ?_
      refine g_cwv (pc := 33) (st := []) C E layM_0 lkX8_202 (As := [.int (0 : Int32), .int (0 : Int32), .long (0 : Int64)]) rfl (fun out h => kX8_putTold (kl κ) ε (0 : Int32) (0 : Int32) (0 : Int64) (wI μ 0 44 ((μ.1 0 44) + (1 : Int32))) out h) (by decide) rfl (Nat.le_of_ble_eq_true rfl) dX8_readCell_33 hf (fun μ33 _ hf => ?_)
      refine g_iconst (pc := 36) C dX8_readCell_36 ci_1 ?_
      exact g_zret1w (pc := 37) C rfl hQ dX8_readCell_37 hf
theorem dX8_readText_0 : decode cX8_readText 0 = .ok (.aload_n 0, 1) := by decide +kernel
theorem dX8_readText_1 : decode cX8_readText 1 = .ok (.iconst 0, 1) := by decide +kernel
theorem dX8_readText_2 : decode cX8_readText 2 = .ok (.putfield 169, 3) := by decide +kernel
theorem dX8_readText_5 : decode cX8_readText 5 = .ok (.aload_n 0, 1) := by decide +kernel
theorem dX8_readText_6 : decode cX8_readText 6 = .ok (.iconst 0, 1) := by decide +kernel
theorem dX8_readText_7 : decode cX8_readText 7 = .ok (.putfield 192, 3) := by decide +kernel
theorem dX8_readText_10 : decode cX8_readText 10 = .ok (.aload_n 0, 1) := by decide +kernel
theorem dX8_readText_11 : decode cX8_readText 11 = .ok (.aload_n 0, 1) := by decide +kernel
theorem dX8_readText_12 : decode cX8_readText 12 = .ok (.invokevirtual 172, 3) := by decide +kernel
theorem dX8_readText_15 : decode cX8_readText 15 = .ok (.invokestatic 214, 3) := by decide +kernel
theorem dX8_readText_18 : decode cX8_readText 18 = .ok (.putfield 195, 3) := by decide +kernel
theorem dX8_readText_21 : decode cX8_readText 21 = .ok (.aload_n 0, 1) := by decide +kernel
theorem dX8_readText_22 : decode cX8_readText 22 = .ok (.getfield 195, 3) := by decide +kernel
theorem dX8_readText_25 : decode cX8_readText 25 = .ok (.bipush (-9), 2) := by decide +kernel
theorem dX8_readText_27 : decode cX8_readText 27 = .ok (.if_icmp .ne 5, 3) := by decide +kernel
theorem dX8_readText_30 : decode cX8_readText 30 = .ok (.iconst 0, 1) := by decide +kernel
theorem dX8_readText_31 : decode cX8_readText 31 = .ok (.ireturn, 1) := by decide +kernel
theorem dX8_readText_32 : decode cX8_readText 32 = .ok (.aload_n 0, 1) := by decide +kernel
theorem dX8_readText_33 : decode cX8_readText 33 = .ok (.iconst 1, 1) := by decide +kernel
theorem dX8_readText_34 : decode cX8_readText 34 = .ok (.putfield 169, 3) := by decide +kernel
theorem dX8_readText_37 : decode cX8_readText 37 = .ok (.aload_n 0, 1) := by decide +kernel
theorem dX8_readText_38 : decode cX8_readText 38 = .ok (.getfield 162, 3) := by decide +kernel
theorem dX8_readText_41 : decode cX8_readText 41 = .ok (.iconst 1, 1) := by decide +kernel
theorem dX8_readText_42 : decode cX8_readText 42 = .ok (.if_icmp .ne 6, 3) := by decide +kernel
theorem dX8_readText_45 : decode cX8_readText 45 = .ok (.bipush (-9), 2) := by decide +kernel
theorem dX8_readText_47 : decode cX8_readText 47 = .ok (.ireturn, 1) := by decide +kernel
theorem dX8_readText_48 : decode cX8_readText 48 = .ok (.iconst 1, 1) := by decide +kernel
theorem dX8_readText_49 : decode cX8_readText 49 = .ok (.istore_n 1, 1) := by decide +kernel
theorem dX8_readText_50 : decode cX8_readText 50 = .ok (.iload_n 1, 1) := by decide +kernel
theorem dX8_readText_51 : decode cX8_readText 51 = .ok (.ifCond .eq 92, 3) := by decide +kernel
theorem dX8_readText_54 : decode cX8_readText 54 = .ok (.aload_n 0, 1) := by decide +kernel
theorem dX8_readText_55 : decode cX8_readText 55 = .ok (.getfield 192, 3) := by decide +kernel
theorem dX8_readText_58 : decode cX8_readText 58 = .ok (.bipush 6, 2) := by decide +kernel
theorem dX8_readText_60 : decode cX8_readText 60 = .ok (.if_icmp .eq 10, 3) := by decide +kernel
theorem dX8_readText_63 : decode cX8_readText 63 = .ok (.aload_n 0, 1) := by decide +kernel
theorem dX8_readText_64 : decode cX8_readText 64 = .ok (.invokevirtual 217, 3) := by decide +kernel
theorem dX8_readText_67 : decode cX8_readText 67 = .ok (.ifCond .ne 26, 3) := by decide +kernel
theorem dX8_readText_70 : decode cX8_readText 70 = .ok (.aload_n 0, 1) := by decide +kernel
theorem dX8_readText_71 : decode cX8_readText 71 = .ok (.getfield 192, 3) := by decide +kernel
theorem dX8_readText_74 : decode cX8_readText 74 = .ok (.bipush 6, 2) := by decide +kernel
theorem dX8_readText_76 : decode cX8_readText 76 = .ok (.if_icmp .ne 12, 3) := by decide +kernel
theorem dX8_readText_79 : decode cX8_readText 79 = .ok (.aload_n 0, 1) := by decide +kernel
theorem dX8_readText_80 : decode cX8_readText 80 = .ok (.getfield 169, 3) := by decide +kernel
theorem dX8_readText_83 : decode cX8_readText 83 = .ok (.iconst 1, 1) := by decide +kernel
theorem dX8_readText_84 : decode cX8_readText 84 = .ok (.isub, 1) := by decide +kernel
theorem dX8_readText_85 : decode cX8_readText 85 = .ok (.goto 7, 3) := by decide +kernel
theorem dX8_readText_88 : decode cX8_readText 88 = .ok (.aload_n 0, 1) := by decide +kernel
theorem dX8_readText_89 : decode cX8_readText 89 = .ok (.getfield 169, 3) := by decide +kernel
theorem dX8_readText_92 : decode cX8_readText 92 = .ok (.ireturn, 1) := by decide +kernel
theorem dX8_readText_93 : decode cX8_readText 93 = .ok (.aload_n 0, 1) := by decide +kernel
theorem dX8_readText_94 : decode cX8_readText 94 = .ok (.getfield 169, 3) := by decide +kernel
theorem dX8_readText_97 : decode cX8_readText 97 = .ok (.aload_n 0, 1) := by decide +kernel
theorem dX8_readText_98 : decode cX8_readText 98 = .ok (.getfield 162, 3) := by decide +kernel
theorem dX8_readText_101 : decode cX8_readText 101 = .ok (.if_icmp .ne 6, 3) := by decide +kernel
theorem dX8_readText_104 : decode cX8_readText 104 = .ok (.bipush (-9), 2) := by decide +kernel
theorem dX8_readText_106 : decode cX8_readText 106 = .ok (.ireturn, 1) := by decide +kernel
theorem dX8_readText_107 : decode cX8_readText 107 = .ok (.aload_n 0, 1) := by decide +kernel
theorem dX8_readText_108 : decode cX8_readText 108 = .ok (.invokevirtual 172, 3) := by decide +kernel
theorem dX8_readText_111 : decode cX8_readText 111 = .ok (.bipush 44, 2) := by decide +kernel
theorem dX8_readText_113 : decode cX8_readText 113 = .ok (.if_icmp .ne 7, 3) := by decide +kernel
theorem dX8_readText_116 : decode cX8_readText 116 = .ok (.iconst 1, 1) := by decide +kernel
theorem dX8_readText_117 : decode cX8_readText 117 = .ok (.goto 4, 3) := by decide +kernel
theorem dX8_readText_120 : decode cX8_readText 120 = .ok (.iconst 0, 1) := by decide +kernel
theorem dX8_readText_121 : decode cX8_readText 121 = .ok (.istore_n 1, 1) := by decide +kernel
theorem dX8_readText_122 : decode cX8_readText 122 = .ok (.aload_n 0, 1) := by decide +kernel
theorem dX8_readText_123 : decode cX8_readText 123 = .ok (.dup, 1) := by decide +kernel
theorem dX8_readText_124 : decode cX8_readText 124 = .ok (.getfield 169, 3) := by decide +kernel
theorem dX8_readText_127 : decode cX8_readText 127 = .ok (.iload_n 1, 1) := by decide +kernel
theorem dX8_readText_128 : decode cX8_readText 128 = .ok (.ifCond .eq 7, 3) := by decide +kernel
theorem dX8_readText_131 : decode cX8_readText 131 = .ok (.iconst 1, 1) := by decide +kernel
theorem dX8_readText_132 : decode cX8_readText 132 = .ok (.goto 4, 3) := by decide +kernel
theorem dX8_readText_135 : decode cX8_readText 135 = .ok (.iconst 0, 1) := by decide +kernel
theorem dX8_readText_136 : decode cX8_readText 136 = .ok (.iadd, 1) := by decide +kernel
theorem dX8_readText_137 : decode cX8_readText 137 = .ok (.putfield 169, 3) := by decide +kernel
theorem dX8_readText_140 : decode cX8_readText 140 = .ok (.goto (-90), 3) := by decide +kernel
theorem dX8_readText_143 : decode cX8_readText 143 = .ok (.aload_n 0, 1) := by decide +kernel
theorem dX8_readText_144 : decode cX8_readText 144 = .ok (.getfield 169, 3) := by decide +kernel
theorem dX8_readText_147 : decode cX8_readText 147 = .ok (.ireturn, 1) := by decide +kernel
def fX8_readText_b70  (μ : Mm) : Option (Int32 × Mm) := (if (μ.1 0 33) = (6 : Int32) then some (((μ.1 0 44) - (1 : Int32)), μ) else some ((μ.1 0 44), μ))
def fX8_readText_b136 (k50 : Int32 → Mm → Option (Int32 × Mm)) (v1 : Int32) (s0 : Int32) (s1 : Int32) (μ : Mm) : Option (Int32 × Mm) := k50 v1 (wI μ 0 44 (s1 + s0))
def fX8_readText_b121 (k50 : Int32 → Mm → Option (Int32 × Mm)) (s0 : Int32) (μ : Mm) : Option (Int32 × Mm) := (if s0 = 0 then fX8_readText_b136 k50 s0 (0 : Int32) (μ.1 0 44) μ else fX8_readText_b136 k50 s0 (1 : Int32) (μ.1 0 44) μ)
def fX8_readText_b50 : Nat → Int32 → Mm → Option (Int32 × Mm)
  | 0, _, _ => none
  | n + 1, v1, μ => (if v1 = 0 then some ((μ.1 0 44), μ) else (if (μ.1 0 33) = (6 : Int32) then fX8_readText_b70 μ else (bnd (fX8_readCell μ) fun r64 μ64 => (if r64 = 0 then fX8_readText_b70 μ64 else (if (μ64.1 0 44) = (μ64.1 0 1) then some ((-9 : Int32), μ64) else ((fX8_letter μ64).bind fun r108 => (if r108 = (44 : Int32) then fX8_readText_b121 (fX8_readText_b50 n) (1 : Int32) μ64 else fX8_readText_b121 (fX8_readText_b50 n) (0 : Int32) μ64)))))))
def fX8_readText  (μ : Mm) : Option (Int32 × Mm) := ((fX8_letter (wI (wI μ 0 44 (0 : Int32)) 0 33 (0 : Int32))).bind fun r12 => ((fX8_rowKindOf r12).bind fun r15 => (if ((wI (wI (wI μ 0 44 (0 : Int32)) 0 33 (0 : Int32)) 0 32 r15).1 0 32) = (-9 : Int32) then some ((0 : Int32), (wI (wI (wI μ 0 44 (0 : Int32)) 0 33 (0 : Int32)) 0 32 r15)) else (if ((wI (wI (wI (wI μ 0 44 (0 : Int32)) 0 33 (0 : Int32)) 0 32 r15) 0 44 (1 : Int32)).1 0 1) = (1 : Int32) then some ((-9 : Int32), (wI (wI (wI (wI μ 0 44 (0 : Int32)) 0 33 (0 : Int32)) 0 32 r15) 0 44 (1 : Int32))) else fX8_readText_b50 100 (1 : Int32) (wI (wI (wI (wI μ 0 44 (0 : Int32)) 0 33 (0 : Int32)) 0 32 r15) 0 44 (1 : Int32))))))
set_option maxRecDepth 100000 in
set_option maxHeartbeats 4000000 in
theorem kX8_readText (l : Launch) (ε : Ev)  (μ : Mm) (out : (Int32 × Mm)) (hf : fX8_readText μ = some out) : Sp l ε layM yX8_readText cX8_readText 2 (some .int) 5 [.ref (ea ε 0)] (some (.int out.1)) μ out.2 := by
  refine Sp.of [(0, .ref (ea ε 0))] rfl (by decide +kernel) (Nat.le_of_ble_eq_true rfl) ?_
  intro κ hκ C E hQ
  subst hκ
  replace C : Cf κ cX8_readText 2 RX8 (some .int) 5 := C
  have b70 : ∀ (μ : Mm) , fX8_readText_b70 μ = some out → G κ (Vw κ ε layM μ) 2 70 [(0, .ref (ea ε 0))] [] := by
    intro μ hf
    refine g_aload_n (pc := 70) (i := 0) (j := 0) C dX8_readText_70 rfl rfl ?_
    refine g_geti (pc := 71) C E fdX8_192 layM_0_33 dX8_readText_71 ?_
    refine g_bipush (pc := 74) C dX8_readText_74 cb_6 ?_
    refine g_icmp_ne (pc := 76) (tgt := 88) C dX8_readText_76 rfl hf (fun _ hf => ?_) (fun _ hf => ?_)
    · refine g_aload_n (pc := 88) (i := 0) (j := 0) C dX8_readText_88 rfl rfl ?_
      refine g_geti (pc := 89) C E fdX8_169 layM_0_44 dX8_readText_89 ?_
      exact g_iretw (pc := 92) C hQ dX8_readText_92 hf
    · refine g_aload_n (pc := 79) (i := 0) (j := 0) C dX8_readText_79 rfl rfl ?_
      refine g_geti (pc := 80) C E fdX8_169 layM_0_44 dX8_readText_80 ?_
      refine g_iconst (pc := 83) C dX8_readText_83 ci_1 ?_
      refine g_isub (pc := 84) C dX8_readText_84 ?_
      refine g_goto (pc := 85) (tgt := 92) C dX8_readText_85 rfl ?_
      exact g_iretw (pc := 92) C hQ dX8_readText_92 hf
  have b136 : ∀ (k50 : Int32 → Mm → Option (Int32 × Mm)) (hk50 : ∀ (v1 : Int32) (μ : Mm) , k50 v1 μ = some out → G κ (Vw κ ε layM μ) 2 50 [(0, .ref (ea ε 0)), (1, .int v1)] []) (v1 : Int32) (s0 : Int32) (s1 : Int32) (μ : Mm) , fX8_readText_b136 k50 v1 s0 s1 μ = some out → G κ (Vw κ ε layM μ) 2 136 [(0, .ref (ea ε 0)), (1, .int v1)] [.int s0, .int s1, .ref (ea ε 0)] := by
    intro k50 hk50 v1 s0 s1 μ hf
    refine g_iadd (pc := 136) C dX8_readText_136 ?_
    refine g_puti (pc := 137) C E fdX8_169 layM_0_44 dX8_readText_137 ?_
    refine g_goto (pc := 140) (tgt := 50) C dX8_readText_140 rfl ?_
    exact hk50 v1 (wI μ 0 44 (s1 + s0)) hf
  have b121 : ∀ (k50 : Int32 → Mm → Option (Int32 × Mm)) (hk50 : ∀ (v1 : Int32) (μ : Mm) , k50 v1 μ = some out → G κ (Vw κ ε layM μ) 2 50 [(0, .ref (ea ε 0)), (1, .int v1)] []) (s0 : Int32) (μ : Mm) , fX8_readText_b121 k50 s0 μ = some out → G κ (Vw κ ε layM μ) 2 121 [(0, .ref (ea ε 0))] [.int s0] := by
    intro k50 hk50 s0 μ hf
    refine g_istore_n (pc := 121) (i := 1) (L' := [(1, .int s0), (0, .ref (ea ε 0))]) C dX8_readText_121 rfl (by decide) rfl ?_
    refine g_aload_n (pc := 122) (i := 0) (j := 1) C dX8_readText_122 rfl rfl ?_
    refine g_dup (pc := 123) C dX8_readText_123 rfl ?_
    refine g_geti (pc := 124) C E fdX8_169 layM_0_44 dX8_readText_124 ?_
    refine g_iload_n (pc := 127) (i := 1) (j := 0) C dX8_readText_127 rfl rfl ?_
    refine g_if_eq (pc := 128) (tgt := 135) C dX8_readText_128 rfl hf (fun _ hf => ?_) (fun _ hf => ?_)
    · refine g_iconst (pc := 135) C dX8_readText_135 ci_0 ?_
      exact g_at [1, 0] rfl (b136 k50 hk50 s0 (0 : Int32) (μ.1 0 44) μ hf)
    · refine g_iconst (pc := 131) C dX8_readText_131 ci_1 ?_
      refine g_goto (pc := 132) (tgt := 136) C dX8_readText_132 rfl ?_
      exact g_at [1, 0] rfl (b136 k50 hk50 s0 (1 : Int32) (μ.1 0 44) μ hf)
  have b50 : ∀ (n : Nat) (v1 : Int32) (μ : Mm) , fX8_readText_b50 n v1 μ = some out → G κ (Vw κ ε layM μ) 2 50 [(0, .ref (ea ε 0)), (1, .int v1)] [] := by
    intro n
    induction n with
    | zero => intro v1 μ hf; exact none_ne hf
    | succ n ih =>
      intro v1 μ hf
      refine g_iload_n (pc := 50) (i := 1) (j := 1) C dX8_readText_50 rfl rfl ?_
      refine g_if_eq (pc := 51) (tgt := 143) C dX8_readText_51 rfl hf (fun _ hf => ?_) (fun _ hf => ?_)
      · refine g_aload_n (pc := 143) (i := 0) (j := 0) C dX8_readText_143 rfl rfl ?_
        refine g_geti (pc := 144) C E fdX8_169 layM_0_44 dX8_readText_144 ?_
        exact g_iretw (pc := 147) C hQ dX8_readText_147 hf
      · refine g_aload_n (pc := 54) (i := 0) (j := 0) C dX8_readText_54 rfl rfl ?_
        refine g_geti (pc := 55) C E fdX8_192 layM_0_33 dX8_readText_55 ?_
        refine g_bipush (pc := 58) C dX8_readText_58 cb_6 ?_
        refine g_icmp_eq (pc := 60) (tgt := 70) C dX8_readText_60 rfl hf (fun _ hf => ?_) (fun _ hf => ?_)
        · exact g_at [0] rfl (b70 μ hf)
        · refine g_aload_n (pc := 63) (i := 0) (j := 0) C dX8_readText_63 rfl rfl ?_
          refine g_cwi (pc := 64) (st := []) C E layM_0 lkX8_217 (As := []) rfl (fun out h => kX8_readCell (kl κ) ε μ out h) (by decide) rfl (Nat.le_of_ble_eq_true rfl) dX8_readText_64 hf (fun r64 μ64 _ hf => ?_)
          refine g_if_ne (pc := 67) (tgt := 93) C dX8_readText_67 rfl hf (fun _ hf => ?_) (fun _ hf => ?_)
          · refine g_aload_n (pc := 93) (i := 0) (j := 0) C dX8_readText_93 rfl rfl ?_
            refine g_geti (pc := 94) C E fdX8_169 layM_0_44 dX8_readText_94 ?_
            refine g_aload_n (pc := 97) (i := 0) (j := 0) C dX8_readText_97 rfl rfl ?_
            refine g_geti (pc := 98) C E fdX8_162 layM_0_1 dX8_readText_98 ?_
            refine g_icmp_ne (pc := 101) (tgt := 107) C dX8_readText_101 rfl hf (fun _ hf => ?_) (fun _ hf => ?_)
            · refine g_aload_n (pc := 107) (i := 0) (j := 0) C dX8_readText_107 rfl rfl ?_
              refine g_cri (pc := 108) (st := []) C E layM_0 lkX8_172 (As := []) rfl (fun out h => kX8_letter (kl κ) ε μ64 out h) (by decide) rfl (Nat.le_of_ble_eq_true rfl) dX8_readText_108 hf (fun r108 _ hf => ?_)
              refine g_bipush (pc := 111) C dX8_readText_111 cb_44 ?_
              refine g_icmp_ne (pc := 113) (tgt := 120) C dX8_readText_113 rfl hf (fun _ hf => ?_) (fun _ hf => ?_)
              · refine g_iconst (pc := 120) C dX8_readText_120 ci_0 ?_
                exact g_at [0] rfl (b121 (fX8_readText_b50 n) ih (0 : Int32) μ64 hf)
              · refine g_iconst (pc := 116) C dX8_readText_116 ci_1 ?_
                refine g_goto (pc := 117) (tgt := 121) C dX8_readText_117 rfl ?_
                exact g_at [0] rfl (b121 (fX8_readText_b50 n) ih (1 : Int32) μ64 hf)
            · refine g_bipush (pc := 104) C dX8_readText_104 cb_m9 ?_
              exact g_iretw (pc := 106) C hQ dX8_readText_106 hf
          · exact g_at [0] rfl (b70 μ64 hf)
  refine g_aload_n (pc := 0) (i := 0) (j := 0) C dX8_readText_0 rfl rfl ?_
  refine g_iconst (pc := 1) C dX8_readText_1 ci_0 ?_
  refine g_puti (pc := 2) C E fdX8_169 layM_0_44 dX8_readText_2 ?_
  refine g_aload_n (pc := 5) (i := 0) (j := 0) C dX8_readText_5 rfl rfl ?_
  refine g_iconst (pc := 6) C dX8_readText_6 ci_0 ?_
  refine g_puti (pc := 7) C E fdX8_192 layM_0_33 dX8_readText_7 ?_
  refine g_aload_n (pc := 10) (i := 0) (j := 0) C dX8_readText_10 rfl rfl ?_
  refine g_aload_n (pc := 11) (i := 0) (j := 0) C dX8_readText_11 rfl rfl ?_
  refine g_cri (pc := 12) (st := [.ref (ea ε 0)]) C E layM_0 lkX8_172 (As := []) rfl (fun out h => kX8_letter (kl κ) ε (wI (wI μ 0 44 (0 : Int32)) 0 33 (0 : Int32)) out h) (by decide) rfl (Nat.le_of_ble_eq_true rfl) dX8_readText_12 hf (fun r12 _ hf => ?_)
  refine g_cpi (pc := 15) (st := [.ref (ea ε 0)]) C lkX8_214 (As := [.int r12]) rfl (fun out h => kX8_rowKindOf (kl κ) r12 out h) (by decide) rfl (Nat.le_of_ble_eq_true rfl) dX8_readText_15 hf (fun r15 _ hf => ?_)
  refine g_puti (pc := 18) C E fdX8_195 layM_0_32 dX8_readText_18 ?_
  refine g_aload_n (pc := 21) (i := 0) (j := 0) C dX8_readText_21 rfl rfl ?_
  refine g_geti (pc := 22) C E fdX8_195 layM_0_32 dX8_readText_22 ?_
  refine g_bipush (pc := 25) C dX8_readText_25 cb_m9 ?_
  refine g_icmp_ne (pc := 27) (tgt := 32) C dX8_readText_27 rfl hf (fun _ hf => ?_) (fun _ hf => ?_)
  · refine g_aload_n (pc := 32) (i := 0) (j := 0) C dX8_readText_32 rfl rfl ?_
    refine g_iconst (pc := 33) C dX8_readText_33 ci_1 ?_
    refine g_puti (pc := 34) C E fdX8_169 layM_0_44 dX8_readText_34 ?_
    refine g_aload_n (pc := 37) (i := 0) (j := 0) C dX8_readText_37 rfl rfl ?_
    refine g_geti (pc := 38) C E fdX8_162 layM_0_1 dX8_readText_38 ?_
    refine g_iconst (pc := 41) C dX8_readText_41 ci_1 ?_
    refine g_icmp_ne (pc := 42) (tgt := 48) C dX8_readText_42 rfl hf (fun _ hf => ?_) (fun _ hf => ?_)
    · refine g_iconst (pc := 48) C dX8_readText_48 ci_1 ?_
      refine g_istore_n (pc := 49) (i := 1) (L' := [(1, .int (1 : Int32)), (0, .ref (ea ε 0))]) C dX8_readText_49 rfl (by decide) rfl ?_
      exact g_at [1, 0] rfl (b50 100 (1 : Int32) (wI (wI (wI (wI μ 0 44 (0 : Int32)) 0 33 (0 : Int32)) 0 32 r15) 0 44 (1 : Int32)) hf)
    · refine g_bipush (pc := 45) C dX8_readText_45 cb_m9 ?_
      exact g_iretw (pc := 47) C hQ dX8_readText_47 hf
  · refine g_iconst (pc := 30) C dX8_readText_30 ci_0 ?_
    exact g_iretw (pc := 31) C hQ dX8_readText_31 hf
theorem dX8_fault_0 : decode cX8_fault 0 = .ok (.aload_n 0, 1) := by decide +kernel
theorem dX8_fault_1 : decode cX8_fault 1 = .ok (.invokevirtual 221, 3) := by decide +kernel
theorem dX8_fault_4 : decode cX8_fault 4 = .ok (.ireturn, 1) := by decide +kernel
def fX8_fault  (μ : Mm) : Option (Int32 × Mm) := (bnd (fX8_readText μ) fun r1 μ1 => some (r1, μ1))
set_option maxRecDepth 100000 in
set_option maxHeartbeats 4000000 in
theorem kX8_fault (l : Launch) (ε : Ev)  (μ : Mm) (out : (Int32 × Mm)) (hf : fX8_fault μ = some out) : Sp l ε layM yX8_fault cX8_fault 1 (some .int) 6 [.ref (ea ε 0)] (some (.int out.1)) μ out.2 := by
  refine Sp.of [(0, .ref (ea ε 0))] rfl (by decide +kernel) (Nat.le_of_ble_eq_true rfl) ?_
  intro κ hκ C E hQ
  subst hκ
  replace C : Cf κ cX8_fault 1 RX8 (some .int) 6 := C
  refine g_aload_n (pc := 0) (i := 0) (j := 0) C dX8_fault_0 rfl rfl ?_
  refine g_cwi (pc := 1) (st := []) C E layM_0 lkX8_221 (As := []) rfl (fun out h => kX8_readText (kl κ) ε μ out h) (by decide) rfl (Nat.le_of_ble_eq_true rfl) dX8_fault_1 hf (fun r1 μ1 _ hf => ?_)
  exact g_iretw (pc := 4) C hQ dX8_fault_4 hf
theorem dX8_fetch_0 : decode cX8_fetch 0 = .ok (.iload_n 1, 1) := by decide +kernel
theorem dX8_fetch_1 : decode cX8_fetch 1 = .ok (.invokestatic 242, 3) := by decide +kernel
theorem dX8_fetch_4 : decode cX8_fetch 4 = .ok (.ifCond .ne 5, 3) := by decide +kernel
theorem dX8_fetch_7 : decode cX8_fetch 7 = .ok (.iconst (-1), 1) := by decide +kernel
theorem dX8_fetch_8 : decode cX8_fetch 8 = .ok (.ireturn, 1) := by decide +kernel
theorem dX8_fetch_9 : decode cX8_fetch 9 = .ok (.aload_n 0, 1) := by decide +kernel
theorem dX8_fetch_10 : decode cX8_fetch 10 = .ok (.iload_n 1, 1) := by decide +kernel
theorem dX8_fetch_11 : decode cX8_fetch 11 = .ok (.iload_n 2, 1) := by decide +kernel
theorem dX8_fetch_12 : decode cX8_fetch 12 = .ok (.invokevirtual 339, 3) := by decide +kernel
theorem dX8_fetch_15 : decode cX8_fetch 15 = .ok (.istore_n 3, 1) := by decide +kernel
theorem dX8_fetch_16 : decode cX8_fetch 16 = .ok (.iload_n 3, 1) := by decide +kernel
theorem dX8_fetch_17 : decode cX8_fetch 17 = .ok (.ifCond .ne 30, 3) := by decide +kernel
theorem dX8_fetch_20 : decode cX8_fetch 20 = .ok (.aload_n 0, 1) := by decide +kernel
theorem dX8_fetch_21 : decode cX8_fetch 21 = .ok (.aload_n 0, 1) := by decide +kernel
theorem dX8_fetch_22 : decode cX8_fetch 22 = .ok (.getfield 16, 3) := by decide +kernel
theorem dX8_fetch_25 : decode cX8_fetch 25 = .ok (.iload_n 1, 1) := by decide +kernel
theorem dX8_fetch_26 : decode cX8_fetch 26 = .ok (.iaload, 1) := by decide +kernel
theorem dX8_fetch_27 : decode cX8_fetch 27 = .ok (.iload_n 2, 1) := by decide +kernel
theorem dX8_fetch_28 : decode cX8_fetch 28 = .ok (.invokevirtual 283, 3) := by decide +kernel
theorem dX8_fetch_31 : decode cX8_fetch 31 = .ok (.aload_n 0, 1) := by decide +kernel
theorem dX8_fetch_32 : decode cX8_fetch 32 = .ok (.aload_n 0, 1) := by decide +kernel
theorem dX8_fetch_33 : decode cX8_fetch 33 = .ok (.getfield 270, 3) := by decide +kernel
theorem dX8_fetch_36 : decode cX8_fetch 36 = .ok (.aload_n 0, 1) := by decide +kernel
theorem dX8_fetch_37 : decode cX8_fetch 37 = .ok (.getfield 273, 3) := by decide +kernel
theorem dX8_fetch_40 : decode cX8_fetch 40 = .ok (.aload_n 0, 1) := by decide +kernel
theorem dX8_fetch_41 : decode cX8_fetch 41 = .ok (.getfield 276, 3) := by decide +kernel
theorem dX8_fetch_44 : decode cX8_fetch 44 = .ok (.invokevirtual 308, 3) := by decide +kernel
theorem dX8_fetch_47 : decode cX8_fetch 47 = .ok (.iload_n 3, 1) := by decide +kernel
theorem dX8_fetch_48 : decode cX8_fetch 48 = .ok (.ireturn, 1) := by decide +kernel
def fX8_fetch (p1 : Int32) (p2 : Int32) (μ : Mm) : Option (Int32 × Mm) := ((fX8_isSlot p1).bind fun r1 => (if r1 = 0 then some ((-1 : Int32), μ) else ((fX8_reasonToFetch p1 p2 μ).bind fun r12 => (if r12 = 0 then (if inb p1 10 = true then ((fX8_get (μ.1 3 (Int32.toNatClampNeg p1)) p2 μ).bind fun μ28 => ((fX8_hold (μ28.1 0 37) (μ28.1 0 38) (μ28.2 0 39) μ28).bind fun μ44 => some (r12, μ44))) else none) else some (r12, μ)))))
set_option maxRecDepth 100000 in
set_option maxHeartbeats 4000000 in
theorem kX8_fetch (l : Launch) (ε : Ev) (p1 : Int32) (p2 : Int32) (μ : Mm) (out : (Int32 × Mm)) (hf : fX8_fetch p1 p2 μ = some out) : Sp l ε layM yX8_fetch cX8_fetch 4 (some .int) 3 [.ref (ea ε 0), .int p1, .int p2] (some (.int out.1)) μ out.2 := by
  refine Sp.of [(0, .ref (ea ε 0)), (1, .int p1), (2, .int p2)] rfl (by decide +kernel) (Nat.le_of_ble_eq_true rfl) ?_
  intro κ hκ C E hQ
  subst hκ
  replace C : Cf κ cX8_fetch 4 RX8 (some .int) 3 := C
  refine g_iload_n (pc := 0) (i := 1) (j := 1) C dX8_fetch_0 rfl rfl ?_
  refine g_cpi (pc := 1) (st := []) C lkX8_242 (As := [.int p1]) rfl (fun out h => kX8_isSlot (kl κ) p1 out h) (by decide) rfl (Nat.le_of_ble_eq_true rfl) dX8_fetch_1 hf (fun r1 _ hf => ?_)
  refine g_if_ne (pc := 4) (tgt := 9) C dX8_fetch_4 rfl hf (fun _ hf => ?_) (fun _ hf => ?_)
  · refine g_aload_n (pc := 9) (i := 0) (j := 0) C dX8_fetch_9 rfl rfl ?_
    refine g_iload_n (pc := 10) (i := 1) (j := 1) C dX8_fetch_10 rfl rfl ?_
    refine g_iload_n (pc := 11) (i := 2) (j := 2) C dX8_fetch_11 rfl rfl ?_
    refine g_cri (pc := 12) (st := []) C E layM_0 lkX8_339 (As := [.int p1, .int p2]) rfl (fun out h => kX8_reasonToFetch (kl κ) ε p1 p2 μ out h) (by decide) rfl (Nat.le_of_ble_eq_true rfl) dX8_fetch_12 hf (fun r12 _ hf => ?_)
    refine g_istore_n (pc := 15) (i := 3) (L' := [(3, .int r12), (0, .ref (ea ε 0)), (1, .int p1), (2, .int p2)]) C dX8_fetch_15 rfl (by decide) rfl ?_
    refine g_iload_n (pc := 16) (i := 3) (j := 0) C dX8_fetch_16 rfl rfl ?_
    refine g_if_ne (pc := 17) (tgt := 47) C dX8_fetch_17 rfl hf (fun _ hf => ?_) (fun _ hf => ?_)
    · refine g_iload_n (pc := 47) (i := 3) (j := 0) C dX8_fetch_47 rfl rfl ?_
      exact g_iretw (pc := 48) C hQ dX8_fetch_48 hf
    · refine g_aload_n (pc := 20) (i := 0) (j := 1) C dX8_fetch_20 rfl rfl ?_
      refine g_aload_n (pc := 21) (i := 0) (j := 1) C dX8_fetch_21 rfl rfl ?_
      refine g_getr (pc := 22) (j := 3) C E fdX8_16 layM_0_3 dX8_fetch_22 ?_
      refine g_iload_n (pc := 25) (i := 1) (j := 2) C dX8_fetch_25 rfl rfl ?_
      refine g_iald (pc := 26) C E layM_3 dX8_fetch_26 hf (fun hf => ?_)
      refine g_iload_n (pc := 27) (i := 2) (j := 3) C dX8_fetch_27 rfl rfl ?_
      refine g_cwv (pc := 28) (st := []) C E layM_0 lkX8_283 (As := [.int (μ.1 3 (Int32.toNatClampNeg p1)), .int p2]) rfl (fun out h => kX8_get (kl κ) ε (μ.1 3 (Int32.toNatClampNeg p1)) p2 μ out h) (by decide) rfl (Nat.le_of_ble_eq_true rfl) dX8_fetch_28 hf (fun μ28 _ hf => ?_)
      refine g_aload_n (pc := 31) (i := 0) (j := 1) C dX8_fetch_31 rfl rfl ?_
      refine g_aload_n (pc := 32) (i := 0) (j := 1) C dX8_fetch_32 rfl rfl ?_
      refine g_geti (pc := 33) C E fdX8_270 layM_0_37 dX8_fetch_33 ?_
      refine g_aload_n (pc := 36) (i := 0) (j := 1) C dX8_fetch_36 rfl rfl ?_
      refine g_geti (pc := 37) C E fdX8_273 layM_0_38 dX8_fetch_37 ?_
      refine g_aload_n (pc := 40) (i := 0) (j := 1) C dX8_fetch_40 rfl rfl ?_
      refine g_getl (pc := 41) C E fdX8_276 layM_0_39 dX8_fetch_41 ?_
      refine g_cwv (pc := 44) (st := []) C E layM_0 lkX8_308 (As := [.int (μ28.1 0 37), .int (μ28.1 0 38), .long (μ28.2 0 39)]) rfl (fun out h => kX8_hold (kl κ) ε (μ28.1 0 37) (μ28.1 0 38) (μ28.2 0 39) μ28 out h) (by decide) rfl (Nat.le_of_ble_eq_true rfl) dX8_fetch_44 hf (fun μ44 _ hf => ?_)
      refine g_iload_n (pc := 47) (i := 3) (j := 0) C dX8_fetch_47 rfl rfl ?_
      exact g_iretw (pc := 48) C hQ dX8_fetch_48 hf
  · refine g_iconst (pc := 7) C dX8_fetch_7 ci_m1 ?_
    exact g_iretw (pc := 8) C hQ dX8_fetch_8 hf
theorem dX8_give_0 : decode cX8_give 0 = .ok (.iload_n 1, 1) := by decide +kernel
theorem dX8_give_1 : decode cX8_give 1 = .ok (.invokestatic 198, 3) := by decide +kernel
theorem dX8_give_4 : decode cX8_give 4 = .ok (.ifCond .ne 6, 3) := by decide +kernel
theorem dX8_give_7 : decode cX8_give 7 = .ok (.bipush (-2), 2) := by decide +kernel
theorem dX8_give_9 : decode cX8_give 9 = .ok (.ireturn, 1) := by decide +kernel
theorem dX8_give_10 : decode cX8_give 10 = .ok (.aload_n 0, 1) := by decide +kernel
theorem dX8_give_11 : decode cX8_give 11 = .ok (.iconst 1, 1) := by decide +kernel
theorem dX8_give_12 : decode cX8_give 12 = .ok (.iload_n 1, 1) := by decide +kernel
theorem dX8_give_13 : decode cX8_give 13 = .ok (.iload_n 1, 1) := by decide +kernel
theorem dX8_give_14 : decode cX8_give 14 = .ok (.lload_n 2, 1) := by decide +kernel
theorem dX8_give_15 : decode cX8_give 15 = .ok (.invokestatic 305, 3) := by decide +kernel
theorem dX8_give_18 : decode cX8_give 18 = .ok (.invokevirtual 308, 3) := by decide +kernel
theorem dX8_give_21 : decode cX8_give 21 = .ok (.iconst 1, 1) := by decide +kernel
theorem dX8_give_22 : decode cX8_give 22 = .ok (.ireturn, 1) := by decide +kernel
def fX8_give (p1 : Int32) (p2 : Int64) (μ : Mm) : Option (Int32 × Mm) := ((fX8_isPlain p1).bind fun r1 => (if r1 = 0 then some ((-2 : Int32), μ) else ((fX8_given p1 p2).bind fun r15 => ((fX8_hold (1 : Int32) p1 r15 μ).bind fun μ18 => some ((1 : Int32), μ18)))))
set_option maxRecDepth 100000 in
set_option maxHeartbeats 4000000 in
theorem kX8_give (l : Launch) (ε : Ev) (p1 : Int32) (p2 : Int64) (μ : Mm) (out : (Int32 × Mm)) (hf : fX8_give p1 p2 μ = some out) : Sp l ε layM yX8_give cX8_give 4 (some .int) 3 [.ref (ea ε 0), .int p1, .long p2] (some (.int out.1)) μ out.2 := by
  refine Sp.of [(0, .ref (ea ε 0)), (1, .int p1), (2, .long p2)] rfl (by decide +kernel) (Nat.le_of_ble_eq_true rfl) ?_
  intro κ hκ C E hQ
  subst hκ
  replace C : Cf κ cX8_give 4 RX8 (some .int) 3 := C
  refine g_iload_n (pc := 0) (i := 1) (j := 1) C dX8_give_0 rfl rfl ?_
  refine g_cpi (pc := 1) (st := []) C lkX8_198 (As := [.int p1]) rfl (fun out h => kX8_isPlain (kl κ) p1 out h) (by decide) rfl (Nat.le_of_ble_eq_true rfl) dX8_give_1 hf (fun r1 _ hf => ?_)
  refine g_if_ne (pc := 4) (tgt := 10) C dX8_give_4 rfl hf (fun _ hf => ?_) (fun _ hf => ?_)
  · refine g_aload_n (pc := 10) (i := 0) (j := 0) C dX8_give_10 rfl rfl ?_
    refine g_iconst (pc := 11) C dX8_give_11 ci_1 ?_
    refine g_iload_n (pc := 12) (i := 1) (j := 1) C dX8_give_12 rfl rfl ?_
    refine g_iload_n (pc := 13) (i := 1) (j := 1) C dX8_give_13 rfl rfl ?_
    refine g_lload_n (pc := 14) (i := 2) (j := 2) C dX8_give_14 rfl rfl ?_
    refine g_cpl (pc := 15) (st := [.int p1, .int (1 : Int32), .ref (ea ε 0)]) C lkX8_305 (As := [.int p1, .long p2]) rfl (fun out h => kX8_given (kl κ) p1 p2 out h) (by decide) rfl (Nat.le_of_ble_eq_true rfl) dX8_give_15 hf (fun r15 _ hf => ?_)
    refine g_cwv (pc := 18) (st := []) C E layM_0 lkX8_308 (As := [.int (1 : Int32), .int p1, .long r15]) rfl (fun out h => kX8_hold (kl κ) ε (1 : Int32) p1 r15 μ out h) (by decide) rfl (Nat.le_of_ble_eq_true rfl) dX8_give_18 hf (fun μ18 _ hf => ?_)
    refine g_iconst (pc := 21) C dX8_give_21 ci_1 ?_
    exact g_iretw (pc := 22) C hQ dX8_give_22 hf
  · refine g_bipush (pc := 7) C dX8_give_7 cb_m2 ?_
    exact g_iretw (pc := 9) C hQ dX8_give_9 hf
theorem dX8_grow_0 : decode cX8_grow 0 = .ok (.iload_n 1, 1) := by decide +kernel
theorem dX8_grow_1 : decode cX8_grow 1 = .ok (.i2l, 1) := by decide +kernel
theorem dX8_grow_2 : decode cX8_grow 2 = .ok (.lconst 0, 1) := by decide +kernel
theorem dX8_grow_3 : decode cX8_grow 3 = .ok (.ldc2_w 311, 3) := by decide +kernel
theorem dX8_grow_6 : decode cX8_grow 6 = .ok (.invokestatic 98, 3) := by decide +kernel
theorem dX8_grow_9 : decode cX8_grow 9 = .ok (.ifCond .ne 6, 3) := by decide +kernel
theorem dX8_grow_12 : decode cX8_grow 12 = .ok (.bipush (-2), 2) := by decide +kernel
theorem dX8_grow_14 : decode cX8_grow 14 = .ok (.ireturn, 1) := by decide +kernel
theorem dX8_grow_15 : decode cX8_grow 15 = .ok (.aload_n 0, 1) := by decide +kernel
theorem dX8_grow_16 : decode cX8_grow 16 = .ok (.getfield 296, 3) := by decide +kernel
theorem dX8_grow_19 : decode cX8_grow 19 = .ok (.iconst 3, 1) := by decide +kernel
theorem dX8_grow_20 : decode cX8_grow 20 = .ok (.if_icmp .eq 6, 3) := by decide +kernel
theorem dX8_grow_23 : decode cX8_grow 23 = .ok (.bipush (-3), 2) := by decide +kernel
theorem dX8_grow_25 : decode cX8_grow 25 = .ok (.ireturn, 1) := by decide +kernel
theorem dX8_grow_26 : decode cX8_grow 26 = .ok (.aload_n 0, 1) := by decide +kernel
theorem dX8_grow_27 : decode cX8_grow 27 = .ok (.invokevirtual 236, 3) := by decide +kernel
theorem dX8_grow_30 : decode cX8_grow 30 = .ok (.aload_n 0, 1) := by decide +kernel
theorem dX8_grow_31 : decode cX8_grow 31 = .ok (.getfield 35, 3) := by decide +kernel
theorem dX8_grow_34 : decode cX8_grow 34 = .ok (.aload_n 0, 1) := by decide +kernel
theorem dX8_grow_35 : decode cX8_grow 35 = .ok (.getfield 302, 3) := by decide +kernel
theorem dX8_grow_38 : decode cX8_grow 38 = .ok (.l2i, 1) := by decide +kernel
theorem dX8_grow_39 : decode cX8_grow 39 = .ok (.iaload, 1) := by decide +kernel
theorem dX8_grow_40 : decode cX8_grow 40 = .ok (.istore_n 2, 1) := by decide +kernel
theorem dX8_grow_41 : decode cX8_grow 41 = .ok (.aload_n 0, 1) := by decide +kernel
theorem dX8_grow_42 : decode cX8_grow 42 = .ok (.getfield 35, 3) := by decide +kernel
theorem dX8_grow_45 : decode cX8_grow 45 = .ok (.aload_n 0, 1) := by decide +kernel
theorem dX8_grow_46 : decode cX8_grow 46 = .ok (.getfield 302, 3) := by decide +kernel
theorem dX8_grow_49 : decode cX8_grow 49 = .ok (.l2i, 1) := by decide +kernel
theorem dX8_grow_50 : decode cX8_grow 50 = .ok (.iload_n 1, 1) := by decide +kernel
theorem dX8_grow_51 : decode cX8_grow 51 = .ok (.iastore, 1) := by decide +kernel
theorem dX8_grow_52 : decode cX8_grow 52 = .ok (.iload_n 2, 1) := by decide +kernel
theorem dX8_grow_53 : decode cX8_grow 53 = .ok (.ireturn, 1) := by decide +kernel
def fX8_grow (p1 : Int32) (μ : Mm) : Option (Int32 × Mm) := ((fX8_in (Int32.toInt64 p1) (0 : Int64) (999 : Int64)).bind fun r6 => (if r6 = 0 then some ((-2 : Int32), μ) else (if (μ.1 0 12) = (3 : Int32) then ((fX8_note μ).bind fun μ27 => (if inb (Int64.toInt32 (μ27.2 0 14)) 20 = true then (if inb (Int64.toInt32 (μ27.2 0 14)) 20 = true then some ((μ27.1 9 (Int32.toNatClampNeg (Int64.toInt32 (μ27.2 0 14)))), (wI μ27 9 (Int32.toNatClampNeg (Int64.toInt32 (μ27.2 0 14))) p1)) else none) else none)) else some ((-3 : Int32), μ))))
set_option maxRecDepth 100000 in
set_option maxHeartbeats 4000000 in
theorem kX8_grow (l : Launch) (ε : Ev) (p1 : Int32) (μ : Mm) (out : (Int32 × Mm)) (hf : fX8_grow p1 μ = some out) : Sp l ε layM yX8_grow cX8_grow 3 (some .int) 1 [.ref (ea ε 0), .int p1] (some (.int out.1)) μ out.2 := by
  refine Sp.of [(0, .ref (ea ε 0)), (1, .int p1)] rfl (by decide +kernel) (Nat.le_of_ble_eq_true rfl) ?_
  intro κ hκ C E hQ
  subst hκ
  replace C : Cf κ cX8_grow 3 RX8 (some .int) 1 := C
  refine g_iload_n (pc := 0) (i := 1) (j := 1) C dX8_grow_0 rfl rfl ?_
  refine g_i2l (pc := 1) C dX8_grow_1 ?_
  refine g_lconst (pc := 2) C dX8_grow_2 cl_0 ?_
  refine g_ldc2 (pc := 3) C cnX8_311 dX8_grow_3 ?_
  refine g_cpi (pc := 6) (st := []) C lkX8_98 (As := [.long (Int32.toInt64 p1), .long (0 : Int64), .long (999 : Int64)]) rfl (fun out h => kX8_in (kl κ) (Int32.toInt64 p1) (0 : Int64) (999 : Int64) out h) (by decide) rfl (Nat.le_of_ble_eq_true rfl) dX8_grow_6 hf (fun r6 _ hf => ?_)
  refine g_if_ne (pc := 9) (tgt := 15) C dX8_grow_9 rfl hf (fun _ hf => ?_) (fun _ hf => ?_)
  · refine g_aload_n (pc := 15) (i := 0) (j := 0) C dX8_grow_15 rfl rfl ?_
    refine g_geti (pc := 16) C E fdX8_296 layM_0_12 dX8_grow_16 ?_
    refine g_iconst (pc := 19) C dX8_grow_19 ci_3 ?_
    refine g_icmp_eq (pc := 20) (tgt := 26) C dX8_grow_20 rfl hf (fun _ hf => ?_) (fun _ hf => ?_)
    · refine g_aload_n (pc := 26) (i := 0) (j := 0) C dX8_grow_26 rfl rfl ?_
      refine g_cwv (pc := 27) (st := []) C E layM_0 lkX8_236 (As := []) rfl (fun out h => kX8_note (kl κ) ε μ out h) (by decide) rfl (Nat.le_of_ble_eq_true rfl) dX8_grow_27 hf (fun μ27 _ hf => ?_)
      refine g_aload_n (pc := 30) (i := 0) (j := 0) C dX8_grow_30 rfl rfl ?_
      refine g_getr (pc := 31) (j := 9) C E fdX8_35 layM_0_9 dX8_grow_31 ?_
      refine g_aload_n (pc := 34) (i := 0) (j := 0) C dX8_grow_34 rfl rfl ?_
      refine g_getl (pc := 35) C E fdX8_302 layM_0_14 dX8_grow_35 ?_
      refine g_l2i (pc := 38) C dX8_grow_38 ?_
      refine g_iald (pc := 39) C E layM_9 dX8_grow_39 hf (fun hf => ?_)
      refine g_istore_n (pc := 40) (i := 2) (L' := [(2, .int (μ27.1 9 (Int32.toNatClampNeg (Int64.toInt32 (μ27.2 0 14))))), (0, .ref (ea ε 0)), (1, .int p1)]) C dX8_grow_40 rfl (by decide) rfl ?_
      refine g_aload_n (pc := 41) (i := 0) (j := 1) C dX8_grow_41 rfl rfl ?_
      refine g_getr (pc := 42) (j := 9) C E fdX8_35 layM_0_9 dX8_grow_42 ?_
      refine g_aload_n (pc := 45) (i := 0) (j := 1) C dX8_grow_45 rfl rfl ?_
      refine g_getl (pc := 46) C E fdX8_302 layM_0_14 dX8_grow_46 ?_
      refine g_l2i (pc := 49) C dX8_grow_49 ?_
      refine g_iload_n (pc := 50) (i := 1) (j := 2) C dX8_grow_50 rfl rfl ?_
      refine g_iast (pc := 51) C E layM_9 dX8_grow_51 hf (fun hf => ?_)
      refine g_iload_n (pc := 52) (i := 2) (j := 0) C dX8_grow_52 rfl rfl ?_
      exact g_iretw (pc := 53) C hQ dX8_grow_53 hf
    · refine g_bipush (pc := 23) C dX8_grow_23 cb_m3 ?_
      exact g_iretw (pc := 25) C hQ dX8_grow_25 hf
  · refine g_bipush (pc := 12) C dX8_grow_12 cb_m2 ?_
    exact g_iretw (pc := 14) C hQ dX8_grow_14 hf
theorem dX8_hand_0 : decode cX8_hand 0 = .ok (.iload_n 1, 1) := by decide +kernel
theorem dX8_hand_1 : decode cX8_hand 1 = .ok (.tableswitch 87 0 3 #[31, 37, 55, 68], 31) := by decide +kernel
theorem dX8_hand_32 : decode cX8_hand 32 = .ok (.aload_n 0, 1) := by decide +kernel
theorem dX8_hand_33 : decode cX8_hand 33 = .ok (.getfield 296, 3) := by decide +kernel
theorem dX8_hand_36 : decode cX8_hand 36 = .ok (.i2l, 1) := by decide +kernel
theorem dX8_hand_37 : decode cX8_hand 37 = .ok (.lreturn, 1) := by decide +kernel
theorem dX8_hand_38 : decode cX8_hand 38 = .ok (.aload_n 0, 1) := by decide +kernel
theorem dX8_hand_39 : decode cX8_hand 39 = .ok (.aload_n 0, 1) := by decide +kernel
theorem dX8_hand_40 : decode cX8_hand 40 = .ok (.getfield 296, 3) := by decide +kernel
theorem dX8_hand_43 : decode cX8_hand 43 = .ok (.aload_n 0, 1) := by decide +kernel
theorem dX8_hand_44 : decode cX8_hand 44 = .ok (.getfield 299, 3) := by decide +kernel
theorem dX8_hand_47 : decode cX8_hand 47 = .ok (.aload_n 0, 1) := by decide +kernel
theorem dX8_hand_48 : decode cX8_hand 48 = .ok (.getfield 302, 3) := by decide +kernel
theorem dX8_hand_51 : decode cX8_hand 51 = .ok (.invokevirtual 287, 3) := by decide +kernel
theorem dX8_hand_54 : decode cX8_hand 54 = .ok (.i2l, 1) := by decide +kernel
theorem dX8_hand_55 : decode cX8_hand 55 = .ok (.lreturn, 1) := by decide +kernel
theorem dX8_hand_56 : decode cX8_hand 56 = .ok (.aload_n 0, 1) := by decide +kernel
theorem dX8_hand_57 : decode cX8_hand 57 = .ok (.aload_n 0, 1) := by decide +kernel
theorem dX8_hand_58 : decode cX8_hand 58 = .ok (.getfield 296, 3) := by decide +kernel
theorem dX8_hand_61 : decode cX8_hand 61 = .ok (.aload_n 0, 1) := by decide +kernel
theorem dX8_hand_62 : decode cX8_hand 62 = .ok (.getfield 302, 3) := by decide +kernel
theorem dX8_hand_65 : decode cX8_hand 65 = .ok (.invokevirtual 291, 3) := by decide +kernel
theorem dX8_hand_68 : decode cX8_hand 68 = .ok (.lreturn, 1) := by decide +kernel
theorem dX8_hand_69 : decode cX8_hand 69 = .ok (.aload_n 0, 1) := by decide +kernel
theorem dX8_hand_70 : decode cX8_hand 70 = .ok (.getfield 296, 3) := by decide +kernel
theorem dX8_hand_73 : decode cX8_hand 73 = .ok (.iconst 3, 1) := by decide +kernel
theorem dX8_hand_74 : decode cX8_hand 74 = .ok (.if_icmp .ne 10, 3) := by decide +kernel
theorem dX8_hand_77 : decode cX8_hand 77 = .ok (.aload_n 0, 1) := by decide +kernel
theorem dX8_hand_78 : decode cX8_hand 78 = .ok (.getfield 302, 3) := by decide +kernel
theorem dX8_hand_81 : decode cX8_hand 81 = .ok (.goto 6, 3) := by decide +kernel
theorem dX8_hand_84 : decode cX8_hand 84 = .ok (.ldc2_w 294, 3) := by decide +kernel
theorem dX8_hand_87 : decode cX8_hand 87 = .ok (.lreturn, 1) := by decide +kernel
theorem dX8_hand_88 : decode cX8_hand 88 = .ok (.ldc2_w 281, 3) := by decide +kernel
theorem dX8_hand_91 : decode cX8_hand 91 = .ok (.lreturn, 1) := by decide +kernel
def fX8_hand (p1 : Int32) (μ : Mm) : Option Int64 := (if p1 = 0 then some (Int32.toInt64 (μ.1 0 12)) else (if p1 = 1 then ((fX8_kindTold (μ.1 0 12) (μ.1 0 13) (μ.2 0 14) μ).bind fun r51 => some (Int32.toInt64 r51)) else (if p1 = 2 then ((fX8_told (μ.1 0 12) (μ.2 0 14) μ).bind fun r65 => some r65) else (if p1 = 3 then (if (μ.1 0 12) = (3 : Int32) then some (μ.2 0 14) else some (-9 : Int64)) else some (-2 : Int64)))))
set_option maxRecDepth 100000 in
set_option maxHeartbeats 4000000 in
theorem kX8_hand (l : Launch) (ε : Ev) (p1 : Int32) (μ : Mm) (out : Int64) (hf : fX8_hand p1 μ = some out) : Sp l ε layM yX8_hand cX8_hand 2 (some .long) 1 [.ref (ea ε 0), .int p1] (some (.long out)) μ μ := by
  refine Sp.of [(0, .ref (ea ε 0)), (1, .int p1)] rfl (by decide +kernel) (Nat.le_of_ble_eq_true rfl) ?_
  intro κ hκ C E hQ
  subst hκ
  replace C : Cf κ cX8_hand 2 RX8 (some .long) 1 := C
  refine g_iload_n (pc := 0) (i := 1) (j := 1) C dX8_hand_0 rfl rfl ?_
  by_cases h1_0 : p1 = 0
  · replace hf := ite_t h1_0 hf
    refine g_tabIn (pc := 1) (v := 0) (off := 31) (tgt := 32) C dX8_hand_1 h1_0 (by decide) rfl ?_
    refine g_aload_n (pc := 32) (i := 0) (j := 0) C dX8_hand_32 rfl rfl ?_
    refine g_geti (pc := 33) C E fdX8_296 layM_0_12 dX8_hand_33 ?_
    refine g_i2l (pc := 36) C dX8_hand_36 ?_
    exact g_lretr (pc := 37) C hQ dX8_hand_37 hf
  replace hf := ite_f h1_0 hf
  by_cases h1_1 : p1 = 1
  · replace hf := ite_t h1_1 hf
    refine g_tabIn (pc := 1) (v := 1) (off := 37) (tgt := 38) C dX8_hand_1 h1_1 (by decide) rfl ?_
    refine g_aload_n (pc := 38) (i := 0) (j := 0) C dX8_hand_38 rfl rfl ?_
    refine g_aload_n (pc := 39) (i := 0) (j := 0) C dX8_hand_39 rfl rfl ?_
    refine g_geti (pc := 40) C E fdX8_296 layM_0_12 dX8_hand_40 ?_
    refine g_aload_n (pc := 43) (i := 0) (j := 0) C dX8_hand_43 rfl rfl ?_
    refine g_geti (pc := 44) C E fdX8_299 layM_0_13 dX8_hand_44 ?_
    refine g_aload_n (pc := 47) (i := 0) (j := 0) C dX8_hand_47 rfl rfl ?_
    refine g_getl (pc := 48) C E fdX8_302 layM_0_14 dX8_hand_48 ?_
    refine g_cri (pc := 51) (st := []) C E layM_0 lkX8_287 (As := [.int (μ.1 0 12), .int (μ.1 0 13), .long (μ.2 0 14)]) rfl (fun out h => kX8_kindTold (kl κ) ε (μ.1 0 12) (μ.1 0 13) (μ.2 0 14) μ out h) (by decide) rfl (Nat.le_of_ble_eq_true rfl) dX8_hand_51 hf (fun r51 _ hf => ?_)
    refine g_i2l (pc := 54) C dX8_hand_54 ?_
    exact g_lretr (pc := 55) C hQ dX8_hand_55 hf
  replace hf := ite_f h1_1 hf
  by_cases h1_2 : p1 = 2
  · replace hf := ite_t h1_2 hf
    refine g_tabIn (pc := 1) (v := 2) (off := 55) (tgt := 56) C dX8_hand_1 h1_2 (by decide) rfl ?_
    refine g_aload_n (pc := 56) (i := 0) (j := 0) C dX8_hand_56 rfl rfl ?_
    refine g_aload_n (pc := 57) (i := 0) (j := 0) C dX8_hand_57 rfl rfl ?_
    refine g_geti (pc := 58) C E fdX8_296 layM_0_12 dX8_hand_58 ?_
    refine g_aload_n (pc := 61) (i := 0) (j := 0) C dX8_hand_61 rfl rfl ?_
    refine g_getl (pc := 62) C E fdX8_302 layM_0_14 dX8_hand_62 ?_
    refine g_crl (pc := 65) (st := []) C E layM_0 lkX8_291 (As := [.int (μ.1 0 12), .long (μ.2 0 14)]) rfl (fun out h => kX8_told (kl κ) ε (μ.1 0 12) (μ.2 0 14) μ out h) (by decide) rfl (Nat.le_of_ble_eq_true rfl) dX8_hand_65 hf (fun r65 _ hf => ?_)
    exact g_lretr (pc := 68) C hQ dX8_hand_68 hf
  replace hf := ite_f h1_2 hf
  by_cases h1_3 : p1 = 3
  · replace hf := ite_t h1_3 hf
    refine g_tabIn (pc := 1) (v := 3) (off := 68) (tgt := 69) C dX8_hand_1 h1_3 (by decide) rfl ?_
    refine g_aload_n (pc := 69) (i := 0) (j := 0) C dX8_hand_69 rfl rfl ?_
    refine g_geti (pc := 70) C E fdX8_296 layM_0_12 dX8_hand_70 ?_
    refine g_iconst (pc := 73) C dX8_hand_73 ci_3 ?_
    refine g_icmp_ne (pc := 74) (tgt := 84) C dX8_hand_74 rfl hf (fun _ hf => ?_) (fun _ hf => ?_)
    · refine g_ldc2 (pc := 84) C cnX8_294 dX8_hand_84 ?_
      exact g_lretr (pc := 87) C hQ dX8_hand_87 hf
    · refine g_aload_n (pc := 77) (i := 0) (j := 0) C dX8_hand_77 rfl rfl ?_
      refine g_getl (pc := 78) C E fdX8_302 layM_0_14 dX8_hand_78 ?_
      refine g_goto (pc := 81) (tgt := 87) C dX8_hand_81 rfl ?_
      exact g_lretr (pc := 87) C hQ dX8_hand_87 hf
  replace hf := ite_f h1_3 hf
  have e1_0 := i32_ne (n := 0) h1_0 (by decide)
  have e1_1 := i32_ne (n := 1) h1_1 (by decide)
  have e1_2 := i32_ne (n := 2) h1_2 (by decide)
  have e1_3 := i32_ne (n := 3) h1_3 (by decide)
  refine g_tabOut (pc := 1) (tgt := 88) C dX8_hand_1 (by omega) rfl ?_
  refine g_ldc2 (pc := 88) C cnX8_281 dX8_hand_88 ?_
  exact g_lretr (pc := 91) C hQ dX8_hand_91 hf
theorem dX8_holdsPlain_0 : decode cX8_holdsPlain 0 = .ok (.aload_n 0, 1) := by decide +kernel
theorem dX8_holdsPlain_1 : decode cX8_holdsPlain 1 = .ok (.getfield 13, 3) := by decide +kernel
theorem dX8_holdsPlain_4 : decode cX8_holdsPlain 4 = .ok (.iload_n 1, 1) := by decide +kernel
theorem dX8_holdsPlain_5 : decode cX8_holdsPlain 5 = .ok (.iaload, 1) := by decide +kernel
theorem dX8_holdsPlain_6 : decode cX8_holdsPlain 6 = .ok (.invokestatic 198, 3) := by decide +kernel
theorem dX8_holdsPlain_9 : decode cX8_holdsPlain 9 = .ok (.ireturn, 1) := by decide +kernel
def fX8_holdsPlain (p1 : Int32) (μ : Mm) : Option Int32 := (if inb p1 10 = true then ((fX8_isPlain (μ.1 2 (Int32.toNatClampNeg p1))).bind fun r6 => (if rbz r6 = true then some r6 else none)) else none)
set_option maxRecDepth 100000 in
set_option maxHeartbeats 4000000 in
theorem kX8_holdsPlain (l : Launch) (ε : Ev) (p1 : Int32) (μ : Mm) (out : Int32) (hf : fX8_holdsPlain p1 μ = some out) : Sp l ε layM yX8_holdsPlain cX8_holdsPlain 2 (some .boolean) 2 [.ref (ea ε 0), .int p1] (some (.int out)) μ μ := by
  refine Sp.of [(0, .ref (ea ε 0)), (1, .int p1)] rfl (by decide +kernel) (Nat.le_of_ble_eq_true rfl) ?_
  intro κ hκ C E hQ
  subst hκ
  replace C : Cf κ cX8_holdsPlain 2 RX8 (some .boolean) 2 := C
  refine g_aload_n (pc := 0) (i := 0) (j := 0) C dX8_holdsPlain_0 rfl rfl ?_
  refine g_getr (pc := 1) (j := 2) C E fdX8_13 layM_0_2 dX8_holdsPlain_1 ?_
  refine g_iload_n (pc := 4) (i := 1) (j := 1) C dX8_holdsPlain_4 rfl rfl ?_
  refine g_iald (pc := 5) C E layM_2 dX8_holdsPlain_5 hf (fun hf => ?_)
  refine g_cpi (pc := 6) (st := []) C lkX8_198 (As := [.int (μ.1 2 (Int32.toNatClampNeg p1))]) rfl (fun out h => kX8_isPlain (kl κ) (μ.1 2 (Int32.toNatClampNeg p1)) out h) (by decide) rfl (Nat.le_of_ble_eq_true rfl) dX8_holdsPlain_6 hf (fun r6 _ hf => ?_)
  exact g_zretr (pc := 9) C hQ dX8_holdsPlain_9 hf
theorem dX8_joinCells_0 : decode cX8_joinCells 0 = .ok (.iconst 0, 1) := by decide +kernel
theorem dX8_joinCells_1 : decode cX8_joinCells 1 = .ok (.istore_n 2, 1) := by decide +kernel
theorem dX8_joinCells_2 : decode cX8_joinCells 2 = .ok (.iload_n 2, 1) := by decide +kernel
theorem dX8_joinCells_3 : decode cX8_joinCells 3 = .ok (.aload_n 0, 1) := by decide +kernel
theorem dX8_joinCells_4 : decode cX8_joinCells 4 = .ok (.getfield 22, 3) := by decide +kernel
theorem dX8_joinCells_7 : decode cX8_joinCells 7 = .ok (.iload_n 1, 1) := by decide +kernel
theorem dX8_joinCells_8 : decode cX8_joinCells 8 = .ok (.iaload, 1) := by decide +kernel
theorem dX8_joinCells_9 : decode cX8_joinCells 9 = .ok (.if_icmp .ge 81, 3) := by decide +kernel
theorem dX8_joinCells_12 : decode cX8_joinCells 12 = .ok (.aload_n 0, 1) := by decide +kernel
theorem dX8_joinCells_13 : decode cX8_joinCells 13 = .ok (.iload_n 1, 1) := by decide +kernel
theorem dX8_joinCells_14 : decode cX8_joinCells 14 = .ok (.iload_n 2, 1) := by decide +kernel
theorem dX8_joinCells_15 : decode cX8_joinCells 15 = .ok (.invokevirtual 283, 3) := by decide +kernel
theorem dX8_joinCells_18 : decode cX8_joinCells 18 = .ok (.aload_n 0, 1) := by decide +kernel
theorem dX8_joinCells_19 : decode cX8_joinCells 19 = .ok (.getfield 195, 3) := by decide +kernel
theorem dX8_joinCells_22 : decode cX8_joinCells 22 = .ok (.invokestatic 198, 3) := by decide +kernel
theorem dX8_joinCells_25 : decode cX8_joinCells 25 = .ok (.istore_n 3, 1) := by decide +kernel
theorem dX8_joinCells_26 : decode cX8_joinCells 26 = .ok (.aload_n 0, 1) := by decide +kernel
theorem dX8_joinCells_27 : decode cX8_joinCells 27 = .ok (.iload_n 3, 1) := by decide +kernel
theorem dX8_joinCells_28 : decode cX8_joinCells 28 = .ok (.ifCond .eq 7, 3) := by decide +kernel
theorem dX8_joinCells_31 : decode cX8_joinCells 31 = .ok (.iconst 1, 1) := by decide +kernel
theorem dX8_joinCells_32 : decode cX8_joinCells 32 = .ok (.goto 7, 3) := by decide +kernel
theorem dX8_joinCells_35 : decode cX8_joinCells 35 = .ok (.aload_n 0, 1) := by decide +kernel
theorem dX8_joinCells_36 : decode cX8_joinCells 36 = .ok (.getfield 270, 3) := by decide +kernel
theorem dX8_joinCells_39 : decode cX8_joinCells 39 = .ok (.iload_n 3, 1) := by decide +kernel
theorem dX8_joinCells_40 : decode cX8_joinCells 40 = .ok (.ifCond .eq 10, 3) := by decide +kernel
theorem dX8_joinCells_43 : decode cX8_joinCells 43 = .ok (.aload_n 0, 1) := by decide +kernel
theorem dX8_joinCells_44 : decode cX8_joinCells 44 = .ok (.getfield 195, 3) := by decide +kernel
theorem dX8_joinCells_47 : decode cX8_joinCells 47 = .ok (.goto 7, 3) := by decide +kernel
theorem dX8_joinCells_50 : decode cX8_joinCells 50 = .ok (.aload_n 0, 1) := by decide +kernel
theorem dX8_joinCells_51 : decode cX8_joinCells 51 = .ok (.getfield 273, 3) := by decide +kernel
theorem dX8_joinCells_54 : decode cX8_joinCells 54 = .ok (.iload_n 3, 1) := by decide +kernel
theorem dX8_joinCells_55 : decode cX8_joinCells 55 = .ok (.ifCond .eq 22, 3) := by decide +kernel
theorem dX8_joinCells_58 : decode cX8_joinCells 58 = .ok (.aload_n 0, 1) := by decide +kernel
theorem dX8_joinCells_59 : decode cX8_joinCells 59 = .ok (.aload_n 0, 1) := by decide +kernel
theorem dX8_joinCells_60 : decode cX8_joinCells 60 = .ok (.getfield 273, 3) := by decide +kernel
theorem dX8_joinCells_63 : decode cX8_joinCells 63 = .ok (.aload_n 0, 1) := by decide +kernel
theorem dX8_joinCells_64 : decode cX8_joinCells 64 = .ok (.getfield 276, 3) := by decide +kernel
theorem dX8_joinCells_67 : decode cX8_joinCells 67 = .ok (.aload_n 0, 1) := by decide +kernel
theorem dX8_joinCells_68 : decode cX8_joinCells 68 = .ok (.getfield 195, 3) := by decide +kernel
theorem dX8_joinCells_71 : decode cX8_joinCells 71 = .ok (.invokevirtual 332, 3) := by decide +kernel
theorem dX8_joinCells_74 : decode cX8_joinCells 74 = .ok (.goto 7, 3) := by decide +kernel
theorem dX8_joinCells_77 : decode cX8_joinCells 77 = .ok (.aload_n 0, 1) := by decide +kernel
theorem dX8_joinCells_78 : decode cX8_joinCells 78 = .ok (.getfield 276, 3) := by decide +kernel
theorem dX8_joinCells_81 : decode cX8_joinCells 81 = .ok (.invokevirtual 202, 3) := by decide +kernel
theorem dX8_joinCells_84 : decode cX8_joinCells 84 = .ok (.iinc 2 1, 3) := by decide +kernel
theorem dX8_joinCells_87 : decode cX8_joinCells 87 = .ok (.goto (-85), 3) := by decide +kernel
theorem dX8_joinCells_90 : decode cX8_joinCells 90 = .ok (.return_, 1) := by decide +kernel
def fX8_joinCells_b81 (k2 : Int32 → Int32 → Mm → Option Mm) (v1 : Int32) (v2 : Int32) (s0 : Int64) (s1 : Int32) (s2 : Int32) (μ : Mm) : Option Mm := ((fX8_putTold s2 s1 s0 μ).bind fun μ81 => k2 v1 (v2 + (1 : Int32)) μ81)
def fX8_joinCells_b54 (k2 : Int32 → Int32 → Mm → Option Mm) (v1 : Int32) (v2 : Int32) (v3 : Int32) (s0 : Int32) (s1 : Int32) (μ : Mm) : Option Mm := (if v3 = 0 then fX8_joinCells_b81 k2 v1 v2 (μ.2 0 39) s0 s1 μ else (bnd (fX8_widened (μ.1 0 38) (μ.2 0 39) (μ.1 0 32) μ) fun r71 μ71 => fX8_joinCells_b81 k2 v1 v2 r71 s0 s1 μ71))
def fX8_joinCells_b39 (k2 : Int32 → Int32 → Mm → Option Mm) (v1 : Int32) (v2 : Int32) (v3 : Int32) (s0 : Int32) (μ : Mm) : Option Mm := (if v3 = 0 then fX8_joinCells_b54 k2 v1 v2 v3 (μ.1 0 38) s0 μ else fX8_joinCells_b54 k2 v1 v2 v3 (μ.1 0 32) s0 μ)
def fX8_joinCells_b2 : Nat → Int32 → Int32 → Mm → Option Mm
  | 0, _, _, _ => none
  | n + 1, v1, v2, μ => (if inb v1 11 = true then (if (μ.1 5 (Int32.toNatClampNeg v1)) ≤ v2 then some μ else ((fX8_get v1 v2 μ).bind fun μ15 => ((fX8_isPlain (μ15.1 0 32)).bind fun r22 => (if r22 = 0 then fX8_joinCells_b39 (fX8_joinCells_b2 n) v1 v2 r22 (μ15.1 0 37) μ15 else fX8_joinCells_b39 (fX8_joinCells_b2 n) v1 v2 r22 (1 : Int32) μ15)))) else none)
def fX8_joinCells (p1 : Int32) (μ : Mm) : Option Mm := fX8_joinCells_b2 100 p1 (0 : Int32) μ
set_option maxRecDepth 100000 in
set_option maxHeartbeats 4000000 in
theorem kX8_joinCells (l : Launch) (ε : Ev) (p1 : Int32) (μ : Mm) (out : Mm) (hf : fX8_joinCells p1 μ = some out) : Sp l ε layM yX8_joinCells cX8_joinCells 4 none 3 [.ref (ea ε 0), .int p1] none μ out := by
  refine Sp.of [(0, .ref (ea ε 0)), (1, .int p1)] rfl (by decide +kernel) (Nat.le_of_ble_eq_true rfl) ?_
  intro κ hκ C E hQ
  subst hκ
  replace C : Cf κ cX8_joinCells 4 RX8 none 3 := C
  have b81 : ∀ (k2 : Int32 → Int32 → Mm → Option Mm) (hk2 : ∀ (v1 : Int32) (v2 : Int32) (μ : Mm) , k2 v1 v2 μ = some out → G κ (Vw κ ε layM μ) 4 2 [(0, .ref (ea ε 0)), (1, .int v1), (2, .int v2)] []) (v1 : Int32) (v2 : Int32) (s0 : Int64) (s1 : Int32) (s2 : Int32) (μ : Mm) , fX8_joinCells_b81 k2 v1 v2 s0 s1 s2 μ = some out → G κ (Vw κ ε layM μ) 4 81 [(0, .ref (ea ε 0)), (1, .int v1), (2, .int v2)] [.long s0, .int s1, .int s2, .ref (ea ε 0)] := by
    intro k2 hk2 v1 v2 s0 s1 s2 μ hf
    refine g_cwv (pc := 81) (st := []) C E layM_0 lkX8_202 (As := [.int s2, .int s1, .long s0]) rfl (fun out h => kX8_putTold (kl κ) ε s2 s1 s0 μ out h) (by decide) rfl (Nat.le_of_ble_eq_true rfl) dX8_joinCells_81 hf (fun μ81 _ hf => ?_)
    refine g_iinc (pc := 84) (i := 2) (j := 2) (v := (v2 + (1 : Int32))) (L' := [(2, .int (v2 + (1 : Int32))), (0, .ref (ea ε 0)), (1, .int v1)]) C dX8_joinCells_84 rfl (cx_1 _) (by decide) rfl ?_
    refine g_goto (pc := 87) (tgt := 2) C dX8_joinCells_87 rfl ?_
    exact g_at [1, 2, 0] rfl (hk2 v1 (v2 + (1 : Int32)) μ81 hf)
  have b54 : ∀ (k2 : Int32 → Int32 → Mm → Option Mm) (hk2 : ∀ (v1 : Int32) (v2 : Int32) (μ : Mm) , k2 v1 v2 μ = some out → G κ (Vw κ ε layM μ) 4 2 [(0, .ref (ea ε 0)), (1, .int v1), (2, .int v2)] []) (v1 : Int32) (v2 : Int32) (v3 : Int32) (s0 : Int32) (s1 : Int32) (μ : Mm) , fX8_joinCells_b54 k2 v1 v2 v3 s0 s1 μ = some out → G κ (Vw κ ε layM μ) 4 54 [(0, .ref (ea ε 0)), (1, .int v1), (2, .int v2), (3, .int v3)] [.int s0, .int s1, .ref (ea ε 0)] := by
    intro k2 hk2 v1 v2 v3 s0 s1 μ hf
    refine g_iload_n (pc := 54) (i := 3) (j := 3) C dX8_joinCells_54 rfl rfl ?_
    refine g_if_eq (pc := 55) (tgt := 77) C dX8_joinCells_55 rfl hf (fun _ hf => ?_) (fun _ hf => ?_)
    · refine g_aload_n (pc := 77) (i := 0) (j := 0) C dX8_joinCells_77 rfl rfl ?_
      refine g_getl (pc := 78) C E fdX8_276 layM_0_39 dX8_joinCells_78 ?_
      exact g_at [0, 1, 2] rfl (b81 k2 hk2 v1 v2 (μ.2 0 39) s0 s1 μ hf)
    · refine g_aload_n (pc := 58) (i := 0) (j := 0) C dX8_joinCells_58 rfl rfl ?_
      refine g_aload_n (pc := 59) (i := 0) (j := 0) C dX8_joinCells_59 rfl rfl ?_
      refine g_geti (pc := 60) C E fdX8_273 layM_0_38 dX8_joinCells_60 ?_
      refine g_aload_n (pc := 63) (i := 0) (j := 0) C dX8_joinCells_63 rfl rfl ?_
      refine g_getl (pc := 64) C E fdX8_276 layM_0_39 dX8_joinCells_64 ?_
      refine g_aload_n (pc := 67) (i := 0) (j := 0) C dX8_joinCells_67 rfl rfl ?_
      refine g_geti (pc := 68) C E fdX8_195 layM_0_32 dX8_joinCells_68 ?_
      refine g_cwl (pc := 71) (st := [.int s0, .int s1, .ref (ea ε 0)]) C E layM_0 lkX8_332 (As := [.int (μ.1 0 38), .long (μ.2 0 39), .int (μ.1 0 32)]) rfl (fun out h => kX8_widened (kl κ) ε (μ.1 0 38) (μ.2 0 39) (μ.1 0 32) μ out h) (by decide) rfl (Nat.le_of_ble_eq_true rfl) dX8_joinCells_71 hf (fun r71 μ71 _ hf => ?_)
      refine g_goto (pc := 74) (tgt := 81) C dX8_joinCells_74 rfl ?_
      exact g_at [0, 1, 2] rfl (b81 k2 hk2 v1 v2 r71 s0 s1 μ71 hf)
  have b39 : ∀ (k2 : Int32 → Int32 → Mm → Option Mm) (hk2 : ∀ (v1 : Int32) (v2 : Int32) (μ : Mm) , k2 v1 v2 μ = some out → G κ (Vw κ ε layM μ) 4 2 [(0, .ref (ea ε 0)), (1, .int v1), (2, .int v2)] []) (v1 : Int32) (v2 : Int32) (v3 : Int32) (s0 : Int32) (μ : Mm) , fX8_joinCells_b39 k2 v1 v2 v3 s0 μ = some out → G κ (Vw κ ε layM μ) 4 39 [(0, .ref (ea ε 0)), (1, .int v1), (2, .int v2), (3, .int v3)] [.int s0, .ref (ea ε 0)] := by
    intro k2 hk2 v1 v2 v3 s0 μ hf
    refine g_iload_n (pc := 39) (i := 3) (j := 3) C dX8_joinCells_39 rfl rfl ?_
    refine g_if_eq (pc := 40) (tgt := 50) C dX8_joinCells_40 rfl hf (fun _ hf => ?_) (fun _ hf => ?_)
    · refine g_aload_n (pc := 50) (i := 0) (j := 0) C dX8_joinCells_50 rfl rfl ?_
      refine g_geti (pc := 51) C E fdX8_273 layM_0_38 dX8_joinCells_51 ?_
      exact b54 k2 hk2 v1 v2 v3 (μ.1 0 38) s0 μ hf
    · refine g_aload_n (pc := 43) (i := 0) (j := 0) C dX8_joinCells_43 rfl rfl ?_
      refine g_geti (pc := 44) C E fdX8_195 layM_0_32 dX8_joinCells_44 ?_
      refine g_goto (pc := 47) (tgt := 54) C dX8_joinCells_47 rfl ?_
      exact b54 k2 hk2 v1 v2 v3 (μ.1 0 32) s0 μ hf
  have b2 : ∀ (n : Nat) (v1 : Int32) (v2 : Int32) (μ : Mm) , fX8_joinCells_b2 n v1 v2 μ = some out → G κ (Vw κ ε layM μ) 4 2 [(0, .ref (ea ε 0)), (1, .int v1), (2, .int v2)] [] := by
    intro n
    induction n with
    | zero => intro v1 v2 μ hf; exact none_ne hf
    | succ n ih =>
      intro v1 v2 μ hf
      refine g_iload_n (pc := 2) (i := 2) (j := 2) C dX8_joinCells_2 rfl rfl ?_
      refine g_aload_n (pc := 3) (i := 0) (j := 0) C dX8_joinCells_3 rfl rfl ?_
      refine g_getr (pc := 4) (j := 5) C E fdX8_22 layM_0_5 dX8_joinCells_4 ?_
      refine g_iload_n (pc := 7) (i := 1) (j := 1) C dX8_joinCells_7 rfl rfl ?_
      refine g_iald (pc := 8) C E layM_5 dX8_joinCells_8 hf (fun hf => ?_)
      refine g_icmp_ge (pc := 9) (tgt := 90) C dX8_joinCells_9 rfl hf (fun _ hf => ?_) (fun _ hf => ?_)
      · exact g_vretw (pc := 90) C hQ dX8_joinCells_90 hf
      · refine g_aload_n (pc := 12) (i := 0) (j := 0) C dX8_joinCells_12 rfl rfl ?_
        refine g_iload_n (pc := 13) (i := 1) (j := 1) C dX8_joinCells_13 rfl rfl ?_
        refine g_iload_n (pc := 14) (i := 2) (j := 2) C dX8_joinCells_14 rfl rfl ?_
        refine g_cwv (pc := 15) (st := []) C E layM_0 lkX8_283 (As := [.int v1, .int v2]) rfl (fun out h => kX8_get (kl κ) ε v1 v2 μ out h) (by decide) rfl (Nat.le_of_ble_eq_true rfl) dX8_joinCells_15 hf (fun μ15 _ hf => ?_)
        refine g_aload_n (pc := 18) (i := 0) (j := 0) C dX8_joinCells_18 rfl rfl ?_
        refine g_geti (pc := 19) C E fdX8_195 layM_0_32 dX8_joinCells_19 ?_
        refine g_cpi (pc := 22) (st := []) C lkX8_198 (As := [.int (μ15.1 0 32)]) rfl (fun out h => kX8_isPlain (kl κ) (μ15.1 0 32) out h) (by decide) rfl (Nat.le_of_ble_eq_true rfl) dX8_joinCells_22 hf (fun r22 _ hf => ?_)
        refine g_istore_n (pc := 25) (i := 3) (L' := [(3, .int r22), (0, .ref (ea ε 0)), (1, .int v1), (2, .int v2)]) C dX8_joinCells_25 rfl (by decide) rfl ?_
        refine g_aload_n (pc := 26) (i := 0) (j := 1) C dX8_joinCells_26 rfl rfl ?_
        refine g_iload_n (pc := 27) (i := 3) (j := 0) C dX8_joinCells_27 rfl rfl ?_
        refine g_if_eq (pc := 28) (tgt := 35) C dX8_joinCells_28 rfl hf (fun _ hf => ?_) (fun _ hf => ?_)
        · refine g_aload_n (pc := 35) (i := 0) (j := 1) C dX8_joinCells_35 rfl rfl ?_
          refine g_geti (pc := 36) C E fdX8_270 layM_0_37 dX8_joinCells_36 ?_
          exact g_at [1, 2, 3, 0] rfl (b39 (fX8_joinCells_b2 n) ih v1 v2 r22 (μ15.1 0 37) μ15 hf)
        · refine g_iconst (pc := 31) C dX8_joinCells_31 ci_1 ?_
          refine g_goto (pc := 32) (tgt := 39) C dX8_joinCells_32 rfl ?_
          exact g_at [1, 2, 3, 0] rfl (b39 (fX8_joinCells_b2 n) ih v1 v2 r22 (1 : Int32) μ15 hf)
  refine g_iconst (pc := 0) C dX8_joinCells_0 ci_0 ?_
  refine g_istore_n (pc := 1) (i := 2) (L' := [(2, .int (0 : Int32)), (0, .ref (ea ε 0)), (1, .int p1)]) C dX8_joinCells_1 rfl (by decide) rfl ?_
  exact g_at [1, 2, 0] rfl (b2 100 p1 (0 : Int32) μ hf)
theorem dX8_join_0 : decode cX8_join 0 = .ok (.iload_n 1, 1) := by decide +kernel
theorem dX8_join_1 : decode cX8_join 1 = .ok (.invokestatic 242, 3) := by decide +kernel
theorem dX8_join_4 : decode cX8_join 4 = .ok (.ifCond .eq 17, 3) := by decide +kernel
theorem dX8_join_7 : decode cX8_join 7 = .ok (.iload_n 2, 1) := by decide +kernel
theorem dX8_join_8 : decode cX8_join 8 = .ok (.invokestatic 242, 3) := by decide +kernel
theorem dX8_join_11 : decode cX8_join 11 = .ok (.ifCond .eq 10, 3) := by decide +kernel
theorem dX8_join_14 : decode cX8_join 14 = .ok (.iload_n 3, 1) := by decide +kernel
theorem dX8_join_15 : decode cX8_join 15 = .ok (.invokestatic 242, 3) := by decide +kernel
theorem dX8_join_18 : decode cX8_join 18 = .ok (.ifCond .ne 5, 3) := by decide +kernel
theorem dX8_join_21 : decode cX8_join 21 = .ok (.iconst (-1), 1) := by decide +kernel
theorem dX8_join_22 : decode cX8_join 22 = .ok (.ireturn, 1) := by decide +kernel
theorem dX8_join_23 : decode cX8_join 23 = .ok (.aload_n 0, 1) := by decide +kernel
theorem dX8_join_24 : decode cX8_join 24 = .ok (.iload_n 1, 1) := by decide +kernel
theorem dX8_join_25 : decode cX8_join 25 = .ok (.invokevirtual 267, 3) := by decide +kernel
theorem dX8_join_28 : decode cX8_join 28 = .ok (.ifCond .eq 11, 3) := by decide +kernel
theorem dX8_join_31 : decode cX8_join 31 = .ok (.aload_n 0, 1) := by decide +kernel
theorem dX8_join_32 : decode cX8_join 32 = .ok (.iload_n 2, 1) := by decide +kernel
theorem dX8_join_33 : decode cX8_join 33 = .ok (.invokevirtual 267, 3) := by decide +kernel
theorem dX8_join_36 : decode cX8_join 36 = .ok (.ifCond .ne 6, 3) := by decide +kernel
theorem dX8_join_39 : decode cX8_join 39 = .ok (.bipush (-3), 2) := by decide +kernel
theorem dX8_join_41 : decode cX8_join 41 = .ok (.ireturn, 1) := by decide +kernel
theorem dX8_join_42 : decode cX8_join 42 = .ok (.aload_n 0, 1) := by decide +kernel
theorem dX8_join_43 : decode cX8_join 43 = .ok (.getfield 22, 3) := by decide +kernel
theorem dX8_join_46 : decode cX8_join 46 = .ok (.aload_n 0, 1) := by decide +kernel
theorem dX8_join_47 : decode cX8_join 47 = .ok (.getfield 16, 3) := by decide +kernel
theorem dX8_join_50 : decode cX8_join 50 = .ok (.iload_n 1, 1) := by decide +kernel
theorem dX8_join_51 : decode cX8_join 51 = .ok (.iaload, 1) := by decide +kernel
theorem dX8_join_52 : decode cX8_join 52 = .ok (.iaload, 1) := by decide +kernel
theorem dX8_join_53 : decode cX8_join 53 = .ok (.aload_n 0, 1) := by decide +kernel
theorem dX8_join_54 : decode cX8_join 54 = .ok (.getfield 22, 3) := by decide +kernel
theorem dX8_join_57 : decode cX8_join 57 = .ok (.aload_n 0, 1) := by decide +kernel
theorem dX8_join_58 : decode cX8_join 58 = .ok (.getfield 16, 3) := by decide +kernel
theorem dX8_join_61 : decode cX8_join 61 = .ok (.iload_n 2, 1) := by decide +kernel
theorem dX8_join_62 : decode cX8_join 62 = .ok (.iaload, 1) := by decide +kernel
theorem dX8_join_63 : decode cX8_join 63 = .ok (.iaload, 1) := by decide +kernel
theorem dX8_join_64 : decode cX8_join 64 = .ok (.iadd, 1) := by decide +kernel
theorem dX8_join_65 : decode cX8_join 65 = .ok (.bipush 6, 2) := by decide +kernel
theorem dX8_join_67 : decode cX8_join 67 = .ok (.if_icmp .le 6, 3) := by decide +kernel
theorem dX8_join_70 : decode cX8_join 70 = .ok (.bipush (-4), 2) := by decide +kernel
theorem dX8_join_72 : decode cX8_join 72 = .ok (.ireturn, 1) := by decide +kernel
theorem dX8_join_73 : decode cX8_join 73 = .ok (.aload_n 0, 1) := by decide +kernel
theorem dX8_join_74 : decode cX8_join 74 = .ok (.aload_n 0, 1) := by decide +kernel
theorem dX8_join_75 : decode cX8_join 75 = .ok (.getfield 13, 3) := by decide +kernel
theorem dX8_join_78 : decode cX8_join 78 = .ok (.iload_n 1, 1) := by decide +kernel
theorem dX8_join_79 : decode cX8_join 79 = .ok (.iaload, 1) := by decide +kernel
theorem dX8_join_80 : decode cX8_join 80 = .ok (.aload_n 0, 1) := by decide +kernel
theorem dX8_join_81 : decode cX8_join 81 = .ok (.getfield 13, 3) := by decide +kernel
theorem dX8_join_84 : decode cX8_join 84 = .ok (.iload_n 2, 1) := by decide +kernel
theorem dX8_join_85 : decode cX8_join 85 = .ok (.iaload, 1) := by decide +kernel
theorem dX8_join_86 : decode cX8_join 86 = .ok (.invokestatic 389, 3) := by decide +kernel
theorem dX8_join_89 : decode cX8_join 89 = .ok (.putfield 195, 3) := by decide +kernel
theorem dX8_join_92 : decode cX8_join 92 = .ok (.aload_n 0, 1) := by decide +kernel
theorem dX8_join_93 : decode cX8_join 93 = .ok (.iconst 0, 1) := by decide +kernel
theorem dX8_join_94 : decode cX8_join 94 = .ok (.putfield 192, 3) := by decide +kernel
theorem dX8_join_97 : decode cX8_join 97 = .ok (.aload_n 0, 1) := by decide +kernel
theorem dX8_join_98 : decode cX8_join 98 = .ok (.aload_n 0, 1) := by decide +kernel
theorem dX8_join_99 : decode cX8_join 99 = .ok (.getfield 16, 3) := by decide +kernel
theorem dX8_join_102 : decode cX8_join 102 = .ok (.iload_n 1, 1) := by decide +kernel
theorem dX8_join_103 : decode cX8_join 103 = .ok (.iaload, 1) := by decide +kernel
theorem dX8_join_104 : decode cX8_join 104 = .ok (.invokevirtual 392, 3) := by decide +kernel
theorem dX8_join_107 : decode cX8_join 107 = .ok (.aload_n 0, 1) := by decide +kernel
theorem dX8_join_108 : decode cX8_join 108 = .ok (.aload_n 0, 1) := by decide +kernel
theorem dX8_join_109 : decode cX8_join 109 = .ok (.getfield 16, 3) := by decide +kernel
theorem dX8_join_112 : decode cX8_join 112 = .ok (.iload_n 2, 1) := by decide +kernel
theorem dX8_join_113 : decode cX8_join 113 = .ok (.iaload, 1) := by decide +kernel
theorem dX8_join_114 : decode cX8_join 114 = .ok (.invokevirtual 392, 3) := by decide +kernel
theorem dX8_join_117 : decode cX8_join 117 = .ok (.aload_n 0, 1) := by decide +kernel
theorem dX8_join_118 : decode cX8_join 118 = .ok (.iload_n 3, 1) := by decide +kernel
theorem dX8_join_119 : decode cX8_join 119 = .ok (.invokevirtual 245, 3) := by decide +kernel
theorem dX8_join_122 : decode cX8_join 122 = .ok (.aload_n 0, 1) := by decide +kernel
theorem dX8_join_123 : decode cX8_join 123 = .ok (.getfield 195, 3) := by decide +kernel
theorem dX8_join_126 : decode cX8_join 126 = .ok (.ireturn, 1) := by decide +kernel
def fX8_join (p1 : Int32) (p2 : Int32) (p3 : Int32) (μ : Mm) : Option (Int32 × Mm) := ((fX8_isSlot p1).bind fun r1 => (if r1 = 0 then some ((-1 : Int32), μ) else ((fX8_isSlot p2).bind fun r8 => (if r8 = 0 then some ((-1 : Int32), μ) else ((fX8_isSlot p3).bind fun r15 => (if r15 = 0 then some ((-1 : Int32), μ) else ((fX8_holdsRow p1 μ).bind fun r25 => (if r25 = 0 then some ((-3 : Int32), μ) else ((fX8_holdsRow p2 μ).bind fun r33 => (if r33 = 0 then some ((-3 : Int32), μ) else (if inb p1 10 = true then (if inb (μ.1 3 (Int32.toNatClampNeg p1)) 11 = true then (if inb p2 10 = true then (if inb (μ.1 3 (Int32.toNatClampNeg p2)) 11 = true then (if ((μ.1 5 (Int32.toNatClampNeg (μ.1 3 (Int32.toNatClampNeg p1)))) + (μ.1 5 (Int32.toNatClampNeg (μ.1 3 (Int32.toNatClampNeg p2))))) ≤ (6 : Int32) then (if inb p1 10 = true then (if inb p2 10 = true then ((fX8_joinedKind (μ.1 2 (Int32.toNatClampNeg p1)) (μ.1 2 (Int32.toNatClampNeg p2))).bind fun r86 => (if inb p1 10 = true then ((fX8_joinCells ((wI (wI μ 0 32 r86) 0 33 (0 : Int32)).1 3 (Int32.toNatClampNeg p1)) (wI (wI μ 0 32 r86) 0 33 (0 : Int32))).bind fun μ104 => (if inb p2 10 = true then ((fX8_joinCells (μ104.1 3 (Int32.toNatClampNeg p2)) μ104).bind fun μ114 => ((fX8_holdNew p3 μ114).bind fun μ119 => some ((μ119.1 0 32), μ119))) else none)) else none)) else none) else none) else some ((-4 : Int32), μ)) else none) else none) else none) else none)))))))))))
set_option maxRecDepth 100000 in
set_option maxHeartbeats 4000000 in
theorem kX8_join (l : Launch) (ε : Ev) (p1 : Int32) (p2 : Int32) (p3 : Int32) (μ : Mm) (out : (Int32 × Mm)) (hf : fX8_join p1 p2 p3 μ = some out) : Sp l ε layM yX8_join cX8_join 4 (some .int) 4 [.ref (ea ε 0), .int p1, .int p2, .int p3] (some (.int out.1)) μ out.2 := by
  refine Sp.of [(0, .ref (ea ε 0)), (1, .int p1), (2, .int p2), (3, .int p3)] rfl (by decide +kernel) (Nat.le_of_ble_eq_true rfl) ?_
  intro κ hκ C E hQ
  subst hκ
  replace C : Cf κ cX8_join 4 RX8 (some .int) 4 := C
  refine g_iload_n (pc := 0) (i := 1) (j := 1) C dX8_join_0 rfl rfl ?_
  refine g_cpi (pc := 1) (st := []) C lkX8_242 (As := [.int p1]) rfl (fun out h => kX8_isSlot (kl κ) p1 out h) (by decide) rfl (Nat.le_of_ble_eq_true rfl) dX8_join_1 hf (fun r1 _ hf => ?_)
  refine g_if_eq (pc := 4) (tgt := 21) C dX8_join_4 rfl hf (fun _ hf => ?_) (fun _ hf => ?_)
  · refine g_iconst (pc := 21) C dX8_join_21 ci_m1 ?_
    exact g_iretw (pc := 22) C hQ dX8_join_22 hf
  · refine g_iload_n (pc := 7) (i := 2) (j := 2) C dX8_join_7 rfl rfl ?_
    refine g_cpi (pc := 8) (st := []) C lkX8_242 (As := [.int p2]) rfl (fun out h => kX8_isSlot (kl κ) p2 out h) (by decide) rfl (Nat.le_of_ble_eq_true rfl) dX8_join_8 hf (fun r8 _ hf => ?_)
    refine g_if_eq (pc := 11) (tgt := 21) C dX8_join_11 rfl hf (fun _ hf => ?_) (fun _ hf => ?_)
    · refine g_iconst (pc := 21) C dX8_join_21 ci_m1 ?_
      exact g_iretw (pc := 22) C hQ dX8_join_22 hf
    · refine g_iload_n (pc := 14) (i := 3) (j := 3) C dX8_join_14 rfl rfl ?_
      refine g_cpi (pc := 15) (st := []) C lkX8_242 (As := [.int p3]) rfl (fun out h => kX8_isSlot (kl κ) p3 out h) (by decide) rfl (Nat.le_of_ble_eq_true rfl) dX8_join_15 hf (fun r15 _ hf => ?_)
      refine g_if_ne (pc := 18) (tgt := 23) C dX8_join_18 rfl hf (fun _ hf => ?_) (fun _ hf => ?_)
      · refine g_aload_n (pc := 23) (i := 0) (j := 0) C dX8_join_23 rfl rfl ?_
        refine g_iload_n (pc := 24) (i := 1) (j := 1) C dX8_join_24 rfl rfl ?_
        refine g_cri (pc := 25) (st := []) C E layM_0 lkX8_267 (As := [.int p1]) rfl (fun out h => kX8_holdsRow (kl κ) ε p1 μ out h) (by decide) rfl (Nat.le_of_ble_eq_true rfl) dX8_join_25 hf (fun r25 _ hf => ?_)
        refine g_if_eq (pc := 28) (tgt := 39) C dX8_join_28 rfl hf (fun _ hf => ?_) (fun _ hf => ?_)
        · refine g_bipush (pc := 39) C dX8_join_39 cb_m3 ?_
          exact g_iretw (pc := 41) C hQ dX8_join_41 hf
        · refine g_aload_n (pc := 31) (i := 0) (j := 0) C dX8_join_31 rfl rfl ?_
          refine g_iload_n (pc := 32) (i := 2) (j := 2) C dX8_join_32 rfl rfl ?_
          refine g_cri (pc := 33) (st := []) C E layM_0 lkX8_267 (As := [.int p2]) rfl (fun out h => kX8_holdsRow (kl κ) ε p2 μ out h) (by decide) rfl (Nat.le_of_ble_eq_true rfl) dX8_join_33 hf (fun r33 _ hf => ?_)
          refine g_if_ne (pc := 36) (tgt := 42) C dX8_join_36 rfl hf (fun _ hf => ?_) (fun _ hf => ?_)
          · refine g_aload_n (pc := 42) (i := 0) (j := 0) C dX8_join_42 rfl rfl ?_
            refine g_getr (pc := 43) (j := 5) C E fdX8_22 layM_0_5 dX8_join_43 ?_
            refine g_aload_n (pc := 46) (i := 0) (j := 0) C dX8_join_46 rfl rfl ?_
            refine g_getr (pc := 47) (j := 3) C E fdX8_16 layM_0_3 dX8_join_47 ?_
            refine g_iload_n (pc := 50) (i := 1) (j := 1) C dX8_join_50 rfl rfl ?_
            refine g_iald (pc := 51) C E layM_3 dX8_join_51 hf (fun hf => ?_)
            refine g_iald (pc := 52) C E layM_5 dX8_join_52 hf (fun hf => ?_)
            refine g_aload_n (pc := 53) (i := 0) (j := 0) C dX8_join_53 rfl rfl ?_
            refine g_getr (pc := 54) (j := 5) C E fdX8_22 layM_0_5 dX8_join_54 ?_
            refine g_aload_n (pc := 57) (i := 0) (j := 0) C dX8_join_57 rfl rfl ?_
            refine g_getr (pc := 58) (j := 3) C E fdX8_16 layM_0_3 dX8_join_58 ?_
            refine g_iload_n (pc := 61) (i := 2) (j := 2) C dX8_join_61 rfl rfl ?_
            refine g_iald (pc := 62) C E layM_3 dX8_join_62 hf (fun hf => ?_)
            refine g_iald (pc := 63) C E layM_5 dX8_join_63 hf (fun hf => ?_)
            refine g_iadd (pc := 64) C dX8_join_64 ?_
            refine g_bipush (pc := 65) C dX8_join_65 cb_6 ?_
            refine g_icmp_le (pc := 67) (tgt := 73) C dX8_join_67 rfl hf (fun _ hf => ?_) (fun _ hf => ?_)
            · refine g_aload_n (pc := 73) (i := 0) (j := 0) C dX8_join_73 rfl rfl ?_
              refine g_aload_n (pc := 74) (i := 0) (j := 0) C dX8_join_74 rfl rfl ?_
              refine g_getr (pc := 75) (j := 2) C E fdX8_13 layM_0_2 dX8_join_75 ?_
              refine g_iload_n (pc := 78) (i := 1) (j := 1) C dX8_join_78 rfl rfl ?_
              refine g_iald (pc := 79) C E layM_2 dX8_join_79 hf (fun hf => ?_)
              refine g_aload_n (pc := 80) (i := 0) (j := 0) C dX8_join_80 rfl rfl ?_
              refine g_getr (pc := 81) (j := 2) C E fdX8_13 layM_0_2 dX8_join_81 ?_
              refine g_iload_n (pc := 84) (i := 2) (j := 2) C dX8_join_84 rfl rfl ?_
              refine g_iald (pc := 85) C E layM_2 dX8_join_85 hf (fun hf => ?_)
              refine g_cpi (pc := 86) (st := [.ref (ea ε 0)]) C lkX8_389 (As := [.int (μ.1 2 (Int32.toNatClampNeg p1)), .int (μ.1 2 (Int32.toNatClampNeg p2))]) rfl (fun out h => kX8_joinedKind (kl κ) (μ.1 2 (Int32.toNatClampNeg p1)) (μ.1 2 (Int32.toNatClampNeg p2)) out h) (by decide) rfl (Nat.le_of_ble_eq_true rfl) dX8_join_86 hf (fun r86 _ hf => ?_)
              refine g_puti (pc := 89) C E fdX8_195 layM_0_32 dX8_join_89 ?_
              refine g_aload_n (pc := 92) (i := 0) (j := 0) C dX8_join_92 rfl rfl ?_
              refine g_iconst (pc := 93) C dX8_join_93 ci_0 ?_
              refine g_puti (pc := 94) C E fdX8_192 layM_0_33 dX8_join_94 ?_
              refine g_aload_n (pc := 97) (i := 0) (j := 0) C dX8_join_97 rfl rfl ?_
              refine g_aload_n (pc := 98) (i := 0) (j := 0) C dX8_join_98 rfl rfl ?_
              refine g_getr (pc := 99) (j := 3) C E fdX8_16 layM_0_3 dX8_join_99 ?_
              refine g_iload_n (pc := 102) (i := 1) (j := 1) C dX8_join_102 rfl rfl ?_
              refine g_iald (pc := 103) C E layM_3 dX8_join_103 hf (fun hf => ?_)
              refine g_cwv (pc := 104) (st := []) C E layM_0 lkX8_392 (As := [.int ((wI (wI μ 0 32 r86) 0 33 (0 : Int32)).1 3 (Int32.toNatClampNeg p1))]) rfl (fun out h => kX8_joinCells (kl κ) ε ((wI (wI μ 0 32 r86) 0 33 (0 : Int32)).1 3 (Int32.toNatClampNeg p1)) (wI (wI μ 0 32 r86) 0 33 (0 : Int32)) out h) (by decide) rfl (Nat.le_of_ble_eq_true rfl) dX8_join_104 hf (fun μ104 _ hf => ?_)
              refine g_aload_n (pc := 107) (i := 0) (j := 0) C dX8_join_107 rfl rfl ?_
              refine g_aload_n (pc := 108) (i := 0) (j := 0) C dX8_join_108 rfl rfl ?_
              refine g_getr (pc := 109) (j := 3) C E fdX8_16 layM_0_3 dX8_join_109 ?_
              refine g_iload_n (pc := 112) (i := 2) (j := 2) C dX8_join_112 rfl rfl ?_
              refine g_iald (pc := 113) C E layM_3 dX8_join_113 hf (fun hf => ?_)
              refine g_cwv (pc := 114) (st := []) C E layM_0 lkX8_392 (As := [.int (μ104.1 3 (Int32.toNatClampNeg p2))]) rfl (fun out h => kX8_joinCells (kl κ) ε (μ104.1 3 (Int32.toNatClampNeg p2)) μ104 out h) (by decide) rfl (Nat.le_of_ble_eq_true rfl) dX8_join_114 hf (fun μ114 _ hf => ?_)
              refine g_aload_n (pc := 117) (i := 0) (j := 0) C dX8_join_117 rfl rfl ?_
              refine g_iload_n (pc := 118) (i := 3) (j := 3) C dX8_join_118 rfl rfl ?_
              refine g_cwv (pc := 119) (st := []) C E layM_0 lkX8_245 (As := [.int p3]) rfl (fun out h => kX8_holdNew (kl κ) ε p3 μ114 out h) (by decide) rfl (Nat.le_of_ble_eq_true rfl) dX8_join_119 hf (fun μ119 _ hf => ?_)
              refine g_aload_n (pc := 122) (i := 0) (j := 0) C dX8_join_122 rfl rfl ?_
              refine g_geti (pc := 123) C E fdX8_195 layM_0_32 dX8_join_123 ?_
              exact g_iretw (pc := 126) C hQ dX8_join_126 hf
            · refine g_bipush (pc := 70) C dX8_join_70 cb_m4 ?_
              exact g_iretw (pc := 72) C hQ dX8_join_72 hf
          · refine g_bipush (pc := 39) C dX8_join_39 cb_m3 ?_
            exact g_iretw (pc := 41) C hQ dX8_join_41 hf
      · refine g_iconst (pc := 21) C dX8_join_21 ci_m1 ?_
        exact g_iretw (pc := 22) C hQ dX8_join_22 hf
theorem dX8_reasonToLay_0 : decode cX8_reasonToLay 0 = .ok (.aload_n 0, 1) := by decide +kernel
theorem dX8_reasonToLay_1 : decode cX8_reasonToLay 1 = .ok (.iload_n 1, 1) := by decide +kernel
theorem dX8_reasonToLay_2 : decode cX8_reasonToLay 2 = .ok (.invokevirtual 317, 3) := by decide +kernel
theorem dX8_reasonToLay_5 : decode cX8_reasonToLay 5 = .ok (.istore 7, 2) := by decide +kernel
theorem dX8_reasonToLay_7 : decode cX8_reasonToLay 7 = .ok (.iload 7, 2) := by decide +kernel
theorem dX8_reasonToLay_9 : decode cX8_reasonToLay 9 = .ok (.ifCond .eq 6, 3) := by decide +kernel
theorem dX8_reasonToLay_12 : decode cX8_reasonToLay 12 = .ok (.iload 7, 2) := by decide +kernel
theorem dX8_reasonToLay_14 : decode cX8_reasonToLay 14 = .ok (.ireturn, 1) := by decide +kernel
theorem dX8_reasonToLay_15 : decode cX8_reasonToLay 15 = .ok (.aload_n 0, 1) := by decide +kernel
theorem dX8_reasonToLay_16 : decode cX8_reasonToLay 16 = .ok (.getfield 16, 3) := by decide +kernel
theorem dX8_reasonToLay_19 : decode cX8_reasonToLay 19 = .ok (.iload_n 1, 1) := by decide +kernel
theorem dX8_reasonToLay_20 : decode cX8_reasonToLay 20 = .ok (.iaload, 1) := by decide +kernel
theorem dX8_reasonToLay_21 : decode cX8_reasonToLay 21 = .ok (.istore 8, 2) := by decide +kernel
theorem dX8_reasonToLay_23 : decode cX8_reasonToLay 23 = .ok (.aload_n 0, 1) := by decide +kernel
theorem dX8_reasonToLay_24 : decode cX8_reasonToLay 24 = .ok (.aload_n 0, 1) := by decide +kernel
theorem dX8_reasonToLay_25 : decode cX8_reasonToLay 25 = .ok (.getfield 19, 3) := by decide +kernel
theorem dX8_reasonToLay_28 : decode cX8_reasonToLay 28 = .ok (.iload 8, 2) := by decide +kernel
theorem dX8_reasonToLay_30 : decode cX8_reasonToLay 30 = .ok (.iaload, 1) := by decide +kernel
theorem dX8_reasonToLay_31 : decode cX8_reasonToLay 31 = .ok (.iload_n 3, 1) := by decide +kernel
theorem dX8_reasonToLay_32 : decode cX8_reasonToLay 32 = .ok (.iload 4, 2) := by decide +kernel
theorem dX8_reasonToLay_34 : decode cX8_reasonToLay 34 = .ok (.lload 5, 2) := by decide +kernel
theorem dX8_reasonToLay_36 : decode cX8_reasonToLay 36 = .ok (.invokevirtual 328, 3) := by decide +kernel
theorem dX8_reasonToLay_39 : decode cX8_reasonToLay 39 = .ok (.istore 9, 2) := by decide +kernel
theorem dX8_reasonToLay_41 : decode cX8_reasonToLay 41 = .ok (.iload 9, 2) := by decide +kernel
theorem dX8_reasonToLay_43 : decode cX8_reasonToLay 43 = .ok (.bipush 7, 2) := by decide +kernel
theorem dX8_reasonToLay_45 : decode cX8_reasonToLay 45 = .ok (.if_icmp .ne 8, 3) := by decide +kernel
theorem dX8_reasonToLay_48 : decode cX8_reasonToLay 48 = .ok (.iload 9, 2) := by decide +kernel
theorem dX8_reasonToLay_50 : decode cX8_reasonToLay 50 = .ok (.goto 32, 3) := by decide +kernel
theorem dX8_reasonToLay_53 : decode cX8_reasonToLay 53 = .ok (.iload 9, 2) := by decide +kernel
theorem dX8_reasonToLay_55 : decode cX8_reasonToLay 55 = .ok (.iload_n 2, 1) := by decide +kernel
theorem dX8_reasonToLay_56 : decode cX8_reasonToLay 56 = .ok (.i2l, 1) := by decide +kernel
theorem dX8_reasonToLay_57 : decode cX8_reasonToLay 57 = .ok (.lconst 0, 1) := by decide +kernel
theorem dX8_reasonToLay_58 : decode cX8_reasonToLay 58 = .ok (.aload_n 0, 1) := by decide +kernel
theorem dX8_reasonToLay_59 : decode cX8_reasonToLay 59 = .ok (.getfield 22, 3) := by decide +kernel
theorem dX8_reasonToLay_62 : decode cX8_reasonToLay 62 = .ok (.iload 8, 2) := by decide +kernel
theorem dX8_reasonToLay_64 : decode cX8_reasonToLay 64 = .ok (.iaload, 1) := by decide +kernel
theorem dX8_reasonToLay_65 : decode cX8_reasonToLay 65 = .ok (.iconst 1, 1) := by decide +kernel
theorem dX8_reasonToLay_66 : decode cX8_reasonToLay 66 = .ok (.isub, 1) := by decide +kernel
theorem dX8_reasonToLay_67 : decode cX8_reasonToLay 67 = .ok (.i2l, 1) := by decide +kernel
theorem dX8_reasonToLay_68 : decode cX8_reasonToLay 68 = .ok (.invokestatic 98, 3) := by decide +kernel
theorem dX8_reasonToLay_71 : decode cX8_reasonToLay 71 = .ok (.ifCond .ne 7, 3) := by decide +kernel
theorem dX8_reasonToLay_74 : decode cX8_reasonToLay 74 = .ok (.iconst 1, 1) := by decide +kernel
theorem dX8_reasonToLay_75 : decode cX8_reasonToLay 75 = .ok (.goto 4, 3) := by decide +kernel
theorem dX8_reasonToLay_78 : decode cX8_reasonToLay 78 = .ok (.iconst 0, 1) := by decide +kernel
theorem dX8_reasonToLay_79 : decode cX8_reasonToLay 79 = .ok (.invokestatic 324, 3) := by decide +kernel
theorem dX8_reasonToLay_82 : decode cX8_reasonToLay 82 = .ok (.ireturn, 1) := by decide +kernel
def fX8_reasonToLay_b79 (μ : Mm) (s0 : Int32) (s1 : Int32) : Option Int32 := ((fX8_withOut s1 s0).bind fun r79 => some r79)
def fX8_reasonToLay (p1 : Int32) (p2 : Int32) (p3 : Int32) (p4 : Int32) (p5 : Int64) (μ : Mm) : Option Int32 := ((fX8_reasonOf p1 μ).bind fun r2 => (if r2 = 0 then (if inb p1 10 = true then (if inb (μ.1 3 (Int32.toNatClampNeg p1)) 11 = true then ((fX8_bring (μ.1 4 (Int32.toNatClampNeg (μ.1 3 (Int32.toNatClampNeg p1)))) p3 p4 p5 μ).bind fun r36 => (if r36 = (7 : Int32) then some r36 else (if inb (μ.1 3 (Int32.toNatClampNeg p1)) 11 = true then ((fX8_in (Int32.toInt64 p2) (0 : Int64) (Int32.toInt64 ((μ.1 5 (Int32.toNatClampNeg (μ.1 3 (Int32.toNatClampNeg p1)))) - (1 : Int32)))).bind fun r68 => (if r68 = 0 then fX8_reasonToLay_b79 μ (1 : Int32) r36 else fX8_reasonToLay_b79 μ (0 : Int32) r36)) else none))) else none) else none) else some r2))
set_option maxRecDepth 100000 in
set_option maxHeartbeats 4000000 in
theorem kX8_reasonToLay (l : Launch) (ε : Ev) (p1 : Int32) (p2 : Int32) (p3 : Int32) (p4 : Int32) (p5 : Int64) (μ : Mm) (out : Int32) (hf : fX8_reasonToLay p1 p2 p3 p4 p5 μ = some out) : Sp l ε layM yX8_reasonToLay cX8_reasonToLay 10 (some .int) 3 [.ref (ea ε 0), .int p1, .int p2, .int p3, .int p4, .long p5] (some (.int out)) μ μ := by
  refine Sp.of [(0, .ref (ea ε 0)), (1, .int p1), (2, .int p2), (3, .int p3), (4, .int p4), (5, .long p5)] rfl (by decide +kernel) (Nat.le_of_ble_eq_true rfl) ?_
  intro κ hκ C E hQ
  subst hκ
  replace C : Cf κ cX8_reasonToLay 10 RX8 (some .int) 3 := C
  have b79 : ∀ (s0 : Int32) (s1 : Int32) , fX8_reasonToLay_b79 μ s0 s1 = some out → G κ (Vw κ ε layM μ) 10 79 [] [.int s0, .int s1] := by
    intro s0 s1 hf
    refine g_cpi (pc := 79) (st := []) C lkX8_324 (As := [.int s1, .int s0]) rfl (fun out h => kX8_withOut (kl κ) s1 s0 out h) (by decide) rfl (Nat.le_of_ble_eq_true rfl) dX8_reasonToLay_79 hf (fun r79 _ hf => ?_)
    exact g_iretr (pc := 82) C hQ dX8_reasonToLay_82 hf
  refine g_aload_n (pc := 0) (i := 0) (j := 0) C dX8_reasonToLay_0 rfl rfl ?_
  refine g_iload_n (pc := 1) (i := 1) (j := 1) C dX8_reasonToLay_1 rfl rfl ?_
  refine g_cri (pc := 2) (st := []) C E layM_0 lkX8_317 (As := [.int p1]) rfl (fun out h => kX8_reasonOf (kl κ) ε p1 μ out h) (by decide) rfl (Nat.le_of_ble_eq_true rfl) dX8_reasonToLay_2 hf (fun r2 _ hf => ?_)
  refine g_istore (pc := 5) (i := 7) (L' := [(7, .int r2), (0, .ref (ea ε 0)), (1, .int p1), (2, .int p2), (3, .int p3), (4, .int p4), (5, .long p5)]) C dX8_reasonToLay_5 (by decide) rfl ?_
  refine g_iload (pc := 7) (i := 7) (j := 0) C dX8_reasonToLay_7 rfl ?_
  refine g_if_eq (pc := 9) (tgt := 15) C dX8_reasonToLay_9 rfl hf (fun _ hf => ?_) (fun _ hf => ?_)
  · refine g_aload_n (pc := 15) (i := 0) (j := 1) C dX8_reasonToLay_15 rfl rfl ?_
    refine g_getr (pc := 16) (j := 3) C E fdX8_16 layM_0_3 dX8_reasonToLay_16 ?_
    refine g_iload_n (pc := 19) (i := 1) (j := 2) C dX8_reasonToLay_19 rfl rfl ?_
    refine g_iald (pc := 20) C E layM_3 dX8_reasonToLay_20 hf (fun hf => ?_)
    refine g_istore (pc := 21) (i := 8) (L' := [(8, .int (μ.1 3 (Int32.toNatClampNeg p1))), (7, .int r2), (0, .ref (ea ε 0)), (1, .int p1), (2, .int p2), (3, .int p3), (4, .int p4), (5, .long p5)]) C dX8_reasonToLay_21 (by decide) rfl ?_
    refine g_aload_n (pc := 23) (i := 0) (j := 2) C dX8_reasonToLay_23 rfl rfl ?_
    refine g_aload_n (pc := 24) (i := 0) (j := 2) C dX8_reasonToLay_24 rfl rfl ?_
    refine g_getr (pc := 25) (j := 4) C E fdX8_19 layM_0_4 dX8_reasonToLay_25 ?_
    refine g_iload (pc := 28) (i := 8) (j := 0) C dX8_reasonToLay_28 rfl ?_
    refine g_iald (pc := 30) C E layM_4 dX8_reasonToLay_30 hf (fun hf => ?_)
    refine g_iload_n (pc := 31) (i := 3) (j := 5) C dX8_reasonToLay_31 rfl rfl ?_
    refine g_iload (pc := 32) (i := 4) (j := 6) C dX8_reasonToLay_32 rfl ?_
    refine g_lload (pc := 34) (i := 5) (j := 7) C dX8_reasonToLay_34 rfl ?_
    refine g_cri (pc := 36) (st := []) C E layM_0 lkX8_328 (As := [.int (μ.1 4 (Int32.toNatClampNeg (μ.1 3 (Int32.toNatClampNeg p1)))), .int p3, .int p4, .long p5]) rfl (fun out h => kX8_bring (kl κ) ε (μ.1 4 (Int32.toNatClampNeg (μ.1 3 (Int32.toNatClampNeg p1)))) p3 p4 p5 μ out h) (by decide) rfl (Nat.le_of_ble_eq_true rfl) dX8_reasonToLay_36 hf (fun r36 _ hf => ?_)
    refine g_istore (pc := 39) (i := 9) (L' := [(9, .int r36), (8, .int (μ.1 3 (Int32.toNatClampNeg p1))), (7, .int r2), (0, .ref (ea ε 0)), (1, .int p1), (2, .int p2), (3, .int p3), (4, .int p4), (5, .long p5)]) C dX8_reasonToLay_39 (by decide) rfl ?_
    refine g_iload (pc := 41) (i := 9) (j := 0) C dX8_reasonToLay_41 rfl ?_
    refine g_bipush (pc := 43) C dX8_reasonToLay_43 cb_7 ?_
    refine g_icmp_ne (pc := 45) (tgt := 53) C dX8_reasonToLay_45 rfl hf (fun _ hf => ?_) (fun _ hf => ?_)
    · refine g_iload (pc := 53) (i := 9) (j := 0) C dX8_reasonToLay_53 rfl ?_
      refine g_iload_n (pc := 55) (i := 2) (j := 5) C dX8_reasonToLay_55 rfl rfl ?_
      refine g_i2l (pc := 56) C dX8_reasonToLay_56 ?_
      refine g_lconst (pc := 57) C dX8_reasonToLay_57 cl_0 ?_
      refine g_aload_n (pc := 58) (i := 0) (j := 3) C dX8_reasonToLay_58 rfl rfl ?_
      refine g_getr (pc := 59) (j := 5) C E fdX8_22 layM_0_5 dX8_reasonToLay_59 ?_
      refine g_iload (pc := 62) (i := 8) (j := 1) C dX8_reasonToLay_62 rfl ?_
      refine g_iald (pc := 64) C E layM_5 dX8_reasonToLay_64 hf (fun hf => ?_)
      refine g_iconst (pc := 65) C dX8_reasonToLay_65 ci_1 ?_
      refine g_isub (pc := 66) C dX8_reasonToLay_66 ?_
      refine g_i2l (pc := 67) C dX8_reasonToLay_67 ?_
      refine g_cpi (pc := 68) (st := [.int r36]) C lkX8_98 (As := [.long (Int32.toInt64 p2), .long (0 : Int64), .long (Int32.toInt64 ((μ.1 5 (Int32.toNatClampNeg (μ.1 3 (Int32.toNatClampNeg p1)))) - (1 : Int32)))]) rfl (fun out h => kX8_in (kl κ) (Int32.toInt64 p2) (0 : Int64) (Int32.toInt64 ((μ.1 5 (Int32.toNatClampNeg (μ.1 3 (Int32.toNatClampNeg p1)))) - (1 : Int32))) out h) (by decide) rfl (Nat.le_of_ble_eq_true rfl) dX8_reasonToLay_68 hf (fun r68 _ hf => ?_)
      refine g_if_ne (pc := 71) (tgt := 78) C dX8_reasonToLay_71 rfl hf (fun _ hf => ?_) (fun _ hf => ?_)
      · refine g_iconst (pc := 78) C dX8_reasonToLay_78 ci_0 ?_
        exact g_at [] rfl (b79 (0 : Int32) r36 hf)
      · refine g_iconst (pc := 74) C dX8_reasonToLay_74 ci_1 ?_
        refine g_goto (pc := 75) (tgt := 79) C dX8_reasonToLay_75 rfl ?_
        exact g_at [] rfl (b79 (1 : Int32) r36 hf)
    · refine g_iload (pc := 48) (i := 9) (j := 0) C dX8_reasonToLay_48 rfl ?_
      refine g_goto (pc := 50) (tgt := 82) C dX8_reasonToLay_50 rfl ?_
      exact g_iretr (pc := 82) C hQ dX8_reasonToLay_82 hf
  · refine g_iload (pc := 12) (i := 7) (j := 0) C dX8_reasonToLay_12 rfl ?_
    exact g_iretr (pc := 14) C hQ dX8_reasonToLay_14 hf
theorem dX8_lay_0 : decode cX8_lay 0 = .ok (.iload_n 1, 1) := by decide +kernel
theorem dX8_lay_1 : decode cX8_lay 1 = .ok (.invokestatic 242, 3) := by decide +kernel
theorem dX8_lay_4 : decode cX8_lay 4 = .ok (.ifCond .ne 5, 3) := by decide +kernel
theorem dX8_lay_7 : decode cX8_lay 7 = .ok (.iconst (-1), 1) := by decide +kernel
theorem dX8_lay_8 : decode cX8_lay 8 = .ok (.ireturn, 1) := by decide +kernel
theorem dX8_lay_9 : decode cX8_lay 9 = .ok (.aload_n 0, 1) := by decide +kernel
theorem dX8_lay_10 : decode cX8_lay 10 = .ok (.iload_n 1, 1) := by decide +kernel
theorem dX8_lay_11 : decode cX8_lay 11 = .ok (.iload_n 2, 1) := by decide +kernel
theorem dX8_lay_12 : decode cX8_lay 12 = .ok (.aload_n 0, 1) := by decide +kernel
theorem dX8_lay_13 : decode cX8_lay 13 = .ok (.getfield 296, 3) := by decide +kernel
theorem dX8_lay_16 : decode cX8_lay 16 = .ok (.aload_n 0, 1) := by decide +kernel
theorem dX8_lay_17 : decode cX8_lay 17 = .ok (.getfield 299, 3) := by decide +kernel
theorem dX8_lay_20 : decode cX8_lay 20 = .ok (.aload_n 0, 1) := by decide +kernel
theorem dX8_lay_21 : decode cX8_lay 21 = .ok (.getfield 302, 3) := by decide +kernel
theorem dX8_lay_24 : decode cX8_lay 24 = .ok (.invokevirtual 342, 3) := by decide +kernel
theorem dX8_lay_27 : decode cX8_lay 27 = .ok (.istore_n 3, 1) := by decide +kernel
theorem dX8_lay_28 : decode cX8_lay 28 = .ok (.iload_n 3, 1) := by decide +kernel
theorem dX8_lay_29 : decode cX8_lay 29 = .ok (.ifCond .ne 30, 3) := by decide +kernel
theorem dX8_lay_32 : decode cX8_lay 32 = .ok (.aload_n 0, 1) := by decide +kernel
theorem dX8_lay_33 : decode cX8_lay 33 = .ok (.invokevirtual 236, 3) := by decide +kernel
theorem dX8_lay_36 : decode cX8_lay 36 = .ok (.aload_n 0, 1) := by decide +kernel
theorem dX8_lay_37 : decode cX8_lay 37 = .ok (.aload_n 0, 1) := by decide +kernel
theorem dX8_lay_38 : decode cX8_lay 38 = .ok (.getfield 16, 3) := by decide +kernel
theorem dX8_lay_41 : decode cX8_lay 41 = .ok (.iload_n 1, 1) := by decide +kernel
theorem dX8_lay_42 : decode cX8_lay 42 = .ok (.iaload, 1) := by decide +kernel
theorem dX8_lay_43 : decode cX8_lay 43 = .ok (.iload_n 2, 1) := by decide +kernel
theorem dX8_lay_44 : decode cX8_lay 44 = .ok (.aload_n 0, 1) := by decide +kernel
theorem dX8_lay_45 : decode cX8_lay 45 = .ok (.getfield 296, 3) := by decide +kernel
theorem dX8_lay_48 : decode cX8_lay 48 = .ok (.aload_n 0, 1) := by decide +kernel
theorem dX8_lay_49 : decode cX8_lay 49 = .ok (.getfield 299, 3) := by decide +kernel
theorem dX8_lay_52 : decode cX8_lay 52 = .ok (.aload_n 0, 1) := by decide +kernel
theorem dX8_lay_53 : decode cX8_lay 53 = .ok (.getfield 302, 3) := by decide +kernel
theorem dX8_lay_56 : decode cX8_lay 56 = .ok (.invokevirtual 346, 3) := by decide +kernel
theorem dX8_lay_59 : decode cX8_lay 59 = .ok (.iload_n 3, 1) := by decide +kernel
theorem dX8_lay_60 : decode cX8_lay 60 = .ok (.ireturn, 1) := by decide +kernel
def fX8_lay (p1 : Int32) (p2 : Int32) (μ : Mm) : Option (Int32 × Mm) := ((fX8_isSlot p1).bind fun r1 => (if r1 = 0 then some ((-1 : Int32), μ) else ((fX8_reasonToLay p1 p2 (μ.1 0 12) (μ.1 0 13) (μ.2 0 14) μ).bind fun r24 => (if r24 = 0 then ((fX8_note μ).bind fun μ33 => (if inb p1 10 = true then ((fX8_put (μ33.1 3 (Int32.toNatClampNeg p1)) p2 (μ33.1 0 12) (μ33.1 0 13) (μ33.2 0 14) μ33).bind fun μ56 => some (r24, μ56)) else none)) else some (r24, μ)))))
set_option maxRecDepth 100000 in
set_option maxHeartbeats 4000000 in
theorem kX8_lay (l : Launch) (ε : Ev) (p1 : Int32) (p2 : Int32) (μ : Mm) (out : (Int32 × Mm)) (hf : fX8_lay p1 p2 μ = some out) : Sp l ε layM yX8_lay cX8_lay 4 (some .int) 4 [.ref (ea ε 0), .int p1, .int p2] (some (.int out.1)) μ out.2 := by
  refine Sp.of [(0, .ref (ea ε 0)), (1, .int p1), (2, .int p2)] rfl (by decide +kernel) (Nat.le_of_ble_eq_true rfl) ?_
  intro κ hκ C E hQ
  subst hκ
  replace C : Cf κ cX8_lay 4 RX8 (some .int) 4 := C
  refine g_iload_n (pc := 0) (i := 1) (j := 1) C dX8_lay_0 rfl rfl ?_
  refine g_cpi (pc := 1) (st := []) C lkX8_242 (As := [.int p1]) rfl (fun out h => kX8_isSlot (kl κ) p1 out h) (by decide) rfl (Nat.le_of_ble_eq_true rfl) dX8_lay_1 hf (fun r1 _ hf => ?_)
  refine g_if_ne (pc := 4) (tgt := 9) C dX8_lay_4 rfl hf (fun _ hf => ?_) (fun _ hf => ?_)
  · refine g_aload_n (pc := 9) (i := 0) (j := 0) C dX8_lay_9 rfl rfl ?_
    refine g_iload_n (pc := 10) (i := 1) (j := 1) C dX8_lay_10 rfl rfl ?_
    refine g_iload_n (pc := 11) (i := 2) (j := 2) C dX8_lay_11 rfl rfl ?_
    refine g_aload_n (pc := 12) (i := 0) (j := 0) C dX8_lay_12 rfl rfl ?_
    refine g_geti (pc := 13) C E fdX8_296 layM_0_12 dX8_lay_13 ?_
    refine g_aload_n (pc := 16) (i := 0) (j := 0) C dX8_lay_16 rfl rfl ?_
    refine g_geti (pc := 17) C E fdX8_299 layM_0_13 dX8_lay_17 ?_
    refine g_aload_n (pc := 20) (i := 0) (j := 0) C dX8_lay_20 rfl rfl ?_
    refine g_getl (pc := 21) C E fdX8_302 layM_0_14 dX8_lay_21 ?_
    refine g_cri (pc := 24) (st := []) C E layM_0 lkX8_342 (As := [.int p1, .int p2, .int (μ.1 0 12), .int (μ.1 0 13), .long (μ.2 0 14)]) rfl (fun out h => kX8_reasonToLay (kl κ) ε p1 p2 (μ.1 0 12) (μ.1 0 13) (μ.2 0 14) μ out h) (by decide) rfl (Nat.le_of_ble_eq_true rfl) dX8_lay_24 hf (fun r24 _ hf => ?_)
    refine g_istore_n (pc := 27) (i := 3) (L' := [(3, .int r24), (0, .ref (ea ε 0)), (1, .int p1), (2, .int p2)]) C dX8_lay_27 rfl (by decide) rfl ?_
    refine g_iload_n (pc := 28) (i := 3) (j := 0) C dX8_lay_28 rfl rfl ?_
    refine g_if_ne (pc := 29) (tgt := 59) C dX8_lay_29 rfl hf (fun _ hf => ?_) (fun _ hf => ?_)
    · refine g_iload_n (pc := 59) (i := 3) (j := 0) C dX8_lay_59 rfl rfl ?_
      exact g_iretw (pc := 60) C hQ dX8_lay_60 hf
    · refine g_aload_n (pc := 32) (i := 0) (j := 1) C dX8_lay_32 rfl rfl ?_
      refine g_cwv (pc := 33) (st := []) C E layM_0 lkX8_236 (As := []) rfl (fun out h => kX8_note (kl κ) ε μ out h) (by decide) rfl (Nat.le_of_ble_eq_true rfl) dX8_lay_33 hf (fun μ33 _ hf => ?_)
      refine g_aload_n (pc := 36) (i := 0) (j := 1) C dX8_lay_36 rfl rfl ?_
      refine g_aload_n (pc := 37) (i := 0) (j := 1) C dX8_lay_37 rfl rfl ?_
      refine g_getr (pc := 38) (j := 3) C E fdX8_16 layM_0_3 dX8_lay_38 ?_
      refine g_iload_n (pc := 41) (i := 1) (j := 2) C dX8_lay_41 rfl rfl ?_
      refine g_iald (pc := 42) C E layM_3 dX8_lay_42 hf (fun hf => ?_)
      refine g_iload_n (pc := 43) (i := 2) (j := 3) C dX8_lay_43 rfl rfl ?_
      refine g_aload_n (pc := 44) (i := 0) (j := 1) C dX8_lay_44 rfl rfl ?_
      refine g_geti (pc := 45) C E fdX8_296 layM_0_12 dX8_lay_45 ?_
      refine g_aload_n (pc := 48) (i := 0) (j := 1) C dX8_lay_48 rfl rfl ?_
      refine g_geti (pc := 49) C E fdX8_299 layM_0_13 dX8_lay_49 ?_
      refine g_aload_n (pc := 52) (i := 0) (j := 1) C dX8_lay_52 rfl rfl ?_
      refine g_getl (pc := 53) C E fdX8_302 layM_0_14 dX8_lay_53 ?_
      refine g_cwv (pc := 56) (st := []) C E layM_0 lkX8_346 (As := [.int (μ33.1 3 (Int32.toNatClampNeg p1)), .int p2, .int (μ33.1 0 12), .int (μ33.1 0 13), .long (μ33.2 0 14)]) rfl (fun out h => kX8_put (kl κ) ε (μ33.1 3 (Int32.toNatClampNeg p1)) p2 (μ33.1 0 12) (μ33.1 0 13) (μ33.2 0 14) μ33 out h) (by decide) rfl (Nat.le_of_ble_eq_true rfl) dX8_lay_56 hf (fun μ56 _ hf => ?_)
      refine g_iload_n (pc := 59) (i := 3) (j := 0) C dX8_lay_59 rfl rfl ?_
      exact g_iretw (pc := 60) C hQ dX8_lay_60 hf
  · refine g_iconst (pc := 7) C dX8_lay_7 ci_m1 ?_
    exact g_iretw (pc := 8) C hQ dX8_lay_8 hf
theorem dX8_least_0 : decode cX8_least 0 = .ok (.iload_n 1, 1) := by decide +kernel
theorem dX8_least_1 : decode cX8_least 1 = .ok (.i2l, 1) := by decide +kernel
theorem dX8_least_2 : decode cX8_least 2 = .ok (.lconst 1, 1) := by decide +kernel
theorem dX8_least_3 : decode cX8_least 3 = .ok (.ldc2_w 381, 3) := by decide +kernel
theorem dX8_least_6 : decode cX8_least 6 = .ok (.invokestatic 98, 3) := by decide +kernel
theorem dX8_least_9 : decode cX8_least 9 = .ok (.ifCond .ne 6, 3) := by decide +kernel
theorem dX8_least_12 : decode cX8_least 12 = .ok (.bipush (-2), 2) := by decide +kernel
theorem dX8_least_14 : decode cX8_least 14 = .ok (.ireturn, 1) := by decide +kernel
theorem dX8_least_15 : decode cX8_least 15 = .ok (.iconst 1, 1) := by decide +kernel
theorem dX8_least_16 : decode cX8_least 16 = .ok (.istore_n 2, 1) := by decide +kernel
theorem dX8_least_17 : decode cX8_least 17 = .ok (.iconst 0, 1) := by decide +kernel
theorem dX8_least_18 : decode cX8_least 18 = .ok (.istore_n 3, 1) := by decide +kernel
theorem dX8_least_19 : decode cX8_least 19 = .ok (.iload_n 3, 1) := by decide +kernel
theorem dX8_least_20 : decode cX8_least 20 = .ok (.bipush 10, 2) := by decide +kernel
theorem dX8_least_22 : decode cX8_least 22 = .ok (.if_icmp .ge 35, 3) := by decide +kernel
theorem dX8_least_25 : decode cX8_least 25 = .ok (.iload_n 2, 1) := by decide +kernel
theorem dX8_least_26 : decode cX8_least 26 = .ok (.ifCond .eq 23, 3) := by decide +kernel
theorem dX8_least_29 : decode cX8_least 29 = .ok (.iload_n 1, 1) := by decide +kernel
theorem dX8_least_30 : decode cX8_least 30 = .ok (.iload_n 3, 1) := by decide +kernel
theorem dX8_least_31 : decode cX8_least 31 = .ok (.invokestatic 383, 3) := by decide +kernel
theorem dX8_least_34 : decode cX8_least 34 = .ok (.ifCond .eq 11, 3) := by decide +kernel
theorem dX8_least_37 : decode cX8_least 37 = .ok (.aload_n 0, 1) := by decide +kernel
theorem dX8_least_38 : decode cX8_least 38 = .ok (.iload_n 3, 1) := by decide +kernel
theorem dX8_least_39 : decode cX8_least 39 = .ok (.invokevirtual 350, 3) := by decide +kernel
theorem dX8_least_42 : decode cX8_least 42 = .ok (.ifCond .eq 7, 3) := by decide +kernel
theorem dX8_least_45 : decode cX8_least 45 = .ok (.iconst 1, 1) := by decide +kernel
theorem dX8_least_46 : decode cX8_least 46 = .ok (.goto 4, 3) := by decide +kernel
theorem dX8_least_49 : decode cX8_least 49 = .ok (.iconst 0, 1) := by decide +kernel
theorem dX8_least_50 : decode cX8_least 50 = .ok (.istore_n 2, 1) := by decide +kernel
theorem dX8_least_51 : decode cX8_least 51 = .ok (.iinc 3 1, 3) := by decide +kernel
theorem dX8_least_54 : decode cX8_least 54 = .ok (.goto (-35), 3) := by decide +kernel
theorem dX8_least_57 : decode cX8_least 57 = .ok (.iload_n 2, 1) := by decide +kernel
theorem dX8_least_58 : decode cX8_least 58 = .ok (.ifCond .ne 6, 3) := by decide +kernel
theorem dX8_least_61 : decode cX8_least 61 = .ok (.bipush (-3), 2) := by decide +kernel
theorem dX8_least_63 : decode cX8_least 63 = .ok (.ireturn, 1) := by decide +kernel
theorem dX8_least_64 : decode cX8_least 64 = .ok (.bipush (-9), 2) := by decide +kernel
theorem dX8_least_66 : decode cX8_least 66 = .ok (.istore_n 3, 1) := by decide +kernel
theorem dX8_least_67 : decode cX8_least 67 = .ok (.bipush 7, 2) := by decide +kernel
theorem dX8_least_69 : decode cX8_least 69 = .ok (.istore 4, 2) := by decide +kernel
theorem dX8_least_71 : decode cX8_least 71 = .ok (.iload 4, 2) := by decide +kernel
theorem dX8_least_73 : decode cX8_least 73 = .ok (.ifCond .lt 76, 3) := by decide +kernel
theorem dX8_least_76 : decode cX8_least 76 = .ok (.iconst 1, 1) := by decide +kernel
theorem dX8_least_77 : decode cX8_least 77 = .ok (.istore 5, 2) := by decide +kernel
theorem dX8_least_79 : decode cX8_least 79 = .ok (.iconst 0, 1) := by decide +kernel
theorem dX8_least_80 : decode cX8_least 80 = .ok (.istore 6, 2) := by decide +kernel
theorem dX8_least_82 : decode cX8_least 82 = .ok (.iload 6, 2) := by decide +kernel
theorem dX8_least_84 : decode cX8_least 84 = .ok (.bipush 10, 2) := by decide +kernel
theorem dX8_least_86 : decode cX8_least 86 = .ok (.if_icmp .ge 45, 3) := by decide +kernel
theorem dX8_least_89 : decode cX8_least 89 = .ok (.iload 5, 2) := by decide +kernel
theorem dX8_least_91 : decode cX8_least 91 = .ok (.ifCond .eq 31, 3) := by decide +kernel
theorem dX8_least_94 : decode cX8_least 94 = .ok (.iload_n 1, 1) := by decide +kernel
theorem dX8_least_95 : decode cX8_least 95 = .ok (.iload 6, 2) := by decide +kernel
theorem dX8_least_97 : decode cX8_least 97 = .ok (.invokestatic 383, 3) := by decide +kernel
theorem dX8_least_100 : decode cX8_least 100 = .ok (.ifCond .eq 18, 3) := by decide +kernel
theorem dX8_least_103 : decode cX8_least 103 = .ok (.aload_n 0, 1) := by decide +kernel
theorem dX8_least_104 : decode cX8_least 104 = .ok (.getfield 13, 3) := by decide +kernel
theorem dX8_least_107 : decode cX8_least 107 = .ok (.iload 6, 2) := by decide +kernel
theorem dX8_least_109 : decode cX8_least 109 = .ok (.iaload, 1) := by decide +kernel
theorem dX8_least_110 : decode cX8_least 110 = .ok (.iload 4, 2) := by decide +kernel
theorem dX8_least_112 : decode cX8_least 112 = .ok (.invokestatic 313, 3) := by decide +kernel
theorem dX8_least_115 : decode cX8_least 115 = .ok (.ifCond .eq 7, 3) := by decide +kernel
theorem dX8_least_118 : decode cX8_least 118 = .ok (.iconst 1, 1) := by decide +kernel
theorem dX8_least_119 : decode cX8_least 119 = .ok (.goto 4, 3) := by decide +kernel
theorem dX8_least_122 : decode cX8_least 122 = .ok (.iconst 0, 1) := by decide +kernel
theorem dX8_least_123 : decode cX8_least 123 = .ok (.istore 5, 2) := by decide +kernel
theorem dX8_least_125 : decode cX8_least 125 = .ok (.iinc 6 1, 3) := by decide +kernel
theorem dX8_least_128 : decode cX8_least 128 = .ok (.goto (-46), 3) := by decide +kernel
theorem dX8_least_131 : decode cX8_least 131 = .ok (.iload 5, 2) := by decide +kernel
theorem dX8_least_133 : decode cX8_least 133 = .ok (.ifCond .eq 8, 3) := by decide +kernel
theorem dX8_least_136 : decode cX8_least 136 = .ok (.iload 4, 2) := by decide +kernel
theorem dX8_least_138 : decode cX8_least 138 = .ok (.goto 4, 3) := by decide +kernel
theorem dX8_least_141 : decode cX8_least 141 = .ok (.iload_n 3, 1) := by decide +kernel
theorem dX8_least_142 : decode cX8_least 142 = .ok (.istore_n 3, 1) := by decide +kernel
theorem dX8_least_143 : decode cX8_least 143 = .ok (.iinc 4 (-1), 3) := by decide +kernel
theorem dX8_least_146 : decode cX8_least 146 = .ok (.goto (-75), 3) := by decide +kernel
theorem dX8_least_149 : decode cX8_least 149 = .ok (.iload_n 3, 1) := by decide +kernel
theorem dX8_least_150 : decode cX8_least 150 = .ok (.ireturn, 1) := by decide +kernel
def fX8_least_b142 (μ : Mm) (k71 : Int32 → Int32 → Int32 → Option Int32) (v1 : Int32) (v4 : Int32) (s0 : Int32) : Option Int32 := k71 v1 s0 (v4 + (-1 : Int32))
def fX8_least_b123 (μ : Mm) (k71 : Int32 → Int32 → Int32 → Option Int32) (k82 : Int32 → Int32 → Int32 → Int32 → Int32 → Option Int32) (v1 : Int32) (v3 : Int32) (v4 : Int32) (v6 : Int32) (s0 : Int32) : Option Int32 := k82 v1 v3 v4 s0 (v6 + (1 : Int32))
def fX8_least_b122 (μ : Mm) (k71 : Int32 → Int32 → Int32 → Option Int32) (k82 : Int32 → Int32 → Int32 → Int32 → Int32 → Option Int32) (v1 : Int32) (v3 : Int32) (v4 : Int32) (v6 : Int32) : Option Int32 := fX8_least_b123 μ k71 k82 v1 v3 v4 v6 (0 : Int32)
def fX8_least_b118 (μ : Mm) (k71 : Int32 → Int32 → Int32 → Option Int32) (k82 : Int32 → Int32 → Int32 → Int32 → Int32 → Option Int32) (v1 : Int32) (v3 : Int32) (v4 : Int32) (v6 : Int32) : Option Int32 := fX8_least_b123 μ k71 k82 v1 v3 v4 v6 (1 : Int32)
def fX8_least_b82 (μ : Mm) (k71 : Int32 → Int32 → Int32 → Option Int32) : Nat → Int32 → Int32 → Int32 → Int32 → Int32 → Option Int32
  | 0, _, _, _, _, _ => none
  | n + 1, v1, v3, v4, v5, v6 => (if (10 : Int32) ≤ v6 then (if v5 = 0 then fX8_least_b142 μ k71 v1 v4 v3 else fX8_least_b142 μ k71 v1 v4 v4) else (if v5 = 0 then fX8_least_b122 μ k71 (fX8_least_b82 μ k71 n) v1 v3 v4 v6 else ((fX8_has v1 v6).bind fun r97 => (if r97 = 0 then fX8_least_b118 μ k71 (fX8_least_b82 μ k71 n) v1 v3 v4 v6 else (if inb v6 10 = true then ((fX8_widens (μ.1 2 (Int32.toNatClampNeg v6)) v4).bind fun r112 => (if r112 = 0 then fX8_least_b122 μ k71 (fX8_least_b82 μ k71 n) v1 v3 v4 v6 else fX8_least_b118 μ k71 (fX8_least_b82 μ k71 n) v1 v3 v4 v6)) else none)))))
def fX8_least_b71 (μ : Mm) : Nat → Int32 → Int32 → Int32 → Option Int32
  | 0, _, _, _ => none
  | n + 1, v1, v3, v4 => (if v4 < 0 then some v3 else fX8_least_b82 μ (fX8_least_b71 μ n) 100 v1 v3 v4 (1 : Int32) (0 : Int32))
def fX8_least_b50 (μ : Mm) (k19 : Int32 → Int32 → Int32 → Option Int32) (v1 : Int32) (v3 : Int32) (s0 : Int32) : Option Int32 := k19 v1 s0 (v3 + (1 : Int32))
def fX8_least_b49 (μ : Mm) (k19 : Int32 → Int32 → Int32 → Option Int32) (v1 : Int32) (v3 : Int32) : Option Int32 := fX8_least_b50 μ k19 v1 v3 (0 : Int32)
def fX8_least_b45 (μ : Mm) (k19 : Int32 → Int32 → Int32 → Option Int32) (v1 : Int32) (v3 : Int32) : Option Int32 := fX8_least_b50 μ k19 v1 v3 (1 : Int32)
def fX8_least_b19 (μ : Mm) : Nat → Int32 → Int32 → Int32 → Option Int32
  | 0, _, _, _ => none
  | n + 1, v1, v2, v3 => (if (10 : Int32) ≤ v3 then (if v2 = 0 then some (-3 : Int32) else fX8_least_b71 μ 100 v1 (-9 : Int32) (7 : Int32)) else (if v2 = 0 then fX8_least_b49 μ (fX8_least_b19 μ n) v1 v3 else ((fX8_has v1 v3).bind fun r31 => (if r31 = 0 then fX8_least_b45 μ (fX8_least_b19 μ n) v1 v3 else ((fX8_holdsPlain v3 μ).bind fun r39 => (if r39 = 0 then fX8_least_b49 μ (fX8_least_b19 μ n) v1 v3 else fX8_least_b45 μ (fX8_least_b19 μ n) v1 v3))))))
def fX8_least (p1 : Int32) (μ : Mm) : Option Int32 := ((fX8_in (Int32.toInt64 p1) (1 : Int64) (1023 : Int64)).bind fun r6 => (if r6 = 0 then some (-2 : Int32) else fX8_least_b19 μ 100 p1 (1 : Int32) (0 : Int32)))
set_option maxRecDepth 100000 in
set_option maxHeartbeats 4000000 in
theorem kX8_least (l : Launch) (ε : Ev) (p1 : Int32) (μ : Mm) (out : Int32) (hf : fX8_least p1 μ = some out) : Sp l ε layM yX8_least cX8_least 7 (some .int) 3 [.ref (ea ε 0), .int p1] (some (.int out)) μ μ := by
  refine Sp.of [(0, .ref (ea ε 0)), (1, .int p1)] rfl (by decide +kernel) (Nat.le_of_ble_eq_true rfl) ?_
  intro κ hκ C E hQ
  subst hκ
  replace C : Cf κ cX8_least 7 RX8 (some .int) 3 := C
  have b142 : ∀ (k71 : Int32 → Int32 → Int32 → Option Int32) (hk71 : ∀ (v1 : Int32) (v3 : Int32) (v4 : Int32) , k71 v1 v3 v4 = some out → G κ (Vw κ ε layM μ) 7 71 [(0, .ref (ea ε 0)), (1, .int v1), (3, .int v3), (4, .int v4)] []) (v1 : Int32) (v4 : Int32) (s0 : Int32) , fX8_least_b142 μ k71 v1 v4 s0 = some out → G κ (Vw κ ε layM μ) 7 142 [(0, .ref (ea ε 0)), (1, .int v1), (4, .int v4)] [.int s0] := by
    intro k71 hk71 v1 v4 s0 hf
    refine g_istore_n (pc := 142) (i := 3) (L' := [(3, .int s0), (0, .ref (ea ε 0)), (1, .int v1), (4, .int v4)]) C dX8_least_142 rfl (by decide) rfl ?_
    refine g_iinc (pc := 143) (i := 4) (j := 3) (v := (v4 + (-1 : Int32))) (L' := [(4, .int (v4 + (-1 : Int32))), (3, .int s0), (0, .ref (ea ε 0)), (1, .int v1)]) C dX8_least_143 rfl (cx_m1 _) (by decide) rfl ?_
    refine g_goto (pc := 146) (tgt := 71) C dX8_least_146 rfl ?_
    exact g_at [2, 3, 1, 0] rfl (hk71 v1 s0 (v4 + (-1 : Int32)) hf)
  have b123 : ∀ (k71 : Int32 → Int32 → Int32 → Option Int32) (hk71 : ∀ (v1 : Int32) (v3 : Int32) (v4 : Int32) , k71 v1 v3 v4 = some out → G κ (Vw κ ε layM μ) 7 71 [(0, .ref (ea ε 0)), (1, .int v1), (3, .int v3), (4, .int v4)] []) (k82 : Int32 → Int32 → Int32 → Int32 → Int32 → Option Int32) (hk82 : ∀ (v1 : Int32) (v3 : Int32) (v4 : Int32) (v5 : Int32) (v6 : Int32) , k82 v1 v3 v4 v5 v6 = some out → G κ (Vw κ ε layM μ) 7 82 [(0, .ref (ea ε 0)), (1, .int v1), (3, .int v3), (4, .int v4), (5, .int v5), (6, .int v6)] []) (v1 : Int32) (v3 : Int32) (v4 : Int32) (v6 : Int32) (s0 : Int32) , fX8_least_b123 μ k71 k82 v1 v3 v4 v6 s0 = some out → G κ (Vw κ ε layM μ) 7 123 [(0, .ref (ea ε 0)), (1, .int v1), (3, .int v3), (4, .int v4), (6, .int v6)] [.int s0] := by
    intro k71 hk71 k82 hk82 v1 v3 v4 v6 s0 hf
    refine g_istore (pc := 123) (i := 5) (L' := [(5, .int s0), (0, .ref (ea ε 0)), (1, .int v1), (3, .int v3), (4, .int v4), (6, .int v6)]) C dX8_least_123 (by decide) rfl ?_
    refine g_iinc (pc := 125) (i := 6) (j := 5) (v := (v6 + (1 : Int32))) (L' := [(6, .int (v6 + (1 : Int32))), (5, .int s0), (0, .ref (ea ε 0)), (1, .int v1), (3, .int v3), (4, .int v4)]) C dX8_least_125 rfl (cx_1 _) (by decide) rfl ?_
    refine g_goto (pc := 128) (tgt := 82) C dX8_least_128 rfl ?_
    exact g_at [2, 3, 4, 5, 1, 0] rfl (hk82 v1 v3 v4 s0 (v6 + (1 : Int32)) hf)
  have b122 : ∀ (k71 : Int32 → Int32 → Int32 → Option Int32) (hk71 : ∀ (v1 : Int32) (v3 : Int32) (v4 : Int32) , k71 v1 v3 v4 = some out → G κ (Vw κ ε layM μ) 7 71 [(0, .ref (ea ε 0)), (1, .int v1), (3, .int v3), (4, .int v4)] []) (k82 : Int32 → Int32 → Int32 → Int32 → Int32 → Option Int32) (hk82 : ∀ (v1 : Int32) (v3 : Int32) (v4 : Int32) (v5 : Int32) (v6 : Int32) , k82 v1 v3 v4 v5 v6 = some out → G κ (Vw κ ε layM μ) 7 82 [(0, .ref (ea ε 0)), (1, .int v1), (3, .int v3), (4, .int v4), (5, .int v5), (6, .int v6)] []) (v1 : Int32) (v3 : Int32) (v4 : Int32) (v6 : Int32) , fX8_least_b122 μ k71 k82 v1 v3 v4 v6 = some out → G κ (Vw κ ε layM μ) 7 122 [(0, .ref (ea ε 0)), (1, .int v1), (3, .int v3), (4, .int v4), (6, .int v6)] [] := by
    intro k71 hk71 k82 hk82 v1 v3 v4 v6 hf
    refine g_iconst (pc := 122) C dX8_least_122 ci_0 ?_
    exact b123 k71 hk71 k82 hk82 v1 v3 v4 v6 (0 : Int32) hf
  have b118 : ∀ (k71 : Int32 → Int32 → Int32 → Option Int32) (hk71 : ∀ (v1 : Int32) (v3 : Int32) (v4 : Int32) , k71 v1 v3 v4 = some out → G κ (Vw κ ε layM μ) 7 71 [(0, .ref (ea ε 0)), (1, .int v1), (3, .int v3), (4, .int v4)] []) (k82 : Int32 → Int32 → Int32 → Int32 → Int32 → Option Int32) (hk82 : ∀ (v1 : Int32) (v3 : Int32) (v4 : Int32) (v5 : Int32) (v6 : Int32) , k82 v1 v3 v4 v5 v6 = some out → G κ (Vw κ ε layM μ) 7 82 [(0, .ref (ea ε 0)), (1, .int v1), (3, .int v3), (4, .int v4), (5, .int v5), (6, .int v6)] []) (v1 : Int32) (v3 : Int32) (v4 : Int32) (v6 : Int32) , fX8_least_b118 μ k71 k82 v1 v3 v4 v6 = some out → G κ (Vw κ ε layM μ) 7 118 [(0, .ref (ea ε 0)), (1, .int v1), (3, .int v3), (4, .int v4), (6, .int v6)] [] := by
    intro k71 hk71 k82 hk82 v1 v3 v4 v6 hf
    refine g_iconst (pc := 118) C dX8_least_118 ci_1 ?_
    refine g_goto (pc := 119) (tgt := 123) C dX8_least_119 rfl ?_
    exact b123 k71 hk71 k82 hk82 v1 v3 v4 v6 (1 : Int32) hf
  have b82 : ∀ (k71 : Int32 → Int32 → Int32 → Option Int32) (hk71 : ∀ (v1 : Int32) (v3 : Int32) (v4 : Int32) , k71 v1 v3 v4 = some out → G κ (Vw κ ε layM μ) 7 71 [(0, .ref (ea ε 0)), (1, .int v1), (3, .int v3), (4, .int v4)] []) (n : Nat) (v1 : Int32) (v3 : Int32) (v4 : Int32) (v5 : Int32) (v6 : Int32) , fX8_least_b82 μ k71 n v1 v3 v4 v5 v6 = some out → G κ (Vw κ ε layM μ) 7 82 [(0, .ref (ea ε 0)), (1, .int v1), (3, .int v3), (4, .int v4), (5, .int v5), (6, .int v6)] [] := by
    intro k71 hk71 n
    induction n with
    | zero => intro v1 v3 v4 v5 v6 hf; exact none_ne hf
    | succ n ih =>
      intro v1 v3 v4 v5 v6 hf
      refine g_iload (pc := 82) (i := 6) (j := 5) C dX8_least_82 rfl ?_
      refine g_bipush (pc := 84) C dX8_least_84 cb_10 ?_
      refine g_icmp_ge (pc := 86) (tgt := 131) C dX8_least_86 rfl hf (fun _ hf => ?_) (fun _ hf => ?_)
      · refine g_iload (pc := 131) (i := 5) (j := 4) C dX8_least_131 rfl ?_
        refine g_if_eq (pc := 133) (tgt := 141) C dX8_least_133 rfl hf (fun _ hf => ?_) (fun _ hf => ?_)
        · refine g_iload_n (pc := 141) (i := 3) (j := 2) C dX8_least_141 rfl rfl ?_
          exact g_at [0, 1, 3] rfl (b142 k71 hk71 v1 v4 v3 hf)
        · refine g_iload (pc := 136) (i := 4) (j := 3) C dX8_least_136 rfl ?_
          refine g_goto (pc := 138) (tgt := 142) C dX8_least_138 rfl ?_
          exact g_at [0, 1, 3] rfl (b142 k71 hk71 v1 v4 v4 hf)
      · refine g_iload (pc := 89) (i := 5) (j := 4) C dX8_least_89 rfl ?_
        refine g_if_eq (pc := 91) (tgt := 122) C dX8_least_91 rfl hf (fun _ hf => ?_) (fun _ hf => ?_)
        · exact g_at [0, 1, 2, 3, 5] rfl (b122 k71 hk71 (fX8_least_b82 μ k71 n) ih v1 v3 v4 v6 hf)
        · refine g_iload_n (pc := 94) (i := 1) (j := 1) C dX8_least_94 rfl rfl ?_
          refine g_iload (pc := 95) (i := 6) (j := 5) C dX8_least_95 rfl ?_
          refine g_cpi (pc := 97) (st := []) C lkX8_383 (As := [.int v1, .int v6]) rfl (fun out h => kX8_has (kl κ) v1 v6 out h) (by decide) rfl (Nat.le_of_ble_eq_true rfl) dX8_least_97 hf (fun r97 _ hf => ?_)
          refine g_if_eq (pc := 100) (tgt := 118) C dX8_least_100 rfl hf (fun _ hf => ?_) (fun _ hf => ?_)
          · exact g_at [0, 1, 2, 3, 5] rfl (b118 k71 hk71 (fX8_least_b82 μ k71 n) ih v1 v3 v4 v6 hf)
          · refine g_aload_n (pc := 103) (i := 0) (j := 0) C dX8_least_103 rfl rfl ?_
            refine g_getr (pc := 104) (j := 2) C E fdX8_13 layM_0_2 dX8_least_104 ?_
            refine g_iload (pc := 107) (i := 6) (j := 5) C dX8_least_107 rfl ?_
            refine g_iald (pc := 109) C E layM_2 dX8_least_109 hf (fun hf => ?_)
            refine g_iload (pc := 110) (i := 4) (j := 3) C dX8_least_110 rfl ?_
            refine g_cpi (pc := 112) (st := []) C lkX8_313 (As := [.int (μ.1 2 (Int32.toNatClampNeg v6)), .int v4]) rfl (fun out h => kX8_widens (kl κ) (μ.1 2 (Int32.toNatClampNeg v6)) v4 out h) (by decide) rfl (Nat.le_of_ble_eq_true rfl) dX8_least_112 hf (fun r112 _ hf => ?_)
            refine g_if_eq (pc := 115) (tgt := 122) C dX8_least_115 rfl hf (fun _ hf => ?_) (fun _ hf => ?_)
            · exact g_at [0, 1, 2, 3, 5] rfl (b122 k71 hk71 (fX8_least_b82 μ k71 n) ih v1 v3 v4 v6 hf)
            · exact g_at [0, 1, 2, 3, 5] rfl (b118 k71 hk71 (fX8_least_b82 μ k71 n) ih v1 v3 v4 v6 hf)
  have b71 : ∀ (n : Nat) (v1 : Int32) (v3 : Int32) (v4 : Int32) , fX8_least_b71 μ n v1 v3 v4 = some out → G κ (Vw κ ε layM μ) 7 71 [(0, .ref (ea ε 0)), (1, .int v1), (3, .int v3), (4, .int v4)] [] := by
    intro n
    induction n with
    | zero => intro v1 v3 v4 hf; exact none_ne hf
    | succ n ih =>
      intro v1 v3 v4 hf
      refine g_iload (pc := 71) (i := 4) (j := 3) C dX8_least_71 rfl ?_
      refine g_if_lt (pc := 73) (tgt := 149) C dX8_least_73 rfl hf (fun _ hf => ?_) (fun _ hf => ?_)
      · refine g_iload_n (pc := 149) (i := 3) (j := 2) C dX8_least_149 rfl rfl ?_
        exact g_iretr (pc := 150) C hQ dX8_least_150 hf
      · refine g_iconst (pc := 76) C dX8_least_76 ci_1 ?_
        refine g_istore (pc := 77) (i := 5) (L' := [(5, .int (1 : Int32)), (0, .ref (ea ε 0)), (1, .int v1), (3, .int v3), (4, .int v4)]) C dX8_least_77 (by decide) rfl ?_
        refine g_iconst (pc := 79) C dX8_least_79 ci_0 ?_
        refine g_istore (pc := 80) (i := 6) (L' := [(6, .int (0 : Int32)), (5, .int (1 : Int32)), (0, .ref (ea ε 0)), (1, .int v1), (3, .int v3), (4, .int v4)]) C dX8_least_80 (by decide) rfl ?_
        exact g_at [2, 3, 4, 5, 1, 0] rfl (b82 (fX8_least_b71 μ n) ih 100 v1 v3 v4 (1 : Int32) (0 : Int32) hf)
  have b50 : ∀ (k19 : Int32 → Int32 → Int32 → Option Int32) (hk19 : ∀ (v1 : Int32) (v2 : Int32) (v3 : Int32) , k19 v1 v2 v3 = some out → G κ (Vw κ ε layM μ) 7 19 [(0, .ref (ea ε 0)), (1, .int v1), (2, .int v2), (3, .int v3)] []) (v1 : Int32) (v3 : Int32) (s0 : Int32) , fX8_least_b50 μ k19 v1 v3 s0 = some out → G κ (Vw κ ε layM μ) 7 50 [(0, .ref (ea ε 0)), (1, .int v1), (3, .int v3)] [.int s0] := by
    intro k19 hk19 v1 v3 s0 hf
    refine g_istore_n (pc := 50) (i := 2) (L' := [(2, .int s0), (0, .ref (ea ε 0)), (1, .int v1), (3, .int v3)]) C dX8_least_50 rfl (by decide) rfl ?_
    refine g_iinc (pc := 51) (i := 3) (j := 3) (v := (v3 + (1 : Int32))) (L' := [(3, .int (v3 + (1 : Int32))), (2, .int s0), (0, .ref (ea ε 0)), (1, .int v1)]) C dX8_least_51 rfl (cx_1 _) (by decide) rfl ?_
    refine g_goto (pc := 54) (tgt := 19) C dX8_least_54 rfl ?_
    exact g_at [2, 3, 1, 0] rfl (hk19 v1 s0 (v3 + (1 : Int32)) hf)
  have b49 : ∀ (k19 : Int32 → Int32 → Int32 → Option Int32) (hk19 : ∀ (v1 : Int32) (v2 : Int32) (v3 : Int32) , k19 v1 v2 v3 = some out → G κ (Vw κ ε layM μ) 7 19 [(0, .ref (ea ε 0)), (1, .int v1), (2, .int v2), (3, .int v3)] []) (v1 : Int32) (v3 : Int32) , fX8_least_b49 μ k19 v1 v3 = some out → G κ (Vw κ ε layM μ) 7 49 [(0, .ref (ea ε 0)), (1, .int v1), (3, .int v3)] [] := by
    intro k19 hk19 v1 v3 hf
    refine g_iconst (pc := 49) C dX8_least_49 ci_0 ?_
    exact b50 k19 hk19 v1 v3 (0 : Int32) hf
  have b45 : ∀ (k19 : Int32 → Int32 → Int32 → Option Int32) (hk19 : ∀ (v1 : Int32) (v2 : Int32) (v3 : Int32) , k19 v1 v2 v3 = some out → G κ (Vw κ ε layM μ) 7 19 [(0, .ref (ea ε 0)), (1, .int v1), (2, .int v2), (3, .int v3)] []) (v1 : Int32) (v3 : Int32) , fX8_least_b45 μ k19 v1 v3 = some out → G κ (Vw κ ε layM μ) 7 45 [(0, .ref (ea ε 0)), (1, .int v1), (3, .int v3)] [] := by
    intro k19 hk19 v1 v3 hf
    refine g_iconst (pc := 45) C dX8_least_45 ci_1 ?_
    refine g_goto (pc := 46) (tgt := 50) C dX8_least_46 rfl ?_
    exact b50 k19 hk19 v1 v3 (1 : Int32) hf
  have b19 : ∀ (n : Nat) (v1 : Int32) (v2 : Int32) (v3 : Int32) , fX8_least_b19 μ n v1 v2 v3 = some out → G κ (Vw κ ε layM μ) 7 19 [(0, .ref (ea ε 0)), (1, .int v1), (2, .int v2), (3, .int v3)] [] := by
    intro n
    induction n with
    | zero => intro v1 v2 v3 hf; exact none_ne hf
    | succ n ih =>
      intro v1 v2 v3 hf
      refine g_iload_n (pc := 19) (i := 3) (j := 3) C dX8_least_19 rfl rfl ?_
      refine g_bipush (pc := 20) C dX8_least_20 cb_10 ?_
      refine g_icmp_ge (pc := 22) (tgt := 57) C dX8_least_22 rfl hf (fun _ hf => ?_) (fun _ hf => ?_)
      · refine g_iload_n (pc := 57) (i := 2) (j := 2) C dX8_least_57 rfl rfl ?_
        refine g_if_ne (pc := 58) (tgt := 64) C dX8_least_58 rfl hf (fun _ hf => ?_) (fun _ hf => ?_)
        · refine g_bipush (pc := 64) C dX8_least_64 cb_m9 ?_
          refine g_istore_n (pc := 66) (i := 3) (L' := [(3, .int (-9 : Int32)), (0, .ref (ea ε 0)), (1, .int v1), (2, .int v2)]) C dX8_least_66 rfl (by decide) rfl ?_
          refine g_bipush (pc := 67) C dX8_least_67 cb_7 ?_
          refine g_istore (pc := 69) (i := 4) (L' := [(4, .int (7 : Int32)), (3, .int (-9 : Int32)), (0, .ref (ea ε 0)), (1, .int v1), (2, .int v2)]) C dX8_least_69 (by decide) rfl ?_
          exact g_at [2, 3, 1, 0] rfl (b71 100 v1 (-9 : Int32) (7 : Int32) hf)
        · refine g_bipush (pc := 61) C dX8_least_61 cb_m3 ?_
          exact g_iretr (pc := 63) C hQ dX8_least_63 hf
      · refine g_iload_n (pc := 25) (i := 2) (j := 2) C dX8_least_25 rfl rfl ?_
        refine g_if_eq (pc := 26) (tgt := 49) C dX8_least_26 rfl hf (fun _ hf => ?_) (fun _ hf => ?_)
        · exact g_at [0, 1, 3] rfl (b49 (fX8_least_b19 μ n) ih v1 v3 hf)
        · refine g_iload_n (pc := 29) (i := 1) (j := 1) C dX8_least_29 rfl rfl ?_
          refine g_iload_n (pc := 30) (i := 3) (j := 3) C dX8_least_30 rfl rfl ?_
          refine g_cpi (pc := 31) (st := []) C lkX8_383 (As := [.int v1, .int v3]) rfl (fun out h => kX8_has (kl κ) v1 v3 out h) (by decide) rfl (Nat.le_of_ble_eq_true rfl) dX8_least_31 hf (fun r31 _ hf => ?_)
          refine g_if_eq (pc := 34) (tgt := 45) C dX8_least_34 rfl hf (fun _ hf => ?_) (fun _ hf => ?_)
          · exact g_at [0, 1, 3] rfl (b45 (fX8_least_b19 μ n) ih v1 v3 hf)
          · refine g_aload_n (pc := 37) (i := 0) (j := 0) C dX8_least_37 rfl rfl ?_
            refine g_iload_n (pc := 38) (i := 3) (j := 3) C dX8_least_38 rfl rfl ?_
            refine g_cri (pc := 39) (st := []) C E layM_0 lkX8_350 (As := [.int v3]) rfl (fun out h => kX8_holdsPlain (kl κ) ε v3 μ out h) (by decide) rfl (Nat.le_of_ble_eq_true rfl) dX8_least_39 hf (fun r39 _ hf => ?_)
            refine g_if_eq (pc := 42) (tgt := 49) C dX8_least_42 rfl hf (fun _ hf => ?_) (fun _ hf => ?_)
            · exact g_at [0, 1, 3] rfl (b49 (fX8_least_b19 μ n) ih v1 v3 hf)
            · exact g_at [0, 1, 3] rfl (b45 (fX8_least_b19 μ n) ih v1 v3 hf)
  refine g_iload_n (pc := 0) (i := 1) (j := 1) C dX8_least_0 rfl rfl ?_
  refine g_i2l (pc := 1) C dX8_least_1 ?_
  refine g_lconst (pc := 2) C dX8_least_2 cl_1 ?_
  refine g_ldc2 (pc := 3) C cnX8_381 dX8_least_3 ?_
  refine g_cpi (pc := 6) (st := []) C lkX8_98 (As := [.long (Int32.toInt64 p1), .long (1 : Int64), .long (1023 : Int64)]) rfl (fun out h => kX8_in (kl κ) (Int32.toInt64 p1) (1 : Int64) (1023 : Int64) out h) (by decide) rfl (Nat.le_of_ble_eq_true rfl) dX8_least_6 hf (fun r6 _ hf => ?_)
  refine g_if_ne (pc := 9) (tgt := 15) C dX8_least_9 rfl hf (fun _ hf => ?_) (fun _ hf => ?_)
  · refine g_iconst (pc := 15) C dX8_least_15 ci_1 ?_
    refine g_istore_n (pc := 16) (i := 2) (L' := [(2, .int (1 : Int32)), (0, .ref (ea ε 0)), (1, .int p1)]) C dX8_least_16 rfl (by decide) rfl ?_
    refine g_iconst (pc := 17) C dX8_least_17 ci_0 ?_
    refine g_istore_n (pc := 18) (i := 3) (L' := [(3, .int (0 : Int32)), (2, .int (1 : Int32)), (0, .ref (ea ε 0)), (1, .int p1)]) C dX8_least_18 rfl (by decide) rfl ?_
    exact g_at [2, 3, 1, 0] rfl (b19 100 p1 (1 : Int32) (0 : Int32) hf)
  · refine g_bipush (pc := 12) C dX8_least_12 cb_m2 ?_
    exact g_iretr (pc := 14) C hQ dX8_least_14 hf
theorem dX8_make_0 : decode cX8_make 0 = .ok (.iload_n 1, 1) := by decide +kernel
theorem dX8_make_1 : decode cX8_make 1 = .ok (.invokestatic 242, 3) := by decide +kernel
theorem dX8_make_4 : decode cX8_make 4 = .ok (.ifCond .ne 5, 3) := by decide +kernel
theorem dX8_make_7 : decode cX8_make 7 = .ok (.iconst (-1), 1) := by decide +kernel
theorem dX8_make_8 : decode cX8_make 8 = .ok (.ireturn, 1) := by decide +kernel
theorem dX8_make_9 : decode cX8_make 9 = .ok (.iload_n 2, 1) := by decide +kernel
theorem dX8_make_10 : decode cX8_make 10 = .ok (.i2l, 1) := by decide +kernel
theorem dX8_make_11 : decode cX8_make 11 = .ok (.lconst 0, 1) := by decide +kernel
theorem dX8_make_12 : decode cX8_make 12 = .ok (.ldc2_w 263, 3) := by decide +kernel
theorem dX8_make_15 : decode cX8_make 15 = .ok (.invokestatic 98, 3) := by decide +kernel
theorem dX8_make_18 : decode cX8_make 18 = .ok (.ifCond .eq 25, 3) := by decide +kernel
theorem dX8_make_21 : decode cX8_make 21 = .ok (.iload_n 3, 1) := by decide +kernel
theorem dX8_make_22 : decode cX8_make 22 = .ok (.i2l, 1) := by decide +kernel
theorem dX8_make_23 : decode cX8_make 23 = .ok (.lconst 0, 1) := by decide +kernel
theorem dX8_make_24 : decode cX8_make 24 = .ok (.iload_n 2, 1) := by decide +kernel
theorem dX8_make_25 : decode cX8_make 25 = .ok (.bipush 13, 2) := by decide +kernel
theorem dX8_make_27 : decode cX8_make 27 = .ok (.if_icmp .ge 9, 3) := by decide +kernel
theorem dX8_make_30 : decode cX8_make 30 = .ok (.ldc2_w 265, 3) := by decide +kernel
theorem dX8_make_33 : decode cX8_make 33 = .ok (.goto 4, 3) := by decide +kernel
theorem dX8_make_36 : decode cX8_make 36 = .ok (.lconst 0, 1) := by decide +kernel
theorem dX8_make_37 : decode cX8_make 37 = .ok (.invokestatic 98, 3) := by decide +kernel
theorem dX8_make_40 : decode cX8_make 40 = .ok (.ifCond .ne 6, 3) := by decide +kernel
theorem dX8_make_43 : decode cX8_make 43 = .ok (.bipush (-2), 2) := by decide +kernel
theorem dX8_make_45 : decode cX8_make 45 = .ok (.ireturn, 1) := by decide +kernel
theorem dX8_make_46 : decode cX8_make 46 = .ok (.aload_n 0, 1) := by decide +kernel
theorem dX8_make_47 : decode cX8_make 47 = .ok (.getfield 13, 3) := by decide +kernel
theorem dX8_make_50 : decode cX8_make 50 = .ok (.iload_n 1, 1) := by decide +kernel
theorem dX8_make_51 : decode cX8_make 51 = .ok (.iaload, 1) := by decide +kernel
theorem dX8_make_52 : decode cX8_make 52 = .ok (.istore 4, 2) := by decide +kernel
theorem dX8_make_54 : decode cX8_make 54 = .ok (.iload_n 2, 1) := by decide +kernel
theorem dX8_make_55 : decode cX8_make 55 = .ok (.bipush 13, 2) := by decide +kernel
theorem dX8_make_57 : decode cX8_make 57 = .ok (.if_icmp .lt 25, 3) := by decide +kernel
theorem dX8_make_60 : decode cX8_make 60 = .ok (.aload_n 0, 1) := by decide +kernel
theorem dX8_make_61 : decode cX8_make 61 = .ok (.invokevirtual 236, 3) := by decide +kernel
theorem dX8_make_64 : decode cX8_make 64 = .ok (.aload_n 0, 1) := by decide +kernel
theorem dX8_make_65 : decode cX8_make 65 = .ok (.getfield 13, 3) := by decide +kernel
theorem dX8_make_68 : decode cX8_make 68 = .ok (.iload_n 1, 1) := by decide +kernel
theorem dX8_make_69 : decode cX8_make 69 = .ok (.iload_n 2, 1) := by decide +kernel
theorem dX8_make_70 : decode cX8_make 70 = .ok (.iastore, 1) := by decide +kernel
theorem dX8_make_71 : decode cX8_make 71 = .ok (.aload_n 0, 1) := by decide +kernel
theorem dX8_make_72 : decode cX8_make 72 = .ok (.getfield 16, 3) := by decide +kernel
theorem dX8_make_75 : decode cX8_make 75 = .ok (.iload_n 1, 1) := by decide +kernel
theorem dX8_make_76 : decode cX8_make 76 = .ok (.bipush (-9), 2) := by decide +kernel
theorem dX8_make_78 : decode cX8_make 78 = .ok (.iastore, 1) := by decide +kernel
theorem dX8_make_79 : decode cX8_make 79 = .ok (.iload 4, 2) := by decide +kernel
theorem dX8_make_81 : decode cX8_make 81 = .ok (.ireturn, 1) := by decide +kernel
theorem dX8_make_82 : decode cX8_make 82 = .ok (.aload_n 0, 1) := by decide +kernel
theorem dX8_make_83 : decode cX8_make 83 = .ok (.iload_n 2, 1) := by decide +kernel
theorem dX8_make_84 : decode cX8_make 84 = .ok (.putfield 195, 3) := by decide +kernel
theorem dX8_make_87 : decode cX8_make 87 = .ok (.aload_n 0, 1) := by decide +kernel
theorem dX8_make_88 : decode cX8_make 88 = .ok (.iconst 0, 1) := by decide +kernel
theorem dX8_make_89 : decode cX8_make 89 = .ok (.putfield 192, 3) := by decide +kernel
theorem dX8_make_92 : decode cX8_make 92 = .ok (.iconst 0, 1) := by decide +kernel
theorem dX8_make_93 : decode cX8_make 93 = .ok (.istore 5, 2) := by decide +kernel
theorem dX8_make_95 : decode cX8_make 95 = .ok (.iload 5, 2) := by decide +kernel
theorem dX8_make_97 : decode cX8_make 97 = .ok (.iload_n 3, 1) := by decide +kernel
theorem dX8_make_98 : decode cX8_make 98 = .ok (.if_icmp .ge 38, 3) := by decide +kernel
theorem dX8_make_101 : decode cX8_make 101 = .ok (.aload_n 0, 1) := by decide +kernel
theorem dX8_make_102 : decode cX8_make 102 = .ok (.iload_n 2, 1) := by decide +kernel
theorem dX8_make_103 : decode cX8_make 103 = .ok (.invokestatic 198, 3) := by decide +kernel
theorem dX8_make_106 : decode cX8_make 106 = .ok (.ifCond .eq 7, 3) := by decide +kernel
theorem dX8_make_109 : decode cX8_make 109 = .ok (.iconst 1, 1) := by decide +kernel
theorem dX8_make_110 : decode cX8_make 110 = .ok (.goto 4, 3) := by decide +kernel
theorem dX8_make_113 : decode cX8_make 113 = .ok (.iconst 0, 1) := by decide +kernel
theorem dX8_make_114 : decode cX8_make 114 = .ok (.iload_n 2, 1) := by decide +kernel
theorem dX8_make_115 : decode cX8_make 115 = .ok (.invokestatic 198, 3) := by decide +kernel
theorem dX8_make_118 : decode cX8_make 118 = .ok (.ifCond .eq 7, 3) := by decide +kernel
theorem dX8_make_121 : decode cX8_make 121 = .ok (.iload_n 2, 1) := by decide +kernel
theorem dX8_make_122 : decode cX8_make 122 = .ok (.goto 4, 3) := by decide +kernel
theorem dX8_make_125 : decode cX8_make 125 = .ok (.iconst 0, 1) := by decide +kernel
theorem dX8_make_126 : decode cX8_make 126 = .ok (.lconst 0, 1) := by decide +kernel
theorem dX8_make_127 : decode cX8_make 127 = .ok (.invokevirtual 202, 3) := by decide +kernel
theorem dX8_make_130 : decode cX8_make 130 = .ok (.iinc 5 1, 3) := by decide +kernel
theorem dX8_make_133 : decode cX8_make 133 = .ok (.goto (-38), 3) := by decide +kernel
theorem dX8_make_136 : decode cX8_make 136 = .ok (.aload_n 0, 1) := by decide +kernel
theorem dX8_make_137 : decode cX8_make 137 = .ok (.iload_n 1, 1) := by decide +kernel
theorem dX8_make_138 : decode cX8_make 138 = .ok (.invokevirtual 245, 3) := by decide +kernel
theorem dX8_make_141 : decode cX8_make 141 = .ok (.iload 4, 2) := by decide +kernel
theorem dX8_make_143 : decode cX8_make 143 = .ok (.ireturn, 1) := by decide +kernel
def fX8_make_b126 (k95 : Int32 → Int32 → Int32 → Int32 → Int32 → Mm → Option (Int32 × Mm)) (v1 : Int32) (v2 : Int32) (v3 : Int32) (v4 : Int32) (v5 : Int32) (s0 : Int32) (s1 : Int32) (μ : Mm) : Option (Int32 × Mm) := ((fX8_putTold s1 s0 (0 : Int64) μ).bind fun μ127 => k95 v1 v2 v3 v4 (v5 + (1 : Int32)) μ127)
def fX8_make_b114 (k95 : Int32 → Int32 → Int32 → Int32 → Int32 → Mm → Option (Int32 × Mm)) (v1 : Int32) (v2 : Int32) (v3 : Int32) (v4 : Int32) (v5 : Int32) (s0 : Int32) (μ : Mm) : Option (Int32 × Mm) := ((fX8_isPlain v2).bind fun r115 => (if r115 = 0 then fX8_make_b126 k95 v1 v2 v3 v4 v5 (0 : Int32) s0 μ else fX8_make_b126 k95 v1 v2 v3 v4 v5 v2 s0 μ))
def fX8_make_b95 : Nat → Int32 → Int32 → Int32 → Int32 → Int32 → Mm → Option (Int32 × Mm)
  | 0, _, _, _, _, _, _ => none
  | n + 1, v1, v2, v3, v4, v5, μ => (if v3 ≤ v5 then ((fX8_holdNew v1 μ).bind fun μ138 => some (v4, μ138)) else ((fX8_isPlain v2).bind fun r103 => (if r103 = 0 then fX8_make_b114 (fX8_make_b95 n) v1 v2 v3 v4 v5 (0 : Int32) μ else fX8_make_b114 (fX8_make_b95 n) v1 v2 v3 v4 v5 (1 : Int32) μ)))
def fX8_make_b37 (v1 : Int32) (v2 : Int32) (v3 : Int32) (s0 : Int64) (s1 : Int64) (s2 : Int64) (μ : Mm) : Option (Int32 × Mm) := ((fX8_in s2 s1 s0).bind fun r37 => (if r37 = 0 then some ((-2 : Int32), μ) else (if inb v1 10 = true then (if v2 < (13 : Int32) then fX8_make_b95 100 v1 v2 v3 (μ.1 2 (Int32.toNatClampNeg v1)) (0 : Int32) (wI (wI μ 0 32 v2) 0 33 (0 : Int32)) else ((fX8_note μ).bind fun μ61 => (if inb v1 10 = true then (if inb v1 10 = true then some ((μ.1 2 (Int32.toNatClampNeg v1)), (wI (wI μ61 2 (Int32.toNatClampNeg v1) v2) 3 (Int32.toNatClampNeg v1) (-9 : Int32))) else none) else none))) else none)))
def fX8_make (p1 : Int32) (p2 : Int32) (p3 : Int32) (μ : Mm) : Option (Int32 × Mm) := ((fX8_isSlot p1).bind fun r1 => (if r1 = 0 then some ((-1 : Int32), μ) else ((fX8_in (Int32.toInt64 p2) (0 : Int64) (15 : Int64)).bind fun r15 => (if r15 = 0 then some ((-2 : Int32), μ) else (if (13 : Int32) ≤ p2 then fX8_make_b37 p1 p2 p3 (0 : Int64) (0 : Int64) (Int32.toInt64 p3) μ else fX8_make_b37 p1 p2 p3 (6 : Int64) (0 : Int64) (Int32.toInt64 p3) μ)))))
set_option maxRecDepth 100000 in
set_option maxHeartbeats 4000000 in
theorem kX8_make (l : Launch) (ε : Ev) (p1 : Int32) (p2 : Int32) (p3 : Int32) (μ : Mm) (out : (Int32 × Mm)) (hf : fX8_make p1 p2 p3 μ = some out) : Sp l ε layM yX8_make cX8_make 6 (some .int) 3 [.ref (ea ε 0), .int p1, .int p2, .int p3] (some (.int out.1)) μ out.2 := by
  refine Sp.of [(0, .ref (ea ε 0)), (1, .int p1), (2, .int p2), (3, .int p3)] rfl (by decide +kernel) (Nat.le_of_ble_eq_true rfl) ?_
  intro κ hκ C E hQ
  subst hκ
  replace C : Cf κ cX8_make 6 RX8 (some .int) 3 := C
  have b126 : ∀ (k95 : Int32 → Int32 → Int32 → Int32 → Int32 → Mm → Option (Int32 × Mm)) (hk95 : ∀ (v1 : Int32) (v2 : Int32) (v3 : Int32) (v4 : Int32) (v5 : Int32) (μ : Mm) , k95 v1 v2 v3 v4 v5 μ = some out → G κ (Vw κ ε layM μ) 6 95 [(0, .ref (ea ε 0)), (1, .int v1), (2, .int v2), (3, .int v3), (4, .int v4), (5, .int v5)] []) (v1 : Int32) (v2 : Int32) (v3 : Int32) (v4 : Int32) (v5 : Int32) (s0 : Int32) (s1 : Int32) (μ : Mm) , fX8_make_b126 k95 v1 v2 v3 v4 v5 s0 s1 μ = some out → G κ (Vw κ ε layM μ) 6 126 [(0, .ref (ea ε 0)), (1, .int v1), (2, .int v2), (3, .int v3), (4, .int v4), (5, .int v5)] [.int s0, .int s1, .ref (ea ε 0)] := by
    intro k95 hk95 v1 v2 v3 v4 v5 s0 s1 μ hf
    refine g_lconst (pc := 126) C dX8_make_126 cl_0 ?_
    refine g_cwv (pc := 127) (st := []) C E layM_0 lkX8_202 (As := [.int s1, .int s0, .long (0 : Int64)]) rfl (fun out h => kX8_putTold (kl κ) ε s1 s0 (0 : Int64) μ out h) (by decide) rfl (Nat.le_of_ble_eq_true rfl) dX8_make_127 hf (fun μ127 _ hf => ?_)
    refine g_iinc (pc := 130) (i := 5) (j := 5) (v := (v5 + (1 : Int32))) (L' := [(5, .int (v5 + (1 : Int32))), (0, .ref (ea ε 0)), (1, .int v1), (2, .int v2), (3, .int v3), (4, .int v4)]) C dX8_make_130 rfl (cx_1 _) (by decide) rfl ?_
    refine g_goto (pc := 133) (tgt := 95) C dX8_make_133 rfl ?_
    exact g_at [1, 2, 3, 4, 5, 0] rfl (hk95 v1 v2 v3 v4 (v5 + (1 : Int32)) μ127 hf)
  have b114 : ∀ (k95 : Int32 → Int32 → Int32 → Int32 → Int32 → Mm → Option (Int32 × Mm)) (hk95 : ∀ (v1 : Int32) (v2 : Int32) (v3 : Int32) (v4 : Int32) (v5 : Int32) (μ : Mm) , k95 v1 v2 v3 v4 v5 μ = some out → G κ (Vw κ ε layM μ) 6 95 [(0, .ref (ea ε 0)), (1, .int v1), (2, .int v2), (3, .int v3), (4, .int v4), (5, .int v5)] []) (v1 : Int32) (v2 : Int32) (v3 : Int32) (v4 : Int32) (v5 : Int32) (s0 : Int32) (μ : Mm) , fX8_make_b114 k95 v1 v2 v3 v4 v5 s0 μ = some out → G κ (Vw κ ε layM μ) 6 114 [(0, .ref (ea ε 0)), (1, .int v1), (2, .int v2), (3, .int v3), (4, .int v4), (5, .int v5)] [.int s0, .ref (ea ε 0)] := by
    intro k95 hk95 v1 v2 v3 v4 v5 s0 μ hf
    refine g_iload_n (pc := 114) (i := 2) (j := 2) C dX8_make_114 rfl rfl ?_
    refine g_cpi (pc := 115) (st := [.int s0, .ref (ea ε 0)]) C lkX8_198 (As := [.int v2]) rfl (fun out h => kX8_isPlain (kl κ) v2 out h) (by decide) rfl (Nat.le_of_ble_eq_true rfl) dX8_make_115 hf (fun r115 _ hf => ?_)
    refine g_if_eq (pc := 118) (tgt := 125) C dX8_make_118 rfl hf (fun _ hf => ?_) (fun _ hf => ?_)
    · refine g_iconst (pc := 125) C dX8_make_125 ci_0 ?_
      exact b126 k95 hk95 v1 v2 v3 v4 v5 (0 : Int32) s0 μ hf
    · refine g_iload_n (pc := 121) (i := 2) (j := 2) C dX8_make_121 rfl rfl ?_
      refine g_goto (pc := 122) (tgt := 126) C dX8_make_122 rfl ?_
      exact b126 k95 hk95 v1 v2 v3 v4 v5 v2 s0 μ hf
  have b95 : ∀ (n : Nat) (v1 : Int32) (v2 : Int32) (v3 : Int32) (v4 : Int32) (v5 : Int32) (μ : Mm) , fX8_make_b95 n v1 v2 v3 v4 v5 μ = some out → G κ (Vw κ ε layM μ) 6 95 [(0, .ref (ea ε 0)), (1, .int v1), (2, .int v2), (3, .int v3), (4, .int v4), (5, .int v5)] [] := by
    intro n
    induction n with
    | zero => intro v1 v2 v3 v4 v5 μ hf; exact none_ne hf
    | succ n ih =>
      intro v1 v2 v3 v4 v5 μ hf
      refine g_iload (pc := 95) (i := 5) (j := 5) C dX8_make_95 rfl ?_
      refine g_iload_n (pc := 97) (i := 3) (j := 3) C dX8_make_97 rfl rfl ?_
      refine g_icmp_ge (pc := 98) (tgt := 136) C dX8_make_98 rfl hf (fun _ hf => ?_) (fun _ hf => ?_)
      · refine g_aload_n (pc := 136) (i := 0) (j := 0) C dX8_make_136 rfl rfl ?_
        refine g_iload_n (pc := 137) (i := 1) (j := 1) C dX8_make_137 rfl rfl ?_
        refine g_cwv (pc := 138) (st := []) C E layM_0 lkX8_245 (As := [.int v1]) rfl (fun out h => kX8_holdNew (kl κ) ε v1 μ out h) (by decide) rfl (Nat.le_of_ble_eq_true rfl) dX8_make_138 hf (fun μ138 _ hf => ?_)
        refine g_iload (pc := 141) (i := 4) (j := 4) C dX8_make_141 rfl ?_
        exact g_iretw (pc := 143) C hQ dX8_make_143 hf
      · refine g_aload_n (pc := 101) (i := 0) (j := 0) C dX8_make_101 rfl rfl ?_
        refine g_iload_n (pc := 102) (i := 2) (j := 2) C dX8_make_102 rfl rfl ?_
        refine g_cpi (pc := 103) (st := [.ref (ea ε 0)]) C lkX8_198 (As := [.int v2]) rfl (fun out h => kX8_isPlain (kl κ) v2 out h) (by decide) rfl (Nat.le_of_ble_eq_true rfl) dX8_make_103 hf (fun r103 _ hf => ?_)
        refine g_if_eq (pc := 106) (tgt := 113) C dX8_make_106 rfl hf (fun _ hf => ?_) (fun _ hf => ?_)
        · refine g_iconst (pc := 113) C dX8_make_113 ci_0 ?_
          exact b114 (fX8_make_b95 n) ih v1 v2 v3 v4 v5 (0 : Int32) μ hf
        · refine g_iconst (pc := 109) C dX8_make_109 ci_1 ?_
          refine g_goto (pc := 110) (tgt := 114) C dX8_make_110 rfl ?_
          exact b114 (fX8_make_b95 n) ih v1 v2 v3 v4 v5 (1 : Int32) μ hf
  have b37 : ∀ (v1 : Int32) (v2 : Int32) (v3 : Int32) (s0 : Int64) (s1 : Int64) (s2 : Int64) (μ : Mm) , fX8_make_b37 v1 v2 v3 s0 s1 s2 μ = some out → G κ (Vw κ ε layM μ) 6 37 [(0, .ref (ea ε 0)), (1, .int v1), (2, .int v2), (3, .int v3)] [.long s0, .long s1, .long s2] := by
    intro v1 v2 v3 s0 s1 s2 μ hf
    refine g_cpi (pc := 37) (st := []) C lkX8_98 (As := [.long s2, .long s1, .long s0]) rfl (fun out h => kX8_in (kl κ) s2 s1 s0 out h) (by decide) rfl (Nat.le_of_ble_eq_true rfl) dX8_make_37 hf (fun r37 _ hf => ?_)
    refine g_if_ne (pc := 40) (tgt := 46) C dX8_make_40 rfl hf (fun _ hf => ?_) (fun _ hf => ?_)
    · refine g_aload_n (pc := 46) (i := 0) (j := 0) C dX8_make_46 rfl rfl ?_
      refine g_getr (pc := 47) (j := 2) C E fdX8_13 layM_0_2 dX8_make_47 ?_
      refine g_iload_n (pc := 50) (i := 1) (j := 1) C dX8_make_50 rfl rfl ?_
      refine g_iald (pc := 51) C E layM_2 dX8_make_51 hf (fun hf => ?_)
      refine g_istore (pc := 52) (i := 4) (L' := [(4, .int (μ.1 2 (Int32.toNatClampNeg v1))), (0, .ref (ea ε 0)), (1, .int v1), (2, .int v2), (3, .int v3)]) C dX8_make_52 (by decide) rfl ?_
      refine g_iload_n (pc := 54) (i := 2) (j := 3) C dX8_make_54 rfl rfl ?_
      refine g_bipush (pc := 55) C dX8_make_55 cb_13 ?_
      refine g_icmp_lt (pc := 57) (tgt := 82) C dX8_make_57 rfl hf (fun _ hf => ?_) (fun _ hf => ?_)
      · refine g_aload_n (pc := 82) (i := 0) (j := 1) C dX8_make_82 rfl rfl ?_
        refine g_iload_n (pc := 83) (i := 2) (j := 3) C dX8_make_83 rfl rfl ?_
        refine g_puti (pc := 84) C E fdX8_195 layM_0_32 dX8_make_84 ?_
        refine g_aload_n (pc := 87) (i := 0) (j := 1) C dX8_make_87 rfl rfl ?_
        refine g_iconst (pc := 88) C dX8_make_88 ci_0 ?_
        refine g_puti (pc := 89) C E fdX8_192 layM_0_33 dX8_make_89 ?_
        refine g_iconst (pc := 92) C dX8_make_92 ci_0 ?_
        refine g_istore (pc := 93) (i := 5) (L' := [(5, .int (0 : Int32)), (4, .int (μ.1 2 (Int32.toNatClampNeg v1))), (0, .ref (ea ε 0)), (1, .int v1), (2, .int v2), (3, .int v3)]) C dX8_make_93 (by decide) rfl ?_
        exact g_at [2, 3, 4, 5, 1, 0] rfl (b95 100 v1 v2 v3 (μ.1 2 (Int32.toNatClampNeg v1)) (0 : Int32) (wI (wI μ 0 32 v2) 0 33 (0 : Int32)) hf)
      · refine g_aload_n (pc := 60) (i := 0) (j := 1) C dX8_make_60 rfl rfl ?_
        refine g_cwv (pc := 61) (st := []) C E layM_0 lkX8_236 (As := []) rfl (fun out h => kX8_note (kl κ) ε μ out h) (by decide) rfl (Nat.le_of_ble_eq_true rfl) dX8_make_61 hf (fun μ61 _ hf => ?_)
        refine g_aload_n (pc := 64) (i := 0) (j := 1) C dX8_make_64 rfl rfl ?_
        refine g_getr (pc := 65) (j := 2) C E fdX8_13 layM_0_2 dX8_make_65 ?_
        refine g_iload_n (pc := 68) (i := 1) (j := 2) C dX8_make_68 rfl rfl ?_
        refine g_iload_n (pc := 69) (i := 2) (j := 3) C dX8_make_69 rfl rfl ?_
        refine g_iast (pc := 70) C E layM_2 dX8_make_70 hf (fun hf => ?_)
        refine g_aload_n (pc := 71) (i := 0) (j := 1) C dX8_make_71 rfl rfl ?_
        refine g_getr (pc := 72) (j := 3) C E fdX8_16 layM_0_3 dX8_make_72 ?_
        refine g_iload_n (pc := 75) (i := 1) (j := 2) C dX8_make_75 rfl rfl ?_
        refine g_bipush (pc := 76) C dX8_make_76 cb_m9 ?_
        refine g_iast (pc := 78) C E layM_3 dX8_make_78 hf (fun hf => ?_)
        refine g_iload (pc := 79) (i := 4) (j := 0) C dX8_make_79 rfl ?_
        exact g_iretw (pc := 81) C hQ dX8_make_81 hf
    · refine g_bipush (pc := 43) C dX8_make_43 cb_m2 ?_
      exact g_iretw (pc := 45) C hQ dX8_make_45 hf
  refine g_iload_n (pc := 0) (i := 1) (j := 1) C dX8_make_0 rfl rfl ?_
  refine g_cpi (pc := 1) (st := []) C lkX8_242 (As := [.int p1]) rfl (fun out h => kX8_isSlot (kl κ) p1 out h) (by decide) rfl (Nat.le_of_ble_eq_true rfl) dX8_make_1 hf (fun r1 _ hf => ?_)
  refine g_if_ne (pc := 4) (tgt := 9) C dX8_make_4 rfl hf (fun _ hf => ?_) (fun _ hf => ?_)
  · refine g_iload_n (pc := 9) (i := 2) (j := 2) C dX8_make_9 rfl rfl ?_
    refine g_i2l (pc := 10) C dX8_make_10 ?_
    refine g_lconst (pc := 11) C dX8_make_11 cl_0 ?_
    refine g_ldc2 (pc := 12) C cnX8_263 dX8_make_12 ?_
    refine g_cpi (pc := 15) (st := []) C lkX8_98 (As := [.long (Int32.toInt64 p2), .long (0 : Int64), .long (15 : Int64)]) rfl (fun out h => kX8_in (kl κ) (Int32.toInt64 p2) (0 : Int64) (15 : Int64) out h) (by decide) rfl (Nat.le_of_ble_eq_true rfl) dX8_make_15 hf (fun r15 _ hf => ?_)
    refine g_if_eq (pc := 18) (tgt := 43) C dX8_make_18 rfl hf (fun _ hf => ?_) (fun _ hf => ?_)
    · refine g_bipush (pc := 43) C dX8_make_43 cb_m2 ?_
      exact g_iretw (pc := 45) C hQ dX8_make_45 hf
    · refine g_iload_n (pc := 21) (i := 3) (j := 3) C dX8_make_21 rfl rfl ?_
      refine g_i2l (pc := 22) C dX8_make_22 ?_
      refine g_lconst (pc := 23) C dX8_make_23 cl_0 ?_
      refine g_iload_n (pc := 24) (i := 2) (j := 2) C dX8_make_24 rfl rfl ?_
      refine g_bipush (pc := 25) C dX8_make_25 cb_13 ?_
      refine g_icmp_ge (pc := 27) (tgt := 36) C dX8_make_27 rfl hf (fun _ hf => ?_) (fun _ hf => ?_)
      · refine g_lconst (pc := 36) C dX8_make_36 cl_0 ?_
        exact b37 p1 p2 p3 (0 : Int64) (0 : Int64) (Int32.toInt64 p3) μ hf
      · refine g_ldc2 (pc := 30) C cnX8_265 dX8_make_30 ?_
        refine g_goto (pc := 33) (tgt := 37) C dX8_make_33 rfl ?_
        exact b37 p1 p2 p3 (6 : Int64) (0 : Int64) (Int32.toInt64 p3) μ hf
  · refine g_iconst (pc := 7) C dX8_make_7 ci_m1 ?_
    exact g_iretw (pc := 8) C hQ dX8_make_8 hf
theorem dX8_mark_0 : decode cX8_mark 0 = .ok (.iload_n 1, 1) := by decide +kernel
theorem dX8_mark_1 : decode cX8_mark 1 = .ok (.i2l, 1) := by decide +kernel
theorem dX8_mark_2 : decode cX8_mark 2 = .ok (.lconst 0, 1) := by decide +kernel
theorem dX8_mark_3 : decode cX8_mark 3 = .ok (.lconst 1, 1) := by decide +kernel
theorem dX8_mark_4 : decode cX8_mark 4 = .ok (.invokestatic 98, 3) := by decide +kernel
theorem dX8_mark_7 : decode cX8_mark 7 = .ok (.ifCond .eq 15, 3) := by decide +kernel
theorem dX8_mark_10 : decode cX8_mark 10 = .ok (.iload_n 2, 1) := by decide +kernel
theorem dX8_mark_11 : decode cX8_mark 11 = .ok (.i2l, 1) := by decide +kernel
theorem dX8_mark_12 : decode cX8_mark 12 = .ok (.lconst 0, 1) := by decide +kernel
theorem dX8_mark_13 : decode cX8_mark 13 = .ok (.ldc2_w 311, 3) := by decide +kernel
theorem dX8_mark_16 : decode cX8_mark 16 = .ok (.invokestatic 98, 3) := by decide +kernel
theorem dX8_mark_19 : decode cX8_mark 19 = .ok (.ifCond .ne 6, 3) := by decide +kernel
theorem dX8_mark_22 : decode cX8_mark 22 = .ok (.bipush (-2), 2) := by decide +kernel
theorem dX8_mark_24 : decode cX8_mark 24 = .ok (.ireturn, 1) := by decide +kernel
theorem dX8_mark_25 : decode cX8_mark 25 = .ok (.aload_n 0, 1) := by decide +kernel
theorem dX8_mark_26 : decode cX8_mark 26 = .ok (.getfield 230, 3) := by decide +kernel
theorem dX8_mark_29 : decode cX8_mark 29 = .ok (.bipush 20, 2) := by decide +kernel
theorem dX8_mark_31 : decode cX8_mark 31 = .ok (.if_icmp .ne 6, 3) := by decide +kernel
theorem dX8_mark_34 : decode cX8_mark 34 = .ok (.bipush (-4), 2) := by decide +kernel
theorem dX8_mark_36 : decode cX8_mark 36 = .ok (.ireturn, 1) := by decide +kernel
theorem dX8_mark_37 : decode cX8_mark 37 = .ok (.aload_n 0, 1) := by decide +kernel
theorem dX8_mark_38 : decode cX8_mark 38 = .ok (.getfield 35, 3) := by decide +kernel
theorem dX8_mark_41 : decode cX8_mark 41 = .ok (.aload_n 0, 1) := by decide +kernel
theorem dX8_mark_42 : decode cX8_mark 42 = .ok (.getfield 230, 3) := by decide +kernel
theorem dX8_mark_45 : decode cX8_mark 45 = .ok (.iload_n 2, 1) := by decide +kernel
theorem dX8_mark_46 : decode cX8_mark 46 = .ok (.iastore, 1) := by decide +kernel
theorem dX8_mark_47 : decode cX8_mark 47 = .ok (.aload_n 0, 1) := by decide +kernel
theorem dX8_mark_48 : decode cX8_mark 48 = .ok (.getfield 38, 3) := by decide +kernel
theorem dX8_mark_51 : decode cX8_mark 51 = .ok (.aload_n 0, 1) := by decide +kernel
theorem dX8_mark_52 : decode cX8_mark 52 = .ok (.getfield 230, 3) := by decide +kernel
theorem dX8_mark_55 : decode cX8_mark 55 = .ok (.iload_n 1, 1) := by decide +kernel
theorem dX8_mark_56 : decode cX8_mark 56 = .ok (.iconst 1, 1) := by decide +kernel
theorem dX8_mark_57 : decode cX8_mark 57 = .ok (.if_icmp .ne 7, 3) := by decide +kernel
theorem dX8_mark_60 : decode cX8_mark 60 = .ok (.iconst 1, 1) := by decide +kernel
theorem dX8_mark_61 : decode cX8_mark 61 = .ok (.goto 4, 3) := by decide +kernel
theorem dX8_mark_64 : decode cX8_mark 64 = .ok (.iconst 0, 1) := by decide +kernel
theorem dX8_mark_65 : decode cX8_mark 65 = .ok (.bastore, 1) := by decide +kernel
theorem dX8_mark_66 : decode cX8_mark 66 = .ok (.aload_n 0, 1) := by decide +kernel
theorem dX8_mark_67 : decode cX8_mark 67 = .ok (.iconst 3, 1) := by decide +kernel
theorem dX8_mark_68 : decode cX8_mark 68 = .ok (.iconst 0, 1) := by decide +kernel
theorem dX8_mark_69 : decode cX8_mark 69 = .ok (.aload_n 0, 1) := by decide +kernel
theorem dX8_mark_70 : decode cX8_mark 70 = .ok (.getfield 230, 3) := by decide +kernel
theorem dX8_mark_73 : decode cX8_mark 73 = .ok (.i2l, 1) := by decide +kernel
theorem dX8_mark_74 : decode cX8_mark 74 = .ok (.invokevirtual 308, 3) := by decide +kernel
theorem dX8_mark_77 : decode cX8_mark 77 = .ok (.aload_n 0, 1) := by decide +kernel
theorem dX8_mark_78 : decode cX8_mark 78 = .ok (.dup, 1) := by decide +kernel
theorem dX8_mark_79 : decode cX8_mark 79 = .ok (.getfield 230, 3) := by decide +kernel
theorem dX8_mark_82 : decode cX8_mark 82 = .ok (.iconst 1, 1) := by decide +kernel
theorem dX8_mark_83 : decode cX8_mark 83 = .ok (.iadd, 1) := by decide +kernel
theorem dX8_mark_84 : decode cX8_mark 84 = .ok (.putfield 230, 3) := by decide +kernel
theorem dX8_mark_87 : decode cX8_mark 87 = .ok (.aload_n 0, 1) := by decide +kernel
theorem dX8_mark_88 : decode cX8_mark 88 = .ok (.getfield 230, 3) := by decide +kernel
theorem dX8_mark_91 : decode cX8_mark 91 = .ok (.iconst 1, 1) := by decide +kernel
theorem dX8_mark_92 : decode cX8_mark 92 = .ok (.isub, 1) := by decide +kernel
theorem dX8_mark_93 : decode cX8_mark 93 = .ok (.ireturn, 1) := by decide +kernel
def fX8_mark_b65 (s0 : Int32) (s1 : Int32) (μ : Mm) : Option (Int32 × Mm) := (if inb s1 20 = true then (if rbz s0 = true then ((fX8_hold (3 : Int32) (0 : Int32) (Int32.toInt64 ((wI μ 10 (Int32.toNatClampNeg s1) s0).1 0 11)) (wI μ 10 (Int32.toNatClampNeg s1) s0)).bind fun μ74 => some ((((wI μ74 0 11 ((μ74.1 0 11) + (1 : Int32))).1 0 11) - (1 : Int32)), (wI μ74 0 11 ((μ74.1 0 11) + (1 : Int32))))) else none) else none)
def fX8_mark (p1 : Int32) (p2 : Int32) (μ : Mm) : Option (Int32 × Mm) := ((fX8_in (Int32.toInt64 p1) (0 : Int64) (1 : Int64)).bind fun r4 => (if r4 = 0 then some ((-2 : Int32), μ) else ((fX8_in (Int32.toInt64 p2) (0 : Int64) (999 : Int64)).bind fun r16 => (if r16 = 0 then some ((-2 : Int32), μ) else (if (μ.1 0 11) = (20 : Int32) then some ((-4 : Int32), μ) else (if inb (μ.1 0 11) 20 = true then (if p1 = (1 : Int32) then fX8_mark_b65 (1 : Int32) ((wI μ 9 (Int32.toNatClampNeg (μ.1 0 11)) p2).1 0 11) (wI μ 9 (Int32.toNatClampNeg (μ.1 0 11)) p2) else fX8_mark_b65 (0 : Int32) ((wI μ 9 (Int32.toNatClampNeg (μ.1 0 11)) p2).1 0 11) (wI μ 9 (Int32.toNatClampNeg (μ.1 0 11)) p2)) else none))))))
set_option maxRecDepth 100000 in
set_option maxHeartbeats 4000000 in
theorem kX8_mark (l : Launch) (ε : Ev) (p1 : Int32) (p2 : Int32) (μ : Mm) (out : (Int32 × Mm)) (hf : fX8_mark p1 p2 μ = some out) : Sp l ε layM yX8_mark cX8_mark 3 (some .int) 1 [.ref (ea ε 0), .int p1, .int p2] (some (.int out.1)) μ out.2 := by
  refine Sp.of [(0, .ref (ea ε 0)), (1, .int p1), (2, .int p2)] rfl (by decide +kernel) (Nat.le_of_ble_eq_true rfl) ?_
  intro κ hκ C E hQ
  subst hκ
  replace C : Cf κ cX8_mark 3 RX8 (some .int) 1 := C
  have b65 : ∀ (s0 : Int32) (s1 : Int32) (μ : Mm) , fX8_mark_b65 s0 s1 μ = some out → G κ (Vw κ ε layM μ) 3 65 [(0, .ref (ea ε 0))] [.int s0, .int s1, .ref (ea ε 10)] := by
    intro s0 s1 μ hf
    refine g_zast (pc := 65) C E layM_10 dX8_mark_65 hf (fun hf => ?_)
    refine g_aload_n (pc := 66) (i := 0) (j := 0) C dX8_mark_66 rfl rfl ?_
    refine g_iconst (pc := 67) C dX8_mark_67 ci_3 ?_
    refine g_iconst (pc := 68) C dX8_mark_68 ci_0 ?_
    refine g_aload_n (pc := 69) (i := 0) (j := 0) C dX8_mark_69 rfl rfl ?_
    refine g_geti (pc := 70) C E fdX8_230 layM_0_11 dX8_mark_70 ?_
    refine g_i2l (pc := 73) C dX8_mark_73 ?_
    refine g_cwv (pc := 74) (st := []) C E layM_0 lkX8_308 (As := [.int (3 : Int32), .int (0 : Int32), .long (Int32.toInt64 ((wI μ 10 (Int32.toNatClampNeg s1) s0).1 0 11))]) rfl (fun out h => kX8_hold (kl κ) ε (3 : Int32) (0 : Int32) (Int32.toInt64 ((wI μ 10 (Int32.toNatClampNeg s1) s0).1 0 11)) (wI μ 10 (Int32.toNatClampNeg s1) s0) out h) (by decide) rfl (Nat.le_of_ble_eq_true rfl) dX8_mark_74 hf (fun μ74 _ hf => ?_)
    refine g_aload_n (pc := 77) (i := 0) (j := 0) C dX8_mark_77 rfl rfl ?_
    refine g_dup (pc := 78) C dX8_mark_78 rfl ?_
    refine g_geti (pc := 79) C E fdX8_230 layM_0_11 dX8_mark_79 ?_
    refine g_iconst (pc := 82) C dX8_mark_82 ci_1 ?_
    refine g_iadd (pc := 83) C dX8_mark_83 ?_
    refine g_puti (pc := 84) C E fdX8_230 layM_0_11 dX8_mark_84 ?_
    refine g_aload_n (pc := 87) (i := 0) (j := 0) C dX8_mark_87 rfl rfl ?_
    refine g_geti (pc := 88) C E fdX8_230 layM_0_11 dX8_mark_88 ?_
    refine g_iconst (pc := 91) C dX8_mark_91 ci_1 ?_
    refine g_isub (pc := 92) C dX8_mark_92 ?_
    exact g_iretw (pc := 93) C hQ dX8_mark_93 hf
  refine g_iload_n (pc := 0) (i := 1) (j := 1) C dX8_mark_0 rfl rfl ?_
  refine g_i2l (pc := 1) C dX8_mark_1 ?_
  refine g_lconst (pc := 2) C dX8_mark_2 cl_0 ?_
  refine g_lconst (pc := 3) C dX8_mark_3 cl_1 ?_
  refine g_cpi (pc := 4) (st := []) C lkX8_98 (As := [.long (Int32.toInt64 p1), .long (0 : Int64), .long (1 : Int64)]) rfl (fun out h => kX8_in (kl κ) (Int32.toInt64 p1) (0 : Int64) (1 : Int64) out h) (by decide) rfl (Nat.le_of_ble_eq_true rfl) dX8_mark_4 hf (fun r4 _ hf => ?_)
  refine g_if_eq (pc := 7) (tgt := 22) C dX8_mark_7 rfl hf (fun _ hf => ?_) (fun _ hf => ?_)
  · refine g_bipush (pc := 22) C dX8_mark_22 cb_m2 ?_
    exact g_iretw (pc := 24) C hQ dX8_mark_24 hf
  · refine g_iload_n (pc := 10) (i := 2) (j := 2) C dX8_mark_10 rfl rfl ?_
    refine g_i2l (pc := 11) C dX8_mark_11 ?_
    refine g_lconst (pc := 12) C dX8_mark_12 cl_0 ?_
    refine g_ldc2 (pc := 13) C cnX8_311 dX8_mark_13 ?_
    refine g_cpi (pc := 16) (st := []) C lkX8_98 (As := [.long (Int32.toInt64 p2), .long (0 : Int64), .long (999 : Int64)]) rfl (fun out h => kX8_in (kl κ) (Int32.toInt64 p2) (0 : Int64) (999 : Int64) out h) (by decide) rfl (Nat.le_of_ble_eq_true rfl) dX8_mark_16 hf (fun r16 _ hf => ?_)
    refine g_if_ne (pc := 19) (tgt := 25) C dX8_mark_19 rfl hf (fun _ hf => ?_) (fun _ hf => ?_)
    · refine g_aload_n (pc := 25) (i := 0) (j := 0) C dX8_mark_25 rfl rfl ?_
      refine g_geti (pc := 26) C E fdX8_230 layM_0_11 dX8_mark_26 ?_
      refine g_bipush (pc := 29) C dX8_mark_29 cb_20 ?_
      refine g_icmp_ne (pc := 31) (tgt := 37) C dX8_mark_31 rfl hf (fun _ hf => ?_) (fun _ hf => ?_)
      · refine g_aload_n (pc := 37) (i := 0) (j := 0) C dX8_mark_37 rfl rfl ?_
        refine g_getr (pc := 38) (j := 9) C E fdX8_35 layM_0_9 dX8_mark_38 ?_
        refine g_aload_n (pc := 41) (i := 0) (j := 0) C dX8_mark_41 rfl rfl ?_
        refine g_geti (pc := 42) C E fdX8_230 layM_0_11 dX8_mark_42 ?_
        refine g_iload_n (pc := 45) (i := 2) (j := 2) C dX8_mark_45 rfl rfl ?_
        refine g_iast (pc := 46) C E layM_9 dX8_mark_46 hf (fun hf => ?_)
        refine g_aload_n (pc := 47) (i := 0) (j := 0) C dX8_mark_47 rfl rfl ?_
        refine g_getr (pc := 48) (j := 10) C E fdX8_38 layM_0_10 dX8_mark_48 ?_
        refine g_aload_n (pc := 51) (i := 0) (j := 0) C dX8_mark_51 rfl rfl ?_
        refine g_geti (pc := 52) C E fdX8_230 layM_0_11 dX8_mark_52 ?_
        refine g_iload_n (pc := 55) (i := 1) (j := 1) C dX8_mark_55 rfl rfl ?_
        refine g_iconst (pc := 56) C dX8_mark_56 ci_1 ?_
        refine g_icmp_ne (pc := 57) (tgt := 64) C dX8_mark_57 rfl hf (fun _ hf => ?_) (fun _ hf => ?_)
        · refine g_iconst (pc := 64) C dX8_mark_64 ci_0 ?_
          exact g_at [0] rfl (b65 (0 : Int32) ((wI μ 9 (Int32.toNatClampNeg (μ.1 0 11)) p2).1 0 11) (wI μ 9 (Int32.toNatClampNeg (μ.1 0 11)) p2) hf)
        · refine g_iconst (pc := 60) C dX8_mark_60 ci_1 ?_
          refine g_goto (pc := 61) (tgt := 65) C dX8_mark_61 rfl ?_
          exact g_at [0] rfl (b65 (1 : Int32) ((wI μ 9 (Int32.toNatClampNeg (μ.1 0 11)) p2).1 0 11) (wI μ 9 (Int32.toNatClampNeg (μ.1 0 11)) p2) hf)
      · refine g_bipush (pc := 34) C dX8_mark_34 cb_m4 ?_
        exact g_iretw (pc := 36) C hQ dX8_mark_36 hf
    · refine g_bipush (pc := 22) C dX8_mark_22 cb_m2 ?_
      exact g_iretw (pc := 24) C hQ dX8_mark_24 hf
theorem dX8_reasonBy_0 : decode cX8_reasonBy 0 = .ok (.iload_n 1, 1) := by decide +kernel
theorem dX8_reasonBy_1 : decode cX8_reasonBy 1 = .ok (.bipush 13, 2) := by decide +kernel
theorem dX8_reasonBy_3 : decode cX8_reasonBy 3 = .ok (.if_icmp .lt 15, 3) := by decide +kernel
theorem dX8_reasonBy_6 : decode cX8_reasonBy 6 = .ok (.iload_n 1, 1) := by decide +kernel
theorem dX8_reasonBy_7 : decode cX8_reasonBy 7 = .ok (.bipush 15, 2) := by decide +kernel
theorem dX8_reasonBy_9 : decode cX8_reasonBy 9 = .ok (.if_icmp .ne 7, 3) := by decide +kernel
theorem dX8_reasonBy_12 : decode cX8_reasonBy 12 = .ok (.iconst 5, 1) := by decide +kernel
theorem dX8_reasonBy_13 : decode cX8_reasonBy 13 = .ok (.goto 4, 3) := by decide +kernel
theorem dX8_reasonBy_16 : decode cX8_reasonBy 16 = .ok (.iconst 3, 1) := by decide +kernel
theorem dX8_reasonBy_17 : decode cX8_reasonBy 17 = .ok (.ireturn, 1) := by decide +kernel
theorem dX8_reasonBy_18 : decode cX8_reasonBy 18 = .ok (.iload_n 2, 1) := by decide +kernel
theorem dX8_reasonBy_19 : decode cX8_reasonBy 19 = .ok (.ifCond .ne 11, 3) := by decide +kernel
theorem dX8_reasonBy_22 : decode cX8_reasonBy 22 = .ok (.iload_n 1, 1) := by decide +kernel
theorem dX8_reasonBy_23 : decode cX8_reasonBy 23 = .ok (.iload_n 3, 1) := by decide +kernel
theorem dX8_reasonBy_24 : decode cX8_reasonBy 24 = .ok (.invokestatic 320, 3) := by decide +kernel
theorem dX8_reasonBy_27 : decode cX8_reasonBy 27 = .ok (.goto 20, 3) := by decide +kernel
theorem dX8_reasonBy_30 : decode cX8_reasonBy 30 = .ok (.aload_n 0, 1) := by decide +kernel
theorem dX8_reasonBy_31 : decode cX8_reasonBy 31 = .ok (.iload_n 1, 1) := by decide +kernel
theorem dX8_reasonBy_32 : decode cX8_reasonBy 32 = .ok (.iload_n 2, 1) := by decide +kernel
theorem dX8_reasonBy_33 : decode cX8_reasonBy 33 = .ok (.iconst 1, 1) := by decide +kernel
theorem dX8_reasonBy_34 : decode cX8_reasonBy 34 = .ok (.if_icmp .ne 7, 3) := by decide +kernel
theorem dX8_reasonBy_37 : decode cX8_reasonBy 37 = .ok (.iconst 1, 1) := by decide +kernel
theorem dX8_reasonBy_38 : decode cX8_reasonBy 38 = .ok (.goto 4, 3) := by decide +kernel
theorem dX8_reasonBy_41 : decode cX8_reasonBy 41 = .ok (.iconst 2, 1) := by decide +kernel
theorem dX8_reasonBy_42 : decode cX8_reasonBy 42 = .ok (.iload_n 3, 1) := by decide +kernel
theorem dX8_reasonBy_43 : decode cX8_reasonBy 43 = .ok (.lconst 0, 1) := by decide +kernel
theorem dX8_reasonBy_44 : decode cX8_reasonBy 44 = .ok (.invokevirtual 328, 3) := by decide +kernel
theorem dX8_reasonBy_47 : decode cX8_reasonBy 47 = .ok (.ireturn, 1) := by decide +kernel
def fX8_reasonBy_b42 (μ : Mm) (v3 : Int32) (s0 : Int32) (s1 : Int32) : Option Int32 := ((fX8_bring s1 s0 v3 (0 : Int64) μ).bind fun r44 => some r44)
def fX8_reasonBy (p1 : Int32) (p2 : Int32) (p3 : Int32) (μ : Mm) : Option Int32 := (if p1 < (13 : Int32) then (if p2 = 0 then ((fX8_takeFrom p1 p3).bind fun r24 => some r24) else (if p2 = (1 : Int32) then fX8_reasonBy_b42 μ p3 (1 : Int32) p1 else fX8_reasonBy_b42 μ p3 (2 : Int32) p1)) else (if p1 = (15 : Int32) then some (5 : Int32) else some (3 : Int32)))
set_option maxRecDepth 100000 in
set_option maxHeartbeats 4000000 in
theorem kX8_reasonBy (l : Launch) (ε : Ev) (p1 : Int32) (p2 : Int32) (p3 : Int32) (μ : Mm) (out : Int32) (hf : fX8_reasonBy p1 p2 p3 μ = some out) : Sp l ε layM yX8_reasonBy cX8_reasonBy 4 (some .int) 3 [.ref (ea ε 0), .int p1, .int p2, .int p3] (some (.int out)) μ μ := by
  refine Sp.of [(0, .ref (ea ε 0)), (1, .int p1), (2, .int p2), (3, .int p3)] rfl (by decide +kernel) (Nat.le_of_ble_eq_true rfl) ?_
  intro κ hκ C E hQ
  subst hκ
  replace C : Cf κ cX8_reasonBy 4 RX8 (some .int) 3 := C
  have b42 : ∀ (v3 : Int32) (s0 : Int32) (s1 : Int32) , fX8_reasonBy_b42 μ v3 s0 s1 = some out → G κ (Vw κ ε layM μ) 4 42 [(3, .int v3)] [.int s0, .int s1, .ref (ea ε 0)] := by
    intro v3 s0 s1 hf
    refine g_iload_n (pc := 42) (i := 3) (j := 0) C dX8_reasonBy_42 rfl rfl ?_
    refine g_lconst (pc := 43) C dX8_reasonBy_43 cl_0 ?_
    refine g_cri (pc := 44) (st := []) C E layM_0 lkX8_328 (As := [.int s1, .int s0, .int v3, .long (0 : Int64)]) rfl (fun out h => kX8_bring (kl κ) ε s1 s0 v3 (0 : Int64) μ out h) (by decide) rfl (Nat.le_of_ble_eq_true rfl) dX8_reasonBy_44 hf (fun r44 _ hf => ?_)
    exact g_iretr (pc := 47) C hQ dX8_reasonBy_47 hf
  refine g_iload_n (pc := 0) (i := 1) (j := 1) C dX8_reasonBy_0 rfl rfl ?_
  refine g_bipush (pc := 1) C dX8_reasonBy_1 cb_13 ?_
  refine g_icmp_lt (pc := 3) (tgt := 18) C dX8_reasonBy_3 rfl hf (fun _ hf => ?_) (fun _ hf => ?_)
  · refine g_iload_n (pc := 18) (i := 2) (j := 2) C dX8_reasonBy_18 rfl rfl ?_
    refine g_if_ne (pc := 19) (tgt := 30) C dX8_reasonBy_19 rfl hf (fun _ hf => ?_) (fun _ hf => ?_)
    · refine g_aload_n (pc := 30) (i := 0) (j := 0) C dX8_reasonBy_30 rfl rfl ?_
      refine g_iload_n (pc := 31) (i := 1) (j := 1) C dX8_reasonBy_31 rfl rfl ?_
      refine g_iload_n (pc := 32) (i := 2) (j := 2) C dX8_reasonBy_32 rfl rfl ?_
      refine g_iconst (pc := 33) C dX8_reasonBy_33 ci_1 ?_
      refine g_icmp_ne (pc := 34) (tgt := 41) C dX8_reasonBy_34 rfl hf (fun _ hf => ?_) (fun _ hf => ?_)
      · refine g_iconst (pc := 41) C dX8_reasonBy_41 ci_2 ?_
        exact g_at [3] rfl (b42 p3 (2 : Int32) p1 hf)
      · refine g_iconst (pc := 37) C dX8_reasonBy_37 ci_1 ?_
        refine g_goto (pc := 38) (tgt := 42) C dX8_reasonBy_38 rfl ?_
        exact g_at [3] rfl (b42 p3 (1 : Int32) p1 hf)
    · refine g_iload_n (pc := 22) (i := 1) (j := 1) C dX8_reasonBy_22 rfl rfl ?_
      refine g_iload_n (pc := 23) (i := 3) (j := 3) C dX8_reasonBy_23 rfl rfl ?_
      refine g_cpi (pc := 24) (st := []) C lkX8_320 (As := [.int p1, .int p3]) rfl (fun out h => kX8_takeFrom (kl κ) p1 p3 out h) (by decide) rfl (Nat.le_of_ble_eq_true rfl) dX8_reasonBy_24 hf (fun r24 _ hf => ?_)
      refine g_goto (pc := 27) (tgt := 47) C dX8_reasonBy_27 rfl ?_
      exact g_iretr (pc := 47) C hQ dX8_reasonBy_47 hf
  · refine g_iload_n (pc := 6) (i := 1) (j := 1) C dX8_reasonBy_6 rfl rfl ?_
    refine g_bipush (pc := 7) C dX8_reasonBy_7 cb_15 ?_
    refine g_icmp_ne (pc := 9) (tgt := 16) C dX8_reasonBy_9 rfl hf (fun _ hf => ?_) (fun _ hf => ?_)
    · refine g_iconst (pc := 16) C dX8_reasonBy_16 ci_3 ?_
      exact g_iretr (pc := 17) C hQ dX8_reasonBy_17 hf
    · refine g_iconst (pc := 12) C dX8_reasonBy_12 ci_5 ?_
      refine g_goto (pc := 13) (tgt := 17) C dX8_reasonBy_13 rfl ?_
      exact g_iretr (pc := 17) C hQ dX8_reasonBy_17 hf
theorem dX8_reasonToTake_0 : decode cX8_reasonToTake 0 = .ok (.aload_n 0, 1) := by decide +kernel
theorem dX8_reasonToTake_1 : decode cX8_reasonToTake 1 = .ok (.iload_n 1, 1) := by decide +kernel
theorem dX8_reasonToTake_2 : decode cX8_reasonToTake 2 = .ok (.invokevirtual 317, 3) := by decide +kernel
theorem dX8_reasonToTake_5 : decode cX8_reasonToTake 5 = .ok (.istore 4, 2) := by decide +kernel
theorem dX8_reasonToTake_7 : decode cX8_reasonToTake 7 = .ok (.iload 4, 2) := by decide +kernel
theorem dX8_reasonToTake_9 : decode cX8_reasonToTake 9 = .ok (.ifCond .eq 6, 3) := by decide +kernel
theorem dX8_reasonToTake_12 : decode cX8_reasonToTake 12 = .ok (.iload 4, 2) := by decide +kernel
theorem dX8_reasonToTake_14 : decode cX8_reasonToTake 14 = .ok (.ireturn, 1) := by decide +kernel
theorem dX8_reasonToTake_15 : decode cX8_reasonToTake 15 = .ok (.aload_n 0, 1) := by decide +kernel
theorem dX8_reasonToTake_16 : decode cX8_reasonToTake 16 = .ok (.getfield 16, 3) := by decide +kernel
theorem dX8_reasonToTake_19 : decode cX8_reasonToTake 19 = .ok (.iload_n 1, 1) := by decide +kernel
theorem dX8_reasonToTake_20 : decode cX8_reasonToTake 20 = .ok (.iaload, 1) := by decide +kernel
theorem dX8_reasonToTake_21 : decode cX8_reasonToTake 21 = .ok (.istore 5, 2) := by decide +kernel
theorem dX8_reasonToTake_23 : decode cX8_reasonToTake 23 = .ok (.aload_n 0, 1) := by decide +kernel
theorem dX8_reasonToTake_24 : decode cX8_reasonToTake 24 = .ok (.getfield 19, 3) := by decide +kernel
theorem dX8_reasonToTake_27 : decode cX8_reasonToTake 27 = .ok (.iload 5, 2) := by decide +kernel
theorem dX8_reasonToTake_29 : decode cX8_reasonToTake 29 = .ok (.iaload, 1) := by decide +kernel
theorem dX8_reasonToTake_30 : decode cX8_reasonToTake 30 = .ok (.iload_n 3, 1) := by decide +kernel
theorem dX8_reasonToTake_31 : decode cX8_reasonToTake 31 = .ok (.invokestatic 320, 3) := by decide +kernel
theorem dX8_reasonToTake_34 : decode cX8_reasonToTake 34 = .ok (.iload_n 2, 1) := by decide +kernel
theorem dX8_reasonToTake_35 : decode cX8_reasonToTake 35 = .ok (.i2l, 1) := by decide +kernel
theorem dX8_reasonToTake_36 : decode cX8_reasonToTake 36 = .ok (.lconst 0, 1) := by decide +kernel
theorem dX8_reasonToTake_37 : decode cX8_reasonToTake 37 = .ok (.aload_n 0, 1) := by decide +kernel
theorem dX8_reasonToTake_38 : decode cX8_reasonToTake 38 = .ok (.getfield 22, 3) := by decide +kernel
theorem dX8_reasonToTake_41 : decode cX8_reasonToTake 41 = .ok (.iload 5, 2) := by decide +kernel
theorem dX8_reasonToTake_43 : decode cX8_reasonToTake 43 = .ok (.iaload, 1) := by decide +kernel
theorem dX8_reasonToTake_44 : decode cX8_reasonToTake 44 = .ok (.iconst 1, 1) := by decide +kernel
theorem dX8_reasonToTake_45 : decode cX8_reasonToTake 45 = .ok (.isub, 1) := by decide +kernel
theorem dX8_reasonToTake_46 : decode cX8_reasonToTake 46 = .ok (.i2l, 1) := by decide +kernel
theorem dX8_reasonToTake_47 : decode cX8_reasonToTake 47 = .ok (.invokestatic 98, 3) := by decide +kernel
theorem dX8_reasonToTake_50 : decode cX8_reasonToTake 50 = .ok (.ifCond .ne 7, 3) := by decide +kernel
theorem dX8_reasonToTake_53 : decode cX8_reasonToTake 53 = .ok (.iconst 1, 1) := by decide +kernel
theorem dX8_reasonToTake_54 : decode cX8_reasonToTake 54 = .ok (.goto 4, 3) := by decide +kernel
theorem dX8_reasonToTake_57 : decode cX8_reasonToTake 57 = .ok (.iconst 0, 1) := by decide +kernel
theorem dX8_reasonToTake_58 : decode cX8_reasonToTake 58 = .ok (.invokestatic 324, 3) := by decide +kernel
theorem dX8_reasonToTake_61 : decode cX8_reasonToTake 61 = .ok (.ireturn, 1) := by decide +kernel
def fX8_reasonToTake_b58 (μ : Mm) (s0 : Int32) (s1 : Int32) : Option Int32 := ((fX8_withOut s1 s0).bind fun r58 => some r58)
def fX8_reasonToTake (p1 : Int32) (p2 : Int32) (p3 : Int32) (μ : Mm) : Option Int32 := ((fX8_reasonOf p1 μ).bind fun r2 => (if r2 = 0 then (if inb p1 10 = true then (if inb (μ.1 3 (Int32.toNatClampNeg p1)) 11 = true then ((fX8_takeFrom (μ.1 4 (Int32.toNatClampNeg (μ.1 3 (Int32.toNatClampNeg p1)))) p3).bind fun r31 => (if inb (μ.1 3 (Int32.toNatClampNeg p1)) 11 = true then ((fX8_in (Int32.toInt64 p2) (0 : Int64) (Int32.toInt64 ((μ.1 5 (Int32.toNatClampNeg (μ.1 3 (Int32.toNatClampNeg p1)))) - (1 : Int32)))).bind fun r47 => (if r47 = 0 then fX8_reasonToTake_b58 μ (1 : Int32) r31 else fX8_reasonToTake_b58 μ (0 : Int32) r31)) else none)) else none) else none) else some r2))
set_option maxRecDepth 100000 in
set_option maxHeartbeats 4000000 in
theorem kX8_reasonToTake (l : Launch) (ε : Ev) (p1 : Int32) (p2 : Int32) (p3 : Int32) (μ : Mm) (out : Int32) (hf : fX8_reasonToTake p1 p2 p3 μ = some out) : Sp l ε layM yX8_reasonToTake cX8_reasonToTake 6 (some .int) 3 [.ref (ea ε 0), .int p1, .int p2, .int p3] (some (.int out)) μ μ := by
  refine Sp.of [(0, .ref (ea ε 0)), (1, .int p1), (2, .int p2), (3, .int p3)] rfl (by decide +kernel) (Nat.le_of_ble_eq_true rfl) ?_
  intro κ hκ C E hQ
  subst hκ
  replace C : Cf κ cX8_reasonToTake 6 RX8 (some .int) 3 := C
  have b58 : ∀ (s0 : Int32) (s1 : Int32) , fX8_reasonToTake_b58 μ s0 s1 = some out → G κ (Vw κ ε layM μ) 6 58 [] [.int s0, .int s1] := by
    intro s0 s1 hf
    refine g_cpi (pc := 58) (st := []) C lkX8_324 (As := [.int s1, .int s0]) rfl (fun out h => kX8_withOut (kl κ) s1 s0 out h) (by decide) rfl (Nat.le_of_ble_eq_true rfl) dX8_reasonToTake_58 hf (fun r58 _ hf => ?_)
    exact g_iretr (pc := 61) C hQ dX8_reasonToTake_61 hf
  refine g_aload_n (pc := 0) (i := 0) (j := 0) C dX8_reasonToTake_0 rfl rfl ?_
  refine g_iload_n (pc := 1) (i := 1) (j := 1) C dX8_reasonToTake_1 rfl rfl ?_
  refine g_cri (pc := 2) (st := []) C E layM_0 lkX8_317 (As := [.int p1]) rfl (fun out h => kX8_reasonOf (kl κ) ε p1 μ out h) (by decide) rfl (Nat.le_of_ble_eq_true rfl) dX8_reasonToTake_2 hf (fun r2 _ hf => ?_)
  refine g_istore (pc := 5) (i := 4) (L' := [(4, .int r2), (0, .ref (ea ε 0)), (1, .int p1), (2, .int p2), (3, .int p3)]) C dX8_reasonToTake_5 (by decide) rfl ?_
  refine g_iload (pc := 7) (i := 4) (j := 0) C dX8_reasonToTake_7 rfl ?_
  refine g_if_eq (pc := 9) (tgt := 15) C dX8_reasonToTake_9 rfl hf (fun _ hf => ?_) (fun _ hf => ?_)
  · refine g_aload_n (pc := 15) (i := 0) (j := 1) C dX8_reasonToTake_15 rfl rfl ?_
    refine g_getr (pc := 16) (j := 3) C E fdX8_16 layM_0_3 dX8_reasonToTake_16 ?_
    refine g_iload_n (pc := 19) (i := 1) (j := 2) C dX8_reasonToTake_19 rfl rfl ?_
    refine g_iald (pc := 20) C E layM_3 dX8_reasonToTake_20 hf (fun hf => ?_)
    refine g_istore (pc := 21) (i := 5) (L' := [(5, .int (μ.1 3 (Int32.toNatClampNeg p1))), (4, .int r2), (0, .ref (ea ε 0)), (1, .int p1), (2, .int p2), (3, .int p3)]) C dX8_reasonToTake_21 (by decide) rfl ?_
    refine g_aload_n (pc := 23) (i := 0) (j := 2) C dX8_reasonToTake_23 rfl rfl ?_
    refine g_getr (pc := 24) (j := 4) C E fdX8_19 layM_0_4 dX8_reasonToTake_24 ?_
    refine g_iload (pc := 27) (i := 5) (j := 0) C dX8_reasonToTake_27 rfl ?_
    refine g_iald (pc := 29) C E layM_4 dX8_reasonToTake_29 hf (fun hf => ?_)
    refine g_iload_n (pc := 30) (i := 3) (j := 5) C dX8_reasonToTake_30 rfl rfl ?_
    refine g_cpi (pc := 31) (st := []) C lkX8_320 (As := [.int (μ.1 4 (Int32.toNatClampNeg (μ.1 3 (Int32.toNatClampNeg p1)))), .int p3]) rfl (fun out h => kX8_takeFrom (kl κ) (μ.1 4 (Int32.toNatClampNeg (μ.1 3 (Int32.toNatClampNeg p1)))) p3 out h) (by decide) rfl (Nat.le_of_ble_eq_true rfl) dX8_reasonToTake_31 hf (fun r31 _ hf => ?_)
    refine g_iload_n (pc := 34) (i := 2) (j := 4) C dX8_reasonToTake_34 rfl rfl ?_
    refine g_i2l (pc := 35) C dX8_reasonToTake_35 ?_
    refine g_lconst (pc := 36) C dX8_reasonToTake_36 cl_0 ?_
    refine g_aload_n (pc := 37) (i := 0) (j := 2) C dX8_reasonToTake_37 rfl rfl ?_
    refine g_getr (pc := 38) (j := 5) C E fdX8_22 layM_0_5 dX8_reasonToTake_38 ?_
    refine g_iload (pc := 41) (i := 5) (j := 0) C dX8_reasonToTake_41 rfl ?_
    refine g_iald (pc := 43) C E layM_5 dX8_reasonToTake_43 hf (fun hf => ?_)
    refine g_iconst (pc := 44) C dX8_reasonToTake_44 ci_1 ?_
    refine g_isub (pc := 45) C dX8_reasonToTake_45 ?_
    refine g_i2l (pc := 46) C dX8_reasonToTake_46 ?_
    refine g_cpi (pc := 47) (st := [.int r31]) C lkX8_98 (As := [.long (Int32.toInt64 p2), .long (0 : Int64), .long (Int32.toInt64 ((μ.1 5 (Int32.toNatClampNeg (μ.1 3 (Int32.toNatClampNeg p1)))) - (1 : Int32)))]) rfl (fun out h => kX8_in (kl κ) (Int32.toInt64 p2) (0 : Int64) (Int32.toInt64 ((μ.1 5 (Int32.toNatClampNeg (μ.1 3 (Int32.toNatClampNeg p1)))) - (1 : Int32))) out h) (by decide) rfl (Nat.le_of_ble_eq_true rfl) dX8_reasonToTake_47 hf (fun r47 _ hf => ?_)
    refine g_if_ne (pc := 50) (tgt := 57) C dX8_reasonToTake_50 rfl hf (fun _ hf => ?_) (fun _ hf => ?_)
    · refine g_iconst (pc := 57) C dX8_reasonToTake_57 ci_0 ?_
      exact g_at [] rfl (b58 (0 : Int32) r31 hf)
    · refine g_iconst (pc := 53) C dX8_reasonToTake_53 ci_1 ?_
      refine g_goto (pc := 54) (tgt := 58) C dX8_reasonToTake_54 rfl ?_
      exact g_at [] rfl (b58 (1 : Int32) r31 hf)
  · refine g_iload (pc := 12) (i := 4) (j := 0) C dX8_reasonToTake_12 rfl ?_
    exact g_iretr (pc := 14) C hQ dX8_reasonToTake_14 hf
theorem dX8_report_0 : decode cX8_report 0 = .ok (.iload_n 1, 1) := by decide +kernel
theorem dX8_report_1 : decode cX8_report 1 = .ok (.i2l, 1) := by decide +kernel
theorem dX8_report_2 : decode cX8_report 2 = .ok (.lconst 0, 1) := by decide +kernel
theorem dX8_report_3 : decode cX8_report 3 = .ok (.aload_n 0, 1) := by decide +kernel
theorem dX8_report_4 : decode cX8_report 4 = .ok (.getfield 248, 3) := by decide +kernel
theorem dX8_report_7 : decode cX8_report 7 = .ok (.iconst 1, 1) := by decide +kernel
theorem dX8_report_8 : decode cX8_report 8 = .ok (.isub, 1) := by decide +kernel
theorem dX8_report_9 : decode cX8_report 9 = .ok (.i2l, 1) := by decide +kernel
theorem dX8_report_10 : decode cX8_report 10 = .ok (.invokestatic 98, 3) := by decide +kernel
theorem dX8_report_13 : decode cX8_report 13 = .ok (.ifCond .eq 12, 3) := by decide +kernel
theorem dX8_report_16 : decode cX8_report 16 = .ok (.aload_n 0, 1) := by decide +kernel
theorem dX8_report_17 : decode cX8_report 17 = .ok (.getfield 42, 3) := by decide +kernel
theorem dX8_report_20 : decode cX8_report 20 = .ok (.iload_n 1, 1) := by decide +kernel
theorem dX8_report_21 : decode cX8_report 21 = .ok (.iaload, 1) := by decide +kernel
theorem dX8_report_22 : decode cX8_report 22 = .ok (.goto 5, 3) := by decide +kernel
theorem dX8_report_25 : decode cX8_report 25 = .ok (.bipush (-9), 2) := by decide +kernel
theorem dX8_report_27 : decode cX8_report 27 = .ok (.ireturn, 1) := by decide +kernel
def fX8_report (p1 : Int32) (μ : Mm) : Option Int32 := ((fX8_in (Int32.toInt64 p1) (0 : Int64) (Int32.toInt64 ((μ.1 0 16) - (1 : Int32)))).bind fun r10 => (if r10 = 0 then some (-9 : Int32) else (if inb p1 6 = true then some (μ.1 11 (Int32.toNatClampNeg p1)) else none)))
set_option maxRecDepth 100000 in
set_option maxHeartbeats 4000000 in
theorem kX8_report (l : Launch) (ε : Ev) (p1 : Int32) (μ : Mm) (out : Int32) (hf : fX8_report p1 μ = some out) : Sp l ε layM yX8_report cX8_report 2 (some .int) 1 [.ref (ea ε 0), .int p1] (some (.int out)) μ μ := by
  refine Sp.of [(0, .ref (ea ε 0)), (1, .int p1)] rfl (by decide +kernel) (Nat.le_of_ble_eq_true rfl) ?_
  intro κ hκ C E hQ
  subst hκ
  replace C : Cf κ cX8_report 2 RX8 (some .int) 1 := C
  refine g_iload_n (pc := 0) (i := 1) (j := 1) C dX8_report_0 rfl rfl ?_
  refine g_i2l (pc := 1) C dX8_report_1 ?_
  refine g_lconst (pc := 2) C dX8_report_2 cl_0 ?_
  refine g_aload_n (pc := 3) (i := 0) (j := 0) C dX8_report_3 rfl rfl ?_
  refine g_geti (pc := 4) C E fdX8_248 layM_0_16 dX8_report_4 ?_
  refine g_iconst (pc := 7) C dX8_report_7 ci_1 ?_
  refine g_isub (pc := 8) C dX8_report_8 ?_
  refine g_i2l (pc := 9) C dX8_report_9 ?_
  refine g_cpi (pc := 10) (st := []) C lkX8_98 (As := [.long (Int32.toInt64 p1), .long (0 : Int64), .long (Int32.toInt64 ((μ.1 0 16) - (1 : Int32)))]) rfl (fun out h => kX8_in (kl κ) (Int32.toInt64 p1) (0 : Int64) (Int32.toInt64 ((μ.1 0 16) - (1 : Int32))) out h) (by decide) rfl (Nat.le_of_ble_eq_true rfl) dX8_report_10 hf (fun r10 _ hf => ?_)
  refine g_if_eq (pc := 13) (tgt := 25) C dX8_report_13 rfl hf (fun _ hf => ?_) (fun _ hf => ?_)
  · refine g_bipush (pc := 25) C dX8_report_25 cb_m9 ?_
    exact g_iretr (pc := 27) C hQ dX8_report_27 hf
  · refine g_aload_n (pc := 16) (i := 0) (j := 0) C dX8_report_16 rfl rfl ?_
    refine g_getr (pc := 17) (j := 11) C E fdX8_42 layM_0_15 dX8_report_17 ?_
    refine g_iload_n (pc := 20) (i := 1) (j := 1) C dX8_report_20 rfl rfl ?_
    refine g_iald (pc := 21) C E layM_11 dX8_report_21 hf (fun hf => ?_)
    refine g_goto (pc := 22) (tgt := 27) C dX8_report_22 rfl ?_
    exact g_iretr (pc := 27) C hQ dX8_report_27 hf
theorem dX8_same_0 : decode cX8_same 0 = .ok (.iload_n 1, 1) := by decide +kernel
theorem dX8_same_1 : decode cX8_same 1 = .ok (.invokestatic 242, 3) := by decide +kernel
theorem dX8_same_4 : decode cX8_same 4 = .ok (.ifCond .eq 10, 3) := by decide +kernel
theorem dX8_same_7 : decode cX8_same 7 = .ok (.iload_n 2, 1) := by decide +kernel
theorem dX8_same_8 : decode cX8_same 8 = .ok (.invokestatic 242, 3) := by decide +kernel
theorem dX8_same_11 : decode cX8_same 11 = .ok (.ifCond .ne 5, 3) := by decide +kernel
theorem dX8_same_14 : decode cX8_same 14 = .ok (.iconst (-1), 1) := by decide +kernel
theorem dX8_same_15 : decode cX8_same 15 = .ok (.ireturn, 1) := by decide +kernel
theorem dX8_same_16 : decode cX8_same 16 = .ok (.aload_n 0, 1) := by decide +kernel
theorem dX8_same_17 : decode cX8_same 17 = .ok (.getfield 16, 3) := by decide +kernel
theorem dX8_same_20 : decode cX8_same 20 = .ok (.iload_n 1, 1) := by decide +kernel
theorem dX8_same_21 : decode cX8_same 21 = .ok (.iaload, 1) := by decide +kernel
theorem dX8_same_22 : decode cX8_same 22 = .ok (.bipush (-9), 2) := by decide +kernel
theorem dX8_same_24 : decode cX8_same 24 = .ok (.if_icmp .eq 22, 3) := by decide +kernel
theorem dX8_same_27 : decode cX8_same 27 = .ok (.aload_n 0, 1) := by decide +kernel
theorem dX8_same_28 : decode cX8_same 28 = .ok (.getfield 16, 3) := by decide +kernel
theorem dX8_same_31 : decode cX8_same 31 = .ok (.iload_n 1, 1) := by decide +kernel
theorem dX8_same_32 : decode cX8_same 32 = .ok (.iaload, 1) := by decide +kernel
theorem dX8_same_33 : decode cX8_same 33 = .ok (.aload_n 0, 1) := by decide +kernel
theorem dX8_same_34 : decode cX8_same 34 = .ok (.getfield 16, 3) := by decide +kernel
theorem dX8_same_37 : decode cX8_same 37 = .ok (.iload_n 2, 1) := by decide +kernel
theorem dX8_same_38 : decode cX8_same 38 = .ok (.iaload, 1) := by decide +kernel
theorem dX8_same_39 : decode cX8_same 39 = .ok (.if_icmp .ne 7, 3) := by decide +kernel
theorem dX8_same_42 : decode cX8_same 42 = .ok (.iconst 1, 1) := by decide +kernel
theorem dX8_same_43 : decode cX8_same 43 = .ok (.goto 4, 3) := by decide +kernel
theorem dX8_same_46 : decode cX8_same 46 = .ok (.iconst 0, 1) := by decide +kernel
theorem dX8_same_47 : decode cX8_same 47 = .ok (.ireturn, 1) := by decide +kernel
def fX8_same (p1 : Int32) (p2 : Int32) (μ : Mm) : Option Int32 := ((fX8_isSlot p1).bind fun r1 => (if r1 = 0 then some (-1 : Int32) else ((fX8_isSlot p2).bind fun r8 => (if r8 = 0 then some (-1 : Int32) else (if inb p1 10 = true then (if (μ.1 3 (Int32.toNatClampNeg p1)) = (-9 : Int32) then some (0 : Int32) else (if inb p1 10 = true then (if inb p2 10 = true then (if (μ.1 3 (Int32.toNatClampNeg p1)) = (μ.1 3 (Int32.toNatClampNeg p2)) then some (1 : Int32) else some (0 : Int32)) else none) else none)) else none)))))
set_option maxRecDepth 100000 in
set_option maxHeartbeats 4000000 in
theorem kX8_same (l : Launch) (ε : Ev) (p1 : Int32) (p2 : Int32) (μ : Mm) (out : Int32) (hf : fX8_same p1 p2 μ = some out) : Sp l ε layM yX8_same cX8_same 3 (some .int) 2 [.ref (ea ε 0), .int p1, .int p2] (some (.int out)) μ μ := by
  refine Sp.of [(0, .ref (ea ε 0)), (1, .int p1), (2, .int p2)] rfl (by decide +kernel) (Nat.le_of_ble_eq_true rfl) ?_
  intro κ hκ C E hQ
  subst hκ
  replace C : Cf κ cX8_same 3 RX8 (some .int) 2 := C
  refine g_iload_n (pc := 0) (i := 1) (j := 1) C dX8_same_0 rfl rfl ?_
  refine g_cpi (pc := 1) (st := []) C lkX8_242 (As := [.int p1]) rfl (fun out h => kX8_isSlot (kl κ) p1 out h) (by decide) rfl (Nat.le_of_ble_eq_true rfl) dX8_same_1 hf (fun r1 _ hf => ?_)
  refine g_if_eq (pc := 4) (tgt := 14) C dX8_same_4 rfl hf (fun _ hf => ?_) (fun _ hf => ?_)
  · refine g_iconst (pc := 14) C dX8_same_14 ci_m1 ?_
    exact g_iretr (pc := 15) C hQ dX8_same_15 hf
  · refine g_iload_n (pc := 7) (i := 2) (j := 2) C dX8_same_7 rfl rfl ?_
    refine g_cpi (pc := 8) (st := []) C lkX8_242 (As := [.int p2]) rfl (fun out h => kX8_isSlot (kl κ) p2 out h) (by decide) rfl (Nat.le_of_ble_eq_true rfl) dX8_same_8 hf (fun r8 _ hf => ?_)
    refine g_if_ne (pc := 11) (tgt := 16) C dX8_same_11 rfl hf (fun _ hf => ?_) (fun _ hf => ?_)
    · refine g_aload_n (pc := 16) (i := 0) (j := 0) C dX8_same_16 rfl rfl ?_
      refine g_getr (pc := 17) (j := 3) C E fdX8_16 layM_0_3 dX8_same_17 ?_
      refine g_iload_n (pc := 20) (i := 1) (j := 1) C dX8_same_20 rfl rfl ?_
      refine g_iald (pc := 21) C E layM_3 dX8_same_21 hf (fun hf => ?_)
      refine g_bipush (pc := 22) C dX8_same_22 cb_m9 ?_
      refine g_icmp_eq (pc := 24) (tgt := 46) C dX8_same_24 rfl hf (fun _ hf => ?_) (fun _ hf => ?_)
      · refine g_iconst (pc := 46) C dX8_same_46 ci_0 ?_
        exact g_iretr (pc := 47) C hQ dX8_same_47 hf
      · refine g_aload_n (pc := 27) (i := 0) (j := 0) C dX8_same_27 rfl rfl ?_
        refine g_getr (pc := 28) (j := 3) C E fdX8_16 layM_0_3 dX8_same_28 ?_
        refine g_iload_n (pc := 31) (i := 1) (j := 1) C dX8_same_31 rfl rfl ?_
        refine g_iald (pc := 32) C E layM_3 dX8_same_32 hf (fun hf => ?_)
        refine g_aload_n (pc := 33) (i := 0) (j := 0) C dX8_same_33 rfl rfl ?_
        refine g_getr (pc := 34) (j := 3) C E fdX8_16 layM_0_3 dX8_same_34 ?_
        refine g_iload_n (pc := 37) (i := 2) (j := 2) C dX8_same_37 rfl rfl ?_
        refine g_iald (pc := 38) C E layM_3 dX8_same_38 hf (fun hf => ?_)
        refine g_icmp_ne (pc := 39) (tgt := 46) C dX8_same_39 rfl hf (fun _ hf => ?_) (fun _ hf => ?_)
        · refine g_iconst (pc := 46) C dX8_same_46 ci_0 ?_
          exact g_iretr (pc := 47) C hQ dX8_same_47 hf
        · refine g_iconst (pc := 42) C dX8_same_42 ci_1 ?_
          refine g_goto (pc := 43) (tgt := 47) C dX8_same_43 rfl ?_
          exact g_iretr (pc := 47) C hQ dX8_same_47 hf
    · refine g_iconst (pc := 14) C dX8_same_14 ci_m1 ?_
      exact g_iretr (pc := 15) C hQ dX8_same_15 hf
theorem dX8_scatter_0 : decode cX8_scatter 0 = .ok (.iload_n 1, 1) := by decide +kernel
theorem dX8_scatter_1 : decode cX8_scatter 1 = .ok (.invokestatic 242, 3) := by decide +kernel
theorem dX8_scatter_4 : decode cX8_scatter 4 = .ok (.ifCond .ne 5, 3) := by decide +kernel
theorem dX8_scatter_7 : decode cX8_scatter 7 = .ok (.iconst (-1), 1) := by decide +kernel
theorem dX8_scatter_8 : decode cX8_scatter 8 = .ok (.ireturn, 1) := by decide +kernel
theorem dX8_scatter_9 : decode cX8_scatter 9 = .ok (.aload_n 0, 1) := by decide +kernel
theorem dX8_scatter_10 : decode cX8_scatter 10 = .ok (.iload_n 1, 1) := by decide +kernel
theorem dX8_scatter_11 : decode cX8_scatter 11 = .ok (.invokevirtual 350, 3) := by decide +kernel
theorem dX8_scatter_14 : decode cX8_scatter 14 = .ok (.ifCond .ne 6, 3) := by decide +kernel
theorem dX8_scatter_17 : decode cX8_scatter 17 = .ok (.bipush (-3), 2) := by decide +kernel
theorem dX8_scatter_19 : decode cX8_scatter 19 = .ok (.ireturn, 1) := by decide +kernel
theorem dX8_scatter_20 : decode cX8_scatter 20 = .ok (.aload_n 0, 1) := by decide +kernel
theorem dX8_scatter_21 : decode cX8_scatter 21 = .ok (.invokevirtual 236, 3) := by decide +kernel
theorem dX8_scatter_24 : decode cX8_scatter 24 = .ok (.aload_n 0, 1) := by decide +kernel
theorem dX8_scatter_25 : decode cX8_scatter 25 = .ok (.getfield 16, 3) := by decide +kernel
theorem dX8_scatter_28 : decode cX8_scatter 28 = .ok (.iload_n 1, 1) := by decide +kernel
theorem dX8_scatter_29 : decode cX8_scatter 29 = .ok (.iaload, 1) := by decide +kernel
theorem dX8_scatter_30 : decode cX8_scatter 30 = .ok (.istore 4, 2) := by decide +kernel
theorem dX8_scatter_32 : decode cX8_scatter 32 = .ok (.lload_n 2, 1) := by decide +kernel
theorem dX8_scatter_33 : decode cX8_scatter 33 = .ok (.lstore 5, 2) := by decide +kernel
theorem dX8_scatter_35 : decode cX8_scatter 35 = .ok (.iconst 0, 1) := by decide +kernel
theorem dX8_scatter_36 : decode cX8_scatter 36 = .ok (.istore 7, 2) := by decide +kernel
theorem dX8_scatter_38 : decode cX8_scatter 38 = .ok (.iload 7, 2) := by decide +kernel
theorem dX8_scatter_40 : decode cX8_scatter 40 = .ok (.aload_n 0, 1) := by decide +kernel
theorem dX8_scatter_41 : decode cX8_scatter 41 = .ok (.getfield 22, 3) := by decide +kernel
theorem dX8_scatter_44 : decode cX8_scatter 44 = .ok (.iload 4, 2) := by decide +kernel
theorem dX8_scatter_46 : decode cX8_scatter 46 = .ok (.iaload, 1) := by decide +kernel
theorem dX8_scatter_47 : decode cX8_scatter 47 = .ok (.if_icmp .ge 49, 3) := by decide +kernel
theorem dX8_scatter_50 : decode cX8_scatter 50 = .ok (.lload 5, 2) := by decide +kernel
theorem dX8_scatter_52 : decode cX8_scatter 52 = .ok (.ldc2_w 353, 3) := by decide +kernel
theorem dX8_scatter_55 : decode cX8_scatter 55 = .ok (.lmul, 1) := by decide +kernel
theorem dX8_scatter_56 : decode cX8_scatter 56 = .ok (.ldc2_w 355, 3) := by decide +kernel
theorem dX8_scatter_59 : decode cX8_scatter 59 = .ok (.ladd, 1) := by decide +kernel
theorem dX8_scatter_60 : decode cX8_scatter 60 = .ok (.lstore 5, 2) := by decide +kernel
theorem dX8_scatter_62 : decode cX8_scatter 62 = .ok (.aload_n 0, 1) := by decide +kernel
theorem dX8_scatter_63 : decode cX8_scatter 63 = .ok (.getfield 31, 3) := by decide +kernel
theorem dX8_scatter_66 : decode cX8_scatter 66 = .ok (.bipush 6, 2) := by decide +kernel
theorem dX8_scatter_68 : decode cX8_scatter 68 = .ok (.iload 4, 2) := by decide +kernel
theorem dX8_scatter_70 : decode cX8_scatter 70 = .ok (.imul, 1) := by decide +kernel
theorem dX8_scatter_71 : decode cX8_scatter 71 = .ok (.iload 7, 2) := by decide +kernel
theorem dX8_scatter_73 : decode cX8_scatter 73 = .ok (.iadd, 1) := by decide +kernel
theorem dX8_scatter_74 : decode cX8_scatter 74 = .ok (.aload_n 0, 1) := by decide +kernel
theorem dX8_scatter_75 : decode cX8_scatter 75 = .ok (.getfield 19, 3) := by decide +kernel
theorem dX8_scatter_78 : decode cX8_scatter 78 = .ok (.iload 4, 2) := by decide +kernel
theorem dX8_scatter_80 : decode cX8_scatter 80 = .ok (.iaload, 1) := by decide +kernel
theorem dX8_scatter_81 : decode cX8_scatter 81 = .ok (.lload 5, 2) := by decide +kernel
theorem dX8_scatter_83 : decode cX8_scatter 83 = .ok (.bipush 20, 2) := by decide +kernel
theorem dX8_scatter_85 : decode cX8_scatter 85 = .ok (.lshr, 1) := by decide +kernel
theorem dX8_scatter_86 : decode cX8_scatter 86 = .ok (.invokestatic 305, 3) := by decide +kernel
theorem dX8_scatter_89 : decode cX8_scatter 89 = .ok (.lastore, 1) := by decide +kernel
theorem dX8_scatter_90 : decode cX8_scatter 90 = .ok (.iinc 7 1, 3) := by decide +kernel
theorem dX8_scatter_93 : decode cX8_scatter 93 = .ok (.goto (-55), 3) := by decide +kernel
theorem dX8_scatter_96 : decode cX8_scatter 96 = .ok (.aload_n 0, 1) := by decide +kernel
theorem dX8_scatter_97 : decode cX8_scatter 97 = .ok (.getfield 22, 3) := by decide +kernel
theorem dX8_scatter_100 : decode cX8_scatter 100 = .ok (.iload 4, 2) := by decide +kernel
theorem dX8_scatter_102 : decode cX8_scatter 102 = .ok (.iaload, 1) := by decide +kernel
theorem dX8_scatter_103 : decode cX8_scatter 103 = .ok (.ireturn, 1) := by decide +kernel
def fX8_scatter_b38 : Nat → Int32 → Int64 → Int32 → Mm → Option (Int32 × Mm)
  | 0, _, _, _, _ => none
  | n + 1, v4, v5, v7, μ => (if inb v4 11 = true then (if (μ.1 5 (Int32.toNatClampNeg v4)) ≤ v7 then (if inb v4 11 = true then some ((μ.1 5 (Int32.toNatClampNeg v4)), μ) else none) else (if inb v4 11 = true then ((fX8_given (μ.1 4 (Int32.toNatClampNeg v4)) (jlshr ((v5 * (6364136223846793005 : Int64)) + (1442695040888963407 : Int64)) (20 : Int32))).bind fun r86 => (if inb (((6 : Int32) * v4) + v7) 66 = true then (fX8_scatter_b38 n) v4 ((v5 * (6364136223846793005 : Int64)) + (1442695040888963407 : Int64)) (v7 + (1 : Int32)) (wL μ 8 (Int32.toNatClampNeg (((6 : Int32) * v4) + v7)) r86) else none)) else none)) else none)
def fX8_scatter (p1 : Int32) (p2 : Int64) (μ : Mm) : Option (Int32 × Mm) := ((fX8_isSlot p1).bind fun r1 => (if r1 = 0 then some ((-1 : Int32), μ) else ((fX8_holdsPlain p1 μ).bind fun r11 => (if r11 = 0 then some ((-3 : Int32), μ) else ((fX8_note μ).bind fun μ21 => (if inb p1 10 = true then fX8_scatter_b38 100 (μ21.1 3 (Int32.toNatClampNeg p1)) p2 (0 : Int32) μ21 else none))))))
set_option maxRecDepth 100000 in
set_option maxHeartbeats 4000000 in
theorem kX8_scatter (l : Launch) (ε : Ev) (p1 : Int32) (p2 : Int64) (μ : Mm) (out : (Int32 × Mm)) (hf : fX8_scatter p1 p2 μ = some out) : Sp l ε layM yX8_scatter cX8_scatter 8 (some .int) 3 [.ref (ea ε 0), .int p1, .long p2] (some (.int out.1)) μ out.2 := by
  refine Sp.of [(0, .ref (ea ε 0)), (1, .int p1), (2, .long p2)] rfl (by decide +kernel) (Nat.le_of_ble_eq_true rfl) ?_
  intro κ hκ C E hQ
  subst hκ
  replace C : Cf κ cX8_scatter 8 RX8 (some .int) 3 := C
  have b38 : ∀ (n : Nat) (v4 : Int32) (v5 : Int64) (v7 : Int32) (μ : Mm) , fX8_scatter_b38 n v4 v5 v7 μ = some out → G κ (Vw κ ε layM μ) 8 38 [(0, .ref (ea ε 0)), (4, .int v4), (5, .long v5), (7, .int v7)] [] := by
    intro n
    induction n with
    | zero => intro v4 v5 v7 μ hf; exact none_ne hf
    | succ n ih =>
      intro v4 v5 v7 μ hf
      refine g_iload (pc := 38) (i := 7) (j := 3) C dX8_scatter_38 rfl ?_
      refine g_aload_n (pc := 40) (i := 0) (j := 0) C dX8_scatter_40 rfl rfl ?_
      refine g_getr (pc := 41) (j := 5) C E fdX8_22 layM_0_5 dX8_scatter_41 ?_
      refine g_iload (pc := 44) (i := 4) (j := 1) C dX8_scatter_44 rfl ?_
      refine g_iald (pc := 46) C E layM_5 dX8_scatter_46 hf (fun hf => ?_)
      refine g_icmp_ge (pc := 47) (tgt := 96) C dX8_scatter_47 rfl hf (fun _ hf => ?_) (fun _ hf => ?_)
      · refine g_aload_n (pc := 96) (i := 0) (j := 0) C dX8_scatter_96 rfl rfl ?_
        refine g_getr (pc := 97) (j := 5) C E fdX8_22 layM_0_5 dX8_scatter_97 ?_
        refine g_iload (pc := 100) (i := 4) (j := 1) C dX8_scatter_100 rfl ?_
        refine g_iald (pc := 102) C E layM_5 dX8_scatter_102 hf (fun hf => ?_)
        exact g_iretw (pc := 103) C hQ dX8_scatter_103 hf
      · refine g_lload (pc := 50) (i := 5) (j := 2) C dX8_scatter_50 rfl ?_
        refine g_ldc2 (pc := 52) C cnX8_353 dX8_scatter_52 ?_
        refine g_lmul (pc := 55) C dX8_scatter_55 ?_
        refine g_ldc2 (pc := 56) C cnX8_355 dX8_scatter_56 ?_
        refine g_ladd (pc := 59) C dX8_scatter_59 ?_
        refine g_lstore (pc := 60) (i := 5) (L' := [(5, .long ((v5 * (6364136223846793005 : Int64)) + (1442695040888963407 : Int64))), (0, .ref (ea ε 0)), (4, .int v4), (7, .int v7)]) C dX8_scatter_60 (by decide) rfl ?_
        refine g_aload_n (pc := 62) (i := 0) (j := 1) C dX8_scatter_62 rfl rfl ?_
        refine g_getr (pc := 63) (j := 8) C E fdX8_31 layM_0_8 dX8_scatter_63 ?_
        refine g_bipush (pc := 66) C dX8_scatter_66 cb_6 ?_
        refine g_iload (pc := 68) (i := 4) (j := 2) C dX8_scatter_68 rfl ?_
        refine g_imul (pc := 70) C dX8_scatter_70 ?_
        refine g_iload (pc := 71) (i := 7) (j := 3) C dX8_scatter_71 rfl ?_
        refine g_iadd (pc := 73) C dX8_scatter_73 ?_
        refine g_aload_n (pc := 74) (i := 0) (j := 1) C dX8_scatter_74 rfl rfl ?_
        refine g_getr (pc := 75) (j := 4) C E fdX8_19 layM_0_4 dX8_scatter_75 ?_
        refine g_iload (pc := 78) (i := 4) (j := 2) C dX8_scatter_78 rfl ?_
        refine g_iald (pc := 80) C E layM_4 dX8_scatter_80 hf (fun hf => ?_)
        refine g_lload (pc := 81) (i := 5) (j := 0) C dX8_scatter_81 rfl ?_
        refine g_bipush (pc := 83) C dX8_scatter_83 cb_20 ?_
        refine g_lshr (pc := 85) C dX8_scatter_85 ?_
        refine g_cpl (pc := 86) (st := [.int (((6 : Int32) * v4) + v7), .ref (ea ε 8)]) C lkX8_305 (As := [.int (μ.1 4 (Int32.toNatClampNeg v4)), .long (jlshr ((v5 * (6364136223846793005 : Int64)) + (1442695040888963407 : Int64)) (20 : Int32))]) rfl (fun out h => kX8_given (kl κ) (μ.1 4 (Int32.toNatClampNeg v4)) (jlshr ((v5 * (6364136223846793005 : Int64)) + (1442695040888963407 : Int64)) (20 : Int32)) out h) (by decide) rfl (Nat.le_of_ble_eq_true rfl) dX8_scatter_86 hf (fun r86 _ hf => ?_)
        refine g_last (pc := 89) C E layM_8 dX8_scatter_89 hf (fun hf => ?_)
        refine g_iinc (pc := 90) (i := 7) (j := 3) (v := (v7 + (1 : Int32))) (L' := [(7, .int (v7 + (1 : Int32))), (5, .long ((v5 * (6364136223846793005 : Int64)) + (1442695040888963407 : Int64))), (0, .ref (ea ε 0)), (4, .int v4)]) C dX8_scatter_90 rfl (cx_1 _) (by decide) rfl ?_
        refine g_goto (pc := 93) (tgt := 38) C dX8_scatter_93 rfl ?_
        exact g_at [2, 3, 1, 0] rfl (ih v4 ((v5 * (6364136223846793005 : Int64)) + (1442695040888963407 : Int64)) (v7 + (1 : Int32)) (wL μ 8 (Int32.toNatClampNeg (((6 : Int32) * v4) + v7)) r86) hf)
  refine g_iload_n (pc := 0) (i := 1) (j := 1) C dX8_scatter_0 rfl rfl ?_
  refine g_cpi (pc := 1) (st := []) C lkX8_242 (As := [.int p1]) rfl (fun out h => kX8_isSlot (kl κ) p1 out h) (by decide) rfl (Nat.le_of_ble_eq_true rfl) dX8_scatter_1 hf (fun r1 _ hf => ?_)
  refine g_if_ne (pc := 4) (tgt := 9) C dX8_scatter_4 rfl hf (fun _ hf => ?_) (fun _ hf => ?_)
  · refine g_aload_n (pc := 9) (i := 0) (j := 0) C dX8_scatter_9 rfl rfl ?_
    refine g_iload_n (pc := 10) (i := 1) (j := 1) C dX8_scatter_10 rfl rfl ?_
    refine g_cri (pc := 11) (st := []) C E layM_0 lkX8_350 (As := [.int p1]) rfl (fun out h => kX8_holdsPlain (kl κ) ε p1 μ out h) (by decide) rfl (Nat.le_of_ble_eq_true rfl) dX8_scatter_11 hf (fun r11 _ hf => ?_)
    refine g_if_ne (pc := 14) (tgt := 20) C dX8_scatter_14 rfl hf (fun _ hf => ?_) (fun _ hf => ?_)
    · refine g_aload_n (pc := 20) (i := 0) (j := 0) C dX8_scatter_20 rfl rfl ?_
      refine g_cwv (pc := 21) (st := []) C E layM_0 lkX8_236 (As := []) rfl (fun out h => kX8_note (kl κ) ε μ out h) (by decide) rfl (Nat.le_of_ble_eq_true rfl) dX8_scatter_21 hf (fun μ21 _ hf => ?_)
      refine g_aload_n (pc := 24) (i := 0) (j := 0) C dX8_scatter_24 rfl rfl ?_
      refine g_getr (pc := 25) (j := 3) C E fdX8_16 layM_0_3 dX8_scatter_25 ?_
      refine g_iload_n (pc := 28) (i := 1) (j := 1) C dX8_scatter_28 rfl rfl ?_
      refine g_iald (pc := 29) C E layM_3 dX8_scatter_29 hf (fun hf => ?_)
      refine g_istore (pc := 30) (i := 4) (L' := [(4, .int (μ21.1 3 (Int32.toNatClampNeg p1))), (0, .ref (ea ε 0)), (1, .int p1), (2, .long p2)]) C dX8_scatter_30 (by decide) rfl ?_
      refine g_lload_n (pc := 32) (i := 2) (j := 3) C dX8_scatter_32 rfl rfl ?_
      refine g_lstore (pc := 33) (i := 5) (L' := [(5, .long p2), (4, .int (μ21.1 3 (Int32.toNatClampNeg p1))), (0, .ref (ea ε 0)), (1, .int p1), (2, .long p2)]) C dX8_scatter_33 (by decide) rfl ?_
      refine g_iconst (pc := 35) C dX8_scatter_35 ci_0 ?_
      refine g_istore (pc := 36) (i := 7) (L' := [(7, .int (0 : Int32)), (5, .long p2), (4, .int (μ21.1 3 (Int32.toNatClampNeg p1))), (0, .ref (ea ε 0)), (1, .int p1), (2, .long p2)]) C dX8_scatter_36 (by decide) rfl ?_
      exact g_at [3, 2, 1, 0] rfl (b38 100 (μ21.1 3 (Int32.toNatClampNeg p1)) p2 (0 : Int32) μ21 hf)
    · refine g_bipush (pc := 17) C dX8_scatter_17 cb_m3 ?_
      exact g_iretw (pc := 19) C hQ dX8_scatter_19 hf
  · refine g_iconst (pc := 7) C dX8_scatter_7 ci_m1 ?_
    exact g_iretw (pc := 8) C hQ dX8_scatter_8 hf
theorem dX8_see_0 : decode cX8_see 0 = .ok (.iload_n 1, 1) := by decide +kernel
theorem dX8_see_1 : decode cX8_see 1 = .ok (.i2l, 1) := by decide +kernel
theorem dX8_see_2 : decode cX8_see 2 = .ok (.lconst 0, 1) := by decide +kernel
theorem dX8_see_3 : decode cX8_see 3 = .ok (.ldc2_w 110, 3) := by decide +kernel
theorem dX8_see_6 : decode cX8_see 6 = .ok (.invokestatic 98, 3) := by decide +kernel
theorem dX8_see_9 : decode cX8_see 9 = .ok (.ifCond .eq 22, 3) := by decide +kernel
theorem dX8_see_12 : decode cX8_see 12 = .ok (.iload_n 2, 1) := by decide +kernel
theorem dX8_see_13 : decode cX8_see 13 = .ok (.invokestatic 198, 3) := by decide +kernel
theorem dX8_see_16 : decode cX8_see 16 = .ok (.ifCond .eq 15, 3) := by decide +kernel
theorem dX8_see_19 : decode cX8_see 19 = .ok (.iload_n 3, 1) := by decide +kernel
theorem dX8_see_20 : decode cX8_see 20 = .ok (.i2l, 1) := by decide +kernel
theorem dX8_see_21 : decode cX8_see 21 = .ok (.lconst 0, 1) := by decide +kernel
theorem dX8_see_22 : decode cX8_see 22 = .ok (.ldc2_w 405, 3) := by decide +kernel
theorem dX8_see_25 : decode cX8_see 25 = .ok (.invokestatic 98, 3) := by decide +kernel
theorem dX8_see_28 : decode cX8_see 28 = .ok (.ifCond .ne 6, 3) := by decide +kernel
theorem dX8_see_31 : decode cX8_see 31 = .ok (.bipush (-2), 2) := by decide +kernel
theorem dX8_see_33 : decode cX8_see 33 = .ok (.ireturn, 1) := by decide +kernel
theorem dX8_see_34 : decode cX8_see 34 = .ok (.aload_n 0, 1) := by decide +kernel
theorem dX8_see_35 : decode cX8_see 35 = .ok (.getfield 251, 3) := by decide +kernel
theorem dX8_see_38 : decode cX8_see 38 = .ok (.bipush 6, 2) := by decide +kernel
theorem dX8_see_40 : decode cX8_see 40 = .ok (.if_icmp .ne 6, 3) := by decide +kernel
theorem dX8_see_43 : decode cX8_see 43 = .ok (.bipush (-4), 2) := by decide +kernel
theorem dX8_see_45 : decode cX8_see 45 = .ok (.ireturn, 1) := by decide +kernel
theorem dX8_see_46 : decode cX8_see 46 = .ok (.aload_n 0, 1) := by decide +kernel
theorem dX8_see_47 : decode cX8_see 47 = .ok (.getfield 72, 3) := by decide +kernel
theorem dX8_see_50 : decode cX8_see 50 = .ok (.aload_n 0, 1) := by decide +kernel
theorem dX8_see_51 : decode cX8_see 51 = .ok (.getfield 251, 3) := by decide +kernel
theorem dX8_see_54 : decode cX8_see 54 = .ok (.iload_n 1, 1) := by decide +kernel
theorem dX8_see_55 : decode cX8_see 55 = .ok (.iastore, 1) := by decide +kernel
theorem dX8_see_56 : decode cX8_see 56 = .ok (.aload_n 0, 1) := by decide +kernel
theorem dX8_see_57 : decode cX8_see 57 = .ok (.getfield 75, 3) := by decide +kernel
theorem dX8_see_60 : decode cX8_see 60 = .ok (.aload_n 0, 1) := by decide +kernel
theorem dX8_see_61 : decode cX8_see 61 = .ok (.getfield 251, 3) := by decide +kernel
theorem dX8_see_64 : decode cX8_see 64 = .ok (.iload_n 2, 1) := by decide +kernel
theorem dX8_see_65 : decode cX8_see 65 = .ok (.iastore, 1) := by decide +kernel
theorem dX8_see_66 : decode cX8_see 66 = .ok (.aload_n 0, 1) := by decide +kernel
theorem dX8_see_67 : decode cX8_see 67 = .ok (.getfield 78, 3) := by decide +kernel
theorem dX8_see_70 : decode cX8_see 70 = .ok (.aload_n 0, 1) := by decide +kernel
theorem dX8_see_71 : decode cX8_see 71 = .ok (.getfield 251, 3) := by decide +kernel
theorem dX8_see_74 : decode cX8_see 74 = .ok (.iload_n 3, 1) := by decide +kernel
theorem dX8_see_75 : decode cX8_see 75 = .ok (.iastore, 1) := by decide +kernel
theorem dX8_see_76 : decode cX8_see 76 = .ok (.aload_n 0, 1) := by decide +kernel
theorem dX8_see_77 : decode cX8_see 77 = .ok (.dup, 1) := by decide +kernel
theorem dX8_see_78 : decode cX8_see 78 = .ok (.getfield 251, 3) := by decide +kernel
theorem dX8_see_81 : decode cX8_see 81 = .ok (.iconst 1, 1) := by decide +kernel
theorem dX8_see_82 : decode cX8_see 82 = .ok (.iadd, 1) := by decide +kernel
theorem dX8_see_83 : decode cX8_see 83 = .ok (.putfield 251, 3) := by decide +kernel
theorem dX8_see_86 : decode cX8_see 86 = .ok (.aload_n 0, 1) := by decide +kernel
theorem dX8_see_87 : decode cX8_see 87 = .ok (.getfield 251, 3) := by decide +kernel
theorem dX8_see_90 : decode cX8_see 90 = .ok (.ireturn, 1) := by decide +kernel
def fX8_see (p1 : Int32) (p2 : Int32) (p3 : Int32) (μ : Mm) : Option (Int32 × Mm) := ((fX8_in (Int32.toInt64 p1) (0 : Int64) (2 : Int64)).bind fun r6 => (if r6 = 0 then some ((-2 : Int32), μ) else ((fX8_isPlain p2).bind fun r13 => (if r13 = 0 then some ((-2 : Int32), μ) else ((fX8_in (Int32.toInt64 p3) (0 : Int64) (5 : Int64)).bind fun r25 => (if r25 = 0 then some ((-2 : Int32), μ) else (if (μ.1 0 31) = (6 : Int32) then some ((-4 : Int32), μ) else (if inb (μ.1 0 31) 6 = true then (if inb ((wI μ 21 (Int32.toNatClampNeg (μ.1 0 31)) p1).1 0 31) 6 = true then (if inb ((wI (wI μ 21 (Int32.toNatClampNeg (μ.1 0 31)) p1) 22 (Int32.toNatClampNeg ((wI μ 21 (Int32.toNatClampNeg (μ.1 0 31)) p1).1 0 31)) p2).1 0 31) 6 = true then some (((wI (wI (wI (wI μ 21 (Int32.toNatClampNeg (μ.1 0 31)) p1) 22 (Int32.toNatClampNeg ((wI μ 21 (Int32.toNatClampNeg (μ.1 0 31)) p1).1 0 31)) p2) 23 (Int32.toNatClampNeg ((wI (wI μ 21 (Int32.toNatClampNeg (μ.1 0 31)) p1) 22 (Int32.toNatClampNeg ((wI μ 21 (Int32.toNatClampNeg (μ.1 0 31)) p1).1 0 31)) p2).1 0 31)) p3) 0 31 (((wI (wI (wI μ 21 (Int32.toNatClampNeg (μ.1 0 31)) p1) 22 (Int32.toNatClampNeg ((wI μ 21 (Int32.toNatClampNeg (μ.1 0 31)) p1).1 0 31)) p2) 23 (Int32.toNatClampNeg ((wI (wI μ 21 (Int32.toNatClampNeg (μ.1 0 31)) p1) 22 (Int32.toNatClampNeg ((wI μ 21 (Int32.toNatClampNeg (μ.1 0 31)) p1).1 0 31)) p2).1 0 31)) p3).1 0 31) + (1 : Int32))).1 0 31), (wI (wI (wI (wI μ 21 (Int32.toNatClampNeg (μ.1 0 31)) p1) 22 (Int32.toNatClampNeg ((wI μ 21 (Int32.toNatClampNeg (μ.1 0 31)) p1).1 0 31)) p2) 23 (Int32.toNatClampNeg ((wI (wI μ 21 (Int32.toNatClampNeg (μ.1 0 31)) p1) 22 (Int32.toNatClampNeg ((wI μ 21 (Int32.toNatClampNeg (μ.1 0 31)) p1).1 0 31)) p2).1 0 31)) p3) 0 31 (((wI (wI (wI μ 21 (Int32.toNatClampNeg (μ.1 0 31)) p1) 22 (Int32.toNatClampNeg ((wI μ 21 (Int32.toNatClampNeg (μ.1 0 31)) p1).1 0 31)) p2) 23 (Int32.toNatClampNeg ((wI (wI μ 21 (Int32.toNatClampNeg (μ.1 0 31)) p1) 22 (Int32.toNatClampNeg ((wI μ 21 (Int32.toNatClampNeg (μ.1 0 31)) p1).1 0 31)) p2).1 0 31)) p3).1 0 31) + (1 : Int32)))) else none) else none) else none))))))))
set_option maxRecDepth 100000 in
set_option maxHeartbeats 4000000 in
theorem kX8_see (l : Launch) (ε : Ev) (p1 : Int32) (p2 : Int32) (p3 : Int32) (μ : Mm) (out : (Int32 × Mm)) (hf : fX8_see p1 p2 p3 μ = some out) : Sp l ε layM yX8_see cX8_see 4 (some .int) 2 [.ref (ea ε 0), .int p1, .int p2, .int p3] (some (.int out.1)) μ out.2 := by
  refine Sp.of [(0, .ref (ea ε 0)), (1, .int p1), (2, .int p2), (3, .int p3)] rfl (by decide +kernel) (Nat.le_of_ble_eq_true rfl) ?_
  intro κ hκ C E hQ
  subst hκ
  replace C : Cf κ cX8_see 4 RX8 (some .int) 2 := C
  refine g_iload_n (pc := 0) (i := 1) (j := 1) C dX8_see_0 rfl rfl ?_
  refine g_i2l (pc := 1) C dX8_see_1 ?_
  refine g_lconst (pc := 2) C dX8_see_2 cl_0 ?_
  refine g_ldc2 (pc := 3) C cnX8_110 dX8_see_3 ?_
  refine g_cpi (pc := 6) (st := []) C lkX8_98 (As := [.long (Int32.toInt64 p1), .long (0 : Int64), .long (2 : Int64)]) rfl (fun out h => kX8_in (kl κ) (Int32.toInt64 p1) (0 : Int64) (2 : Int64) out h) (by decide) rfl (Nat.le_of_ble_eq_true rfl) dX8_see_6 hf (fun r6 _ hf => ?_)
  refine g_if_eq (pc := 9) (tgt := 31) C dX8_see_9 rfl hf (fun _ hf => ?_) (fun _ hf => ?_)
  · refine g_bipush (pc := 31) C dX8_see_31 cb_m2 ?_
    exact g_iretw (pc := 33) C hQ dX8_see_33 hf
  · refine g_iload_n (pc := 12) (i := 2) (j := 2) C dX8_see_12 rfl rfl ?_
    refine g_cpi (pc := 13) (st := []) C lkX8_198 (As := [.int p2]) rfl (fun out h => kX8_isPlain (kl κ) p2 out h) (by decide) rfl (Nat.le_of_ble_eq_true rfl) dX8_see_13 hf (fun r13 _ hf => ?_)
    refine g_if_eq (pc := 16) (tgt := 31) C dX8_see_16 rfl hf (fun _ hf => ?_) (fun _ hf => ?_)
    · refine g_bipush (pc := 31) C dX8_see_31 cb_m2 ?_
      exact g_iretw (pc := 33) C hQ dX8_see_33 hf
    · refine g_iload_n (pc := 19) (i := 3) (j := 3) C dX8_see_19 rfl rfl ?_
      refine g_i2l (pc := 20) C dX8_see_20 ?_
      refine g_lconst (pc := 21) C dX8_see_21 cl_0 ?_
      refine g_ldc2 (pc := 22) C cnX8_405 dX8_see_22 ?_
      refine g_cpi (pc := 25) (st := []) C lkX8_98 (As := [.long (Int32.toInt64 p3), .long (0 : Int64), .long (5 : Int64)]) rfl (fun out h => kX8_in (kl κ) (Int32.toInt64 p3) (0 : Int64) (5 : Int64) out h) (by decide) rfl (Nat.le_of_ble_eq_true rfl) dX8_see_25 hf (fun r25 _ hf => ?_)
      refine g_if_ne (pc := 28) (tgt := 34) C dX8_see_28 rfl hf (fun _ hf => ?_) (fun _ hf => ?_)
      · refine g_aload_n (pc := 34) (i := 0) (j := 0) C dX8_see_34 rfl rfl ?_
        refine g_geti (pc := 35) C E fdX8_251 layM_0_31 dX8_see_35 ?_
        refine g_bipush (pc := 38) C dX8_see_38 cb_6 ?_
        refine g_icmp_ne (pc := 40) (tgt := 46) C dX8_see_40 rfl hf (fun _ hf => ?_) (fun _ hf => ?_)
        · refine g_aload_n (pc := 46) (i := 0) (j := 0) C dX8_see_46 rfl rfl ?_
          refine g_getr (pc := 47) (j := 21) C E fdX8_72 layM_0_28 dX8_see_47 ?_
          refine g_aload_n (pc := 50) (i := 0) (j := 0) C dX8_see_50 rfl rfl ?_
          refine g_geti (pc := 51) C E fdX8_251 layM_0_31 dX8_see_51 ?_
          refine g_iload_n (pc := 54) (i := 1) (j := 1) C dX8_see_54 rfl rfl ?_
          refine g_iast (pc := 55) C E layM_21 dX8_see_55 hf (fun hf => ?_)
          refine g_aload_n (pc := 56) (i := 0) (j := 0) C dX8_see_56 rfl rfl ?_
          refine g_getr (pc := 57) (j := 22) C E fdX8_75 layM_0_29 dX8_see_57 ?_
          refine g_aload_n (pc := 60) (i := 0) (j := 0) C dX8_see_60 rfl rfl ?_
          refine g_geti (pc := 61) C E fdX8_251 layM_0_31 dX8_see_61 ?_
          refine g_iload_n (pc := 64) (i := 2) (j := 2) C dX8_see_64 rfl rfl ?_
          refine g_iast (pc := 65) C E layM_22 dX8_see_65 hf (fun hf => ?_)
          refine g_aload_n (pc := 66) (i := 0) (j := 0) C dX8_see_66 rfl rfl ?_
          refine g_getr (pc := 67) (j := 23) C E fdX8_78 layM_0_30 dX8_see_67 ?_
          refine g_aload_n (pc := 70) (i := 0) (j := 0) C dX8_see_70 rfl rfl ?_
          refine g_geti (pc := 71) C E fdX8_251 layM_0_31 dX8_see_71 ?_
          refine g_iload_n (pc := 74) (i := 3) (j := 3) C dX8_see_74 rfl rfl ?_
          refine g_iast (pc := 75) C E layM_23 dX8_see_75 hf (fun hf => ?_)
          refine g_aload_n (pc := 76) (i := 0) (j := 0) C dX8_see_76 rfl rfl ?_
          refine g_dup (pc := 77) C dX8_see_77 rfl ?_
          refine g_geti (pc := 78) C E fdX8_251 layM_0_31 dX8_see_78 ?_
          refine g_iconst (pc := 81) C dX8_see_81 ci_1 ?_
          refine g_iadd (pc := 82) C dX8_see_82 ?_
          refine g_puti (pc := 83) C E fdX8_251 layM_0_31 dX8_see_83 ?_
          refine g_aload_n (pc := 86) (i := 0) (j := 0) C dX8_see_86 rfl rfl ?_
          refine g_geti (pc := 87) C E fdX8_251 layM_0_31 dX8_see_87 ?_
          exact g_iretw (pc := 90) C hQ dX8_see_90 hf
        · refine g_bipush (pc := 43) C dX8_see_43 cb_m4 ?_
          exact g_iretw (pc := 45) C hQ dX8_see_45 hf
      · refine g_bipush (pc := 31) C dX8_see_31 cb_m2 ?_
        exact g_iretw (pc := 33) C hQ dX8_see_33 hf
theorem dX8_share_0 : decode cX8_share 0 = .ok (.iload_n 1, 1) := by decide +kernel
theorem dX8_share_1 : decode cX8_share 1 = .ok (.invokestatic 242, 3) := by decide +kernel
theorem dX8_share_4 : decode cX8_share 4 = .ok (.ifCond .eq 10, 3) := by decide +kernel
theorem dX8_share_7 : decode cX8_share 7 = .ok (.iload_n 2, 1) := by decide +kernel
theorem dX8_share_8 : decode cX8_share 8 = .ok (.invokestatic 242, 3) := by decide +kernel
theorem dX8_share_11 : decode cX8_share 11 = .ok (.ifCond .ne 5, 3) := by decide +kernel
theorem dX8_share_14 : decode cX8_share 14 = .ok (.iconst (-1), 1) := by decide +kernel
theorem dX8_share_15 : decode cX8_share 15 = .ok (.ireturn, 1) := by decide +kernel
theorem dX8_share_16 : decode cX8_share 16 = .ok (.aload_n 0, 1) := by decide +kernel
theorem dX8_share_17 : decode cX8_share 17 = .ok (.invokevirtual 236, 3) := by decide +kernel
theorem dX8_share_20 : decode cX8_share 20 = .ok (.aload_n 0, 1) := by decide +kernel
theorem dX8_share_21 : decode cX8_share 21 = .ok (.getfield 13, 3) := by decide +kernel
theorem dX8_share_24 : decode cX8_share 24 = .ok (.iload_n 2, 1) := by decide +kernel
theorem dX8_share_25 : decode cX8_share 25 = .ok (.aload_n 0, 1) := by decide +kernel
theorem dX8_share_26 : decode cX8_share 26 = .ok (.getfield 13, 3) := by decide +kernel
theorem dX8_share_29 : decode cX8_share 29 = .ok (.iload_n 1, 1) := by decide +kernel
theorem dX8_share_30 : decode cX8_share 30 = .ok (.iaload, 1) := by decide +kernel
theorem dX8_share_31 : decode cX8_share 31 = .ok (.iastore, 1) := by decide +kernel
theorem dX8_share_32 : decode cX8_share 32 = .ok (.aload_n 0, 1) := by decide +kernel
theorem dX8_share_33 : decode cX8_share 33 = .ok (.getfield 16, 3) := by decide +kernel
theorem dX8_share_36 : decode cX8_share 36 = .ok (.iload_n 2, 1) := by decide +kernel
theorem dX8_share_37 : decode cX8_share 37 = .ok (.aload_n 0, 1) := by decide +kernel
theorem dX8_share_38 : decode cX8_share 38 = .ok (.getfield 16, 3) := by decide +kernel
theorem dX8_share_41 : decode cX8_share 41 = .ok (.iload_n 1, 1) := by decide +kernel
theorem dX8_share_42 : decode cX8_share 42 = .ok (.iaload, 1) := by decide +kernel
theorem dX8_share_43 : decode cX8_share 43 = .ok (.iastore, 1) := by decide +kernel
theorem dX8_share_44 : decode cX8_share 44 = .ok (.aload_n 0, 1) := by decide +kernel
theorem dX8_share_45 : decode cX8_share 45 = .ok (.getfield 13, 3) := by decide +kernel
theorem dX8_share_48 : decode cX8_share 48 = .ok (.iload_n 2, 1) := by decide +kernel
theorem dX8_share_49 : decode cX8_share 49 = .ok (.iaload, 1) := by decide +kernel
theorem dX8_share_50 : decode cX8_share 50 = .ok (.ireturn, 1) := by decide +kernel
def fX8_share (p1 : Int32) (p2 : Int32) (μ : Mm) : Option (Int32 × Mm) := ((fX8_isSlot p1).bind fun r1 => (if r1 = 0 then some ((-1 : Int32), μ) else ((fX8_isSlot p2).bind fun r8 => (if r8 = 0 then some ((-1 : Int32), μ) else ((fX8_note μ).bind fun μ17 => (if inb p1 10 = true then (if inb p2 10 = true then (if inb p1 10 = true then (if inb p2 10 = true then (if inb p2 10 = true then some (((wI (wI μ17 2 (Int32.toNatClampNeg p2) (μ17.1 2 (Int32.toNatClampNeg p1))) 3 (Int32.toNatClampNeg p2) ((wI μ17 2 (Int32.toNatClampNeg p2) (μ17.1 2 (Int32.toNatClampNeg p1))).1 3 (Int32.toNatClampNeg p1))).1 2 (Int32.toNatClampNeg p2)), (wI (wI μ17 2 (Int32.toNatClampNeg p2) (μ17.1 2 (Int32.toNatClampNeg p1))) 3 (Int32.toNatClampNeg p2) ((wI μ17 2 (Int32.toNatClampNeg p2) (μ17.1 2 (Int32.toNatClampNeg p1))).1 3 (Int32.toNatClampNeg p1)))) else none) else none) else none) else none) else none))))))
set_option maxRecDepth 100000 in
set_option maxHeartbeats 4000000 in
theorem kX8_share (l : Launch) (ε : Ev) (p1 : Int32) (p2 : Int32) (μ : Mm) (out : (Int32 × Mm)) (hf : fX8_share p1 p2 μ = some out) : Sp l ε layM yX8_share cX8_share 3 (some .int) 2 [.ref (ea ε 0), .int p1, .int p2] (some (.int out.1)) μ out.2 := by
  refine Sp.of [(0, .ref (ea ε 0)), (1, .int p1), (2, .int p2)] rfl (by decide +kernel) (Nat.le_of_ble_eq_true rfl) ?_
  intro κ hκ C E hQ
  subst hκ
  replace C : Cf κ cX8_share 3 RX8 (some .int) 2 := C
  refine g_iload_n (pc := 0) (i := 1) (j := 1) C dX8_share_0 rfl rfl ?_
  refine g_cpi (pc := 1) (st := []) C lkX8_242 (As := [.int p1]) rfl (fun out h => kX8_isSlot (kl κ) p1 out h) (by decide) rfl (Nat.le_of_ble_eq_true rfl) dX8_share_1 hf (fun r1 _ hf => ?_)
  refine g_if_eq (pc := 4) (tgt := 14) C dX8_share_4 rfl hf (fun _ hf => ?_) (fun _ hf => ?_)
  · refine g_iconst (pc := 14) C dX8_share_14 ci_m1 ?_
    exact g_iretw (pc := 15) C hQ dX8_share_15 hf
  · refine g_iload_n (pc := 7) (i := 2) (j := 2) C dX8_share_7 rfl rfl ?_
    refine g_cpi (pc := 8) (st := []) C lkX8_242 (As := [.int p2]) rfl (fun out h => kX8_isSlot (kl κ) p2 out h) (by decide) rfl (Nat.le_of_ble_eq_true rfl) dX8_share_8 hf (fun r8 _ hf => ?_)
    refine g_if_ne (pc := 11) (tgt := 16) C dX8_share_11 rfl hf (fun _ hf => ?_) (fun _ hf => ?_)
    · refine g_aload_n (pc := 16) (i := 0) (j := 0) C dX8_share_16 rfl rfl ?_
      refine g_cwv (pc := 17) (st := []) C E layM_0 lkX8_236 (As := []) rfl (fun out h => kX8_note (kl κ) ε μ out h) (by decide) rfl (Nat.le_of_ble_eq_true rfl) dX8_share_17 hf (fun μ17 _ hf => ?_)
      refine g_aload_n (pc := 20) (i := 0) (j := 0) C dX8_share_20 rfl rfl ?_
      refine g_getr (pc := 21) (j := 2) C E fdX8_13 layM_0_2 dX8_share_21 ?_
      refine g_iload_n (pc := 24) (i := 2) (j := 2) C dX8_share_24 rfl rfl ?_
      refine g_aload_n (pc := 25) (i := 0) (j := 0) C dX8_share_25 rfl rfl ?_
      refine g_getr (pc := 26) (j := 2) C E fdX8_13 layM_0_2 dX8_share_26 ?_
      refine g_iload_n (pc := 29) (i := 1) (j := 1) C dX8_share_29 rfl rfl ?_
      refine g_iald (pc := 30) C E layM_2 dX8_share_30 hf (fun hf => ?_)
      refine g_iast (pc := 31) C E layM_2 dX8_share_31 hf (fun hf => ?_)
      refine g_aload_n (pc := 32) (i := 0) (j := 0) C dX8_share_32 rfl rfl ?_
      refine g_getr (pc := 33) (j := 3) C E fdX8_16 layM_0_3 dX8_share_33 ?_
      refine g_iload_n (pc := 36) (i := 2) (j := 2) C dX8_share_36 rfl rfl ?_
      refine g_aload_n (pc := 37) (i := 0) (j := 0) C dX8_share_37 rfl rfl ?_
      refine g_getr (pc := 38) (j := 3) C E fdX8_16 layM_0_3 dX8_share_38 ?_
      refine g_iload_n (pc := 41) (i := 1) (j := 1) C dX8_share_41 rfl rfl ?_
      refine g_iald (pc := 42) C E layM_3 dX8_share_42 hf (fun hf => ?_)
      refine g_iast (pc := 43) C E layM_3 dX8_share_43 hf (fun hf => ?_)
      refine g_aload_n (pc := 44) (i := 0) (j := 0) C dX8_share_44 rfl rfl ?_
      refine g_getr (pc := 45) (j := 2) C E fdX8_13 layM_0_2 dX8_share_45 ?_
      refine g_iload_n (pc := 48) (i := 2) (j := 2) C dX8_share_48 rfl rfl ?_
      refine g_iald (pc := 49) C E layM_2 dX8_share_49 hf (fun hf => ?_)
      exact g_iretw (pc := 50) C hQ dX8_share_50 hf
    · refine g_iconst (pc := 14) C dX8_share_14 ci_m1 ?_
      exact g_iretw (pc := 15) C hQ dX8_share_15 hf
theorem dX8_take_0 : decode cX8_take 0 = .ok (.iload_n 1, 1) := by decide +kernel
theorem dX8_take_1 : decode cX8_take 1 = .ok (.invokestatic 242, 3) := by decide +kernel
theorem dX8_take_4 : decode cX8_take 4 = .ok (.ifCond .ne 5, 3) := by decide +kernel
theorem dX8_take_7 : decode cX8_take 7 = .ok (.iconst (-1), 1) := by decide +kernel
theorem dX8_take_8 : decode cX8_take 8 = .ok (.ireturn, 1) := by decide +kernel
theorem dX8_take_9 : decode cX8_take 9 = .ok (.iload_n 3, 1) := by decide +kernel
theorem dX8_take_10 : decode cX8_take 10 = .ok (.invokestatic 198, 3) := by decide +kernel
theorem dX8_take_13 : decode cX8_take 13 = .ok (.ifCond .ne 6, 3) := by decide +kernel
theorem dX8_take_16 : decode cX8_take 16 = .ok (.bipush (-2), 2) := by decide +kernel
theorem dX8_take_18 : decode cX8_take 18 = .ok (.ireturn, 1) := by decide +kernel
theorem dX8_take_19 : decode cX8_take 19 = .ok (.aload_n 0, 1) := by decide +kernel
theorem dX8_take_20 : decode cX8_take 20 = .ok (.iload_n 1, 1) := by decide +kernel
theorem dX8_take_21 : decode cX8_take 21 = .ok (.iload_n 2, 1) := by decide +kernel
theorem dX8_take_22 : decode cX8_take 22 = .ok (.iload_n 3, 1) := by decide +kernel
theorem dX8_take_23 : decode cX8_take 23 = .ok (.invokevirtual 335, 3) := by decide +kernel
theorem dX8_take_26 : decode cX8_take 26 = .ok (.istore 4, 2) := by decide +kernel
theorem dX8_take_28 : decode cX8_take 28 = .ok (.iload 4, 2) := by decide +kernel
theorem dX8_take_30 : decode cX8_take 30 = .ok (.ifCond .ne 41, 3) := by decide +kernel
theorem dX8_take_33 : decode cX8_take 33 = .ok (.aload_n 0, 1) := by decide +kernel
theorem dX8_take_34 : decode cX8_take 34 = .ok (.getfield 16, 3) := by decide +kernel
theorem dX8_take_37 : decode cX8_take 37 = .ok (.iload_n 1, 1) := by decide +kernel
theorem dX8_take_38 : decode cX8_take 38 = .ok (.iaload, 1) := by decide +kernel
theorem dX8_take_39 : decode cX8_take 39 = .ok (.istore 5, 2) := by decide +kernel
theorem dX8_take_41 : decode cX8_take 41 = .ok (.aload_n 0, 1) := by decide +kernel
theorem dX8_take_42 : decode cX8_take 42 = .ok (.iconst 1, 1) := by decide +kernel
theorem dX8_take_43 : decode cX8_take 43 = .ok (.iload_n 3, 1) := by decide +kernel
theorem dX8_take_44 : decode cX8_take 44 = .ok (.aload_n 0, 1) := by decide +kernel
theorem dX8_take_45 : decode cX8_take 45 = .ok (.aload_n 0, 1) := by decide +kernel
theorem dX8_take_46 : decode cX8_take 46 = .ok (.getfield 19, 3) := by decide +kernel
theorem dX8_take_49 : decode cX8_take 49 = .ok (.iload 5, 2) := by decide +kernel
theorem dX8_take_51 : decode cX8_take 51 = .ok (.iaload, 1) := by decide +kernel
theorem dX8_take_52 : decode cX8_take 52 = .ok (.aload_n 0, 1) := by decide +kernel
theorem dX8_take_53 : decode cX8_take 53 = .ok (.getfield 31, 3) := by decide +kernel
theorem dX8_take_56 : decode cX8_take 56 = .ok (.bipush 6, 2) := by decide +kernel
theorem dX8_take_58 : decode cX8_take 58 = .ok (.iload 5, 2) := by decide +kernel
theorem dX8_take_60 : decode cX8_take 60 = .ok (.imul, 1) := by decide +kernel
theorem dX8_take_61 : decode cX8_take 61 = .ok (.iload_n 2, 1) := by decide +kernel
theorem dX8_take_62 : decode cX8_take 62 = .ok (.iadd, 1) := by decide +kernel
theorem dX8_take_63 : decode cX8_take 63 = .ok (.laload, 1) := by decide +kernel
theorem dX8_take_64 : decode cX8_take 64 = .ok (.iload_n 3, 1) := by decide +kernel
theorem dX8_take_65 : decode cX8_take 65 = .ok (.invokevirtual 332, 3) := by decide +kernel
theorem dX8_take_68 : decode cX8_take 68 = .ok (.invokevirtual 308, 3) := by decide +kernel
theorem dX8_take_71 : decode cX8_take 71 = .ok (.iload 4, 2) := by decide +kernel
theorem dX8_take_73 : decode cX8_take 73 = .ok (.ireturn, 1) := by decide +kernel
def fX8_take (p1 : Int32) (p2 : Int32) (p3 : Int32) (μ : Mm) : Option (Int32 × Mm) := ((fX8_isSlot p1).bind fun r1 => (if r1 = 0 then some ((-1 : Int32), μ) else ((fX8_isPlain p3).bind fun r10 => (if r10 = 0 then some ((-2 : Int32), μ) else ((fX8_reasonToTake p1 p2 p3 μ).bind fun r23 => (if r23 = 0 then (if inb p1 10 = true then (if inb (μ.1 3 (Int32.toNatClampNeg p1)) 11 = true then (if inb (((6 : Int32) * (μ.1 3 (Int32.toNatClampNeg p1))) + p2) 66 = true then (bnd (fX8_widened (μ.1 4 (Int32.toNatClampNeg (μ.1 3 (Int32.toNatClampNeg p1)))) (μ.2 8 (Int32.toNatClampNeg (((6 : Int32) * (μ.1 3 (Int32.toNatClampNeg p1))) + p2))) p3 μ) fun r65 μ65 => ((fX8_hold (1 : Int32) p3 r65 μ65).bind fun μ68 => some (r23, μ68))) else none) else none) else none) else some (r23, μ)))))))
set_option maxRecDepth 100000 in
set_option maxHeartbeats 4000000 in
theorem kX8_take (l : Launch) (ε : Ev) (p1 : Int32) (p2 : Int32) (p3 : Int32) (μ : Mm) (out : (Int32 × Mm)) (hf : fX8_take p1 p2 p3 μ = some out) : Sp l ε layM yX8_take cX8_take 6 (some .int) 4 [.ref (ea ε 0), .int p1, .int p2, .int p3] (some (.int out.1)) μ out.2 := by
  refine Sp.of [(0, .ref (ea ε 0)), (1, .int p1), (2, .int p2), (3, .int p3)] rfl (by decide +kernel) (Nat.le_of_ble_eq_true rfl) ?_
  intro κ hκ C E hQ
  subst hκ
  replace C : Cf κ cX8_take 6 RX8 (some .int) 4 := C
  refine g_iload_n (pc := 0) (i := 1) (j := 1) C dX8_take_0 rfl rfl ?_
  refine g_cpi (pc := 1) (st := []) C lkX8_242 (As := [.int p1]) rfl (fun out h => kX8_isSlot (kl κ) p1 out h) (by decide) rfl (Nat.le_of_ble_eq_true rfl) dX8_take_1 hf (fun r1 _ hf => ?_)
  refine g_if_ne (pc := 4) (tgt := 9) C dX8_take_4 rfl hf (fun _ hf => ?_) (fun _ hf => ?_)
  · refine g_iload_n (pc := 9) (i := 3) (j := 3) C dX8_take_9 rfl rfl ?_
    refine g_cpi (pc := 10) (st := []) C lkX8_198 (As := [.int p3]) rfl (fun out h => kX8_isPlain (kl κ) p3 out h) (by decide) rfl (Nat.le_of_ble_eq_true rfl) dX8_take_10 hf (fun r10 _ hf => ?_)
    refine g_if_ne (pc := 13) (tgt := 19) C dX8_take_13 rfl hf (fun _ hf => ?_) (fun _ hf => ?_)
    · refine g_aload_n (pc := 19) (i := 0) (j := 0) C dX8_take_19 rfl rfl ?_
      refine g_iload_n (pc := 20) (i := 1) (j := 1) C dX8_take_20 rfl rfl ?_
      refine g_iload_n (pc := 21) (i := 2) (j := 2) C dX8_take_21 rfl rfl ?_
      refine g_iload_n (pc := 22) (i := 3) (j := 3) C dX8_take_22 rfl rfl ?_
      refine g_cri (pc := 23) (st := []) C E layM_0 lkX8_335 (As := [.int p1, .int p2, .int p3]) rfl (fun out h => kX8_reasonToTake (kl κ) ε p1 p2 p3 μ out h) (by decide) rfl (Nat.le_of_ble_eq_true rfl) dX8_take_23 hf (fun r23 _ hf => ?_)
      refine g_istore (pc := 26) (i := 4) (L' := [(4, .int r23), (0, .ref (ea ε 0)), (1, .int p1), (2, .int p2), (3, .int p3)]) C dX8_take_26 (by decide) rfl ?_
      refine g_iload (pc := 28) (i := 4) (j := 0) C dX8_take_28 rfl ?_
      refine g_if_ne (pc := 30) (tgt := 71) C dX8_take_30 rfl hf (fun _ hf => ?_) (fun _ hf => ?_)
      · refine g_iload (pc := 71) (i := 4) (j := 0) C dX8_take_71 rfl ?_
        exact g_iretw (pc := 73) C hQ dX8_take_73 hf
      · refine g_aload_n (pc := 33) (i := 0) (j := 1) C dX8_take_33 rfl rfl ?_
        refine g_getr (pc := 34) (j := 3) C E fdX8_16 layM_0_3 dX8_take_34 ?_
        refine g_iload_n (pc := 37) (i := 1) (j := 2) C dX8_take_37 rfl rfl ?_
        refine g_iald (pc := 38) C E layM_3 dX8_take_38 hf (fun hf => ?_)
        refine g_istore (pc := 39) (i := 5) (L' := [(5, .int (μ.1 3 (Int32.toNatClampNeg p1))), (4, .int r23), (0, .ref (ea ε 0)), (1, .int p1), (2, .int p2), (3, .int p3)]) C dX8_take_39 (by decide) rfl ?_
        refine g_aload_n (pc := 41) (i := 0) (j := 2) C dX8_take_41 rfl rfl ?_
        refine g_iconst (pc := 42) C dX8_take_42 ci_1 ?_
        refine g_iload_n (pc := 43) (i := 3) (j := 5) C dX8_take_43 rfl rfl ?_
        refine g_aload_n (pc := 44) (i := 0) (j := 2) C dX8_take_44 rfl rfl ?_
        refine g_aload_n (pc := 45) (i := 0) (j := 2) C dX8_take_45 rfl rfl ?_
        refine g_getr (pc := 46) (j := 4) C E fdX8_19 layM_0_4 dX8_take_46 ?_
        refine g_iload (pc := 49) (i := 5) (j := 0) C dX8_take_49 rfl ?_
        refine g_iald (pc := 51) C E layM_4 dX8_take_51 hf (fun hf => ?_)
        refine g_aload_n (pc := 52) (i := 0) (j := 2) C dX8_take_52 rfl rfl ?_
        refine g_getr (pc := 53) (j := 8) C E fdX8_31 layM_0_8 dX8_take_53 ?_
        refine g_bipush (pc := 56) C dX8_take_56 cb_6 ?_
        refine g_iload (pc := 58) (i := 5) (j := 0) C dX8_take_58 rfl ?_
        refine g_imul (pc := 60) C dX8_take_60 ?_
        refine g_iload_n (pc := 61) (i := 2) (j := 4) C dX8_take_61 rfl rfl ?_
        refine g_iadd (pc := 62) C dX8_take_62 ?_
        refine g_lald (pc := 63) C E layM_8 dX8_take_63 hf (fun hf => ?_)
        refine g_iload_n (pc := 64) (i := 3) (j := 5) C dX8_take_64 rfl rfl ?_
        refine g_cwl (pc := 65) (st := [.int p3, .int (1 : Int32), .ref (ea ε 0)]) C E layM_0 lkX8_332 (As := [.int (μ.1 4 (Int32.toNatClampNeg (μ.1 3 (Int32.toNatClampNeg p1)))), .long (μ.2 8 (Int32.toNatClampNeg (((6 : Int32) * (μ.1 3 (Int32.toNatClampNeg p1))) + p2))), .int p3]) rfl (fun out h => kX8_widened (kl κ) ε (μ.1 4 (Int32.toNatClampNeg (μ.1 3 (Int32.toNatClampNeg p1)))) (μ.2 8 (Int32.toNatClampNeg (((6 : Int32) * (μ.1 3 (Int32.toNatClampNeg p1))) + p2))) p3 μ out h) (by decide) rfl (Nat.le_of_ble_eq_true rfl) dX8_take_65 hf (fun r65 μ65 _ hf => ?_)
        refine g_cwv (pc := 68) (st := []) C E layM_0 lkX8_308 (As := [.int (1 : Int32), .int p3, .long r65]) rfl (fun out h => kX8_hold (kl κ) ε (1 : Int32) p3 r65 μ65 out h) (by decide) rfl (Nat.le_of_ble_eq_true rfl) dX8_take_68 hf (fun μ68 _ hf => ?_)
        refine g_iload (pc := 71) (i := 4) (j := 1) C dX8_take_71 rfl ?_
        exact g_iretw (pc := 73) C hQ dX8_take_73 hf
    · refine g_bipush (pc := 16) C dX8_take_16 cb_m2 ?_
      exact g_iretw (pc := 18) C hQ dX8_take_18 hf
  · refine g_iconst (pc := 7) C dX8_take_7 ci_m1 ?_
    exact g_iretw (pc := 8) C hQ dX8_take_8 hf
theorem dX8_tell_0 : decode cX8_tell 0 = .ok (.iload_n 1, 1) := by decide +kernel
theorem dX8_tell_1 : decode cX8_tell 1 = .ok (.invokestatic 242, 3) := by decide +kernel
theorem dX8_tell_4 : decode cX8_tell 4 = .ok (.ifCond .ne 5, 3) := by decide +kernel
theorem dX8_tell_7 : decode cX8_tell 7 = .ok (.iconst (-1), 1) := by decide +kernel
theorem dX8_tell_8 : decode cX8_tell 8 = .ok (.ireturn, 1) := by decide +kernel
theorem dX8_tell_9 : decode cX8_tell 9 = .ok (.aload_n 0, 1) := by decide +kernel
theorem dX8_tell_10 : decode cX8_tell 10 = .ok (.invokevirtual 221, 3) := by decide +kernel
theorem dX8_tell_13 : decode cX8_tell 13 = .ok (.bipush (-9), 2) := by decide +kernel
theorem dX8_tell_15 : decode cX8_tell 15 = .ok (.if_icmp .eq 6, 3) := by decide +kernel
theorem dX8_tell_18 : decode cX8_tell 18 = .ok (.bipush (-3), 2) := by decide +kernel
theorem dX8_tell_20 : decode cX8_tell 20 = .ok (.ireturn, 1) := by decide +kernel
theorem dX8_tell_21 : decode cX8_tell 21 = .ok (.aload_n 0, 1) := by decide +kernel
theorem dX8_tell_22 : decode cX8_tell 22 = .ok (.iload_n 1, 1) := by decide +kernel
theorem dX8_tell_23 : decode cX8_tell 23 = .ok (.invokevirtual 245, 3) := by decide +kernel
theorem dX8_tell_26 : decode cX8_tell 26 = .ok (.aload_n 0, 1) := by decide +kernel
theorem dX8_tell_27 : decode cX8_tell 27 = .ok (.getfield 195, 3) := by decide +kernel
theorem dX8_tell_30 : decode cX8_tell 30 = .ok (.ireturn, 1) := by decide +kernel
def fX8_tell (p1 : Int32) (μ : Mm) : Option (Int32 × Mm) := ((fX8_isSlot p1).bind fun r1 => (if r1 = 0 then some ((-1 : Int32), μ) else (bnd (fX8_readText μ) fun r10 μ10 => (if r10 = (-9 : Int32) then ((fX8_holdNew p1 μ10).bind fun μ23 => some ((μ23.1 0 32), μ23)) else some ((-3 : Int32), μ10)))))
set_option maxRecDepth 100000 in
set_option maxHeartbeats 4000000 in
theorem kX8_tell (l : Launch) (ε : Ev) (p1 : Int32) (μ : Mm) (out : (Int32 × Mm)) (hf : fX8_tell p1 μ = some out) : Sp l ε layM yX8_tell cX8_tell 2 (some .int) 6 [.ref (ea ε 0), .int p1] (some (.int out.1)) μ out.2 := by
  refine Sp.of [(0, .ref (ea ε 0)), (1, .int p1)] rfl (by decide +kernel) (Nat.le_of_ble_eq_true rfl) ?_
  intro κ hκ C E hQ
  subst hκ
  replace C : Cf κ cX8_tell 2 RX8 (some .int) 6 := C
  refine g_iload_n (pc := 0) (i := 1) (j := 1) C dX8_tell_0 rfl rfl ?_
  refine g_cpi (pc := 1) (st := []) C lkX8_242 (As := [.int p1]) rfl (fun out h => kX8_isSlot (kl κ) p1 out h) (by decide) rfl (Nat.le_of_ble_eq_true rfl) dX8_tell_1 hf (fun r1 _ hf => ?_)
  refine g_if_ne (pc := 4) (tgt := 9) C dX8_tell_4 rfl hf (fun _ hf => ?_) (fun _ hf => ?_)
  · refine g_aload_n (pc := 9) (i := 0) (j := 0) C dX8_tell_9 rfl rfl ?_
    refine g_cwi (pc := 10) (st := []) C E layM_0 lkX8_221 (As := []) rfl (fun out h => kX8_readText (kl κ) ε μ out h) (by decide) rfl (Nat.le_of_ble_eq_true rfl) dX8_tell_10 hf (fun r10 μ10 _ hf => ?_)
    refine g_bipush (pc := 13) C dX8_tell_13 cb_m9 ?_
    refine g_icmp_eq (pc := 15) (tgt := 21) C dX8_tell_15 rfl hf (fun _ hf => ?_) (fun _ hf => ?_)
    · refine g_aload_n (pc := 21) (i := 0) (j := 0) C dX8_tell_21 rfl rfl ?_
      refine g_iload_n (pc := 22) (i := 1) (j := 1) C dX8_tell_22 rfl rfl ?_
      refine g_cwv (pc := 23) (st := []) C E layM_0 lkX8_245 (As := [.int p1]) rfl (fun out h => kX8_holdNew (kl κ) ε p1 μ10 out h) (by decide) rfl (Nat.le_of_ble_eq_true rfl) dX8_tell_23 hf (fun μ23 _ hf => ?_)
      refine g_aload_n (pc := 26) (i := 0) (j := 0) C dX8_tell_26 rfl rfl ?_
      refine g_geti (pc := 27) C E fdX8_195 layM_0_32 dX8_tell_27 ?_
      exact g_iretw (pc := 30) C hQ dX8_tell_30 hf
    · refine g_bipush (pc := 18) C dX8_tell_18 cb_m3 ?_
      exact g_iretw (pc := 20) C hQ dX8_tell_20 hf
  · refine g_iconst (pc := 7) C dX8_tell_7 ci_m1 ?_
    exact g_iretw (pc := 8) C hQ dX8_tell_8 hf
theorem dX8_text_0 : decode cX8_text 0 = .ok (.iload_n 1, 1) := by decide +kernel
theorem dX8_text_1 : decode cX8_text 1 = .ok (.i2l, 1) := by decide +kernel
theorem dX8_text_2 : decode cX8_text 2 = .ok (.lconst 0, 1) := by decide +kernel
theorem dX8_text_3 : decode cX8_text 3 = .ok (.ldc2_w 190, 3) := by decide +kernel
theorem dX8_text_6 : decode cX8_text 6 = .ok (.invokestatic 98, 3) := by decide +kernel
theorem dX8_text_9 : decode cX8_text 9 = .ok (.ifCond .ne 6, 3) := by decide +kernel
theorem dX8_text_12 : decode cX8_text 12 = .ok (.bipush (-2), 2) := by decide +kernel
theorem dX8_text_14 : decode cX8_text 14 = .ok (.ireturn, 1) := by decide +kernel
theorem dX8_text_15 : decode cX8_text 15 = .ok (.aload_n 0, 1) := by decide +kernel
theorem dX8_text_16 : decode cX8_text 16 = .ok (.iconst 4, 1) := by decide +kernel
theorem dX8_text_17 : decode cX8_text 17 = .ok (.iconst 0, 1) := by decide +kernel
theorem dX8_text_18 : decode cX8_text 18 = .ok (.iload_n 1, 1) := by decide +kernel
theorem dX8_text_19 : decode cX8_text 19 = .ok (.i2l, 1) := by decide +kernel
theorem dX8_text_20 : decode cX8_text 20 = .ok (.invokevirtual 308, 3) := by decide +kernel
theorem dX8_text_23 : decode cX8_text 23 = .ok (.iload_n 1, 1) := by decide +kernel
theorem dX8_text_24 : decode cX8_text 24 = .ok (.sipush 999, 3) := by decide +kernel
theorem dX8_text_27 : decode cX8_text 27 = .ok (.if_icmp .le 7, 3) := by decide +kernel
theorem dX8_text_30 : decode cX8_text 30 = .ok (.iconst 4, 1) := by decide +kernel
theorem dX8_text_31 : decode cX8_text 31 = .ok (.goto 24, 3) := by decide +kernel
theorem dX8_text_34 : decode cX8_text 34 = .ok (.iload_n 1, 1) := by decide +kernel
theorem dX8_text_35 : decode cX8_text 35 = .ok (.bipush 99, 2) := by decide +kernel
theorem dX8_text_37 : decode cX8_text 37 = .ok (.if_icmp .le 7, 3) := by decide +kernel
theorem dX8_text_40 : decode cX8_text 40 = .ok (.iconst 3, 1) := by decide +kernel
theorem dX8_text_41 : decode cX8_text 41 = .ok (.goto 14, 3) := by decide +kernel
theorem dX8_text_44 : decode cX8_text 44 = .ok (.iload_n 1, 1) := by decide +kernel
theorem dX8_text_45 : decode cX8_text 45 = .ok (.bipush 9, 2) := by decide +kernel
theorem dX8_text_47 : decode cX8_text 47 = .ok (.if_icmp .le 7, 3) := by decide +kernel
theorem dX8_text_50 : decode cX8_text 50 = .ok (.iconst 2, 1) := by decide +kernel
theorem dX8_text_51 : decode cX8_text 51 = .ok (.goto 4, 3) := by decide +kernel
theorem dX8_text_54 : decode cX8_text 54 = .ok (.iconst 1, 1) := by decide +kernel
theorem dX8_text_55 : decode cX8_text 55 = .ok (.ireturn, 1) := by decide +kernel
def fX8_text (p1 : Int32) (μ : Mm) : Option (Int32 × Mm) := ((fX8_in (Int32.toInt64 p1) (0 : Int64) (9999 : Int64)).bind fun r6 => (if r6 = 0 then some ((-2 : Int32), μ) else ((fX8_hold (4 : Int32) (0 : Int32) (Int32.toInt64 p1) μ).bind fun μ20 => (if p1 ≤ (999 : Int32) then (if p1 ≤ (99 : Int32) then (if p1 ≤ (9 : Int32) then some ((1 : Int32), μ20) else some ((2 : Int32), μ20)) else some ((3 : Int32), μ20)) else some ((4 : Int32), μ20)))))
set_option maxRecDepth 100000 in
set_option maxHeartbeats 4000000 in
theorem kX8_text (l : Launch) (ε : Ev) (p1 : Int32) (μ : Mm) (out : (Int32 × Mm)) (hf : fX8_text p1 μ = some out) : Sp l ε layM yX8_text cX8_text 2 (some .int) 1 [.ref (ea ε 0), .int p1] (some (.int out.1)) μ out.2 := by
  refine Sp.of [(0, .ref (ea ε 0)), (1, .int p1)] rfl (by decide +kernel) (Nat.le_of_ble_eq_true rfl) ?_
  intro κ hκ C E hQ
  subst hκ
  replace C : Cf κ cX8_text 2 RX8 (some .int) 1 := C
  refine g_iload_n (pc := 0) (i := 1) (j := 1) C dX8_text_0 rfl rfl ?_
  refine g_i2l (pc := 1) C dX8_text_1 ?_
  refine g_lconst (pc := 2) C dX8_text_2 cl_0 ?_
  refine g_ldc2 (pc := 3) C cnX8_190 dX8_text_3 ?_
  refine g_cpi (pc := 6) (st := []) C lkX8_98 (As := [.long (Int32.toInt64 p1), .long (0 : Int64), .long (9999 : Int64)]) rfl (fun out h => kX8_in (kl κ) (Int32.toInt64 p1) (0 : Int64) (9999 : Int64) out h) (by decide) rfl (Nat.le_of_ble_eq_true rfl) dX8_text_6 hf (fun r6 _ hf => ?_)
  refine g_if_ne (pc := 9) (tgt := 15) C dX8_text_9 rfl hf (fun _ hf => ?_) (fun _ hf => ?_)
  · refine g_aload_n (pc := 15) (i := 0) (j := 0) C dX8_text_15 rfl rfl ?_
    refine g_iconst (pc := 16) C dX8_text_16 ci_4 ?_
    refine g_iconst (pc := 17) C dX8_text_17 ci_0 ?_
    refine g_iload_n (pc := 18) (i := 1) (j := 1) C dX8_text_18 rfl rfl ?_
    refine g_i2l (pc := 19) C dX8_text_19 ?_
    refine g_cwv (pc := 20) (st := []) C E layM_0 lkX8_308 (As := [.int (4 : Int32), .int (0 : Int32), .long (Int32.toInt64 p1)]) rfl (fun out h => kX8_hold (kl κ) ε (4 : Int32) (0 : Int32) (Int32.toInt64 p1) μ out h) (by decide) rfl (Nat.le_of_ble_eq_true rfl) dX8_text_20 hf (fun μ20 _ hf => ?_)
    refine g_iload_n (pc := 23) (i := 1) (j := 1) C dX8_text_23 rfl rfl ?_
    refine g_sipush (pc := 24) C dX8_text_24 cs_999 ?_
    refine g_icmp_le (pc := 27) (tgt := 34) C dX8_text_27 rfl hf (fun _ hf => ?_) (fun _ hf => ?_)
    · refine g_iload_n (pc := 34) (i := 1) (j := 1) C dX8_text_34 rfl rfl ?_
      refine g_bipush (pc := 35) C dX8_text_35 cb_99 ?_
      refine g_icmp_le (pc := 37) (tgt := 44) C dX8_text_37 rfl hf (fun _ hf => ?_) (fun _ hf => ?_)
      · refine g_iload_n (pc := 44) (i := 1) (j := 1) C dX8_text_44 rfl rfl ?_
        refine g_bipush (pc := 45) C dX8_text_45 cb_9 ?_
        refine g_icmp_le (pc := 47) (tgt := 54) C dX8_text_47 rfl hf (fun _ hf => ?_) (fun _ hf => ?_)
        · refine g_iconst (pc := 54) C dX8_text_54 ci_1 ?_
          exact g_iretw (pc := 55) C hQ dX8_text_55 hf
        · refine g_iconst (pc := 50) C dX8_text_50 ci_2 ?_
          refine g_goto (pc := 51) (tgt := 55) C dX8_text_51 rfl ?_
          exact g_iretw (pc := 55) C hQ dX8_text_55 hf
      · refine g_iconst (pc := 40) C dX8_text_40 ci_3 ?_
        refine g_goto (pc := 41) (tgt := 55) C dX8_text_41 rfl ?_
        exact g_iretw (pc := 55) C hQ dX8_text_55 hf
    · refine g_iconst (pc := 30) C dX8_text_30 ci_4 ?_
      refine g_goto (pc := 31) (tgt := 55) C dX8_text_31 rfl ?_
      exact g_iretw (pc := 55) C hQ dX8_text_55 hf
  · refine g_bipush (pc := 12) C dX8_text_12 cb_m2 ?_
    exact g_iretw (pc := 14) C hQ dX8_text_14 hf
theorem dX8_thing_0 : decode cX8_thing 0 = .ok (.iload_n 1, 1) := by decide +kernel
theorem dX8_thing_1 : decode cX8_thing 1 = .ok (.invokestatic 242, 3) := by decide +kernel
theorem dX8_thing_4 : decode cX8_thing 4 = .ok (.ifCond .ne 5, 3) := by decide +kernel
theorem dX8_thing_7 : decode cX8_thing 7 = .ok (.iconst (-1), 1) := by decide +kernel
theorem dX8_thing_8 : decode cX8_thing 8 = .ok (.ireturn, 1) := by decide +kernel
theorem dX8_thing_9 : decode cX8_thing 9 = .ok (.iload_n 2, 1) := by decide +kernel
theorem dX8_thing_10 : decode cX8_thing 10 = .ok (.i2l, 1) := by decide +kernel
theorem dX8_thing_11 : decode cX8_thing 11 = .ok (.lconst 0, 1) := by decide +kernel
theorem dX8_thing_12 : decode cX8_thing 12 = .ok (.lconst 1, 1) := by decide +kernel
theorem dX8_thing_13 : decode cX8_thing 13 = .ok (.invokestatic 98, 3) := by decide +kernel
theorem dX8_thing_16 : decode cX8_thing 16 = .ok (.ifCond .ne 6, 3) := by decide +kernel
theorem dX8_thing_19 : decode cX8_thing 19 = .ok (.bipush (-2), 2) := by decide +kernel
theorem dX8_thing_21 : decode cX8_thing 21 = .ok (.ireturn, 1) := by decide +kernel
theorem dX8_thing_22 : decode cX8_thing 22 = .ok (.iload_n 2, 1) := by decide +kernel
theorem dX8_thing_23 : decode cX8_thing 23 = .ok (.ifCond .ne 10, 3) := by decide +kernel
theorem dX8_thing_26 : decode cX8_thing 26 = .ok (.aload_n 0, 1) := by decide +kernel
theorem dX8_thing_27 : decode cX8_thing 27 = .ok (.getfield 13, 3) := by decide +kernel
theorem dX8_thing_30 : decode cX8_thing 30 = .ok (.iload_n 1, 1) := by decide +kernel
theorem dX8_thing_31 : decode cX8_thing 31 = .ok (.iaload, 1) := by decide +kernel
theorem dX8_thing_32 : decode cX8_thing 32 = .ok (.ireturn, 1) := by decide +kernel
theorem dX8_thing_33 : decode cX8_thing 33 = .ok (.aload_n 0, 1) := by decide +kernel
theorem dX8_thing_34 : decode cX8_thing 34 = .ok (.iload_n 1, 1) := by decide +kernel
theorem dX8_thing_35 : decode cX8_thing 35 = .ok (.invokevirtual 267, 3) := by decide +kernel
theorem dX8_thing_38 : decode cX8_thing 38 = .ok (.ifCond .eq 17, 3) := by decide +kernel
theorem dX8_thing_41 : decode cX8_thing 41 = .ok (.aload_n 0, 1) := by decide +kernel
theorem dX8_thing_42 : decode cX8_thing 42 = .ok (.getfield 22, 3) := by decide +kernel
theorem dX8_thing_45 : decode cX8_thing 45 = .ok (.aload_n 0, 1) := by decide +kernel
theorem dX8_thing_46 : decode cX8_thing 46 = .ok (.getfield 16, 3) := by decide +kernel
theorem dX8_thing_49 : decode cX8_thing 49 = .ok (.iload_n 1, 1) := by decide +kernel
theorem dX8_thing_50 : decode cX8_thing 50 = .ok (.iaload, 1) := by decide +kernel
theorem dX8_thing_51 : decode cX8_thing 51 = .ok (.iaload, 1) := by decide +kernel
theorem dX8_thing_52 : decode cX8_thing 52 = .ok (.goto 21, 3) := by decide +kernel
theorem dX8_thing_55 : decode cX8_thing 55 = .ok (.aload_n 0, 1) := by decide +kernel
theorem dX8_thing_56 : decode cX8_thing 56 = .ok (.getfield 13, 3) := by decide +kernel
theorem dX8_thing_59 : decode cX8_thing 59 = .ok (.iload_n 1, 1) := by decide +kernel
theorem dX8_thing_60 : decode cX8_thing 60 = .ok (.iaload, 1) := by decide +kernel
theorem dX8_thing_61 : decode cX8_thing 61 = .ok (.bipush 15, 2) := by decide +kernel
theorem dX8_thing_63 : decode cX8_thing 63 = .ok (.if_icmp .ne 8, 3) := by decide +kernel
theorem dX8_thing_66 : decode cX8_thing 66 = .ok (.bipush (-9), 2) := by decide +kernel
theorem dX8_thing_68 : decode cX8_thing 68 = .ok (.goto 5, 3) := by decide +kernel
theorem dX8_thing_71 : decode cX8_thing 71 = .ok (.bipush (-3), 2) := by decide +kernel
theorem dX8_thing_73 : decode cX8_thing 73 = .ok (.ireturn, 1) := by decide +kernel
def fX8_thing (p1 : Int32) (p2 : Int32) (μ : Mm) : Option Int32 := ((fX8_isSlot p1).bind fun r1 => (if r1 = 0 then some (-1 : Int32) else ((fX8_in (Int32.toInt64 p2) (0 : Int64) (1 : Int64)).bind fun r13 => (if r13 = 0 then some (-2 : Int32) else (if p2 = 0 then (if inb p1 10 = true then some (μ.1 2 (Int32.toNatClampNeg p1)) else none) else ((fX8_holdsRow p1 μ).bind fun r35 => (if r35 = 0 then (if inb p1 10 = true then (if (μ.1 2 (Int32.toNatClampNeg p1)) = (15 : Int32) then some (-9 : Int32) else some (-3 : Int32)) else none) else (if inb p1 10 = true then (if inb (μ.1 3 (Int32.toNatClampNeg p1)) 11 = true then some (μ.1 5 (Int32.toNatClampNeg (μ.1 3 (Int32.toNatClampNeg p1)))) else none) else none))))))))
set_option maxRecDepth 100000 in
set_option maxHeartbeats 4000000 in
theorem kX8_thing (l : Launch) (ε : Ev) (p1 : Int32) (p2 : Int32) (μ : Mm) (out : Int32) (hf : fX8_thing p1 p2 μ = some out) : Sp l ε layM yX8_thing cX8_thing 3 (some .int) 2 [.ref (ea ε 0), .int p1, .int p2] (some (.int out)) μ μ := by
  refine Sp.of [(0, .ref (ea ε 0)), (1, .int p1), (2, .int p2)] rfl (by decide +kernel) (Nat.le_of_ble_eq_true rfl) ?_
  intro κ hκ C E hQ
  subst hκ
  replace C : Cf κ cX8_thing 3 RX8 (some .int) 2 := C
  refine g_iload_n (pc := 0) (i := 1) (j := 1) C dX8_thing_0 rfl rfl ?_
  refine g_cpi (pc := 1) (st := []) C lkX8_242 (As := [.int p1]) rfl (fun out h => kX8_isSlot (kl κ) p1 out h) (by decide) rfl (Nat.le_of_ble_eq_true rfl) dX8_thing_1 hf (fun r1 _ hf => ?_)
  refine g_if_ne (pc := 4) (tgt := 9) C dX8_thing_4 rfl hf (fun _ hf => ?_) (fun _ hf => ?_)
  · refine g_iload_n (pc := 9) (i := 2) (j := 2) C dX8_thing_9 rfl rfl ?_
    refine g_i2l (pc := 10) C dX8_thing_10 ?_
    refine g_lconst (pc := 11) C dX8_thing_11 cl_0 ?_
    refine g_lconst (pc := 12) C dX8_thing_12 cl_1 ?_
    refine g_cpi (pc := 13) (st := []) C lkX8_98 (As := [.long (Int32.toInt64 p2), .long (0 : Int64), .long (1 : Int64)]) rfl (fun out h => kX8_in (kl κ) (Int32.toInt64 p2) (0 : Int64) (1 : Int64) out h) (by decide) rfl (Nat.le_of_ble_eq_true rfl) dX8_thing_13 hf (fun r13 _ hf => ?_)
    refine g_if_ne (pc := 16) (tgt := 22) C dX8_thing_16 rfl hf (fun _ hf => ?_) (fun _ hf => ?_)
    · refine g_iload_n (pc := 22) (i := 2) (j := 2) C dX8_thing_22 rfl rfl ?_
      refine g_if_ne (pc := 23) (tgt := 33) C dX8_thing_23 rfl hf (fun _ hf => ?_) (fun _ hf => ?_)
      · refine g_aload_n (pc := 33) (i := 0) (j := 0) C dX8_thing_33 rfl rfl ?_
        refine g_iload_n (pc := 34) (i := 1) (j := 1) C dX8_thing_34 rfl rfl ?_
        refine g_cri (pc := 35) (st := []) C E layM_0 lkX8_267 (As := [.int p1]) rfl (fun out h => kX8_holdsRow (kl κ) ε p1 μ out h) (by decide) rfl (Nat.le_of_ble_eq_true rfl) dX8_thing_35 hf (fun r35 _ hf => ?_)
        refine g_if_eq (pc := 38) (tgt := 55) C dX8_thing_38 rfl hf (fun _ hf => ?_) (fun _ hf => ?_)
        · refine g_aload_n (pc := 55) (i := 0) (j := 0) C dX8_thing_55 rfl rfl ?_
          refine g_getr (pc := 56) (j := 2) C E fdX8_13 layM_0_2 dX8_thing_56 ?_
          refine g_iload_n (pc := 59) (i := 1) (j := 1) C dX8_thing_59 rfl rfl ?_
          refine g_iald (pc := 60) C E layM_2 dX8_thing_60 hf (fun hf => ?_)
          refine g_bipush (pc := 61) C dX8_thing_61 cb_15 ?_
          refine g_icmp_ne (pc := 63) (tgt := 71) C dX8_thing_63 rfl hf (fun _ hf => ?_) (fun _ hf => ?_)
          · refine g_bipush (pc := 71) C dX8_thing_71 cb_m3 ?_
            exact g_iretr (pc := 73) C hQ dX8_thing_73 hf
          · refine g_bipush (pc := 66) C dX8_thing_66 cb_m9 ?_
            refine g_goto (pc := 68) (tgt := 73) C dX8_thing_68 rfl ?_
            exact g_iretr (pc := 73) C hQ dX8_thing_73 hf
        · refine g_aload_n (pc := 41) (i := 0) (j := 0) C dX8_thing_41 rfl rfl ?_
          refine g_getr (pc := 42) (j := 5) C E fdX8_22 layM_0_5 dX8_thing_42 ?_
          refine g_aload_n (pc := 45) (i := 0) (j := 0) C dX8_thing_45 rfl rfl ?_
          refine g_getr (pc := 46) (j := 3) C E fdX8_16 layM_0_3 dX8_thing_46 ?_
          refine g_iload_n (pc := 49) (i := 1) (j := 1) C dX8_thing_49 rfl rfl ?_
          refine g_iald (pc := 50) C E layM_3 dX8_thing_50 hf (fun hf => ?_)
          refine g_iald (pc := 51) C E layM_5 dX8_thing_51 hf (fun hf => ?_)
          refine g_goto (pc := 52) (tgt := 73) C dX8_thing_52 rfl ?_
          exact g_iretr (pc := 73) C hQ dX8_thing_73 hf
      · refine g_aload_n (pc := 26) (i := 0) (j := 0) C dX8_thing_26 rfl rfl ?_
        refine g_getr (pc := 27) (j := 2) C E fdX8_13 layM_0_2 dX8_thing_27 ?_
        refine g_iload_n (pc := 30) (i := 1) (j := 1) C dX8_thing_30 rfl rfl ?_
        refine g_iald (pc := 31) C E layM_2 dX8_thing_31 hf (fun hf => ?_)
        exact g_iretr (pc := 32) C hQ dX8_thing_32 hf
    · refine g_bipush (pc := 19) C dX8_thing_19 cb_m2 ?_
      exact g_iretr (pc := 21) C hQ dX8_thing_21 hf
  · refine g_iconst (pc := 7) C dX8_thing_7 ci_m1 ?_
    exact g_iretr (pc := 8) C hQ dX8_thing_8 hf
theorem dX8_total_0 : decode cX8_total 0 = .ok (.iload_n 1, 1) := by decide +kernel
theorem dX8_total_1 : decode cX8_total 1 = .ok (.invokestatic 242, 3) := by decide +kernel
theorem dX8_total_4 : decode cX8_total 4 = .ok (.ifCond .ne 5, 3) := by decide +kernel
theorem dX8_total_7 : decode cX8_total 7 = .ok (.iconst (-1), 1) := by decide +kernel
theorem dX8_total_8 : decode cX8_total 8 = .ok (.ireturn, 1) := by decide +kernel
theorem dX8_total_9 : decode cX8_total 9 = .ok (.iload_n 2, 1) := by decide +kernel
theorem dX8_total_10 : decode cX8_total 10 = .ok (.i2l, 1) := by decide +kernel
theorem dX8_total_11 : decode cX8_total 11 = .ok (.ldc2_w 403, 3) := by decide +kernel
theorem dX8_total_14 : decode cX8_total 14 = .ok (.ldc2_w 405, 3) := by decide +kernel
theorem dX8_total_17 : decode cX8_total 17 = .ok (.invokestatic 98, 3) := by decide +kernel
theorem dX8_total_20 : decode cX8_total 20 = .ok (.ifCond .ne 6, 3) := by decide +kernel
theorem dX8_total_23 : decode cX8_total 23 = .ok (.bipush (-2), 2) := by decide +kernel
theorem dX8_total_25 : decode cX8_total 25 = .ok (.ireturn, 1) := by decide +kernel
theorem dX8_total_26 : decode cX8_total 26 = .ok (.aload_n 0, 1) := by decide +kernel
theorem dX8_total_27 : decode cX8_total 27 = .ok (.iload_n 1, 1) := by decide +kernel
theorem dX8_total_28 : decode cX8_total 28 = .ok (.invokevirtual 317, 3) := by decide +kernel
theorem dX8_total_31 : decode cX8_total 31 = .ok (.istore_n 3, 1) := by decide +kernel
theorem dX8_total_32 : decode cX8_total 32 = .ok (.iload_n 3, 1) := by decide +kernel
theorem dX8_total_33 : decode cX8_total 33 = .ok (.ifCond .eq 5, 3) := by decide +kernel
theorem dX8_total_36 : decode cX8_total 36 = .ok (.iload_n 3, 1) := by decide +kernel
theorem dX8_total_37 : decode cX8_total 37 = .ok (.ireturn, 1) := by decide +kernel
theorem dX8_total_38 : decode cX8_total 38 = .ok (.aload_n 0, 1) := by decide +kernel
theorem dX8_total_39 : decode cX8_total 39 = .ok (.getfield 16, 3) := by decide +kernel
theorem dX8_total_42 : decode cX8_total 42 = .ok (.iload_n 1, 1) := by decide +kernel
theorem dX8_total_43 : decode cX8_total 43 = .ok (.iaload, 1) := by decide +kernel
theorem dX8_total_44 : decode cX8_total 44 = .ok (.istore 4, 2) := by decide +kernel
theorem dX8_total_46 : decode cX8_total 46 = .ok (.aload_n 0, 1) := by decide +kernel
theorem dX8_total_47 : decode cX8_total 47 = .ok (.getfield 22, 3) := by decide +kernel
theorem dX8_total_50 : decode cX8_total 50 = .ok (.iload 4, 2) := by decide +kernel
theorem dX8_total_52 : decode cX8_total 52 = .ok (.iaload, 1) := by decide +kernel
theorem dX8_total_53 : decode cX8_total 53 = .ok (.ifCond .ne 7, 3) := by decide +kernel
theorem dX8_total_56 : decode cX8_total 56 = .ok (.iconst 0, 1) := by decide +kernel
theorem dX8_total_57 : decode cX8_total 57 = .ok (.goto 14, 3) := by decide +kernel
theorem dX8_total_60 : decode cX8_total 60 = .ok (.aload_n 0, 1) := by decide +kernel
theorem dX8_total_61 : decode cX8_total 61 = .ok (.getfield 19, 3) := by decide +kernel
theorem dX8_total_64 : decode cX8_total 64 = .ok (.iload 4, 2) := by decide +kernel
theorem dX8_total_66 : decode cX8_total 66 = .ok (.iaload, 1) := by decide +kernel
theorem dX8_total_67 : decode cX8_total 67 = .ok (.iload_n 2, 1) := by decide +kernel
theorem dX8_total_68 : decode cX8_total 68 = .ok (.invokestatic 320, 3) := by decide +kernel
theorem dX8_total_71 : decode cX8_total 71 = .ok (.istore_n 3, 1) := by decide +kernel
theorem dX8_total_72 : decode cX8_total 72 = .ok (.iload_n 3, 1) := by decide +kernel
theorem dX8_total_73 : decode cX8_total 73 = .ok (.ifCond .eq 5, 3) := by decide +kernel
theorem dX8_total_76 : decode cX8_total 76 = .ok (.iload_n 3, 1) := by decide +kernel
theorem dX8_total_77 : decode cX8_total 77 = .ok (.ireturn, 1) := by decide +kernel
theorem dX8_total_78 : decode cX8_total 78 = .ok (.lconst 0, 1) := by decide +kernel
theorem dX8_total_79 : decode cX8_total 79 = .ok (.lstore 5, 2) := by decide +kernel
theorem dX8_total_81 : decode cX8_total 81 = .ok (.iconst 0, 1) := by decide +kernel
theorem dX8_total_82 : decode cX8_total 82 = .ok (.istore 7, 2) := by decide +kernel
theorem dX8_total_84 : decode cX8_total 84 = .ok (.iload 7, 2) := by decide +kernel
theorem dX8_total_86 : decode cX8_total 86 = .ok (.aload_n 0, 1) := by decide +kernel
theorem dX8_total_87 : decode cX8_total 87 = .ok (.getfield 22, 3) := by decide +kernel
theorem dX8_total_90 : decode cX8_total 90 = .ok (.iload 4, 2) := by decide +kernel
theorem dX8_total_92 : decode cX8_total 92 = .ok (.iaload, 1) := by decide +kernel
theorem dX8_total_93 : decode cX8_total 93 = .ok (.if_icmp .ge 27, 3) := by decide +kernel
theorem dX8_total_96 : decode cX8_total 96 = .ok (.lload 5, 2) := by decide +kernel
theorem dX8_total_98 : decode cX8_total 98 = .ok (.aload_n 0, 1) := by decide +kernel
theorem dX8_total_99 : decode cX8_total 99 = .ok (.getfield 31, 3) := by decide +kernel
theorem dX8_total_102 : decode cX8_total 102 = .ok (.bipush 6, 2) := by decide +kernel
theorem dX8_total_104 : decode cX8_total 104 = .ok (.iload 4, 2) := by decide +kernel
theorem dX8_total_106 : decode cX8_total 106 = .ok (.imul, 1) := by decide +kernel
theorem dX8_total_107 : decode cX8_total 107 = .ok (.iload 7, 2) := by decide +kernel
theorem dX8_total_109 : decode cX8_total 109 = .ok (.iadd, 1) := by decide +kernel
theorem dX8_total_110 : decode cX8_total 110 = .ok (.laload, 1) := by decide +kernel
theorem dX8_total_111 : decode cX8_total 111 = .ok (.ladd, 1) := by decide +kernel
theorem dX8_total_112 : decode cX8_total 112 = .ok (.lstore 5, 2) := by decide +kernel
theorem dX8_total_114 : decode cX8_total 114 = .ok (.iinc 7 1, 3) := by decide +kernel
theorem dX8_total_117 : decode cX8_total 117 = .ok (.goto (-33), 3) := by decide +kernel
theorem dX8_total_120 : decode cX8_total 120 = .ok (.aload_n 0, 1) := by decide +kernel
theorem dX8_total_121 : decode cX8_total 121 = .ok (.iconst 1, 1) := by decide +kernel
theorem dX8_total_122 : decode cX8_total 122 = .ok (.iload_n 2, 1) := by decide +kernel
theorem dX8_total_123 : decode cX8_total 123 = .ok (.iload_n 2, 1) := by decide +kernel
theorem dX8_total_124 : decode cX8_total 124 = .ok (.lload 5, 2) := by decide +kernel
theorem dX8_total_126 : decode cX8_total 126 = .ok (.invokestatic 305, 3) := by decide +kernel
theorem dX8_total_129 : decode cX8_total 129 = .ok (.invokevirtual 308, 3) := by decide +kernel
theorem dX8_total_132 : decode cX8_total 132 = .ok (.iconst 0, 1) := by decide +kernel
theorem dX8_total_133 : decode cX8_total 133 = .ok (.ireturn, 1) := by decide +kernel
def fX8_total_b84 : Nat → Int32 → Int32 → Int64 → Int32 → Mm → Option (Int32 × Mm)
  | 0, _, _, _, _, _ => none
  | n + 1, v2, v4, v5, v7, μ => (if inb v4 11 = true then (if (μ.1 5 (Int32.toNatClampNeg v4)) ≤ v7 then ((fX8_given v2 v5).bind fun r126 => ((fX8_hold (1 : Int32) v2 r126 μ).bind fun μ129 => some ((0 : Int32), μ129))) else (if inb (((6 : Int32) * v4) + v7) 66 = true then (fX8_total_b84 n) v2 v4 (v5 + (μ.2 8 (Int32.toNatClampNeg (((6 : Int32) * v4) + v7)))) (v7 + (1 : Int32)) μ else none)) else none)
def fX8_total_b71 (v2 : Int32) (v4 : Int32) (s0 : Int32) (μ : Mm) : Option (Int32 × Mm) := (if s0 = 0 then fX8_total_b84 100 v2 v4 (0 : Int64) (0 : Int32) μ else some (s0, μ))
def fX8_total (p1 : Int32) (p2 : Int32) (μ : Mm) : Option (Int32 × Mm) := ((fX8_isSlot p1).bind fun r1 => (if r1 = 0 then some ((-1 : Int32), μ) else ((fX8_in (Int32.toInt64 p2) (4 : Int64) (5 : Int64)).bind fun r17 => (if r17 = 0 then some ((-2 : Int32), μ) else ((fX8_reasonOf p1 μ).bind fun r28 => (if r28 = 0 then (if inb p1 10 = true then (if inb (μ.1 3 (Int32.toNatClampNeg p1)) 11 = true then (if (μ.1 5 (Int32.toNatClampNeg (μ.1 3 (Int32.toNatClampNeg p1)))) = 0 then fX8_total_b71 p2 (μ.1 3 (Int32.toNatClampNeg p1)) (0 : Int32) μ else (if inb (μ.1 3 (Int32.toNatClampNeg p1)) 11 = true then ((fX8_takeFrom (μ.1 4 (Int32.toNatClampNeg (μ.1 3 (Int32.toNatClampNeg p1)))) p2).bind fun r68 => fX8_total_b71 p2 (μ.1 3 (Int32.toNatClampNeg p1)) r68 μ) else none)) else none) else none) else some (r28, μ)))))))
set_option maxRecDepth 100000 in
set_option maxHeartbeats 4000000 in
theorem kX8_total (l : Launch) (ε : Ev) (p1 : Int32) (p2 : Int32) (μ : Mm) (out : (Int32 × Mm)) (hf : fX8_total p1 p2 μ = some out) : Sp l ε layM yX8_total cX8_total 8 (some .int) 3 [.ref (ea ε 0), .int p1, .int p2] (some (.int out.1)) μ out.2 := by
  refine Sp.of [(0, .ref (ea ε 0)), (1, .int p1), (2, .int p2)] rfl (by decide +kernel) (Nat.le_of_ble_eq_true rfl) ?_
  intro κ hκ C E hQ
  subst hκ
  replace C : Cf κ cX8_total 8 RX8 (some .int) 3 := C
  have b84 : ∀ (n : Nat) (v2 : Int32) (v4 : Int32) (v5 : Int64) (v7 : Int32) (μ : Mm) , fX8_total_b84 n v2 v4 v5 v7 μ = some out → G κ (Vw κ ε layM μ) 8 84 [(0, .ref (ea ε 0)), (2, .int v2), (4, .int v4), (5, .long v5), (7, .int v7)] [] := by
    intro n
    induction n with
    | zero => intro v2 v4 v5 v7 μ hf; exact none_ne hf
    | succ n ih =>
      intro v2 v4 v5 v7 μ hf
      refine g_iload (pc := 84) (i := 7) (j := 4) C dX8_total_84 rfl ?_
      refine g_aload_n (pc := 86) (i := 0) (j := 0) C dX8_total_86 rfl rfl ?_
      refine g_getr (pc := 87) (j := 5) C E fdX8_22 layM_0_5 dX8_total_87 ?_
      refine g_iload (pc := 90) (i := 4) (j := 2) C dX8_total_90 rfl ?_
      refine g_iald (pc := 92) C E layM_5 dX8_total_92 hf (fun hf => ?_)
      refine g_icmp_ge (pc := 93) (tgt := 120) C dX8_total_93 rfl hf (fun _ hf => ?_) (fun _ hf => ?_)
      · refine g_aload_n (pc := 120) (i := 0) (j := 0) C dX8_total_120 rfl rfl ?_
        refine g_iconst (pc := 121) C dX8_total_121 ci_1 ?_
        refine g_iload_n (pc := 122) (i := 2) (j := 1) C dX8_total_122 rfl rfl ?_
        refine g_iload_n (pc := 123) (i := 2) (j := 1) C dX8_total_123 rfl rfl ?_
        refine g_lload (pc := 124) (i := 5) (j := 3) C dX8_total_124 rfl ?_
        refine g_cpl (pc := 126) (st := [.int v2, .int (1 : Int32), .ref (ea ε 0)]) C lkX8_305 (As := [.int v2, .long v5]) rfl (fun out h => kX8_given (kl κ) v2 v5 out h) (by decide) rfl (Nat.le_of_ble_eq_true rfl) dX8_total_126 hf (fun r126 _ hf => ?_)
        refine g_cwv (pc := 129) (st := []) C E layM_0 lkX8_308 (As := [.int (1 : Int32), .int v2, .long r126]) rfl (fun out h => kX8_hold (kl κ) ε (1 : Int32) v2 r126 μ out h) (by decide) rfl (Nat.le_of_ble_eq_true rfl) dX8_total_129 hf (fun μ129 _ hf => ?_)
        refine g_iconst (pc := 132) C dX8_total_132 ci_0 ?_
        exact g_iretw (pc := 133) C hQ dX8_total_133 hf
      · refine g_lload (pc := 96) (i := 5) (j := 3) C dX8_total_96 rfl ?_
        refine g_aload_n (pc := 98) (i := 0) (j := 0) C dX8_total_98 rfl rfl ?_
        refine g_getr (pc := 99) (j := 8) C E fdX8_31 layM_0_8 dX8_total_99 ?_
        refine g_bipush (pc := 102) C dX8_total_102 cb_6 ?_
        refine g_iload (pc := 104) (i := 4) (j := 2) C dX8_total_104 rfl ?_
        refine g_imul (pc := 106) C dX8_total_106 ?_
        refine g_iload (pc := 107) (i := 7) (j := 4) C dX8_total_107 rfl ?_
        refine g_iadd (pc := 109) C dX8_total_109 ?_
        refine g_lald (pc := 110) C E layM_8 dX8_total_110 hf (fun hf => ?_)
        refine g_ladd (pc := 111) C dX8_total_111 ?_
        refine g_lstore (pc := 112) (i := 5) (L' := [(5, .long (v5 + (μ.2 8 (Int32.toNatClampNeg (((6 : Int32) * v4) + v7))))), (0, .ref (ea ε 0)), (2, .int v2), (4, .int v4), (7, .int v7)]) C dX8_total_112 (by decide) rfl ?_
        refine g_iinc (pc := 114) (i := 7) (j := 4) (v := (v7 + (1 : Int32))) (L' := [(7, .int (v7 + (1 : Int32))), (5, .long (v5 + (μ.2 8 (Int32.toNatClampNeg (((6 : Int32) * v4) + v7))))), (0, .ref (ea ε 0)), (2, .int v2), (4, .int v4)]) C dX8_total_114 rfl (cx_1 _) (by decide) rfl ?_
        refine g_goto (pc := 117) (tgt := 84) C dX8_total_117 rfl ?_
        exact g_at [2, 3, 4, 1, 0] rfl (ih v2 v4 (v5 + (μ.2 8 (Int32.toNatClampNeg (((6 : Int32) * v4) + v7)))) (v7 + (1 : Int32)) μ hf)
  have b71 : ∀ (v2 : Int32) (v4 : Int32) (s0 : Int32) (μ : Mm) , fX8_total_b71 v2 v4 s0 μ = some out → G κ (Vw κ ε layM μ) 8 71 [(0, .ref (ea ε 0)), (2, .int v2), (4, .int v4)] [.int s0] := by
    intro v2 v4 s0 μ hf
    refine g_istore_n (pc := 71) (i := 3) (L' := [(3, .int s0), (0, .ref (ea ε 0)), (2, .int v2), (4, .int v4)]) C dX8_total_71 rfl (by decide) rfl ?_
    refine g_iload_n (pc := 72) (i := 3) (j := 0) C dX8_total_72 rfl rfl ?_
    refine g_if_eq (pc := 73) (tgt := 78) C dX8_total_73 rfl hf (fun _ hf => ?_) (fun _ hf => ?_)
    · refine g_lconst (pc := 78) C dX8_total_78 cl_0 ?_
      refine g_lstore (pc := 79) (i := 5) (L' := [(5, .long (0 : Int64)), (3, .int s0), (0, .ref (ea ε 0)), (2, .int v2), (4, .int v4)]) C dX8_total_79 (by decide) rfl ?_
      refine g_iconst (pc := 81) C dX8_total_81 ci_0 ?_
      refine g_istore (pc := 82) (i := 7) (L' := [(7, .int (0 : Int32)), (5, .long (0 : Int64)), (3, .int s0), (0, .ref (ea ε 0)), (2, .int v2), (4, .int v4)]) C dX8_total_82 (by decide) rfl ?_
      exact g_at [3, 4, 5, 1, 0] rfl (b84 100 v2 v4 (0 : Int64) (0 : Int32) μ hf)
    · refine g_iload_n (pc := 76) (i := 3) (j := 0) C dX8_total_76 rfl rfl ?_
      exact g_iretw (pc := 77) C hQ dX8_total_77 hf
  refine g_iload_n (pc := 0) (i := 1) (j := 1) C dX8_total_0 rfl rfl ?_
  refine g_cpi (pc := 1) (st := []) C lkX8_242 (As := [.int p1]) rfl (fun out h => kX8_isSlot (kl κ) p1 out h) (by decide) rfl (Nat.le_of_ble_eq_true rfl) dX8_total_1 hf (fun r1 _ hf => ?_)
  refine g_if_ne (pc := 4) (tgt := 9) C dX8_total_4 rfl hf (fun _ hf => ?_) (fun _ hf => ?_)
  · refine g_iload_n (pc := 9) (i := 2) (j := 2) C dX8_total_9 rfl rfl ?_
    refine g_i2l (pc := 10) C dX8_total_10 ?_
    refine g_ldc2 (pc := 11) C cnX8_403 dX8_total_11 ?_
    refine g_ldc2 (pc := 14) C cnX8_405 dX8_total_14 ?_
    refine g_cpi (pc := 17) (st := []) C lkX8_98 (As := [.long (Int32.toInt64 p2), .long (4 : Int64), .long (5 : Int64)]) rfl (fun out h => kX8_in (kl κ) (Int32.toInt64 p2) (4 : Int64) (5 : Int64) out h) (by decide) rfl (Nat.le_of_ble_eq_true rfl) dX8_total_17 hf (fun r17 _ hf => ?_)
    refine g_if_ne (pc := 20) (tgt := 26) C dX8_total_20 rfl hf (fun _ hf => ?_) (fun _ hf => ?_)
    · refine g_aload_n (pc := 26) (i := 0) (j := 0) C dX8_total_26 rfl rfl ?_
      refine g_iload_n (pc := 27) (i := 1) (j := 1) C dX8_total_27 rfl rfl ?_
      refine g_cri (pc := 28) (st := []) C E layM_0 lkX8_317 (As := [.int p1]) rfl (fun out h => kX8_reasonOf (kl κ) ε p1 μ out h) (by decide) rfl (Nat.le_of_ble_eq_true rfl) dX8_total_28 hf (fun r28 _ hf => ?_)
      refine g_istore_n (pc := 31) (i := 3) (L' := [(3, .int r28), (0, .ref (ea ε 0)), (1, .int p1), (2, .int p2)]) C dX8_total_31 rfl (by decide) rfl ?_
      refine g_iload_n (pc := 32) (i := 3) (j := 0) C dX8_total_32 rfl rfl ?_
      refine g_if_eq (pc := 33) (tgt := 38) C dX8_total_33 rfl hf (fun _ hf => ?_) (fun _ hf => ?_)
      · refine g_aload_n (pc := 38) (i := 0) (j := 1) C dX8_total_38 rfl rfl ?_
        refine g_getr (pc := 39) (j := 3) C E fdX8_16 layM_0_3 dX8_total_39 ?_
        refine g_iload_n (pc := 42) (i := 1) (j := 2) C dX8_total_42 rfl rfl ?_
        refine g_iald (pc := 43) C E layM_3 dX8_total_43 hf (fun hf => ?_)
        refine g_istore (pc := 44) (i := 4) (L' := [(4, .int (μ.1 3 (Int32.toNatClampNeg p1))), (3, .int r28), (0, .ref (ea ε 0)), (1, .int p1), (2, .int p2)]) C dX8_total_44 (by decide) rfl ?_
        refine g_aload_n (pc := 46) (i := 0) (j := 2) C dX8_total_46 rfl rfl ?_
        refine g_getr (pc := 47) (j := 5) C E fdX8_22 layM_0_5 dX8_total_47 ?_
        refine g_iload (pc := 50) (i := 4) (j := 0) C dX8_total_50 rfl ?_
        refine g_iald (pc := 52) C E layM_5 dX8_total_52 hf (fun hf => ?_)
        refine g_if_ne (pc := 53) (tgt := 60) C dX8_total_53 rfl hf (fun _ hf => ?_) (fun _ hf => ?_)
        · refine g_aload_n (pc := 60) (i := 0) (j := 2) C dX8_total_60 rfl rfl ?_
          refine g_getr (pc := 61) (j := 4) C E fdX8_19 layM_0_4 dX8_total_61 ?_
          refine g_iload (pc := 64) (i := 4) (j := 0) C dX8_total_64 rfl ?_
          refine g_iald (pc := 66) C E layM_4 dX8_total_66 hf (fun hf => ?_)
          refine g_iload_n (pc := 67) (i := 2) (j := 4) C dX8_total_67 rfl rfl ?_
          refine g_cpi (pc := 68) (st := []) C lkX8_320 (As := [.int (μ.1 4 (Int32.toNatClampNeg (μ.1 3 (Int32.toNatClampNeg p1)))), .int p2]) rfl (fun out h => kX8_takeFrom (kl κ) (μ.1 4 (Int32.toNatClampNeg (μ.1 3 (Int32.toNatClampNeg p1)))) p2 out h) (by decide) rfl (Nat.le_of_ble_eq_true rfl) dX8_total_68 hf (fun r68 _ hf => ?_)
          exact g_at [2, 4, 0] rfl (b71 p2 (μ.1 3 (Int32.toNatClampNeg p1)) r68 μ hf)
        · refine g_iconst (pc := 56) C dX8_total_56 ci_0 ?_
          refine g_goto (pc := 57) (tgt := 71) C dX8_total_57 rfl ?_
          exact g_at [2, 4, 0] rfl (b71 p2 (μ.1 3 (Int32.toNatClampNeg p1)) (0 : Int32) μ hf)
      · refine g_iload_n (pc := 36) (i := 3) (j := 0) C dX8_total_36 rfl rfl ?_
        exact g_iretw (pc := 37) C hQ dX8_total_37 hf
    · refine g_bipush (pc := 23) C dX8_total_23 cb_m2 ?_
      exact g_iretw (pc := 25) C hQ dX8_total_25 hf
  · refine g_iconst (pc := 7) C dX8_total_7 ci_m1 ?_
    exact g_iretw (pc := 8) C hQ dX8_total_8 hf
theorem dX8_turn_0 : decode cX8_turn 0 = .ok (.aload_n 0, 1) := by decide +kernel
theorem dX8_turn_1 : decode cX8_turn 1 = .ok (.getfield 296, 3) := by decide +kernel
theorem dX8_turn_4 : decode cX8_turn 4 = .ok (.iconst 1, 1) := by decide +kernel
theorem dX8_turn_5 : decode cX8_turn 5 = .ok (.if_icmp .eq 14, 3) := by decide +kernel
theorem dX8_turn_8 : decode cX8_turn 8 = .ok (.aload_n 0, 1) := by decide +kernel
theorem dX8_turn_9 : decode cX8_turn 9 = .ok (.getfield 296, 3) := by decide +kernel
theorem dX8_turn_12 : decode cX8_turn 12 = .ok (.iconst 2, 1) := by decide +kernel
theorem dX8_turn_13 : decode cX8_turn 13 = .ok (.if_icmp .eq 6, 3) := by decide +kernel
theorem dX8_turn_16 : decode cX8_turn 16 = .ok (.bipush (-3), 2) := by decide +kernel
theorem dX8_turn_18 : decode cX8_turn 18 = .ok (.ireturn, 1) := by decide +kernel
theorem dX8_turn_19 : decode cX8_turn 19 = .ok (.aload_n 0, 1) := by decide +kernel
theorem dX8_turn_20 : decode cX8_turn 20 = .ok (.iconst 3, 1) := by decide +kernel
theorem dX8_turn_21 : decode cX8_turn 21 = .ok (.aload_n 0, 1) := by decide +kernel
theorem dX8_turn_22 : decode cX8_turn 22 = .ok (.getfield 296, 3) := by decide +kernel
theorem dX8_turn_25 : decode cX8_turn 25 = .ok (.isub, 1) := by decide +kernel
theorem dX8_turn_26 : decode cX8_turn 26 = .ok (.putfield 296, 3) := by decide +kernel
theorem dX8_turn_29 : decode cX8_turn 29 = .ok (.aload_n 0, 1) := by decide +kernel
theorem dX8_turn_30 : decode cX8_turn 30 = .ok (.getfield 296, 3) := by decide +kernel
theorem dX8_turn_33 : decode cX8_turn 33 = .ok (.ireturn, 1) := by decide +kernel
def fX8_turn_b19  (μ : Mm) : Option (Int32 × Mm) := some (((wI μ 0 12 ((3 : Int32) - (μ.1 0 12))).1 0 12), (wI μ 0 12 ((3 : Int32) - (μ.1 0 12))))
def fX8_turn  (μ : Mm) : Option (Int32 × Mm) := (if (μ.1 0 12) = (1 : Int32) then fX8_turn_b19 μ else (if (μ.1 0 12) = (2 : Int32) then fX8_turn_b19 μ else some ((-3 : Int32), μ)))
set_option maxRecDepth 100000 in
set_option maxHeartbeats 4000000 in
theorem kX8_turn (l : Launch) (ε : Ev)  (μ : Mm) (out : (Int32 × Mm)) (hf : fX8_turn μ = some out) : Sp l ε layM yX8_turn cX8_turn 1 (some .int) 0 [.ref (ea ε 0)] (some (.int out.1)) μ out.2 := by
  refine Sp.of [(0, .ref (ea ε 0))] rfl (by decide +kernel) (Nat.le_of_ble_eq_true rfl) ?_
  intro κ hκ C E hQ
  subst hκ
  replace C : Cf κ cX8_turn 1 RX8 (some .int) 0 := C
  have b19 : ∀ (μ : Mm) , fX8_turn_b19 μ = some out → G κ (Vw κ ε layM μ) 1 19 [(0, .ref (ea ε 0))] [] := by
    intro μ hf
    refine g_aload_n (pc := 19) (i := 0) (j := 0) C dX8_turn_19 rfl rfl ?_
    refine g_iconst (pc := 20) C dX8_turn_20 ci_3 ?_
    refine g_aload_n (pc := 21) (i := 0) (j := 0) C dX8_turn_21 rfl rfl ?_
    refine g_geti (pc := 22) C E fdX8_296 layM_0_12 dX8_turn_22 ?_
    refine g_isub (pc := 25) C dX8_turn_25 ?_
    refine g_puti (pc := 26) C E fdX8_296 layM_0_12 dX8_turn_26 ?_
    refine g_aload_n (pc := 29) (i := 0) (j := 0) C dX8_turn_29 rfl rfl ?_
    refine g_geti (pc := 30) C E fdX8_296 layM_0_12 dX8_turn_30 ?_
    exact g_iretw (pc := 33) C hQ dX8_turn_33 hf
  refine g_aload_n (pc := 0) (i := 0) (j := 0) C dX8_turn_0 rfl rfl ?_
  refine g_geti (pc := 1) C E fdX8_296 layM_0_12 dX8_turn_1 ?_
  refine g_iconst (pc := 4) C dX8_turn_4 ci_1 ?_
  refine g_icmp_eq (pc := 5) (tgt := 19) C dX8_turn_5 rfl hf (fun _ hf => ?_) (fun _ hf => ?_)
  · exact b19 μ hf
  · refine g_aload_n (pc := 8) (i := 0) (j := 0) C dX8_turn_8 rfl rfl ?_
    refine g_geti (pc := 9) C E fdX8_296 layM_0_12 dX8_turn_9 ?_
    refine g_iconst (pc := 12) C dX8_turn_12 ci_2 ?_
    refine g_icmp_eq (pc := 13) (tgt := 19) C dX8_turn_13 rfl hf (fun _ hf => ?_) (fun _ hf => ?_)
    · exact b19 μ hf
    · refine g_bipush (pc := 16) C dX8_turn_16 cb_m3 ?_
      exact g_iretw (pc := 18) C hQ dX8_turn_18 hf
theorem dX8_undo_0 : decode cX8_undo 0 = .ok (.aload_n 0, 1) := by decide +kernel
theorem dX8_undo_1 : decode cX8_undo 1 = .ok (.getfield 233, 3) := by decide +kernel
theorem dX8_undo_4 : decode cX8_undo 4 = .ok (.ifCond .ne 6, 3) := by decide +kernel
theorem dX8_undo_7 : decode cX8_undo 7 = .ok (.bipush (-3), 2) := by decide +kernel
theorem dX8_undo_9 : decode cX8_undo 9 = .ok (.ireturn, 1) := by decide +kernel
theorem dX8_undo_10 : decode cX8_undo 10 = .ok (.aload_n 0, 1) := by decide +kernel
theorem dX8_undo_11 : decode cX8_undo 11 = .ok (.dup, 1) := by decide +kernel
theorem dX8_undo_12 : decode cX8_undo 12 = .ok (.getfield 233, 3) := by decide +kernel
theorem dX8_undo_15 : decode cX8_undo 15 = .ok (.iconst 1, 1) := by decide +kernel
theorem dX8_undo_16 : decode cX8_undo 16 = .ok (.isub, 1) := by decide +kernel
theorem dX8_undo_17 : decode cX8_undo 17 = .ok (.putfield 233, 3) := by decide +kernel
theorem dX8_undo_20 : decode cX8_undo 20 = .ok (.aload_n 0, 1) := by decide +kernel
theorem dX8_undo_21 : decode cX8_undo 21 = .ok (.aload_n 0, 1) := by decide +kernel
theorem dX8_undo_22 : decode cX8_undo 22 = .ok (.getfield 227, 3) := by decide +kernel
theorem dX8_undo_25 : decode cX8_undo 25 = .ok (.bipush 14, 2) := by decide +kernel
theorem dX8_undo_27 : decode cX8_undo 27 = .ok (.iadd, 1) := by decide +kernel
theorem dX8_undo_28 : decode cX8_undo 28 = .ok (.iconst 1, 1) := by decide +kernel
theorem dX8_undo_29 : decode cX8_undo 29 = .ok (.isub, 1) := by decide +kernel
theorem dX8_undo_30 : decode cX8_undo 30 = .ok (.bipush 14, 2) := by decide +kernel
theorem dX8_undo_32 : decode cX8_undo 32 = .ok (.irem, 1) := by decide +kernel
theorem dX8_undo_33 : decode cX8_undo 33 = .ok (.putfield 227, 3) := by decide +kernel
theorem dX8_undo_36 : decode cX8_undo 36 = .ok (.iconst 0, 1) := by decide +kernel
theorem dX8_undo_37 : decode cX8_undo 37 = .ok (.istore_n 1, 1) := by decide +kernel
theorem dX8_undo_38 : decode cX8_undo 38 = .ok (.iload_n 1, 1) := by decide +kernel
theorem dX8_undo_39 : decode cX8_undo 39 = .ok (.bipush 10, 2) := by decide +kernel
theorem dX8_undo_41 : decode cX8_undo 41 = .ok (.if_icmp .ge 49, 3) := by decide +kernel
theorem dX8_undo_44 : decode cX8_undo 44 = .ok (.aload_n 0, 1) := by decide +kernel
theorem dX8_undo_45 : decode cX8_undo 45 = .ok (.getfield 13, 3) := by decide +kernel
theorem dX8_undo_48 : decode cX8_undo 48 = .ok (.iload_n 1, 1) := by decide +kernel
theorem dX8_undo_49 : decode cX8_undo 49 = .ok (.aload_n 0, 1) := by decide +kernel
theorem dX8_undo_50 : decode cX8_undo 50 = .ok (.getfield 45, 3) := by decide +kernel
theorem dX8_undo_53 : decode cX8_undo 53 = .ok (.bipush 10, 2) := by decide +kernel
theorem dX8_undo_55 : decode cX8_undo 55 = .ok (.aload_n 0, 1) := by decide +kernel
theorem dX8_undo_56 : decode cX8_undo 56 = .ok (.getfield 227, 3) := by decide +kernel
theorem dX8_undo_59 : decode cX8_undo 59 = .ok (.imul, 1) := by decide +kernel
theorem dX8_undo_60 : decode cX8_undo 60 = .ok (.iload_n 1, 1) := by decide +kernel
theorem dX8_undo_61 : decode cX8_undo 61 = .ok (.iadd, 1) := by decide +kernel
theorem dX8_undo_62 : decode cX8_undo 62 = .ok (.iaload, 1) := by decide +kernel
theorem dX8_undo_63 : decode cX8_undo 63 = .ok (.iastore, 1) := by decide +kernel
theorem dX8_undo_64 : decode cX8_undo 64 = .ok (.aload_n 0, 1) := by decide +kernel
theorem dX8_undo_65 : decode cX8_undo 65 = .ok (.getfield 16, 3) := by decide +kernel
theorem dX8_undo_68 : decode cX8_undo 68 = .ok (.iload_n 1, 1) := by decide +kernel
theorem dX8_undo_69 : decode cX8_undo 69 = .ok (.aload_n 0, 1) := by decide +kernel
theorem dX8_undo_70 : decode cX8_undo 70 = .ok (.getfield 48, 3) := by decide +kernel
theorem dX8_undo_73 : decode cX8_undo 73 = .ok (.bipush 10, 2) := by decide +kernel
theorem dX8_undo_75 : decode cX8_undo 75 = .ok (.aload_n 0, 1) := by decide +kernel
theorem dX8_undo_76 : decode cX8_undo 76 = .ok (.getfield 227, 3) := by decide +kernel
theorem dX8_undo_79 : decode cX8_undo 79 = .ok (.imul, 1) := by decide +kernel
theorem dX8_undo_80 : decode cX8_undo 80 = .ok (.iload_n 1, 1) := by decide +kernel
theorem dX8_undo_81 : decode cX8_undo 81 = .ok (.iadd, 1) := by decide +kernel
theorem dX8_undo_82 : decode cX8_undo 82 = .ok (.iaload, 1) := by decide +kernel
theorem dX8_undo_83 : decode cX8_undo 83 = .ok (.iastore, 1) := by decide +kernel
theorem dX8_undo_84 : decode cX8_undo 84 = .ok (.iinc 1 1, 3) := by decide +kernel
theorem dX8_undo_87 : decode cX8_undo 87 = .ok (.goto (-49), 3) := by decide +kernel
theorem dX8_undo_90 : decode cX8_undo 90 = .ok (.iconst 0, 1) := by decide +kernel
theorem dX8_undo_91 : decode cX8_undo 91 = .ok (.istore_n 1, 1) := by decide +kernel
theorem dX8_undo_92 : decode cX8_undo 92 = .ok (.iload_n 1, 1) := by decide +kernel
theorem dX8_undo_93 : decode cX8_undo 93 = .ok (.bipush 11, 2) := by decide +kernel
theorem dX8_undo_95 : decode cX8_undo 95 = .ok (.if_icmp .ge 49, 3) := by decide +kernel
theorem dX8_undo_98 : decode cX8_undo 98 = .ok (.aload_n 0, 1) := by decide +kernel
theorem dX8_undo_99 : decode cX8_undo 99 = .ok (.getfield 19, 3) := by decide +kernel
theorem dX8_undo_102 : decode cX8_undo 102 = .ok (.iload_n 1, 1) := by decide +kernel
theorem dX8_undo_103 : decode cX8_undo 103 = .ok (.aload_n 0, 1) := by decide +kernel
theorem dX8_undo_104 : decode cX8_undo 104 = .ok (.getfield 51, 3) := by decide +kernel
theorem dX8_undo_107 : decode cX8_undo 107 = .ok (.bipush 11, 2) := by decide +kernel
theorem dX8_undo_109 : decode cX8_undo 109 = .ok (.aload_n 0, 1) := by decide +kernel
theorem dX8_undo_110 : decode cX8_undo 110 = .ok (.getfield 227, 3) := by decide +kernel
theorem dX8_undo_113 : decode cX8_undo 113 = .ok (.imul, 1) := by decide +kernel
theorem dX8_undo_114 : decode cX8_undo 114 = .ok (.iload_n 1, 1) := by decide +kernel
theorem dX8_undo_115 : decode cX8_undo 115 = .ok (.iadd, 1) := by decide +kernel
theorem dX8_undo_116 : decode cX8_undo 116 = .ok (.iaload, 1) := by decide +kernel
theorem dX8_undo_117 : decode cX8_undo 117 = .ok (.iastore, 1) := by decide +kernel
theorem dX8_undo_118 : decode cX8_undo 118 = .ok (.aload_n 0, 1) := by decide +kernel
theorem dX8_undo_119 : decode cX8_undo 119 = .ok (.getfield 22, 3) := by decide +kernel
theorem dX8_undo_122 : decode cX8_undo 122 = .ok (.iload_n 1, 1) := by decide +kernel
theorem dX8_undo_123 : decode cX8_undo 123 = .ok (.aload_n 0, 1) := by decide +kernel
theorem dX8_undo_124 : decode cX8_undo 124 = .ok (.getfield 54, 3) := by decide +kernel
theorem dX8_undo_127 : decode cX8_undo 127 = .ok (.bipush 11, 2) := by decide +kernel
theorem dX8_undo_129 : decode cX8_undo 129 = .ok (.aload_n 0, 1) := by decide +kernel
theorem dX8_undo_130 : decode cX8_undo 130 = .ok (.getfield 227, 3) := by decide +kernel
theorem dX8_undo_133 : decode cX8_undo 133 = .ok (.imul, 1) := by decide +kernel
theorem dX8_undo_134 : decode cX8_undo 134 = .ok (.iload_n 1, 1) := by decide +kernel
theorem dX8_undo_135 : decode cX8_undo 135 = .ok (.iadd, 1) := by decide +kernel
theorem dX8_undo_136 : decode cX8_undo 136 = .ok (.iaload, 1) := by decide +kernel
theorem dX8_undo_137 : decode cX8_undo 137 = .ok (.iastore, 1) := by decide +kernel
theorem dX8_undo_138 : decode cX8_undo 138 = .ok (.iinc 1 1, 3) := by decide +kernel
theorem dX8_undo_141 : decode cX8_undo 141 = .ok (.goto (-49), 3) := by decide +kernel
theorem dX8_undo_144 : decode cX8_undo 144 = .ok (.iconst 0, 1) := by decide +kernel
theorem dX8_undo_145 : decode cX8_undo 145 = .ok (.istore_n 1, 1) := by decide +kernel
theorem dX8_undo_146 : decode cX8_undo 146 = .ok (.iload_n 1, 1) := by decide +kernel
theorem dX8_undo_147 : decode cX8_undo 147 = .ok (.bipush 66, 2) := by decide +kernel
theorem dX8_undo_149 : decode cX8_undo 149 = .ok (.if_icmp .ge 69, 3) := by decide +kernel
theorem dX8_undo_152 : decode cX8_undo 152 = .ok (.aload_n 0, 1) := by decide +kernel
theorem dX8_undo_153 : decode cX8_undo 153 = .ok (.getfield 25, 3) := by decide +kernel
theorem dX8_undo_156 : decode cX8_undo 156 = .ok (.iload_n 1, 1) := by decide +kernel
theorem dX8_undo_157 : decode cX8_undo 157 = .ok (.aload_n 0, 1) := by decide +kernel
theorem dX8_undo_158 : decode cX8_undo 158 = .ok (.getfield 57, 3) := by decide +kernel
theorem dX8_undo_161 : decode cX8_undo 161 = .ok (.bipush 66, 2) := by decide +kernel
theorem dX8_undo_163 : decode cX8_undo 163 = .ok (.aload_n 0, 1) := by decide +kernel
theorem dX8_undo_164 : decode cX8_undo 164 = .ok (.getfield 227, 3) := by decide +kernel
theorem dX8_undo_167 : decode cX8_undo 167 = .ok (.imul, 1) := by decide +kernel
theorem dX8_undo_168 : decode cX8_undo 168 = .ok (.iload_n 1, 1) := by decide +kernel
theorem dX8_undo_169 : decode cX8_undo 169 = .ok (.iadd, 1) := by decide +kernel
theorem dX8_undo_170 : decode cX8_undo 170 = .ok (.iaload, 1) := by decide +kernel
theorem dX8_undo_171 : decode cX8_undo 171 = .ok (.iastore, 1) := by decide +kernel
theorem dX8_undo_172 : decode cX8_undo 172 = .ok (.aload_n 0, 1) := by decide +kernel
theorem dX8_undo_173 : decode cX8_undo 173 = .ok (.getfield 28, 3) := by decide +kernel
theorem dX8_undo_176 : decode cX8_undo 176 = .ok (.iload_n 1, 1) := by decide +kernel
theorem dX8_undo_177 : decode cX8_undo 177 = .ok (.aload_n 0, 1) := by decide +kernel
theorem dX8_undo_178 : decode cX8_undo 178 = .ok (.getfield 60, 3) := by decide +kernel
theorem dX8_undo_181 : decode cX8_undo 181 = .ok (.bipush 66, 2) := by decide +kernel
theorem dX8_undo_183 : decode cX8_undo 183 = .ok (.aload_n 0, 1) := by decide +kernel
theorem dX8_undo_184 : decode cX8_undo 184 = .ok (.getfield 227, 3) := by decide +kernel
theorem dX8_undo_187 : decode cX8_undo 187 = .ok (.imul, 1) := by decide +kernel
theorem dX8_undo_188 : decode cX8_undo 188 = .ok (.iload_n 1, 1) := by decide +kernel
theorem dX8_undo_189 : decode cX8_undo 189 = .ok (.iadd, 1) := by decide +kernel
theorem dX8_undo_190 : decode cX8_undo 190 = .ok (.iaload, 1) := by decide +kernel
theorem dX8_undo_191 : decode cX8_undo 191 = .ok (.iastore, 1) := by decide +kernel
theorem dX8_undo_192 : decode cX8_undo 192 = .ok (.aload_n 0, 1) := by decide +kernel
theorem dX8_undo_193 : decode cX8_undo 193 = .ok (.getfield 31, 3) := by decide +kernel
theorem dX8_undo_196 : decode cX8_undo 196 = .ok (.iload_n 1, 1) := by decide +kernel
theorem dX8_undo_197 : decode cX8_undo 197 = .ok (.aload_n 0, 1) := by decide +kernel
theorem dX8_undo_198 : decode cX8_undo 198 = .ok (.getfield 63, 3) := by decide +kernel
theorem dX8_undo_201 : decode cX8_undo 201 = .ok (.bipush 66, 2) := by decide +kernel
theorem dX8_undo_203 : decode cX8_undo 203 = .ok (.aload_n 0, 1) := by decide +kernel
theorem dX8_undo_204 : decode cX8_undo 204 = .ok (.getfield 227, 3) := by decide +kernel
theorem dX8_undo_207 : decode cX8_undo 207 = .ok (.imul, 1) := by decide +kernel
theorem dX8_undo_208 : decode cX8_undo 208 = .ok (.iload_n 1, 1) := by decide +kernel
theorem dX8_undo_209 : decode cX8_undo 209 = .ok (.iadd, 1) := by decide +kernel
theorem dX8_undo_210 : decode cX8_undo 210 = .ok (.laload, 1) := by decide +kernel
theorem dX8_undo_211 : decode cX8_undo 211 = .ok (.lastore, 1) := by decide +kernel
theorem dX8_undo_212 : decode cX8_undo 212 = .ok (.iinc 1 1, 3) := by decide +kernel
theorem dX8_undo_215 : decode cX8_undo 215 = .ok (.goto (-69), 3) := by decide +kernel
theorem dX8_undo_218 : decode cX8_undo 218 = .ok (.iconst 0, 1) := by decide +kernel
theorem dX8_undo_219 : decode cX8_undo 219 = .ok (.istore_n 1, 1) := by decide +kernel
theorem dX8_undo_220 : decode cX8_undo 220 = .ok (.iload_n 1, 1) := by decide +kernel
theorem dX8_undo_221 : decode cX8_undo 221 = .ok (.aload_n 0, 1) := by decide +kernel
theorem dX8_undo_222 : decode cX8_undo 222 = .ok (.getfield 69, 3) := by decide +kernel
theorem dX8_undo_225 : decode cX8_undo 225 = .ok (.aload_n 0, 1) := by decide +kernel
theorem dX8_undo_226 : decode cX8_undo 226 = .ok (.getfield 227, 3) := by decide +kernel
theorem dX8_undo_229 : decode cX8_undo 229 = .ok (.iaload, 1) := by decide +kernel
theorem dX8_undo_230 : decode cX8_undo 230 = .ok (.if_icmp .ge 29, 3) := by decide +kernel
theorem dX8_undo_233 : decode cX8_undo 233 = .ok (.aload_n 0, 1) := by decide +kernel
theorem dX8_undo_234 : decode cX8_undo 234 = .ok (.getfield 35, 3) := by decide +kernel
theorem dX8_undo_237 : decode cX8_undo 237 = .ok (.iload_n 1, 1) := by decide +kernel
theorem dX8_undo_238 : decode cX8_undo 238 = .ok (.aload_n 0, 1) := by decide +kernel
theorem dX8_undo_239 : decode cX8_undo 239 = .ok (.getfield 66, 3) := by decide +kernel
theorem dX8_undo_242 : decode cX8_undo 242 = .ok (.bipush 20, 2) := by decide +kernel
theorem dX8_undo_244 : decode cX8_undo 244 = .ok (.aload_n 0, 1) := by decide +kernel
theorem dX8_undo_245 : decode cX8_undo 245 = .ok (.getfield 227, 3) := by decide +kernel
theorem dX8_undo_248 : decode cX8_undo 248 = .ok (.imul, 1) := by decide +kernel
theorem dX8_undo_249 : decode cX8_undo 249 = .ok (.iload_n 1, 1) := by decide +kernel
theorem dX8_undo_250 : decode cX8_undo 250 = .ok (.iadd, 1) := by decide +kernel
theorem dX8_undo_251 : decode cX8_undo 251 = .ok (.iaload, 1) := by decide +kernel
theorem dX8_undo_252 : decode cX8_undo 252 = .ok (.iastore, 1) := by decide +kernel
theorem dX8_undo_253 : decode cX8_undo 253 = .ok (.iinc 1 1, 3) := by decide +kernel
theorem dX8_undo_256 : decode cX8_undo 256 = .ok (.goto (-36), 3) := by decide +kernel
theorem dX8_undo_259 : decode cX8_undo 259 = .ok (.aload_n 0, 1) := by decide +kernel
theorem dX8_undo_260 : decode cX8_undo 260 = .ok (.getfield 233, 3) := by decide +kernel
theorem dX8_undo_263 : decode cX8_undo 263 = .ok (.ireturn, 1) := by decide +kernel
def fX8_undo_b220 : Nat → Int32 → Mm → Option (Int32 × Mm)
  | 0, _, _ => none
  | n + 1, v1, μ => (if inb (μ.1 0 27) 14 = true then (if (μ.1 20 (Int32.toNatClampNeg (μ.1 0 27))) ≤ v1 then some ((μ.1 0 26), μ) else (if inb (((20 : Int32) * (μ.1 0 27)) + v1) 280 = true then (if inb v1 20 = true then (fX8_undo_b220 n) (v1 + (1 : Int32)) (wI μ 9 (Int32.toNatClampNeg v1) (μ.1 19 (Int32.toNatClampNeg (((20 : Int32) * (μ.1 0 27)) + v1)))) else none) else none)) else none)
def fX8_undo_b146 : Nat → Int32 → Mm → Option (Int32 × Mm)
  | 0, _, _ => none
  | n + 1, v1, μ => (if (66 : Int32) ≤ v1 then fX8_undo_b220 100 (0 : Int32) μ else (if inb (((66 : Int32) * (μ.1 0 27)) + v1) 924 = true then (if inb v1 66 = true then (if inb (((66 : Int32) * ((wI μ 6 (Int32.toNatClampNeg v1) (μ.1 16 (Int32.toNatClampNeg (((66 : Int32) * (μ.1 0 27)) + v1)))).1 0 27)) + v1) 924 = true then (if inb v1 66 = true then (if inb (((66 : Int32) * ((wI (wI μ 6 (Int32.toNatClampNeg v1) (μ.1 16 (Int32.toNatClampNeg (((66 : Int32) * (μ.1 0 27)) + v1)))) 7 (Int32.toNatClampNeg v1) ((wI μ 6 (Int32.toNatClampNeg v1) (μ.1 16 (Int32.toNatClampNeg (((66 : Int32) * (μ.1 0 27)) + v1)))).1 17 (Int32.toNatClampNeg (((66 : Int32) * ((wI μ 6 (Int32.toNatClampNeg v1) (μ.1 16 (Int32.toNatClampNeg (((66 : Int32) * (μ.1 0 27)) + v1)))).1 0 27)) + v1)))).1 0 27)) + v1) 924 = true then (if inb v1 66 = true then (fX8_undo_b146 n) (v1 + (1 : Int32)) (wL (wI (wI μ 6 (Int32.toNatClampNeg v1) (μ.1 16 (Int32.toNatClampNeg (((66 : Int32) * (μ.1 0 27)) + v1)))) 7 (Int32.toNatClampNeg v1) ((wI μ 6 (Int32.toNatClampNeg v1) (μ.1 16 (Int32.toNatClampNeg (((66 : Int32) * (μ.1 0 27)) + v1)))).1 17 (Int32.toNatClampNeg (((66 : Int32) * ((wI μ 6 (Int32.toNatClampNeg v1) (μ.1 16 (Int32.toNatClampNeg (((66 : Int32) * (μ.1 0 27)) + v1)))).1 0 27)) + v1)))) 8 (Int32.toNatClampNeg v1) ((wI (wI μ 6 (Int32.toNatClampNeg v1) (μ.1 16 (Int32.toNatClampNeg (((66 : Int32) * (μ.1 0 27)) + v1)))) 7 (Int32.toNatClampNeg v1) ((wI μ 6 (Int32.toNatClampNeg v1) (μ.1 16 (Int32.toNatClampNeg (((66 : Int32) * (μ.1 0 27)) + v1)))).1 17 (Int32.toNatClampNeg (((66 : Int32) * ((wI μ 6 (Int32.toNatClampNeg v1) (μ.1 16 (Int32.toNatClampNeg (((66 : Int32) * (μ.1 0 27)) + v1)))).1 0 27)) + v1)))).2 18 (Int32.toNatClampNeg (((66 : Int32) * ((wI (wI μ 6 (Int32.toNatClampNeg v1) (μ.1 16 (Int32.toNatClampNeg (((66 : Int32) * (μ.1 0 27)) + v1)))) 7 (Int32.toNatClampNeg v1) ((wI μ 6 (Int32.toNatClampNeg v1) (μ.1 16 (Int32.toNatClampNeg (((66 : Int32) * (μ.1 0 27)) + v1)))).1 17 (Int32.toNatClampNeg (((66 : Int32) * ((wI μ 6 (Int32.toNatClampNeg v1) (μ.1 16 (Int32.toNatClampNeg (((66 : Int32) * (μ.1 0 27)) + v1)))).1 0 27)) + v1)))).1 0 27)) + v1)))) else none) else none) else none) else none) else none) else none))
def fX8_undo_b92 : Nat → Int32 → Mm → Option (Int32 × Mm)
  | 0, _, _ => none
  | n + 1, v1, μ => (if (11 : Int32) ≤ v1 then fX8_undo_b146 100 (0 : Int32) μ else (if inb (((11 : Int32) * (μ.1 0 27)) + v1) 154 = true then (if inb v1 11 = true then (if inb (((11 : Int32) * ((wI μ 4 (Int32.toNatClampNeg v1) (μ.1 14 (Int32.toNatClampNeg (((11 : Int32) * (μ.1 0 27)) + v1)))).1 0 27)) + v1) 154 = true then (if inb v1 11 = true then (fX8_undo_b92 n) (v1 + (1 : Int32)) (wI (wI μ 4 (Int32.toNatClampNeg v1) (μ.1 14 (Int32.toNatClampNeg (((11 : Int32) * (μ.1 0 27)) + v1)))) 5 (Int32.toNatClampNeg v1) ((wI μ 4 (Int32.toNatClampNeg v1) (μ.1 14 (Int32.toNatClampNeg (((11 : Int32) * (μ.1 0 27)) + v1)))).1 15 (Int32.toNatClampNeg (((11 : Int32) * ((wI μ 4 (Int32.toNatClampNeg v1) (μ.1 14 (Int32.toNatClampNeg (((11 : Int32) * (μ.1 0 27)) + v1)))).1 0 27)) + v1)))) else none) else none) else none) else none))
def fX8_undo_b38 : Nat → Int32 → Mm → Option (Int32 × Mm)
  | 0, _, _ => none
  | n + 1, v1, μ => (if (10 : Int32) ≤ v1 then fX8_undo_b92 100 (0 : Int32) μ else (if inb (((10 : Int32) * (μ.1 0 27)) + v1) 140 = true then (if inb v1 10 = true then (if inb (((10 : Int32) * ((wI μ 2 (Int32.toNatClampNeg v1) (μ.1 12 (Int32.toNatClampNeg (((10 : Int32) * (μ.1 0 27)) + v1)))).1 0 27)) + v1) 140 = true then (if inb v1 10 = true then (fX8_undo_b38 n) (v1 + (1 : Int32)) (wI (wI μ 2 (Int32.toNatClampNeg v1) (μ.1 12 (Int32.toNatClampNeg (((10 : Int32) * (μ.1 0 27)) + v1)))) 3 (Int32.toNatClampNeg v1) ((wI μ 2 (Int32.toNatClampNeg v1) (μ.1 12 (Int32.toNatClampNeg (((10 : Int32) * (μ.1 0 27)) + v1)))).1 13 (Int32.toNatClampNeg (((10 : Int32) * ((wI μ 2 (Int32.toNatClampNeg v1) (μ.1 12 (Int32.toNatClampNeg (((10 : Int32) * (μ.1 0 27)) + v1)))).1 0 27)) + v1)))) else none) else none) else none) else none))
def fX8_undo  (μ : Mm) : Option (Int32 × Mm) := (if (μ.1 0 26) = 0 then some ((-3 : Int32), μ) else fX8_undo_b38 100 (0 : Int32) (wI (wI μ 0 26 ((μ.1 0 26) - (1 : Int32))) 0 27 (jrem ((((wI μ 0 26 ((μ.1 0 26) - (1 : Int32))).1 0 27) + (14 : Int32)) - (1 : Int32)) (14 : Int32))))
set_option maxRecDepth 100000 in
set_option maxHeartbeats 4000000 in
theorem kX8_undo (l : Launch) (ε : Ev)  (μ : Mm) (out : (Int32 × Mm)) (hf : fX8_undo μ = some out) : Sp l ε layM yX8_undo cX8_undo 2 (some .int) 0 [.ref (ea ε 0)] (some (.int out.1)) μ out.2 := by
  refine Sp.of [(0, .ref (ea ε 0))] rfl (by decide +kernel) (Nat.le_of_ble_eq_true rfl) ?_
  intro κ hκ C E hQ
  subst hκ
  replace C : Cf κ cX8_undo 2 RX8 (some .int) 0 := C
  have b220 : ∀ (n : Nat) (v1 : Int32) (μ : Mm) , fX8_undo_b220 n v1 μ = some out → G κ (Vw κ ε layM μ) 2 220 [(0, .ref (ea ε 0)), (1, .int v1)] [] := by
    intro n
    induction n with
    | zero => intro v1 μ hf; exact none_ne hf
    | succ n ih =>
      intro v1 μ hf
      refine g_iload_n (pc := 220) (i := 1) (j := 1) C dX8_undo_220 rfl rfl ?_
      refine g_aload_n (pc := 221) (i := 0) (j := 0) C dX8_undo_221 rfl rfl ?_
      refine g_getr (pc := 222) (j := 20) C E fdX8_69 layM_0_25 dX8_undo_222 ?_
      refine g_aload_n (pc := 225) (i := 0) (j := 0) C dX8_undo_225 rfl rfl ?_
      refine g_geti (pc := 226) C E fdX8_227 layM_0_27 dX8_undo_226 ?_
      refine g_iald (pc := 229) C E layM_20 dX8_undo_229 hf (fun hf => ?_)
      refine g_icmp_ge (pc := 230) (tgt := 259) C dX8_undo_230 rfl hf (fun _ hf => ?_) (fun _ hf => ?_)
      · refine g_aload_n (pc := 259) (i := 0) (j := 0) C dX8_undo_259 rfl rfl ?_
        refine g_geti (pc := 260) C E fdX8_233 layM_0_26 dX8_undo_260 ?_
        exact g_iretw (pc := 263) C hQ dX8_undo_263 hf
      · refine g_aload_n (pc := 233) (i := 0) (j := 0) C dX8_undo_233 rfl rfl ?_
        refine g_getr (pc := 234) (j := 9) C E fdX8_35 layM_0_9 dX8_undo_234 ?_
        refine g_iload_n (pc := 237) (i := 1) (j := 1) C dX8_undo_237 rfl rfl ?_
        refine g_aload_n (pc := 238) (i := 0) (j := 0) C dX8_undo_238 rfl rfl ?_
        refine g_getr (pc := 239) (j := 19) C E fdX8_66 layM_0_24 dX8_undo_239 ?_
        refine g_bipush (pc := 242) C dX8_undo_242 cb_20 ?_
        refine g_aload_n (pc := 244) (i := 0) (j := 0) C dX8_undo_244 rfl rfl ?_
        refine g_geti (pc := 245) C E fdX8_227 layM_0_27 dX8_undo_245 ?_
        refine g_imul (pc := 248) C dX8_undo_248 ?_
        refine g_iload_n (pc := 249) (i := 1) (j := 1) C dX8_undo_249 rfl rfl ?_
        refine g_iadd (pc := 250) C dX8_undo_250 ?_
        refine g_iald (pc := 251) C E layM_19 dX8_undo_251 hf (fun hf => ?_)
        refine g_iast (pc := 252) C E layM_9 dX8_undo_252 hf (fun hf => ?_)
        refine g_iinc (pc := 253) (i := 1) (j := 1) (v := (v1 + (1 : Int32))) (L' := [(1, .int (v1 + (1 : Int32))), (0, .ref (ea ε 0))]) C dX8_undo_253 rfl (cx_1 _) (by decide) rfl ?_
        refine g_goto (pc := 256) (tgt := 220) C dX8_undo_256 rfl ?_
        exact g_at [1, 0] rfl (ih (v1 + (1 : Int32)) (wI μ 9 (Int32.toNatClampNeg v1) (μ.1 19 (Int32.toNatClampNeg (((20 : Int32) * (μ.1 0 27)) + v1)))) hf)
  have b146 : ∀ (n : Nat) (v1 : Int32) (μ : Mm) , fX8_undo_b146 n v1 μ = some out → G κ (Vw κ ε layM μ) 2 146 [(0, .ref (ea ε 0)), (1, .int v1)] [] := by
    intro n
    induction n with
    | zero => intro v1 μ hf; exact none_ne hf
    | succ n ih =>
      intro v1 μ hf
      refine g_iload_n (pc := 146) (i := 1) (j := 1) C dX8_undo_146 rfl rfl ?_
      refine g_bipush (pc := 147) C dX8_undo_147 cb_66 ?_
      refine g_icmp_ge (pc := 149) (tgt := 218) C dX8_undo_149 rfl hf (fun _ hf => ?_) (fun _ hf => ?_)
      · refine g_iconst (pc := 218) C dX8_undo_218 ci_0 ?_
        refine g_istore_n (pc := 219) (i := 1) (L' := [(1, .int (0 : Int32)), (0, .ref (ea ε 0))]) C dX8_undo_219 rfl (by decide) rfl ?_
        exact g_at [1, 0] rfl (b220 100 (0 : Int32) μ hf)
      · refine g_aload_n (pc := 152) (i := 0) (j := 0) C dX8_undo_152 rfl rfl ?_
        refine g_getr (pc := 153) (j := 6) C E fdX8_25 layM_0_6 dX8_undo_153 ?_
        refine g_iload_n (pc := 156) (i := 1) (j := 1) C dX8_undo_156 rfl rfl ?_
        refine g_aload_n (pc := 157) (i := 0) (j := 0) C dX8_undo_157 rfl rfl ?_
        refine g_getr (pc := 158) (j := 16) C E fdX8_57 layM_0_21 dX8_undo_158 ?_
        refine g_bipush (pc := 161) C dX8_undo_161 cb_66 ?_
        refine g_aload_n (pc := 163) (i := 0) (j := 0) C dX8_undo_163 rfl rfl ?_
        refine g_geti (pc := 164) C E fdX8_227 layM_0_27 dX8_undo_164 ?_
        refine g_imul (pc := 167) C dX8_undo_167 ?_
        refine g_iload_n (pc := 168) (i := 1) (j := 1) C dX8_undo_168 rfl rfl ?_
        refine g_iadd (pc := 169) C dX8_undo_169 ?_
        refine g_iald (pc := 170) C E layM_16 dX8_undo_170 hf (fun hf => ?_)
        refine g_iast (pc := 171) C E layM_6 dX8_undo_171 hf (fun hf => ?_)
        refine g_aload_n (pc := 172) (i := 0) (j := 0) C dX8_undo_172 rfl rfl ?_
        refine g_getr (pc := 173) (j := 7) C E fdX8_28 layM_0_7 dX8_undo_173 ?_
        refine g_iload_n (pc := 176) (i := 1) (j := 1) C dX8_undo_176 rfl rfl ?_
        refine g_aload_n (pc := 177) (i := 0) (j := 0) C dX8_undo_177 rfl rfl ?_
        refine g_getr (pc := 178) (j := 17) C E fdX8_60 layM_0_22 dX8_undo_178 ?_
        refine g_bipush (pc := 181) C dX8_undo_181 cb_66 ?_
        refine g_aload_n (pc := 183) (i := 0) (j := 0) C dX8_undo_183 rfl rfl ?_
        refine g_geti (pc := 184) C E fdX8_227 layM_0_27 dX8_undo_184 ?_
        refine g_imul (pc := 187) C dX8_undo_187 ?_
        refine g_iload_n (pc := 188) (i := 1) (j := 1) C dX8_undo_188 rfl rfl ?_
        refine g_iadd (pc := 189) C dX8_undo_189 ?_
        refine g_iald (pc := 190) C E layM_17 dX8_undo_190 hf (fun hf => ?_)
        refine g_iast (pc := 191) C E layM_7 dX8_undo_191 hf (fun hf => ?_)
        refine g_aload_n (pc := 192) (i := 0) (j := 0) C dX8_undo_192 rfl rfl ?_
        refine g_getr (pc := 193) (j := 8) C E fdX8_31 layM_0_8 dX8_undo_193 ?_
        refine g_iload_n (pc := 196) (i := 1) (j := 1) C dX8_undo_196 rfl rfl ?_
        refine g_aload_n (pc := 197) (i := 0) (j := 0) C dX8_undo_197 rfl rfl ?_
        refine g_getr (pc := 198) (j := 18) C E fdX8_63 layM_0_23 dX8_undo_198 ?_
        refine g_bipush (pc := 201) C dX8_undo_201 cb_66 ?_
        refine g_aload_n (pc := 203) (i := 0) (j := 0) C dX8_undo_203 rfl rfl ?_
        refine g_geti (pc := 204) C E fdX8_227 layM_0_27 dX8_undo_204 ?_
        refine g_imul (pc := 207) C dX8_undo_207 ?_
        refine g_iload_n (pc := 208) (i := 1) (j := 1) C dX8_undo_208 rfl rfl ?_
        refine g_iadd (pc := 209) C dX8_undo_209 ?_
        refine g_lald (pc := 210) C E layM_18 dX8_undo_210 hf (fun hf => ?_)
        refine g_last (pc := 211) C E layM_8 dX8_undo_211 hf (fun hf => ?_)
        refine g_iinc (pc := 212) (i := 1) (j := 1) (v := (v1 + (1 : Int32))) (L' := [(1, .int (v1 + (1 : Int32))), (0, .ref (ea ε 0))]) C dX8_undo_212 rfl (cx_1 _) (by decide) rfl ?_
        refine g_goto (pc := 215) (tgt := 146) C dX8_undo_215 rfl ?_
        exact g_at [1, 0] rfl (ih (v1 + (1 : Int32)) (wL (wI (wI μ 6 (Int32.toNatClampNeg v1) (μ.1 16 (Int32.toNatClampNeg (((66 : Int32) * (μ.1 0 27)) + v1)))) 7 (Int32.toNatClampNeg v1) ((wI μ 6 (Int32.toNatClampNeg v1) (μ.1 16 (Int32.toNatClampNeg (((66 : Int32) * (μ.1 0 27)) + v1)))).1 17 (Int32.toNatClampNeg (((66 : Int32) * ((wI μ 6 (Int32.toNatClampNeg v1) (μ.1 16 (Int32.toNatClampNeg (((66 : Int32) * (μ.1 0 27)) + v1)))).1 0 27)) + v1)))) 8 (Int32.toNatClampNeg v1) ((wI (wI μ 6 (Int32.toNatClampNeg v1) (μ.1 16 (Int32.toNatClampNeg (((66 : Int32) * (μ.1 0 27)) + v1)))) 7 (Int32.toNatClampNeg v1) ((wI μ 6 (Int32.toNatClampNeg v1) (μ.1 16 (Int32.toNatClampNeg (((66 : Int32) * (μ.1 0 27)) + v1)))).1 17 (Int32.toNatClampNeg (((66 : Int32) * ((wI μ 6 (Int32.toNatClampNeg v1) (μ.1 16 (Int32.toNatClampNeg (((66 : Int32) * (μ.1 0 27)) + v1)))).1 0 27)) + v1)))).2 18 (Int32.toNatClampNeg (((66 : Int32) * ((wI (wI μ 6 (Int32.toNatClampNeg v1) (μ.1 16 (Int32.toNatClampNeg (((66 : Int32) * (μ.1 0 27)) + v1)))) 7 (Int32.toNatClampNeg v1) ((wI μ 6 (Int32.toNatClampNeg v1) (μ.1 16 (Int32.toNatClampNeg (((66 : Int32) * (μ.1 0 27)) + v1)))).1 17 (Int32.toNatClampNeg (((66 : Int32) * ((wI μ 6 (Int32.toNatClampNeg v1) (μ.1 16 (Int32.toNatClampNeg (((66 : Int32) * (μ.1 0 27)) + v1)))).1 0 27)) + v1)))).1 0 27)) + v1)))) hf)
  have b92 : ∀ (n : Nat) (v1 : Int32) (μ : Mm) , fX8_undo_b92 n v1 μ = some out → G κ (Vw κ ε layM μ) 2 92 [(0, .ref (ea ε 0)), (1, .int v1)] [] := by
    intro n
    induction n with
    | zero => intro v1 μ hf; exact none_ne hf
    | succ n ih =>
      intro v1 μ hf
      refine g_iload_n (pc := 92) (i := 1) (j := 1) C dX8_undo_92 rfl rfl ?_
      refine g_bipush (pc := 93) C dX8_undo_93 cb_11 ?_
      refine g_icmp_ge (pc := 95) (tgt := 144) C dX8_undo_95 rfl hf (fun _ hf => ?_) (fun _ hf => ?_)
      · refine g_iconst (pc := 144) C dX8_undo_144 ci_0 ?_
        refine g_istore_n (pc := 145) (i := 1) (L' := [(1, .int (0 : Int32)), (0, .ref (ea ε 0))]) C dX8_undo_145 rfl (by decide) rfl ?_
        exact g_at [1, 0] rfl (b146 100 (0 : Int32) μ hf)
      · refine g_aload_n (pc := 98) (i := 0) (j := 0) C dX8_undo_98 rfl rfl ?_
        refine g_getr (pc := 99) (j := 4) C E fdX8_19 layM_0_4 dX8_undo_99 ?_
        refine g_iload_n (pc := 102) (i := 1) (j := 1) C dX8_undo_102 rfl rfl ?_
        refine g_aload_n (pc := 103) (i := 0) (j := 0) C dX8_undo_103 rfl rfl ?_
        refine g_getr (pc := 104) (j := 14) C E fdX8_51 layM_0_19 dX8_undo_104 ?_
        refine g_bipush (pc := 107) C dX8_undo_107 cb_11 ?_
        refine g_aload_n (pc := 109) (i := 0) (j := 0) C dX8_undo_109 rfl rfl ?_
        refine g_geti (pc := 110) C E fdX8_227 layM_0_27 dX8_undo_110 ?_
        refine g_imul (pc := 113) C dX8_undo_113 ?_
        refine g_iload_n (pc := 114) (i := 1) (j := 1) C dX8_undo_114 rfl rfl ?_
        refine g_iadd (pc := 115) C dX8_undo_115 ?_
        refine g_iald (pc := 116) C E layM_14 dX8_undo_116 hf (fun hf => ?_)
        refine g_iast (pc := 117) C E layM_4 dX8_undo_117 hf (fun hf => ?_)
        refine g_aload_n (pc := 118) (i := 0) (j := 0) C dX8_undo_118 rfl rfl ?_
        refine g_getr (pc := 119) (j := 5) C E fdX8_22 layM_0_5 dX8_undo_119 ?_
        refine g_iload_n (pc := 122) (i := 1) (j := 1) C dX8_undo_122 rfl rfl ?_
        refine g_aload_n (pc := 123) (i := 0) (j := 0) C dX8_undo_123 rfl rfl ?_
        refine g_getr (pc := 124) (j := 15) C E fdX8_54 layM_0_20 dX8_undo_124 ?_
        refine g_bipush (pc := 127) C dX8_undo_127 cb_11 ?_
        refine g_aload_n (pc := 129) (i := 0) (j := 0) C dX8_undo_129 rfl rfl ?_
        refine g_geti (pc := 130) C E fdX8_227 layM_0_27 dX8_undo_130 ?_
        refine g_imul (pc := 133) C dX8_undo_133 ?_
        refine g_iload_n (pc := 134) (i := 1) (j := 1) C dX8_undo_134 rfl rfl ?_
        refine g_iadd (pc := 135) C dX8_undo_135 ?_
        refine g_iald (pc := 136) C E layM_15 dX8_undo_136 hf (fun hf => ?_)
        refine g_iast (pc := 137) C E layM_5 dX8_undo_137 hf (fun hf => ?_)
        refine g_iinc (pc := 138) (i := 1) (j := 1) (v := (v1 + (1 : Int32))) (L' := [(1, .int (v1 + (1 : Int32))), (0, .ref (ea ε 0))]) C dX8_undo_138 rfl (cx_1 _) (by decide) rfl ?_
        refine g_goto (pc := 141) (tgt := 92) C dX8_undo_141 rfl ?_
        exact g_at [1, 0] rfl (ih (v1 + (1 : Int32)) (wI (wI μ 4 (Int32.toNatClampNeg v1) (μ.1 14 (Int32.toNatClampNeg (((11 : Int32) * (μ.1 0 27)) + v1)))) 5 (Int32.toNatClampNeg v1) ((wI μ 4 (Int32.toNatClampNeg v1) (μ.1 14 (Int32.toNatClampNeg (((11 : Int32) * (μ.1 0 27)) + v1)))).1 15 (Int32.toNatClampNeg (((11 : Int32) * ((wI μ 4 (Int32.toNatClampNeg v1) (μ.1 14 (Int32.toNatClampNeg (((11 : Int32) * (μ.1 0 27)) + v1)))).1 0 27)) + v1)))) hf)
  have b38 : ∀ (n : Nat) (v1 : Int32) (μ : Mm) , fX8_undo_b38 n v1 μ = some out → G κ (Vw κ ε layM μ) 2 38 [(0, .ref (ea ε 0)), (1, .int v1)] [] := by
    intro n
    induction n with
    | zero => intro v1 μ hf; exact none_ne hf
    | succ n ih =>
      intro v1 μ hf
      refine g_iload_n (pc := 38) (i := 1) (j := 1) C dX8_undo_38 rfl rfl ?_
      refine g_bipush (pc := 39) C dX8_undo_39 cb_10 ?_
      refine g_icmp_ge (pc := 41) (tgt := 90) C dX8_undo_41 rfl hf (fun _ hf => ?_) (fun _ hf => ?_)
      · refine g_iconst (pc := 90) C dX8_undo_90 ci_0 ?_
        refine g_istore_n (pc := 91) (i := 1) (L' := [(1, .int (0 : Int32)), (0, .ref (ea ε 0))]) C dX8_undo_91 rfl (by decide) rfl ?_
        exact g_at [1, 0] rfl (b92 100 (0 : Int32) μ hf)
      · refine g_aload_n (pc := 44) (i := 0) (j := 0) C dX8_undo_44 rfl rfl ?_
        refine g_getr (pc := 45) (j := 2) C E fdX8_13 layM_0_2 dX8_undo_45 ?_
        refine g_iload_n (pc := 48) (i := 1) (j := 1) C dX8_undo_48 rfl rfl ?_
        refine g_aload_n (pc := 49) (i := 0) (j := 0) C dX8_undo_49 rfl rfl ?_
        refine g_getr (pc := 50) (j := 12) C E fdX8_45 layM_0_17 dX8_undo_50 ?_
        refine g_bipush (pc := 53) C dX8_undo_53 cb_10 ?_
        refine g_aload_n (pc := 55) (i := 0) (j := 0) C dX8_undo_55 rfl rfl ?_
        refine g_geti (pc := 56) C E fdX8_227 layM_0_27 dX8_undo_56 ?_
        refine g_imul (pc := 59) C dX8_undo_59 ?_
        refine g_iload_n (pc := 60) (i := 1) (j := 1) C dX8_undo_60 rfl rfl ?_
        refine g_iadd (pc := 61) C dX8_undo_61 ?_
        refine g_iald (pc := 62) C E layM_12 dX8_undo_62 hf (fun hf => ?_)
        refine g_iast (pc := 63) C E layM_2 dX8_undo_63 hf (fun hf => ?_)
        refine g_aload_n (pc := 64) (i := 0) (j := 0) C dX8_undo_64 rfl rfl ?_
        refine g_getr (pc := 65) (j := 3) C E fdX8_16 layM_0_3 dX8_undo_65 ?_
        refine g_iload_n (pc := 68) (i := 1) (j := 1) C dX8_undo_68 rfl rfl ?_
        refine g_aload_n (pc := 69) (i := 0) (j := 0) C dX8_undo_69 rfl rfl ?_
        refine g_getr (pc := 70) (j := 13) C E fdX8_48 layM_0_18 dX8_undo_70 ?_
        refine g_bipush (pc := 73) C dX8_undo_73 cb_10 ?_
        refine g_aload_n (pc := 75) (i := 0) (j := 0) C dX8_undo_75 rfl rfl ?_
        refine g_geti (pc := 76) C E fdX8_227 layM_0_27 dX8_undo_76 ?_
        refine g_imul (pc := 79) C dX8_undo_79 ?_
        refine g_iload_n (pc := 80) (i := 1) (j := 1) C dX8_undo_80 rfl rfl ?_
        refine g_iadd (pc := 81) C dX8_undo_81 ?_
        refine g_iald (pc := 82) C E layM_13 dX8_undo_82 hf (fun hf => ?_)
        refine g_iast (pc := 83) C E layM_3 dX8_undo_83 hf (fun hf => ?_)
        refine g_iinc (pc := 84) (i := 1) (j := 1) (v := (v1 + (1 : Int32))) (L' := [(1, .int (v1 + (1 : Int32))), (0, .ref (ea ε 0))]) C dX8_undo_84 rfl (cx_1 _) (by decide) rfl ?_
        refine g_goto (pc := 87) (tgt := 38) C dX8_undo_87 rfl ?_
        exact g_at [1, 0] rfl (ih (v1 + (1 : Int32)) (wI (wI μ 2 (Int32.toNatClampNeg v1) (μ.1 12 (Int32.toNatClampNeg (((10 : Int32) * (μ.1 0 27)) + v1)))) 3 (Int32.toNatClampNeg v1) ((wI μ 2 (Int32.toNatClampNeg v1) (μ.1 12 (Int32.toNatClampNeg (((10 : Int32) * (μ.1 0 27)) + v1)))).1 13 (Int32.toNatClampNeg (((10 : Int32) * ((wI μ 2 (Int32.toNatClampNeg v1) (μ.1 12 (Int32.toNatClampNeg (((10 : Int32) * (μ.1 0 27)) + v1)))).1 0 27)) + v1)))) hf)
  refine g_aload_n (pc := 0) (i := 0) (j := 0) C dX8_undo_0 rfl rfl ?_
  refine g_geti (pc := 1) C E fdX8_233 layM_0_26 dX8_undo_1 ?_
  refine g_if_ne (pc := 4) (tgt := 10) C dX8_undo_4 rfl hf (fun _ hf => ?_) (fun _ hf => ?_)
  · refine g_aload_n (pc := 10) (i := 0) (j := 0) C dX8_undo_10 rfl rfl ?_
    refine g_dup (pc := 11) C dX8_undo_11 rfl ?_
    refine g_geti (pc := 12) C E fdX8_233 layM_0_26 dX8_undo_12 ?_
    refine g_iconst (pc := 15) C dX8_undo_15 ci_1 ?_
    refine g_isub (pc := 16) C dX8_undo_16 ?_
    refine g_puti (pc := 17) C E fdX8_233 layM_0_26 dX8_undo_17 ?_
    refine g_aload_n (pc := 20) (i := 0) (j := 0) C dX8_undo_20 rfl rfl ?_
    refine g_aload_n (pc := 21) (i := 0) (j := 0) C dX8_undo_21 rfl rfl ?_
    refine g_geti (pc := 22) C E fdX8_227 layM_0_27 dX8_undo_22 ?_
    refine g_bipush (pc := 25) C dX8_undo_25 cb_14 ?_
    refine g_iadd (pc := 27) C dX8_undo_27 ?_
    refine g_iconst (pc := 28) C dX8_undo_28 ci_1 ?_
    refine g_isub (pc := 29) C dX8_undo_29 ?_
    refine g_bipush (pc := 30) C dX8_undo_30 cb_14 ?_
    refine g_irem (pc := 32) C dX8_undo_32 (by decide) ?_
    refine g_puti (pc := 33) C E fdX8_227 layM_0_27 dX8_undo_33 ?_
    refine g_iconst (pc := 36) C dX8_undo_36 ci_0 ?_
    refine g_istore_n (pc := 37) (i := 1) (L' := [(1, .int (0 : Int32)), (0, .ref (ea ε 0))]) C dX8_undo_37 rfl (by decide) rfl ?_
    exact g_at [1, 0] rfl (b38 100 (0 : Int32) (wI (wI μ 0 26 ((μ.1 0 26) - (1 : Int32))) 0 27 (jrem ((((wI μ 0 26 ((μ.1 0 26) - (1 : Int32))).1 0 27) + (14 : Int32)) - (1 : Int32)) (14 : Int32))) hf)
  · refine g_bipush (pc := 7) C dX8_undo_7 cb_m3 ?_
    exact g_iretw (pc := 9) C hQ dX8_undo_9 hf
theorem dX8_unlike_0 : decode cX8_unlike 0 = .ok (.iload_n 1, 1) := by decide +kernel
theorem dX8_unlike_1 : decode cX8_unlike 1 = .ok (.invokestatic 242, 3) := by decide +kernel
theorem dX8_unlike_4 : decode cX8_unlike 4 = .ok (.ifCond .ne 5, 3) := by decide +kernel
theorem dX8_unlike_7 : decode cX8_unlike 7 = .ok (.iconst (-1), 1) := by decide +kernel
theorem dX8_unlike_8 : decode cX8_unlike 8 = .ok (.ireturn, 1) := by decide +kernel
theorem dX8_unlike_9 : decode cX8_unlike 9 = .ok (.aload_n 0, 1) := by decide +kernel
theorem dX8_unlike_10 : decode cX8_unlike 10 = .ok (.iload_n 1, 1) := by decide +kernel
theorem dX8_unlike_11 : decode cX8_unlike 11 = .ok (.invokevirtual 267, 3) := by decide +kernel
theorem dX8_unlike_14 : decode cX8_unlike 14 = .ok (.ifCond .ne 6, 3) := by decide +kernel
theorem dX8_unlike_17 : decode cX8_unlike 17 = .ok (.bipush (-3), 2) := by decide +kernel
theorem dX8_unlike_19 : decode cX8_unlike 19 = .ok (.ireturn, 1) := by decide +kernel
theorem dX8_unlike_20 : decode cX8_unlike 20 = .ok (.aload_n 0, 1) := by decide +kernel
theorem dX8_unlike_21 : decode cX8_unlike 21 = .ok (.getfield 16, 3) := by decide +kernel
theorem dX8_unlike_24 : decode cX8_unlike 24 = .ok (.iload_n 1, 1) := by decide +kernel
theorem dX8_unlike_25 : decode cX8_unlike 25 = .ok (.iaload, 1) := by decide +kernel
theorem dX8_unlike_26 : decode cX8_unlike 26 = .ok (.istore_n 2, 1) := by decide +kernel
theorem dX8_unlike_27 : decode cX8_unlike 27 = .ok (.iconst 0, 1) := by decide +kernel
theorem dX8_unlike_28 : decode cX8_unlike 28 = .ok (.istore_n 3, 1) := by decide +kernel
theorem dX8_unlike_29 : decode cX8_unlike 29 = .ok (.iconst 0, 1) := by decide +kernel
theorem dX8_unlike_30 : decode cX8_unlike 30 = .ok (.istore 4, 2) := by decide +kernel
theorem dX8_unlike_32 : decode cX8_unlike 32 = .ok (.iload 4, 2) := by decide +kernel
theorem dX8_unlike_34 : decode cX8_unlike 34 = .ok (.aload_n 0, 1) := by decide +kernel
theorem dX8_unlike_35 : decode cX8_unlike 35 = .ok (.getfield 22, 3) := by decide +kernel
theorem dX8_unlike_38 : decode cX8_unlike 38 = .ok (.iload_n 2, 1) := by decide +kernel
theorem dX8_unlike_39 : decode cX8_unlike 39 = .ok (.iaload, 1) := by decide +kernel
theorem dX8_unlike_40 : decode cX8_unlike 40 = .ok (.if_icmp .ge 74, 3) := by decide +kernel
theorem dX8_unlike_43 : decode cX8_unlike 43 = .ok (.iconst 0, 1) := by decide +kernel
theorem dX8_unlike_44 : decode cX8_unlike 44 = .ok (.istore 5, 2) := by decide +kernel
theorem dX8_unlike_46 : decode cX8_unlike 46 = .ok (.iconst 0, 1) := by decide +kernel
theorem dX8_unlike_47 : decode cX8_unlike 47 = .ok (.istore 6, 2) := by decide +kernel
theorem dX8_unlike_49 : decode cX8_unlike 49 = .ok (.iload 6, 2) := by decide +kernel
theorem dX8_unlike_51 : decode cX8_unlike 51 = .ok (.iload 4, 2) := by decide +kernel
theorem dX8_unlike_53 : decode cX8_unlike 53 = .ok (.if_icmp .ge 42, 3) := by decide +kernel
theorem dX8_unlike_56 : decode cX8_unlike 56 = .ok (.iload 5, 2) := by decide +kernel
theorem dX8_unlike_58 : decode cX8_unlike 58 = .ok (.ifCond .ne 24, 3) := by decide +kernel
theorem dX8_unlike_61 : decode cX8_unlike 61 = .ok (.aload_n 0, 1) := by decide +kernel
theorem dX8_unlike_62 : decode cX8_unlike 62 = .ok (.bipush 6, 2) := by decide +kernel
theorem dX8_unlike_64 : decode cX8_unlike 64 = .ok (.iload_n 2, 1) := by decide +kernel
theorem dX8_unlike_65 : decode cX8_unlike 65 = .ok (.imul, 1) := by decide +kernel
theorem dX8_unlike_66 : decode cX8_unlike 66 = .ok (.iload 6, 2) := by decide +kernel
theorem dX8_unlike_68 : decode cX8_unlike 68 = .ok (.iadd, 1) := by decide +kernel
theorem dX8_unlike_69 : decode cX8_unlike 69 = .ok (.bipush 6, 2) := by decide +kernel
theorem dX8_unlike_71 : decode cX8_unlike 71 = .ok (.iload_n 2, 1) := by decide +kernel
theorem dX8_unlike_72 : decode cX8_unlike 72 = .ok (.imul, 1) := by decide +kernel
theorem dX8_unlike_73 : decode cX8_unlike 73 = .ok (.iload 4, 2) := by decide +kernel
theorem dX8_unlike_75 : decode cX8_unlike 75 = .ok (.iadd, 1) := by decide +kernel
theorem dX8_unlike_76 : decode cX8_unlike 76 = .ok (.invokevirtual 400, 3) := by decide +kernel
theorem dX8_unlike_79 : decode cX8_unlike 79 = .ok (.ifCond .eq 7, 3) := by decide +kernel
theorem dX8_unlike_82 : decode cX8_unlike 82 = .ok (.iconst 1, 1) := by decide +kernel
theorem dX8_unlike_83 : decode cX8_unlike 83 = .ok (.goto 4, 3) := by decide +kernel
theorem dX8_unlike_86 : decode cX8_unlike 86 = .ok (.iconst 0, 1) := by decide +kernel
theorem dX8_unlike_87 : decode cX8_unlike 87 = .ok (.istore 5, 2) := by decide +kernel
theorem dX8_unlike_89 : decode cX8_unlike 89 = .ok (.iinc 6 1, 3) := by decide +kernel
theorem dX8_unlike_92 : decode cX8_unlike 92 = .ok (.goto (-43), 3) := by decide +kernel
theorem dX8_unlike_95 : decode cX8_unlike 95 = .ok (.iload_n 3, 1) := by decide +kernel
theorem dX8_unlike_96 : decode cX8_unlike 96 = .ok (.iload 5, 2) := by decide +kernel
theorem dX8_unlike_98 : decode cX8_unlike 98 = .ok (.ifCond .eq 7, 3) := by decide +kernel
theorem dX8_unlike_101 : decode cX8_unlike 101 = .ok (.iconst 0, 1) := by decide +kernel
theorem dX8_unlike_102 : decode cX8_unlike 102 = .ok (.goto 4, 3) := by decide +kernel
theorem dX8_unlike_105 : decode cX8_unlike 105 = .ok (.iconst 1, 1) := by decide +kernel
theorem dX8_unlike_106 : decode cX8_unlike 106 = .ok (.iadd, 1) := by decide +kernel
theorem dX8_unlike_107 : decode cX8_unlike 107 = .ok (.istore_n 3, 1) := by decide +kernel
theorem dX8_unlike_108 : decode cX8_unlike 108 = .ok (.iinc 4 1, 3) := by decide +kernel
theorem dX8_unlike_111 : decode cX8_unlike 111 = .ok (.goto (-79), 3) := by decide +kernel
theorem dX8_unlike_114 : decode cX8_unlike 114 = .ok (.iload_n 3, 1) := by decide +kernel
theorem dX8_unlike_115 : decode cX8_unlike 115 = .ok (.ireturn, 1) := by decide +kernel
def fX8_unlike_b106 (μ : Mm) (k32 : Int32 → Int32 → Int32 → Option Int32) (v2 : Int32) (v4 : Int32) (s0 : Int32) (s1 : Int32) : Option Int32 := k32 v2 (s1 + s0) (v4 + (1 : Int32))
def fX8_unlike_b87 (μ : Mm) (k32 : Int32 → Int32 → Int32 → Option Int32) (k49 : Int32 → Int32 → Int32 → Int32 → Int32 → Option Int32) (v2 : Int32) (v3 : Int32) (v4 : Int32) (v6 : Int32) (s0 : Int32) : Option Int32 := k49 v2 v3 v4 s0 (v6 + (1 : Int32))
def fX8_unlike_b82 (μ : Mm) (k32 : Int32 → Int32 → Int32 → Option Int32) (k49 : Int32 → Int32 → Int32 → Int32 → Int32 → Option Int32) (v2 : Int32) (v3 : Int32) (v4 : Int32) (v6 : Int32) : Option Int32 := fX8_unlike_b87 μ k32 k49 v2 v3 v4 v6 (1 : Int32)
def fX8_unlike_b49 (μ : Mm) (k32 : Int32 → Int32 → Int32 → Option Int32) : Nat → Int32 → Int32 → Int32 → Int32 → Int32 → Option Int32
  | 0, _, _, _, _, _ => none
  | n + 1, v2, v3, v4, v5, v6 => (if v4 ≤ v6 then (if v5 = 0 then fX8_unlike_b106 μ k32 v2 v4 (1 : Int32) v3 else fX8_unlike_b106 μ k32 v2 v4 (0 : Int32) v3) else (if v5 = 0 then ((fX8_areSame (((6 : Int32) * v2) + v6) (((6 : Int32) * v2) + v4) μ).bind fun r76 => (if r76 = 0 then fX8_unlike_b87 μ k32 (fX8_unlike_b49 μ k32 n) v2 v3 v4 v6 (0 : Int32) else fX8_unlike_b82 μ k32 (fX8_unlike_b49 μ k32 n) v2 v3 v4 v6)) else fX8_unlike_b82 μ k32 (fX8_unlike_b49 μ k32 n) v2 v3 v4 v6))
def fX8_unlike_b32 (μ : Mm) : Nat → Int32 → Int32 → Int32 → Option Int32
  | 0, _, _, _ => none
  | n + 1, v2, v3, v4 => (if inb v2 11 = true then (if (μ.1 5 (Int32.toNatClampNeg v2)) ≤ v4 then some v3 else fX8_unlike_b49 μ (fX8_unlike_b32 μ n) 100 v2 v3 v4 (0 : Int32) (0 : Int32)) else none)
def fX8_unlike (p1 : Int32) (μ : Mm) : Option Int32 := ((fX8_isSlot p1).bind fun r1 => (if r1 = 0 then some (-1 : Int32) else ((fX8_holdsRow p1 μ).bind fun r11 => (if r11 = 0 then some (-3 : Int32) else (if inb p1 10 = true then fX8_unlike_b32 μ 100 (μ.1 3 (Int32.toNatClampNeg p1)) (0 : Int32) (0 : Int32) else none)))))
set_option maxRecDepth 100000 in
set_option maxHeartbeats 4000000 in
theorem kX8_unlike (l : Launch) (ε : Ev) (p1 : Int32) (μ : Mm) (out : Int32) (hf : fX8_unlike p1 μ = some out) : Sp l ε layM yX8_unlike cX8_unlike 7 (some .int) 2 [.ref (ea ε 0), .int p1] (some (.int out)) μ μ := by
  refine Sp.of [(0, .ref (ea ε 0)), (1, .int p1)] rfl (by decide +kernel) (Nat.le_of_ble_eq_true rfl) ?_
  intro κ hκ C E hQ
  subst hκ
  replace C : Cf κ cX8_unlike 7 RX8 (some .int) 2 := C
  have b106 : ∀ (k32 : Int32 → Int32 → Int32 → Option Int32) (hk32 : ∀ (v2 : Int32) (v3 : Int32) (v4 : Int32) , k32 v2 v3 v4 = some out → G κ (Vw κ ε layM μ) 7 32 [(0, .ref (ea ε 0)), (2, .int v2), (3, .int v3), (4, .int v4)] []) (v2 : Int32) (v4 : Int32) (s0 : Int32) (s1 : Int32) , fX8_unlike_b106 μ k32 v2 v4 s0 s1 = some out → G κ (Vw κ ε layM μ) 7 106 [(0, .ref (ea ε 0)), (2, .int v2), (4, .int v4)] [.int s0, .int s1] := by
    intro k32 hk32 v2 v4 s0 s1 hf
    refine g_iadd (pc := 106) C dX8_unlike_106 ?_
    refine g_istore_n (pc := 107) (i := 3) (L' := [(3, .int (s1 + s0)), (0, .ref (ea ε 0)), (2, .int v2), (4, .int v4)]) C dX8_unlike_107 rfl (by decide) rfl ?_
    refine g_iinc (pc := 108) (i := 4) (j := 3) (v := (v4 + (1 : Int32))) (L' := [(4, .int (v4 + (1 : Int32))), (3, .int (s1 + s0)), (0, .ref (ea ε 0)), (2, .int v2)]) C dX8_unlike_108 rfl (cx_1 _) (by decide) rfl ?_
    refine g_goto (pc := 111) (tgt := 32) C dX8_unlike_111 rfl ?_
    exact g_at [2, 3, 1, 0] rfl (hk32 v2 (s1 + s0) (v4 + (1 : Int32)) hf)
  have b87 : ∀ (k32 : Int32 → Int32 → Int32 → Option Int32) (hk32 : ∀ (v2 : Int32) (v3 : Int32) (v4 : Int32) , k32 v2 v3 v4 = some out → G κ (Vw κ ε layM μ) 7 32 [(0, .ref (ea ε 0)), (2, .int v2), (3, .int v3), (4, .int v4)] []) (k49 : Int32 → Int32 → Int32 → Int32 → Int32 → Option Int32) (hk49 : ∀ (v2 : Int32) (v3 : Int32) (v4 : Int32) (v5 : Int32) (v6 : Int32) , k49 v2 v3 v4 v5 v6 = some out → G κ (Vw κ ε layM μ) 7 49 [(0, .ref (ea ε 0)), (2, .int v2), (3, .int v3), (4, .int v4), (5, .int v5), (6, .int v6)] []) (v2 : Int32) (v3 : Int32) (v4 : Int32) (v6 : Int32) (s0 : Int32) , fX8_unlike_b87 μ k32 k49 v2 v3 v4 v6 s0 = some out → G κ (Vw κ ε layM μ) 7 87 [(0, .ref (ea ε 0)), (2, .int v2), (3, .int v3), (4, .int v4), (6, .int v6)] [.int s0] := by
    intro k32 hk32 k49 hk49 v2 v3 v4 v6 s0 hf
    refine g_istore (pc := 87) (i := 5) (L' := [(5, .int s0), (0, .ref (ea ε 0)), (2, .int v2), (3, .int v3), (4, .int v4), (6, .int v6)]) C dX8_unlike_87 (by decide) rfl ?_
    refine g_iinc (pc := 89) (i := 6) (j := 5) (v := (v6 + (1 : Int32))) (L' := [(6, .int (v6 + (1 : Int32))), (5, .int s0), (0, .ref (ea ε 0)), (2, .int v2), (3, .int v3), (4, .int v4)]) C dX8_unlike_89 rfl (cx_1 _) (by decide) rfl ?_
    refine g_goto (pc := 92) (tgt := 49) C dX8_unlike_92 rfl ?_
    exact g_at [2, 3, 4, 5, 1, 0] rfl (hk49 v2 v3 v4 s0 (v6 + (1 : Int32)) hf)
  have b82 : ∀ (k32 : Int32 → Int32 → Int32 → Option Int32) (hk32 : ∀ (v2 : Int32) (v3 : Int32) (v4 : Int32) , k32 v2 v3 v4 = some out → G κ (Vw κ ε layM μ) 7 32 [(0, .ref (ea ε 0)), (2, .int v2), (3, .int v3), (4, .int v4)] []) (k49 : Int32 → Int32 → Int32 → Int32 → Int32 → Option Int32) (hk49 : ∀ (v2 : Int32) (v3 : Int32) (v4 : Int32) (v5 : Int32) (v6 : Int32) , k49 v2 v3 v4 v5 v6 = some out → G κ (Vw κ ε layM μ) 7 49 [(0, .ref (ea ε 0)), (2, .int v2), (3, .int v3), (4, .int v4), (5, .int v5), (6, .int v6)] []) (v2 : Int32) (v3 : Int32) (v4 : Int32) (v6 : Int32) , fX8_unlike_b82 μ k32 k49 v2 v3 v4 v6 = some out → G κ (Vw κ ε layM μ) 7 82 [(0, .ref (ea ε 0)), (2, .int v2), (3, .int v3), (4, .int v4), (6, .int v6)] [] := by
    intro k32 hk32 k49 hk49 v2 v3 v4 v6 hf
    refine g_iconst (pc := 82) C dX8_unlike_82 ci_1 ?_
    refine g_goto (pc := 83) (tgt := 87) C dX8_unlike_83 rfl ?_
    exact b87 k32 hk32 k49 hk49 v2 v3 v4 v6 (1 : Int32) hf
  have b49 : ∀ (k32 : Int32 → Int32 → Int32 → Option Int32) (hk32 : ∀ (v2 : Int32) (v3 : Int32) (v4 : Int32) , k32 v2 v3 v4 = some out → G κ (Vw κ ε layM μ) 7 32 [(0, .ref (ea ε 0)), (2, .int v2), (3, .int v3), (4, .int v4)] []) (n : Nat) (v2 : Int32) (v3 : Int32) (v4 : Int32) (v5 : Int32) (v6 : Int32) , fX8_unlike_b49 μ k32 n v2 v3 v4 v5 v6 = some out → G κ (Vw κ ε layM μ) 7 49 [(0, .ref (ea ε 0)), (2, .int v2), (3, .int v3), (4, .int v4), (5, .int v5), (6, .int v6)] [] := by
    intro k32 hk32 n
    induction n with
    | zero => intro v2 v3 v4 v5 v6 hf; exact none_ne hf
    | succ n ih =>
      intro v2 v3 v4 v5 v6 hf
      refine g_iload (pc := 49) (i := 6) (j := 5) C dX8_unlike_49 rfl ?_
      refine g_iload (pc := 51) (i := 4) (j := 3) C dX8_unlike_51 rfl ?_
      refine g_icmp_ge (pc := 53) (tgt := 95) C dX8_unlike_53 rfl hf (fun _ hf => ?_) (fun _ hf => ?_)
      · refine g_iload_n (pc := 95) (i := 3) (j := 2) C dX8_unlike_95 rfl rfl ?_
        refine g_iload (pc := 96) (i := 5) (j := 4) C dX8_unlike_96 rfl ?_
        refine g_if_eq (pc := 98) (tgt := 105) C dX8_unlike_98 rfl hf (fun _ hf => ?_) (fun _ hf => ?_)
        · refine g_iconst (pc := 105) C dX8_unlike_105 ci_1 ?_
          exact g_at [0, 1, 3] rfl (b106 k32 hk32 v2 v4 (1 : Int32) v3 hf)
        · refine g_iconst (pc := 101) C dX8_unlike_101 ci_0 ?_
          refine g_goto (pc := 102) (tgt := 106) C dX8_unlike_102 rfl ?_
          exact g_at [0, 1, 3] rfl (b106 k32 hk32 v2 v4 (0 : Int32) v3 hf)
      · refine g_iload (pc := 56) (i := 5) (j := 4) C dX8_unlike_56 rfl ?_
        refine g_if_ne (pc := 58) (tgt := 82) C dX8_unlike_58 rfl hf (fun _ hf => ?_) (fun _ hf => ?_)
        · exact g_at [0, 1, 2, 3, 5] rfl (b82 k32 hk32 (fX8_unlike_b49 μ k32 n) ih v2 v3 v4 v6 hf)
        · refine g_aload_n (pc := 61) (i := 0) (j := 0) C dX8_unlike_61 rfl rfl ?_
          refine g_bipush (pc := 62) C dX8_unlike_62 cb_6 ?_
          refine g_iload_n (pc := 64) (i := 2) (j := 1) C dX8_unlike_64 rfl rfl ?_
          refine g_imul (pc := 65) C dX8_unlike_65 ?_
          refine g_iload (pc := 66) (i := 6) (j := 5) C dX8_unlike_66 rfl ?_
          refine g_iadd (pc := 68) C dX8_unlike_68 ?_
          refine g_bipush (pc := 69) C dX8_unlike_69 cb_6 ?_
          refine g_iload_n (pc := 71) (i := 2) (j := 1) C dX8_unlike_71 rfl rfl ?_
          refine g_imul (pc := 72) C dX8_unlike_72 ?_
          refine g_iload (pc := 73) (i := 4) (j := 3) C dX8_unlike_73 rfl ?_
          refine g_iadd (pc := 75) C dX8_unlike_75 ?_
          refine g_cri (pc := 76) (st := []) C E layM_0 lkX8_400 (As := [.int (((6 : Int32) * v2) + v6), .int (((6 : Int32) * v2) + v4)]) rfl (fun out h => kX8_areSame (kl κ) ε (((6 : Int32) * v2) + v6) (((6 : Int32) * v2) + v4) μ out h) (by decide) rfl (Nat.le_of_ble_eq_true rfl) dX8_unlike_76 hf (fun r76 _ hf => ?_)
          refine g_if_eq (pc := 79) (tgt := 86) C dX8_unlike_79 rfl hf (fun _ hf => ?_) (fun _ hf => ?_)
          · refine g_iconst (pc := 86) C dX8_unlike_86 ci_0 ?_
            exact g_at [0, 1, 2, 3, 5] rfl (b87 k32 hk32 (fX8_unlike_b49 μ k32 n) ih v2 v3 v4 v6 (0 : Int32) hf)
          · exact g_at [0, 1, 2, 3, 5] rfl (b82 k32 hk32 (fX8_unlike_b49 μ k32 n) ih v2 v3 v4 v6 hf)
  have b32 : ∀ (n : Nat) (v2 : Int32) (v3 : Int32) (v4 : Int32) , fX8_unlike_b32 μ n v2 v3 v4 = some out → G κ (Vw κ ε layM μ) 7 32 [(0, .ref (ea ε 0)), (2, .int v2), (3, .int v3), (4, .int v4)] [] := by
    intro n
    induction n with
    | zero => intro v2 v3 v4 hf; exact none_ne hf
    | succ n ih =>
      intro v2 v3 v4 hf
      refine g_iload (pc := 32) (i := 4) (j := 3) C dX8_unlike_32 rfl ?_
      refine g_aload_n (pc := 34) (i := 0) (j := 0) C dX8_unlike_34 rfl rfl ?_
      refine g_getr (pc := 35) (j := 5) C E fdX8_22 layM_0_5 dX8_unlike_35 ?_
      refine g_iload_n (pc := 38) (i := 2) (j := 1) C dX8_unlike_38 rfl rfl ?_
      refine g_iald (pc := 39) C E layM_5 dX8_unlike_39 hf (fun hf => ?_)
      refine g_icmp_ge (pc := 40) (tgt := 114) C dX8_unlike_40 rfl hf (fun _ hf => ?_) (fun _ hf => ?_)
      · refine g_iload_n (pc := 114) (i := 3) (j := 2) C dX8_unlike_114 rfl rfl ?_
        exact g_iretr (pc := 115) C hQ dX8_unlike_115 hf
      · refine g_iconst (pc := 43) C dX8_unlike_43 ci_0 ?_
        refine g_istore (pc := 44) (i := 5) (L' := [(5, .int (0 : Int32)), (0, .ref (ea ε 0)), (2, .int v2), (3, .int v3), (4, .int v4)]) C dX8_unlike_44 (by decide) rfl ?_
        refine g_iconst (pc := 46) C dX8_unlike_46 ci_0 ?_
        refine g_istore (pc := 47) (i := 6) (L' := [(6, .int (0 : Int32)), (5, .int (0 : Int32)), (0, .ref (ea ε 0)), (2, .int v2), (3, .int v3), (4, .int v4)]) C dX8_unlike_47 (by decide) rfl ?_
        exact g_at [2, 3, 4, 5, 1, 0] rfl (b49 (fX8_unlike_b32 μ n) ih 100 v2 v3 v4 (0 : Int32) (0 : Int32) hf)
  refine g_iload_n (pc := 0) (i := 1) (j := 1) C dX8_unlike_0 rfl rfl ?_
  refine g_cpi (pc := 1) (st := []) C lkX8_242 (As := [.int p1]) rfl (fun out h => kX8_isSlot (kl κ) p1 out h) (by decide) rfl (Nat.le_of_ble_eq_true rfl) dX8_unlike_1 hf (fun r1 _ hf => ?_)
  refine g_if_ne (pc := 4) (tgt := 9) C dX8_unlike_4 rfl hf (fun _ hf => ?_) (fun _ hf => ?_)
  · refine g_aload_n (pc := 9) (i := 0) (j := 0) C dX8_unlike_9 rfl rfl ?_
    refine g_iload_n (pc := 10) (i := 1) (j := 1) C dX8_unlike_10 rfl rfl ?_
    refine g_cri (pc := 11) (st := []) C E layM_0 lkX8_267 (As := [.int p1]) rfl (fun out h => kX8_holdsRow (kl κ) ε p1 μ out h) (by decide) rfl (Nat.le_of_ble_eq_true rfl) dX8_unlike_11 hf (fun r11 _ hf => ?_)
    refine g_if_ne (pc := 14) (tgt := 20) C dX8_unlike_14 rfl hf (fun _ hf => ?_) (fun _ hf => ?_)
    · refine g_aload_n (pc := 20) (i := 0) (j := 0) C dX8_unlike_20 rfl rfl ?_
      refine g_getr (pc := 21) (j := 3) C E fdX8_16 layM_0_3 dX8_unlike_21 ?_
      refine g_iload_n (pc := 24) (i := 1) (j := 1) C dX8_unlike_24 rfl rfl ?_
      refine g_iald (pc := 25) C E layM_3 dX8_unlike_25 hf (fun hf => ?_)
      refine g_istore_n (pc := 26) (i := 2) (L' := [(2, .int (μ.1 3 (Int32.toNatClampNeg p1))), (0, .ref (ea ε 0)), (1, .int p1)]) C dX8_unlike_26 rfl (by decide) rfl ?_
      refine g_iconst (pc := 27) C dX8_unlike_27 ci_0 ?_
      refine g_istore_n (pc := 28) (i := 3) (L' := [(3, .int (0 : Int32)), (2, .int (μ.1 3 (Int32.toNatClampNeg p1))), (0, .ref (ea ε 0)), (1, .int p1)]) C dX8_unlike_28 rfl (by decide) rfl ?_
      refine g_iconst (pc := 29) C dX8_unlike_29 ci_0 ?_
      refine g_istore (pc := 30) (i := 4) (L' := [(4, .int (0 : Int32)), (3, .int (0 : Int32)), (2, .int (μ.1 3 (Int32.toNatClampNeg p1))), (0, .ref (ea ε 0)), (1, .int p1)]) C dX8_unlike_30 (by decide) rfl ?_
      exact g_at [3, 2, 1, 0] rfl (b32 100 (μ.1 3 (Int32.toNatClampNeg p1)) (0 : Int32) (0 : Int32) hf)
    · refine g_bipush (pc := 17) C dX8_unlike_17 cb_m3 ?_
      exact g_iretr (pc := 19) C hQ dX8_unlike_19 hf
  · refine g_iconst (pc := 7) C dX8_unlike_7 ci_m1 ?_
    exact g_iretr (pc := 8) C hQ dX8_unlike_8 hf
theorem dX8_unsee_0 : decode cX8_unsee 0 = .ok (.aload_n 0, 1) := by decide +kernel
theorem dX8_unsee_1 : decode cX8_unsee 1 = .ok (.getfield 251, 3) := by decide +kernel
theorem dX8_unsee_4 : decode cX8_unsee 4 = .ok (.istore_n 1, 1) := by decide +kernel
theorem dX8_unsee_5 : decode cX8_unsee 5 = .ok (.aload_n 0, 1) := by decide +kernel
theorem dX8_unsee_6 : decode cX8_unsee 6 = .ok (.iconst 0, 1) := by decide +kernel
theorem dX8_unsee_7 : decode cX8_unsee 7 = .ok (.putfield 251, 3) := by decide +kernel
theorem dX8_unsee_10 : decode cX8_unsee 10 = .ok (.iload_n 1, 1) := by decide +kernel
theorem dX8_unsee_11 : decode cX8_unsee 11 = .ok (.ireturn, 1) := by decide +kernel
def fX8_unsee  (μ : Mm) : Option (Int32 × Mm) := some ((μ.1 0 31), (wI μ 0 31 (0 : Int32)))
set_option maxRecDepth 100000 in
set_option maxHeartbeats 4000000 in
theorem kX8_unsee (l : Launch) (ε : Ev)  (μ : Mm) (out : (Int32 × Mm)) (hf : fX8_unsee μ = some out) : Sp l ε layM yX8_unsee cX8_unsee 2 (some .int) 0 [.ref (ea ε 0)] (some (.int out.1)) μ out.2 := by
  refine Sp.of [(0, .ref (ea ε 0))] rfl (by decide +kernel) (Nat.le_of_ble_eq_true rfl) ?_
  intro κ hκ C E hQ
  subst hκ
  replace C : Cf κ cX8_unsee 2 RX8 (some .int) 0 := C
  refine g_aload_n (pc := 0) (i := 0) (j := 0) C dX8_unsee_0 rfl rfl ?_
  refine g_geti (pc := 1) C E fdX8_251 layM_0_31 dX8_unsee_1 ?_
  refine g_istore_n (pc := 4) (i := 1) (L' := [(1, .int (μ.1 0 31)), (0, .ref (ea ε 0))]) C dX8_unsee_4 rfl (by decide) rfl ?_
  refine g_aload_n (pc := 5) (i := 0) (j := 1) C dX8_unsee_5 rfl rfl ?_
  refine g_iconst (pc := 6) C dX8_unsee_6 ci_0 ?_
  refine g_puti (pc := 7) C E fdX8_251 layM_0_31 dX8_unsee_7 ?_
  refine g_iload_n (pc := 10) (i := 1) (j := 0) C dX8_unsee_10 rfl rfl ?_
  exact g_iretw (pc := 11) C hQ dX8_unsee_11 hf
theorem dX8_which_0 : decode cX8_which 0 = .ok (.iconst 0, 1) := by decide +kernel
theorem dX8_which_1 : decode cX8_which 1 = .ok (.istore_n 1, 1) := by decide +kernel
theorem dX8_which_2 : decode cX8_which 2 = .ok (.iconst 0, 1) := by decide +kernel
theorem dX8_which_3 : decode cX8_which 3 = .ok (.istore_n 2, 1) := by decide +kernel
theorem dX8_which_4 : decode cX8_which 4 = .ok (.iload_n 2, 1) := by decide +kernel
theorem dX8_which_5 : decode cX8_which 5 = .ok (.bipush 15, 2) := by decide +kernel
theorem dX8_which_7 : decode cX8_which 7 = .ok (.if_icmp .gt 82, 3) := by decide +kernel
theorem dX8_which_10 : decode cX8_which 10 = .ok (.iconst 1, 1) := by decide +kernel
theorem dX8_which_11 : decode cX8_which 11 = .ok (.istore_n 3, 1) := by decide +kernel
theorem dX8_which_12 : decode cX8_which 12 = .ok (.iconst 0, 1) := by decide +kernel
theorem dX8_which_13 : decode cX8_which 13 = .ok (.istore 4, 2) := by decide +kernel
theorem dX8_which_15 : decode cX8_which 15 = .ok (.iload 4, 2) := by decide +kernel
theorem dX8_which_17 : decode cX8_which 17 = .ok (.aload_n 0, 1) := by decide +kernel
theorem dX8_which_18 : decode cX8_which 18 = .ok (.getfield 251, 3) := by decide +kernel
theorem dX8_which_21 : decode cX8_which 21 = .ok (.if_icmp .ge 48, 3) := by decide +kernel
theorem dX8_which_24 : decode cX8_which 24 = .ok (.iload_n 3, 1) := by decide +kernel
theorem dX8_which_25 : decode cX8_which 25 = .ok (.ifCond .eq 36, 3) := by decide +kernel
theorem dX8_which_28 : decode cX8_which 28 = .ok (.aload_n 0, 1) := by decide +kernel
theorem dX8_which_29 : decode cX8_which 29 = .ok (.iload_n 2, 1) := by decide +kernel
theorem dX8_which_30 : decode cX8_which 30 = .ok (.aload_n 0, 1) := by decide +kernel
theorem dX8_which_31 : decode cX8_which 31 = .ok (.getfield 72, 3) := by decide +kernel
theorem dX8_which_34 : decode cX8_which 34 = .ok (.iload 4, 2) := by decide +kernel
theorem dX8_which_36 : decode cX8_which 36 = .ok (.iaload, 1) := by decide +kernel
theorem dX8_which_37 : decode cX8_which 37 = .ok (.aload_n 0, 1) := by decide +kernel
theorem dX8_which_38 : decode cX8_which 38 = .ok (.getfield 75, 3) := by decide +kernel
theorem dX8_which_41 : decode cX8_which 41 = .ok (.iload 4, 2) := by decide +kernel
theorem dX8_which_43 : decode cX8_which 43 = .ok (.iaload, 1) := by decide +kernel
theorem dX8_which_44 : decode cX8_which 44 = .ok (.invokevirtual 407, 3) := by decide +kernel
theorem dX8_which_47 : decode cX8_which 47 = .ok (.aload_n 0, 1) := by decide +kernel
theorem dX8_which_48 : decode cX8_which 48 = .ok (.getfield 78, 3) := by decide +kernel
theorem dX8_which_51 : decode cX8_which 51 = .ok (.iload 4, 2) := by decide +kernel
theorem dX8_which_53 : decode cX8_which 53 = .ok (.iaload, 1) := by decide +kernel
theorem dX8_which_54 : decode cX8_which 54 = .ok (.if_icmp .ne 7, 3) := by decide +kernel
theorem dX8_which_57 : decode cX8_which 57 = .ok (.iconst 1, 1) := by decide +kernel
theorem dX8_which_58 : decode cX8_which 58 = .ok (.goto 4, 3) := by decide +kernel
theorem dX8_which_61 : decode cX8_which 61 = .ok (.iconst 0, 1) := by decide +kernel
theorem dX8_which_62 : decode cX8_which 62 = .ok (.istore_n 3, 1) := by decide +kernel
theorem dX8_which_63 : decode cX8_which 63 = .ok (.iinc 4 1, 3) := by decide +kernel
theorem dX8_which_66 : decode cX8_which 66 = .ok (.goto (-51), 3) := by decide +kernel
theorem dX8_which_69 : decode cX8_which 69 = .ok (.iload_n 1, 1) := by decide +kernel
theorem dX8_which_70 : decode cX8_which 70 = .ok (.iload_n 3, 1) := by decide +kernel
theorem dX8_which_71 : decode cX8_which 71 = .ok (.ifCond .eq 9, 3) := by decide +kernel
theorem dX8_which_74 : decode cX8_which 74 = .ok (.iconst 1, 1) := by decide +kernel
theorem dX8_which_75 : decode cX8_which 75 = .ok (.iload_n 2, 1) := by decide +kernel
theorem dX8_which_76 : decode cX8_which 76 = .ok (.ishl, 1) := by decide +kernel
theorem dX8_which_77 : decode cX8_which 77 = .ok (.goto 4, 3) := by decide +kernel
theorem dX8_which_80 : decode cX8_which 80 = .ok (.iconst 0, 1) := by decide +kernel
theorem dX8_which_81 : decode cX8_which 81 = .ok (.ior, 1) := by decide +kernel
theorem dX8_which_82 : decode cX8_which 82 = .ok (.istore_n 1, 1) := by decide +kernel
theorem dX8_which_83 : decode cX8_which 83 = .ok (.iinc 2 1, 3) := by decide +kernel
theorem dX8_which_86 : decode cX8_which 86 = .ok (.goto (-82), 3) := by decide +kernel
theorem dX8_which_89 : decode cX8_which 89 = .ok (.iload_n 1, 1) := by decide +kernel
theorem dX8_which_90 : decode cX8_which 90 = .ok (.ireturn, 1) := by decide +kernel
def fX8_which_b81 (μ : Mm) (k4 : Int32 → Int32 → Option Int32) (v2 : Int32) (s0 : Int32) (s1 : Int32) : Option Int32 := k4 (s1 ||| s0) (v2 + (1 : Int32))
def fX8_which_b62 (μ : Mm) (k4 : Int32 → Int32 → Option Int32) (k15 : Int32 → Int32 → Int32 → Int32 → Option Int32) (v1 : Int32) (v2 : Int32) (v4 : Int32) (s0 : Int32) : Option Int32 := k15 v1 v2 s0 (v4 + (1 : Int32))
def fX8_which_b61 (μ : Mm) (k4 : Int32 → Int32 → Option Int32) (k15 : Int32 → Int32 → Int32 → Int32 → Option Int32) (v1 : Int32) (v2 : Int32) (v4 : Int32) : Option Int32 := fX8_which_b62 μ k4 k15 v1 v2 v4 (0 : Int32)
def fX8_which_b15 (μ : Mm) (k4 : Int32 → Int32 → Option Int32) : Nat → Int32 → Int32 → Int32 → Int32 → Option Int32
  | 0, _, _, _, _ => none
  | n + 1, v1, v2, v3, v4 => (if (μ.1 0 31) ≤ v4 then (if v3 = 0 then fX8_which_b81 μ k4 v2 (0 : Int32) v1 else fX8_which_b81 μ k4 v2 (jshl (1 : Int32) v2) v1) else (if v3 = 0 then fX8_which_b61 μ k4 (fX8_which_b15 μ k4 n) v1 v2 v4 else (if inb v4 6 = true then (if inb v4 6 = true then ((fX8_reasonBy v2 (μ.1 21 (Int32.toNatClampNeg v4)) (μ.1 22 (Int32.toNatClampNeg v4)) μ).bind fun r44 => (if inb v4 6 = true then (if r44 = (μ.1 23 (Int32.toNatClampNeg v4)) then fX8_which_b62 μ k4 (fX8_which_b15 μ k4 n) v1 v2 v4 (1 : Int32) else fX8_which_b61 μ k4 (fX8_which_b15 μ k4 n) v1 v2 v4) else none)) else none) else none)))
def fX8_which_b4 (μ : Mm) : Nat → Int32 → Int32 → Option Int32
  | 0, _, _ => none
  | n + 1, v1, v2 => (if (15 : Int32) < v2 then some v1 else fX8_which_b15 μ (fX8_which_b4 μ n) 100 v1 v2 (1 : Int32) (0 : Int32))
def fX8_which  (μ : Mm) : Option Int32 := fX8_which_b4 μ 100 (0 : Int32) (0 : Int32)
set_option maxRecDepth 100000 in
set_option maxHeartbeats 4000000 in
theorem kX8_which (l : Launch) (ε : Ev)  (μ : Mm) (out : Int32) (hf : fX8_which μ = some out) : Sp l ε layM yX8_which cX8_which 5 (some .int) 4 [.ref (ea ε 0)] (some (.int out)) μ μ := by
  refine Sp.of [(0, .ref (ea ε 0))] rfl (by decide +kernel) (Nat.le_of_ble_eq_true rfl) ?_
  intro κ hκ C E hQ
  subst hκ
  replace C : Cf κ cX8_which 5 RX8 (some .int) 4 := C
  have b81 : ∀ (k4 : Int32 → Int32 → Option Int32) (hk4 : ∀ (v1 : Int32) (v2 : Int32) , k4 v1 v2 = some out → G κ (Vw κ ε layM μ) 5 4 [(0, .ref (ea ε 0)), (1, .int v1), (2, .int v2)] []) (v2 : Int32) (s0 : Int32) (s1 : Int32) , fX8_which_b81 μ k4 v2 s0 s1 = some out → G κ (Vw κ ε layM μ) 5 81 [(0, .ref (ea ε 0)), (2, .int v2)] [.int s0, .int s1] := by
    intro k4 hk4 v2 s0 s1 hf
    refine g_ior (pc := 81) C dX8_which_81 ?_
    refine g_istore_n (pc := 82) (i := 1) (L' := [(1, .int (s1 ||| s0)), (0, .ref (ea ε 0)), (2, .int v2)]) C dX8_which_82 rfl (by decide) rfl ?_
    refine g_iinc (pc := 83) (i := 2) (j := 2) (v := (v2 + (1 : Int32))) (L' := [(2, .int (v2 + (1 : Int32))), (1, .int (s1 ||| s0)), (0, .ref (ea ε 0))]) C dX8_which_83 rfl (cx_1 _) (by decide) rfl ?_
    refine g_goto (pc := 86) (tgt := 4) C dX8_which_86 rfl ?_
    exact g_at [2, 1, 0] rfl (hk4 (s1 ||| s0) (v2 + (1 : Int32)) hf)
  have b62 : ∀ (k4 : Int32 → Int32 → Option Int32) (hk4 : ∀ (v1 : Int32) (v2 : Int32) , k4 v1 v2 = some out → G κ (Vw κ ε layM μ) 5 4 [(0, .ref (ea ε 0)), (1, .int v1), (2, .int v2)] []) (k15 : Int32 → Int32 → Int32 → Int32 → Option Int32) (hk15 : ∀ (v1 : Int32) (v2 : Int32) (v3 : Int32) (v4 : Int32) , k15 v1 v2 v3 v4 = some out → G κ (Vw κ ε layM μ) 5 15 [(0, .ref (ea ε 0)), (1, .int v1), (2, .int v2), (3, .int v3), (4, .int v4)] []) (v1 : Int32) (v2 : Int32) (v4 : Int32) (s0 : Int32) , fX8_which_b62 μ k4 k15 v1 v2 v4 s0 = some out → G κ (Vw κ ε layM μ) 5 62 [(0, .ref (ea ε 0)), (1, .int v1), (2, .int v2), (4, .int v4)] [.int s0] := by
    intro k4 hk4 k15 hk15 v1 v2 v4 s0 hf
    refine g_istore_n (pc := 62) (i := 3) (L' := [(3, .int s0), (0, .ref (ea ε 0)), (1, .int v1), (2, .int v2), (4, .int v4)]) C dX8_which_62 rfl (by decide) rfl ?_
    refine g_iinc (pc := 63) (i := 4) (j := 4) (v := (v4 + (1 : Int32))) (L' := [(4, .int (v4 + (1 : Int32))), (3, .int s0), (0, .ref (ea ε 0)), (1, .int v1), (2, .int v2)]) C dX8_which_63 rfl (cx_1 _) (by decide) rfl ?_
    refine g_goto (pc := 66) (tgt := 15) C dX8_which_66 rfl ?_
    exact g_at [2, 3, 4, 1, 0] rfl (hk15 v1 v2 s0 (v4 + (1 : Int32)) hf)
  have b61 : ∀ (k4 : Int32 → Int32 → Option Int32) (hk4 : ∀ (v1 : Int32) (v2 : Int32) , k4 v1 v2 = some out → G κ (Vw κ ε layM μ) 5 4 [(0, .ref (ea ε 0)), (1, .int v1), (2, .int v2)] []) (k15 : Int32 → Int32 → Int32 → Int32 → Option Int32) (hk15 : ∀ (v1 : Int32) (v2 : Int32) (v3 : Int32) (v4 : Int32) , k15 v1 v2 v3 v4 = some out → G κ (Vw κ ε layM μ) 5 15 [(0, .ref (ea ε 0)), (1, .int v1), (2, .int v2), (3, .int v3), (4, .int v4)] []) (v1 : Int32) (v2 : Int32) (v4 : Int32) , fX8_which_b61 μ k4 k15 v1 v2 v4 = some out → G κ (Vw κ ε layM μ) 5 61 [(0, .ref (ea ε 0)), (1, .int v1), (2, .int v2), (4, .int v4)] [] := by
    intro k4 hk4 k15 hk15 v1 v2 v4 hf
    refine g_iconst (pc := 61) C dX8_which_61 ci_0 ?_
    exact b62 k4 hk4 k15 hk15 v1 v2 v4 (0 : Int32) hf
  have b15 : ∀ (k4 : Int32 → Int32 → Option Int32) (hk4 : ∀ (v1 : Int32) (v2 : Int32) , k4 v1 v2 = some out → G κ (Vw κ ε layM μ) 5 4 [(0, .ref (ea ε 0)), (1, .int v1), (2, .int v2)] []) (n : Nat) (v1 : Int32) (v2 : Int32) (v3 : Int32) (v4 : Int32) , fX8_which_b15 μ k4 n v1 v2 v3 v4 = some out → G κ (Vw κ ε layM μ) 5 15 [(0, .ref (ea ε 0)), (1, .int v1), (2, .int v2), (3, .int v3), (4, .int v4)] [] := by
    intro k4 hk4 n
    induction n with
    | zero => intro v1 v2 v3 v4 hf; exact none_ne hf
    | succ n ih =>
      intro v1 v2 v3 v4 hf
      refine g_iload (pc := 15) (i := 4) (j := 4) C dX8_which_15 rfl ?_
      refine g_aload_n (pc := 17) (i := 0) (j := 0) C dX8_which_17 rfl rfl ?_
      refine g_geti (pc := 18) C E fdX8_251 layM_0_31 dX8_which_18 ?_
      refine g_icmp_ge (pc := 21) (tgt := 69) C dX8_which_21 rfl hf (fun _ hf => ?_) (fun _ hf => ?_)
      · refine g_iload_n (pc := 69) (i := 1) (j := 1) C dX8_which_69 rfl rfl ?_
        refine g_iload_n (pc := 70) (i := 3) (j := 3) C dX8_which_70 rfl rfl ?_
        refine g_if_eq (pc := 71) (tgt := 80) C dX8_which_71 rfl hf (fun _ hf => ?_) (fun _ hf => ?_)
        · refine g_iconst (pc := 80) C dX8_which_80 ci_0 ?_
          exact g_at [0, 2] rfl (b81 k4 hk4 v2 (0 : Int32) v1 hf)
        · refine g_iconst (pc := 74) C dX8_which_74 ci_1 ?_
          refine g_iload_n (pc := 75) (i := 2) (j := 2) C dX8_which_75 rfl rfl ?_
          refine g_ishl (pc := 76) C dX8_which_76 ?_
          refine g_goto (pc := 77) (tgt := 81) C dX8_which_77 rfl ?_
          exact g_at [0, 2] rfl (b81 k4 hk4 v2 (jshl (1 : Int32) v2) v1 hf)
      · refine g_iload_n (pc := 24) (i := 3) (j := 3) C dX8_which_24 rfl rfl ?_
        refine g_if_eq (pc := 25) (tgt := 61) C dX8_which_25 rfl hf (fun _ hf => ?_) (fun _ hf => ?_)
        · exact g_at [0, 1, 2, 4] rfl (b61 k4 hk4 (fX8_which_b15 μ k4 n) ih v1 v2 v4 hf)
        · refine g_aload_n (pc := 28) (i := 0) (j := 0) C dX8_which_28 rfl rfl ?_
          refine g_iload_n (pc := 29) (i := 2) (j := 2) C dX8_which_29 rfl rfl ?_
          refine g_aload_n (pc := 30) (i := 0) (j := 0) C dX8_which_30 rfl rfl ?_
          refine g_getr (pc := 31) (j := 21) C E fdX8_72 layM_0_28 dX8_which_31 ?_
          refine g_iload (pc := 34) (i := 4) (j := 4) C dX8_which_34 rfl ?_
          refine g_iald (pc := 36) C E layM_21 dX8_which_36 hf (fun hf => ?_)
          refine g_aload_n (pc := 37) (i := 0) (j := 0) C dX8_which_37 rfl rfl ?_
          refine g_getr (pc := 38) (j := 22) C E fdX8_75 layM_0_29 dX8_which_38 ?_
          refine g_iload (pc := 41) (i := 4) (j := 4) C dX8_which_41 rfl ?_
          refine g_iald (pc := 43) C E layM_22 dX8_which_43 hf (fun hf => ?_)
          refine g_cri (pc := 44) (st := []) C E layM_0 lkX8_407 (As := [.int v2, .int (μ.1 21 (Int32.toNatClampNeg v4)), .int (μ.1 22 (Int32.toNatClampNeg v4))]) rfl (fun out h => kX8_reasonBy (kl κ) ε v2 (μ.1 21 (Int32.toNatClampNeg v4)) (μ.1 22 (Int32.toNatClampNeg v4)) μ out h) (by decide) rfl (Nat.le_of_ble_eq_true rfl) dX8_which_44 hf (fun r44 _ hf => ?_)
          refine g_aload_n (pc := 47) (i := 0) (j := 0) C dX8_which_47 rfl rfl ?_
          refine g_getr (pc := 48) (j := 23) C E fdX8_78 layM_0_30 dX8_which_48 ?_
          refine g_iload (pc := 51) (i := 4) (j := 4) C dX8_which_51 rfl ?_
          refine g_iald (pc := 53) C E layM_23 dX8_which_53 hf (fun hf => ?_)
          refine g_icmp_ne (pc := 54) (tgt := 61) C dX8_which_54 rfl hf (fun _ hf => ?_) (fun _ hf => ?_)
          · exact g_at [0, 1, 2, 4] rfl (b61 k4 hk4 (fX8_which_b15 μ k4 n) ih v1 v2 v4 hf)
          · refine g_iconst (pc := 57) C dX8_which_57 ci_1 ?_
            refine g_goto (pc := 58) (tgt := 62) C dX8_which_58 rfl ?_
            exact g_at [0, 1, 2, 4] rfl (b62 k4 hk4 (fX8_which_b15 μ k4 n) ih v1 v2 v4 (1 : Int32) hf)
  have b4 : ∀ (n : Nat) (v1 : Int32) (v2 : Int32) , fX8_which_b4 μ n v1 v2 = some out → G κ (Vw κ ε layM μ) 5 4 [(0, .ref (ea ε 0)), (1, .int v1), (2, .int v2)] [] := by
    intro n
    induction n with
    | zero => intro v1 v2 hf; exact none_ne hf
    | succ n ih =>
      intro v1 v2 hf
      refine g_iload_n (pc := 4) (i := 2) (j := 2) C dX8_which_4 rfl rfl ?_
      refine g_bipush (pc := 5) C dX8_which_5 cb_15 ?_
      refine g_icmp_gt (pc := 7) (tgt := 89) C dX8_which_7 rfl hf (fun _ hf => ?_) (fun _ hf => ?_)
      · refine g_iload_n (pc := 89) (i := 1) (j := 1) C dX8_which_89 rfl rfl ?_
        exact g_iretr (pc := 90) C hQ dX8_which_90 hf
      · refine g_iconst (pc := 10) C dX8_which_10 ci_1 ?_
        refine g_istore_n (pc := 11) (i := 3) (L' := [(3, .int (1 : Int32)), (0, .ref (ea ε 0)), (1, .int v1), (2, .int v2)]) C dX8_which_11 rfl (by decide) rfl ?_
        refine g_iconst (pc := 12) C dX8_which_12 ci_0 ?_
        refine g_istore (pc := 13) (i := 4) (L' := [(4, .int (0 : Int32)), (3, .int (1 : Int32)), (0, .ref (ea ε 0)), (1, .int v1), (2, .int v2)]) C dX8_which_13 (by decide) rfl ?_
        exact g_at [2, 3, 4, 1, 0] rfl (b15 (fX8_which_b4 μ n) ih 100 v1 v2 (1 : Int32) (0 : Int32) hf)
  refine g_iconst (pc := 0) C dX8_which_0 ci_0 ?_
  refine g_istore_n (pc := 1) (i := 1) (L' := [(1, .int (0 : Int32)), (0, .ref (ea ε 0))]) C dX8_which_1 rfl (by decide) rfl ?_
  refine g_iconst (pc := 2) C dX8_which_2 ci_0 ?_
  refine g_istore_n (pc := 3) (i := 2) (L' := [(2, .int (0 : Int32)), (1, .int (0 : Int32)), (0, .ref (ea ε 0))]) C dX8_which_3 rfl (by decide) rfl ?_
  exact g_at [2, 1, 0] rfl (b4 100 (0 : Int32) (0 : Int32) hf)
theorem dX8_wipe_0 : decode cX8_wipe 0 = .ok (.aload_n 0, 1) := by decide +kernel
theorem dX8_wipe_1 : decode cX8_wipe 1 = .ok (.getfield 162, 3) := by decide +kernel
theorem dX8_wipe_4 : decode cX8_wipe 4 = .ok (.istore_n 1, 1) := by decide +kernel
theorem dX8_wipe_5 : decode cX8_wipe 5 = .ok (.aload_n 0, 1) := by decide +kernel
theorem dX8_wipe_6 : decode cX8_wipe 6 = .ok (.iconst 0, 1) := by decide +kernel
theorem dX8_wipe_7 : decode cX8_wipe 7 = .ok (.putfield 162, 3) := by decide +kernel
theorem dX8_wipe_10 : decode cX8_wipe 10 = .ok (.iload_n 1, 1) := by decide +kernel
theorem dX8_wipe_11 : decode cX8_wipe 11 = .ok (.ireturn, 1) := by decide +kernel
def fX8_wipe  (μ : Mm) : Option (Int32 × Mm) := some ((μ.1 0 1), (wI μ 0 1 (0 : Int32)))
set_option maxRecDepth 100000 in
set_option maxHeartbeats 4000000 in
theorem kX8_wipe (l : Launch) (ε : Ev)  (μ : Mm) (out : (Int32 × Mm)) (hf : fX8_wipe μ = some out) : Sp l ε layM yX8_wipe cX8_wipe 2 (some .int) 0 [.ref (ea ε 0)] (some (.int out.1)) μ out.2 := by
  refine Sp.of [(0, .ref (ea ε 0))] rfl (by decide +kernel) (Nat.le_of_ble_eq_true rfl) ?_
  intro κ hκ C E hQ
  subst hκ
  replace C : Cf κ cX8_wipe 2 RX8 (some .int) 0 := C
  refine g_aload_n (pc := 0) (i := 0) (j := 0) C dX8_wipe_0 rfl rfl ?_
  refine g_geti (pc := 1) C E fdX8_162 layM_0_1 dX8_wipe_1 ?_
  refine g_istore_n (pc := 4) (i := 1) (L' := [(1, .int (μ.1 0 1)), (0, .ref (ea ε 0))]) C dX8_wipe_4 rfl (by decide) rfl ?_
  refine g_aload_n (pc := 5) (i := 0) (j := 1) C dX8_wipe_5 rfl rfl ?_
  refine g_iconst (pc := 6) C dX8_wipe_6 ci_0 ?_
  refine g_puti (pc := 7) C E fdX8_162 layM_0_1 dX8_wipe_7 ?_
  refine g_iload_n (pc := 10) (i := 1) (j := 0) C dX8_wipe_10 rfl rfl ?_
  exact g_iretw (pc := 11) C hQ dX8_wipe_11 hf
theorem dX8_write_0 : decode cX8_write 0 = .ok (.iload_n 1, 1) := by decide +kernel
theorem dX8_write_1 : decode cX8_write 1 = .ok (.i2l, 1) := by decide +kernel
theorem dX8_write_2 : decode cX8_write 2 = .ok (.lconst 0, 1) := by decide +kernel
theorem dX8_write_3 : decode cX8_write 3 = .ok (.ldc2_w 140, 3) := by decide +kernel
theorem dX8_write_6 : decode cX8_write 6 = .ok (.invokestatic 98, 3) := by decide +kernel
theorem dX8_write_9 : decode cX8_write 9 = .ok (.ifCond .ne 6, 3) := by decide +kernel
theorem dX8_write_12 : decode cX8_write 12 = .ok (.bipush (-2), 2) := by decide +kernel
theorem dX8_write_14 : decode cX8_write 14 = .ok (.ireturn, 1) := by decide +kernel
theorem dX8_write_15 : decode cX8_write 15 = .ok (.aload_n 0, 1) := by decide +kernel
theorem dX8_write_16 : decode cX8_write 16 = .ok (.getfield 162, 3) := by decide +kernel
theorem dX8_write_19 : decode cX8_write 19 = .ok (.bipush 60, 2) := by decide +kernel
theorem dX8_write_21 : decode cX8_write 21 = .ok (.if_icmp .ne 6, 3) := by decide +kernel
theorem dX8_write_24 : decode cX8_write 24 = .ok (.bipush (-4), 2) := by decide +kernel
theorem dX8_write_26 : decode cX8_write 26 = .ok (.ireturn, 1) := by decide +kernel
theorem dX8_write_27 : decode cX8_write 27 = .ok (.aload_n 0, 1) := by decide +kernel
theorem dX8_write_28 : decode cX8_write 28 = .ok (.getfield 7, 3) := by decide +kernel
theorem dX8_write_31 : decode cX8_write 31 = .ok (.aload_n 0, 1) := by decide +kernel
theorem dX8_write_32 : decode cX8_write 32 = .ok (.getfield 162, 3) := by decide +kernel
theorem dX8_write_35 : decode cX8_write 35 = .ok (.iload_n 1, 1) := by decide +kernel
theorem dX8_write_36 : decode cX8_write 36 = .ok (.iastore, 1) := by decide +kernel
theorem dX8_write_37 : decode cX8_write 37 = .ok (.aload_n 0, 1) := by decide +kernel
theorem dX8_write_38 : decode cX8_write 38 = .ok (.dup, 1) := by decide +kernel
theorem dX8_write_39 : decode cX8_write 39 = .ok (.getfield 162, 3) := by decide +kernel
theorem dX8_write_42 : decode cX8_write 42 = .ok (.iconst 1, 1) := by decide +kernel
theorem dX8_write_43 : decode cX8_write 43 = .ok (.iadd, 1) := by decide +kernel
theorem dX8_write_44 : decode cX8_write 44 = .ok (.putfield 162, 3) := by decide +kernel
theorem dX8_write_47 : decode cX8_write 47 = .ok (.aload_n 0, 1) := by decide +kernel
theorem dX8_write_48 : decode cX8_write 48 = .ok (.getfield 162, 3) := by decide +kernel
theorem dX8_write_51 : decode cX8_write 51 = .ok (.ireturn, 1) := by decide +kernel
def fX8_write (p1 : Int32) (μ : Mm) : Option (Int32 × Mm) := ((fX8_in (Int32.toInt64 p1) (0 : Int64) (255 : Int64)).bind fun r6 => (if r6 = 0 then some ((-2 : Int32), μ) else (if (μ.1 0 1) = (60 : Int32) then some ((-4 : Int32), μ) else (if inb (μ.1 0 1) 60 = true then some (((wI (wI μ 1 (Int32.toNatClampNeg (μ.1 0 1)) p1) 0 1 (((wI μ 1 (Int32.toNatClampNeg (μ.1 0 1)) p1).1 0 1) + (1 : Int32))).1 0 1), (wI (wI μ 1 (Int32.toNatClampNeg (μ.1 0 1)) p1) 0 1 (((wI μ 1 (Int32.toNatClampNeg (μ.1 0 1)) p1).1 0 1) + (1 : Int32)))) else none))))
set_option maxRecDepth 100000 in
set_option maxHeartbeats 4000000 in
theorem kX8_write (l : Launch) (ε : Ev) (p1 : Int32) (μ : Mm) (out : (Int32 × Mm)) (hf : fX8_write p1 μ = some out) : Sp l ε layM yX8_write cX8_write 2 (some .int) 1 [.ref (ea ε 0), .int p1] (some (.int out.1)) μ out.2 := by
  refine Sp.of [(0, .ref (ea ε 0)), (1, .int p1)] rfl (by decide +kernel) (Nat.le_of_ble_eq_true rfl) ?_
  intro κ hκ C E hQ
  subst hκ
  replace C : Cf κ cX8_write 2 RX8 (some .int) 1 := C
  refine g_iload_n (pc := 0) (i := 1) (j := 1) C dX8_write_0 rfl rfl ?_
  refine g_i2l (pc := 1) C dX8_write_1 ?_
  refine g_lconst (pc := 2) C dX8_write_2 cl_0 ?_
  refine g_ldc2 (pc := 3) C cnX8_140 dX8_write_3 ?_
  refine g_cpi (pc := 6) (st := []) C lkX8_98 (As := [.long (Int32.toInt64 p1), .long (0 : Int64), .long (255 : Int64)]) rfl (fun out h => kX8_in (kl κ) (Int32.toInt64 p1) (0 : Int64) (255 : Int64) out h) (by decide) rfl (Nat.le_of_ble_eq_true rfl) dX8_write_6 hf (fun r6 _ hf => ?_)
  refine g_if_ne (pc := 9) (tgt := 15) C dX8_write_9 rfl hf (fun _ hf => ?_) (fun _ hf => ?_)
  · refine g_aload_n (pc := 15) (i := 0) (j := 0) C dX8_write_15 rfl rfl ?_
    refine g_geti (pc := 16) C E fdX8_162 layM_0_1 dX8_write_16 ?_
    refine g_bipush (pc := 19) C dX8_write_19 cb_60 ?_
    refine g_icmp_ne (pc := 21) (tgt := 27) C dX8_write_21 rfl hf (fun _ hf => ?_) (fun _ hf => ?_)
    · refine g_aload_n (pc := 27) (i := 0) (j := 0) C dX8_write_27 rfl rfl ?_
      refine g_getr (pc := 28) (j := 1) C E fdX8_7 layM_0_0 dX8_write_28 ?_
      refine g_aload_n (pc := 31) (i := 0) (j := 0) C dX8_write_31 rfl rfl ?_
      refine g_geti (pc := 32) C E fdX8_162 layM_0_1 dX8_write_32 ?_
      refine g_iload_n (pc := 35) (i := 1) (j := 1) C dX8_write_35 rfl rfl ?_
      refine g_iast (pc := 36) C E layM_1 dX8_write_36 hf (fun hf => ?_)
      refine g_aload_n (pc := 37) (i := 0) (j := 0) C dX8_write_37 rfl rfl ?_
      refine g_dup (pc := 38) C dX8_write_38 rfl ?_
      refine g_geti (pc := 39) C E fdX8_162 layM_0_1 dX8_write_39 ?_
      refine g_iconst (pc := 42) C dX8_write_42 ci_1 ?_
      refine g_iadd (pc := 43) C dX8_write_43 ?_
      refine g_puti (pc := 44) C E fdX8_162 layM_0_1 dX8_write_44 ?_
      refine g_aload_n (pc := 47) (i := 0) (j := 0) C dX8_write_47 rfl rfl ?_
      refine g_geti (pc := 48) C E fdX8_162 layM_0_1 dX8_write_48 ?_
      exact g_iretw (pc := 51) C hQ dX8_write_51 hf
    · refine g_bipush (pc := 24) C dX8_write_24 cb_m4 ?_
      exact g_iretw (pc := 26) C hQ dX8_write_26 hf
  · refine g_bipush (pc := 12) C dX8_write_12 cb_m2 ?_
    exact g_iretw (pc := 14) C hQ dX8_write_14 hf
