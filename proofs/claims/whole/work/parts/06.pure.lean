theorem dJ1_canEncode_9a6ad_0 : decode cJ1_canEncode_9a6ad 0 = .ok (.iload_n 0, 1) := by decide +kernel
theorem dJ1_canEncode_9a6ad_1 : decode cJ1_canEncode_9a6ad 1 = .ok (.ifCond .lt 14, 3) := by decide +kernel
theorem dJ1_canEncode_9a6ad_4 : decode cJ1_canEncode_9a6ad 4 = .ok (.iload_n 0, 1) := by decide +kernel
theorem dJ1_canEncode_9a6ad_5 : decode cJ1_canEncode_9a6ad 5 = .ok (.sipush 255, 3) := by decide +kernel
theorem dJ1_canEncode_9a6ad_8 : decode cJ1_canEncode_9a6ad 8 = .ok (.if_icmp .gt 7, 3) := by decide +kernel
theorem dJ1_canEncode_9a6ad_11 : decode cJ1_canEncode_9a6ad 11 = .ok (.iconst 1, 1) := by decide +kernel
theorem dJ1_canEncode_9a6ad_12 : decode cJ1_canEncode_9a6ad 12 = .ok (.goto 4, 3) := by decide +kernel
theorem dJ1_canEncode_9a6ad_15 : decode cJ1_canEncode_9a6ad 15 = .ok (.iconst 0, 1) := by decide +kernel
theorem dJ1_canEncode_9a6ad_16 : decode cJ1_canEncode_9a6ad 16 = .ok (.ireturn, 1) := by decide +kernel
def fJ1_canEncode_9a6ad (p1 : Int32) : Option Int32 := (if p1 < 0 then some (0 : Int32) else (if (255 : Int32) < p1 then some (0 : Int32) else some (1 : Int32)))
set_option maxRecDepth 100000 in
set_option maxHeartbeats 4000000 in
theorem kJ1_canEncode_9a6ad (l : Launch) (p1 : Int32) (out : Int32) (hf : fJ1_canEncode_9a6ad p1 = some out) : Sq l yJ1_canEncode_9a6ad cJ1_canEncode_9a6ad 1 (some .boolean) 0 [.int p1] (some (.int out)) := by
  refine Sq.of [(0, .int p1)] rfl (by decide +kernel) (Nat.le_of_ble_eq_true rfl) ?_
  intro κ hκ C hQ
  subst hκ
  replace C : Cf κ cJ1_canEncode_9a6ad 1 RJ1 (some .boolean) 0 := C
  refine g_iload_n (pc := 0) (i := 0) (j := 0) C dJ1_canEncode_9a6ad_0 rfl rfl ?_
  refine g_if_lt (pc := 1) (tgt := 15) C dJ1_canEncode_9a6ad_1 rfl hf (fun _ hf => ?_) (fun _ hf => ?_)
  · refine g_iconst (pc := 15) C dJ1_canEncode_9a6ad_15 ci_0 ?_
    exact g_zret1p (pc := 16) C rfl hQ dJ1_canEncode_9a6ad_16 hf
  · refine g_iload_n (pc := 4) (i := 0) (j := 0) C dJ1_canEncode_9a6ad_4 rfl rfl ?_
    refine g_sipush (pc := 5) C dJ1_canEncode_9a6ad_5 cs_255 ?_
    refine g_icmp_gt (pc := 8) (tgt := 15) C dJ1_canEncode_9a6ad_8 rfl hf (fun _ hf => ?_) (fun _ hf => ?_)
    · refine g_iconst (pc := 15) C dJ1_canEncode_9a6ad_15 ci_0 ?_
      exact g_zret1p (pc := 16) C rfl hQ dJ1_canEncode_9a6ad_16 hf
    · refine g_iconst (pc := 11) C dJ1_canEncode_9a6ad_11 ci_1 ?_
      refine g_goto (pc := 12) (tgt := 16) C dJ1_canEncode_9a6ad_12 rfl ?_
      exact g_zret1p (pc := 16) C rfl hQ dJ1_canEncode_9a6ad_16 hf
theorem dJ9_max_7cf53_0 : decode cJ9_max_7cf53 0 = .ok (.iload_n 0, 1) := by decide +kernel
theorem dJ9_max_7cf53_1 : decode cJ9_max_7cf53 1 = .ok (.iload_n 1, 1) := by decide +kernel
theorem dJ9_max_7cf53_2 : decode cJ9_max_7cf53 2 = .ok (.if_icmp .lt 7, 3) := by decide +kernel
theorem dJ9_max_7cf53_5 : decode cJ9_max_7cf53 5 = .ok (.iload_n 0, 1) := by decide +kernel
theorem dJ9_max_7cf53_6 : decode cJ9_max_7cf53 6 = .ok (.goto 4, 3) := by decide +kernel
theorem dJ9_max_7cf53_9 : decode cJ9_max_7cf53 9 = .ok (.iload_n 1, 1) := by decide +kernel
theorem dJ9_max_7cf53_10 : decode cJ9_max_7cf53 10 = .ok (.ireturn, 1) := by decide +kernel
def fJ9_max_7cf53 (p1 : Int32) (p2 : Int32) : Option Int32 := (if p1 < p2 then some p2 else some p1)
set_option maxRecDepth 100000 in
set_option maxHeartbeats 4000000 in
theorem kJ9_max_7cf53 (l : Launch) (p1 : Int32) (p2 : Int32) (out : Int32) (hf : fJ9_max_7cf53 p1 p2 = some out) : Sq l yJ9_max_7cf53 cJ9_max_7cf53 2 (some .int) 0 [.int p1, .int p2] (some (.int out)) := by
  refine Sq.of [(0, .int p1), (1, .int p2)] rfl (by decide +kernel) (Nat.le_of_ble_eq_true rfl) ?_
  intro κ hκ C hQ
  subst hκ
  replace C : Cf κ cJ9_max_7cf53 2 RJ9 (some .int) 0 := C
  refine g_iload_n (pc := 0) (i := 0) (j := 0) C dJ9_max_7cf53_0 rfl rfl ?_
  refine g_iload_n (pc := 1) (i := 1) (j := 1) C dJ9_max_7cf53_1 rfl rfl ?_
  refine g_icmp_lt (pc := 2) (tgt := 9) C dJ9_max_7cf53_2 rfl hf (fun _ hf => ?_) (fun _ hf => ?_)
  · refine g_iload_n (pc := 9) (i := 1) (j := 1) C dJ9_max_7cf53_9 rfl rfl ?_
    exact g_iretp (pc := 10) C hQ dJ9_max_7cf53_10 hf
  · refine g_iload_n (pc := 5) (i := 0) (j := 0) C dJ9_max_7cf53_5 rfl rfl ?_
    refine g_goto (pc := 6) (tgt := 10) C dJ9_max_7cf53_6 rfl ?_
    exact g_iretp (pc := 10) C hQ dJ9_max_7cf53_10 hf
theorem dJ9_min_7cf53_0 : decode cJ9_min_7cf53 0 = .ok (.iload_n 0, 1) := by decide +kernel
theorem dJ9_min_7cf53_1 : decode cJ9_min_7cf53 1 = .ok (.iload_n 1, 1) := by decide +kernel
theorem dJ9_min_7cf53_2 : decode cJ9_min_7cf53 2 = .ok (.if_icmp .gt 7, 3) := by decide +kernel
theorem dJ9_min_7cf53_5 : decode cJ9_min_7cf53 5 = .ok (.iload_n 0, 1) := by decide +kernel
theorem dJ9_min_7cf53_6 : decode cJ9_min_7cf53 6 = .ok (.goto 4, 3) := by decide +kernel
theorem dJ9_min_7cf53_9 : decode cJ9_min_7cf53 9 = .ok (.iload_n 1, 1) := by decide +kernel
theorem dJ9_min_7cf53_10 : decode cJ9_min_7cf53 10 = .ok (.ireturn, 1) := by decide +kernel
def fJ9_min_7cf53 (p1 : Int32) (p2 : Int32) : Option Int32 := (if p2 < p1 then some p2 else some p1)
set_option maxRecDepth 100000 in
set_option maxHeartbeats 4000000 in
theorem kJ9_min_7cf53 (l : Launch) (p1 : Int32) (p2 : Int32) (out : Int32) (hf : fJ9_min_7cf53 p1 p2 = some out) : Sq l yJ9_min_7cf53 cJ9_min_7cf53 2 (some .int) 0 [.int p1, .int p2] (some (.int out)) := by
  refine Sq.of [(0, .int p1), (1, .int p2)] rfl (by decide +kernel) (Nat.le_of_ble_eq_true rfl) ?_
  intro κ hκ C hQ
  subst hκ
  replace C : Cf κ cJ9_min_7cf53 2 RJ9 (some .int) 0 := C
  refine g_iload_n (pc := 0) (i := 0) (j := 0) C dJ9_min_7cf53_0 rfl rfl ?_
  refine g_iload_n (pc := 1) (i := 1) (j := 1) C dJ9_min_7cf53_1 rfl rfl ?_
  refine g_icmp_gt (pc := 2) (tgt := 9) C dJ9_min_7cf53_2 rfl hf (fun _ hf => ?_) (fun _ hf => ?_)
  · refine g_iload_n (pc := 9) (i := 1) (j := 1) C dJ9_min_7cf53_9 rfl rfl ?_
    exact g_iretp (pc := 10) C hQ dJ9_min_7cf53_10 hf
  · refine g_iload_n (pc := 5) (i := 0) (j := 0) C dJ9_min_7cf53_5 rfl rfl ?_
    refine g_goto (pc := 6) (tgt := 10) C dJ9_min_7cf53_6 rfl ?_
    exact g_iretp (pc := 10) C hQ dJ9_min_7cf53_10 hf
theorem dJ6_numberOfLeadingZeros_0f7a4_0 : decode cJ6_numberOfLeadingZeros_0f7a4 0 = .ok (.iload_n 0, 1) := by decide +kernel
theorem dJ6_numberOfLeadingZeros_0f7a4_1 : decode cJ6_numberOfLeadingZeros_0f7a4 1 = .ok (.ifCond .gt 14, 3) := by decide +kernel
theorem dJ6_numberOfLeadingZeros_0f7a4_4 : decode cJ6_numberOfLeadingZeros_0f7a4 4 = .ok (.iload_n 0, 1) := by decide +kernel
theorem dJ6_numberOfLeadingZeros_0f7a4_5 : decode cJ6_numberOfLeadingZeros_0f7a4 5 = .ok (.ifCond .ne 8, 3) := by decide +kernel
theorem dJ6_numberOfLeadingZeros_0f7a4_8 : decode cJ6_numberOfLeadingZeros_0f7a4 8 = .ok (.bipush 32, 2) := by decide +kernel
theorem dJ6_numberOfLeadingZeros_0f7a4_10 : decode cJ6_numberOfLeadingZeros_0f7a4 10 = .ok (.goto 4, 3) := by decide +kernel
theorem dJ6_numberOfLeadingZeros_0f7a4_13 : decode cJ6_numberOfLeadingZeros_0f7a4 13 = .ok (.iconst 0, 1) := by decide +kernel
theorem dJ6_numberOfLeadingZeros_0f7a4_14 : decode cJ6_numberOfLeadingZeros_0f7a4 14 = .ok (.ireturn, 1) := by decide +kernel
theorem dJ6_numberOfLeadingZeros_0f7a4_15 : decode cJ6_numberOfLeadingZeros_0f7a4 15 = .ok (.bipush 31, 2) := by decide +kernel
theorem dJ6_numberOfLeadingZeros_0f7a4_17 : decode cJ6_numberOfLeadingZeros_0f7a4 17 = .ok (.istore_n 1, 1) := by decide +kernel
theorem dJ6_numberOfLeadingZeros_0f7a4_18 : decode cJ6_numberOfLeadingZeros_0f7a4 18 = .ok (.iload_n 0, 1) := by decide +kernel
theorem dJ6_numberOfLeadingZeros_0f7a4_19 : decode cJ6_numberOfLeadingZeros_0f7a4 19 = .ok (.ldc_w 264, 3) := by decide +kernel
theorem dJ6_numberOfLeadingZeros_0f7a4_22 : decode cJ6_numberOfLeadingZeros_0f7a4 22 = .ok (.if_icmp .lt 11, 3) := by decide +kernel
theorem dJ6_numberOfLeadingZeros_0f7a4_25 : decode cJ6_numberOfLeadingZeros_0f7a4 25 = .ok (.iinc 1 (-16), 3) := by decide +kernel
theorem dJ6_numberOfLeadingZeros_0f7a4_28 : decode cJ6_numberOfLeadingZeros_0f7a4 28 = .ok (.iload_n 0, 1) := by decide +kernel
theorem dJ6_numberOfLeadingZeros_0f7a4_29 : decode cJ6_numberOfLeadingZeros_0f7a4 29 = .ok (.bipush 16, 2) := by decide +kernel
theorem dJ6_numberOfLeadingZeros_0f7a4_31 : decode cJ6_numberOfLeadingZeros_0f7a4 31 = .ok (.iushr, 1) := by decide +kernel
theorem dJ6_numberOfLeadingZeros_0f7a4_32 : decode cJ6_numberOfLeadingZeros_0f7a4 32 = .ok (.istore_n 0, 1) := by decide +kernel
theorem dJ6_numberOfLeadingZeros_0f7a4_33 : decode cJ6_numberOfLeadingZeros_0f7a4 33 = .ok (.iload_n 0, 1) := by decide +kernel
theorem dJ6_numberOfLeadingZeros_0f7a4_34 : decode cJ6_numberOfLeadingZeros_0f7a4 34 = .ok (.sipush 256, 3) := by decide +kernel
theorem dJ6_numberOfLeadingZeros_0f7a4_37 : decode cJ6_numberOfLeadingZeros_0f7a4 37 = .ok (.if_icmp .lt 11, 3) := by decide +kernel
theorem dJ6_numberOfLeadingZeros_0f7a4_40 : decode cJ6_numberOfLeadingZeros_0f7a4 40 = .ok (.iinc 1 (-8), 3) := by decide +kernel
theorem dJ6_numberOfLeadingZeros_0f7a4_43 : decode cJ6_numberOfLeadingZeros_0f7a4 43 = .ok (.iload_n 0, 1) := by decide +kernel
theorem dJ6_numberOfLeadingZeros_0f7a4_44 : decode cJ6_numberOfLeadingZeros_0f7a4 44 = .ok (.bipush 8, 2) := by decide +kernel
theorem dJ6_numberOfLeadingZeros_0f7a4_46 : decode cJ6_numberOfLeadingZeros_0f7a4 46 = .ok (.iushr, 1) := by decide +kernel
theorem dJ6_numberOfLeadingZeros_0f7a4_47 : decode cJ6_numberOfLeadingZeros_0f7a4 47 = .ok (.istore_n 0, 1) := by decide +kernel
theorem dJ6_numberOfLeadingZeros_0f7a4_48 : decode cJ6_numberOfLeadingZeros_0f7a4 48 = .ok (.iload_n 0, 1) := by decide +kernel
theorem dJ6_numberOfLeadingZeros_0f7a4_49 : decode cJ6_numberOfLeadingZeros_0f7a4 49 = .ok (.bipush 16, 2) := by decide +kernel
theorem dJ6_numberOfLeadingZeros_0f7a4_51 : decode cJ6_numberOfLeadingZeros_0f7a4 51 = .ok (.if_icmp .lt 10, 3) := by decide +kernel
theorem dJ6_numberOfLeadingZeros_0f7a4_54 : decode cJ6_numberOfLeadingZeros_0f7a4 54 = .ok (.iinc 1 (-4), 3) := by decide +kernel
theorem dJ6_numberOfLeadingZeros_0f7a4_57 : decode cJ6_numberOfLeadingZeros_0f7a4 57 = .ok (.iload_n 0, 1) := by decide +kernel
theorem dJ6_numberOfLeadingZeros_0f7a4_58 : decode cJ6_numberOfLeadingZeros_0f7a4 58 = .ok (.iconst 4, 1) := by decide +kernel
theorem dJ6_numberOfLeadingZeros_0f7a4_59 : decode cJ6_numberOfLeadingZeros_0f7a4 59 = .ok (.iushr, 1) := by decide +kernel
theorem dJ6_numberOfLeadingZeros_0f7a4_60 : decode cJ6_numberOfLeadingZeros_0f7a4 60 = .ok (.istore_n 0, 1) := by decide +kernel
theorem dJ6_numberOfLeadingZeros_0f7a4_61 : decode cJ6_numberOfLeadingZeros_0f7a4 61 = .ok (.iload_n 0, 1) := by decide +kernel
theorem dJ6_numberOfLeadingZeros_0f7a4_62 : decode cJ6_numberOfLeadingZeros_0f7a4 62 = .ok (.iconst 4, 1) := by decide +kernel
theorem dJ6_numberOfLeadingZeros_0f7a4_63 : decode cJ6_numberOfLeadingZeros_0f7a4 63 = .ok (.if_icmp .lt 10, 3) := by decide +kernel
theorem dJ6_numberOfLeadingZeros_0f7a4_66 : decode cJ6_numberOfLeadingZeros_0f7a4 66 = .ok (.iinc 1 (-2), 3) := by decide +kernel
theorem dJ6_numberOfLeadingZeros_0f7a4_69 : decode cJ6_numberOfLeadingZeros_0f7a4 69 = .ok (.iload_n 0, 1) := by decide +kernel
theorem dJ6_numberOfLeadingZeros_0f7a4_70 : decode cJ6_numberOfLeadingZeros_0f7a4 70 = .ok (.iconst 2, 1) := by decide +kernel
theorem dJ6_numberOfLeadingZeros_0f7a4_71 : decode cJ6_numberOfLeadingZeros_0f7a4 71 = .ok (.iushr, 1) := by decide +kernel
theorem dJ6_numberOfLeadingZeros_0f7a4_72 : decode cJ6_numberOfLeadingZeros_0f7a4 72 = .ok (.istore_n 0, 1) := by decide +kernel
theorem dJ6_numberOfLeadingZeros_0f7a4_73 : decode cJ6_numberOfLeadingZeros_0f7a4 73 = .ok (.iload_n 1, 1) := by decide +kernel
theorem dJ6_numberOfLeadingZeros_0f7a4_74 : decode cJ6_numberOfLeadingZeros_0f7a4 74 = .ok (.iload_n 0, 1) := by decide +kernel
theorem dJ6_numberOfLeadingZeros_0f7a4_75 : decode cJ6_numberOfLeadingZeros_0f7a4 75 = .ok (.iconst 1, 1) := by decide +kernel
theorem dJ6_numberOfLeadingZeros_0f7a4_76 : decode cJ6_numberOfLeadingZeros_0f7a4 76 = .ok (.iushr, 1) := by decide +kernel
theorem dJ6_numberOfLeadingZeros_0f7a4_77 : decode cJ6_numberOfLeadingZeros_0f7a4 77 = .ok (.isub, 1) := by decide +kernel
theorem dJ6_numberOfLeadingZeros_0f7a4_78 : decode cJ6_numberOfLeadingZeros_0f7a4 78 = .ok (.ireturn, 1) := by decide +kernel
def fJ6_numberOfLeadingZeros_0f7a4_b73 (v0 : Int32) (v1 : Int32) : Option Int32 := some (v1 - (jushr v0 (1 : Int32)))
def fJ6_numberOfLeadingZeros_0f7a4_b61 (v0 : Int32) (v1 : Int32) : Option Int32 := (if v0 < (4 : Int32) then fJ6_numberOfLeadingZeros_0f7a4_b73 v0 v1 else fJ6_numberOfLeadingZeros_0f7a4_b73 (jushr v0 (2 : Int32)) (v1 + (-2 : Int32)))
def fJ6_numberOfLeadingZeros_0f7a4_b48 (v0 : Int32) (v1 : Int32) : Option Int32 := (if v0 < (16 : Int32) then fJ6_numberOfLeadingZeros_0f7a4_b61 v0 v1 else fJ6_numberOfLeadingZeros_0f7a4_b61 (jushr v0 (4 : Int32)) (v1 + (-4 : Int32)))
def fJ6_numberOfLeadingZeros_0f7a4_b33 (v0 : Int32) (v1 : Int32) : Option Int32 := (if v0 < (256 : Int32) then fJ6_numberOfLeadingZeros_0f7a4_b48 v0 v1 else fJ6_numberOfLeadingZeros_0f7a4_b48 (jushr v0 (8 : Int32)) (v1 + (-8 : Int32)))
def fJ6_numberOfLeadingZeros_0f7a4 (p1 : Int32) : Option Int32 := (if 0 < p1 then (if p1 < (65536 : Int32) then fJ6_numberOfLeadingZeros_0f7a4_b33 p1 (31 : Int32) else fJ6_numberOfLeadingZeros_0f7a4_b33 (jushr p1 (16 : Int32)) ((31 : Int32) + (-16 : Int32))) else (if p1 = 0 then some (32 : Int32) else some (0 : Int32)))
set_option maxRecDepth 100000 in
set_option maxHeartbeats 4000000 in
theorem kJ6_numberOfLeadingZeros_0f7a4 (l : Launch) (p1 : Int32) (out : Int32) (hf : fJ6_numberOfLeadingZeros_0f7a4 p1 = some out) : Sq l yJ6_numberOfLeadingZeros_0f7a4 cJ6_numberOfLeadingZeros_0f7a4 2 (some .int) 0 [.int p1] (some (.int out)) := by
  refine Sq.of [(0, .int p1)] rfl (by decide +kernel) (Nat.le_of_ble_eq_true rfl) ?_
  intro κ hκ C hQ
  subst hκ
  replace C : Cf κ cJ6_numberOfLeadingZeros_0f7a4 2 RJ6 (some .int) 0 := C
  have b73 : ∀ (v0 : Int32) (v1 : Int32) , fJ6_numberOfLeadingZeros_0f7a4_b73 v0 v1 = some out → G κ (Vp κ) 2 73 [(0, .int v0), (1, .int v1)] [] := by
    intro v0 v1 hf
    refine g_iload_n (pc := 73) (i := 1) (j := 1) C dJ6_numberOfLeadingZeros_0f7a4_73 rfl rfl ?_
    refine g_iload_n (pc := 74) (i := 0) (j := 0) C dJ6_numberOfLeadingZeros_0f7a4_74 rfl rfl ?_
    refine g_iconst (pc := 75) C dJ6_numberOfLeadingZeros_0f7a4_75 ci_1 ?_
    refine g_iushr (pc := 76) C dJ6_numberOfLeadingZeros_0f7a4_76 ?_
    refine g_isub (pc := 77) C dJ6_numberOfLeadingZeros_0f7a4_77 ?_
    exact g_iretp (pc := 78) C hQ dJ6_numberOfLeadingZeros_0f7a4_78 hf
  have b61 : ∀ (v0 : Int32) (v1 : Int32) , fJ6_numberOfLeadingZeros_0f7a4_b61 v0 v1 = some out → G κ (Vp κ) 2 61 [(0, .int v0), (1, .int v1)] [] := by
    intro v0 v1 hf
    refine g_iload_n (pc := 61) (i := 0) (j := 0) C dJ6_numberOfLeadingZeros_0f7a4_61 rfl rfl ?_
    refine g_iconst (pc := 62) C dJ6_numberOfLeadingZeros_0f7a4_62 ci_4 ?_
    refine g_icmp_lt (pc := 63) (tgt := 73) C dJ6_numberOfLeadingZeros_0f7a4_63 rfl hf (fun _ hf => ?_) (fun _ hf => ?_)
    · exact b73 v0 v1 hf
    · refine g_iinc (pc := 66) (i := 1) (j := 1) (v := (v1 + (-2 : Int32))) (L' := [(1, .int (v1 + (-2 : Int32))), (0, .int v0)]) C dJ6_numberOfLeadingZeros_0f7a4_66 rfl (cx_m2 _) (by decide) rfl ?_
      refine g_iload_n (pc := 69) (i := 0) (j := 1) C dJ6_numberOfLeadingZeros_0f7a4_69 rfl rfl ?_
      refine g_iconst (pc := 70) C dJ6_numberOfLeadingZeros_0f7a4_70 ci_2 ?_
      refine g_iushr (pc := 71) C dJ6_numberOfLeadingZeros_0f7a4_71 ?_
      refine g_istore_n (pc := 72) (i := 0) (L' := [(0, .int (jushr v0 (2 : Int32))), (1, .int (v1 + (-2 : Int32)))]) C dJ6_numberOfLeadingZeros_0f7a4_72 rfl (by decide) rfl ?_
      exact b73 (jushr v0 (2 : Int32)) (v1 + (-2 : Int32)) hf
  have b48 : ∀ (v0 : Int32) (v1 : Int32) , fJ6_numberOfLeadingZeros_0f7a4_b48 v0 v1 = some out → G κ (Vp κ) 2 48 [(0, .int v0), (1, .int v1)] [] := by
    intro v0 v1 hf
    refine g_iload_n (pc := 48) (i := 0) (j := 0) C dJ6_numberOfLeadingZeros_0f7a4_48 rfl rfl ?_
    refine g_bipush (pc := 49) C dJ6_numberOfLeadingZeros_0f7a4_49 cb_16 ?_
    refine g_icmp_lt (pc := 51) (tgt := 61) C dJ6_numberOfLeadingZeros_0f7a4_51 rfl hf (fun _ hf => ?_) (fun _ hf => ?_)
    · exact b61 v0 v1 hf
    · refine g_iinc (pc := 54) (i := 1) (j := 1) (v := (v1 + (-4 : Int32))) (L' := [(1, .int (v1 + (-4 : Int32))), (0, .int v0)]) C dJ6_numberOfLeadingZeros_0f7a4_54 rfl (cx_m4 _) (by decide) rfl ?_
      refine g_iload_n (pc := 57) (i := 0) (j := 1) C dJ6_numberOfLeadingZeros_0f7a4_57 rfl rfl ?_
      refine g_iconst (pc := 58) C dJ6_numberOfLeadingZeros_0f7a4_58 ci_4 ?_
      refine g_iushr (pc := 59) C dJ6_numberOfLeadingZeros_0f7a4_59 ?_
      refine g_istore_n (pc := 60) (i := 0) (L' := [(0, .int (jushr v0 (4 : Int32))), (1, .int (v1 + (-4 : Int32)))]) C dJ6_numberOfLeadingZeros_0f7a4_60 rfl (by decide) rfl ?_
      exact b61 (jushr v0 (4 : Int32)) (v1 + (-4 : Int32)) hf
  have b33 : ∀ (v0 : Int32) (v1 : Int32) , fJ6_numberOfLeadingZeros_0f7a4_b33 v0 v1 = some out → G κ (Vp κ) 2 33 [(0, .int v0), (1, .int v1)] [] := by
    intro v0 v1 hf
    refine g_iload_n (pc := 33) (i := 0) (j := 0) C dJ6_numberOfLeadingZeros_0f7a4_33 rfl rfl ?_
    refine g_sipush (pc := 34) C dJ6_numberOfLeadingZeros_0f7a4_34 cs_256 ?_
    refine g_icmp_lt (pc := 37) (tgt := 48) C dJ6_numberOfLeadingZeros_0f7a4_37 rfl hf (fun _ hf => ?_) (fun _ hf => ?_)
    · exact b48 v0 v1 hf
    · refine g_iinc (pc := 40) (i := 1) (j := 1) (v := (v1 + (-8 : Int32))) (L' := [(1, .int (v1 + (-8 : Int32))), (0, .int v0)]) C dJ6_numberOfLeadingZeros_0f7a4_40 rfl (cx_m8 _) (by decide) rfl ?_
      refine g_iload_n (pc := 43) (i := 0) (j := 1) C dJ6_numberOfLeadingZeros_0f7a4_43 rfl rfl ?_
      refine g_bipush (pc := 44) C dJ6_numberOfLeadingZeros_0f7a4_44 cb_8 ?_
      refine g_iushr (pc := 46) C dJ6_numberOfLeadingZeros_0f7a4_46 ?_
      refine g_istore_n (pc := 47) (i := 0) (L' := [(0, .int (jushr v0 (8 : Int32))), (1, .int (v1 + (-8 : Int32)))]) C dJ6_numberOfLeadingZeros_0f7a4_47 rfl (by decide) rfl ?_
      exact b48 (jushr v0 (8 : Int32)) (v1 + (-8 : Int32)) hf
  refine g_iload_n (pc := 0) (i := 0) (j := 0) C dJ6_numberOfLeadingZeros_0f7a4_0 rfl rfl ?_
  refine g_if_gt (pc := 1) (tgt := 15) C dJ6_numberOfLeadingZeros_0f7a4_1 rfl hf (fun _ hf => ?_) (fun _ hf => ?_)
  · refine g_bipush (pc := 15) C dJ6_numberOfLeadingZeros_0f7a4_15 cb_31 ?_
    refine g_istore_n (pc := 17) (i := 1) (L' := [(1, .int (31 : Int32)), (0, .int p1)]) C dJ6_numberOfLeadingZeros_0f7a4_17 rfl (by decide) rfl ?_
    refine g_iload_n (pc := 18) (i := 0) (j := 1) C dJ6_numberOfLeadingZeros_0f7a4_18 rfl rfl ?_
    refine g_ldcw (pc := 19) C cnJ6_264 dJ6_numberOfLeadingZeros_0f7a4_19 ?_
    refine g_icmp_lt (pc := 22) (tgt := 33) C dJ6_numberOfLeadingZeros_0f7a4_22 rfl hf (fun _ hf => ?_) (fun _ hf => ?_)
    · exact g_at [1, 0] rfl (b33 p1 (31 : Int32) hf)
    · refine g_iinc (pc := 25) (i := 1) (j := 0) (v := ((31 : Int32) + (-16 : Int32))) (L' := [(1, .int ((31 : Int32) + (-16 : Int32))), (0, .int p1)]) C dJ6_numberOfLeadingZeros_0f7a4_25 rfl (cx_m16 _) (by decide) rfl ?_
      refine g_iload_n (pc := 28) (i := 0) (j := 1) C dJ6_numberOfLeadingZeros_0f7a4_28 rfl rfl ?_
      refine g_bipush (pc := 29) C dJ6_numberOfLeadingZeros_0f7a4_29 cb_16 ?_
      refine g_iushr (pc := 31) C dJ6_numberOfLeadingZeros_0f7a4_31 ?_
      refine g_istore_n (pc := 32) (i := 0) (L' := [(0, .int (jushr p1 (16 : Int32))), (1, .int ((31 : Int32) + (-16 : Int32)))]) C dJ6_numberOfLeadingZeros_0f7a4_32 rfl (by decide) rfl ?_
      exact b33 (jushr p1 (16 : Int32)) ((31 : Int32) + (-16 : Int32)) hf
  · refine g_iload_n (pc := 4) (i := 0) (j := 0) C dJ6_numberOfLeadingZeros_0f7a4_4 rfl rfl ?_
    refine g_if_ne (pc := 5) (tgt := 13) C dJ6_numberOfLeadingZeros_0f7a4_5 rfl hf (fun _ hf => ?_) (fun _ hf => ?_)
    · refine g_iconst (pc := 13) C dJ6_numberOfLeadingZeros_0f7a4_13 ci_0 ?_
      exact g_iretp (pc := 14) C hQ dJ6_numberOfLeadingZeros_0f7a4_14 hf
    · refine g_bipush (pc := 8) C dJ6_numberOfLeadingZeros_0f7a4_8 cb_32 ?_
      refine g_goto (pc := 10) (tgt := 14) C dJ6_numberOfLeadingZeros_0f7a4_10 rfl ?_
      exact g_iretp (pc := 14) C hQ dJ6_numberOfLeadingZeros_0f7a4_14 hf
theorem dJ13_numberOfLeadingZeros_95d88_0 : decode cJ13_numberOfLeadingZeros_95d88 0 = .ok (.lload_n 0, 1) := by decide +kernel
theorem dJ13_numberOfLeadingZeros_95d88_1 : decode cJ13_numberOfLeadingZeros_95d88 1 = .ok (.bipush 32, 2) := by decide +kernel
theorem dJ13_numberOfLeadingZeros_95d88_3 : decode cJ13_numberOfLeadingZeros_95d88 3 = .ok (.lushr, 1) := by decide +kernel
theorem dJ13_numberOfLeadingZeros_95d88_4 : decode cJ13_numberOfLeadingZeros_95d88 4 = .ok (.l2i, 1) := by decide +kernel
theorem dJ13_numberOfLeadingZeros_95d88_5 : decode cJ13_numberOfLeadingZeros_95d88 5 = .ok (.istore_n 2, 1) := by decide +kernel
theorem dJ13_numberOfLeadingZeros_95d88_6 : decode cJ13_numberOfLeadingZeros_95d88 6 = .ok (.iload_n 2, 1) := by decide +kernel
theorem dJ13_numberOfLeadingZeros_95d88_7 : decode cJ13_numberOfLeadingZeros_95d88 7 = .ok (.ifCond .ne 14, 3) := by decide +kernel
theorem dJ13_numberOfLeadingZeros_95d88_10 : decode cJ13_numberOfLeadingZeros_95d88 10 = .ok (.bipush 32, 2) := by decide +kernel
theorem dJ13_numberOfLeadingZeros_95d88_12 : decode cJ13_numberOfLeadingZeros_95d88 12 = .ok (.lload_n 0, 1) := by decide +kernel
theorem dJ13_numberOfLeadingZeros_95d88_13 : decode cJ13_numberOfLeadingZeros_95d88 13 = .ok (.l2i, 1) := by decide +kernel
theorem dJ13_numberOfLeadingZeros_95d88_14 : decode cJ13_numberOfLeadingZeros_95d88 14 = .ok (.invokestatic 308, 3) := by decide +kernel
theorem dJ13_numberOfLeadingZeros_95d88_17 : decode cJ13_numberOfLeadingZeros_95d88 17 = .ok (.iadd, 1) := by decide +kernel
theorem dJ13_numberOfLeadingZeros_95d88_18 : decode cJ13_numberOfLeadingZeros_95d88 18 = .ok (.goto 7, 3) := by decide +kernel
theorem dJ13_numberOfLeadingZeros_95d88_21 : decode cJ13_numberOfLeadingZeros_95d88 21 = .ok (.iload_n 2, 1) := by decide +kernel
theorem dJ13_numberOfLeadingZeros_95d88_22 : decode cJ13_numberOfLeadingZeros_95d88 22 = .ok (.invokestatic 308, 3) := by decide +kernel
theorem dJ13_numberOfLeadingZeros_95d88_25 : decode cJ13_numberOfLeadingZeros_95d88 25 = .ok (.ireturn, 1) := by decide +kernel
def fJ13_numberOfLeadingZeros_95d88 (p1 : Int64) : Option Int32 := (if (Int64.toInt32 (jlushr p1 (32 : Int32))) = 0 then ((fJ6_numberOfLeadingZeros_0f7a4 (Int64.toInt32 p1)).bind fun r14 => some ((32 : Int32) + r14)) else ((fJ6_numberOfLeadingZeros_0f7a4 (Int64.toInt32 (jlushr p1 (32 : Int32)))).bind fun r22 => some r22))
set_option maxRecDepth 100000 in
set_option maxHeartbeats 4000000 in
theorem kJ13_numberOfLeadingZeros_95d88 (l : Launch) (p1 : Int64) (out : Int32) (hf : fJ13_numberOfLeadingZeros_95d88 p1 = some out) : Sq l yJ13_numberOfLeadingZeros_95d88 cJ13_numberOfLeadingZeros_95d88 3 (some .int) 1 [.long p1] (some (.int out)) := by
  refine Sq.of [(0, .long p1)] rfl (by decide +kernel) (Nat.le_of_ble_eq_true rfl) ?_
  intro κ hκ C hQ
  subst hκ
  replace C : Cf κ cJ13_numberOfLeadingZeros_95d88 3 RJ13 (some .int) 1 := C
  refine g_lload_n (pc := 0) (i := 0) (j := 0) C dJ13_numberOfLeadingZeros_95d88_0 rfl rfl ?_
  refine g_bipush (pc := 1) C dJ13_numberOfLeadingZeros_95d88_1 cb_32 ?_
  refine g_lushr (pc := 3) C dJ13_numberOfLeadingZeros_95d88_3 ?_
  refine g_l2i (pc := 4) C dJ13_numberOfLeadingZeros_95d88_4 ?_
  refine g_istore_n (pc := 5) (i := 2) (L' := [(2, .int (Int64.toInt32 (jlushr p1 (32 : Int32)))), (0, .long p1)]) C dJ13_numberOfLeadingZeros_95d88_5 rfl (by decide) rfl ?_
  refine g_iload_n (pc := 6) (i := 2) (j := 0) C dJ13_numberOfLeadingZeros_95d88_6 rfl rfl ?_
  refine g_if_ne (pc := 7) (tgt := 21) C dJ13_numberOfLeadingZeros_95d88_7 rfl hf (fun _ hf => ?_) (fun _ hf => ?_)
  · refine g_iload_n (pc := 21) (i := 2) (j := 0) C dJ13_numberOfLeadingZeros_95d88_21 rfl rfl ?_
    refine g_cpi (pc := 22) (st := []) C lkJ13_308 (As := [.int (Int64.toInt32 (jlushr p1 (32 : Int32)))]) rfl (fun out h => kJ6_numberOfLeadingZeros_0f7a4 (kl κ) (Int64.toInt32 (jlushr p1 (32 : Int32))) out h) (by decide) rfl (Nat.le_of_ble_eq_true rfl) dJ13_numberOfLeadingZeros_95d88_22 hf (fun r22 _ hf => ?_)
    exact g_iretp (pc := 25) C hQ dJ13_numberOfLeadingZeros_95d88_25 hf
  · refine g_bipush (pc := 10) C dJ13_numberOfLeadingZeros_95d88_10 cb_32 ?_
    refine g_lload_n (pc := 12) (i := 0) (j := 1) C dJ13_numberOfLeadingZeros_95d88_12 rfl rfl ?_
    refine g_l2i (pc := 13) C dJ13_numberOfLeadingZeros_95d88_13 ?_
    refine g_cpi (pc := 14) (st := [.int (32 : Int32)]) C lkJ13_308 (As := [.int (Int64.toInt32 p1)]) rfl (fun out h => kJ6_numberOfLeadingZeros_0f7a4 (kl κ) (Int64.toInt32 p1) out h) (by decide) rfl (Nat.le_of_ble_eq_true rfl) dJ13_numberOfLeadingZeros_95d88_14 hf (fun r14 _ hf => ?_)
    refine g_iadd (pc := 17) C dJ13_numberOfLeadingZeros_95d88_17 ?_
    refine g_goto (pc := 18) (tgt := 25) C dJ13_numberOfLeadingZeros_95d88_18 rfl ?_
    exact g_iretp (pc := 25) C hQ dJ13_numberOfLeadingZeros_95d88_25 hf
theorem dX0_before_0 : decode cX0_before 0 = .ok (.iload_n 0, 1) := by decide +kernel
theorem dX0_before_1 : decode cX0_before 1 = .ok (.ifCond .le 9, 3) := by decide +kernel
theorem dX0_before_4 : decode cX0_before 4 = .ok (.iload_n 0, 1) := by decide +kernel
theorem dX0_before_5 : decode cX0_before 5 = .ok (.iconst 1, 1) := by decide +kernel
theorem dX0_before_6 : decode cX0_before 6 = .ok (.isub, 1) := by decide +kernel
theorem dX0_before_7 : decode cX0_before 7 = .ok (.goto 5, 3) := by decide +kernel
theorem dX0_before_10 : decode cX0_before 10 = .ok (.bipush 13, 2) := by decide +kernel
theorem dX0_before_12 : decode cX0_before 12 = .ok (.ireturn, 1) := by decide +kernel
def fX0_before (p1 : Int32) : Option Int32 := (if p1 ≤ 0 then some (13 : Int32) else some (p1 - (1 : Int32)))
set_option maxRecDepth 100000 in
set_option maxHeartbeats 4000000 in
theorem kX0_before (l : Launch) (p1 : Int32) (out : Int32) (hf : fX0_before p1 = some out) : Sq l yX0_before cX0_before 1 (some .int) 0 [.int p1] (some (.int out)) := by
  refine Sq.of [(0, .int p1)] rfl (by decide +kernel) (Nat.le_of_ble_eq_true rfl) ?_
  intro κ hκ C hQ
  subst hκ
  replace C : Cf κ cX0_before 1 RX0 (some .int) 0 := C
  refine g_iload_n (pc := 0) (i := 0) (j := 0) C dX0_before_0 rfl rfl ?_
  refine g_if_le (pc := 1) (tgt := 10) C dX0_before_1 rfl hf (fun _ hf => ?_) (fun _ hf => ?_)
  · refine g_bipush (pc := 10) C dX0_before_10 cb_13 ?_
    exact g_iretp (pc := 12) C hQ dX0_before_12 hf
  · refine g_iload_n (pc := 4) (i := 0) (j := 0) C dX0_before_4 rfl rfl ?_
    refine g_iconst (pc := 5) C dX0_before_5 ci_1 ?_
    refine g_isub (pc := 6) C dX0_before_6 ?_
    refine g_goto (pc := 7) (tgt := 12) C dX0_before_7 rfl ?_
    exact g_iretp (pc := 12) C hQ dX0_before_12 hf
theorem dX2_signedDouble_0 : decode cX2_signedDouble 0 = .ok (.iload_n 0, 1) := by decide +kernel
theorem dX2_signedDouble_1 : decode cX2_signedDouble 1 = .ok (.ifCond .eq 11, 3) := by decide +kernel
theorem dX2_signedDouble_4 : decode cX2_signedDouble 4 = .ok (.lload_n 1, 1) := by decide +kernel
theorem dX2_signedDouble_5 : decode cX2_signedDouble 5 = .ok (.ldc2_w 72, 3) := by decide +kernel
theorem dX2_signedDouble_8 : decode cX2_signedDouble 8 = .ok (.lor, 1) := by decide +kernel
theorem dX2_signedDouble_9 : decode cX2_signedDouble 9 = .ok (.goto 4, 3) := by decide +kernel
theorem dX2_signedDouble_12 : decode cX2_signedDouble 12 = .ok (.lload_n 1, 1) := by decide +kernel
theorem dX2_signedDouble_13 : decode cX2_signedDouble 13 = .ok (.lreturn, 1) := by decide +kernel
def fX2_signedDouble (p1 : Int32) (p2 : Int64) : Option Int64 := (if p1 = 0 then some p2 else some (p2 ||| (-9223372036854775808 : Int64)))
set_option maxRecDepth 100000 in
set_option maxHeartbeats 4000000 in
theorem kX2_signedDouble (l : Launch) (p1 : Int32) (p2 : Int64) (out : Int64) (hf : fX2_signedDouble p1 p2 = some out) : Sq l yX2_signedDouble cX2_signedDouble 3 (some .long) 0 [.int p1, .long p2] (some (.long out)) := by
  refine Sq.of [(0, .int p1), (1, .long p2)] rfl (by decide +kernel) (Nat.le_of_ble_eq_true rfl) ?_
  intro κ hκ C hQ
  subst hκ
  replace C : Cf κ cX2_signedDouble 3 RX2 (some .long) 0 := C
  refine g_iload_n (pc := 0) (i := 0) (j := 0) C dX2_signedDouble_0 rfl rfl ?_
  refine g_if_eq (pc := 1) (tgt := 12) C dX2_signedDouble_1 rfl hf (fun _ hf => ?_) (fun _ hf => ?_)
  · refine g_lload_n (pc := 12) (i := 1) (j := 1) C dX2_signedDouble_12 rfl rfl ?_
    exact g_lretp (pc := 13) C hQ dX2_signedDouble_13 hf
  · refine g_lload_n (pc := 4) (i := 1) (j := 1) C dX2_signedDouble_4 rfl rfl ?_
    refine g_ldc2 (pc := 5) C cnX2_72 dX2_signedDouble_5 ?_
    refine g_lor (pc := 8) C dX2_signedDouble_8 ?_
    refine g_goto (pc := 9) (tgt := 13) C dX2_signedDouble_9 rfl ?_
    exact g_lretp (pc := 13) C hQ dX2_signedDouble_13 hf
theorem dX2_doubleOfFloat_0 : decode cX2_doubleOfFloat 0 = .ok (.lload_n 0, 1) := by decide +kernel
theorem dX2_doubleOfFloat_1 : decode cX2_doubleOfFloat 1 = .ok (.lconst 0, 1) := by decide +kernel
theorem dX2_doubleOfFloat_2 : decode cX2_doubleOfFloat 2 = .ok (.lcmp, 1) := by decide +kernel
theorem dX2_doubleOfFloat_3 : decode cX2_doubleOfFloat 3 = .ok (.ifCond .ne 5, 3) := by decide +kernel
theorem dX2_doubleOfFloat_6 : decode cX2_doubleOfFloat 6 = .ok (.lconst 0, 1) := by decide +kernel
theorem dX2_doubleOfFloat_7 : decode cX2_doubleOfFloat 7 = .ok (.lreturn, 1) := by decide +kernel
theorem dX2_doubleOfFloat_8 : decode cX2_doubleOfFloat 8 = .ok (.lload_n 0, 1) := by decide +kernel
theorem dX2_doubleOfFloat_9 : decode cX2_doubleOfFloat 9 = .ok (.bipush 23, 2) := by decide +kernel
theorem dX2_doubleOfFloat_11 : decode cX2_doubleOfFloat 11 = .ok (.lshr, 1) := by decide +kernel
theorem dX2_doubleOfFloat_12 : decode cX2_doubleOfFloat 12 = .ok (.ldc2_w 112, 3) := by decide +kernel
theorem dX2_doubleOfFloat_15 : decode cX2_doubleOfFloat 15 = .ok (.land, 1) := by decide +kernel
theorem dX2_doubleOfFloat_16 : decode cX2_doubleOfFloat 16 = .ok (.ldc2_w 114, 3) := by decide +kernel
theorem dX2_doubleOfFloat_19 : decode cX2_doubleOfFloat 19 = .ok (.ladd, 1) := by decide +kernel
theorem dX2_doubleOfFloat_20 : decode cX2_doubleOfFloat 20 = .ok (.lstore_n 2, 1) := by decide +kernel
theorem dX2_doubleOfFloat_21 : decode cX2_doubleOfFloat 21 = .ok (.lload_n 0, 1) := by decide +kernel
theorem dX2_doubleOfFloat_22 : decode cX2_doubleOfFloat 22 = .ok (.ldc2_w 116, 3) := by decide +kernel
theorem dX2_doubleOfFloat_25 : decode cX2_doubleOfFloat 25 = .ok (.land, 1) := by decide +kernel
theorem dX2_doubleOfFloat_26 : decode cX2_doubleOfFloat 26 = .ok (.lstore 4, 2) := by decide +kernel
theorem dX2_doubleOfFloat_28 : decode cX2_doubleOfFloat 28 = .ok (.lload_n 0, 1) := by decide +kernel
theorem dX2_doubleOfFloat_29 : decode cX2_doubleOfFloat 29 = .ok (.lconst 0, 1) := by decide +kernel
theorem dX2_doubleOfFloat_30 : decode cX2_doubleOfFloat 30 = .ok (.lcmp, 1) := by decide +kernel
theorem dX2_doubleOfFloat_31 : decode cX2_doubleOfFloat 31 = .ok (.ifCond .ge 7, 3) := by decide +kernel
theorem dX2_doubleOfFloat_34 : decode cX2_doubleOfFloat 34 = .ok (.iconst 1, 1) := by decide +kernel
theorem dX2_doubleOfFloat_35 : decode cX2_doubleOfFloat 35 = .ok (.goto 4, 3) := by decide +kernel
theorem dX2_doubleOfFloat_38 : decode cX2_doubleOfFloat 38 = .ok (.iconst 0, 1) := by decide +kernel
theorem dX2_doubleOfFloat_39 : decode cX2_doubleOfFloat 39 = .ok (.lload_n 2, 1) := by decide +kernel
theorem dX2_doubleOfFloat_40 : decode cX2_doubleOfFloat 40 = .ok (.bipush 52, 2) := by decide +kernel
theorem dX2_doubleOfFloat_42 : decode cX2_doubleOfFloat 42 = .ok (.lshl, 1) := by decide +kernel
theorem dX2_doubleOfFloat_43 : decode cX2_doubleOfFloat 43 = .ok (.lload 4, 2) := by decide +kernel
theorem dX2_doubleOfFloat_45 : decode cX2_doubleOfFloat 45 = .ok (.bipush 29, 2) := by decide +kernel
theorem dX2_doubleOfFloat_47 : decode cX2_doubleOfFloat 47 = .ok (.lshl, 1) := by decide +kernel
theorem dX2_doubleOfFloat_48 : decode cX2_doubleOfFloat 48 = .ok (.lor, 1) := by decide +kernel
theorem dX2_doubleOfFloat_49 : decode cX2_doubleOfFloat 49 = .ok (.invokestatic 101, 3) := by decide +kernel
theorem dX2_doubleOfFloat_52 : decode cX2_doubleOfFloat 52 = .ok (.lreturn, 1) := by decide +kernel
def fX2_doubleOfFloat_b39 (v2 : Int64) (v4 : Int64) (s0 : Int32) : Option Int64 := ((fX2_signedDouble s0 ((jlshl v2 (52 : Int32)) ||| (jlshl v4 (29 : Int32)))).bind fun r49 => some r49)
def fX2_doubleOfFloat (p1 : Int64) : Option Int64 := (if p1 = (0 : Int64) then some (0 : Int64) else (if (0 : Int64) ≤ p1 then fX2_doubleOfFloat_b39 (((jlshr p1 (23 : Int32)) &&& (255 : Int64)) + (896 : Int64)) (p1 &&& (8388607 : Int64)) (0 : Int32) else fX2_doubleOfFloat_b39 (((jlshr p1 (23 : Int32)) &&& (255 : Int64)) + (896 : Int64)) (p1 &&& (8388607 : Int64)) (1 : Int32)))
set_option maxRecDepth 100000 in
set_option maxHeartbeats 4000000 in
theorem kX2_doubleOfFloat (l : Launch) (p1 : Int64) (out : Int64) (hf : fX2_doubleOfFloat p1 = some out) : Sq l yX2_doubleOfFloat cX2_doubleOfFloat 6 (some .long) 1 [.long p1] (some (.long out)) := by
  refine Sq.of [(0, .long p1)] rfl (by decide +kernel) (Nat.le_of_ble_eq_true rfl) ?_
  intro κ hκ C hQ
  subst hκ
  replace C : Cf κ cX2_doubleOfFloat 6 RX2 (some .long) 1 := C
  have b39 : ∀ (v2 : Int64) (v4 : Int64) (s0 : Int32) , fX2_doubleOfFloat_b39 v2 v4 s0 = some out → G κ (Vp κ) 6 39 [(2, .long v2), (4, .long v4)] [.int s0] := by
    intro v2 v4 s0 hf
    refine g_lload_n (pc := 39) (i := 2) (j := 0) C dX2_doubleOfFloat_39 rfl rfl ?_
    refine g_bipush (pc := 40) C dX2_doubleOfFloat_40 cb_52 ?_
    refine g_lshl (pc := 42) C dX2_doubleOfFloat_42 ?_
    refine g_lload (pc := 43) (i := 4) (j := 1) C dX2_doubleOfFloat_43 rfl ?_
    refine g_bipush (pc := 45) C dX2_doubleOfFloat_45 cb_29 ?_
    refine g_lshl (pc := 47) C dX2_doubleOfFloat_47 ?_
    refine g_lor (pc := 48) C dX2_doubleOfFloat_48 ?_
    refine g_cpl (pc := 49) (st := []) C lkX2_101 (As := [.int s0, .long ((jlshl v2 (52 : Int32)) ||| (jlshl v4 (29 : Int32)))]) rfl (fun out h => kX2_signedDouble (kl κ) s0 ((jlshl v2 (52 : Int32)) ||| (jlshl v4 (29 : Int32))) out h) (by decide) rfl (Nat.le_of_ble_eq_true rfl) dX2_doubleOfFloat_49 hf (fun r49 _ hf => ?_)
    exact g_lretp (pc := 52) C hQ dX2_doubleOfFloat_52 hf
  refine g_lload_n (pc := 0) (i := 0) (j := 0) C dX2_doubleOfFloat_0 rfl rfl ?_
  refine g_lconst (pc := 1) C dX2_doubleOfFloat_1 cl_0 ?_
  refine g_lcmp_ne (pc := 2) (tgt := 8) C dX2_doubleOfFloat_2 dX2_doubleOfFloat_3 rfl hf (fun _ hf => ?_) (fun _ hf => ?_)
  · refine g_lload_n (pc := 8) (i := 0) (j := 0) C dX2_doubleOfFloat_8 rfl rfl ?_
    refine g_bipush (pc := 9) C dX2_doubleOfFloat_9 cb_23 ?_
    refine g_lshr (pc := 11) C dX2_doubleOfFloat_11 ?_
    refine g_ldc2 (pc := 12) C cnX2_112 dX2_doubleOfFloat_12 ?_
    refine g_land (pc := 15) C dX2_doubleOfFloat_15 ?_
    refine g_ldc2 (pc := 16) C cnX2_114 dX2_doubleOfFloat_16 ?_
    refine g_ladd (pc := 19) C dX2_doubleOfFloat_19 ?_
    refine g_lstore_n (pc := 20) (i := 2) (L' := [(2, .long (((jlshr p1 (23 : Int32)) &&& (255 : Int64)) + (896 : Int64))), (0, .long p1)]) C dX2_doubleOfFloat_20 rfl (by decide) rfl ?_
    refine g_lload_n (pc := 21) (i := 0) (j := 1) C dX2_doubleOfFloat_21 rfl rfl ?_
    refine g_ldc2 (pc := 22) C cnX2_116 dX2_doubleOfFloat_22 ?_
    refine g_land (pc := 25) C dX2_doubleOfFloat_25 ?_
    refine g_lstore (pc := 26) (i := 4) (L' := [(4, .long (p1 &&& (8388607 : Int64))), (2, .long (((jlshr p1 (23 : Int32)) &&& (255 : Int64)) + (896 : Int64))), (0, .long p1)]) C dX2_doubleOfFloat_26 (by decide) rfl ?_
    refine g_lload_n (pc := 28) (i := 0) (j := 2) C dX2_doubleOfFloat_28 rfl rfl ?_
    refine g_lconst (pc := 29) C dX2_doubleOfFloat_29 cl_0 ?_
    refine g_lcmp_ge (pc := 30) (tgt := 38) C dX2_doubleOfFloat_30 dX2_doubleOfFloat_31 rfl hf (fun _ hf => ?_) (fun _ hf => ?_)
    · refine g_iconst (pc := 38) C dX2_doubleOfFloat_38 ci_0 ?_
      exact g_at [1, 0] rfl (b39 (((jlshr p1 (23 : Int32)) &&& (255 : Int64)) + (896 : Int64)) (p1 &&& (8388607 : Int64)) (0 : Int32) hf)
    · refine g_iconst (pc := 34) C dX2_doubleOfFloat_34 ci_1 ?_
      refine g_goto (pc := 35) (tgt := 39) C dX2_doubleOfFloat_35 rfl ?_
      exact g_at [1, 0] rfl (b39 (((jlshr p1 (23 : Int32)) &&& (255 : Int64)) + (896 : Int64)) (p1 &&& (8388607 : Int64)) (1 : Int32) hf)
  · refine g_lconst (pc := 6) C dX2_doubleOfFloat_6 cl_0 ?_
    exact g_lretp (pc := 7) C hQ dX2_doubleOfFloat_7 hf
theorem dX2_asDouble_0 : decode cX2_asDouble 0 = .ok (.iload_n 2, 1) := by decide +kernel
theorem dX2_asDouble_1 : decode cX2_asDouble 1 = .ok (.bipush 6, 2) := by decide +kernel
theorem dX2_asDouble_3 : decode cX2_asDouble 3 = .ok (.if_icmp .ne 10, 3) := by decide +kernel
theorem dX2_asDouble_6 : decode cX2_asDouble 6 = .ok (.lload_n 0, 1) := by decide +kernel
theorem dX2_asDouble_7 : decode cX2_asDouble 7 = .ok (.invokestatic 34, 3) := by decide +kernel
theorem dX2_asDouble_10 : decode cX2_asDouble 10 = .ok (.goto 4, 3) := by decide +kernel
theorem dX2_asDouble_13 : decode cX2_asDouble 13 = .ok (.lload_n 0, 1) := by decide +kernel
theorem dX2_asDouble_14 : decode cX2_asDouble 14 = .ok (.lreturn, 1) := by decide +kernel
def fX2_asDouble (p1 : Int64) (p2 : Int32) : Option Int64 := (if p2 = (6 : Int32) then ((fX2_doubleOfFloat p1).bind fun r7 => some r7) else some p1)
set_option maxRecDepth 100000 in
set_option maxHeartbeats 4000000 in
theorem kX2_asDouble (l : Launch) (p1 : Int64) (p2 : Int32) (out : Int64) (hf : fX2_asDouble p1 p2 = some out) : Sq l yX2_asDouble cX2_asDouble 3 (some .long) 2 [.long p1, .int p2] (some (.long out)) := by
  refine Sq.of [(0, .long p1), (2, .int p2)] rfl (by decide +kernel) (Nat.le_of_ble_eq_true rfl) ?_
  intro κ hκ C hQ
  subst hκ
  replace C : Cf κ cX2_asDouble 3 RX2 (some .long) 2 := C
  refine g_iload_n (pc := 0) (i := 2) (j := 1) C dX2_asDouble_0 rfl rfl ?_
  refine g_bipush (pc := 1) C dX2_asDouble_1 cb_6 ?_
  refine g_icmp_ne (pc := 3) (tgt := 13) C dX2_asDouble_3 rfl hf (fun _ hf => ?_) (fun _ hf => ?_)
  · refine g_lload_n (pc := 13) (i := 0) (j := 0) C dX2_asDouble_13 rfl rfl ?_
    exact g_lretp (pc := 14) C hQ dX2_asDouble_14 hf
  · refine g_lload_n (pc := 6) (i := 0) (j := 0) C dX2_asDouble_6 rfl rfl ?_
    refine g_cpl (pc := 7) (st := []) C lkX2_34 (As := [.long p1]) rfl (fun out h => kX2_doubleOfFloat (kl κ) p1 out h) (by decide) rfl (Nat.le_of_ble_eq_true rfl) dX2_asDouble_7 hf (fun r7 _ hf => ?_)
    refine g_goto (pc := 10) (tgt := 14) C dX2_asDouble_10 rfl ?_
    exact g_lretp (pc := 14) C hQ dX2_asDouble_14 hf
theorem dX2_widens_0 : decode cX2_widens 0 = .ok (.iload_n 0, 1) := by decide +kernel
theorem dX2_widens_1 : decode cX2_widens 1 = .ok (.iload_n 1, 1) := by decide +kernel
theorem dX2_widens_2 : decode cX2_widens 2 = .ok (.if_icmp .ne 5, 3) := by decide +kernel
theorem dX2_widens_5 : decode cX2_widens 5 = .ok (.iconst 1, 1) := by decide +kernel
theorem dX2_widens_6 : decode cX2_widens 6 = .ok (.ireturn, 1) := by decide +kernel
theorem dX2_widens_7 : decode cX2_widens 7 = .ok (.iload_n 0, 1) := by decide +kernel
theorem dX2_widens_8 : decode cX2_widens 8 = .ok (.ifCond .eq 27, 3) := by decide +kernel
theorem dX2_widens_11 : decode cX2_widens 11 = .ok (.iload_n 0, 1) := by decide +kernel
theorem dX2_widens_12 : decode cX2_widens 12 = .ok (.iload_n 1, 1) := by decide +kernel
theorem dX2_widens_13 : decode cX2_widens 13 = .ok (.if_icmp .ge 22, 3) := by decide +kernel
theorem dX2_widens_16 : decode cX2_widens 16 = .ok (.iload_n 1, 1) := by decide +kernel
theorem dX2_widens_17 : decode cX2_widens 17 = .ok (.iconst 2, 1) := by decide +kernel
theorem dX2_widens_18 : decode cX2_widens 18 = .ok (.if_icmp .eq 17, 3) := by decide +kernel
theorem dX2_widens_21 : decode cX2_widens 21 = .ok (.iload_n 0, 1) := by decide +kernel
theorem dX2_widens_22 : decode cX2_widens 22 = .ok (.iconst 2, 1) := by decide +kernel
theorem dX2_widens_23 : decode cX2_widens 23 = .ok (.if_icmp .ne 8, 3) := by decide +kernel
theorem dX2_widens_26 : decode cX2_widens 26 = .ok (.iload_n 1, 1) := by decide +kernel
theorem dX2_widens_27 : decode cX2_widens 27 = .ok (.iconst 3, 1) := by decide +kernel
theorem dX2_widens_28 : decode cX2_widens 28 = .ok (.if_icmp .eq 7, 3) := by decide +kernel
theorem dX2_widens_31 : decode cX2_widens 31 = .ok (.iconst 1, 1) := by decide +kernel
theorem dX2_widens_32 : decode cX2_widens 32 = .ok (.goto 4, 3) := by decide +kernel
theorem dX2_widens_35 : decode cX2_widens 35 = .ok (.iconst 0, 1) := by decide +kernel
theorem dX2_widens_36 : decode cX2_widens 36 = .ok (.ireturn, 1) := by decide +kernel
def fX2_widens (p1 : Int32) (p2 : Int32) : Option Int32 := (if p1 = p2 then some (1 : Int32) else (if p1 = 0 then some (0 : Int32) else (if p2 ≤ p1 then some (0 : Int32) else (if p2 = (2 : Int32) then some (0 : Int32) else (if p1 = (2 : Int32) then (if p2 = (3 : Int32) then some (0 : Int32) else some (1 : Int32)) else some (1 : Int32))))))
set_option maxRecDepth 100000 in
set_option maxHeartbeats 4000000 in
theorem kX2_widens (l : Launch) (p1 : Int32) (p2 : Int32) (out : Int32) (hf : fX2_widens p1 p2 = some out) : Sq l yX2_widens cX2_widens 2 (some .boolean) 0 [.int p1, .int p2] (some (.int out)) := by
  refine Sq.of [(0, .int p1), (1, .int p2)] rfl (by decide +kernel) (Nat.le_of_ble_eq_true rfl) ?_
  intro κ hκ C hQ
  subst hκ
  replace C : Cf κ cX2_widens 2 RX2 (some .boolean) 0 := C
  refine g_iload_n (pc := 0) (i := 0) (j := 0) C dX2_widens_0 rfl rfl ?_
  refine g_iload_n (pc := 1) (i := 1) (j := 1) C dX2_widens_1 rfl rfl ?_
  refine g_icmp_ne (pc := 2) (tgt := 7) C dX2_widens_2 rfl hf (fun _ hf => ?_) (fun _ hf => ?_)
  · refine g_iload_n (pc := 7) (i := 0) (j := 0) C dX2_widens_7 rfl rfl ?_
    refine g_if_eq (pc := 8) (tgt := 35) C dX2_widens_8 rfl hf (fun _ hf => ?_) (fun _ hf => ?_)
    · refine g_iconst (pc := 35) C dX2_widens_35 ci_0 ?_
      exact g_zret1p (pc := 36) C rfl hQ dX2_widens_36 hf
    · refine g_iload_n (pc := 11) (i := 0) (j := 0) C dX2_widens_11 rfl rfl ?_
      refine g_iload_n (pc := 12) (i := 1) (j := 1) C dX2_widens_12 rfl rfl ?_
      refine g_icmp_ge (pc := 13) (tgt := 35) C dX2_widens_13 rfl hf (fun _ hf => ?_) (fun _ hf => ?_)
      · refine g_iconst (pc := 35) C dX2_widens_35 ci_0 ?_
        exact g_zret1p (pc := 36) C rfl hQ dX2_widens_36 hf
      · refine g_iload_n (pc := 16) (i := 1) (j := 1) C dX2_widens_16 rfl rfl ?_
        refine g_iconst (pc := 17) C dX2_widens_17 ci_2 ?_
        refine g_icmp_eq (pc := 18) (tgt := 35) C dX2_widens_18 rfl hf (fun _ hf => ?_) (fun _ hf => ?_)
        · refine g_iconst (pc := 35) C dX2_widens_35 ci_0 ?_
          exact g_zret1p (pc := 36) C rfl hQ dX2_widens_36 hf
        · refine g_iload_n (pc := 21) (i := 0) (j := 0) C dX2_widens_21 rfl rfl ?_
          refine g_iconst (pc := 22) C dX2_widens_22 ci_2 ?_
          refine g_icmp_ne (pc := 23) (tgt := 31) C dX2_widens_23 rfl hf (fun _ hf => ?_) (fun _ hf => ?_)
          · refine g_iconst (pc := 31) C dX2_widens_31 ci_1 ?_
            refine g_goto (pc := 32) (tgt := 36) C dX2_widens_32 rfl ?_
            exact g_zret1p (pc := 36) C rfl hQ dX2_widens_36 hf
          · refine g_iload_n (pc := 26) (i := 1) (j := 1) C dX2_widens_26 rfl rfl ?_
            refine g_iconst (pc := 27) C dX2_widens_27 ci_3 ?_
            refine g_icmp_eq (pc := 28) (tgt := 35) C dX2_widens_28 rfl hf (fun _ hf => ?_) (fun _ hf => ?_)
            · refine g_iconst (pc := 35) C dX2_widens_35 ci_0 ?_
              exact g_zret1p (pc := 36) C rfl hQ dX2_widens_36 hf
            · refine g_iconst (pc := 31) C dX2_widens_31 ci_1 ?_
              refine g_goto (pc := 32) (tgt := 36) C dX2_widens_32 rfl ?_
              exact g_zret1p (pc := 36) C rfl hQ dX2_widens_36 hf
  · refine g_iconst (pc := 5) C dX2_widens_5 ci_1 ?_
    exact g_zret1p (pc := 6) C rfl hQ dX2_widens_6 hf
theorem dX2_countChains_0 : decode cX2_countChains 0 = .ok (.iload_n 0, 1) := by decide +kernel
theorem dX2_countChains_1 : decode cX2_countChains 1 = .ok (.iload_n 1, 1) := by decide +kernel
theorem dX2_countChains_2 : decode cX2_countChains 2 = .ok (.if_icmp .ne 5, 3) := by decide +kernel
theorem dX2_countChains_5 : decode cX2_countChains 5 = .ok (.iconst 1, 1) := by decide +kernel
theorem dX2_countChains_6 : decode cX2_countChains 6 = .ok (.ireturn, 1) := by decide +kernel
theorem dX2_countChains_7 : decode cX2_countChains 7 = .ok (.iconst 0, 1) := by decide +kernel
theorem dX2_countChains_8 : decode cX2_countChains 8 = .ok (.istore_n 3, 1) := by decide +kernel
theorem dX2_countChains_9 : decode cX2_countChains 9 = .ok (.iload_n 0, 1) := by decide +kernel
theorem dX2_countChains_10 : decode cX2_countChains 10 = .ok (.iconst 1, 1) := by decide +kernel
theorem dX2_countChains_11 : decode cX2_countChains 11 = .ok (.iadd, 1) := by decide +kernel
theorem dX2_countChains_12 : decode cX2_countChains 12 = .ok (.istore 4, 2) := by decide +kernel
theorem dX2_countChains_14 : decode cX2_countChains 14 = .ok (.iload 4, 2) := by decide +kernel
theorem dX2_countChains_16 : decode cX2_countChains 16 = .ok (.iload_n 1, 1) := by decide +kernel
theorem dX2_countChains_17 : decode cX2_countChains 17 = .ok (.if_icmp .gt 36, 3) := by decide +kernel
theorem dX2_countChains_20 : decode cX2_countChains 20 = .ok (.iload_n 2, 1) := by decide +kernel
theorem dX2_countChains_21 : decode cX2_countChains 21 = .ok (.bipush 8, 2) := by decide +kernel
theorem dX2_countChains_23 : decode cX2_countChains 23 = .ok (.if_icmp .ge 30, 3) := by decide +kernel
theorem dX2_countChains_26 : decode cX2_countChains 26 = .ok (.iload_n 0, 1) := by decide +kernel
theorem dX2_countChains_27 : decode cX2_countChains 27 = .ok (.iload 4, 2) := by decide +kernel
theorem dX2_countChains_29 : decode cX2_countChains 29 = .ok (.invokestatic 11, 3) := by decide +kernel
theorem dX2_countChains_32 : decode cX2_countChains 32 = .ok (.ifCond .eq 15, 3) := by decide +kernel
theorem dX2_countChains_35 : decode cX2_countChains 35 = .ok (.iload_n 3, 1) := by decide +kernel
theorem dX2_countChains_36 : decode cX2_countChains 36 = .ok (.iload 4, 2) := by decide +kernel
theorem dX2_countChains_38 : decode cX2_countChains 38 = .ok (.iload_n 1, 1) := by decide +kernel
theorem dX2_countChains_39 : decode cX2_countChains 39 = .ok (.iload_n 2, 1) := by decide +kernel
theorem dX2_countChains_40 : decode cX2_countChains 40 = .ok (.iconst 1, 1) := by decide +kernel
theorem dX2_countChains_41 : decode cX2_countChains 41 = .ok (.iadd, 1) := by decide +kernel
theorem dX2_countChains_42 : decode cX2_countChains 42 = .ok (.invokestatic 22, 3) := by decide +kernel
theorem dX2_countChains_45 : decode cX2_countChains 45 = .ok (.iadd, 1) := by decide +kernel
theorem dX2_countChains_46 : decode cX2_countChains 46 = .ok (.istore_n 3, 1) := by decide +kernel
theorem dX2_countChains_47 : decode cX2_countChains 47 = .ok (.iinc 4 1, 3) := by decide +kernel
theorem dX2_countChains_50 : decode cX2_countChains 50 = .ok (.goto (-36), 3) := by decide +kernel
theorem dX2_countChains_53 : decode cX2_countChains 53 = .ok (.iload_n 3, 1) := by decide +kernel
theorem dX2_countChains_54 : decode cX2_countChains 54 = .ok (.ireturn, 1) := by decide +kernel
def fX2_countChains_b47 (rec : Int32 → Int32 → Int32 → Option Int32) (k14 : Int32 → Int32 → Int32 → Int32 → Int32 → Option Int32) (v0 : Int32) (v1 : Int32) (v2 : Int32) (v3 : Int32) (v4 : Int32) : Option Int32 := k14 v0 v1 v2 v3 (v4 + (1 : Int32))
def fX2_countChains_b14 (rec : Int32 → Int32 → Int32 → Option Int32) : Nat → Int32 → Int32 → Int32 → Int32 → Int32 → Option Int32
  | 0, _, _, _, _, _ => none
  | n + 1, v0, v1, v2, v3, v4 => (if v1 < v4 then some v3 else (if (8 : Int32) ≤ v2 then some v3 else ((fX2_widens v0 v4).bind fun r29 => (if r29 = 0 then fX2_countChains_b47 rec (fX2_countChains_b14 rec n) v0 v1 v2 v3 v4 else ((rec v4 v1 (v2 + (1 : Int32))).bind fun r42 => fX2_countChains_b47 rec (fX2_countChains_b14 rec n) v0 v1 v2 (v3 + r42) v4)))))
def fX2_countChains : Nat → Int32 → Int32 → Int32 → Option Int32
  | 0, _, _, _ => none
  | n + 1, p1, p2, p3 => (if p1 = p2 then some (1 : Int32) else fX2_countChains_b14 (fX2_countChains n) 100 p1 p2 p3 (0 : Int32) (p1 + (1 : Int32)))
set_option maxRecDepth 100000 in
set_option maxHeartbeats 4000000 in
theorem kX2_countChains (l : Launch) : ∀ (n : Nat) (p1 : Int32) (p2 : Int32) (p3 : Int32) (out : Int32) (hf : fX2_countChains n p1 p2 p3 = some out), Sq l yX2_countChains cX2_countChains 5 (some .int) n [.int p1, .int p2, .int p3] (some (.int out)) := by
  intro n
  induction n with
  | zero => intro p1 p2 p3 out hf; exact none_ne hf
  | succ n ihn =>
    intro p1 p2 p3 out hf
    refine Sq.of [(0, .int p1), (1, .int p2), (2, .int p3)] rfl (by decide +kernel) (Nat.le_of_ble_eq_true rfl) ?_
    intro κ hκ C hQ
    subst hκ
    replace C : Cf κ cX2_countChains 5 RX2 (some .int) (n + 1) := C
    have hdd : n + 1 ≤ n + 1 := Nat.le_refl _
    have b47 : ∀ (rec : Int32 → Int32 → Int32 → Option Int32) (hrec : ∀ (p1 : Int32) (p2 : Int32) (p3 : Int32) (out : Int32), rec p1 p2 p3 = some out → Sq (kl κ) yX2_countChains cX2_countChains 5 (some .int) n [.int p1, .int p2, .int p3] (some (.int out))) (k14 : Int32 → Int32 → Int32 → Int32 → Int32 → Option Int32) (hk14 : ∀ (v0 : Int32) (v1 : Int32) (v2 : Int32) (v3 : Int32) (v4 : Int32) , k14 v0 v1 v2 v3 v4 = some out → G κ (Vp κ) 5 14 [(0, .int v0), (1, .int v1), (2, .int v2), (3, .int v3), (4, .int v4)] []) (v0 : Int32) (v1 : Int32) (v2 : Int32) (v3 : Int32) (v4 : Int32) , fX2_countChains_b47 rec k14 v0 v1 v2 v3 v4 = some out → G κ (Vp κ) 5 47 [(0, .int v0), (1, .int v1), (2, .int v2), (3, .int v3), (4, .int v4)] [] := by
      intro rec hrec k14 hk14 v0 v1 v2 v3 v4 hf
      refine g_iinc (pc := 47) (i := 4) (j := 4) (v := (v4 + (1 : Int32))) (L' := [(4, .int (v4 + (1 : Int32))), (0, .int v0), (1, .int v1), (2, .int v2), (3, .int v3)]) C dX2_countChains_47 rfl (cx_1 _) (by decide) rfl ?_
      refine g_goto (pc := 50) (tgt := 14) C dX2_countChains_50 rfl ?_
      exact g_at [1, 2, 3, 4, 0] rfl (hk14 v0 v1 v2 v3 (v4 + (1 : Int32)) hf)
    have b14 : ∀ (rec : Int32 → Int32 → Int32 → Option Int32) (hrec : ∀ (p1 : Int32) (p2 : Int32) (p3 : Int32) (out : Int32), rec p1 p2 p3 = some out → Sq (kl κ) yX2_countChains cX2_countChains 5 (some .int) n [.int p1, .int p2, .int p3] (some (.int out))) (n : Nat) (v0 : Int32) (v1 : Int32) (v2 : Int32) (v3 : Int32) (v4 : Int32) , fX2_countChains_b14 rec n v0 v1 v2 v3 v4 = some out → G κ (Vp κ) 5 14 [(0, .int v0), (1, .int v1), (2, .int v2), (3, .int v3), (4, .int v4)] [] := by
      intro rec hrec n
      induction n with
      | zero => intro v0 v1 v2 v3 v4 hf; exact none_ne hf
      | succ n ih =>
        intro v0 v1 v2 v3 v4 hf
        refine g_iload (pc := 14) (i := 4) (j := 4) C dX2_countChains_14 rfl ?_
        refine g_iload_n (pc := 16) (i := 1) (j := 1) C dX2_countChains_16 rfl rfl ?_
        refine g_icmp_gt (pc := 17) (tgt := 53) C dX2_countChains_17 rfl hf (fun _ hf => ?_) (fun _ hf => ?_)
        · refine g_iload_n (pc := 53) (i := 3) (j := 3) C dX2_countChains_53 rfl rfl ?_
          exact g_iretp (pc := 54) C hQ dX2_countChains_54 hf
        · refine g_iload_n (pc := 20) (i := 2) (j := 2) C dX2_countChains_20 rfl rfl ?_
          refine g_bipush (pc := 21) C dX2_countChains_21 cb_8 ?_
          refine g_icmp_ge (pc := 23) (tgt := 53) C dX2_countChains_23 rfl hf (fun _ hf => ?_) (fun _ hf => ?_)
          · refine g_iload_n (pc := 53) (i := 3) (j := 3) C dX2_countChains_53 rfl rfl ?_
            exact g_iretp (pc := 54) C hQ dX2_countChains_54 hf
          · refine g_iload_n (pc := 26) (i := 0) (j := 0) C dX2_countChains_26 rfl rfl ?_
            refine g_iload (pc := 27) (i := 4) (j := 4) C dX2_countChains_27 rfl ?_
            refine g_cpi (pc := 29) (st := []) C lkX2_11 (As := [.int v0, .int v4]) rfl (fun out h => kX2_widens (kl κ) v0 v4 out h) (by omega) rfl (Nat.le_of_ble_eq_true rfl) dX2_countChains_29 hf (fun r29 _ hf => ?_)
            refine g_if_eq (pc := 32) (tgt := 47) C dX2_countChains_32 rfl hf (fun _ hf => ?_) (fun _ hf => ?_)
            · exact b47 rec hrec (fX2_countChains_b14 rec n) ih v0 v1 v2 v3 v4 hf
            · refine g_iload_n (pc := 35) (i := 3) (j := 3) C dX2_countChains_35 rfl rfl ?_
              refine g_iload (pc := 36) (i := 4) (j := 4) C dX2_countChains_36 rfl ?_
              refine g_iload_n (pc := 38) (i := 1) (j := 1) C dX2_countChains_38 rfl rfl ?_
              refine g_iload_n (pc := 39) (i := 2) (j := 2) C dX2_countChains_39 rfl rfl ?_
              refine g_iconst (pc := 40) C dX2_countChains_40 ci_1 ?_
              refine g_iadd (pc := 41) C dX2_countChains_41 ?_
              refine g_cpi (pc := 42) (st := [.int v3]) C lkX2_22 (As := [.int v4, .int v1, .int (v2 + (1 : Int32))]) rfl (fun out h => hrec v4 v1 (v2 + (1 : Int32)) out h) hdd rfl (Nat.le_of_ble_eq_true rfl) dX2_countChains_42 hf (fun r42 _ hf => ?_)
              refine g_iadd (pc := 45) C dX2_countChains_45 ?_
              refine g_istore_n (pc := 46) (i := 3) (L' := [(3, .int (v3 + r42)), (0, .int v0), (1, .int v1), (2, .int v2), (4, .int v4)]) C dX2_countChains_46 rfl (by decide) rfl ?_
              exact g_at [1, 2, 3, 0, 4] rfl (b47 rec hrec (fX2_countChains_b14 rec n) ih v0 v1 v2 (v3 + r42) v4 hf)
    have hrec : ∀ (p1 : Int32) (p2 : Int32) (p3 : Int32) (out : Int32), fX2_countChains n p1 p2 p3 = some out → Sq (kl κ) yX2_countChains cX2_countChains 5 (some .int) n [.int p1, .int p2, .int p3] (some (.int out)) := fun p1 p2 p3 out h => ihn p1 p2 p3 out h
    refine g_iload_n (pc := 0) (i := 0) (j := 0) C dX2_countChains_0 rfl rfl ?_
    refine g_iload_n (pc := 1) (i := 1) (j := 1) C dX2_countChains_1 rfl rfl ?_
    refine g_icmp_ne (pc := 2) (tgt := 7) C dX2_countChains_2 rfl hf (fun _ hf => ?_) (fun _ hf => ?_)
    · refine g_iconst (pc := 7) C dX2_countChains_7 ci_0 ?_
      refine g_istore_n (pc := 8) (i := 3) (L' := [(3, .int (0 : Int32)), (0, .int p1), (1, .int p2), (2, .int p3)]) C dX2_countChains_8 rfl (by decide) rfl ?_
      refine g_iload_n (pc := 9) (i := 0) (j := 1) C dX2_countChains_9 rfl rfl ?_
      refine g_iconst (pc := 10) C dX2_countChains_10 ci_1 ?_
      refine g_iadd (pc := 11) C dX2_countChains_11 ?_
      refine g_istore (pc := 12) (i := 4) (L' := [(4, .int (p1 + (1 : Int32))), (3, .int (0 : Int32)), (0, .int p1), (1, .int p2), (2, .int p3)]) C dX2_countChains_12 (by decide) rfl ?_
      exact g_at [2, 3, 4, 1, 0] rfl (b14 (fX2_countChains n) hrec 100 p1 p2 p3 (0 : Int32) (p1 + (1 : Int32)) hf)
    · refine g_iconst (pc := 5) C dX2_countChains_5 ci_1 ?_
      exact g_iretp (pc := 6) C hQ dX2_countChains_6 hf
theorem dX2_rounded_0 : decode cX2_rounded 0 = .ok (.lload_n 0, 1) := by decide +kernel
theorem dX2_rounded_1 : decode cX2_rounded 1 = .ok (.lconst 0, 1) := by decide +kernel
theorem dX2_rounded_2 : decode cX2_rounded 2 = .ok (.lcmp, 1) := by decide +kernel
theorem dX2_rounded_3 : decode cX2_rounded 3 = .ok (.ifCond .ne 5, 3) := by decide +kernel
theorem dX2_rounded_6 : decode cX2_rounded 6 = .ok (.lconst 0, 1) := by decide +kernel
theorem dX2_rounded_7 : decode cX2_rounded 7 = .ok (.lreturn, 1) := by decide +kernel
theorem dX2_rounded_8 : decode cX2_rounded 8 = .ok (.lload_n 0, 1) := by decide +kernel
theorem dX2_rounded_9 : decode cX2_rounded 9 = .ok (.lconst 0, 1) := by decide +kernel
theorem dX2_rounded_10 : decode cX2_rounded 10 = .ok (.lcmp, 1) := by decide +kernel
theorem dX2_rounded_11 : decode cX2_rounded 11 = .ok (.ifCond .ge 8, 3) := by decide +kernel
theorem dX2_rounded_14 : decode cX2_rounded 14 = .ok (.lload_n 0, 1) := by decide +kernel
theorem dX2_rounded_15 : decode cX2_rounded 15 = .ok (.lneg, 1) := by decide +kernel
theorem dX2_rounded_16 : decode cX2_rounded 16 = .ok (.goto 4, 3) := by decide +kernel
theorem dX2_rounded_19 : decode cX2_rounded 19 = .ok (.lload_n 0, 1) := by decide +kernel
theorem dX2_rounded_20 : decode cX2_rounded 20 = .ok (.lstore 5, 2) := by decide +kernel
theorem dX2_rounded_22 : decode cX2_rounded 22 = .ok (.bipush 63, 2) := by decide +kernel
theorem dX2_rounded_24 : decode cX2_rounded 24 = .ok (.lload 5, 2) := by decide +kernel
theorem dX2_rounded_26 : decode cX2_rounded 26 = .ok (.invokestatic 106, 3) := by decide +kernel
theorem dX2_rounded_29 : decode cX2_rounded 29 = .ok (.isub, 1) := by decide +kernel
theorem dX2_rounded_30 : decode cX2_rounded 30 = .ok (.istore 7, 2) := by decide +kernel
theorem dX2_rounded_32 : decode cX2_rounded 32 = .ok (.iload 7, 2) := by decide +kernel
theorem dX2_rounded_34 : decode cX2_rounded 34 = .ok (.iload_n 3, 1) := by decide +kernel
theorem dX2_rounded_35 : decode cX2_rounded 35 = .ok (.isub, 1) := by decide +kernel
theorem dX2_rounded_36 : decode cX2_rounded 36 = .ok (.istore 8, 2) := by decide +kernel
theorem dX2_rounded_38 : decode cX2_rounded 38 = .ok (.iload 8, 2) := by decide +kernel
theorem dX2_rounded_40 : decode cX2_rounded 40 = .ok (.ifCond .gt 14, 3) := by decide +kernel
theorem dX2_rounded_43 : decode cX2_rounded 43 = .ok (.lload 5, 2) := by decide +kernel
theorem dX2_rounded_45 : decode cX2_rounded 45 = .ok (.iload 8, 2) := by decide +kernel
theorem dX2_rounded_47 : decode cX2_rounded 47 = .ok (.ineg, 1) := by decide +kernel
theorem dX2_rounded_48 : decode cX2_rounded 48 = .ok (.lshl, 1) := by decide +kernel
theorem dX2_rounded_49 : decode cX2_rounded 49 = .ok (.lstore 9, 2) := by decide +kernel
theorem dX2_rounded_51 : decode cX2_rounded 51 = .ok (.goto 60, 3) := by decide +kernel
theorem dX2_rounded_54 : decode cX2_rounded 54 = .ok (.lload 5, 2) := by decide +kernel
theorem dX2_rounded_56 : decode cX2_rounded 56 = .ok (.iload 8, 2) := by decide +kernel
theorem dX2_rounded_58 : decode cX2_rounded 58 = .ok (.lushr, 1) := by decide +kernel
theorem dX2_rounded_59 : decode cX2_rounded 59 = .ok (.lstore 9, 2) := by decide +kernel
theorem dX2_rounded_61 : decode cX2_rounded 61 = .ok (.lload 5, 2) := by decide +kernel
theorem dX2_rounded_63 : decode cX2_rounded 63 = .ok (.lconst 1, 1) := by decide +kernel
theorem dX2_rounded_64 : decode cX2_rounded 64 = .ok (.iload 8, 2) := by decide +kernel
theorem dX2_rounded_66 : decode cX2_rounded 66 = .ok (.lshl, 1) := by decide +kernel
theorem dX2_rounded_67 : decode cX2_rounded 67 = .ok (.lconst 1, 1) := by decide +kernel
theorem dX2_rounded_68 : decode cX2_rounded 68 = .ok (.lsub, 1) := by decide +kernel
theorem dX2_rounded_69 : decode cX2_rounded 69 = .ok (.land, 1) := by decide +kernel
theorem dX2_rounded_70 : decode cX2_rounded 70 = .ok (.lstore 11, 2) := by decide +kernel
theorem dX2_rounded_72 : decode cX2_rounded 72 = .ok (.lconst 1, 1) := by decide +kernel
theorem dX2_rounded_73 : decode cX2_rounded 73 = .ok (.iload 8, 2) := by decide +kernel
theorem dX2_rounded_75 : decode cX2_rounded 75 = .ok (.iconst 1, 1) := by decide +kernel
theorem dX2_rounded_76 : decode cX2_rounded 76 = .ok (.isub, 1) := by decide +kernel
theorem dX2_rounded_77 : decode cX2_rounded 77 = .ok (.lshl, 1) := by decide +kernel
theorem dX2_rounded_78 : decode cX2_rounded 78 = .ok (.lstore 13, 2) := by decide +kernel
theorem dX2_rounded_80 : decode cX2_rounded 80 = .ok (.lload 11, 2) := by decide +kernel
theorem dX2_rounded_82 : decode cX2_rounded 82 = .ok (.lload 13, 2) := by decide +kernel
theorem dX2_rounded_84 : decode cX2_rounded 84 = .ok (.lcmp, 1) := by decide +kernel
theorem dX2_rounded_85 : decode cX2_rounded 85 = .ok (.ifCond .gt 20, 3) := by decide +kernel
theorem dX2_rounded_88 : decode cX2_rounded 88 = .ok (.lload 11, 2) := by decide +kernel
theorem dX2_rounded_90 : decode cX2_rounded 90 = .ok (.lload 13, 2) := by decide +kernel
theorem dX2_rounded_92 : decode cX2_rounded 92 = .ok (.lcmp, 1) := by decide +kernel
theorem dX2_rounded_93 : decode cX2_rounded 93 = .ok (.ifCond .ne 18, 3) := by decide +kernel
theorem dX2_rounded_96 : decode cX2_rounded 96 = .ok (.lload 9, 2) := by decide +kernel
theorem dX2_rounded_98 : decode cX2_rounded 98 = .ok (.lconst 1, 1) := by decide +kernel
theorem dX2_rounded_99 : decode cX2_rounded 99 = .ok (.land, 1) := by decide +kernel
theorem dX2_rounded_100 : decode cX2_rounded 100 = .ok (.lconst 1, 1) := by decide +kernel
theorem dX2_rounded_101 : decode cX2_rounded 101 = .ok (.lcmp, 1) := by decide +kernel
theorem dX2_rounded_102 : decode cX2_rounded 102 = .ok (.ifCond .ne 9, 3) := by decide +kernel
theorem dX2_rounded_105 : decode cX2_rounded 105 = .ok (.lload 9, 2) := by decide +kernel
theorem dX2_rounded_107 : decode cX2_rounded 107 = .ok (.lconst 1, 1) := by decide +kernel
theorem dX2_rounded_108 : decode cX2_rounded 108 = .ok (.ladd, 1) := by decide +kernel
theorem dX2_rounded_109 : decode cX2_rounded 109 = .ok (.lstore 9, 2) := by decide +kernel
theorem dX2_rounded_111 : decode cX2_rounded 111 = .ok (.iload 7, 2) := by decide +kernel
theorem dX2_rounded_113 : decode cX2_rounded 113 = .ok (.iload_n 2, 1) := by decide +kernel
theorem dX2_rounded_114 : decode cX2_rounded 114 = .ok (.isub, 1) := by decide +kernel
theorem dX2_rounded_115 : decode cX2_rounded 115 = .ok (.iload 4, 2) := by decide +kernel
theorem dX2_rounded_117 : decode cX2_rounded 117 = .ok (.iadd, 1) := by decide +kernel
theorem dX2_rounded_118 : decode cX2_rounded 118 = .ok (.iconst 1, 1) := by decide +kernel
theorem dX2_rounded_119 : decode cX2_rounded 119 = .ok (.isub, 1) := by decide +kernel
theorem dX2_rounded_120 : decode cX2_rounded 120 = .ok (.i2l, 1) := by decide +kernel
theorem dX2_rounded_121 : decode cX2_rounded 121 = .ok (.iload_n 3, 1) := by decide +kernel
theorem dX2_rounded_122 : decode cX2_rounded 122 = .ok (.lshl, 1) := by decide +kernel
theorem dX2_rounded_123 : decode cX2_rounded 123 = .ok (.lload 9, 2) := by decide +kernel
theorem dX2_rounded_125 : decode cX2_rounded 125 = .ok (.ladd, 1) := by decide +kernel
theorem dX2_rounded_126 : decode cX2_rounded 126 = .ok (.lreturn, 1) := by decide +kernel
def fX2_rounded_b111 (v2 : Int32) (v3 : Int32) (v4 : Int32) (v7 : Int32) (v9 : Int64) : Option Int64 := some ((jlshl (Int32.toInt64 (((v7 - v2) + v4) - (1 : Int32))) v3) + v9)
def fX2_rounded_b105 (v2 : Int32) (v3 : Int32) (v4 : Int32) (v7 : Int32) (v9 : Int64) : Option Int64 := fX2_rounded_b111 v2 v3 v4 v7 (v9 + (1 : Int64))
def fX2_rounded_b20 (v2 : Int32) (v3 : Int32) (v4 : Int32) (s0 : Int64) : Option Int64 := ((fJ13_numberOfLeadingZeros_95d88 s0).bind fun r26 => (if 0 < (((63 : Int32) - r26) - v3) then (if (jlshl (1 : Int64) ((((63 : Int32) - r26) - v3) - (1 : Int32))) < (s0 &&& ((jlshl (1 : Int64) (((63 : Int32) - r26) - v3)) - (1 : Int64))) then fX2_rounded_b105 v2 v3 v4 ((63 : Int32) - r26) (jlushr s0 (((63 : Int32) - r26) - v3)) else (if (s0 &&& ((jlshl (1 : Int64) (((63 : Int32) - r26) - v3)) - (1 : Int64))) = (jlshl (1 : Int64) ((((63 : Int32) - r26) - v3) - (1 : Int32))) then (if ((jlushr s0 (((63 : Int32) - r26) - v3)) &&& (1 : Int64)) = (1 : Int64) then fX2_rounded_b105 v2 v3 v4 ((63 : Int32) - r26) (jlushr s0 (((63 : Int32) - r26) - v3)) else fX2_rounded_b111 v2 v3 v4 ((63 : Int32) - r26) (jlushr s0 (((63 : Int32) - r26) - v3))) else fX2_rounded_b111 v2 v3 v4 ((63 : Int32) - r26) (jlushr s0 (((63 : Int32) - r26) - v3)))) else fX2_rounded_b111 v2 v3 v4 ((63 : Int32) - r26) (jlshl s0 (-(((63 : Int32) - r26) - v3)))))
def fX2_rounded (p1 : Int64) (p2 : Int32) (p3 : Int32) (p4 : Int32) : Option Int64 := (if p1 = (0 : Int64) then some (0 : Int64) else (if (0 : Int64) ≤ p1 then fX2_rounded_b20 p2 p3 p4 p1 else fX2_rounded_b20 p2 p3 p4 (-p1)))
set_option maxRecDepth 100000 in
set_option maxHeartbeats 4000000 in
theorem kX2_rounded (l : Launch) (p1 : Int64) (p2 : Int32) (p3 : Int32) (p4 : Int32) (out : Int64) (hf : fX2_rounded p1 p2 p3 p4 = some out) : Sq l yX2_rounded cX2_rounded 15 (some .long) 2 [.long p1, .int p2, .int p3, .int p4] (some (.long out)) := by
  refine Sq.of [(0, .long p1), (2, .int p2), (3, .int p3), (4, .int p4)] rfl (by decide +kernel) (Nat.le_of_ble_eq_true rfl) ?_
  intro κ hκ C hQ
  subst hκ
  replace C : Cf κ cX2_rounded 15 RX2 (some .long) 2 := C
  have b111 : ∀ (v2 : Int32) (v3 : Int32) (v4 : Int32) (v7 : Int32) (v9 : Int64) , fX2_rounded_b111 v2 v3 v4 v7 v9 = some out → G κ (Vp κ) 15 111 [(2, .int v2), (3, .int v3), (4, .int v4), (7, .int v7), (9, .long v9)] [] := by
    intro v2 v3 v4 v7 v9 hf
    refine g_iload (pc := 111) (i := 7) (j := 3) C dX2_rounded_111 rfl ?_
    refine g_iload_n (pc := 113) (i := 2) (j := 0) C dX2_rounded_113 rfl rfl ?_
    refine g_isub (pc := 114) C dX2_rounded_114 ?_
    refine g_iload (pc := 115) (i := 4) (j := 2) C dX2_rounded_115 rfl ?_
    refine g_iadd (pc := 117) C dX2_rounded_117 ?_
    refine g_iconst (pc := 118) C dX2_rounded_118 ci_1 ?_
    refine g_isub (pc := 119) C dX2_rounded_119 ?_
    refine g_i2l (pc := 120) C dX2_rounded_120 ?_
    refine g_iload_n (pc := 121) (i := 3) (j := 1) C dX2_rounded_121 rfl rfl ?_
    refine g_lshl (pc := 122) C dX2_rounded_122 ?_
    refine g_lload (pc := 123) (i := 9) (j := 4) C dX2_rounded_123 rfl ?_
    refine g_ladd (pc := 125) C dX2_rounded_125 ?_
    exact g_lretp (pc := 126) C hQ dX2_rounded_126 hf
  have b105 : ∀ (v2 : Int32) (v3 : Int32) (v4 : Int32) (v7 : Int32) (v9 : Int64) , fX2_rounded_b105 v2 v3 v4 v7 v9 = some out → G κ (Vp κ) 15 105 [(2, .int v2), (3, .int v3), (4, .int v4), (7, .int v7), (9, .long v9)] [] := by
    intro v2 v3 v4 v7 v9 hf
    refine g_lload (pc := 105) (i := 9) (j := 4) C dX2_rounded_105 rfl ?_
    refine g_lconst (pc := 107) C dX2_rounded_107 cl_1 ?_
    refine g_ladd (pc := 108) C dX2_rounded_108 ?_
    refine g_lstore (pc := 109) (i := 9) (L' := [(9, .long (v9 + (1 : Int64))), (2, .int v2), (3, .int v3), (4, .int v4), (7, .int v7)]) C dX2_rounded_109 (by decide) rfl ?_
    exact g_at [1, 2, 3, 4, 0] rfl (b111 v2 v3 v4 v7 (v9 + (1 : Int64)) hf)
  have b20 : ∀ (v2 : Int32) (v3 : Int32) (v4 : Int32) (s0 : Int64) , fX2_rounded_b20 v2 v3 v4 s0 = some out → G κ (Vp κ) 15 20 [(2, .int v2), (3, .int v3), (4, .int v4)] [.long s0] := by
    intro v2 v3 v4 s0 hf
    refine g_lstore (pc := 20) (i := 5) (L' := [(5, .long s0), (2, .int v2), (3, .int v3), (4, .int v4)]) C dX2_rounded_20 (by decide) rfl ?_
    refine g_bipush (pc := 22) C dX2_rounded_22 cb_63 ?_
    refine g_lload (pc := 24) (i := 5) (j := 0) C dX2_rounded_24 rfl ?_
    refine g_cpi (pc := 26) (st := [.int (63 : Int32)]) C lkX2_106 (As := [.long s0]) rfl (fun out h => kJ13_numberOfLeadingZeros_95d88 (kl κ) s0 out h) (by decide) rfl (Nat.le_of_ble_eq_true rfl) dX2_rounded_26 hf (fun r26 _ hf => ?_)
    refine g_isub (pc := 29) C dX2_rounded_29 ?_
    refine g_istore (pc := 30) (i := 7) (L' := [(7, .int ((63 : Int32) - r26)), (5, .long s0), (2, .int v2), (3, .int v3), (4, .int v4)]) C dX2_rounded_30 (by decide) rfl ?_
    refine g_iload (pc := 32) (i := 7) (j := 0) C dX2_rounded_32 rfl ?_
    refine g_iload_n (pc := 34) (i := 3) (j := 3) C dX2_rounded_34 rfl rfl ?_
    refine g_isub (pc := 35) C dX2_rounded_35 ?_
    refine g_istore (pc := 36) (i := 8) (L' := [(8, .int (((63 : Int32) - r26) - v3)), (7, .int ((63 : Int32) - r26)), (5, .long s0), (2, .int v2), (3, .int v3), (4, .int v4)]) C dX2_rounded_36 (by decide) rfl ?_
    refine g_iload (pc := 38) (i := 8) (j := 0) C dX2_rounded_38 rfl ?_
    refine g_if_gt (pc := 40) (tgt := 54) C dX2_rounded_40 rfl hf (fun _ hf => ?_) (fun _ hf => ?_)
    · refine g_lload (pc := 54) (i := 5) (j := 2) C dX2_rounded_54 rfl ?_
      refine g_iload (pc := 56) (i := 8) (j := 0) C dX2_rounded_56 rfl ?_
      refine g_lushr (pc := 58) C dX2_rounded_58 ?_
      refine g_lstore (pc := 59) (i := 9) (L' := [(9, .long (jlushr s0 (((63 : Int32) - r26) - v3))), (8, .int (((63 : Int32) - r26) - v3)), (7, .int ((63 : Int32) - r26)), (5, .long s0), (2, .int v2), (3, .int v3), (4, .int v4)]) C dX2_rounded_59 (by decide) rfl ?_
      refine g_lload (pc := 61) (i := 5) (j := 3) C dX2_rounded_61 rfl ?_
      refine g_lconst (pc := 63) C dX2_rounded_63 cl_1 ?_
      refine g_iload (pc := 64) (i := 8) (j := 1) C dX2_rounded_64 rfl ?_
      refine g_lshl (pc := 66) C dX2_rounded_66 ?_
      refine g_lconst (pc := 67) C dX2_rounded_67 cl_1 ?_
      refine g_lsub (pc := 68) C dX2_rounded_68 ?_
      refine g_land (pc := 69) C dX2_rounded_69 ?_
      refine g_lstore (pc := 70) (i := 11) (L' := [(11, .long (s0 &&& ((jlshl (1 : Int64) (((63 : Int32) - r26) - v3)) - (1 : Int64)))), (9, .long (jlushr s0 (((63 : Int32) - r26) - v3))), (8, .int (((63 : Int32) - r26) - v3)), (7, .int ((63 : Int32) - r26)), (5, .long s0), (2, .int v2), (3, .int v3), (4, .int v4)]) C dX2_rounded_70 (by decide) rfl ?_
      refine g_lconst (pc := 72) C dX2_rounded_72 cl_1 ?_
      refine g_iload (pc := 73) (i := 8) (j := 2) C dX2_rounded_73 rfl ?_
      refine g_iconst (pc := 75) C dX2_rounded_75 ci_1 ?_
      refine g_isub (pc := 76) C dX2_rounded_76 ?_
      refine g_lshl (pc := 77) C dX2_rounded_77 ?_
      refine g_lstore (pc := 78) (i := 13) (L' := [(13, .long (jlshl (1 : Int64) ((((63 : Int32) - r26) - v3) - (1 : Int32)))), (11, .long (s0 &&& ((jlshl (1 : Int64) (((63 : Int32) - r26) - v3)) - (1 : Int64)))), (9, .long (jlushr s0 (((63 : Int32) - r26) - v3))), (8, .int (((63 : Int32) - r26) - v3)), (7, .int ((63 : Int32) - r26)), (5, .long s0), (2, .int v2), (3, .int v3), (4, .int v4)]) C dX2_rounded_78 (by decide) rfl ?_
      refine g_lload (pc := 80) (i := 11) (j := 1) C dX2_rounded_80 rfl ?_
      refine g_lload (pc := 82) (i := 13) (j := 0) C dX2_rounded_82 rfl ?_
      refine g_lcmp_gt (pc := 84) (tgt := 105) C dX2_rounded_84 dX2_rounded_85 rfl hf (fun _ hf => ?_) (fun _ hf => ?_)
      · exact g_at [6, 7, 8, 4, 2] rfl (b105 v2 v3 v4 ((63 : Int32) - r26) (jlushr s0 (((63 : Int32) - r26) - v3)) hf)
      · refine g_lload (pc := 88) (i := 11) (j := 1) C dX2_rounded_88 rfl ?_
        refine g_lload (pc := 90) (i := 13) (j := 0) C dX2_rounded_90 rfl ?_
        refine g_lcmp_ne (pc := 92) (tgt := 111) C dX2_rounded_92 dX2_rounded_93 rfl hf (fun _ hf => ?_) (fun _ hf => ?_)
        · exact g_at [6, 7, 8, 4, 2] rfl (b111 v2 v3 v4 ((63 : Int32) - r26) (jlushr s0 (((63 : Int32) - r26) - v3)) hf)
        · refine g_lload (pc := 96) (i := 9) (j := 2) C dX2_rounded_96 rfl ?_
          refine g_lconst (pc := 98) C dX2_rounded_98 cl_1 ?_
          refine g_land (pc := 99) C dX2_rounded_99 ?_
          refine g_lconst (pc := 100) C dX2_rounded_100 cl_1 ?_
          refine g_lcmp_ne (pc := 101) (tgt := 111) C dX2_rounded_101 dX2_rounded_102 rfl hf (fun _ hf => ?_) (fun _ hf => ?_)
          · exact g_at [6, 7, 8, 4, 2] rfl (b111 v2 v3 v4 ((63 : Int32) - r26) (jlushr s0 (((63 : Int32) - r26) - v3)) hf)
          · exact g_at [6, 7, 8, 4, 2] rfl (b105 v2 v3 v4 ((63 : Int32) - r26) (jlushr s0 (((63 : Int32) - r26) - v3)) hf)
    · refine g_lload (pc := 43) (i := 5) (j := 2) C dX2_rounded_43 rfl ?_
      refine g_iload (pc := 45) (i := 8) (j := 0) C dX2_rounded_45 rfl ?_
      refine g_ineg (pc := 47) C dX2_rounded_47 ?_
      refine g_lshl (pc := 48) C dX2_rounded_48 ?_
      refine g_lstore (pc := 49) (i := 9) (L' := [(9, .long (jlshl s0 (-(((63 : Int32) - r26) - v3)))), (8, .int (((63 : Int32) - r26) - v3)), (7, .int ((63 : Int32) - r26)), (5, .long s0), (2, .int v2), (3, .int v3), (4, .int v4)]) C dX2_rounded_49 (by decide) rfl ?_
      refine g_goto (pc := 51) (tgt := 111) C dX2_rounded_51 rfl ?_
      exact g_at [4, 5, 6, 2, 0] rfl (b111 v2 v3 v4 ((63 : Int32) - r26) (jlshl s0 (-(((63 : Int32) - r26) - v3))) hf)
  refine g_lload_n (pc := 0) (i := 0) (j := 0) C dX2_rounded_0 rfl rfl ?_
  refine g_lconst (pc := 1) C dX2_rounded_1 cl_0 ?_
  refine g_lcmp_ne (pc := 2) (tgt := 8) C dX2_rounded_2 dX2_rounded_3 rfl hf (fun _ hf => ?_) (fun _ hf => ?_)
  · refine g_lload_n (pc := 8) (i := 0) (j := 0) C dX2_rounded_8 rfl rfl ?_
    refine g_lconst (pc := 9) C dX2_rounded_9 cl_0 ?_
    refine g_lcmp_ge (pc := 10) (tgt := 19) C dX2_rounded_10 dX2_rounded_11 rfl hf (fun _ hf => ?_) (fun _ hf => ?_)
    · refine g_lload_n (pc := 19) (i := 0) (j := 0) C dX2_rounded_19 rfl rfl ?_
      exact g_at [1, 2, 3] rfl (b20 p2 p3 p4 p1 hf)
    · refine g_lload_n (pc := 14) (i := 0) (j := 0) C dX2_rounded_14 rfl rfl ?_
      refine g_lneg (pc := 15) C dX2_rounded_15 ?_
      refine g_goto (pc := 16) (tgt := 20) C dX2_rounded_16 rfl ?_
      exact g_at [1, 2, 3] rfl (b20 p2 p3 p4 (-p1) hf)
  · refine g_lconst (pc := 6) C dX2_rounded_6 cl_0 ?_
    exact g_lretp (pc := 7) C hQ dX2_rounded_7 hf
theorem dX2_signedFloat_0 : decode cX2_signedFloat 0 = .ok (.iload_n 0, 1) := by decide +kernel
theorem dX2_signedFloat_1 : decode cX2_signedFloat 1 = .ok (.ifCond .eq 13, 3) := by decide +kernel
theorem dX2_signedFloat_4 : decode cX2_signedFloat 4 = .ok (.lload_n 1, 1) := by decide +kernel
theorem dX2_signedFloat_5 : decode cX2_signedFloat 5 = .ok (.ldc2_w 104, 3) := by decide +kernel
theorem dX2_signedFloat_8 : decode cX2_signedFloat 8 = .ok (.lor, 1) := by decide +kernel
theorem dX2_signedFloat_9 : decode cX2_signedFloat 9 = .ok (.l2i, 1) := by decide +kernel
theorem dX2_signedFloat_10 : decode cX2_signedFloat 10 = .ok (.i2l, 1) := by decide +kernel
theorem dX2_signedFloat_11 : decode cX2_signedFloat 11 = .ok (.goto 4, 3) := by decide +kernel
theorem dX2_signedFloat_14 : decode cX2_signedFloat 14 = .ok (.lload_n 1, 1) := by decide +kernel
theorem dX2_signedFloat_15 : decode cX2_signedFloat 15 = .ok (.lreturn, 1) := by decide +kernel
def fX2_signedFloat (p1 : Int32) (p2 : Int64) : Option Int64 := (if p1 = 0 then some p2 else some (Int32.toInt64 (Int64.toInt32 (p2 ||| (2147483648 : Int64)))))
set_option maxRecDepth 100000 in
set_option maxHeartbeats 4000000 in
theorem kX2_signedFloat (l : Launch) (p1 : Int32) (p2 : Int64) (out : Int64) (hf : fX2_signedFloat p1 p2 = some out) : Sq l yX2_signedFloat cX2_signedFloat 3 (some .long) 0 [.int p1, .long p2] (some (.long out)) := by
  refine Sq.of [(0, .int p1), (1, .long p2)] rfl (by decide +kernel) (Nat.le_of_ble_eq_true rfl) ?_
  intro κ hκ C hQ
  subst hκ
  replace C : Cf κ cX2_signedFloat 3 RX2 (some .long) 0 := C
  refine g_iload_n (pc := 0) (i := 0) (j := 0) C dX2_signedFloat_0 rfl rfl ?_
  refine g_if_eq (pc := 1) (tgt := 14) C dX2_signedFloat_1 rfl hf (fun _ hf => ?_) (fun _ hf => ?_)
  · refine g_lload_n (pc := 14) (i := 1) (j := 1) C dX2_signedFloat_14 rfl rfl ?_
    exact g_lretp (pc := 15) C hQ dX2_signedFloat_15 hf
  · refine g_lload_n (pc := 4) (i := 1) (j := 1) C dX2_signedFloat_4 rfl rfl ?_
    refine g_ldc2 (pc := 5) C cnX2_104 dX2_signedFloat_5 ?_
    refine g_lor (pc := 8) C dX2_signedFloat_8 ?_
    refine g_l2i (pc := 9) C dX2_signedFloat_9 ?_
    refine g_i2l (pc := 10) C dX2_signedFloat_10 ?_
    refine g_goto (pc := 11) (tgt := 15) C dX2_signedFloat_11 rfl ?_
    exact g_lretp (pc := 15) C hQ dX2_signedFloat_15 hf
theorem dX2_nearest_0 : decode cX2_nearest 0 = .ok (.iload_n 0, 1) := by decide +kernel
theorem dX2_nearest_1 : decode cX2_nearest 1 = .ok (.bipush 6, 2) := by decide +kernel
theorem dX2_nearest_3 : decode cX2_nearest 3 = .ok (.if_icmp .ne 27, 3) := by decide +kernel
theorem dX2_nearest_6 : decode cX2_nearest 6 = .ok (.lload_n 1, 1) := by decide +kernel
theorem dX2_nearest_7 : decode cX2_nearest 7 = .ok (.lconst 0, 1) := by decide +kernel
theorem dX2_nearest_8 : decode cX2_nearest 8 = .ok (.lcmp, 1) := by decide +kernel
theorem dX2_nearest_9 : decode cX2_nearest 9 = .ok (.ifCond .ge 7, 3) := by decide +kernel
theorem dX2_nearest_12 : decode cX2_nearest 12 = .ok (.iconst 1, 1) := by decide +kernel
theorem dX2_nearest_13 : decode cX2_nearest 13 = .ok (.goto 4, 3) := by decide +kernel
theorem dX2_nearest_16 : decode cX2_nearest 16 = .ok (.iconst 0, 1) := by decide +kernel
theorem dX2_nearest_17 : decode cX2_nearest 17 = .ok (.lload_n 1, 1) := by decide +kernel
theorem dX2_nearest_18 : decode cX2_nearest 18 = .ok (.iload_n 3, 1) := by decide +kernel
theorem dX2_nearest_19 : decode cX2_nearest 19 = .ok (.bipush 23, 2) := by decide +kernel
theorem dX2_nearest_21 : decode cX2_nearest 21 = .ok (.bipush 127, 2) := by decide +kernel
theorem dX2_nearest_23 : decode cX2_nearest 23 = .ok (.invokestatic 93, 3) := by decide +kernel
theorem dX2_nearest_26 : decode cX2_nearest 26 = .ok (.invokestatic 97, 3) := by decide +kernel
theorem dX2_nearest_29 : decode cX2_nearest 29 = .ok (.lreturn, 1) := by decide +kernel
theorem dX2_nearest_30 : decode cX2_nearest 30 = .ok (.lload_n 1, 1) := by decide +kernel
theorem dX2_nearest_31 : decode cX2_nearest 31 = .ok (.lconst 0, 1) := by decide +kernel
theorem dX2_nearest_32 : decode cX2_nearest 32 = .ok (.lcmp, 1) := by decide +kernel
theorem dX2_nearest_33 : decode cX2_nearest 33 = .ok (.ifCond .ge 7, 3) := by decide +kernel
theorem dX2_nearest_36 : decode cX2_nearest 36 = .ok (.iconst 1, 1) := by decide +kernel
theorem dX2_nearest_37 : decode cX2_nearest 37 = .ok (.goto 4, 3) := by decide +kernel
theorem dX2_nearest_40 : decode cX2_nearest 40 = .ok (.iconst 0, 1) := by decide +kernel
theorem dX2_nearest_41 : decode cX2_nearest 41 = .ok (.lload_n 1, 1) := by decide +kernel
theorem dX2_nearest_42 : decode cX2_nearest 42 = .ok (.iload_n 3, 1) := by decide +kernel
theorem dX2_nearest_43 : decode cX2_nearest 43 = .ok (.bipush 52, 2) := by decide +kernel
theorem dX2_nearest_45 : decode cX2_nearest 45 = .ok (.sipush 1023, 3) := by decide +kernel
theorem dX2_nearest_48 : decode cX2_nearest 48 = .ok (.invokestatic 93, 3) := by decide +kernel
theorem dX2_nearest_51 : decode cX2_nearest 51 = .ok (.invokestatic 101, 3) := by decide +kernel
theorem dX2_nearest_54 : decode cX2_nearest 54 = .ok (.lreturn, 1) := by decide +kernel
def fX2_nearest_b41 (v1 : Int64) (v3 : Int32) (s0 : Int32) : Option Int64 := ((fX2_rounded v1 v3 (52 : Int32) (1023 : Int32)).bind fun r48 => ((fX2_signedDouble s0 r48).bind fun r51 => some r51))
def fX2_nearest_b17 (v1 : Int64) (v3 : Int32) (s0 : Int32) : Option Int64 := ((fX2_rounded v1 v3 (23 : Int32) (127 : Int32)).bind fun r23 => ((fX2_signedFloat s0 r23).bind fun r26 => some r26))
def fX2_nearest (p1 : Int32) (p2 : Int64) (p3 : Int32) : Option Int64 := (if p1 = (6 : Int32) then (if (0 : Int64) ≤ p2 then fX2_nearest_b17 p2 p3 (0 : Int32) else fX2_nearest_b17 p2 p3 (1 : Int32)) else (if (0 : Int64) ≤ p2 then fX2_nearest_b41 p2 p3 (0 : Int32) else fX2_nearest_b41 p2 p3 (1 : Int32)))
set_option maxRecDepth 100000 in
set_option maxHeartbeats 4000000 in
theorem kX2_nearest (l : Launch) (p1 : Int32) (p2 : Int64) (p3 : Int32) (out : Int64) (hf : fX2_nearest p1 p2 p3 = some out) : Sq l yX2_nearest cX2_nearest 4 (some .long) 3 [.int p1, .long p2, .int p3] (some (.long out)) := by
  refine Sq.of [(0, .int p1), (1, .long p2), (3, .int p3)] rfl (by decide +kernel) (Nat.le_of_ble_eq_true rfl) ?_
  intro κ hκ C hQ
  subst hκ
  replace C : Cf κ cX2_nearest 4 RX2 (some .long) 3 := C
  have b41 : ∀ (v1 : Int64) (v3 : Int32) (s0 : Int32) , fX2_nearest_b41 v1 v3 s0 = some out → G κ (Vp κ) 4 41 [(1, .long v1), (3, .int v3)] [.int s0] := by
    intro v1 v3 s0 hf
    refine g_lload_n (pc := 41) (i := 1) (j := 0) C dX2_nearest_41 rfl rfl ?_
    refine g_iload_n (pc := 42) (i := 3) (j := 1) C dX2_nearest_42 rfl rfl ?_
    refine g_bipush (pc := 43) C dX2_nearest_43 cb_52 ?_
    refine g_sipush (pc := 45) C dX2_nearest_45 cs_1023 ?_
    refine g_cpl (pc := 48) (st := [.int s0]) C lkX2_93 (As := [.long v1, .int v3, .int (52 : Int32), .int (1023 : Int32)]) rfl (fun out h => kX2_rounded (kl κ) v1 v3 (52 : Int32) (1023 : Int32) out h) (by decide) rfl (Nat.le_of_ble_eq_true rfl) dX2_nearest_48 hf (fun r48 _ hf => ?_)
    refine g_cpl (pc := 51) (st := []) C lkX2_101 (As := [.int s0, .long r48]) rfl (fun out h => kX2_signedDouble (kl κ) s0 r48 out h) (by decide) rfl (Nat.le_of_ble_eq_true rfl) dX2_nearest_51 hf (fun r51 _ hf => ?_)
    exact g_lretp (pc := 54) C hQ dX2_nearest_54 hf
  have b17 : ∀ (v1 : Int64) (v3 : Int32) (s0 : Int32) , fX2_nearest_b17 v1 v3 s0 = some out → G κ (Vp κ) 4 17 [(1, .long v1), (3, .int v3)] [.int s0] := by
    intro v1 v3 s0 hf
    refine g_lload_n (pc := 17) (i := 1) (j := 0) C dX2_nearest_17 rfl rfl ?_
    refine g_iload_n (pc := 18) (i := 3) (j := 1) C dX2_nearest_18 rfl rfl ?_
    refine g_bipush (pc := 19) C dX2_nearest_19 cb_23 ?_
    refine g_bipush (pc := 21) C dX2_nearest_21 cb_127 ?_
    refine g_cpl (pc := 23) (st := [.int s0]) C lkX2_93 (As := [.long v1, .int v3, .int (23 : Int32), .int (127 : Int32)]) rfl (fun out h => kX2_rounded (kl κ) v1 v3 (23 : Int32) (127 : Int32) out h) (by decide) rfl (Nat.le_of_ble_eq_true rfl) dX2_nearest_23 hf (fun r23 _ hf => ?_)
    refine g_cpl (pc := 26) (st := []) C lkX2_97 (As := [.int s0, .long r23]) rfl (fun out h => kX2_signedFloat (kl κ) s0 r23 out h) (by decide) rfl (Nat.le_of_ble_eq_true rfl) dX2_nearest_26 hf (fun r26 _ hf => ?_)
    exact g_lretp (pc := 29) C hQ dX2_nearest_29 hf
  refine g_iload_n (pc := 0) (i := 0) (j := 0) C dX2_nearest_0 rfl rfl ?_
  refine g_bipush (pc := 1) C dX2_nearest_1 cb_6 ?_
  refine g_icmp_ne (pc := 3) (tgt := 30) C dX2_nearest_3 rfl hf (fun _ hf => ?_) (fun _ hf => ?_)
  · refine g_lload_n (pc := 30) (i := 1) (j := 1) C dX2_nearest_30 rfl rfl ?_
    refine g_lconst (pc := 31) C dX2_nearest_31 cl_0 ?_
    refine g_lcmp_ge (pc := 32) (tgt := 40) C dX2_nearest_32 dX2_nearest_33 rfl hf (fun _ hf => ?_) (fun _ hf => ?_)
    · refine g_iconst (pc := 40) C dX2_nearest_40 ci_0 ?_
      exact g_at [1, 2] rfl (b41 p2 p3 (0 : Int32) hf)
    · refine g_iconst (pc := 36) C dX2_nearest_36 ci_1 ?_
      refine g_goto (pc := 37) (tgt := 41) C dX2_nearest_37 rfl ?_
      exact g_at [1, 2] rfl (b41 p2 p3 (1 : Int32) hf)
  · refine g_lload_n (pc := 6) (i := 1) (j := 1) C dX2_nearest_6 rfl rfl ?_
    refine g_lconst (pc := 7) C dX2_nearest_7 cl_0 ?_
    refine g_lcmp_ge (pc := 8) (tgt := 16) C dX2_nearest_8 dX2_nearest_9 rfl hf (fun _ hf => ?_) (fun _ hf => ?_)
    · refine g_iconst (pc := 16) C dX2_nearest_16 ci_0 ?_
      exact g_at [1, 2] rfl (b17 p2 p3 (0 : Int32) hf)
    · refine g_iconst (pc := 12) C dX2_nearest_12 ci_1 ?_
      refine g_goto (pc := 13) (tgt := 17) C dX2_nearest_13 rfl ?_
      exact g_at [1, 2] rfl (b17 p2 p3 (1 : Int32) hf)
theorem dX2_widened_0 : decode cX2_widened 0 = .ok (.iload_n 2, 1) := by decide +kernel
theorem dX2_widened_1 : decode cX2_widened 1 = .ok (.iload_n 3, 1) := by decide +kernel
theorem dX2_widened_2 : decode cX2_widened 2 = .ok (.if_icmp .ne 5, 3) := by decide +kernel
theorem dX2_widened_5 : decode cX2_widened 5 = .ok (.lload_n 0, 1) := by decide +kernel
theorem dX2_widened_6 : decode cX2_widened 6 = .ok (.lreturn, 1) := by decide +kernel
theorem dX2_widened_7 : decode cX2_widened 7 = .ok (.iload_n 2, 1) := by decide +kernel
theorem dX2_widened_8 : decode cX2_widened 8 = .ok (.bipush 6, 2) := by decide +kernel
theorem dX2_widened_10 : decode cX2_widened 10 = .ok (.if_icmp .ne 8, 3) := by decide +kernel
theorem dX2_widened_13 : decode cX2_widened 13 = .ok (.lload_n 0, 1) := by decide +kernel
theorem dX2_widened_14 : decode cX2_widened 14 = .ok (.invokestatic 34, 3) := by decide +kernel
theorem dX2_widened_17 : decode cX2_widened 17 = .ok (.lreturn, 1) := by decide +kernel
theorem dX2_widened_18 : decode cX2_widened 18 = .ok (.iload_n 3, 1) := by decide +kernel
theorem dX2_widened_19 : decode cX2_widened 19 = .ok (.bipush 6, 2) := by decide +kernel
theorem dX2_widened_21 : decode cX2_widened 21 = .ok (.if_icmp .ge 7, 3) := by decide +kernel
theorem dX2_widened_24 : decode cX2_widened 24 = .ok (.lload_n 0, 1) := by decide +kernel
theorem dX2_widened_25 : decode cX2_widened 25 = .ok (.goto 9, 3) := by decide +kernel
theorem dX2_widened_28 : decode cX2_widened 28 = .ok (.iload_n 3, 1) := by decide +kernel
theorem dX2_widened_29 : decode cX2_widened 29 = .ok (.lload_n 0, 1) := by decide +kernel
theorem dX2_widened_30 : decode cX2_widened 30 = .ok (.iconst 0, 1) := by decide +kernel
theorem dX2_widened_31 : decode cX2_widened 31 = .ok (.invokestatic 30, 3) := by decide +kernel
theorem dX2_widened_34 : decode cX2_widened 34 = .ok (.lreturn, 1) := by decide +kernel
def fX2_widened (p1 : Int64) (p2 : Int32) (p3 : Int32) : Option Int64 := (if p2 = p3 then some p1 else (if p2 = (6 : Int32) then ((fX2_doubleOfFloat p1).bind fun r14 => some r14) else (if (6 : Int32) ≤ p3 then ((fX2_nearest p3 p1 (0 : Int32)).bind fun r31 => some r31) else some p1)))
set_option maxRecDepth 100000 in
set_option maxHeartbeats 4000000 in
theorem kX2_widened (l : Launch) (p1 : Int64) (p2 : Int32) (p3 : Int32) (out : Int64) (hf : fX2_widened p1 p2 p3 = some out) : Sq l yX2_widened cX2_widened 4 (some .long) 4 [.long p1, .int p2, .int p3] (some (.long out)) := by
  refine Sq.of [(0, .long p1), (2, .int p2), (3, .int p3)] rfl (by decide +kernel) (Nat.le_of_ble_eq_true rfl) ?_
  intro κ hκ C hQ
  subst hκ
  replace C : Cf κ cX2_widened 4 RX2 (some .long) 4 := C
  refine g_iload_n (pc := 0) (i := 2) (j := 1) C dX2_widened_0 rfl rfl ?_
  refine g_iload_n (pc := 1) (i := 3) (j := 2) C dX2_widened_1 rfl rfl ?_
  refine g_icmp_ne (pc := 2) (tgt := 7) C dX2_widened_2 rfl hf (fun _ hf => ?_) (fun _ hf => ?_)
  · refine g_iload_n (pc := 7) (i := 2) (j := 1) C dX2_widened_7 rfl rfl ?_
    refine g_bipush (pc := 8) C dX2_widened_8 cb_6 ?_
    refine g_icmp_ne (pc := 10) (tgt := 18) C dX2_widened_10 rfl hf (fun _ hf => ?_) (fun _ hf => ?_)
    · refine g_iload_n (pc := 18) (i := 3) (j := 2) C dX2_widened_18 rfl rfl ?_
      refine g_bipush (pc := 19) C dX2_widened_19 cb_6 ?_
      refine g_icmp_ge (pc := 21) (tgt := 28) C dX2_widened_21 rfl hf (fun _ hf => ?_) (fun _ hf => ?_)
      · refine g_iload_n (pc := 28) (i := 3) (j := 2) C dX2_widened_28 rfl rfl ?_
        refine g_lload_n (pc := 29) (i := 0) (j := 0) C dX2_widened_29 rfl rfl ?_
        refine g_iconst (pc := 30) C dX2_widened_30 ci_0 ?_
        refine g_cpl (pc := 31) (st := []) C lkX2_30 (As := [.int p3, .long p1, .int (0 : Int32)]) rfl (fun out h => kX2_nearest (kl κ) p3 p1 (0 : Int32) out h) (by decide) rfl (Nat.le_of_ble_eq_true rfl) dX2_widened_31 hf (fun r31 _ hf => ?_)
        exact g_lretp (pc := 34) C hQ dX2_widened_34 hf
      · refine g_lload_n (pc := 24) (i := 0) (j := 0) C dX2_widened_24 rfl rfl ?_
        refine g_goto (pc := 25) (tgt := 34) C dX2_widened_25 rfl ?_
        exact g_lretp (pc := 34) C hQ dX2_widened_34 hf
    · refine g_lload_n (pc := 13) (i := 0) (j := 0) C dX2_widened_13 rfl rfl ?_
      refine g_cpl (pc := 14) (st := []) C lkX2_34 (As := [.long p1]) rfl (fun out h => kX2_doubleOfFloat (kl κ) p1 out h) (by decide) rfl (Nat.le_of_ble_eq_true rfl) dX2_widened_14 hf (fun r14 _ hf => ?_)
      exact g_lretp (pc := 17) C hQ dX2_widened_17 hf
  · refine g_lload_n (pc := 5) (i := 0) (j := 0) C dX2_widened_5 rfl rfl ?_
    exact g_lretp (pc := 6) C hQ dX2_widened_6 hf
theorem dX2_countEnds_0 : decode cX2_countEnds 0 = .ok (.iload_n 2, 1) := by decide +kernel
theorem dX2_countEnds_1 : decode cX2_countEnds 1 = .ok (.iload_n 3, 1) := by decide +kernel
theorem dX2_countEnds_2 : decode cX2_countEnds 2 = .ok (.invokestatic 11, 3) := by decide +kernel
theorem dX2_countEnds_5 : decode cX2_countEnds 5 = .ok (.ifCond .ne 5, 3) := by decide +kernel
theorem dX2_countEnds_8 : decode cX2_countEnds 8 = .ok (.iconst 0, 1) := by decide +kernel
theorem dX2_countEnds_9 : decode cX2_countEnds 9 = .ok (.ireturn, 1) := by decide +kernel
theorem dX2_countEnds_10 : decode cX2_countEnds 10 = .ok (.iload_n 3, 1) := by decide +kernel
theorem dX2_countEnds_11 : decode cX2_countEnds 11 = .ok (.bipush 7, 2) := by decide +kernel
theorem dX2_countEnds_13 : decode cX2_countEnds 13 = .ok (.if_icmp .ne 12, 3) := by decide +kernel
theorem dX2_countEnds_16 : decode cX2_countEnds 16 = .ok (.iload_n 2, 1) := by decide +kernel
theorem dX2_countEnds_17 : decode cX2_countEnds 17 = .ok (.bipush 6, 2) := by decide +kernel
theorem dX2_countEnds_19 : decode cX2_countEnds 19 = .ok (.invokestatic 11, 3) := by decide +kernel
theorem dX2_countEnds_22 : decode cX2_countEnds 22 = .ok (.ifCond .ne 5, 3) := by decide +kernel
theorem dX2_countEnds_25 : decode cX2_countEnds 25 = .ok (.iconst 1, 1) := by decide +kernel
theorem dX2_countEnds_26 : decode cX2_countEnds 26 = .ok (.ireturn, 1) := by decide +kernel
theorem dX2_countEnds_27 : decode cX2_countEnds 27 = .ok (.lload_n 0, 1) := by decide +kernel
theorem dX2_countEnds_28 : decode cX2_countEnds 28 = .ok (.iload_n 2, 1) := by decide +kernel
theorem dX2_countEnds_29 : decode cX2_countEnds 29 = .ok (.bipush 6, 2) := by decide +kernel
theorem dX2_countEnds_31 : decode cX2_countEnds 31 = .ok (.invokestatic 26, 3) := by decide +kernel
theorem dX2_countEnds_34 : decode cX2_countEnds 34 = .ok (.bipush 6, 2) := by decide +kernel
theorem dX2_countEnds_36 : decode cX2_countEnds 36 = .ok (.bipush 7, 2) := by decide +kernel
theorem dX2_countEnds_38 : decode cX2_countEnds 38 = .ok (.invokestatic 26, 3) := by decide +kernel
theorem dX2_countEnds_41 : decode cX2_countEnds 41 = .ok (.lstore 4, 2) := by decide +kernel
theorem dX2_countEnds_43 : decode cX2_countEnds 43 = .ok (.lload 4, 2) := by decide +kernel
theorem dX2_countEnds_45 : decode cX2_countEnds 45 = .ok (.lload_n 0, 1) := by decide +kernel
theorem dX2_countEnds_46 : decode cX2_countEnds 46 = .ok (.iload_n 2, 1) := by decide +kernel
theorem dX2_countEnds_47 : decode cX2_countEnds 47 = .ok (.bipush 7, 2) := by decide +kernel
theorem dX2_countEnds_49 : decode cX2_countEnds 49 = .ok (.invokestatic 26, 3) := by decide +kernel
theorem dX2_countEnds_52 : decode cX2_countEnds 52 = .ok (.lcmp, 1) := by decide +kernel
theorem dX2_countEnds_53 : decode cX2_countEnds 53 = .ok (.ifCond .ne 7, 3) := by decide +kernel
theorem dX2_countEnds_56 : decode cX2_countEnds 56 = .ok (.iconst 1, 1) := by decide +kernel
theorem dX2_countEnds_57 : decode cX2_countEnds 57 = .ok (.goto 4, 3) := by decide +kernel
theorem dX2_countEnds_60 : decode cX2_countEnds 60 = .ok (.iconst 2, 1) := by decide +kernel
theorem dX2_countEnds_61 : decode cX2_countEnds 61 = .ok (.ireturn, 1) := by decide +kernel
def fX2_countEnds (p1 : Int64) (p2 : Int32) (p3 : Int32) : Option Int32 := ((fX2_widens p2 p3).bind fun r2 => (if r2 = 0 then some (0 : Int32) else (if p3 = (7 : Int32) then ((fX2_widens p2 (6 : Int32)).bind fun r19 => (if r19 = 0 then some (1 : Int32) else ((fX2_widened p1 p2 (6 : Int32)).bind fun r31 => ((fX2_widened r31 (6 : Int32) (7 : Int32)).bind fun r38 => ((fX2_widened p1 p2 (7 : Int32)).bind fun r49 => (if r38 = r49 then some (1 : Int32) else some (2 : Int32))))))) else some (1 : Int32))))
set_option maxRecDepth 100000 in
set_option maxHeartbeats 4000000 in
theorem kX2_countEnds (l : Launch) (p1 : Int64) (p2 : Int32) (p3 : Int32) (out : Int32) (hf : fX2_countEnds p1 p2 p3 = some out) : Sq l yX2_countEnds cX2_countEnds 6 (some .int) 5 [.long p1, .int p2, .int p3] (some (.int out)) := by
  refine Sq.of [(0, .long p1), (2, .int p2), (3, .int p3)] rfl (by decide +kernel) (Nat.le_of_ble_eq_true rfl) ?_
  intro κ hκ C hQ
  subst hκ
  replace C : Cf κ cX2_countEnds 6 RX2 (some .int) 5 := C
  refine g_iload_n (pc := 0) (i := 2) (j := 1) C dX2_countEnds_0 rfl rfl ?_
  refine g_iload_n (pc := 1) (i := 3) (j := 2) C dX2_countEnds_1 rfl rfl ?_
  refine g_cpi (pc := 2) (st := []) C lkX2_11 (As := [.int p2, .int p3]) rfl (fun out h => kX2_widens (kl κ) p2 p3 out h) (by decide) rfl (Nat.le_of_ble_eq_true rfl) dX2_countEnds_2 hf (fun r2 _ hf => ?_)
  refine g_if_ne (pc := 5) (tgt := 10) C dX2_countEnds_5 rfl hf (fun _ hf => ?_) (fun _ hf => ?_)
  · refine g_iload_n (pc := 10) (i := 3) (j := 2) C dX2_countEnds_10 rfl rfl ?_
    refine g_bipush (pc := 11) C dX2_countEnds_11 cb_7 ?_
    refine g_icmp_ne (pc := 13) (tgt := 25) C dX2_countEnds_13 rfl hf (fun _ hf => ?_) (fun _ hf => ?_)
    · refine g_iconst (pc := 25) C dX2_countEnds_25 ci_1 ?_
      exact g_iretp (pc := 26) C hQ dX2_countEnds_26 hf
    · refine g_iload_n (pc := 16) (i := 2) (j := 1) C dX2_countEnds_16 rfl rfl ?_
      refine g_bipush (pc := 17) C dX2_countEnds_17 cb_6 ?_
      refine g_cpi (pc := 19) (st := []) C lkX2_11 (As := [.int p2, .int (6 : Int32)]) rfl (fun out h => kX2_widens (kl κ) p2 (6 : Int32) out h) (by decide) rfl (Nat.le_of_ble_eq_true rfl) dX2_countEnds_19 hf (fun r19 _ hf => ?_)
      refine g_if_ne (pc := 22) (tgt := 27) C dX2_countEnds_22 rfl hf (fun _ hf => ?_) (fun _ hf => ?_)
      · refine g_lload_n (pc := 27) (i := 0) (j := 0) C dX2_countEnds_27 rfl rfl ?_
        refine g_iload_n (pc := 28) (i := 2) (j := 1) C dX2_countEnds_28 rfl rfl ?_
        refine g_bipush (pc := 29) C dX2_countEnds_29 cb_6 ?_
        refine g_cpl (pc := 31) (st := []) C lkX2_26 (As := [.long p1, .int p2, .int (6 : Int32)]) rfl (fun out h => kX2_widened (kl κ) p1 p2 (6 : Int32) out h) (by decide) rfl (Nat.le_of_ble_eq_true rfl) dX2_countEnds_31 hf (fun r31 _ hf => ?_)
        refine g_bipush (pc := 34) C dX2_countEnds_34 cb_6 ?_
        refine g_bipush (pc := 36) C dX2_countEnds_36 cb_7 ?_
        refine g_cpl (pc := 38) (st := []) C lkX2_26 (As := [.long r31, .int (6 : Int32), .int (7 : Int32)]) rfl (fun out h => kX2_widened (kl κ) r31 (6 : Int32) (7 : Int32) out h) (by decide) rfl (Nat.le_of_ble_eq_true rfl) dX2_countEnds_38 hf (fun r38 _ hf => ?_)
        refine g_lstore (pc := 41) (i := 4) (L' := [(4, .long r38), (0, .long p1), (2, .int p2), (3, .int p3)]) C dX2_countEnds_41 (by decide) rfl ?_
        refine g_lload (pc := 43) (i := 4) (j := 0) C dX2_countEnds_43 rfl ?_
        refine g_lload_n (pc := 45) (i := 0) (j := 1) C dX2_countEnds_45 rfl rfl ?_
        refine g_iload_n (pc := 46) (i := 2) (j := 2) C dX2_countEnds_46 rfl rfl ?_
        refine g_bipush (pc := 47) C dX2_countEnds_47 cb_7 ?_
        refine g_cpl (pc := 49) (st := [.long r38]) C lkX2_26 (As := [.long p1, .int p2, .int (7 : Int32)]) rfl (fun out h => kX2_widened (kl κ) p1 p2 (7 : Int32) out h) (by decide) rfl (Nat.le_of_ble_eq_true rfl) dX2_countEnds_49 hf (fun r49 _ hf => ?_)
        refine g_lcmp_ne (pc := 52) (tgt := 60) C dX2_countEnds_52 dX2_countEnds_53 rfl hf (fun _ hf => ?_) (fun _ hf => ?_)
        · refine g_iconst (pc := 60) C dX2_countEnds_60 ci_2 ?_
          exact g_iretp (pc := 61) C hQ dX2_countEnds_61 hf
        · refine g_iconst (pc := 56) C dX2_countEnds_56 ci_1 ?_
          refine g_goto (pc := 57) (tgt := 61) C dX2_countEnds_57 rfl ?_
          exact g_iretp (pc := 61) C hQ dX2_countEnds_61 hf
      · refine g_iconst (pc := 25) C dX2_countEnds_25 ci_1 ?_
        exact g_iretp (pc := 26) C hQ dX2_countEnds_26 hf
  · refine g_iconst (pc := 8) C dX2_countEnds_8 ci_0 ?_
    exact g_iretp (pc := 9) C hQ dX2_countEnds_9 hf
theorem dX2_exponentOf_0 : decode cX2_exponentOf 0 = .ok (.lload_n 0, 1) := by decide +kernel
theorem dX2_exponentOf_1 : decode cX2_exponentOf 1 = .ok (.bipush 52, 2) := by decide +kernel
theorem dX2_exponentOf_3 : decode cX2_exponentOf 3 = .ok (.lshr, 1) := by decide +kernel
theorem dX2_exponentOf_4 : decode cX2_exponentOf 4 = .ok (.ldc2_w 118, 3) := by decide +kernel
theorem dX2_exponentOf_7 : decode cX2_exponentOf 7 = .ok (.land, 1) := by decide +kernel
theorem dX2_exponentOf_8 : decode cX2_exponentOf 8 = .ok (.l2i, 1) := by decide +kernel
theorem dX2_exponentOf_9 : decode cX2_exponentOf 9 = .ok (.sipush 1023, 3) := by decide +kernel
theorem dX2_exponentOf_12 : decode cX2_exponentOf 12 = .ok (.isub, 1) := by decide +kernel
theorem dX2_exponentOf_13 : decode cX2_exponentOf 13 = .ok (.ireturn, 1) := by decide +kernel
def fX2_exponentOf (p1 : Int64) : Option Int32 := some ((Int64.toInt32 ((jlshr p1 (52 : Int32)) &&& (2047 : Int64))) - (1023 : Int32))
set_option maxRecDepth 100000 in
set_option maxHeartbeats 4000000 in
theorem kX2_exponentOf (l : Launch) (p1 : Int64) (out : Int32) (hf : fX2_exponentOf p1 = some out) : Sq l yX2_exponentOf cX2_exponentOf 2 (some .int) 0 [.long p1] (some (.int out)) := by
  refine Sq.of [(0, .long p1)] rfl (by decide +kernel) (Nat.le_of_ble_eq_true rfl) ?_
  intro κ hκ C hQ
  subst hκ
  replace C : Cf κ cX2_exponentOf 2 RX2 (some .int) 0 := C
  refine g_lload_n (pc := 0) (i := 0) (j := 0) C dX2_exponentOf_0 rfl rfl ?_
  refine g_bipush (pc := 1) C dX2_exponentOf_1 cb_52 ?_
  refine g_lshr (pc := 3) C dX2_exponentOf_3 ?_
  refine g_ldc2 (pc := 4) C cnX2_118 dX2_exponentOf_4 ?_
  refine g_land (pc := 7) C dX2_exponentOf_7 ?_
  refine g_l2i (pc := 8) C dX2_exponentOf_8 ?_
  refine g_sipush (pc := 9) C dX2_exponentOf_9 cs_1023 ?_
  refine g_isub (pc := 12) C dX2_exponentOf_12 ?_
  exact g_iretp (pc := 13) C hQ dX2_exponentOf_13 hf
theorem dX2_floatOfDouble_0 : decode cX2_floatOfDouble 0 = .ok (.lload_n 0, 1) := by decide +kernel
theorem dX2_floatOfDouble_1 : decode cX2_floatOfDouble 1 = .ok (.lconst 0, 1) := by decide +kernel
theorem dX2_floatOfDouble_2 : decode cX2_floatOfDouble 2 = .ok (.lcmp, 1) := by decide +kernel
theorem dX2_floatOfDouble_3 : decode cX2_floatOfDouble 3 = .ok (.ifCond .ne 5, 3) := by decide +kernel
theorem dX2_floatOfDouble_6 : decode cX2_floatOfDouble 6 = .ok (.lconst 0, 1) := by decide +kernel
theorem dX2_floatOfDouble_7 : decode cX2_floatOfDouble 7 = .ok (.lreturn, 1) := by decide +kernel
theorem dX2_floatOfDouble_8 : decode cX2_floatOfDouble 8 = .ok (.lload_n 0, 1) := by decide +kernel
theorem dX2_floatOfDouble_9 : decode cX2_floatOfDouble 9 = .ok (.bipush 52, 2) := by decide +kernel
theorem dX2_floatOfDouble_11 : decode cX2_floatOfDouble 11 = .ok (.lshr, 1) := by decide +kernel
theorem dX2_floatOfDouble_12 : decode cX2_floatOfDouble 12 = .ok (.ldc2_w 118, 3) := by decide +kernel
theorem dX2_floatOfDouble_15 : decode cX2_floatOfDouble 15 = .ok (.land, 1) := by decide +kernel
theorem dX2_floatOfDouble_16 : decode cX2_floatOfDouble 16 = .ok (.ldc2_w 114, 3) := by decide +kernel
theorem dX2_floatOfDouble_19 : decode cX2_floatOfDouble 19 = .ok (.lsub, 1) := by decide +kernel
theorem dX2_floatOfDouble_20 : decode cX2_floatOfDouble 20 = .ok (.lstore_n 2, 1) := by decide +kernel
theorem dX2_floatOfDouble_21 : decode cX2_floatOfDouble 21 = .ok (.lload_n 0, 1) := by decide +kernel
theorem dX2_floatOfDouble_22 : decode cX2_floatOfDouble 22 = .ok (.ldc2_w 120, 3) := by decide +kernel
theorem dX2_floatOfDouble_25 : decode cX2_floatOfDouble 25 = .ok (.land, 1) := by decide +kernel
theorem dX2_floatOfDouble_26 : decode cX2_floatOfDouble 26 = .ok (.bipush 29, 2) := by decide +kernel
theorem dX2_floatOfDouble_28 : decode cX2_floatOfDouble 28 = .ok (.lshr, 1) := by decide +kernel
theorem dX2_floatOfDouble_29 : decode cX2_floatOfDouble 29 = .ok (.lstore 4, 2) := by decide +kernel
theorem dX2_floatOfDouble_31 : decode cX2_floatOfDouble 31 = .ok (.lload_n 0, 1) := by decide +kernel
theorem dX2_floatOfDouble_32 : decode cX2_floatOfDouble 32 = .ok (.lconst 0, 1) := by decide +kernel
theorem dX2_floatOfDouble_33 : decode cX2_floatOfDouble 33 = .ok (.lcmp, 1) := by decide +kernel
theorem dX2_floatOfDouble_34 : decode cX2_floatOfDouble 34 = .ok (.ifCond .ge 7, 3) := by decide +kernel
theorem dX2_floatOfDouble_37 : decode cX2_floatOfDouble 37 = .ok (.iconst 1, 1) := by decide +kernel
theorem dX2_floatOfDouble_38 : decode cX2_floatOfDouble 38 = .ok (.goto 4, 3) := by decide +kernel
theorem dX2_floatOfDouble_41 : decode cX2_floatOfDouble 41 = .ok (.iconst 0, 1) := by decide +kernel
theorem dX2_floatOfDouble_42 : decode cX2_floatOfDouble 42 = .ok (.lload_n 2, 1) := by decide +kernel
theorem dX2_floatOfDouble_43 : decode cX2_floatOfDouble 43 = .ok (.bipush 23, 2) := by decide +kernel
theorem dX2_floatOfDouble_45 : decode cX2_floatOfDouble 45 = .ok (.lshl, 1) := by decide +kernel
theorem dX2_floatOfDouble_46 : decode cX2_floatOfDouble 46 = .ok (.lload 4, 2) := by decide +kernel
theorem dX2_floatOfDouble_48 : decode cX2_floatOfDouble 48 = .ok (.lor, 1) := by decide +kernel
theorem dX2_floatOfDouble_49 : decode cX2_floatOfDouble 49 = .ok (.invokestatic 97, 3) := by decide +kernel
theorem dX2_floatOfDouble_52 : decode cX2_floatOfDouble 52 = .ok (.lreturn, 1) := by decide +kernel
def fX2_floatOfDouble_b42 (v2 : Int64) (v4 : Int64) (s0 : Int32) : Option Int64 := ((fX2_signedFloat s0 ((jlshl v2 (23 : Int32)) ||| v4)).bind fun r49 => some r49)
def fX2_floatOfDouble (p1 : Int64) : Option Int64 := (if p1 = (0 : Int64) then some (0 : Int64) else (if (0 : Int64) ≤ p1 then fX2_floatOfDouble_b42 (((jlshr p1 (52 : Int32)) &&& (2047 : Int64)) - (896 : Int64)) (jlshr (p1 &&& (4503599627370495 : Int64)) (29 : Int32)) (0 : Int32) else fX2_floatOfDouble_b42 (((jlshr p1 (52 : Int32)) &&& (2047 : Int64)) - (896 : Int64)) (jlshr (p1 &&& (4503599627370495 : Int64)) (29 : Int32)) (1 : Int32)))
set_option maxRecDepth 100000 in
set_option maxHeartbeats 4000000 in
theorem kX2_floatOfDouble (l : Launch) (p1 : Int64) (out : Int64) (hf : fX2_floatOfDouble p1 = some out) : Sq l yX2_floatOfDouble cX2_floatOfDouble 6 (some .long) 1 [.long p1] (some (.long out)) := by
  refine Sq.of [(0, .long p1)] rfl (by decide +kernel) (Nat.le_of_ble_eq_true rfl) ?_
  intro κ hκ C hQ
  subst hκ
  replace C : Cf κ cX2_floatOfDouble 6 RX2 (some .long) 1 := C
  have b42 : ∀ (v2 : Int64) (v4 : Int64) (s0 : Int32) , fX2_floatOfDouble_b42 v2 v4 s0 = some out → G κ (Vp κ) 6 42 [(2, .long v2), (4, .long v4)] [.int s0] := by
    intro v2 v4 s0 hf
    refine g_lload_n (pc := 42) (i := 2) (j := 0) C dX2_floatOfDouble_42 rfl rfl ?_
    refine g_bipush (pc := 43) C dX2_floatOfDouble_43 cb_23 ?_
    refine g_lshl (pc := 45) C dX2_floatOfDouble_45 ?_
    refine g_lload (pc := 46) (i := 4) (j := 1) C dX2_floatOfDouble_46 rfl ?_
    refine g_lor (pc := 48) C dX2_floatOfDouble_48 ?_
    refine g_cpl (pc := 49) (st := []) C lkX2_97 (As := [.int s0, .long ((jlshl v2 (23 : Int32)) ||| v4)]) rfl (fun out h => kX2_signedFloat (kl κ) s0 ((jlshl v2 (23 : Int32)) ||| v4) out h) (by decide) rfl (Nat.le_of_ble_eq_true rfl) dX2_floatOfDouble_49 hf (fun r49 _ hf => ?_)
    exact g_lretp (pc := 52) C hQ dX2_floatOfDouble_52 hf
  refine g_lload_n (pc := 0) (i := 0) (j := 0) C dX2_floatOfDouble_0 rfl rfl ?_
  refine g_lconst (pc := 1) C dX2_floatOfDouble_1 cl_0 ?_
  refine g_lcmp_ne (pc := 2) (tgt := 8) C dX2_floatOfDouble_2 dX2_floatOfDouble_3 rfl hf (fun _ hf => ?_) (fun _ hf => ?_)
  · refine g_lload_n (pc := 8) (i := 0) (j := 0) C dX2_floatOfDouble_8 rfl rfl ?_
    refine g_bipush (pc := 9) C dX2_floatOfDouble_9 cb_52 ?_
    refine g_lshr (pc := 11) C dX2_floatOfDouble_11 ?_
    refine g_ldc2 (pc := 12) C cnX2_118 dX2_floatOfDouble_12 ?_
    refine g_land (pc := 15) C dX2_floatOfDouble_15 ?_
    refine g_ldc2 (pc := 16) C cnX2_114 dX2_floatOfDouble_16 ?_
    refine g_lsub (pc := 19) C dX2_floatOfDouble_19 ?_
    refine g_lstore_n (pc := 20) (i := 2) (L' := [(2, .long (((jlshr p1 (52 : Int32)) &&& (2047 : Int64)) - (896 : Int64))), (0, .long p1)]) C dX2_floatOfDouble_20 rfl (by decide) rfl ?_
    refine g_lload_n (pc := 21) (i := 0) (j := 1) C dX2_floatOfDouble_21 rfl rfl ?_
    refine g_ldc2 (pc := 22) C cnX2_120 dX2_floatOfDouble_22 ?_
    refine g_land (pc := 25) C dX2_floatOfDouble_25 ?_
    refine g_bipush (pc := 26) C dX2_floatOfDouble_26 cb_29 ?_
    refine g_lshr (pc := 28) C dX2_floatOfDouble_28 ?_
    refine g_lstore (pc := 29) (i := 4) (L' := [(4, .long (jlshr (p1 &&& (4503599627370495 : Int64)) (29 : Int32))), (2, .long (((jlshr p1 (52 : Int32)) &&& (2047 : Int64)) - (896 : Int64))), (0, .long p1)]) C dX2_floatOfDouble_29 (by decide) rfl ?_
    refine g_lload_n (pc := 31) (i := 0) (j := 2) C dX2_floatOfDouble_31 rfl rfl ?_
    refine g_lconst (pc := 32) C dX2_floatOfDouble_32 cl_0 ?_
    refine g_lcmp_ge (pc := 33) (tgt := 41) C dX2_floatOfDouble_33 dX2_floatOfDouble_34 rfl hf (fun _ hf => ?_) (fun _ hf => ?_)
    · refine g_iconst (pc := 41) C dX2_floatOfDouble_41 ci_0 ?_
      exact g_at [1, 0] rfl (b42 (((jlshr p1 (52 : Int32)) &&& (2047 : Int64)) - (896 : Int64)) (jlshr (p1 &&& (4503599627370495 : Int64)) (29 : Int32)) (0 : Int32) hf)
    · refine g_iconst (pc := 37) C dX2_floatOfDouble_37 ci_1 ?_
      refine g_goto (pc := 38) (tgt := 42) C dX2_floatOfDouble_38 rfl ?_
      exact g_at [1, 0] rfl (b42 (((jlshr p1 (52 : Int32)) &&& (2047 : Int64)) - (896 : Int64)) (jlshr (p1 &&& (4503599627370495 : Int64)) (29 : Int32)) (1 : Int32) hf)
  · refine g_lconst (pc := 6) C dX2_floatOfDouble_6 cl_0 ?_
    exact g_lretp (pc := 7) C hQ dX2_floatOfDouble_7 hf
theorem dX2_significand_0 : decode cX2_significand 0 = .ok (.lload_n 0, 1) := by decide +kernel
theorem dX2_significand_1 : decode cX2_significand 1 = .ok (.ldc2_w 120, 3) := by decide +kernel
theorem dX2_significand_4 : decode cX2_significand 4 = .ok (.land, 1) := by decide +kernel
theorem dX2_significand_5 : decode cX2_significand 5 = .ok (.ldc2_w 130, 3) := by decide +kernel
theorem dX2_significand_8 : decode cX2_significand 8 = .ok (.lor, 1) := by decide +kernel
theorem dX2_significand_9 : decode cX2_significand 9 = .ok (.lreturn, 1) := by decide +kernel
def fX2_significand (p1 : Int64) : Option Int64 := some ((p1 &&& (4503599627370495 : Int64)) ||| (4503599627370496 : Int64))
set_option maxRecDepth 100000 in
set_option maxHeartbeats 4000000 in
theorem kX2_significand (l : Launch) (p1 : Int64) (out : Int64) (hf : fX2_significand p1 = some out) : Sq l yX2_significand cX2_significand 2 (some .long) 0 [.long p1] (some (.long out)) := by
  refine Sq.of [(0, .long p1)] rfl (by decide +kernel) (Nat.le_of_ble_eq_true rfl) ?_
  intro κ hκ C hQ
  subst hκ
  replace C : Cf κ cX2_significand 2 RX2 (some .long) 0 := C
  refine g_lload_n (pc := 0) (i := 0) (j := 0) C dX2_significand_0 rfl rfl ?_
  refine g_ldc2 (pc := 1) C cnX2_120 dX2_significand_1 ?_
  refine g_land (pc := 4) C dX2_significand_4 ?_
  refine g_ldc2 (pc := 5) C cnX2_130 dX2_significand_5 ?_
  refine g_lor (pc := 8) C dX2_significand_8 ?_
  exact g_lretp (pc := 9) C hQ dX2_significand_9 hf
theorem dX2_hasWhole_0 : decode cX2_hasWhole 0 = .ok (.lload_n 0, 1) := by decide +kernel
theorem dX2_hasWhole_1 : decode cX2_hasWhole 1 = .ok (.lconst 0, 1) := by decide +kernel
theorem dX2_hasWhole_2 : decode cX2_hasWhole 2 = .ok (.lcmp, 1) := by decide +kernel
theorem dX2_hasWhole_3 : decode cX2_hasWhole 3 = .ok (.ifCond .ne 5, 3) := by decide +kernel
theorem dX2_hasWhole_6 : decode cX2_hasWhole 6 = .ok (.iconst 1, 1) := by decide +kernel
theorem dX2_hasWhole_7 : decode cX2_hasWhole 7 = .ok (.ireturn, 1) := by decide +kernel
theorem dX2_hasWhole_8 : decode cX2_hasWhole 8 = .ok (.lload_n 0, 1) := by decide +kernel
theorem dX2_hasWhole_9 : decode cX2_hasWhole 9 = .ok (.invokestatic 122, 3) := by decide +kernel
theorem dX2_hasWhole_12 : decode cX2_hasWhole 12 = .ok (.istore_n 2, 1) := by decide +kernel
theorem dX2_hasWhole_13 : decode cX2_hasWhole 13 = .ok (.iload_n 2, 1) := by decide +kernel
theorem dX2_hasWhole_14 : decode cX2_hasWhole 14 = .ok (.ifCond .lt 9, 3) := by decide +kernel
theorem dX2_hasWhole_17 : decode cX2_hasWhole 17 = .ok (.iload_n 2, 1) := by decide +kernel
theorem dX2_hasWhole_18 : decode cX2_hasWhole 18 = .ok (.bipush 62, 2) := by decide +kernel
theorem dX2_hasWhole_20 : decode cX2_hasWhole 20 = .ok (.if_icmp .le 17, 3) := by decide +kernel
theorem dX2_hasWhole_23 : decode cX2_hasWhole 23 = .ok (.lload_n 0, 1) := by decide +kernel
theorem dX2_hasWhole_24 : decode cX2_hasWhole 24 = .ok (.ldc2_w 125, 3) := by decide +kernel
theorem dX2_hasWhole_27 : decode cX2_hasWhole 27 = .ok (.lcmp, 1) := by decide +kernel
theorem dX2_hasWhole_28 : decode cX2_hasWhole 28 = .ok (.ifCond .ne 7, 3) := by decide +kernel
theorem dX2_hasWhole_31 : decode cX2_hasWhole 31 = .ok (.iconst 1, 1) := by decide +kernel
theorem dX2_hasWhole_32 : decode cX2_hasWhole 32 = .ok (.goto 4, 3) := by decide +kernel
theorem dX2_hasWhole_35 : decode cX2_hasWhole 35 = .ok (.iconst 0, 1) := by decide +kernel
theorem dX2_hasWhole_36 : decode cX2_hasWhole 36 = .ok (.ireturn, 1) := by decide +kernel
theorem dX2_hasWhole_37 : decode cX2_hasWhole 37 = .ok (.iload_n 2, 1) := by decide +kernel
theorem dX2_hasWhole_38 : decode cX2_hasWhole 38 = .ok (.bipush 52, 2) := by decide +kernel
theorem dX2_hasWhole_40 : decode cX2_hasWhole 40 = .ok (.if_icmp .ge 21, 3) := by decide +kernel
theorem dX2_hasWhole_43 : decode cX2_hasWhole 43 = .ok (.lload_n 0, 1) := by decide +kernel
theorem dX2_hasWhole_44 : decode cX2_hasWhole 44 = .ok (.invokestatic 127, 3) := by decide +kernel
theorem dX2_hasWhole_47 : decode cX2_hasWhole 47 = .ok (.lconst 1, 1) := by decide +kernel
theorem dX2_hasWhole_48 : decode cX2_hasWhole 48 = .ok (.bipush 52, 2) := by decide +kernel
theorem dX2_hasWhole_50 : decode cX2_hasWhole 50 = .ok (.iload_n 2, 1) := by decide +kernel
theorem dX2_hasWhole_51 : decode cX2_hasWhole 51 = .ok (.isub, 1) := by decide +kernel
theorem dX2_hasWhole_52 : decode cX2_hasWhole 52 = .ok (.lshl, 1) := by decide +kernel
theorem dX2_hasWhole_53 : decode cX2_hasWhole 53 = .ok (.lconst 1, 1) := by decide +kernel
theorem dX2_hasWhole_54 : decode cX2_hasWhole 54 = .ok (.lsub, 1) := by decide +kernel
theorem dX2_hasWhole_55 : decode cX2_hasWhole 55 = .ok (.land, 1) := by decide +kernel
theorem dX2_hasWhole_56 : decode cX2_hasWhole 56 = .ok (.lconst 0, 1) := by decide +kernel
theorem dX2_hasWhole_57 : decode cX2_hasWhole 57 = .ok (.lcmp, 1) := by decide +kernel
theorem dX2_hasWhole_58 : decode cX2_hasWhole 58 = .ok (.ifCond .ne 7, 3) := by decide +kernel
theorem dX2_hasWhole_61 : decode cX2_hasWhole 61 = .ok (.iconst 1, 1) := by decide +kernel
theorem dX2_hasWhole_62 : decode cX2_hasWhole 62 = .ok (.goto 4, 3) := by decide +kernel
theorem dX2_hasWhole_65 : decode cX2_hasWhole 65 = .ok (.iconst 0, 1) := by decide +kernel
theorem dX2_hasWhole_66 : decode cX2_hasWhole 66 = .ok (.ireturn, 1) := by decide +kernel
def fX2_hasWhole_b23 (v0 : Int64) : Option Int32 := (if v0 = (-4332462841530417152 : Int64) then some (1 : Int32) else some (0 : Int32))
def fX2_hasWhole (p1 : Int64) : Option Int32 := (if p1 = (0 : Int64) then some (1 : Int32) else ((fX2_exponentOf p1).bind fun r9 => (if r9 < 0 then fX2_hasWhole_b23 p1 else (if r9 ≤ (62 : Int32) then (if (52 : Int32) ≤ r9 then some (1 : Int32) else ((fX2_significand p1).bind fun r44 => (if (r44 &&& ((jlshl (1 : Int64) ((52 : Int32) - r9)) - (1 : Int64))) = (0 : Int64) then some (1 : Int32) else some (0 : Int32)))) else fX2_hasWhole_b23 p1))))
set_option maxRecDepth 100000 in
set_option maxHeartbeats 4000000 in
theorem kX2_hasWhole (l : Launch) (p1 : Int64) (out : Int32) (hf : fX2_hasWhole p1 = some out) : Sq l yX2_hasWhole cX2_hasWhole 3 (some .boolean) 1 [.long p1] (some (.int out)) := by
  refine Sq.of [(0, .long p1)] rfl (by decide +kernel) (Nat.le_of_ble_eq_true rfl) ?_
  intro κ hκ C hQ
  subst hκ
  replace C : Cf κ cX2_hasWhole 3 RX2 (some .boolean) 1 := C
  have b23 : ∀ (v0 : Int64) , fX2_hasWhole_b23 v0 = some out → G κ (Vp κ) 3 23 [(0, .long v0)] [] := by
    intro v0 hf
    refine g_lload_n (pc := 23) (i := 0) (j := 0) C dX2_hasWhole_23 rfl rfl ?_
    refine g_ldc2 (pc := 24) C cnX2_125 dX2_hasWhole_24 ?_
    refine g_lcmp_ne (pc := 27) (tgt := 35) C dX2_hasWhole_27 dX2_hasWhole_28 rfl hf (fun _ hf => ?_) (fun _ hf => ?_)
    · refine g_iconst (pc := 35) C dX2_hasWhole_35 ci_0 ?_
      exact g_zret1p (pc := 36) C rfl hQ dX2_hasWhole_36 hf
    · refine g_iconst (pc := 31) C dX2_hasWhole_31 ci_1 ?_
      refine g_goto (pc := 32) (tgt := 36) C dX2_hasWhole_32 rfl ?_
      exact g_zret1p (pc := 36) C rfl hQ dX2_hasWhole_36 hf
  refine g_lload_n (pc := 0) (i := 0) (j := 0) C dX2_hasWhole_0 rfl rfl ?_
  refine g_lconst (pc := 1) C dX2_hasWhole_1 cl_0 ?_
  refine g_lcmp_ne (pc := 2) (tgt := 8) C dX2_hasWhole_2 dX2_hasWhole_3 rfl hf (fun _ hf => ?_) (fun _ hf => ?_)
  · refine g_lload_n (pc := 8) (i := 0) (j := 0) C dX2_hasWhole_8 rfl rfl ?_
    refine g_cpi (pc := 9) (st := []) C lkX2_122 (As := [.long p1]) rfl (fun out h => kX2_exponentOf (kl κ) p1 out h) (by decide) rfl (Nat.le_of_ble_eq_true rfl) dX2_hasWhole_9 hf (fun r9 _ hf => ?_)
    refine g_istore_n (pc := 12) (i := 2) (L' := [(2, .int r9), (0, .long p1)]) C dX2_hasWhole_12 rfl (by decide) rfl ?_
    refine g_iload_n (pc := 13) (i := 2) (j := 0) C dX2_hasWhole_13 rfl rfl ?_
    refine g_if_lt (pc := 14) (tgt := 23) C dX2_hasWhole_14 rfl hf (fun _ hf => ?_) (fun _ hf => ?_)
    · exact g_at [1] rfl (b23 p1 hf)
    · refine g_iload_n (pc := 17) (i := 2) (j := 0) C dX2_hasWhole_17 rfl rfl ?_
      refine g_bipush (pc := 18) C dX2_hasWhole_18 cb_62 ?_
      refine g_icmp_le (pc := 20) (tgt := 37) C dX2_hasWhole_20 rfl hf (fun _ hf => ?_) (fun _ hf => ?_)
      · refine g_iload_n (pc := 37) (i := 2) (j := 0) C dX2_hasWhole_37 rfl rfl ?_
        refine g_bipush (pc := 38) C dX2_hasWhole_38 cb_52 ?_
        refine g_icmp_ge (pc := 40) (tgt := 61) C dX2_hasWhole_40 rfl hf (fun _ hf => ?_) (fun _ hf => ?_)
        · refine g_iconst (pc := 61) C dX2_hasWhole_61 ci_1 ?_
          refine g_goto (pc := 62) (tgt := 66) C dX2_hasWhole_62 rfl ?_
          exact g_zret1p (pc := 66) C rfl hQ dX2_hasWhole_66 hf
        · refine g_lload_n (pc := 43) (i := 0) (j := 1) C dX2_hasWhole_43 rfl rfl ?_
          refine g_cpl (pc := 44) (st := []) C lkX2_127 (As := [.long p1]) rfl (fun out h => kX2_significand (kl κ) p1 out h) (by decide) rfl (Nat.le_of_ble_eq_true rfl) dX2_hasWhole_44 hf (fun r44 _ hf => ?_)
          refine g_lconst (pc := 47) C dX2_hasWhole_47 cl_1 ?_
          refine g_bipush (pc := 48) C dX2_hasWhole_48 cb_52 ?_
          refine g_iload_n (pc := 50) (i := 2) (j := 0) C dX2_hasWhole_50 rfl rfl ?_
          refine g_isub (pc := 51) C dX2_hasWhole_51 ?_
          refine g_lshl (pc := 52) C dX2_hasWhole_52 ?_
          refine g_lconst (pc := 53) C dX2_hasWhole_53 cl_1 ?_
          refine g_lsub (pc := 54) C dX2_hasWhole_54 ?_
          refine g_land (pc := 55) C dX2_hasWhole_55 ?_
          refine g_lconst (pc := 56) C dX2_hasWhole_56 cl_0 ?_
          refine g_lcmp_ne (pc := 57) (tgt := 65) C dX2_hasWhole_57 dX2_hasWhole_58 rfl hf (fun _ hf => ?_) (fun _ hf => ?_)
          · refine g_iconst (pc := 65) C dX2_hasWhole_65 ci_0 ?_
            exact g_zret1p (pc := 66) C rfl hQ dX2_hasWhole_66 hf
          · refine g_iconst (pc := 61) C dX2_hasWhole_61 ci_1 ?_
            refine g_goto (pc := 62) (tgt := 66) C dX2_hasWhole_62 rfl ?_
            exact g_zret1p (pc := 66) C rfl hQ dX2_hasWhole_66 hf
      · exact g_at [1] rfl (b23 p1 hf)
  · refine g_iconst (pc := 6) C dX2_hasWhole_6 ci_1 ?_
    exact g_zret1p (pc := 7) C rfl hQ dX2_hasWhole_7 hf
theorem dX2_highest_0 : decode cX2_highest 0 = .ok (.iload_n 0, 1) := by decide +kernel
theorem dX2_highest_1 : decode cX2_highest 1 = .ok (.tableswitch 81 0 10 #[59, 61, 65, 69, 73, 81, 81, 81, 81, 81, 77], 59) := by decide +kernel
theorem dX2_highest_60 : decode cX2_highest 60 = .ok (.lconst 1, 1) := by decide +kernel
theorem dX2_highest_61 : decode cX2_highest 61 = .ok (.lreturn, 1) := by decide +kernel
theorem dX2_highest_62 : decode cX2_highest 62 = .ok (.ldc2_w 74, 3) := by decide +kernel
theorem dX2_highest_65 : decode cX2_highest 65 = .ok (.lreturn, 1) := by decide +kernel
theorem dX2_highest_66 : decode cX2_highest 66 = .ok (.ldc2_w 76, 3) := by decide +kernel
theorem dX2_highest_69 : decode cX2_highest 69 = .ok (.lreturn, 1) := by decide +kernel
theorem dX2_highest_70 : decode cX2_highest 70 = .ok (.ldc2_w 78, 3) := by decide +kernel
theorem dX2_highest_73 : decode cX2_highest 73 = .ok (.lreturn, 1) := by decide +kernel
theorem dX2_highest_74 : decode cX2_highest 74 = .ok (.ldc2_w 80, 3) := by decide +kernel
theorem dX2_highest_77 : decode cX2_highest 77 = .ok (.lreturn, 1) := by decide +kernel
theorem dX2_highest_78 : decode cX2_highest 78 = .ok (.ldc2_w 82, 3) := by decide +kernel
theorem dX2_highest_81 : decode cX2_highest 81 = .ok (.lreturn, 1) := by decide +kernel
theorem dX2_highest_82 : decode cX2_highest 82 = .ok (.ldc2_w 84, 3) := by decide +kernel
theorem dX2_highest_85 : decode cX2_highest 85 = .ok (.lreturn, 1) := by decide +kernel
def fX2_highest (p1 : Int32) : Option Int64 := (if p1 = 0 then some (1 : Int64) else (if p1 = 1 then some (127 : Int64) else (if p1 = 2 then some (65535 : Int64) else (if p1 = 3 then some (32767 : Int64) else (if p1 = 4 then some (2147483647 : Int64) else (if p1 = 5 then some (9223372036854775807 : Int64) else (if p1 = 6 then some (9223372036854775807 : Int64) else (if p1 = 7 then some (9223372036854775807 : Int64) else (if p1 = 8 then some (9223372036854775807 : Int64) else (if p1 = 9 then some (9223372036854775807 : Int64) else (if p1 = 10 then some (9999 : Int64) else some (9223372036854775807 : Int64))))))))))))
set_option maxRecDepth 100000 in
set_option maxHeartbeats 4000000 in
theorem kX2_highest (l : Launch) (p1 : Int32) (out : Int64) (hf : fX2_highest p1 = some out) : Sq l yX2_highest cX2_highest 1 (some .long) 0 [.int p1] (some (.long out)) := by
  refine Sq.of [(0, .int p1)] rfl (by decide +kernel) (Nat.le_of_ble_eq_true rfl) ?_
  intro κ hκ C hQ
  subst hκ
  replace C : Cf κ cX2_highest 1 RX2 (some .long) 0 := C
  refine g_iload_n (pc := 0) (i := 0) (j := 0) C dX2_highest_0 rfl rfl ?_
  by_cases h1_0 : p1 = 0
  · replace hf := ite_t h1_0 hf
    refine g_tabIn (pc := 1) (v := 0) (off := 59) (tgt := 60) C dX2_highest_1 h1_0 (by decide) rfl ?_
    refine g_lconst (pc := 60) C dX2_highest_60 cl_1 ?_
    exact g_lretp (pc := 61) C hQ dX2_highest_61 hf
  replace hf := ite_f h1_0 hf
  by_cases h1_1 : p1 = 1
  · replace hf := ite_t h1_1 hf
    refine g_tabIn (pc := 1) (v := 1) (off := 61) (tgt := 62) C dX2_highest_1 h1_1 (by decide) rfl ?_
    refine g_ldc2 (pc := 62) C cnX2_74 dX2_highest_62 ?_
    exact g_lretp (pc := 65) C hQ dX2_highest_65 hf
  replace hf := ite_f h1_1 hf
  by_cases h1_2 : p1 = 2
  · replace hf := ite_t h1_2 hf
    refine g_tabIn (pc := 1) (v := 2) (off := 65) (tgt := 66) C dX2_highest_1 h1_2 (by decide) rfl ?_
    refine g_ldc2 (pc := 66) C cnX2_76 dX2_highest_66 ?_
    exact g_lretp (pc := 69) C hQ dX2_highest_69 hf
  replace hf := ite_f h1_2 hf
  by_cases h1_3 : p1 = 3
  · replace hf := ite_t h1_3 hf
    refine g_tabIn (pc := 1) (v := 3) (off := 69) (tgt := 70) C dX2_highest_1 h1_3 (by decide) rfl ?_
    refine g_ldc2 (pc := 70) C cnX2_78 dX2_highest_70 ?_
    exact g_lretp (pc := 73) C hQ dX2_highest_73 hf
  replace hf := ite_f h1_3 hf
  by_cases h1_4 : p1 = 4
  · replace hf := ite_t h1_4 hf
    refine g_tabIn (pc := 1) (v := 4) (off := 73) (tgt := 74) C dX2_highest_1 h1_4 (by decide) rfl ?_
    refine g_ldc2 (pc := 74) C cnX2_80 dX2_highest_74 ?_
    exact g_lretp (pc := 77) C hQ dX2_highest_77 hf
  replace hf := ite_f h1_4 hf
  by_cases h1_5 : p1 = 5
  · replace hf := ite_t h1_5 hf
    refine g_tabIn (pc := 1) (v := 5) (off := 81) (tgt := 82) C dX2_highest_1 h1_5 (by decide) rfl ?_
    refine g_ldc2 (pc := 82) C cnX2_84 dX2_highest_82 ?_
    exact g_lretp (pc := 85) C hQ dX2_highest_85 hf
  replace hf := ite_f h1_5 hf
  by_cases h1_6 : p1 = 6
  · replace hf := ite_t h1_6 hf
    refine g_tabIn (pc := 1) (v := 6) (off := 81) (tgt := 82) C dX2_highest_1 h1_6 (by decide) rfl ?_
    refine g_ldc2 (pc := 82) C cnX2_84 dX2_highest_82 ?_
    exact g_lretp (pc := 85) C hQ dX2_highest_85 hf
  replace hf := ite_f h1_6 hf
  by_cases h1_7 : p1 = 7
  · replace hf := ite_t h1_7 hf
    refine g_tabIn (pc := 1) (v := 7) (off := 81) (tgt := 82) C dX2_highest_1 h1_7 (by decide) rfl ?_
    refine g_ldc2 (pc := 82) C cnX2_84 dX2_highest_82 ?_
    exact g_lretp (pc := 85) C hQ dX2_highest_85 hf
  replace hf := ite_f h1_7 hf
  by_cases h1_8 : p1 = 8
  · replace hf := ite_t h1_8 hf
    refine g_tabIn (pc := 1) (v := 8) (off := 81) (tgt := 82) C dX2_highest_1 h1_8 (by decide) rfl ?_
    refine g_ldc2 (pc := 82) C cnX2_84 dX2_highest_82 ?_
    exact g_lretp (pc := 85) C hQ dX2_highest_85 hf
  replace hf := ite_f h1_8 hf
  by_cases h1_9 : p1 = 9
  · replace hf := ite_t h1_9 hf
    refine g_tabIn (pc := 1) (v := 9) (off := 81) (tgt := 82) C dX2_highest_1 h1_9 (by decide) rfl ?_
    refine g_ldc2 (pc := 82) C cnX2_84 dX2_highest_82 ?_
    exact g_lretp (pc := 85) C hQ dX2_highest_85 hf
  replace hf := ite_f h1_9 hf
  by_cases h1_10 : p1 = 10
  · replace hf := ite_t h1_10 hf
    refine g_tabIn (pc := 1) (v := 10) (off := 77) (tgt := 78) C dX2_highest_1 h1_10 (by decide) rfl ?_
    refine g_ldc2 (pc := 78) C cnX2_82 dX2_highest_78 ?_
    exact g_lretp (pc := 81) C hQ dX2_highest_81 hf
  replace hf := ite_f h1_10 hf
  have e1_0 := i32_ne (n := 0) h1_0 (by decide)
  have e1_1 := i32_ne (n := 1) h1_1 (by decide)
  have e1_2 := i32_ne (n := 2) h1_2 (by decide)
  have e1_3 := i32_ne (n := 3) h1_3 (by decide)
  have e1_4 := i32_ne (n := 4) h1_4 (by decide)
  have e1_5 := i32_ne (n := 5) h1_5 (by decide)
  have e1_6 := i32_ne (n := 6) h1_6 (by decide)
  have e1_7 := i32_ne (n := 7) h1_7 (by decide)
  have e1_8 := i32_ne (n := 8) h1_8 (by decide)
  have e1_9 := i32_ne (n := 9) h1_9 (by decide)
  have e1_10 := i32_ne (n := 10) h1_10 (by decide)
  refine g_tabOut (pc := 1) (tgt := 82) C dX2_highest_1 (by omega) rfl ?_
  refine g_ldc2 (pc := 82) C cnX2_84 dX2_highest_82 ?_
  exact g_lretp (pc := 85) C hQ dX2_highest_85 hf
theorem dX2_lowest_0 : decode cX2_lowest 0 = .ok (.iload_n 0, 1) := by decide +kernel
theorem dX2_lowest_1 : decode cX2_lowest 1 = .ok (.tableswitch 59 1 7 #[43, 59, 47, 51, 55, 55, 55], 43) := by decide +kernel
theorem dX2_lowest_44 : decode cX2_lowest 44 = .ok (.ldc2_w 66, 3) := by decide +kernel
theorem dX2_lowest_47 : decode cX2_lowest 47 = .ok (.lreturn, 1) := by decide +kernel
theorem dX2_lowest_48 : decode cX2_lowest 48 = .ok (.ldc2_w 68, 3) := by decide +kernel
theorem dX2_lowest_51 : decode cX2_lowest 51 = .ok (.lreturn, 1) := by decide +kernel
theorem dX2_lowest_52 : decode cX2_lowest 52 = .ok (.ldc2_w 70, 3) := by decide +kernel
theorem dX2_lowest_55 : decode cX2_lowest 55 = .ok (.lreturn, 1) := by decide +kernel
theorem dX2_lowest_56 : decode cX2_lowest 56 = .ok (.ldc2_w 72, 3) := by decide +kernel
theorem dX2_lowest_59 : decode cX2_lowest 59 = .ok (.lreturn, 1) := by decide +kernel
theorem dX2_lowest_60 : decode cX2_lowest 60 = .ok (.lconst 0, 1) := by decide +kernel
theorem dX2_lowest_61 : decode cX2_lowest 61 = .ok (.lreturn, 1) := by decide +kernel
def fX2_lowest (p1 : Int32) : Option Int64 := (if p1 = 1 then some (-128 : Int64) else (if p1 = 2 then some (0 : Int64) else (if p1 = 3 then some (-32768 : Int64) else (if p1 = 4 then some (-2147483648 : Int64) else (if p1 = 5 then some (-9223372036854775808 : Int64) else (if p1 = 6 then some (-9223372036854775808 : Int64) else (if p1 = 7 then some (-9223372036854775808 : Int64) else some (0 : Int64))))))))
set_option maxRecDepth 100000 in
set_option maxHeartbeats 4000000 in
theorem kX2_lowest (l : Launch) (p1 : Int32) (out : Int64) (hf : fX2_lowest p1 = some out) : Sq l yX2_lowest cX2_lowest 1 (some .long) 0 [.int p1] (some (.long out)) := by
  refine Sq.of [(0, .int p1)] rfl (by decide +kernel) (Nat.le_of_ble_eq_true rfl) ?_
  intro κ hκ C hQ
  subst hκ
  replace C : Cf κ cX2_lowest 1 RX2 (some .long) 0 := C
  refine g_iload_n (pc := 0) (i := 0) (j := 0) C dX2_lowest_0 rfl rfl ?_
  by_cases h1_0 : p1 = 1
  · replace hf := ite_t h1_0 hf
    refine g_tabIn (pc := 1) (v := 1) (off := 43) (tgt := 44) C dX2_lowest_1 h1_0 (by decide) rfl ?_
    refine g_ldc2 (pc := 44) C cnX2_66 dX2_lowest_44 ?_
    exact g_lretp (pc := 47) C hQ dX2_lowest_47 hf
  replace hf := ite_f h1_0 hf
  by_cases h1_1 : p1 = 2
  · replace hf := ite_t h1_1 hf
    refine g_tabIn (pc := 1) (v := 2) (off := 59) (tgt := 60) C dX2_lowest_1 h1_1 (by decide) rfl ?_
    refine g_lconst (pc := 60) C dX2_lowest_60 cl_0 ?_
    exact g_lretp (pc := 61) C hQ dX2_lowest_61 hf
  replace hf := ite_f h1_1 hf
  by_cases h1_2 : p1 = 3
  · replace hf := ite_t h1_2 hf
    refine g_tabIn (pc := 1) (v := 3) (off := 47) (tgt := 48) C dX2_lowest_1 h1_2 (by decide) rfl ?_
    refine g_ldc2 (pc := 48) C cnX2_68 dX2_lowest_48 ?_
    exact g_lretp (pc := 51) C hQ dX2_lowest_51 hf
  replace hf := ite_f h1_2 hf
  by_cases h1_3 : p1 = 4
  · replace hf := ite_t h1_3 hf
    refine g_tabIn (pc := 1) (v := 4) (off := 51) (tgt := 52) C dX2_lowest_1 h1_3 (by decide) rfl ?_
    refine g_ldc2 (pc := 52) C cnX2_70 dX2_lowest_52 ?_
    exact g_lretp (pc := 55) C hQ dX2_lowest_55 hf
  replace hf := ite_f h1_3 hf
  by_cases h1_4 : p1 = 5
  · replace hf := ite_t h1_4 hf
    refine g_tabIn (pc := 1) (v := 5) (off := 55) (tgt := 56) C dX2_lowest_1 h1_4 (by decide) rfl ?_
    refine g_ldc2 (pc := 56) C cnX2_72 dX2_lowest_56 ?_
    exact g_lretp (pc := 59) C hQ dX2_lowest_59 hf
  replace hf := ite_f h1_4 hf
  by_cases h1_5 : p1 = 6
  · replace hf := ite_t h1_5 hf
    refine g_tabIn (pc := 1) (v := 6) (off := 55) (tgt := 56) C dX2_lowest_1 h1_5 (by decide) rfl ?_
    refine g_ldc2 (pc := 56) C cnX2_72 dX2_lowest_56 ?_
    exact g_lretp (pc := 59) C hQ dX2_lowest_59 hf
  replace hf := ite_f h1_5 hf
  by_cases h1_6 : p1 = 7
  · replace hf := ite_t h1_6 hf
    refine g_tabIn (pc := 1) (v := 7) (off := 55) (tgt := 56) C dX2_lowest_1 h1_6 (by decide) rfl ?_
    refine g_ldc2 (pc := 56) C cnX2_72 dX2_lowest_56 ?_
    exact g_lretp (pc := 59) C hQ dX2_lowest_59 hf
  replace hf := ite_f h1_6 hf
  have e1_0 := i32_ne (n := 1) h1_0 (by decide)
  have e1_1 := i32_ne (n := 2) h1_1 (by decide)
  have e1_2 := i32_ne (n := 3) h1_2 (by decide)
  have e1_3 := i32_ne (n := 4) h1_3 (by decide)
  have e1_4 := i32_ne (n := 5) h1_4 (by decide)
  have e1_5 := i32_ne (n := 6) h1_5 (by decide)
  have e1_6 := i32_ne (n := 7) h1_6 (by decide)
  refine g_tabOut (pc := 1) (tgt := 60) C dX2_lowest_1 (by omega) rfl ?_
  refine g_lconst (pc := 60) C dX2_lowest_60 cl_0 ?_
  exact g_lretp (pc := 61) C hQ dX2_lowest_61 hf
theorem dX2_isBetween_0 : decode cX2_isBetween 0 = .ok (.lload_n 0, 1) := by decide +kernel
theorem dX2_isBetween_1 : decode cX2_isBetween 1 = .ok (.iload_n 2, 1) := by decide +kernel
theorem dX2_isBetween_2 : decode cX2_isBetween 2 = .ok (.invokestatic 86, 3) := by decide +kernel
theorem dX2_isBetween_5 : decode cX2_isBetween 5 = .ok (.lcmp, 1) := by decide +kernel
theorem dX2_isBetween_6 : decode cX2_isBetween 6 = .ok (.ifCond .lt 16, 3) := by decide +kernel
theorem dX2_isBetween_9 : decode cX2_isBetween 9 = .ok (.lload_n 0, 1) := by decide +kernel
theorem dX2_isBetween_10 : decode cX2_isBetween 10 = .ok (.iload_n 2, 1) := by decide +kernel
theorem dX2_isBetween_11 : decode cX2_isBetween 11 = .ok (.invokestatic 90, 3) := by decide +kernel
theorem dX2_isBetween_14 : decode cX2_isBetween 14 = .ok (.lcmp, 1) := by decide +kernel
theorem dX2_isBetween_15 : decode cX2_isBetween 15 = .ok (.ifCond .gt 7, 3) := by decide +kernel
theorem dX2_isBetween_18 : decode cX2_isBetween 18 = .ok (.iconst 1, 1) := by decide +kernel
theorem dX2_isBetween_19 : decode cX2_isBetween 19 = .ok (.goto 4, 3) := by decide +kernel
theorem dX2_isBetween_22 : decode cX2_isBetween 22 = .ok (.iconst 0, 1) := by decide +kernel
theorem dX2_isBetween_23 : decode cX2_isBetween 23 = .ok (.ireturn, 1) := by decide +kernel
def fX2_isBetween (p1 : Int64) (p2 : Int32) : Option Int32 := ((fX2_lowest p2).bind fun r2 => (if p1 < r2 then some (0 : Int32) else ((fX2_highest p2).bind fun r11 => (if r11 < p1 then some (0 : Int32) else some (1 : Int32)))))
set_option maxRecDepth 100000 in
set_option maxHeartbeats 4000000 in
theorem kX2_isBetween (l : Launch) (p1 : Int64) (p2 : Int32) (out : Int32) (hf : fX2_isBetween p1 p2 = some out) : Sq l yX2_isBetween cX2_isBetween 3 (some .boolean) 1 [.long p1, .int p2] (some (.int out)) := by
  refine Sq.of [(0, .long p1), (2, .int p2)] rfl (by decide +kernel) (Nat.le_of_ble_eq_true rfl) ?_
  intro κ hκ C hQ
  subst hκ
  replace C : Cf κ cX2_isBetween 3 RX2 (some .boolean) 1 := C
  refine g_lload_n (pc := 0) (i := 0) (j := 0) C dX2_isBetween_0 rfl rfl ?_
  refine g_iload_n (pc := 1) (i := 2) (j := 1) C dX2_isBetween_1 rfl rfl ?_
  refine g_cpl (pc := 2) (st := [.long p1]) C lkX2_86 (As := [.int p2]) rfl (fun out h => kX2_lowest (kl κ) p2 out h) (by decide) rfl (Nat.le_of_ble_eq_true rfl) dX2_isBetween_2 hf (fun r2 _ hf => ?_)
  refine g_lcmp_lt (pc := 5) (tgt := 22) C dX2_isBetween_5 dX2_isBetween_6 rfl hf (fun _ hf => ?_) (fun _ hf => ?_)
  · refine g_iconst (pc := 22) C dX2_isBetween_22 ci_0 ?_
    exact g_zret1p (pc := 23) C rfl hQ dX2_isBetween_23 hf
  · refine g_lload_n (pc := 9) (i := 0) (j := 0) C dX2_isBetween_9 rfl rfl ?_
    refine g_iload_n (pc := 10) (i := 2) (j := 1) C dX2_isBetween_10 rfl rfl ?_
    refine g_cpl (pc := 11) (st := [.long p1]) C lkX2_90 (As := [.int p2]) rfl (fun out h => kX2_highest (kl κ) p2 out h) (by decide) rfl (Nat.le_of_ble_eq_true rfl) dX2_isBetween_11 hf (fun r11 _ hf => ?_)
    refine g_lcmp_gt (pc := 14) (tgt := 22) C dX2_isBetween_14 dX2_isBetween_15 rfl hf (fun _ hf => ?_) (fun _ hf => ?_)
    · refine g_iconst (pc := 22) C dX2_isBetween_22 ci_0 ?_
      exact g_zret1p (pc := 23) C rfl hQ dX2_isBetween_23 hf
    · refine g_iconst (pc := 18) C dX2_isBetween_18 ci_1 ?_
      refine g_goto (pc := 19) (tgt := 23) C dX2_isBetween_19 rfl ?_
      exact g_zret1p (pc := 23) C rfl hQ dX2_isBetween_23 hf
theorem dX2_wholeOf_0 : decode cX2_wholeOf 0 = .ok (.lload_n 0, 1) := by decide +kernel
theorem dX2_wholeOf_1 : decode cX2_wholeOf 1 = .ok (.lconst 0, 1) := by decide +kernel
theorem dX2_wholeOf_2 : decode cX2_wholeOf 2 = .ok (.lcmp, 1) := by decide +kernel
theorem dX2_wholeOf_3 : decode cX2_wholeOf 3 = .ok (.ifCond .ne 5, 3) := by decide +kernel
theorem dX2_wholeOf_6 : decode cX2_wholeOf 6 = .ok (.lconst 0, 1) := by decide +kernel
theorem dX2_wholeOf_7 : decode cX2_wholeOf 7 = .ok (.lreturn, 1) := by decide +kernel
theorem dX2_wholeOf_8 : decode cX2_wholeOf 8 = .ok (.lload_n 0, 1) := by decide +kernel
theorem dX2_wholeOf_9 : decode cX2_wholeOf 9 = .ok (.invokestatic 122, 3) := by decide +kernel
theorem dX2_wholeOf_12 : decode cX2_wholeOf 12 = .ok (.istore_n 2, 1) := by decide +kernel
theorem dX2_wholeOf_13 : decode cX2_wholeOf 13 = .ok (.lload_n 0, 1) := by decide +kernel
theorem dX2_wholeOf_14 : decode cX2_wholeOf 14 = .ok (.invokestatic 127, 3) := by decide +kernel
theorem dX2_wholeOf_17 : decode cX2_wholeOf 17 = .ok (.lstore_n 3, 1) := by decide +kernel
theorem dX2_wholeOf_18 : decode cX2_wholeOf 18 = .ok (.iload_n 2, 1) := by decide +kernel
theorem dX2_wholeOf_19 : decode cX2_wholeOf 19 = .ok (.bipush 52, 2) := by decide +kernel
theorem dX2_wholeOf_21 : decode cX2_wholeOf 21 = .ok (.if_icmp .lt 12, 3) := by decide +kernel
theorem dX2_wholeOf_24 : decode cX2_wholeOf 24 = .ok (.lload_n 3, 1) := by decide +kernel
theorem dX2_wholeOf_25 : decode cX2_wholeOf 25 = .ok (.iload_n 2, 1) := by decide +kernel
theorem dX2_wholeOf_26 : decode cX2_wholeOf 26 = .ok (.bipush 52, 2) := by decide +kernel
theorem dX2_wholeOf_28 : decode cX2_wholeOf 28 = .ok (.isub, 1) := by decide +kernel
theorem dX2_wholeOf_29 : decode cX2_wholeOf 29 = .ok (.lshl, 1) := by decide +kernel
theorem dX2_wholeOf_30 : decode cX2_wholeOf 30 = .ok (.goto 9, 3) := by decide +kernel
theorem dX2_wholeOf_33 : decode cX2_wholeOf 33 = .ok (.lload_n 3, 1) := by decide +kernel
theorem dX2_wholeOf_34 : decode cX2_wholeOf 34 = .ok (.bipush 52, 2) := by decide +kernel
theorem dX2_wholeOf_36 : decode cX2_wholeOf 36 = .ok (.iload_n 2, 1) := by decide +kernel
theorem dX2_wholeOf_37 : decode cX2_wholeOf 37 = .ok (.isub, 1) := by decide +kernel
theorem dX2_wholeOf_38 : decode cX2_wholeOf 38 = .ok (.lshr, 1) := by decide +kernel
theorem dX2_wholeOf_39 : decode cX2_wholeOf 39 = .ok (.lstore 5, 2) := by decide +kernel
theorem dX2_wholeOf_41 : decode cX2_wholeOf 41 = .ok (.lload_n 0, 1) := by decide +kernel
theorem dX2_wholeOf_42 : decode cX2_wholeOf 42 = .ok (.lconst 0, 1) := by decide +kernel
theorem dX2_wholeOf_43 : decode cX2_wholeOf 43 = .ok (.lcmp, 1) := by decide +kernel
theorem dX2_wholeOf_44 : decode cX2_wholeOf 44 = .ok (.ifCond .ge 9, 3) := by decide +kernel
theorem dX2_wholeOf_47 : decode cX2_wholeOf 47 = .ok (.lload 5, 2) := by decide +kernel
theorem dX2_wholeOf_49 : decode cX2_wholeOf 49 = .ok (.lneg, 1) := by decide +kernel
theorem dX2_wholeOf_50 : decode cX2_wholeOf 50 = .ok (.goto 5, 3) := by decide +kernel
theorem dX2_wholeOf_53 : decode cX2_wholeOf 53 = .ok (.lload 5, 2) := by decide +kernel
theorem dX2_wholeOf_55 : decode cX2_wholeOf 55 = .ok (.lreturn, 1) := by decide +kernel
def fX2_wholeOf_b39 (v0 : Int64) (s0 : Int64) : Option Int64 := (if (0 : Int64) ≤ v0 then some s0 else some (-s0))
def fX2_wholeOf (p1 : Int64) : Option Int64 := (if p1 = (0 : Int64) then some (0 : Int64) else ((fX2_exponentOf p1).bind fun r9 => ((fX2_significand p1).bind fun r14 => (if r9 < (52 : Int32) then fX2_wholeOf_b39 p1 (jlshr r14 ((52 : Int32) - r9)) else fX2_wholeOf_b39 p1 (jlshl r14 (r9 - (52 : Int32)))))))
set_option maxRecDepth 100000 in
set_option maxHeartbeats 4000000 in
theorem kX2_wholeOf (l : Launch) (p1 : Int64) (out : Int64) (hf : fX2_wholeOf p1 = some out) : Sq l yX2_wholeOf cX2_wholeOf 7 (some .long) 1 [.long p1] (some (.long out)) := by
  refine Sq.of [(0, .long p1)] rfl (by decide +kernel) (Nat.le_of_ble_eq_true rfl) ?_
  intro κ hκ C hQ
  subst hκ
  replace C : Cf κ cX2_wholeOf 7 RX2 (some .long) 1 := C
  have b39 : ∀ (v0 : Int64) (s0 : Int64) , fX2_wholeOf_b39 v0 s0 = some out → G κ (Vp κ) 7 39 [(0, .long v0)] [.long s0] := by
    intro v0 s0 hf
    refine g_lstore (pc := 39) (i := 5) (L' := [(5, .long s0), (0, .long v0)]) C dX2_wholeOf_39 (by decide) rfl ?_
    refine g_lload_n (pc := 41) (i := 0) (j := 1) C dX2_wholeOf_41 rfl rfl ?_
    refine g_lconst (pc := 42) C dX2_wholeOf_42 cl_0 ?_
    refine g_lcmp_ge (pc := 43) (tgt := 53) C dX2_wholeOf_43 dX2_wholeOf_44 rfl hf (fun _ hf => ?_) (fun _ hf => ?_)
    · refine g_lload (pc := 53) (i := 5) (j := 0) C dX2_wholeOf_53 rfl ?_
      exact g_lretp (pc := 55) C hQ dX2_wholeOf_55 hf
    · refine g_lload (pc := 47) (i := 5) (j := 0) C dX2_wholeOf_47 rfl ?_
      refine g_lneg (pc := 49) C dX2_wholeOf_49 ?_
      refine g_goto (pc := 50) (tgt := 55) C dX2_wholeOf_50 rfl ?_
      exact g_lretp (pc := 55) C hQ dX2_wholeOf_55 hf
  refine g_lload_n (pc := 0) (i := 0) (j := 0) C dX2_wholeOf_0 rfl rfl ?_
  refine g_lconst (pc := 1) C dX2_wholeOf_1 cl_0 ?_
  refine g_lcmp_ne (pc := 2) (tgt := 8) C dX2_wholeOf_2 dX2_wholeOf_3 rfl hf (fun _ hf => ?_) (fun _ hf => ?_)
  · refine g_lload_n (pc := 8) (i := 0) (j := 0) C dX2_wholeOf_8 rfl rfl ?_
    refine g_cpi (pc := 9) (st := []) C lkX2_122 (As := [.long p1]) rfl (fun out h => kX2_exponentOf (kl κ) p1 out h) (by decide) rfl (Nat.le_of_ble_eq_true rfl) dX2_wholeOf_9 hf (fun r9 _ hf => ?_)
    refine g_istore_n (pc := 12) (i := 2) (L' := [(2, .int r9), (0, .long p1)]) C dX2_wholeOf_12 rfl (by decide) rfl ?_
    refine g_lload_n (pc := 13) (i := 0) (j := 1) C dX2_wholeOf_13 rfl rfl ?_
    refine g_cpl (pc := 14) (st := []) C lkX2_127 (As := [.long p1]) rfl (fun out h => kX2_significand (kl κ) p1 out h) (by decide) rfl (Nat.le_of_ble_eq_true rfl) dX2_wholeOf_14 hf (fun r14 _ hf => ?_)
    refine g_lstore_n (pc := 17) (i := 3) (L' := [(3, .long r14), (2, .int r9), (0, .long p1)]) C dX2_wholeOf_17 rfl (by decide) rfl ?_
    refine g_iload_n (pc := 18) (i := 2) (j := 1) C dX2_wholeOf_18 rfl rfl ?_
    refine g_bipush (pc := 19) C dX2_wholeOf_19 cb_52 ?_
    refine g_icmp_lt (pc := 21) (tgt := 33) C dX2_wholeOf_21 rfl hf (fun _ hf => ?_) (fun _ hf => ?_)
    · refine g_lload_n (pc := 33) (i := 3) (j := 0) C dX2_wholeOf_33 rfl rfl ?_
      refine g_bipush (pc := 34) C dX2_wholeOf_34 cb_52 ?_
      refine g_iload_n (pc := 36) (i := 2) (j := 1) C dX2_wholeOf_36 rfl rfl ?_
      refine g_isub (pc := 37) C dX2_wholeOf_37 ?_
      refine g_lshr (pc := 38) C dX2_wholeOf_38 ?_
      exact g_at [2] rfl (b39 p1 (jlshr r14 ((52 : Int32) - r9)) hf)
    · refine g_lload_n (pc := 24) (i := 3) (j := 0) C dX2_wholeOf_24 rfl rfl ?_
      refine g_iload_n (pc := 25) (i := 2) (j := 1) C dX2_wholeOf_25 rfl rfl ?_
      refine g_bipush (pc := 26) C dX2_wholeOf_26 cb_52 ?_
      refine g_isub (pc := 28) C dX2_wholeOf_28 ?_
      refine g_lshl (pc := 29) C dX2_wholeOf_29 ?_
      refine g_goto (pc := 30) (tgt := 39) C dX2_wholeOf_30 rfl ?_
      exact g_at [2] rfl (b39 p1 (jlshl r14 (r9 - (52 : Int32))) hf)
  · refine g_lconst (pc := 6) C dX2_wholeOf_6 cl_0 ?_
    exact g_lretp (pc := 7) C hQ dX2_wholeOf_7 hf
theorem dX2_isWhole_0 : decode cX2_isWhole 0 = .ok (.lload_n 0, 1) := by decide +kernel
theorem dX2_isWhole_1 : decode cX2_isWhole 1 = .ok (.iload_n 2, 1) := by decide +kernel
theorem dX2_isWhole_2 : decode cX2_isWhole 2 = .ok (.invokestatic 50, 3) := by decide +kernel
theorem dX2_isWhole_5 : decode cX2_isWhole 5 = .ok (.lstore 5, 2) := by decide +kernel
theorem dX2_isWhole_7 : decode cX2_isWhole 7 = .ok (.lload 5, 2) := by decide +kernel
theorem dX2_isWhole_9 : decode cX2_isWhole 9 = .ok (.invokestatic 54, 3) := by decide +kernel
theorem dX2_isWhole_12 : decode cX2_isWhole 12 = .ok (.ifCond .eq 17, 3) := by decide +kernel
theorem dX2_isWhole_15 : decode cX2_isWhole 15 = .ok (.lload 5, 2) := by decide +kernel
theorem dX2_isWhole_17 : decode cX2_isWhole 17 = .ok (.invokestatic 58, 3) := by decide +kernel
theorem dX2_isWhole_20 : decode cX2_isWhole 20 = .ok (.lload_n 3, 1) := by decide +kernel
theorem dX2_isWhole_21 : decode cX2_isWhole 21 = .ok (.lcmp, 1) := by decide +kernel
theorem dX2_isWhole_22 : decode cX2_isWhole 22 = .ok (.ifCond .ne 7, 3) := by decide +kernel
theorem dX2_isWhole_25 : decode cX2_isWhole 25 = .ok (.iconst 1, 1) := by decide +kernel
theorem dX2_isWhole_26 : decode cX2_isWhole 26 = .ok (.goto 4, 3) := by decide +kernel
theorem dX2_isWhole_29 : decode cX2_isWhole 29 = .ok (.iconst 0, 1) := by decide +kernel
theorem dX2_isWhole_30 : decode cX2_isWhole 30 = .ok (.ireturn, 1) := by decide +kernel
def fX2_isWhole (p1 : Int64) (p2 : Int32) (p3 : Int64) : Option Int32 := ((fX2_asDouble p1 p2).bind fun r2 => ((fX2_hasWhole r2).bind fun r9 => (if r9 = 0 then some (0 : Int32) else ((fX2_wholeOf r2).bind fun r17 => (if r17 = p3 then some (1 : Int32) else some (0 : Int32))))))
set_option maxRecDepth 100000 in
set_option maxHeartbeats 4000000 in
theorem kX2_isWhole (l : Launch) (p1 : Int64) (p2 : Int32) (p3 : Int64) (out : Int32) (hf : fX2_isWhole p1 p2 p3 = some out) : Sq l yX2_isWhole cX2_isWhole 7 (some .boolean) 3 [.long p1, .int p2, .long p3] (some (.int out)) := by
  refine Sq.of [(0, .long p1), (2, .int p2), (3, .long p3)] rfl (by decide +kernel) (Nat.le_of_ble_eq_true rfl) ?_
  intro κ hκ C hQ
  subst hκ
  replace C : Cf κ cX2_isWhole 7 RX2 (some .boolean) 3 := C
  refine g_lload_n (pc := 0) (i := 0) (j := 0) C dX2_isWhole_0 rfl rfl ?_
  refine g_iload_n (pc := 1) (i := 2) (j := 1) C dX2_isWhole_1 rfl rfl ?_
  refine g_cpl (pc := 2) (st := []) C lkX2_50 (As := [.long p1, .int p2]) rfl (fun out h => kX2_asDouble (kl κ) p1 p2 out h) (by decide) rfl (Nat.le_of_ble_eq_true rfl) dX2_isWhole_2 hf (fun r2 _ hf => ?_)
  refine g_lstore (pc := 5) (i := 5) (L' := [(5, .long r2), (0, .long p1), (2, .int p2), (3, .long p3)]) C dX2_isWhole_5 (by decide) rfl ?_
  refine g_lload (pc := 7) (i := 5) (j := 0) C dX2_isWhole_7 rfl ?_
  refine g_cpi (pc := 9) (st := []) C lkX2_54 (As := [.long r2]) rfl (fun out h => kX2_hasWhole (kl κ) r2 out h) (by decide) rfl (Nat.le_of_ble_eq_true rfl) dX2_isWhole_9 hf (fun r9 _ hf => ?_)
  refine g_if_eq (pc := 12) (tgt := 29) C dX2_isWhole_12 rfl hf (fun _ hf => ?_) (fun _ hf => ?_)
  · refine g_iconst (pc := 29) C dX2_isWhole_29 ci_0 ?_
    exact g_zret1p (pc := 30) C rfl hQ dX2_isWhole_30 hf
  · refine g_lload (pc := 15) (i := 5) (j := 0) C dX2_isWhole_15 rfl ?_
    refine g_cpl (pc := 17) (st := []) C lkX2_58 (As := [.long r2]) rfl (fun out h => kX2_wholeOf (kl κ) r2 out h) (by decide) rfl (Nat.le_of_ble_eq_true rfl) dX2_isWhole_17 hf (fun r17 _ hf => ?_)
    refine g_lload_n (pc := 20) (i := 3) (j := 3) C dX2_isWhole_20 rfl rfl ?_
    refine g_lcmp_ne (pc := 21) (tgt := 29) C dX2_isWhole_21 dX2_isWhole_22 rfl hf (fun _ hf => ?_) (fun _ hf => ?_)
    · refine g_iconst (pc := 29) C dX2_isWhole_29 ci_0 ?_
      exact g_zret1p (pc := 30) C rfl hQ dX2_isWhole_30 hf
    · refine g_iconst (pc := 25) C dX2_isWhole_25 ci_1 ?_
      refine g_goto (pc := 26) (tgt := 30) C dX2_isWhole_26 rfl ?_
      exact g_zret1p (pc := 30) C rfl hQ dX2_isWhole_30 hf
theorem dX2_ofWhole_0 : decode cX2_ofWhole 0 = .ok (.iload_n 0, 1) := by decide +kernel
theorem dX2_ofWhole_1 : decode cX2_ofWhole 1 = .ok (.bipush 6, 2) := by decide +kernel
theorem dX2_ofWhole_3 : decode cX2_ofWhole 3 = .ok (.if_icmp .eq 9, 3) := by decide +kernel
theorem dX2_ofWhole_6 : decode cX2_ofWhole 6 = .ok (.iload_n 0, 1) := by decide +kernel
theorem dX2_ofWhole_7 : decode cX2_ofWhole 7 = .ok (.bipush 7, 2) := by decide +kernel
theorem dX2_ofWhole_9 : decode cX2_ofWhole 9 = .ok (.if_icmp .ne 12, 3) := by decide +kernel
theorem dX2_ofWhole_12 : decode cX2_ofWhole 12 = .ok (.iload_n 0, 1) := by decide +kernel
theorem dX2_ofWhole_13 : decode cX2_ofWhole 13 = .ok (.lload_n 1, 1) := by decide +kernel
theorem dX2_ofWhole_14 : decode cX2_ofWhole 14 = .ok (.iconst 0, 1) := by decide +kernel
theorem dX2_ofWhole_15 : decode cX2_ofWhole 15 = .ok (.invokestatic 30, 3) := by decide +kernel
theorem dX2_ofWhole_18 : decode cX2_ofWhole 18 = .ok (.goto 4, 3) := by decide +kernel
theorem dX2_ofWhole_21 : decode cX2_ofWhole 21 = .ok (.lload_n 1, 1) := by decide +kernel
theorem dX2_ofWhole_22 : decode cX2_ofWhole 22 = .ok (.lreturn, 1) := by decide +kernel
def fX2_ofWhole_b12 (v0 : Int32) (v1 : Int64) : Option Int64 := ((fX2_nearest v0 v1 (0 : Int32)).bind fun r15 => some r15)
def fX2_ofWhole (p1 : Int32) (p2 : Int64) : Option Int64 := (if p1 = (6 : Int32) then fX2_ofWhole_b12 p1 p2 else (if p1 = (7 : Int32) then fX2_ofWhole_b12 p1 p2 else some p2))
set_option maxRecDepth 100000 in
set_option maxHeartbeats 4000000 in
theorem kX2_ofWhole (l : Launch) (p1 : Int32) (p2 : Int64) (out : Int64) (hf : fX2_ofWhole p1 p2 = some out) : Sq l yX2_ofWhole cX2_ofWhole 3 (some .long) 4 [.int p1, .long p2] (some (.long out)) := by
  refine Sq.of [(0, .int p1), (1, .long p2)] rfl (by decide +kernel) (Nat.le_of_ble_eq_true rfl) ?_
  intro κ hκ C hQ
  subst hκ
  replace C : Cf κ cX2_ofWhole 3 RX2 (some .long) 4 := C
  have b12 : ∀ (v0 : Int32) (v1 : Int64) , fX2_ofWhole_b12 v0 v1 = some out → G κ (Vp κ) 3 12 [(0, .int v0), (1, .long v1)] [] := by
    intro v0 v1 hf
    refine g_iload_n (pc := 12) (i := 0) (j := 0) C dX2_ofWhole_12 rfl rfl ?_
    refine g_lload_n (pc := 13) (i := 1) (j := 1) C dX2_ofWhole_13 rfl rfl ?_
    refine g_iconst (pc := 14) C dX2_ofWhole_14 ci_0 ?_
    refine g_cpl (pc := 15) (st := []) C lkX2_30 (As := [.int v0, .long v1, .int (0 : Int32)]) rfl (fun out h => kX2_nearest (kl κ) v0 v1 (0 : Int32) out h) (by decide) rfl (Nat.le_of_ble_eq_true rfl) dX2_ofWhole_15 hf (fun r15 _ hf => ?_)
    refine g_goto (pc := 18) (tgt := 22) C dX2_ofWhole_18 rfl ?_
    exact g_lretp (pc := 22) C hQ dX2_ofWhole_22 hf
  refine g_iload_n (pc := 0) (i := 0) (j := 0) C dX2_ofWhole_0 rfl rfl ?_
  refine g_bipush (pc := 1) C dX2_ofWhole_1 cb_6 ?_
  refine g_icmp_eq (pc := 3) (tgt := 12) C dX2_ofWhole_3 rfl hf (fun _ hf => ?_) (fun _ hf => ?_)
  · exact b12 p1 p2 hf
  · refine g_iload_n (pc := 6) (i := 0) (j := 0) C dX2_ofWhole_6 rfl rfl ?_
    refine g_bipush (pc := 7) C dX2_ofWhole_7 cb_7 ?_
    refine g_icmp_ne (pc := 9) (tgt := 21) C dX2_ofWhole_9 rfl hf (fun _ hf => ?_) (fun _ hf => ?_)
    · refine g_lload_n (pc := 21) (i := 1) (j := 1) C dX2_ofWhole_21 rfl rfl ?_
      exact g_lretp (pc := 22) C hQ dX2_ofWhole_22 hf
    · exact b12 p1 p2 hf
theorem dX2_hasNumber_0 : decode cX2_hasNumber 0 = .ok (.iload_n 2, 1) := by decide +kernel
theorem dX2_hasNumber_1 : decode cX2_hasNumber 1 = .ok (.bipush 6, 2) := by decide +kernel
theorem dX2_hasNumber_3 : decode cX2_hasNumber 3 = .ok (.if_icmp .ge 28, 3) := by decide +kernel
theorem dX2_hasNumber_6 : decode cX2_hasNumber 6 = .ok (.iload_n 3, 1) := by decide +kernel
theorem dX2_hasNumber_7 : decode cX2_hasNumber 7 = .ok (.bipush 6, 2) := by decide +kernel
theorem dX2_hasNumber_9 : decode cX2_hasNumber 9 = .ok (.if_icmp .ge 11, 3) := by decide +kernel
theorem dX2_hasNumber_12 : decode cX2_hasNumber 12 = .ok (.lload_n 0, 1) := by decide +kernel
theorem dX2_hasNumber_13 : decode cX2_hasNumber 13 = .ok (.iload_n 3, 1) := by decide +kernel
theorem dX2_hasNumber_14 : decode cX2_hasNumber 14 = .ok (.invokestatic 38, 3) := by decide +kernel
theorem dX2_hasNumber_17 : decode cX2_hasNumber 17 = .ok (.goto 13, 3) := by decide +kernel
theorem dX2_hasNumber_20 : decode cX2_hasNumber 20 = .ok (.iload_n 3, 1) := by decide +kernel
theorem dX2_hasNumber_21 : decode cX2_hasNumber 21 = .ok (.lload_n 0, 1) := by decide +kernel
theorem dX2_hasNumber_22 : decode cX2_hasNumber 22 = .ok (.invokestatic 42, 3) := by decide +kernel
theorem dX2_hasNumber_25 : decode cX2_hasNumber 25 = .ok (.iload_n 3, 1) := by decide +kernel
theorem dX2_hasNumber_26 : decode cX2_hasNumber 26 = .ok (.lload_n 0, 1) := by decide +kernel
theorem dX2_hasNumber_27 : decode cX2_hasNumber 27 = .ok (.invokestatic 46, 3) := by decide +kernel
theorem dX2_hasNumber_30 : decode cX2_hasNumber 30 = .ok (.ireturn, 1) := by decide +kernel
theorem dX2_hasNumber_31 : decode cX2_hasNumber 31 = .ok (.lload_n 0, 1) := by decide +kernel
theorem dX2_hasNumber_32 : decode cX2_hasNumber 32 = .ok (.iload_n 2, 1) := by decide +kernel
theorem dX2_hasNumber_33 : decode cX2_hasNumber 33 = .ok (.invokestatic 50, 3) := by decide +kernel
theorem dX2_hasNumber_36 : decode cX2_hasNumber 36 = .ok (.lstore 4, 2) := by decide +kernel
theorem dX2_hasNumber_38 : decode cX2_hasNumber 38 = .ok (.iload_n 3, 1) := by decide +kernel
theorem dX2_hasNumber_39 : decode cX2_hasNumber 39 = .ok (.bipush 6, 2) := by decide +kernel
theorem dX2_hasNumber_41 : decode cX2_hasNumber 41 = .ok (.if_icmp .ge 29, 3) := by decide +kernel
theorem dX2_hasNumber_44 : decode cX2_hasNumber 44 = .ok (.lload 4, 2) := by decide +kernel
theorem dX2_hasNumber_46 : decode cX2_hasNumber 46 = .ok (.invokestatic 54, 3) := by decide +kernel
theorem dX2_hasNumber_49 : decode cX2_hasNumber 49 = .ok (.ifCond .eq 19, 3) := by decide +kernel
theorem dX2_hasNumber_52 : decode cX2_hasNumber 52 = .ok (.lload 4, 2) := by decide +kernel
theorem dX2_hasNumber_54 : decode cX2_hasNumber 54 = .ok (.invokestatic 58, 3) := by decide +kernel
theorem dX2_hasNumber_57 : decode cX2_hasNumber 57 = .ok (.iload_n 3, 1) := by decide +kernel
theorem dX2_hasNumber_58 : decode cX2_hasNumber 58 = .ok (.invokestatic 38, 3) := by decide +kernel
theorem dX2_hasNumber_61 : decode cX2_hasNumber 61 = .ok (.ifCond .eq 7, 3) := by decide +kernel
theorem dX2_hasNumber_64 : decode cX2_hasNumber 64 = .ok (.iconst 1, 1) := by decide +kernel
theorem dX2_hasNumber_65 : decode cX2_hasNumber 65 = .ok (.goto 4, 3) := by decide +kernel
theorem dX2_hasNumber_68 : decode cX2_hasNumber 68 = .ok (.iconst 0, 1) := by decide +kernel
theorem dX2_hasNumber_69 : decode cX2_hasNumber 69 = .ok (.ireturn, 1) := by decide +kernel
theorem dX2_hasNumber_70 : decode cX2_hasNumber 70 = .ok (.iload_n 3, 1) := by decide +kernel
theorem dX2_hasNumber_71 : decode cX2_hasNumber 71 = .ok (.bipush 7, 2) := by decide +kernel
theorem dX2_hasNumber_73 : decode cX2_hasNumber 73 = .ok (.if_icmp .eq 14, 3) := by decide +kernel
theorem dX2_hasNumber_76 : decode cX2_hasNumber 76 = .ok (.lload 4, 2) := by decide +kernel
theorem dX2_hasNumber_78 : decode cX2_hasNumber 78 = .ok (.ldc2_w 61, 3) := by decide +kernel
theorem dX2_hasNumber_81 : decode cX2_hasNumber 81 = .ok (.land, 1) := by decide +kernel
theorem dX2_hasNumber_82 : decode cX2_hasNumber 82 = .ok (.lconst 0, 1) := by decide +kernel
theorem dX2_hasNumber_83 : decode cX2_hasNumber 83 = .ok (.lcmp, 1) := by decide +kernel
theorem dX2_hasNumber_84 : decode cX2_hasNumber 84 = .ok (.ifCond .ne 7, 3) := by decide +kernel
theorem dX2_hasNumber_87 : decode cX2_hasNumber 87 = .ok (.iconst 1, 1) := by decide +kernel
theorem dX2_hasNumber_88 : decode cX2_hasNumber 88 = .ok (.goto 4, 3) := by decide +kernel
theorem dX2_hasNumber_91 : decode cX2_hasNumber 91 = .ok (.iconst 0, 1) := by decide +kernel
theorem dX2_hasNumber_92 : decode cX2_hasNumber 92 = .ok (.ireturn, 1) := by decide +kernel
def fX2_hasNumber (p1 : Int64) (p2 : Int32) (p3 : Int32) : Option Int32 := (if (6 : Int32) ≤ p2 then ((fX2_asDouble p1 p2).bind fun r33 => (if (6 : Int32) ≤ p3 then (if p3 = (7 : Int32) then some (1 : Int32) else (if (r33 &&& (536870911 : Int64)) = (0 : Int64) then some (1 : Int32) else some (0 : Int32))) else ((fX2_hasWhole r33).bind fun r46 => (if r46 = 0 then some (0 : Int32) else ((fX2_wholeOf r33).bind fun r54 => ((fX2_isBetween r54 p3).bind fun r58 => (if r58 = 0 then some (0 : Int32) else some (1 : Int32)))))))) else (if (6 : Int32) ≤ p3 then ((fX2_ofWhole p3 p1).bind fun r22 => ((fX2_isWhole r22 p3 p1).bind fun r27 => (if rbz r27 = true then some r27 else none))) else ((fX2_isBetween p1 p3).bind fun r14 => (if rbz r14 = true then some r14 else none))))
set_option maxRecDepth 100000 in
set_option maxHeartbeats 4000000 in
theorem kX2_hasNumber (l : Launch) (p1 : Int64) (p2 : Int32) (p3 : Int32) (out : Int32) (hf : fX2_hasNumber p1 p2 p3 = some out) : Sq l yX2_hasNumber cX2_hasNumber 6 (some .boolean) 5 [.long p1, .int p2, .int p3] (some (.int out)) := by
  refine Sq.of [(0, .long p1), (2, .int p2), (3, .int p3)] rfl (by decide +kernel) (Nat.le_of_ble_eq_true rfl) ?_
  intro κ hκ C hQ
  subst hκ
  replace C : Cf κ cX2_hasNumber 6 RX2 (some .boolean) 5 := C
  refine g_iload_n (pc := 0) (i := 2) (j := 1) C dX2_hasNumber_0 rfl rfl ?_
  refine g_bipush (pc := 1) C dX2_hasNumber_1 cb_6 ?_
  refine g_icmp_ge (pc := 3) (tgt := 31) C dX2_hasNumber_3 rfl hf (fun _ hf => ?_) (fun _ hf => ?_)
  · refine g_lload_n (pc := 31) (i := 0) (j := 0) C dX2_hasNumber_31 rfl rfl ?_
    refine g_iload_n (pc := 32) (i := 2) (j := 1) C dX2_hasNumber_32 rfl rfl ?_
    refine g_cpl (pc := 33) (st := []) C lkX2_50 (As := [.long p1, .int p2]) rfl (fun out h => kX2_asDouble (kl κ) p1 p2 out h) (by decide) rfl (Nat.le_of_ble_eq_true rfl) dX2_hasNumber_33 hf (fun r33 _ hf => ?_)
    refine g_lstore (pc := 36) (i := 4) (L' := [(4, .long r33), (0, .long p1), (2, .int p2), (3, .int p3)]) C dX2_hasNumber_36 (by decide) rfl ?_
    refine g_iload_n (pc := 38) (i := 3) (j := 3) C dX2_hasNumber_38 rfl rfl ?_
    refine g_bipush (pc := 39) C dX2_hasNumber_39 cb_6 ?_
    refine g_icmp_ge (pc := 41) (tgt := 70) C dX2_hasNumber_41 rfl hf (fun _ hf => ?_) (fun _ hf => ?_)
    · refine g_iload_n (pc := 70) (i := 3) (j := 3) C dX2_hasNumber_70 rfl rfl ?_
      refine g_bipush (pc := 71) C dX2_hasNumber_71 cb_7 ?_
      refine g_icmp_eq (pc := 73) (tgt := 87) C dX2_hasNumber_73 rfl hf (fun _ hf => ?_) (fun _ hf => ?_)
      · refine g_iconst (pc := 87) C dX2_hasNumber_87 ci_1 ?_
        refine g_goto (pc := 88) (tgt := 92) C dX2_hasNumber_88 rfl ?_
        exact g_zret1p (pc := 92) C rfl hQ dX2_hasNumber_92 hf
      · refine g_lload (pc := 76) (i := 4) (j := 0) C dX2_hasNumber_76 rfl ?_
        refine g_ldc2 (pc := 78) C cnX2_61 dX2_hasNumber_78 ?_
        refine g_land (pc := 81) C dX2_hasNumber_81 ?_
        refine g_lconst (pc := 82) C dX2_hasNumber_82 cl_0 ?_
        refine g_lcmp_ne (pc := 83) (tgt := 91) C dX2_hasNumber_83 dX2_hasNumber_84 rfl hf (fun _ hf => ?_) (fun _ hf => ?_)
        · refine g_iconst (pc := 91) C dX2_hasNumber_91 ci_0 ?_
          exact g_zret1p (pc := 92) C rfl hQ dX2_hasNumber_92 hf
        · refine g_iconst (pc := 87) C dX2_hasNumber_87 ci_1 ?_
          refine g_goto (pc := 88) (tgt := 92) C dX2_hasNumber_88 rfl ?_
          exact g_zret1p (pc := 92) C rfl hQ dX2_hasNumber_92 hf
    · refine g_lload (pc := 44) (i := 4) (j := 0) C dX2_hasNumber_44 rfl ?_
      refine g_cpi (pc := 46) (st := []) C lkX2_54 (As := [.long r33]) rfl (fun out h => kX2_hasWhole (kl κ) r33 out h) (by decide) rfl (Nat.le_of_ble_eq_true rfl) dX2_hasNumber_46 hf (fun r46 _ hf => ?_)
      refine g_if_eq (pc := 49) (tgt := 68) C dX2_hasNumber_49 rfl hf (fun _ hf => ?_) (fun _ hf => ?_)
      · refine g_iconst (pc := 68) C dX2_hasNumber_68 ci_0 ?_
        exact g_zret1p (pc := 69) C rfl hQ dX2_hasNumber_69 hf
      · refine g_lload (pc := 52) (i := 4) (j := 0) C dX2_hasNumber_52 rfl ?_
        refine g_cpl (pc := 54) (st := []) C lkX2_58 (As := [.long r33]) rfl (fun out h => kX2_wholeOf (kl κ) r33 out h) (by decide) rfl (Nat.le_of_ble_eq_true rfl) dX2_hasNumber_54 hf (fun r54 _ hf => ?_)
        refine g_iload_n (pc := 57) (i := 3) (j := 3) C dX2_hasNumber_57 rfl rfl ?_
        refine g_cpi (pc := 58) (st := []) C lkX2_38 (As := [.long r54, .int p3]) rfl (fun out h => kX2_isBetween (kl κ) r54 p3 out h) (by decide) rfl (Nat.le_of_ble_eq_true rfl) dX2_hasNumber_58 hf (fun r58 _ hf => ?_)
        refine g_if_eq (pc := 61) (tgt := 68) C dX2_hasNumber_61 rfl hf (fun _ hf => ?_) (fun _ hf => ?_)
        · refine g_iconst (pc := 68) C dX2_hasNumber_68 ci_0 ?_
          exact g_zret1p (pc := 69) C rfl hQ dX2_hasNumber_69 hf
        · refine g_iconst (pc := 64) C dX2_hasNumber_64 ci_1 ?_
          refine g_goto (pc := 65) (tgt := 69) C dX2_hasNumber_65 rfl ?_
          exact g_zret1p (pc := 69) C rfl hQ dX2_hasNumber_69 hf
  · refine g_iload_n (pc := 6) (i := 3) (j := 2) C dX2_hasNumber_6 rfl rfl ?_
    refine g_bipush (pc := 7) C dX2_hasNumber_7 cb_6 ?_
    refine g_icmp_ge (pc := 9) (tgt := 20) C dX2_hasNumber_9 rfl hf (fun _ hf => ?_) (fun _ hf => ?_)
    · refine g_iload_n (pc := 20) (i := 3) (j := 2) C dX2_hasNumber_20 rfl rfl ?_
      refine g_lload_n (pc := 21) (i := 0) (j := 0) C dX2_hasNumber_21 rfl rfl ?_
      refine g_cpl (pc := 22) (st := []) C lkX2_42 (As := [.int p3, .long p1]) rfl (fun out h => kX2_ofWhole (kl κ) p3 p1 out h) (by decide) rfl (Nat.le_of_ble_eq_true rfl) dX2_hasNumber_22 hf (fun r22 _ hf => ?_)
      refine g_iload_n (pc := 25) (i := 3) (j := 2) C dX2_hasNumber_25 rfl rfl ?_
      refine g_lload_n (pc := 26) (i := 0) (j := 0) C dX2_hasNumber_26 rfl rfl ?_
      refine g_cpi (pc := 27) (st := []) C lkX2_46 (As := [.long r22, .int p3, .long p1]) rfl (fun out h => kX2_isWhole (kl κ) r22 p3 p1 out h) (by decide) rfl (Nat.le_of_ble_eq_true rfl) dX2_hasNumber_27 hf (fun r27 _ hf => ?_)
      exact g_zretp (pc := 30) C hQ dX2_hasNumber_30 hf
    · refine g_lload_n (pc := 12) (i := 0) (j := 0) C dX2_hasNumber_12 rfl rfl ?_
      refine g_iload_n (pc := 13) (i := 3) (j := 2) C dX2_hasNumber_13 rfl rfl ?_
      refine g_cpi (pc := 14) (st := []) C lkX2_38 (As := [.long p1, .int p3]) rfl (fun out h => kX2_isBetween (kl κ) p1 p3 out h) (by decide) rfl (Nat.le_of_ble_eq_true rfl) dX2_hasNumber_14 hf (fun r14 _ hf => ?_)
      refine g_goto (pc := 17) (tgt := 30) C dX2_hasNumber_17 rfl ?_
      exact g_zretp (pc := 30) C hQ dX2_hasNumber_30 hf
theorem dX2_targets_0 : decode cX2_targets 0 = .ok (.iconst 0, 1) := by decide +kernel
theorem dX2_targets_1 : decode cX2_targets 1 = .ok (.istore_n 1, 1) := by decide +kernel
theorem dX2_targets_2 : decode cX2_targets 2 = .ok (.iconst 0, 1) := by decide +kernel
theorem dX2_targets_3 : decode cX2_targets 3 = .ok (.istore_n 2, 1) := by decide +kernel
theorem dX2_targets_4 : decode cX2_targets 4 = .ok (.iload_n 2, 1) := by decide +kernel
theorem dX2_targets_5 : decode cX2_targets 5 = .ok (.bipush 8, 2) := by decide +kernel
theorem dX2_targets_7 : decode cX2_targets 7 = .ok (.if_icmp .ge 23, 3) := by decide +kernel
theorem dX2_targets_10 : decode cX2_targets 10 = .ok (.iload_n 0, 1) := by decide +kernel
theorem dX2_targets_11 : decode cX2_targets 11 = .ok (.iload_n 2, 1) := by decide +kernel
theorem dX2_targets_12 : decode cX2_targets 12 = .ok (.invokestatic 11, 3) := by decide +kernel
theorem dX2_targets_15 : decode cX2_targets 15 = .ok (.ifCond .eq 9, 3) := by decide +kernel
theorem dX2_targets_18 : decode cX2_targets 18 = .ok (.iload_n 1, 1) := by decide +kernel
theorem dX2_targets_19 : decode cX2_targets 19 = .ok (.iconst 1, 1) := by decide +kernel
theorem dX2_targets_20 : decode cX2_targets 20 = .ok (.iload_n 2, 1) := by decide +kernel
theorem dX2_targets_21 : decode cX2_targets 21 = .ok (.ishl, 1) := by decide +kernel
theorem dX2_targets_22 : decode cX2_targets 22 = .ok (.ior, 1) := by decide +kernel
theorem dX2_targets_23 : decode cX2_targets 23 = .ok (.istore_n 1, 1) := by decide +kernel
theorem dX2_targets_24 : decode cX2_targets 24 = .ok (.iinc 2 1, 3) := by decide +kernel
theorem dX2_targets_27 : decode cX2_targets 27 = .ok (.goto (-23), 3) := by decide +kernel
theorem dX2_targets_30 : decode cX2_targets 30 = .ok (.iload_n 1, 1) := by decide +kernel
theorem dX2_targets_31 : decode cX2_targets 31 = .ok (.ireturn, 1) := by decide +kernel
def fX2_targets_b24 (k4 : Int32 → Int32 → Int32 → Option Int32) (v0 : Int32) (v1 : Int32) (v2 : Int32) : Option Int32 := k4 v0 v1 (v2 + (1 : Int32))
def fX2_targets_b4 : Nat → Int32 → Int32 → Int32 → Option Int32
  | 0, _, _, _ => none
  | n + 1, v0, v1, v2 => (if (8 : Int32) ≤ v2 then some v1 else ((fX2_widens v0 v2).bind fun r12 => (if r12 = 0 then fX2_targets_b24 (fX2_targets_b4 n) v0 v1 v2 else fX2_targets_b24 (fX2_targets_b4 n) v0 (v1 ||| (jshl (1 : Int32) v2)) v2)))
def fX2_targets (p1 : Int32) : Option Int32 := fX2_targets_b4 100 p1 (0 : Int32) (0 : Int32)
set_option maxRecDepth 100000 in
set_option maxHeartbeats 4000000 in
theorem kX2_targets (l : Launch) (p1 : Int32) (out : Int32) (hf : fX2_targets p1 = some out) : Sq l yX2_targets cX2_targets 3 (some .int) 1 [.int p1] (some (.int out)) := by
  refine Sq.of [(0, .int p1)] rfl (by decide +kernel) (Nat.le_of_ble_eq_true rfl) ?_
  intro κ hκ C hQ
  subst hκ
  replace C : Cf κ cX2_targets 3 RX2 (some .int) 1 := C
  have b24 : ∀ (k4 : Int32 → Int32 → Int32 → Option Int32) (hk4 : ∀ (v0 : Int32) (v1 : Int32) (v2 : Int32) , k4 v0 v1 v2 = some out → G κ (Vp κ) 3 4 [(0, .int v0), (1, .int v1), (2, .int v2)] []) (v0 : Int32) (v1 : Int32) (v2 : Int32) , fX2_targets_b24 k4 v0 v1 v2 = some out → G κ (Vp κ) 3 24 [(0, .int v0), (1, .int v1), (2, .int v2)] [] := by
    intro k4 hk4 v0 v1 v2 hf
    refine g_iinc (pc := 24) (i := 2) (j := 2) (v := (v2 + (1 : Int32))) (L' := [(2, .int (v2 + (1 : Int32))), (0, .int v0), (1, .int v1)]) C dX2_targets_24 rfl (cx_1 _) (by decide) rfl ?_
    refine g_goto (pc := 27) (tgt := 4) C dX2_targets_27 rfl ?_
    exact g_at [1, 2, 0] rfl (hk4 v0 v1 (v2 + (1 : Int32)) hf)
  have b4 : ∀ (n : Nat) (v0 : Int32) (v1 : Int32) (v2 : Int32) , fX2_targets_b4 n v0 v1 v2 = some out → G κ (Vp κ) 3 4 [(0, .int v0), (1, .int v1), (2, .int v2)] [] := by
    intro n
    induction n with
    | zero => intro v0 v1 v2 hf; exact none_ne hf
    | succ n ih =>
      intro v0 v1 v2 hf
      refine g_iload_n (pc := 4) (i := 2) (j := 2) C dX2_targets_4 rfl rfl ?_
      refine g_bipush (pc := 5) C dX2_targets_5 cb_8 ?_
      refine g_icmp_ge (pc := 7) (tgt := 30) C dX2_targets_7 rfl hf (fun _ hf => ?_) (fun _ hf => ?_)
      · refine g_iload_n (pc := 30) (i := 1) (j := 1) C dX2_targets_30 rfl rfl ?_
        exact g_iretp (pc := 31) C hQ dX2_targets_31 hf
      · refine g_iload_n (pc := 10) (i := 0) (j := 0) C dX2_targets_10 rfl rfl ?_
        refine g_iload_n (pc := 11) (i := 2) (j := 2) C dX2_targets_11 rfl rfl ?_
        refine g_cpi (pc := 12) (st := []) C lkX2_11 (As := [.int v0, .int v2]) rfl (fun out h => kX2_widens (kl κ) v0 v2 out h) (by decide) rfl (Nat.le_of_ble_eq_true rfl) dX2_targets_12 hf (fun r12 _ hf => ?_)
        refine g_if_eq (pc := 15) (tgt := 24) C dX2_targets_15 rfl hf (fun _ hf => ?_) (fun _ hf => ?_)
        · exact b24 (fX2_targets_b4 n) ih v0 v1 v2 hf
        · refine g_iload_n (pc := 18) (i := 1) (j := 1) C dX2_targets_18 rfl rfl ?_
          refine g_iconst (pc := 19) C dX2_targets_19 ci_1 ?_
          refine g_iload_n (pc := 20) (i := 2) (j := 2) C dX2_targets_20 rfl rfl ?_
          refine g_ishl (pc := 21) C dX2_targets_21 ?_
          refine g_ior (pc := 22) C dX2_targets_22 ?_
          refine g_istore_n (pc := 23) (i := 1) (L' := [(1, .int (v1 ||| (jshl (1 : Int32) v2))), (0, .int v0), (2, .int v2)]) C dX2_targets_23 rfl (by decide) rfl ?_
          exact g_at [1, 0, 2] rfl (b24 (fX2_targets_b4 n) ih v0 (v1 ||| (jshl (1 : Int32) v2)) v2 hf)
  refine g_iconst (pc := 0) C dX2_targets_0 ci_0 ?_
  refine g_istore_n (pc := 1) (i := 1) (L' := [(1, .int (0 : Int32)), (0, .int p1)]) C dX2_targets_1 rfl (by decide) rfl ?_
  refine g_iconst (pc := 2) C dX2_targets_2 ci_0 ?_
  refine g_istore_n (pc := 3) (i := 2) (L' := [(2, .int (0 : Int32)), (1, .int (0 : Int32)), (0, .int p1)]) C dX2_targets_3 rfl (by decide) rfl ?_
  exact g_at [2, 1, 0] rfl (b4 100 p1 (0 : Int32) (0 : Int32) hf)
theorem dX2_leastOf_0 : decode cX2_leastOf 0 = .ok (.iconst 0, 1) := by decide +kernel
theorem dX2_leastOf_1 : decode cX2_leastOf 1 = .ok (.istore_n 1, 1) := by decide +kernel
theorem dX2_leastOf_2 : decode cX2_leastOf 2 = .ok (.iload_n 1, 1) := by decide +kernel
theorem dX2_leastOf_3 : decode cX2_leastOf 3 = .ok (.bipush 8, 2) := by decide +kernel
theorem dX2_leastOf_5 : decode cX2_leastOf 5 = .ok (.if_icmp .ge 31, 3) := by decide +kernel
theorem dX2_leastOf_8 : decode cX2_leastOf 8 = .ok (.iload_n 0, 1) := by decide +kernel
theorem dX2_leastOf_9 : decode cX2_leastOf 9 = .ok (.iload_n 1, 1) := by decide +kernel
theorem dX2_leastOf_10 : decode cX2_leastOf 10 = .ok (.ishr, 1) := by decide +kernel
theorem dX2_leastOf_11 : decode cX2_leastOf 11 = .ok (.iconst 1, 1) := by decide +kernel
theorem dX2_leastOf_12 : decode cX2_leastOf 12 = .ok (.iand, 1) := by decide +kernel
theorem dX2_leastOf_13 : decode cX2_leastOf 13 = .ok (.iconst 1, 1) := by decide +kernel
theorem dX2_leastOf_14 : decode cX2_leastOf 14 = .ok (.if_icmp .ne 16, 3) := by decide +kernel
theorem dX2_leastOf_17 : decode cX2_leastOf 17 = .ok (.iload_n 0, 1) := by decide +kernel
theorem dX2_leastOf_18 : decode cX2_leastOf 18 = .ok (.iload_n 1, 1) := by decide +kernel
theorem dX2_leastOf_19 : decode cX2_leastOf 19 = .ok (.invokestatic 15, 3) := by decide +kernel
theorem dX2_leastOf_22 : decode cX2_leastOf 22 = .ok (.iconst (-1), 1) := by decide +kernel
theorem dX2_leastOf_23 : decode cX2_leastOf 23 = .ok (.ixor, 1) := by decide +kernel
theorem dX2_leastOf_24 : decode cX2_leastOf 24 = .ok (.iand, 1) := by decide +kernel
theorem dX2_leastOf_25 : decode cX2_leastOf 25 = .ok (.ifCond .ne 5, 3) := by decide +kernel
theorem dX2_leastOf_28 : decode cX2_leastOf 28 = .ok (.iload_n 1, 1) := by decide +kernel
theorem dX2_leastOf_29 : decode cX2_leastOf 29 = .ok (.ireturn, 1) := by decide +kernel
theorem dX2_leastOf_30 : decode cX2_leastOf 30 = .ok (.iinc 1 1, 3) := by decide +kernel
theorem dX2_leastOf_33 : decode cX2_leastOf 33 = .ok (.goto (-31), 3) := by decide +kernel
theorem dX2_leastOf_36 : decode cX2_leastOf 36 = .ok (.bipush (-9), 2) := by decide +kernel
theorem dX2_leastOf_38 : decode cX2_leastOf 38 = .ok (.ireturn, 1) := by decide +kernel
def fX2_leastOf_b30 (k2 : Int32 → Int32 → Option Int32) (v0 : Int32) (v1 : Int32) : Option Int32 := k2 v0 (v1 + (1 : Int32))
def fX2_leastOf_b2 : Nat → Int32 → Int32 → Option Int32
  | 0, _, _ => none
  | n + 1, v0, v1 => (if (8 : Int32) ≤ v1 then some (-9 : Int32) else (if ((jshr v0 v1) &&& (1 : Int32)) = (1 : Int32) then ((fX2_targets v1).bind fun r19 => (if (v0 &&& (r19 ^^^ (-1 : Int32))) = 0 then some v1 else fX2_leastOf_b30 (fX2_leastOf_b2 n) v0 v1)) else fX2_leastOf_b30 (fX2_leastOf_b2 n) v0 v1))
def fX2_leastOf (p1 : Int32) : Option Int32 := fX2_leastOf_b2 100 p1 (0 : Int32)
set_option maxRecDepth 100000 in
set_option maxHeartbeats 4000000 in
theorem kX2_leastOf (l : Launch) (p1 : Int32) (out : Int32) (hf : fX2_leastOf p1 = some out) : Sq l yX2_leastOf cX2_leastOf 2 (some .int) 2 [.int p1] (some (.int out)) := by
  refine Sq.of [(0, .int p1)] rfl (by decide +kernel) (Nat.le_of_ble_eq_true rfl) ?_
  intro κ hκ C hQ
  subst hκ
  replace C : Cf κ cX2_leastOf 2 RX2 (some .int) 2 := C
  have b30 : ∀ (k2 : Int32 → Int32 → Option Int32) (hk2 : ∀ (v0 : Int32) (v1 : Int32) , k2 v0 v1 = some out → G κ (Vp κ) 2 2 [(0, .int v0), (1, .int v1)] []) (v0 : Int32) (v1 : Int32) , fX2_leastOf_b30 k2 v0 v1 = some out → G κ (Vp κ) 2 30 [(0, .int v0), (1, .int v1)] [] := by
    intro k2 hk2 v0 v1 hf
    refine g_iinc (pc := 30) (i := 1) (j := 1) (v := (v1 + (1 : Int32))) (L' := [(1, .int (v1 + (1 : Int32))), (0, .int v0)]) C dX2_leastOf_30 rfl (cx_1 _) (by decide) rfl ?_
    refine g_goto (pc := 33) (tgt := 2) C dX2_leastOf_33 rfl ?_
    exact g_at [1, 0] rfl (hk2 v0 (v1 + (1 : Int32)) hf)
  have b2 : ∀ (n : Nat) (v0 : Int32) (v1 : Int32) , fX2_leastOf_b2 n v0 v1 = some out → G κ (Vp κ) 2 2 [(0, .int v0), (1, .int v1)] [] := by
    intro n
    induction n with
    | zero => intro v0 v1 hf; exact none_ne hf
    | succ n ih =>
      intro v0 v1 hf
      refine g_iload_n (pc := 2) (i := 1) (j := 1) C dX2_leastOf_2 rfl rfl ?_
      refine g_bipush (pc := 3) C dX2_leastOf_3 cb_8 ?_
      refine g_icmp_ge (pc := 5) (tgt := 36) C dX2_leastOf_5 rfl hf (fun _ hf => ?_) (fun _ hf => ?_)
      · refine g_bipush (pc := 36) C dX2_leastOf_36 cb_m9 ?_
        exact g_iretp (pc := 38) C hQ dX2_leastOf_38 hf
      · refine g_iload_n (pc := 8) (i := 0) (j := 0) C dX2_leastOf_8 rfl rfl ?_
        refine g_iload_n (pc := 9) (i := 1) (j := 1) C dX2_leastOf_9 rfl rfl ?_
        refine g_ishr (pc := 10) C dX2_leastOf_10 ?_
        refine g_iconst (pc := 11) C dX2_leastOf_11 ci_1 ?_
        refine g_iand (pc := 12) C dX2_leastOf_12 ?_
        refine g_iconst (pc := 13) C dX2_leastOf_13 ci_1 ?_
        refine g_icmp_ne (pc := 14) (tgt := 30) C dX2_leastOf_14 rfl hf (fun _ hf => ?_) (fun _ hf => ?_)
        · exact b30 (fX2_leastOf_b2 n) ih v0 v1 hf
        · refine g_iload_n (pc := 17) (i := 0) (j := 0) C dX2_leastOf_17 rfl rfl ?_
          refine g_iload_n (pc := 18) (i := 1) (j := 1) C dX2_leastOf_18 rfl rfl ?_
          refine g_cpi (pc := 19) (st := [.int v0]) C lkX2_15 (As := [.int v1]) rfl (fun out h => kX2_targets (kl κ) v1 out h) (by decide) rfl (Nat.le_of_ble_eq_true rfl) dX2_leastOf_19 hf (fun r19 _ hf => ?_)
          refine g_iconst (pc := 22) C dX2_leastOf_22 ci_m1 ?_
          refine g_ixor (pc := 23) C dX2_leastOf_23 ?_
          refine g_iand (pc := 24) C dX2_leastOf_24 ?_
          refine g_if_ne (pc := 25) (tgt := 30) C dX2_leastOf_25 rfl hf (fun _ hf => ?_) (fun _ hf => ?_)
          · exact b30 (fX2_leastOf_b2 n) ih v0 v1 hf
          · refine g_iload_n (pc := 28) (i := 1) (j := 1) C dX2_leastOf_28 rfl rfl ?_
            exact g_iretp (pc := 29) C hQ dX2_leastOf_29 hf
  refine g_iconst (pc := 0) C dX2_leastOf_0 ci_0 ?_
  refine g_istore_n (pc := 1) (i := 1) (L' := [(1, .int (0 : Int32)), (0, .int p1)]) C dX2_leastOf_1 rfl (by decide) rfl ?_
  exact g_at [1, 0] rfl (b2 100 p1 (0 : Int32) hf)
theorem dX2_leastOfTwo_0 : decode cX2_leastOfTwo 0 = .ok (.iload_n 0, 1) := by decide +kernel
theorem dX2_leastOfTwo_1 : decode cX2_leastOfTwo 1 = .ok (.invokestatic 15, 3) := by decide +kernel
theorem dX2_leastOfTwo_4 : decode cX2_leastOfTwo 4 = .ok (.iload_n 1, 1) := by decide +kernel
theorem dX2_leastOfTwo_5 : decode cX2_leastOfTwo 5 = .ok (.invokestatic 15, 3) := by decide +kernel
theorem dX2_leastOfTwo_8 : decode cX2_leastOfTwo 8 = .ok (.iand, 1) := by decide +kernel
theorem dX2_leastOfTwo_9 : decode cX2_leastOfTwo 9 = .ok (.invokestatic 19, 3) := by decide +kernel
theorem dX2_leastOfTwo_12 : decode cX2_leastOfTwo 12 = .ok (.ireturn, 1) := by decide +kernel
def fX2_leastOfTwo (p1 : Int32) (p2 : Int32) : Option Int32 := ((fX2_targets p1).bind fun r1 => ((fX2_targets p2).bind fun r5 => ((fX2_leastOf (r1 &&& r5)).bind fun r9 => some r9)))
set_option maxRecDepth 100000 in
set_option maxHeartbeats 4000000 in
theorem kX2_leastOfTwo (l : Launch) (p1 : Int32) (p2 : Int32) (out : Int32) (hf : fX2_leastOfTwo p1 p2 = some out) : Sq l yX2_leastOfTwo cX2_leastOfTwo 2 (some .int) 3 [.int p1, .int p2] (some (.int out)) := by
  refine Sq.of [(0, .int p1), (1, .int p2)] rfl (by decide +kernel) (Nat.le_of_ble_eq_true rfl) ?_
  intro κ hκ C hQ
  subst hκ
  replace C : Cf κ cX2_leastOfTwo 2 RX2 (some .int) 3 := C
  refine g_iload_n (pc := 0) (i := 0) (j := 0) C dX2_leastOfTwo_0 rfl rfl ?_
  refine g_cpi (pc := 1) (st := []) C lkX2_15 (As := [.int p1]) rfl (fun out h => kX2_targets (kl κ) p1 out h) (by decide) rfl (Nat.le_of_ble_eq_true rfl) dX2_leastOfTwo_1 hf (fun r1 _ hf => ?_)
  refine g_iload_n (pc := 4) (i := 1) (j := 1) C dX2_leastOfTwo_4 rfl rfl ?_
  refine g_cpi (pc := 5) (st := [.int r1]) C lkX2_15 (As := [.int p2]) rfl (fun out h => kX2_targets (kl κ) p2 out h) (by decide) rfl (Nat.le_of_ble_eq_true rfl) dX2_leastOfTwo_5 hf (fun r5 _ hf => ?_)
  refine g_iand (pc := 8) C dX2_leastOfTwo_8 ?_
  refine g_cpi (pc := 9) (st := []) C lkX2_19 (As := [.int (r1 &&& r5)]) rfl (fun out h => kX2_leastOf (kl κ) (r1 &&& r5) out h) (by decide) rfl (Nat.le_of_ble_eq_true rfl) dX2_leastOfTwo_9 hf (fun r9 _ hf => ?_)
  exact g_iretp (pc := 12) C hQ dX2_leastOfTwo_12 hf
theorem dX2_made_0 : decode cX2_made 0 = .ok (.iload_n 0, 1) := by decide +kernel
theorem dX2_made_1 : decode cX2_made 1 = .ok (.tableswitch 64 0 5 #[39, 43, 48, 53, 58, 62], 39) := by decide +kernel
theorem dX2_made_40 : decode cX2_made 40 = .ok (.lload_n 1, 1) := by decide +kernel
theorem dX2_made_41 : decode cX2_made 41 = .ok (.lconst 1, 1) := by decide +kernel
theorem dX2_made_42 : decode cX2_made 42 = .ok (.land, 1) := by decide +kernel
theorem dX2_made_43 : decode cX2_made 43 = .ok (.lreturn, 1) := by decide +kernel
theorem dX2_made_44 : decode cX2_made 44 = .ok (.lload_n 1, 1) := by decide +kernel
theorem dX2_made_45 : decode cX2_made 45 = .ok (.l2i, 1) := by decide +kernel
theorem dX2_made_46 : decode cX2_made 46 = .ok (.i2b, 1) := by decide +kernel
theorem dX2_made_47 : decode cX2_made 47 = .ok (.i2l, 1) := by decide +kernel
theorem dX2_made_48 : decode cX2_made 48 = .ok (.lreturn, 1) := by decide +kernel
theorem dX2_made_49 : decode cX2_made 49 = .ok (.lload_n 1, 1) := by decide +kernel
theorem dX2_made_50 : decode cX2_made 50 = .ok (.l2i, 1) := by decide +kernel
theorem dX2_made_51 : decode cX2_made 51 = .ok (.i2c, 1) := by decide +kernel
theorem dX2_made_52 : decode cX2_made 52 = .ok (.i2l, 1) := by decide +kernel
theorem dX2_made_53 : decode cX2_made 53 = .ok (.lreturn, 1) := by decide +kernel
theorem dX2_made_54 : decode cX2_made 54 = .ok (.lload_n 1, 1) := by decide +kernel
theorem dX2_made_55 : decode cX2_made 55 = .ok (.l2i, 1) := by decide +kernel
theorem dX2_made_56 : decode cX2_made 56 = .ok (.i2s, 1) := by decide +kernel
theorem dX2_made_57 : decode cX2_made 57 = .ok (.i2l, 1) := by decide +kernel
theorem dX2_made_58 : decode cX2_made 58 = .ok (.lreturn, 1) := by decide +kernel
theorem dX2_made_59 : decode cX2_made 59 = .ok (.lload_n 1, 1) := by decide +kernel
theorem dX2_made_60 : decode cX2_made 60 = .ok (.l2i, 1) := by decide +kernel
theorem dX2_made_61 : decode cX2_made 61 = .ok (.i2l, 1) := by decide +kernel
theorem dX2_made_62 : decode cX2_made 62 = .ok (.lreturn, 1) := by decide +kernel
theorem dX2_made_63 : decode cX2_made 63 = .ok (.lload_n 1, 1) := by decide +kernel
theorem dX2_made_64 : decode cX2_made 64 = .ok (.lreturn, 1) := by decide +kernel
theorem dX2_made_65 : decode cX2_made 65 = .ok (.iload_n 0, 1) := by decide +kernel
theorem dX2_made_66 : decode cX2_made 66 = .ok (.lload_n 1, 1) := by decide +kernel
theorem dX2_made_67 : decode cX2_made 67 = .ok (.iconst 3, 1) := by decide +kernel
theorem dX2_made_68 : decode cX2_made 68 = .ok (.invokestatic 30, 3) := by decide +kernel
theorem dX2_made_71 : decode cX2_made 71 = .ok (.lreturn, 1) := by decide +kernel
def fX2_made (p1 : Int32) (p2 : Int64) : Option Int64 := (if p1 = 0 then some (p2 &&& (1 : Int64)) else (if p1 = 1 then some (Int32.toInt64 (ji2b (Int64.toInt32 p2))) else (if p1 = 2 then some (Int32.toInt64 (ji2c (Int64.toInt32 p2))) else (if p1 = 3 then some (Int32.toInt64 (ji2s (Int64.toInt32 p2))) else (if p1 = 4 then some (Int32.toInt64 (Int64.toInt32 p2)) else (if p1 = 5 then some p2 else ((fX2_nearest p1 p2 (3 : Int32)).bind fun r68 => some r68)))))))
set_option maxRecDepth 100000 in
set_option maxHeartbeats 4000000 in
theorem kX2_made (l : Launch) (p1 : Int32) (p2 : Int64) (out : Int64) (hf : fX2_made p1 p2 = some out) : Sq l yX2_made cX2_made 3 (some .long) 4 [.int p1, .long p2] (some (.long out)) := by
  refine Sq.of [(0, .int p1), (1, .long p2)] rfl (by decide +kernel) (Nat.le_of_ble_eq_true rfl) ?_
  intro κ hκ C hQ
  subst hκ
  replace C : Cf κ cX2_made 3 RX2 (some .long) 4 := C
  refine g_iload_n (pc := 0) (i := 0) (j := 0) C dX2_made_0 rfl rfl ?_
  by_cases h1_0 : p1 = 0
  · replace hf := ite_t h1_0 hf
    refine g_tabIn (pc := 1) (v := 0) (off := 39) (tgt := 40) C dX2_made_1 h1_0 (by decide) rfl ?_
    refine g_lload_n (pc := 40) (i := 1) (j := 1) C dX2_made_40 rfl rfl ?_
    refine g_lconst (pc := 41) C dX2_made_41 cl_1 ?_
    refine g_land (pc := 42) C dX2_made_42 ?_
    exact g_lretp (pc := 43) C hQ dX2_made_43 hf
  replace hf := ite_f h1_0 hf
  by_cases h1_1 : p1 = 1
  · replace hf := ite_t h1_1 hf
    refine g_tabIn (pc := 1) (v := 1) (off := 43) (tgt := 44) C dX2_made_1 h1_1 (by decide) rfl ?_
    refine g_lload_n (pc := 44) (i := 1) (j := 1) C dX2_made_44 rfl rfl ?_
    refine g_l2i (pc := 45) C dX2_made_45 ?_
    refine g_i2b (pc := 46) C dX2_made_46 ?_
    refine g_i2l (pc := 47) C dX2_made_47 ?_
    exact g_lretp (pc := 48) C hQ dX2_made_48 hf
  replace hf := ite_f h1_1 hf
  by_cases h1_2 : p1 = 2
  · replace hf := ite_t h1_2 hf
    refine g_tabIn (pc := 1) (v := 2) (off := 48) (tgt := 49) C dX2_made_1 h1_2 (by decide) rfl ?_
    refine g_lload_n (pc := 49) (i := 1) (j := 1) C dX2_made_49 rfl rfl ?_
    refine g_l2i (pc := 50) C dX2_made_50 ?_
    refine g_i2c (pc := 51) C dX2_made_51 ?_
    refine g_i2l (pc := 52) C dX2_made_52 ?_
    exact g_lretp (pc := 53) C hQ dX2_made_53 hf
  replace hf := ite_f h1_2 hf
  by_cases h1_3 : p1 = 3
  · replace hf := ite_t h1_3 hf
    refine g_tabIn (pc := 1) (v := 3) (off := 53) (tgt := 54) C dX2_made_1 h1_3 (by decide) rfl ?_
    refine g_lload_n (pc := 54) (i := 1) (j := 1) C dX2_made_54 rfl rfl ?_
    refine g_l2i (pc := 55) C dX2_made_55 ?_
    refine g_i2s (pc := 56) C dX2_made_56 ?_
    refine g_i2l (pc := 57) C dX2_made_57 ?_
    exact g_lretp (pc := 58) C hQ dX2_made_58 hf
  replace hf := ite_f h1_3 hf
  by_cases h1_4 : p1 = 4
  · replace hf := ite_t h1_4 hf
    refine g_tabIn (pc := 1) (v := 4) (off := 58) (tgt := 59) C dX2_made_1 h1_4 (by decide) rfl ?_
    refine g_lload_n (pc := 59) (i := 1) (j := 1) C dX2_made_59 rfl rfl ?_
    refine g_l2i (pc := 60) C dX2_made_60 ?_
    refine g_i2l (pc := 61) C dX2_made_61 ?_
    exact g_lretp (pc := 62) C hQ dX2_made_62 hf
  replace hf := ite_f h1_4 hf
  by_cases h1_5 : p1 = 5
  · replace hf := ite_t h1_5 hf
    refine g_tabIn (pc := 1) (v := 5) (off := 62) (tgt := 63) C dX2_made_1 h1_5 (by decide) rfl ?_
    refine g_lload_n (pc := 63) (i := 1) (j := 1) C dX2_made_63 rfl rfl ?_
    exact g_lretp (pc := 64) C hQ dX2_made_64 hf
  replace hf := ite_f h1_5 hf
  have e1_0 := i32_ne (n := 0) h1_0 (by decide)
  have e1_1 := i32_ne (n := 1) h1_1 (by decide)
  have e1_2 := i32_ne (n := 2) h1_2 (by decide)
  have e1_3 := i32_ne (n := 3) h1_3 (by decide)
  have e1_4 := i32_ne (n := 4) h1_4 (by decide)
  have e1_5 := i32_ne (n := 5) h1_5 (by decide)
  refine g_tabOut (pc := 1) (tgt := 65) C dX2_made_1 (by omega) rfl ?_
  refine g_iload_n (pc := 65) (i := 0) (j := 0) C dX2_made_65 rfl rfl ?_
  refine g_lload_n (pc := 66) (i := 1) (j := 1) C dX2_made_66 rfl rfl ?_
  refine g_iconst (pc := 67) C dX2_made_67 ci_3 ?_
  refine g_cpl (pc := 68) (st := []) C lkX2_30 (As := [.int p1, .long p2, .int (3 : Int32)]) rfl (fun out h => kX2_nearest (kl κ) p1 p2 (3 : Int32) out h) (by decide) rfl (Nat.le_of_ble_eq_true rfl) dX2_made_68 hf (fun r68 _ hf => ?_)
  exact g_lretp (pc := 71) C hQ dX2_made_71 hf
theorem dX2_sameNumber_0 : decode cX2_sameNumber 0 = .ok (.iload_n 2, 1) := by decide +kernel
theorem dX2_sameNumber_1 : decode cX2_sameNumber 1 = .ok (.bipush 6, 2) := by decide +kernel
theorem dX2_sameNumber_3 : decode cX2_sameNumber 3 = .ok (.if_icmp .ge 9, 3) := by decide +kernel
theorem dX2_sameNumber_6 : decode cX2_sameNumber 6 = .ok (.iload_n 3, 1) := by decide +kernel
theorem dX2_sameNumber_7 : decode cX2_sameNumber 7 = .ok (.lload_n 0, 1) := by decide +kernel
theorem dX2_sameNumber_8 : decode cX2_sameNumber 8 = .ok (.invokestatic 42, 3) := by decide +kernel
theorem dX2_sameNumber_11 : decode cX2_sameNumber 11 = .ok (.lreturn, 1) := by decide +kernel
theorem dX2_sameNumber_12 : decode cX2_sameNumber 12 = .ok (.lload_n 0, 1) := by decide +kernel
theorem dX2_sameNumber_13 : decode cX2_sameNumber 13 = .ok (.iload_n 2, 1) := by decide +kernel
theorem dX2_sameNumber_14 : decode cX2_sameNumber 14 = .ok (.invokestatic 50, 3) := by decide +kernel
theorem dX2_sameNumber_17 : decode cX2_sameNumber 17 = .ok (.lstore 4, 2) := by decide +kernel
theorem dX2_sameNumber_19 : decode cX2_sameNumber 19 = .ok (.iload_n 3, 1) := by decide +kernel
theorem dX2_sameNumber_20 : decode cX2_sameNumber 20 = .ok (.bipush 6, 2) := by decide +kernel
theorem dX2_sameNumber_22 : decode cX2_sameNumber 22 = .ok (.if_icmp .ge 9, 3) := by decide +kernel
theorem dX2_sameNumber_25 : decode cX2_sameNumber 25 = .ok (.lload 4, 2) := by decide +kernel
theorem dX2_sameNumber_27 : decode cX2_sameNumber 27 = .ok (.invokestatic 58, 3) := by decide +kernel
theorem dX2_sameNumber_30 : decode cX2_sameNumber 30 = .ok (.lreturn, 1) := by decide +kernel
theorem dX2_sameNumber_31 : decode cX2_sameNumber 31 = .ok (.iload_n 3, 1) := by decide +kernel
theorem dX2_sameNumber_32 : decode cX2_sameNumber 32 = .ok (.bipush 7, 2) := by decide +kernel
theorem dX2_sameNumber_34 : decode cX2_sameNumber 34 = .ok (.if_icmp .ne 8, 3) := by decide +kernel
theorem dX2_sameNumber_37 : decode cX2_sameNumber 37 = .ok (.lload 4, 2) := by decide +kernel
theorem dX2_sameNumber_39 : decode cX2_sameNumber 39 = .ok (.goto 8, 3) := by decide +kernel
theorem dX2_sameNumber_42 : decode cX2_sameNumber 42 = .ok (.lload 4, 2) := by decide +kernel
theorem dX2_sameNumber_44 : decode cX2_sameNumber 44 = .ok (.invokestatic 63, 3) := by decide +kernel
theorem dX2_sameNumber_47 : decode cX2_sameNumber 47 = .ok (.lreturn, 1) := by decide +kernel
def fX2_sameNumber (p1 : Int64) (p2 : Int32) (p3 : Int32) : Option Int64 := (if (6 : Int32) ≤ p2 then ((fX2_asDouble p1 p2).bind fun r14 => (if (6 : Int32) ≤ p3 then (if p3 = (7 : Int32) then some r14 else ((fX2_floatOfDouble r14).bind fun r44 => some r44)) else ((fX2_wholeOf r14).bind fun r27 => some r27))) else ((fX2_ofWhole p3 p1).bind fun r8 => some r8))
set_option maxRecDepth 100000 in
set_option maxHeartbeats 4000000 in
theorem kX2_sameNumber (l : Launch) (p1 : Int64) (p2 : Int32) (p3 : Int32) (out : Int64) (hf : fX2_sameNumber p1 p2 p3 = some out) : Sq l yX2_sameNumber cX2_sameNumber 6 (some .long) 5 [.long p1, .int p2, .int p3] (some (.long out)) := by
  refine Sq.of [(0, .long p1), (2, .int p2), (3, .int p3)] rfl (by decide +kernel) (Nat.le_of_ble_eq_true rfl) ?_
  intro κ hκ C hQ
  subst hκ
  replace C : Cf κ cX2_sameNumber 6 RX2 (some .long) 5 := C
  refine g_iload_n (pc := 0) (i := 2) (j := 1) C dX2_sameNumber_0 rfl rfl ?_
  refine g_bipush (pc := 1) C dX2_sameNumber_1 cb_6 ?_
  refine g_icmp_ge (pc := 3) (tgt := 12) C dX2_sameNumber_3 rfl hf (fun _ hf => ?_) (fun _ hf => ?_)
  · refine g_lload_n (pc := 12) (i := 0) (j := 0) C dX2_sameNumber_12 rfl rfl ?_
    refine g_iload_n (pc := 13) (i := 2) (j := 1) C dX2_sameNumber_13 rfl rfl ?_
    refine g_cpl (pc := 14) (st := []) C lkX2_50 (As := [.long p1, .int p2]) rfl (fun out h => kX2_asDouble (kl κ) p1 p2 out h) (by decide) rfl (Nat.le_of_ble_eq_true rfl) dX2_sameNumber_14 hf (fun r14 _ hf => ?_)
    refine g_lstore (pc := 17) (i := 4) (L' := [(4, .long r14), (0, .long p1), (2, .int p2), (3, .int p3)]) C dX2_sameNumber_17 (by decide) rfl ?_
    refine g_iload_n (pc := 19) (i := 3) (j := 3) C dX2_sameNumber_19 rfl rfl ?_
    refine g_bipush (pc := 20) C dX2_sameNumber_20 cb_6 ?_
    refine g_icmp_ge (pc := 22) (tgt := 31) C dX2_sameNumber_22 rfl hf (fun _ hf => ?_) (fun _ hf => ?_)
    · refine g_iload_n (pc := 31) (i := 3) (j := 3) C dX2_sameNumber_31 rfl rfl ?_
      refine g_bipush (pc := 32) C dX2_sameNumber_32 cb_7 ?_
      refine g_icmp_ne (pc := 34) (tgt := 42) C dX2_sameNumber_34 rfl hf (fun _ hf => ?_) (fun _ hf => ?_)
      · refine g_lload (pc := 42) (i := 4) (j := 0) C dX2_sameNumber_42 rfl ?_
        refine g_cpl (pc := 44) (st := []) C lkX2_63 (As := [.long r14]) rfl (fun out h => kX2_floatOfDouble (kl κ) r14 out h) (by decide) rfl (Nat.le_of_ble_eq_true rfl) dX2_sameNumber_44 hf (fun r44 _ hf => ?_)
        exact g_lretp (pc := 47) C hQ dX2_sameNumber_47 hf
      · refine g_lload (pc := 37) (i := 4) (j := 0) C dX2_sameNumber_37 rfl ?_
        refine g_goto (pc := 39) (tgt := 47) C dX2_sameNumber_39 rfl ?_
        exact g_lretp (pc := 47) C hQ dX2_sameNumber_47 hf
    · refine g_lload (pc := 25) (i := 4) (j := 0) C dX2_sameNumber_25 rfl ?_
      refine g_cpl (pc := 27) (st := []) C lkX2_58 (As := [.long r14]) rfl (fun out h => kX2_wholeOf (kl κ) r14 out h) (by decide) rfl (Nat.le_of_ble_eq_true rfl) dX2_sameNumber_27 hf (fun r27 _ hf => ?_)
      exact g_lretp (pc := 30) C hQ dX2_sameNumber_30 hf
  · refine g_iload_n (pc := 6) (i := 3) (j := 2) C dX2_sameNumber_6 rfl rfl ?_
    refine g_lload_n (pc := 7) (i := 0) (j := 0) C dX2_sameNumber_7 rfl rfl ?_
    refine g_cpl (pc := 8) (st := []) C lkX2_42 (As := [.int p3, .long p1]) rfl (fun out h => kX2_ofWhole (kl κ) p3 p1 out h) (by decide) rfl (Nat.le_of_ble_eq_true rfl) dX2_sameNumber_8 hf (fun r8 _ hf => ?_)
    exact g_lretp (pc := 11) C hQ dX2_sameNumber_11 hf
theorem dX3_isDigit_0 : decode cX3_isDigit 0 = .ok (.iload_n 0, 1) := by decide +kernel
theorem dX3_isDigit_1 : decode cX3_isDigit 1 = .ok (.bipush 48, 2) := by decide +kernel
theorem dX3_isDigit_3 : decode cX3_isDigit 3 = .ok (.if_icmp .lt 13, 3) := by decide +kernel
theorem dX3_isDigit_6 : decode cX3_isDigit 6 = .ok (.iload_n 0, 1) := by decide +kernel
theorem dX3_isDigit_7 : decode cX3_isDigit 7 = .ok (.bipush 57, 2) := by decide +kernel
theorem dX3_isDigit_9 : decode cX3_isDigit 9 = .ok (.if_icmp .gt 7, 3) := by decide +kernel
theorem dX3_isDigit_12 : decode cX3_isDigit 12 = .ok (.iconst 1, 1) := by decide +kernel
theorem dX3_isDigit_13 : decode cX3_isDigit 13 = .ok (.goto 4, 3) := by decide +kernel
theorem dX3_isDigit_16 : decode cX3_isDigit 16 = .ok (.iconst 0, 1) := by decide +kernel
theorem dX3_isDigit_17 : decode cX3_isDigit 17 = .ok (.ireturn, 1) := by decide +kernel
def fX3_isDigit (p1 : Int32) : Option Int32 := (if p1 < (48 : Int32) then some (0 : Int32) else (if (57 : Int32) < p1 then some (0 : Int32) else some (1 : Int32)))
set_option maxRecDepth 100000 in
set_option maxHeartbeats 4000000 in
theorem kX3_isDigit (l : Launch) (p1 : Int32) (out : Int32) (hf : fX3_isDigit p1 = some out) : Sq l yX3_isDigit cX3_isDigit 1 (some .boolean) 0 [.int p1] (some (.int out)) := by
  refine Sq.of [(0, .int p1)] rfl (by decide +kernel) (Nat.le_of_ble_eq_true rfl) ?_
  intro κ hκ C hQ
  subst hκ
  replace C : Cf κ cX3_isDigit 1 RX3 (some .boolean) 0 := C
  refine g_iload_n (pc := 0) (i := 0) (j := 0) C dX3_isDigit_0 rfl rfl ?_
  refine g_bipush (pc := 1) C dX3_isDigit_1 cb_48 ?_
  refine g_icmp_lt (pc := 3) (tgt := 16) C dX3_isDigit_3 rfl hf (fun _ hf => ?_) (fun _ hf => ?_)
  · refine g_iconst (pc := 16) C dX3_isDigit_16 ci_0 ?_
    exact g_zret1p (pc := 17) C rfl hQ dX3_isDigit_17 hf
  · refine g_iload_n (pc := 6) (i := 0) (j := 0) C dX3_isDigit_6 rfl rfl ?_
    refine g_bipush (pc := 7) C dX3_isDigit_7 cb_57 ?_
    refine g_icmp_gt (pc := 9) (tgt := 16) C dX3_isDigit_9 rfl hf (fun _ hf => ?_) (fun _ hf => ?_)
    · refine g_iconst (pc := 16) C dX3_isDigit_16 ci_0 ?_
      exact g_zret1p (pc := 17) C rfl hQ dX3_isDigit_17 hf
    · refine g_iconst (pc := 12) C dX3_isDigit_12 ci_1 ?_
      refine g_goto (pc := 13) (tgt := 17) C dX3_isDigit_13 rfl ?_
      exact g_zret1p (pc := 17) C rfl hQ dX3_isDigit_17 hf
theorem dX7_isPrimitive_0 : decode cX7_isPrimitive 0 = .ok (.iload_n 0, 1) := by decide +kernel
theorem dX7_isPrimitive_1 : decode cX7_isPrimitive 1 = .ok (.ifCond .lt 13, 3) := by decide +kernel
theorem dX7_isPrimitive_4 : decode cX7_isPrimitive 4 = .ok (.iload_n 0, 1) := by decide +kernel
theorem dX7_isPrimitive_5 : decode cX7_isPrimitive 5 = .ok (.bipush 8, 2) := by decide +kernel
theorem dX7_isPrimitive_7 : decode cX7_isPrimitive 7 = .ok (.if_icmp .ge 7, 3) := by decide +kernel
theorem dX7_isPrimitive_10 : decode cX7_isPrimitive 10 = .ok (.iconst 1, 1) := by decide +kernel
theorem dX7_isPrimitive_11 : decode cX7_isPrimitive 11 = .ok (.goto 4, 3) := by decide +kernel
theorem dX7_isPrimitive_14 : decode cX7_isPrimitive 14 = .ok (.iconst 0, 1) := by decide +kernel
theorem dX7_isPrimitive_15 : decode cX7_isPrimitive 15 = .ok (.ireturn, 1) := by decide +kernel
def fX7_isPrimitive (p1 : Int32) : Option Int32 := (if p1 < 0 then some (0 : Int32) else (if (8 : Int32) ≤ p1 then some (0 : Int32) else some (1 : Int32)))
set_option maxRecDepth 100000 in
set_option maxHeartbeats 4000000 in
theorem kX7_isPrimitive (l : Launch) (p1 : Int32) (out : Int32) (hf : fX7_isPrimitive p1 = some out) : Sq l yX7_isPrimitive cX7_isPrimitive 1 (some .boolean) 0 [.int p1] (some (.int out)) := by
  refine Sq.of [(0, .int p1)] rfl (by decide +kernel) (Nat.le_of_ble_eq_true rfl) ?_
  intro κ hκ C hQ
  subst hκ
  replace C : Cf κ cX7_isPrimitive 1 RX7 (some .boolean) 0 := C
  refine g_iload_n (pc := 0) (i := 0) (j := 0) C dX7_isPrimitive_0 rfl rfl ?_
  refine g_if_lt (pc := 1) (tgt := 14) C dX7_isPrimitive_1 rfl hf (fun _ hf => ?_) (fun _ hf => ?_)
  · refine g_iconst (pc := 14) C dX7_isPrimitive_14 ci_0 ?_
    exact g_zret1p (pc := 15) C rfl hQ dX7_isPrimitive_15 hf
  · refine g_iload_n (pc := 4) (i := 0) (j := 0) C dX7_isPrimitive_4 rfl rfl ?_
    refine g_bipush (pc := 5) C dX7_isPrimitive_5 cb_8 ?_
    refine g_icmp_ge (pc := 7) (tgt := 14) C dX7_isPrimitive_7 rfl hf (fun _ hf => ?_) (fun _ hf => ?_)
    · refine g_iconst (pc := 14) C dX7_isPrimitive_14 ci_0 ?_
      exact g_zret1p (pc := 15) C rfl hQ dX7_isPrimitive_15 hf
    · refine g_iconst (pc := 10) C dX7_isPrimitive_10 ci_1 ?_
      refine g_goto (pc := 11) (tgt := 15) C dX7_isPrimitive_11 rfl ?_
      exact g_zret1p (pc := 15) C rfl hQ dX7_isPrimitive_15 hf
theorem dX4_isMark_0 : decode cX4_isMark 0 = .ok (.iload_n 0, 1) := by decide +kernel
theorem dX4_isMark_1 : decode cX4_isMark 1 = .ok (.bipush 8, 2) := by decide +kernel
theorem dX4_isMark_3 : decode cX4_isMark 3 = .ok (.if_icmp .eq 9, 3) := by decide +kernel
theorem dX4_isMark_6 : decode cX4_isMark 6 = .ok (.iload_n 0, 1) := by decide +kernel
theorem dX4_isMark_7 : decode cX4_isMark 7 = .ok (.bipush 9, 2) := by decide +kernel
theorem dX4_isMark_9 : decode cX4_isMark 9 = .ok (.if_icmp .ne 7, 3) := by decide +kernel
theorem dX4_isMark_12 : decode cX4_isMark 12 = .ok (.iconst 1, 1) := by decide +kernel
theorem dX4_isMark_13 : decode cX4_isMark 13 = .ok (.goto 4, 3) := by decide +kernel
theorem dX4_isMark_16 : decode cX4_isMark 16 = .ok (.iconst 0, 1) := by decide +kernel
theorem dX4_isMark_17 : decode cX4_isMark 17 = .ok (.ireturn, 1) := by decide +kernel
def fX4_isMark (p1 : Int32) : Option Int32 := (if p1 = (8 : Int32) then some (1 : Int32) else (if p1 = (9 : Int32) then some (1 : Int32) else some (0 : Int32)))
set_option maxRecDepth 100000 in
set_option maxHeartbeats 4000000 in
theorem kX4_isMark (l : Launch) (p1 : Int32) (out : Int32) (hf : fX4_isMark p1 = some out) : Sq l yX4_isMark cX4_isMark 1 (some .boolean) 0 [.int p1] (some (.int out)) := by
  refine Sq.of [(0, .int p1)] rfl (by decide +kernel) (Nat.le_of_ble_eq_true rfl) ?_
  intro κ hκ C hQ
  subst hκ
  replace C : Cf κ cX4_isMark 1 RX4 (some .boolean) 0 := C
  refine g_iload_n (pc := 0) (i := 0) (j := 0) C dX4_isMark_0 rfl rfl ?_
  refine g_bipush (pc := 1) C dX4_isMark_1 cb_8 ?_
  refine g_icmp_eq (pc := 3) (tgt := 12) C dX4_isMark_3 rfl hf (fun _ hf => ?_) (fun _ hf => ?_)
  · refine g_iconst (pc := 12) C dX4_isMark_12 ci_1 ?_
    refine g_goto (pc := 13) (tgt := 17) C dX4_isMark_13 rfl ?_
    exact g_zret1p (pc := 17) C rfl hQ dX4_isMark_17 hf
  · refine g_iload_n (pc := 6) (i := 0) (j := 0) C dX4_isMark_6 rfl rfl ?_
    refine g_bipush (pc := 7) C dX4_isMark_7 cb_9 ?_
    refine g_icmp_ne (pc := 9) (tgt := 16) C dX4_isMark_9 rfl hf (fun _ hf => ?_) (fun _ hf => ?_)
    · refine g_iconst (pc := 16) C dX4_isMark_16 ci_0 ?_
      exact g_zret1p (pc := 17) C rfl hQ dX4_isMark_17 hf
    · refine g_iconst (pc := 12) C dX4_isMark_12 ci_1 ?_
      refine g_goto (pc := 13) (tgt := 17) C dX4_isMark_13 rfl ?_
      exact g_zret1p (pc := 17) C rfl hQ dX4_isMark_17 hf
theorem dX4_accepts_0 : decode cX4_accepts 0 = .ok (.iload_n 0, 1) := by decide +kernel
theorem dX4_accepts_1 : decode cX4_accepts 1 = .ok (.tableswitch 77 8 12 #[35, 40, 52, 64, 75], 35) := by decide +kernel
theorem dX4_accepts_36 : decode cX4_accepts 36 = .ok (.iload_n 1, 1) := by decide +kernel
theorem dX4_accepts_37 : decode cX4_accepts 37 = .ok (.invokestatic 13, 3) := by decide +kernel
theorem dX4_accepts_40 : decode cX4_accepts 40 = .ok (.ireturn, 1) := by decide +kernel
theorem dX4_accepts_41 : decode cX4_accepts 41 = .ok (.iload_n 1, 1) := by decide +kernel
theorem dX4_accepts_42 : decode cX4_accepts 42 = .ok (.bipush 9, 2) := by decide +kernel
theorem dX4_accepts_44 : decode cX4_accepts 44 = .ok (.if_icmp .ne 7, 3) := by decide +kernel
theorem dX4_accepts_47 : decode cX4_accepts 47 = .ok (.iconst 1, 1) := by decide +kernel
theorem dX4_accepts_48 : decode cX4_accepts 48 = .ok (.goto 4, 3) := by decide +kernel
theorem dX4_accepts_51 : decode cX4_accepts 51 = .ok (.iconst 0, 1) := by decide +kernel
theorem dX4_accepts_52 : decode cX4_accepts 52 = .ok (.ireturn, 1) := by decide +kernel
theorem dX4_accepts_53 : decode cX4_accepts 53 = .ok (.iload_n 1, 1) := by decide +kernel
theorem dX4_accepts_54 : decode cX4_accepts 54 = .ok (.bipush 10, 2) := by decide +kernel
theorem dX4_accepts_56 : decode cX4_accepts 56 = .ok (.if_icmp .ne 7, 3) := by decide +kernel
theorem dX4_accepts_59 : decode cX4_accepts 59 = .ok (.iconst 1, 1) := by decide +kernel
theorem dX4_accepts_60 : decode cX4_accepts 60 = .ok (.goto 4, 3) := by decide +kernel
theorem dX4_accepts_63 : decode cX4_accepts 63 = .ok (.iconst 0, 1) := by decide +kernel
theorem dX4_accepts_64 : decode cX4_accepts 64 = .ok (.ireturn, 1) := by decide +kernel
theorem dX4_accepts_65 : decode cX4_accepts 65 = .ok (.iload_n 1, 1) := by decide +kernel
theorem dX4_accepts_66 : decode cX4_accepts 66 = .ok (.iconst 4, 1) := by decide +kernel
theorem dX4_accepts_67 : decode cX4_accepts 67 = .ok (.if_icmp .ne 7, 3) := by decide +kernel
theorem dX4_accepts_70 : decode cX4_accepts 70 = .ok (.iconst 1, 1) := by decide +kernel
theorem dX4_accepts_71 : decode cX4_accepts 71 = .ok (.goto 4, 3) := by decide +kernel
theorem dX4_accepts_74 : decode cX4_accepts 74 = .ok (.iconst 0, 1) := by decide +kernel
theorem dX4_accepts_75 : decode cX4_accepts 75 = .ok (.ireturn, 1) := by decide +kernel
theorem dX4_accepts_76 : decode cX4_accepts 76 = .ok (.iconst 1, 1) := by decide +kernel
theorem dX4_accepts_77 : decode cX4_accepts 77 = .ok (.ireturn, 1) := by decide +kernel
theorem dX4_accepts_78 : decode cX4_accepts 78 = .ok (.iload_n 1, 1) := by decide +kernel
theorem dX4_accepts_79 : decode cX4_accepts 79 = .ok (.invokestatic 9, 3) := by decide +kernel
theorem dX4_accepts_82 : decode cX4_accepts 82 = .ok (.ifCond .eq 15, 3) := by decide +kernel
theorem dX4_accepts_85 : decode cX4_accepts 85 = .ok (.iload_n 1, 1) := by decide +kernel
theorem dX4_accepts_86 : decode cX4_accepts 86 = .ok (.iload_n 0, 1) := by decide +kernel
theorem dX4_accepts_87 : decode cX4_accepts 87 = .ok (.invokestatic 22, 3) := by decide +kernel
theorem dX4_accepts_90 : decode cX4_accepts 90 = .ok (.ifCond .eq 7, 3) := by decide +kernel
theorem dX4_accepts_93 : decode cX4_accepts 93 = .ok (.iconst 1, 1) := by decide +kernel
theorem dX4_accepts_94 : decode cX4_accepts 94 = .ok (.goto 4, 3) := by decide +kernel
theorem dX4_accepts_97 : decode cX4_accepts 97 = .ok (.iconst 0, 1) := by decide +kernel
theorem dX4_accepts_98 : decode cX4_accepts 98 = .ok (.ireturn, 1) := by decide +kernel
def fX4_accepts (p1 : Int32) (p2 : Int32) : Option Int32 := (if p1 = 8 then ((fX4_isMark p2).bind fun r37 => (if rbz r37 = true then some r37 else none)) else (if p1 = 9 then (if p2 = (9 : Int32) then some (1 : Int32) else some (0 : Int32)) else (if p1 = 10 then (if p2 = (10 : Int32) then some (1 : Int32) else some (0 : Int32)) else (if p1 = 11 then (if p2 = (4 : Int32) then some (1 : Int32) else some (0 : Int32)) else (if p1 = 12 then some (1 : Int32) else ((fX7_isPrimitive p2).bind fun r79 => (if r79 = 0 then some (0 : Int32) else ((fX2_widens p2 p1).bind fun r87 => (if r87 = 0 then some (0 : Int32) else some (1 : Int32))))))))))
set_option maxRecDepth 100000 in
set_option maxHeartbeats 4000000 in
theorem kX4_accepts (l : Launch) (p1 : Int32) (p2 : Int32) (out : Int32) (hf : fX4_accepts p1 p2 = some out) : Sq l yX4_accepts cX4_accepts 2 (some .boolean) 1 [.int p1, .int p2] (some (.int out)) := by
  refine Sq.of [(0, .int p1), (1, .int p2)] rfl (by decide +kernel) (Nat.le_of_ble_eq_true rfl) ?_
  intro κ hκ C hQ
  subst hκ
  replace C : Cf κ cX4_accepts 2 RX4 (some .boolean) 1 := C
  refine g_iload_n (pc := 0) (i := 0) (j := 0) C dX4_accepts_0 rfl rfl ?_
  by_cases h1_0 : p1 = 8
  · replace hf := ite_t h1_0 hf
    refine g_tabIn (pc := 1) (v := 8) (off := 35) (tgt := 36) C dX4_accepts_1 h1_0 (by decide) rfl ?_
    refine g_iload_n (pc := 36) (i := 1) (j := 1) C dX4_accepts_36 rfl rfl ?_
    refine g_cpi (pc := 37) (st := []) C lkX4_13 (As := [.int p2]) rfl (fun out h => kX4_isMark (kl κ) p2 out h) (by decide) rfl (Nat.le_of_ble_eq_true rfl) dX4_accepts_37 hf (fun r37 _ hf => ?_)
    exact g_zretp (pc := 40) C hQ dX4_accepts_40 hf
  replace hf := ite_f h1_0 hf
  by_cases h1_1 : p1 = 9
  · replace hf := ite_t h1_1 hf
    refine g_tabIn (pc := 1) (v := 9) (off := 40) (tgt := 41) C dX4_accepts_1 h1_1 (by decide) rfl ?_
    refine g_iload_n (pc := 41) (i := 1) (j := 1) C dX4_accepts_41 rfl rfl ?_
    refine g_bipush (pc := 42) C dX4_accepts_42 cb_9 ?_
    refine g_icmp_ne (pc := 44) (tgt := 51) C dX4_accepts_44 rfl hf (fun _ hf => ?_) (fun _ hf => ?_)
    · refine g_iconst (pc := 51) C dX4_accepts_51 ci_0 ?_
      exact g_zret1p (pc := 52) C rfl hQ dX4_accepts_52 hf
    · refine g_iconst (pc := 47) C dX4_accepts_47 ci_1 ?_
      refine g_goto (pc := 48) (tgt := 52) C dX4_accepts_48 rfl ?_
      exact g_zret1p (pc := 52) C rfl hQ dX4_accepts_52 hf
  replace hf := ite_f h1_1 hf
  by_cases h1_2 : p1 = 10
  · replace hf := ite_t h1_2 hf
    refine g_tabIn (pc := 1) (v := 10) (off := 52) (tgt := 53) C dX4_accepts_1 h1_2 (by decide) rfl ?_
    refine g_iload_n (pc := 53) (i := 1) (j := 1) C dX4_accepts_53 rfl rfl ?_
    refine g_bipush (pc := 54) C dX4_accepts_54 cb_10 ?_
    refine g_icmp_ne (pc := 56) (tgt := 63) C dX4_accepts_56 rfl hf (fun _ hf => ?_) (fun _ hf => ?_)
    · refine g_iconst (pc := 63) C dX4_accepts_63 ci_0 ?_
      exact g_zret1p (pc := 64) C rfl hQ dX4_accepts_64 hf
    · refine g_iconst (pc := 59) C dX4_accepts_59 ci_1 ?_
      refine g_goto (pc := 60) (tgt := 64) C dX4_accepts_60 rfl ?_
      exact g_zret1p (pc := 64) C rfl hQ dX4_accepts_64 hf
  replace hf := ite_f h1_2 hf
  by_cases h1_3 : p1 = 11
  · replace hf := ite_t h1_3 hf
    refine g_tabIn (pc := 1) (v := 11) (off := 64) (tgt := 65) C dX4_accepts_1 h1_3 (by decide) rfl ?_
    refine g_iload_n (pc := 65) (i := 1) (j := 1) C dX4_accepts_65 rfl rfl ?_
    refine g_iconst (pc := 66) C dX4_accepts_66 ci_4 ?_
    refine g_icmp_ne (pc := 67) (tgt := 74) C dX4_accepts_67 rfl hf (fun _ hf => ?_) (fun _ hf => ?_)
    · refine g_iconst (pc := 74) C dX4_accepts_74 ci_0 ?_
      exact g_zret1p (pc := 75) C rfl hQ dX4_accepts_75 hf
    · refine g_iconst (pc := 70) C dX4_accepts_70 ci_1 ?_
      refine g_goto (pc := 71) (tgt := 75) C dX4_accepts_71 rfl ?_
      exact g_zret1p (pc := 75) C rfl hQ dX4_accepts_75 hf
  replace hf := ite_f h1_3 hf
  by_cases h1_4 : p1 = 12
  · replace hf := ite_t h1_4 hf
    refine g_tabIn (pc := 1) (v := 12) (off := 75) (tgt := 76) C dX4_accepts_1 h1_4 (by decide) rfl ?_
    refine g_iconst (pc := 76) C dX4_accepts_76 ci_1 ?_
    exact g_zret1p (pc := 77) C rfl hQ dX4_accepts_77 hf
  replace hf := ite_f h1_4 hf
  have e1_0 := i32_ne (n := 8) h1_0 (by decide)
  have e1_1 := i32_ne (n := 9) h1_1 (by decide)
  have e1_2 := i32_ne (n := 10) h1_2 (by decide)
  have e1_3 := i32_ne (n := 11) h1_3 (by decide)
  have e1_4 := i32_ne (n := 12) h1_4 (by decide)
  refine g_tabOut (pc := 1) (tgt := 78) C dX4_accepts_1 (by omega) rfl ?_
  refine g_iload_n (pc := 78) (i := 1) (j := 1) C dX4_accepts_78 rfl rfl ?_
  refine g_cni (pc := 79) (st := []) C lkX4_9 (As := [.int p2]) rfl (fun out h => kX7_isPrimitive (kl κ) p2 out h) (by decide) rfl (Nat.le_of_ble_eq_true rfl) dX4_accepts_79 hf (fun r79 _ hf => ?_)
  refine g_if_eq (pc := 82) (tgt := 97) C dX4_accepts_82 rfl hf (fun _ hf => ?_) (fun _ hf => ?_)
  · refine g_iconst (pc := 97) C dX4_accepts_97 ci_0 ?_
    exact g_zret1p (pc := 98) C rfl hQ dX4_accepts_98 hf
  · refine g_iload_n (pc := 85) (i := 1) (j := 1) C dX4_accepts_85 rfl rfl ?_
    refine g_iload_n (pc := 86) (i := 0) (j := 0) C dX4_accepts_86 rfl rfl ?_
    refine g_cpi (pc := 87) (st := []) C lkX4_22 (As := [.int p2, .int p1]) rfl (fun out h => kX2_widens (kl κ) p2 p1 out h) (by decide) rfl (Nat.le_of_ble_eq_true rfl) dX4_accepts_87 hf (fun r87 _ hf => ?_)
    refine g_if_eq (pc := 90) (tgt := 97) C dX4_accepts_90 rfl hf (fun _ hf => ?_) (fun _ hf => ?_)
    · refine g_iconst (pc := 97) C dX4_accepts_97 ci_0 ?_
      exact g_zret1p (pc := 98) C rfl hQ dX4_accepts_98 hf
    · refine g_iconst (pc := 93) C dX4_accepts_93 ci_1 ?_
      refine g_goto (pc := 94) (tgt := 98) C dX4_accepts_94 rfl ?_
      exact g_zret1p (pc := 98) C rfl hQ dX4_accepts_98 hf
theorem dX4_fetchFit_0 : decode cX4_fetchFit 0 = .ok (.iload_n 0, 1) := by decide +kernel
theorem dX4_fetchFit_1 : decode cX4_fetchFit 1 = .ok (.bipush 15, 2) := by decide +kernel
theorem dX4_fetchFit_3 : decode cX4_fetchFit 3 = .ok (.if_icmp .ne 5, 3) := by decide +kernel
theorem dX4_fetchFit_6 : decode cX4_fetchFit 6 = .ok (.iconst 5, 1) := by decide +kernel
theorem dX4_fetchFit_7 : decode cX4_fetchFit 7 = .ok (.ireturn, 1) := by decide +kernel
theorem dX4_fetchFit_8 : decode cX4_fetchFit 8 = .ok (.iload_n 0, 1) := by decide +kernel
theorem dX4_fetchFit_9 : decode cX4_fetchFit 9 = .ok (.bipush 12, 2) := by decide +kernel
theorem dX4_fetchFit_11 : decode cX4_fetchFit 11 = .ok (.if_icmp .le 7, 3) := by decide +kernel
theorem dX4_fetchFit_14 : decode cX4_fetchFit 14 = .ok (.iconst 3, 1) := by decide +kernel
theorem dX4_fetchFit_15 : decode cX4_fetchFit 15 = .ok (.goto 4, 3) := by decide +kernel
theorem dX4_fetchFit_18 : decode cX4_fetchFit 18 = .ok (.iconst 0, 1) := by decide +kernel
theorem dX4_fetchFit_19 : decode cX4_fetchFit 19 = .ok (.ireturn, 1) := by decide +kernel
def fX4_fetchFit (p1 : Int32) : Option Int32 := (if p1 = (15 : Int32) then some (5 : Int32) else (if p1 ≤ (12 : Int32) then some (0 : Int32) else some (3 : Int32)))
set_option maxRecDepth 100000 in
set_option maxHeartbeats 4000000 in
theorem kX4_fetchFit (l : Launch) (p1 : Int32) (out : Int32) (hf : fX4_fetchFit p1 = some out) : Sq l yX4_fetchFit cX4_fetchFit 1 (some .int) 0 [.int p1] (some (.int out)) := by
  refine Sq.of [(0, .int p1)] rfl (by decide +kernel) (Nat.le_of_ble_eq_true rfl) ?_
  intro κ hκ C hQ
  subst hκ
  replace C : Cf κ cX4_fetchFit 1 RX4 (some .int) 0 := C
  refine g_iload_n (pc := 0) (i := 0) (j := 0) C dX4_fetchFit_0 rfl rfl ?_
  refine g_bipush (pc := 1) C dX4_fetchFit_1 cb_15 ?_
  refine g_icmp_ne (pc := 3) (tgt := 8) C dX4_fetchFit_3 rfl hf (fun _ hf => ?_) (fun _ hf => ?_)
  · refine g_iload_n (pc := 8) (i := 0) (j := 0) C dX4_fetchFit_8 rfl rfl ?_
    refine g_bipush (pc := 9) C dX4_fetchFit_9 cb_12 ?_
    refine g_icmp_le (pc := 11) (tgt := 18) C dX4_fetchFit_11 rfl hf (fun _ hf => ?_) (fun _ hf => ?_)
    · refine g_iconst (pc := 18) C dX4_fetchFit_18 ci_0 ?_
      exact g_iretp (pc := 19) C hQ dX4_fetchFit_19 hf
    · refine g_iconst (pc := 14) C dX4_fetchFit_14 ci_3 ?_
      refine g_goto (pc := 15) (tgt := 19) C dX4_fetchFit_15 rfl ?_
      exact g_iretp (pc := 19) C hQ dX4_fetchFit_19 hf
  · refine g_iconst (pc := 6) C dX4_fetchFit_6 ci_5 ?_
    exact g_iretp (pc := 7) C hQ dX4_fetchFit_7 hf
theorem dX4_fetchedForm_0 : decode cX4_fetchedForm 0 = .ok (.iload_n 0, 1) := by decide +kernel
theorem dX4_fetchedForm_1 : decode cX4_fetchedForm 1 = .ok (.bipush (-9), 2) := by decide +kernel
theorem dX4_fetchedForm_3 : decode cX4_fetchedForm 3 = .ok (.if_icmp .ne 5, 3) := by decide +kernel
theorem dX4_fetchedForm_6 : decode cX4_fetchedForm 6 = .ok (.iconst 0, 1) := by decide +kernel
theorem dX4_fetchedForm_7 : decode cX4_fetchedForm 7 = .ok (.ireturn, 1) := by decide +kernel
theorem dX4_fetchedForm_8 : decode cX4_fetchedForm 8 = .ok (.iload_n 0, 1) := by decide +kernel
theorem dX4_fetchedForm_9 : decode cX4_fetchedForm 9 = .ok (.invokestatic 9, 3) := by decide +kernel
theorem dX4_fetchedForm_12 : decode cX4_fetchedForm 12 = .ok (.ifCond .eq 7, 3) := by decide +kernel
theorem dX4_fetchedForm_15 : decode cX4_fetchedForm 15 = .ok (.iconst 2, 1) := by decide +kernel
theorem dX4_fetchedForm_16 : decode cX4_fetchedForm 16 = .ok (.goto 15, 3) := by decide +kernel
theorem dX4_fetchedForm_19 : decode cX4_fetchedForm 19 = .ok (.iload_n 0, 1) := by decide +kernel
theorem dX4_fetchedForm_20 : decode cX4_fetchedForm 20 = .ok (.invokestatic 13, 3) := by decide +kernel
theorem dX4_fetchedForm_23 : decode cX4_fetchedForm 23 = .ok (.ifCond .eq 7, 3) := by decide +kernel
theorem dX4_fetchedForm_26 : decode cX4_fetchedForm 26 = .ok (.iconst 3, 1) := by decide +kernel
theorem dX4_fetchedForm_27 : decode cX4_fetchedForm 27 = .ok (.goto 4, 3) := by decide +kernel
theorem dX4_fetchedForm_30 : decode cX4_fetchedForm 30 = .ok (.iconst 4, 1) := by decide +kernel
theorem dX4_fetchedForm_31 : decode cX4_fetchedForm 31 = .ok (.ireturn, 1) := by decide +kernel
def fX4_fetchedForm (p1 : Int32) : Option Int32 := (if p1 = (-9 : Int32) then some (0 : Int32) else ((fX7_isPrimitive p1).bind fun r9 => (if r9 = 0 then ((fX4_isMark p1).bind fun r20 => (if r20 = 0 then some (4 : Int32) else some (3 : Int32))) else some (2 : Int32))))
set_option maxRecDepth 100000 in
set_option maxHeartbeats 4000000 in
theorem kX4_fetchedForm (l : Launch) (p1 : Int32) (out : Int32) (hf : fX4_fetchedForm p1 = some out) : Sq l yX4_fetchedForm cX4_fetchedForm 1 (some .int) 1 [.int p1] (some (.int out)) := by
  refine Sq.of [(0, .int p1)] rfl (by decide +kernel) (Nat.le_of_ble_eq_true rfl) ?_
  intro κ hκ C hQ
  subst hκ
  replace C : Cf κ cX4_fetchedForm 1 RX4 (some .int) 1 := C
  refine g_iload_n (pc := 0) (i := 0) (j := 0) C dX4_fetchedForm_0 rfl rfl ?_
  refine g_bipush (pc := 1) C dX4_fetchedForm_1 cb_m9 ?_
  refine g_icmp_ne (pc := 3) (tgt := 8) C dX4_fetchedForm_3 rfl hf (fun _ hf => ?_) (fun _ hf => ?_)
  · refine g_iload_n (pc := 8) (i := 0) (j := 0) C dX4_fetchedForm_8 rfl rfl ?_
    refine g_cni (pc := 9) (st := []) C lkX4_9 (As := [.int p1]) rfl (fun out h => kX7_isPrimitive (kl κ) p1 out h) (by decide) rfl (Nat.le_of_ble_eq_true rfl) dX4_fetchedForm_9 hf (fun r9 _ hf => ?_)
    refine g_if_eq (pc := 12) (tgt := 19) C dX4_fetchedForm_12 rfl hf (fun _ hf => ?_) (fun _ hf => ?_)
    · refine g_iload_n (pc := 19) (i := 0) (j := 0) C dX4_fetchedForm_19 rfl rfl ?_
      refine g_cpi (pc := 20) (st := []) C lkX4_13 (As := [.int p1]) rfl (fun out h => kX4_isMark (kl κ) p1 out h) (by decide) rfl (Nat.le_of_ble_eq_true rfl) dX4_fetchedForm_20 hf (fun r20 _ hf => ?_)
      refine g_if_eq (pc := 23) (tgt := 30) C dX4_fetchedForm_23 rfl hf (fun _ hf => ?_) (fun _ hf => ?_)
      · refine g_iconst (pc := 30) C dX4_fetchedForm_30 ci_4 ?_
        exact g_iretp (pc := 31) C hQ dX4_fetchedForm_31 hf
      · refine g_iconst (pc := 26) C dX4_fetchedForm_26 ci_3 ?_
        refine g_goto (pc := 27) (tgt := 31) C dX4_fetchedForm_27 rfl ?_
        exact g_iretp (pc := 31) C hQ dX4_fetchedForm_31 hf
    · refine g_iconst (pc := 15) C dX4_fetchedForm_15 ci_2 ?_
      refine g_goto (pc := 16) (tgt := 31) C dX4_fetchedForm_16 rfl ?_
      exact g_iretp (pc := 31) C hQ dX4_fetchedForm_31 hf
  · refine g_iconst (pc := 6) C dX4_fetchedForm_6 ci_0 ?_
    exact g_iretp (pc := 7) C hQ dX4_fetchedForm_7 hf
theorem dX4_getFit_0 : decode cX4_getFit 0 = .ok (.iload_n 0, 1) := by decide +kernel
theorem dX4_getFit_1 : decode cX4_getFit 1 = .ok (.invokestatic 18, 3) := by decide +kernel
theorem dX4_getFit_4 : decode cX4_getFit 4 = .ok (.istore_n 2, 1) := by decide +kernel
theorem dX4_getFit_5 : decode cX4_getFit 5 = .ok (.iload_n 2, 1) := by decide +kernel
theorem dX4_getFit_6 : decode cX4_getFit 6 = .ok (.ifCond .eq 5, 3) := by decide +kernel
theorem dX4_getFit_9 : decode cX4_getFit 9 = .ok (.iload_n 2, 1) := by decide +kernel
theorem dX4_getFit_10 : decode cX4_getFit 10 = .ok (.ireturn, 1) := by decide +kernel
theorem dX4_getFit_11 : decode cX4_getFit 11 = .ok (.iload_n 0, 1) := by decide +kernel
theorem dX4_getFit_12 : decode cX4_getFit 12 = .ok (.invokestatic 9, 3) := by decide +kernel
theorem dX4_getFit_15 : decode cX4_getFit 15 = .ok (.ifCond .ne 5, 3) := by decide +kernel
theorem dX4_getFit_18 : decode cX4_getFit 18 = .ok (.iconst 4, 1) := by decide +kernel
theorem dX4_getFit_19 : decode cX4_getFit 19 = .ok (.ireturn, 1) := by decide +kernel
theorem dX4_getFit_20 : decode cX4_getFit 20 = .ok (.iload_n 0, 1) := by decide +kernel
theorem dX4_getFit_21 : decode cX4_getFit 21 = .ok (.iload_n 1, 1) := by decide +kernel
theorem dX4_getFit_22 : decode cX4_getFit 22 = .ok (.invokestatic 22, 3) := by decide +kernel
theorem dX4_getFit_25 : decode cX4_getFit 25 = .ok (.ifCond .eq 7, 3) := by decide +kernel
theorem dX4_getFit_28 : decode cX4_getFit 28 = .ok (.iconst 0, 1) := by decide +kernel
theorem dX4_getFit_29 : decode cX4_getFit 29 = .ok (.goto 4, 3) := by decide +kernel
theorem dX4_getFit_32 : decode cX4_getFit 32 = .ok (.iconst 2, 1) := by decide +kernel
theorem dX4_getFit_33 : decode cX4_getFit 33 = .ok (.ireturn, 1) := by decide +kernel
def fX4_getFit (p1 : Int32) (p2 : Int32) : Option Int32 := ((fX4_fetchFit p1).bind fun r1 => (if r1 = 0 then ((fX7_isPrimitive p1).bind fun r12 => (if r12 = 0 then some (4 : Int32) else ((fX2_widens p1 p2).bind fun r22 => (if r22 = 0 then some (2 : Int32) else some (0 : Int32))))) else some r1))
set_option maxRecDepth 100000 in
set_option maxHeartbeats 4000000 in
theorem kX4_getFit (l : Launch) (p1 : Int32) (p2 : Int32) (out : Int32) (hf : fX4_getFit p1 p2 = some out) : Sq l yX4_getFit cX4_getFit 3 (some .int) 1 [.int p1, .int p2] (some (.int out)) := by
  refine Sq.of [(0, .int p1), (1, .int p2)] rfl (by decide +kernel) (Nat.le_of_ble_eq_true rfl) ?_
  intro κ hκ C hQ
  subst hκ
  replace C : Cf κ cX4_getFit 3 RX4 (some .int) 1 := C
  refine g_iload_n (pc := 0) (i := 0) (j := 0) C dX4_getFit_0 rfl rfl ?_
  refine g_cpi (pc := 1) (st := []) C lkX4_18 (As := [.int p1]) rfl (fun out h => kX4_fetchFit (kl κ) p1 out h) (by decide) rfl (Nat.le_of_ble_eq_true rfl) dX4_getFit_1 hf (fun r1 _ hf => ?_)
  refine g_istore_n (pc := 4) (i := 2) (L' := [(2, .int r1), (0, .int p1), (1, .int p2)]) C dX4_getFit_4 rfl (by decide) rfl ?_
  refine g_iload_n (pc := 5) (i := 2) (j := 0) C dX4_getFit_5 rfl rfl ?_
  refine g_if_eq (pc := 6) (tgt := 11) C dX4_getFit_6 rfl hf (fun _ hf => ?_) (fun _ hf => ?_)
  · refine g_iload_n (pc := 11) (i := 0) (j := 1) C dX4_getFit_11 rfl rfl ?_
    refine g_cni (pc := 12) (st := []) C lkX4_9 (As := [.int p1]) rfl (fun out h => kX7_isPrimitive (kl κ) p1 out h) (by decide) rfl (Nat.le_of_ble_eq_true rfl) dX4_getFit_12 hf (fun r12 _ hf => ?_)
    refine g_if_ne (pc := 15) (tgt := 20) C dX4_getFit_15 rfl hf (fun _ hf => ?_) (fun _ hf => ?_)
    · refine g_iload_n (pc := 20) (i := 0) (j := 1) C dX4_getFit_20 rfl rfl ?_
      refine g_iload_n (pc := 21) (i := 1) (j := 2) C dX4_getFit_21 rfl rfl ?_
      refine g_cpi (pc := 22) (st := []) C lkX4_22 (As := [.int p1, .int p2]) rfl (fun out h => kX2_widens (kl κ) p1 p2 out h) (by decide) rfl (Nat.le_of_ble_eq_true rfl) dX4_getFit_22 hf (fun r22 _ hf => ?_)
      refine g_if_eq (pc := 25) (tgt := 32) C dX4_getFit_25 rfl hf (fun _ hf => ?_) (fun _ hf => ?_)
      · refine g_iconst (pc := 32) C dX4_getFit_32 ci_2 ?_
        exact g_iretp (pc := 33) C hQ dX4_getFit_33 hf
      · refine g_iconst (pc := 28) C dX4_getFit_28 ci_0 ?_
        refine g_goto (pc := 29) (tgt := 33) C dX4_getFit_29 rfl ?_
        exact g_iretp (pc := 33) C hQ dX4_getFit_33 hf
    · refine g_iconst (pc := 18) C dX4_getFit_18 ci_4 ?_
      exact g_iretp (pc := 19) C hQ dX4_getFit_19 hf
  · refine g_iload_n (pc := 9) (i := 2) (j := 0) C dX4_getFit_9 rfl rfl ?_
    exact g_iretp (pc := 10) C hQ dX4_getFit_10 hf
theorem dX4_isNumeric_0 : decode cX4_isNumeric 0 = .ok (.iload_n 0, 1) := by decide +kernel
theorem dX4_isNumeric_1 : decode cX4_isNumeric 1 = .ok (.iconst 1, 1) := by decide +kernel
theorem dX4_isNumeric_2 : decode cX4_isNumeric 2 = .ok (.if_icmp .lt 13, 3) := by decide +kernel
theorem dX4_isNumeric_5 : decode cX4_isNumeric 5 = .ok (.iload_n 0, 1) := by decide +kernel
theorem dX4_isNumeric_6 : decode cX4_isNumeric 6 = .ok (.bipush 7, 2) := by decide +kernel
theorem dX4_isNumeric_8 : decode cX4_isNumeric 8 = .ok (.if_icmp .gt 7, 3) := by decide +kernel
theorem dX4_isNumeric_11 : decode cX4_isNumeric 11 = .ok (.iconst 1, 1) := by decide +kernel
theorem dX4_isNumeric_12 : decode cX4_isNumeric 12 = .ok (.goto 4, 3) := by decide +kernel
theorem dX4_isNumeric_15 : decode cX4_isNumeric 15 = .ok (.iconst 0, 1) := by decide +kernel
theorem dX4_isNumeric_16 : decode cX4_isNumeric 16 = .ok (.ireturn, 1) := by decide +kernel
def fX4_isNumeric (p1 : Int32) : Option Int32 := (if p1 < (1 : Int32) then some (0 : Int32) else (if (7 : Int32) < p1 then some (0 : Int32) else some (1 : Int32)))
set_option maxRecDepth 100000 in
set_option maxHeartbeats 4000000 in
theorem kX4_isNumeric (l : Launch) (p1 : Int32) (out : Int32) (hf : fX4_isNumeric p1 = some out) : Sq l yX4_isNumeric cX4_isNumeric 1 (some .boolean) 0 [.int p1] (some (.int out)) := by
  refine Sq.of [(0, .int p1)] rfl (by decide +kernel) (Nat.le_of_ble_eq_true rfl) ?_
  intro κ hκ C hQ
  subst hκ
  replace C : Cf κ cX4_isNumeric 1 RX4 (some .boolean) 0 := C
  refine g_iload_n (pc := 0) (i := 0) (j := 0) C dX4_isNumeric_0 rfl rfl ?_
  refine g_iconst (pc := 1) C dX4_isNumeric_1 ci_1 ?_
  refine g_icmp_lt (pc := 2) (tgt := 15) C dX4_isNumeric_2 rfl hf (fun _ hf => ?_) (fun _ hf => ?_)
  · refine g_iconst (pc := 15) C dX4_isNumeric_15 ci_0 ?_
    exact g_zret1p (pc := 16) C rfl hQ dX4_isNumeric_16 hf
  · refine g_iload_n (pc := 5) (i := 0) (j := 0) C dX4_isNumeric_5 rfl rfl ?_
    refine g_bipush (pc := 6) C dX4_isNumeric_6 cb_7 ?_
    refine g_icmp_gt (pc := 8) (tgt := 15) C dX4_isNumeric_8 rfl hf (fun _ hf => ?_) (fun _ hf => ?_)
    · refine g_iconst (pc := 15) C dX4_isNumeric_15 ci_0 ?_
      exact g_zret1p (pc := 16) C rfl hQ dX4_isNumeric_16 hf
    · refine g_iconst (pc := 11) C dX4_isNumeric_11 ci_1 ?_
      refine g_goto (pc := 12) (tgt := 16) C dX4_isNumeric_12 rfl ?_
      exact g_zret1p (pc := 16) C rfl hQ dX4_isNumeric_16 hf
theorem dX4_joinedType_0 : decode cX4_joinedType 0 = .ok (.iload_n 0, 1) := by decide +kernel
theorem dX4_joinedType_1 : decode cX4_joinedType 1 = .ok (.invokestatic 9, 3) := by decide +kernel
theorem dX4_joinedType_4 : decode cX4_joinedType 4 = .ok (.ifCond .eq 18, 3) := by decide +kernel
theorem dX4_joinedType_7 : decode cX4_joinedType 7 = .ok (.iload_n 1, 1) := by decide +kernel
theorem dX4_joinedType_8 : decode cX4_joinedType 8 = .ok (.invokestatic 9, 3) := by decide +kernel
theorem dX4_joinedType_11 : decode cX4_joinedType 11 = .ok (.ifCond .eq 11, 3) := by decide +kernel
theorem dX4_joinedType_14 : decode cX4_joinedType 14 = .ok (.iload_n 0, 1) := by decide +kernel
theorem dX4_joinedType_15 : decode cX4_joinedType 15 = .ok (.iload_n 1, 1) := by decide +kernel
theorem dX4_joinedType_16 : decode cX4_joinedType 16 = .ok (.invokestatic 31, 3) := by decide +kernel
theorem dX4_joinedType_19 : decode cX4_joinedType 19 = .ok (.goto 5, 3) := by decide +kernel
theorem dX4_joinedType_22 : decode cX4_joinedType 22 = .ok (.bipush (-9), 2) := by decide +kernel
theorem dX4_joinedType_24 : decode cX4_joinedType 24 = .ok (.istore_n 2, 1) := by decide +kernel
theorem dX4_joinedType_25 : decode cX4_joinedType 25 = .ok (.iload_n 2, 1) := by decide +kernel
theorem dX4_joinedType_26 : decode cX4_joinedType 26 = .ok (.bipush (-9), 2) := by decide +kernel
theorem dX4_joinedType_28 : decode cX4_joinedType 28 = .ok (.if_icmp .eq 5, 3) := by decide +kernel
theorem dX4_joinedType_31 : decode cX4_joinedType 31 = .ok (.iload_n 2, 1) := by decide +kernel
theorem dX4_joinedType_32 : decode cX4_joinedType 32 = .ok (.ireturn, 1) := by decide +kernel
theorem dX4_joinedType_33 : decode cX4_joinedType 33 = .ok (.iload_n 0, 1) := by decide +kernel
theorem dX4_joinedType_34 : decode cX4_joinedType 34 = .ok (.iload_n 1, 1) := by decide +kernel
theorem dX4_joinedType_35 : decode cX4_joinedType 35 = .ok (.if_icmp .ne 5, 3) := by decide +kernel
theorem dX4_joinedType_38 : decode cX4_joinedType 38 = .ok (.iload_n 0, 1) := by decide +kernel
theorem dX4_joinedType_39 : decode cX4_joinedType 39 = .ok (.ireturn, 1) := by decide +kernel
theorem dX4_joinedType_40 : decode cX4_joinedType 40 = .ok (.iload_n 0, 1) := by decide +kernel
theorem dX4_joinedType_41 : decode cX4_joinedType 41 = .ok (.invokestatic 13, 3) := by decide +kernel
theorem dX4_joinedType_44 : decode cX4_joinedType 44 = .ok (.ifCond .eq 15, 3) := by decide +kernel
theorem dX4_joinedType_47 : decode cX4_joinedType 47 = .ok (.iload_n 1, 1) := by decide +kernel
theorem dX4_joinedType_48 : decode cX4_joinedType 48 = .ok (.invokestatic 13, 3) := by decide +kernel
theorem dX4_joinedType_51 : decode cX4_joinedType 51 = .ok (.ifCond .eq 8, 3) := by decide +kernel
theorem dX4_joinedType_54 : decode cX4_joinedType 54 = .ok (.bipush 8, 2) := by decide +kernel
theorem dX4_joinedType_56 : decode cX4_joinedType 56 = .ok (.goto 5, 3) := by decide +kernel
theorem dX4_joinedType_59 : decode cX4_joinedType 59 = .ok (.bipush 12, 2) := by decide +kernel
theorem dX4_joinedType_61 : decode cX4_joinedType 61 = .ok (.ireturn, 1) := by decide +kernel
def fX4_joinedType_b24 (v0 : Int32) (v1 : Int32) (s0 : Int32) : Option Int32 := (if s0 = (-9 : Int32) then (if v0 = v1 then some v0 else ((fX4_isMark v0).bind fun r41 => (if r41 = 0 then some (12 : Int32) else ((fX4_isMark v1).bind fun r48 => (if r48 = 0 then some (12 : Int32) else some (8 : Int32)))))) else some s0)
def fX4_joinedType_b22 (v0 : Int32) (v1 : Int32) : Option Int32 := fX4_joinedType_b24 v0 v1 (-9 : Int32)
def fX4_joinedType (p1 : Int32) (p2 : Int32) : Option Int32 := ((fX7_isPrimitive p1).bind fun r1 => (if r1 = 0 then fX4_joinedType_b22 p1 p2 else ((fX7_isPrimitive p2).bind fun r8 => (if r8 = 0 then fX4_joinedType_b22 p1 p2 else ((fX2_leastOfTwo p1 p2).bind fun r16 => fX4_joinedType_b24 p1 p2 r16)))))
set_option maxRecDepth 100000 in
set_option maxHeartbeats 4000000 in
theorem kX4_joinedType (l : Launch) (p1 : Int32) (p2 : Int32) (out : Int32) (hf : fX4_joinedType p1 p2 = some out) : Sq l yX4_joinedType cX4_joinedType 3 (some .int) 4 [.int p1, .int p2] (some (.int out)) := by
  refine Sq.of [(0, .int p1), (1, .int p2)] rfl (by decide +kernel) (Nat.le_of_ble_eq_true rfl) ?_
  intro κ hκ C hQ
  subst hκ
  replace C : Cf κ cX4_joinedType 3 RX4 (some .int) 4 := C
  have b24 : ∀ (v0 : Int32) (v1 : Int32) (s0 : Int32) , fX4_joinedType_b24 v0 v1 s0 = some out → G κ (Vp κ) 3 24 [(0, .int v0), (1, .int v1)] [.int s0] := by
    intro v0 v1 s0 hf
    refine g_istore_n (pc := 24) (i := 2) (L' := [(2, .int s0), (0, .int v0), (1, .int v1)]) C dX4_joinedType_24 rfl (by decide) rfl ?_
    refine g_iload_n (pc := 25) (i := 2) (j := 0) C dX4_joinedType_25 rfl rfl ?_
    refine g_bipush (pc := 26) C dX4_joinedType_26 cb_m9 ?_
    refine g_icmp_eq (pc := 28) (tgt := 33) C dX4_joinedType_28 rfl hf (fun _ hf => ?_) (fun _ hf => ?_)
    · refine g_iload_n (pc := 33) (i := 0) (j := 1) C dX4_joinedType_33 rfl rfl ?_
      refine g_iload_n (pc := 34) (i := 1) (j := 2) C dX4_joinedType_34 rfl rfl ?_
      refine g_icmp_ne (pc := 35) (tgt := 40) C dX4_joinedType_35 rfl hf (fun _ hf => ?_) (fun _ hf => ?_)
      · refine g_iload_n (pc := 40) (i := 0) (j := 1) C dX4_joinedType_40 rfl rfl ?_
        refine g_cpi (pc := 41) (st := []) C lkX4_13 (As := [.int v0]) rfl (fun out h => kX4_isMark (kl κ) v0 out h) (by decide) rfl (Nat.le_of_ble_eq_true rfl) dX4_joinedType_41 hf (fun r41 _ hf => ?_)
        refine g_if_eq (pc := 44) (tgt := 59) C dX4_joinedType_44 rfl hf (fun _ hf => ?_) (fun _ hf => ?_)
        · refine g_bipush (pc := 59) C dX4_joinedType_59 cb_12 ?_
          exact g_iretp (pc := 61) C hQ dX4_joinedType_61 hf
        · refine g_iload_n (pc := 47) (i := 1) (j := 2) C dX4_joinedType_47 rfl rfl ?_
          refine g_cpi (pc := 48) (st := []) C lkX4_13 (As := [.int v1]) rfl (fun out h => kX4_isMark (kl κ) v1 out h) (by decide) rfl (Nat.le_of_ble_eq_true rfl) dX4_joinedType_48 hf (fun r48 _ hf => ?_)
          refine g_if_eq (pc := 51) (tgt := 59) C dX4_joinedType_51 rfl hf (fun _ hf => ?_) (fun _ hf => ?_)
          · refine g_bipush (pc := 59) C dX4_joinedType_59 cb_12 ?_
            exact g_iretp (pc := 61) C hQ dX4_joinedType_61 hf
          · refine g_bipush (pc := 54) C dX4_joinedType_54 cb_8 ?_
            refine g_goto (pc := 56) (tgt := 61) C dX4_joinedType_56 rfl ?_
            exact g_iretp (pc := 61) C hQ dX4_joinedType_61 hf
      · refine g_iload_n (pc := 38) (i := 0) (j := 1) C dX4_joinedType_38 rfl rfl ?_
        exact g_iretp (pc := 39) C hQ dX4_joinedType_39 hf
    · refine g_iload_n (pc := 31) (i := 2) (j := 0) C dX4_joinedType_31 rfl rfl ?_
      exact g_iretp (pc := 32) C hQ dX4_joinedType_32 hf
  have b22 : ∀ (v0 : Int32) (v1 : Int32) , fX4_joinedType_b22 v0 v1 = some out → G κ (Vp κ) 3 22 [(0, .int v0), (1, .int v1)] [] := by
    intro v0 v1 hf
    refine g_bipush (pc := 22) C dX4_joinedType_22 cb_m9 ?_
    exact b24 v0 v1 (-9 : Int32) hf
  refine g_iload_n (pc := 0) (i := 0) (j := 0) C dX4_joinedType_0 rfl rfl ?_
  refine g_cni (pc := 1) (st := []) C lkX4_9 (As := [.int p1]) rfl (fun out h => kX7_isPrimitive (kl κ) p1 out h) (by decide) rfl (Nat.le_of_ble_eq_true rfl) dX4_joinedType_1 hf (fun r1 _ hf => ?_)
  refine g_if_eq (pc := 4) (tgt := 22) C dX4_joinedType_4 rfl hf (fun _ hf => ?_) (fun _ hf => ?_)
  · exact b22 p1 p2 hf
  · refine g_iload_n (pc := 7) (i := 1) (j := 1) C dX4_joinedType_7 rfl rfl ?_
    refine g_cni (pc := 8) (st := []) C lkX4_9 (As := [.int p2]) rfl (fun out h => kX7_isPrimitive (kl κ) p2 out h) (by decide) rfl (Nat.le_of_ble_eq_true rfl) dX4_joinedType_8 hf (fun r8 _ hf => ?_)
    refine g_if_eq (pc := 11) (tgt := 22) C dX4_joinedType_11 rfl hf (fun _ hf => ?_) (fun _ hf => ?_)
    · exact b22 p1 p2 hf
    · refine g_iload_n (pc := 14) (i := 0) (j := 0) C dX4_joinedType_14 rfl rfl ?_
      refine g_iload_n (pc := 15) (i := 1) (j := 1) C dX4_joinedType_15 rfl rfl ?_
      refine g_cpi (pc := 16) (st := []) C lkX4_31 (As := [.int p1, .int p2]) rfl (fun out h => kX2_leastOfTwo (kl κ) p1 p2 out h) (by decide) rfl (Nat.le_of_ble_eq_true rfl) dX4_joinedType_16 hf (fun r16 _ hf => ?_)
      refine g_goto (pc := 19) (tgt := 24) C dX4_joinedType_19 rfl ?_
      exact b24 p1 p2 r16 hf
theorem dX4_placed_0 : decode cX4_placed 0 = .ok (.iload_n 1, 1) := by decide +kernel
theorem dX4_placed_1 : decode cX4_placed 1 = .ok (.ifCond .eq 5, 3) := by decide +kernel
theorem dX4_placed_4 : decode cX4_placed 4 = .ok (.iload_n 0, 1) := by decide +kernel
theorem dX4_placed_5 : decode cX4_placed 5 = .ok (.ireturn, 1) := by decide +kernel
theorem dX4_placed_6 : decode cX4_placed 6 = .ok (.iload_n 0, 1) := by decide +kernel
theorem dX4_placed_7 : decode cX4_placed 7 = .ok (.ifCond .ne 5, 3) := by decide +kernel
theorem dX4_placed_10 : decode cX4_placed 10 = .ok (.iconst 1, 1) := by decide +kernel
theorem dX4_placed_11 : decode cX4_placed 11 = .ok (.ireturn, 1) := by decide +kernel
theorem dX4_placed_12 : decode cX4_placed 12 = .ok (.iload_n 0, 1) := by decide +kernel
theorem dX4_placed_13 : decode cX4_placed 13 = .ok (.iconst 2, 1) := by decide +kernel
theorem dX4_placed_14 : decode cX4_placed 14 = .ok (.if_icmp .eq 8, 3) := by decide +kernel
theorem dX4_placed_17 : decode cX4_placed 17 = .ok (.iload_n 0, 1) := by decide +kernel
theorem dX4_placed_18 : decode cX4_placed 18 = .ok (.iconst 4, 1) := by decide +kernel
theorem dX4_placed_19 : decode cX4_placed 19 = .ok (.if_icmp .ne 8, 3) := by decide +kernel
theorem dX4_placed_22 : decode cX4_placed 22 = .ok (.bipush 6, 2) := by decide +kernel
theorem dX4_placed_24 : decode cX4_placed 24 = .ok (.goto 4, 3) := by decide +kernel
theorem dX4_placed_27 : decode cX4_placed 27 = .ok (.iload_n 0, 1) := by decide +kernel
theorem dX4_placed_28 : decode cX4_placed 28 = .ok (.ireturn, 1) := by decide +kernel
def fX4_placed (p1 : Int32) (p2 : Int32) : Option Int32 := (if p2 = 0 then (if p1 = 0 then some (1 : Int32) else (if p1 = (2 : Int32) then some (6 : Int32) else (if p1 = (4 : Int32) then some (6 : Int32) else some p1))) else some p1)
set_option maxRecDepth 100000 in
set_option maxHeartbeats 4000000 in
theorem kX4_placed (l : Launch) (p1 : Int32) (p2 : Int32) (out : Int32) (hf : fX4_placed p1 p2 = some out) : Sq l yX4_placed cX4_placed 2 (some .int) 0 [.int p1, .int p2] (some (.int out)) := by
  refine Sq.of [(0, .int p1), (1, .int p2)] rfl (by decide +kernel) (Nat.le_of_ble_eq_true rfl) ?_
  intro κ hκ C hQ
  subst hκ
  replace C : Cf κ cX4_placed 2 RX4 (some .int) 0 := C
  refine g_iload_n (pc := 0) (i := 1) (j := 1) C dX4_placed_0 rfl rfl ?_
  refine g_if_eq (pc := 1) (tgt := 6) C dX4_placed_1 rfl hf (fun _ hf => ?_) (fun _ hf => ?_)
  · refine g_iload_n (pc := 6) (i := 0) (j := 0) C dX4_placed_6 rfl rfl ?_
    refine g_if_ne (pc := 7) (tgt := 12) C dX4_placed_7 rfl hf (fun _ hf => ?_) (fun _ hf => ?_)
    · refine g_iload_n (pc := 12) (i := 0) (j := 0) C dX4_placed_12 rfl rfl ?_
      refine g_iconst (pc := 13) C dX4_placed_13 ci_2 ?_
      refine g_icmp_eq (pc := 14) (tgt := 22) C dX4_placed_14 rfl hf (fun _ hf => ?_) (fun _ hf => ?_)
      · refine g_bipush (pc := 22) C dX4_placed_22 cb_6 ?_
        refine g_goto (pc := 24) (tgt := 28) C dX4_placed_24 rfl ?_
        exact g_iretp (pc := 28) C hQ dX4_placed_28 hf
      · refine g_iload_n (pc := 17) (i := 0) (j := 0) C dX4_placed_17 rfl rfl ?_
        refine g_iconst (pc := 18) C dX4_placed_18 ci_4 ?_
        refine g_icmp_ne (pc := 19) (tgt := 27) C dX4_placed_19 rfl hf (fun _ hf => ?_) (fun _ hf => ?_)
        · refine g_iload_n (pc := 27) (i := 0) (j := 0) C dX4_placed_27 rfl rfl ?_
          exact g_iretp (pc := 28) C hQ dX4_placed_28 hf
        · refine g_bipush (pc := 22) C dX4_placed_22 cb_6 ?_
          refine g_goto (pc := 24) (tgt := 28) C dX4_placed_24 rfl ?_
          exact g_iretp (pc := 28) C hQ dX4_placed_28 hf
    · refine g_iconst (pc := 10) C dX4_placed_10 ci_1 ?_
      exact g_iretp (pc := 11) C hQ dX4_placed_11 hf
  · refine g_iload_n (pc := 4) (i := 0) (j := 0) C dX4_placed_4 rfl rfl ?_
    exact g_iretp (pc := 5) C hQ dX4_placed_5 hf
theorem dX4_putFit_0 : decode cX4_putFit 0 = .ok (.iload_n 0, 1) := by decide +kernel
theorem dX4_putFit_1 : decode cX4_putFit 1 = .ok (.invokestatic 18, 3) := by decide +kernel
theorem dX4_putFit_4 : decode cX4_putFit 4 = .ok (.istore_n 3, 1) := by decide +kernel
theorem dX4_putFit_5 : decode cX4_putFit 5 = .ok (.iload_n 3, 1) := by decide +kernel
theorem dX4_putFit_6 : decode cX4_putFit 6 = .ok (.ifCond .eq 5, 3) := by decide +kernel
theorem dX4_putFit_9 : decode cX4_putFit 9 = .ok (.iload_n 3, 1) := by decide +kernel
theorem dX4_putFit_10 : decode cX4_putFit 10 = .ok (.ireturn, 1) := by decide +kernel
theorem dX4_putFit_11 : decode cX4_putFit 11 = .ok (.iload_n 1, 1) := by decide +kernel
theorem dX4_putFit_12 : decode cX4_putFit 12 = .ok (.ifCond .ne 17, 3) := by decide +kernel
theorem dX4_putFit_15 : decode cX4_putFit 15 = .ok (.iload_n 0, 1) := by decide +kernel
theorem dX4_putFit_16 : decode cX4_putFit 16 = .ok (.invokestatic 9, 3) := by decide +kernel
theorem dX4_putFit_19 : decode cX4_putFit 19 = .ok (.ifCond .eq 8, 3) := by decide +kernel
theorem dX4_putFit_22 : decode cX4_putFit 22 = .ok (.bipush 7, 2) := by decide +kernel
theorem dX4_putFit_24 : decode cX4_putFit 24 = .ok (.goto 4, 3) := by decide +kernel
theorem dX4_putFit_27 : decode cX4_putFit 27 = .ok (.iconst 0, 1) := by decide +kernel
theorem dX4_putFit_28 : decode cX4_putFit 28 = .ok (.ireturn, 1) := by decide +kernel
theorem dX4_putFit_29 : decode cX4_putFit 29 = .ok (.iload_n 1, 1) := by decide +kernel
theorem dX4_putFit_30 : decode cX4_putFit 30 = .ok (.iconst 1, 1) := by decide +kernel
theorem dX4_putFit_31 : decode cX4_putFit 31 = .ok (.if_icmp .ne 12, 3) := by decide +kernel
theorem dX4_putFit_34 : decode cX4_putFit 34 = .ok (.iload_n 0, 1) := by decide +kernel
theorem dX4_putFit_35 : decode cX4_putFit 35 = .ok (.invokestatic 9, 3) := by decide +kernel
theorem dX4_putFit_38 : decode cX4_putFit 38 = .ok (.ifCond .ne 5, 3) := by decide +kernel
theorem dX4_putFit_41 : decode cX4_putFit 41 = .ok (.iconst 4, 1) := by decide +kernel
theorem dX4_putFit_42 : decode cX4_putFit 42 = .ok (.ireturn, 1) := by decide +kernel
theorem dX4_putFit_43 : decode cX4_putFit 43 = .ok (.iload_n 0, 1) := by decide +kernel
theorem dX4_putFit_44 : decode cX4_putFit 44 = .ok (.iload_n 2, 1) := by decide +kernel
theorem dX4_putFit_45 : decode cX4_putFit 45 = .ok (.invokestatic 28, 3) := by decide +kernel
theorem dX4_putFit_48 : decode cX4_putFit 48 = .ok (.ifCond .eq 7, 3) := by decide +kernel
theorem dX4_putFit_51 : decode cX4_putFit 51 = .ok (.iconst 0, 1) := by decide +kernel
theorem dX4_putFit_52 : decode cX4_putFit 52 = .ok (.goto 4, 3) := by decide +kernel
theorem dX4_putFit_55 : decode cX4_putFit 55 = .ok (.iconst 2, 1) := by decide +kernel
theorem dX4_putFit_56 : decode cX4_putFit 56 = .ok (.ireturn, 1) := by decide +kernel
def fX4_putFit_b43 (v0 : Int32) (v2 : Int32) : Option Int32 := ((fX4_accepts v0 v2).bind fun r45 => (if r45 = 0 then some (2 : Int32) else some (0 : Int32)))
def fX4_putFit (p1 : Int32) (p2 : Int32) (p3 : Int32) : Option Int32 := ((fX4_fetchFit p1).bind fun r1 => (if r1 = 0 then (if p2 = 0 then ((fX7_isPrimitive p1).bind fun r16 => (if r16 = 0 then some (0 : Int32) else some (7 : Int32))) else (if p2 = (1 : Int32) then ((fX7_isPrimitive p1).bind fun r35 => (if r35 = 0 then some (4 : Int32) else fX4_putFit_b43 p1 p3)) else fX4_putFit_b43 p1 p3)) else some r1))
set_option maxRecDepth 100000 in
set_option maxHeartbeats 4000000 in
theorem kX4_putFit (l : Launch) (p1 : Int32) (p2 : Int32) (p3 : Int32) (out : Int32) (hf : fX4_putFit p1 p2 p3 = some out) : Sq l yX4_putFit cX4_putFit 4 (some .int) 2 [.int p1, .int p2, .int p3] (some (.int out)) := by
  refine Sq.of [(0, .int p1), (1, .int p2), (2, .int p3)] rfl (by decide +kernel) (Nat.le_of_ble_eq_true rfl) ?_
  intro κ hκ C hQ
  subst hκ
  replace C : Cf κ cX4_putFit 4 RX4 (some .int) 2 := C
  have b43 : ∀ (v0 : Int32) (v2 : Int32) , fX4_putFit_b43 v0 v2 = some out → G κ (Vp κ) 4 43 [(0, .int v0), (2, .int v2)] [] := by
    intro v0 v2 hf
    refine g_iload_n (pc := 43) (i := 0) (j := 0) C dX4_putFit_43 rfl rfl ?_
    refine g_iload_n (pc := 44) (i := 2) (j := 1) C dX4_putFit_44 rfl rfl ?_
    refine g_cpi (pc := 45) (st := []) C lkX4_28 (As := [.int v0, .int v2]) rfl (fun out h => kX4_accepts (kl κ) v0 v2 out h) (by decide) rfl (Nat.le_of_ble_eq_true rfl) dX4_putFit_45 hf (fun r45 _ hf => ?_)
    refine g_if_eq (pc := 48) (tgt := 55) C dX4_putFit_48 rfl hf (fun _ hf => ?_) (fun _ hf => ?_)
    · refine g_iconst (pc := 55) C dX4_putFit_55 ci_2 ?_
      exact g_iretp (pc := 56) C hQ dX4_putFit_56 hf
    · refine g_iconst (pc := 51) C dX4_putFit_51 ci_0 ?_
      refine g_goto (pc := 52) (tgt := 56) C dX4_putFit_52 rfl ?_
      exact g_iretp (pc := 56) C hQ dX4_putFit_56 hf
  refine g_iload_n (pc := 0) (i := 0) (j := 0) C dX4_putFit_0 rfl rfl ?_
  refine g_cpi (pc := 1) (st := []) C lkX4_18 (As := [.int p1]) rfl (fun out h => kX4_fetchFit (kl κ) p1 out h) (by decide) rfl (Nat.le_of_ble_eq_true rfl) dX4_putFit_1 hf (fun r1 _ hf => ?_)
  refine g_istore_n (pc := 4) (i := 3) (L' := [(3, .int r1), (0, .int p1), (1, .int p2), (2, .int p3)]) C dX4_putFit_4 rfl (by decide) rfl ?_
  refine g_iload_n (pc := 5) (i := 3) (j := 0) C dX4_putFit_5 rfl rfl ?_
  refine g_if_eq (pc := 6) (tgt := 11) C dX4_putFit_6 rfl hf (fun _ hf => ?_) (fun _ hf => ?_)
  · refine g_iload_n (pc := 11) (i := 1) (j := 2) C dX4_putFit_11 rfl rfl ?_
    refine g_if_ne (pc := 12) (tgt := 29) C dX4_putFit_12 rfl hf (fun _ hf => ?_) (fun _ hf => ?_)
    · refine g_iload_n (pc := 29) (i := 1) (j := 2) C dX4_putFit_29 rfl rfl ?_
      refine g_iconst (pc := 30) C dX4_putFit_30 ci_1 ?_
      refine g_icmp_ne (pc := 31) (tgt := 43) C dX4_putFit_31 rfl hf (fun _ hf => ?_) (fun _ hf => ?_)
      · exact g_at [1, 3] rfl (b43 p1 p3 hf)
      · refine g_iload_n (pc := 34) (i := 0) (j := 1) C dX4_putFit_34 rfl rfl ?_
        refine g_cni (pc := 35) (st := []) C lkX4_9 (As := [.int p1]) rfl (fun out h => kX7_isPrimitive (kl κ) p1 out h) (by decide) rfl (Nat.le_of_ble_eq_true rfl) dX4_putFit_35 hf (fun r35 _ hf => ?_)
        refine g_if_ne (pc := 38) (tgt := 43) C dX4_putFit_38 rfl hf (fun _ hf => ?_) (fun _ hf => ?_)
        · exact g_at [1, 3] rfl (b43 p1 p3 hf)
        · refine g_iconst (pc := 41) C dX4_putFit_41 ci_4 ?_
          exact g_iretp (pc := 42) C hQ dX4_putFit_42 hf
    · refine g_iload_n (pc := 15) (i := 0) (j := 1) C dX4_putFit_15 rfl rfl ?_
      refine g_cni (pc := 16) (st := []) C lkX4_9 (As := [.int p1]) rfl (fun out h => kX7_isPrimitive (kl κ) p1 out h) (by decide) rfl (Nat.le_of_ble_eq_true rfl) dX4_putFit_16 hf (fun r16 _ hf => ?_)
      refine g_if_eq (pc := 19) (tgt := 27) C dX4_putFit_19 rfl hf (fun _ hf => ?_) (fun _ hf => ?_)
      · refine g_iconst (pc := 27) C dX4_putFit_27 ci_0 ?_
        exact g_iretp (pc := 28) C hQ dX4_putFit_28 hf
      · refine g_bipush (pc := 22) C dX4_putFit_22 cb_7 ?_
        refine g_goto (pc := 24) (tgt := 28) C dX4_putFit_24 rfl ?_
        exact g_iretp (pc := 28) C hQ dX4_putFit_28 hf
  · refine g_iload_n (pc := 9) (i := 3) (j := 0) C dX4_putFit_9 rfl rfl ?_
    exact g_iretp (pc := 10) C hQ dX4_putFit_10 hf
theorem dX6_expected_0 : decode cX6_expected 0 = .ok (.iload_n 0, 1) := by decide +kernel
theorem dX6_expected_1 : decode cX6_expected 1 = .ok (.ifCond .ne 9, 3) := by decide +kernel
theorem dX6_expected_4 : decode cX6_expected 4 = .ok (.iload_n 2, 1) := by decide +kernel
theorem dX6_expected_5 : decode cX6_expected 5 = .ok (.iload_n 1, 1) := by decide +kernel
theorem dX6_expected_6 : decode cX6_expected 6 = .ok (.invokestatic 29, 3) := by decide +kernel
theorem dX6_expected_9 : decode cX6_expected 9 = .ok (.ireturn, 1) := by decide +kernel
theorem dX6_expected_10 : decode cX6_expected 10 = .ok (.iload_n 2, 1) := by decide +kernel
theorem dX6_expected_11 : decode cX6_expected 11 = .ok (.iload_n 0, 1) := by decide +kernel
theorem dX6_expected_12 : decode cX6_expected 12 = .ok (.iconst 1, 1) := by decide +kernel
theorem dX6_expected_13 : decode cX6_expected 13 = .ok (.if_icmp .ne 7, 3) := by decide +kernel
theorem dX6_expected_16 : decode cX6_expected 16 = .ok (.iconst 1, 1) := by decide +kernel
theorem dX6_expected_17 : decode cX6_expected 17 = .ok (.goto 4, 3) := by decide +kernel
theorem dX6_expected_20 : decode cX6_expected 20 = .ok (.iconst 2, 1) := by decide +kernel
theorem dX6_expected_21 : decode cX6_expected 21 = .ok (.iload_n 1, 1) := by decide +kernel
theorem dX6_expected_22 : decode cX6_expected 22 = .ok (.invokestatic 35, 3) := by decide +kernel
theorem dX6_expected_25 : decode cX6_expected 25 = .ok (.ireturn, 1) := by decide +kernel
def fX6_expected_b21 (v1 : Int32) (s0 : Int32) (s1 : Int32) : Option Int32 := ((fX4_putFit s1 s0 v1).bind fun r22 => some r22)
def fX6_expected (p1 : Int32) (p2 : Int32) (p3 : Int32) : Option Int32 := (if p1 = 0 then ((fX4_getFit p3 p2).bind fun r6 => some r6) else (if p1 = (1 : Int32) then fX6_expected_b21 p2 (1 : Int32) p3 else fX6_expected_b21 p2 (2 : Int32) p3))
set_option maxRecDepth 100000 in
set_option maxHeartbeats 4000000 in
theorem kX6_expected (l : Launch) (p1 : Int32) (p2 : Int32) (p3 : Int32) (out : Int32) (hf : fX6_expected p1 p2 p3 = some out) : Sq l yX6_expected cX6_expected 3 (some .int) 3 [.int p1, .int p2, .int p3] (some (.int out)) := by
  refine Sq.of [(0, .int p1), (1, .int p2), (2, .int p3)] rfl (by decide +kernel) (Nat.le_of_ble_eq_true rfl) ?_
  intro κ hκ C hQ
  subst hκ
  replace C : Cf κ cX6_expected 3 RX6 (some .int) 3 := C
  have b21 : ∀ (v1 : Int32) (s0 : Int32) (s1 : Int32) , fX6_expected_b21 v1 s0 s1 = some out → G κ (Vp κ) 3 21 [(1, .int v1)] [.int s0, .int s1] := by
    intro v1 s0 s1 hf
    refine g_iload_n (pc := 21) (i := 1) (j := 0) C dX6_expected_21 rfl rfl ?_
    refine g_cpi (pc := 22) (st := []) C lkX6_35 (As := [.int s1, .int s0, .int v1]) rfl (fun out h => kX4_putFit (kl κ) s1 s0 v1 out h) (by decide) rfl (Nat.le_of_ble_eq_true rfl) dX6_expected_22 hf (fun r22 _ hf => ?_)
    exact g_iretp (pc := 25) C hQ dX6_expected_25 hf
  refine g_iload_n (pc := 0) (i := 0) (j := 0) C dX6_expected_0 rfl rfl ?_
  refine g_if_ne (pc := 1) (tgt := 10) C dX6_expected_1 rfl hf (fun _ hf => ?_) (fun _ hf => ?_)
  · refine g_iload_n (pc := 10) (i := 2) (j := 2) C dX6_expected_10 rfl rfl ?_
    refine g_iload_n (pc := 11) (i := 0) (j := 0) C dX6_expected_11 rfl rfl ?_
    refine g_iconst (pc := 12) C dX6_expected_12 ci_1 ?_
    refine g_icmp_ne (pc := 13) (tgt := 20) C dX6_expected_13 rfl hf (fun _ hf => ?_) (fun _ hf => ?_)
    · refine g_iconst (pc := 20) C dX6_expected_20 ci_2 ?_
      exact g_at [1] rfl (b21 p2 (2 : Int32) p3 hf)
    · refine g_iconst (pc := 16) C dX6_expected_16 ci_1 ?_
      refine g_goto (pc := 17) (tgt := 21) C dX6_expected_17 rfl ?_
      exact g_at [1] rfl (b21 p2 (1 : Int32) p3 hf)
  · refine g_iload_n (pc := 4) (i := 2) (j := 2) C dX6_expected_4 rfl rfl ?_
    refine g_iload_n (pc := 5) (i := 1) (j := 1) C dX6_expected_5 rfl rfl ?_
    refine g_cpi (pc := 6) (st := []) C lkX6_29 (As := [.int p3, .int p2]) rfl (fun out h => kX4_getFit (kl κ) p3 p2 out h) (by decide) rfl (Nat.le_of_ble_eq_true rfl) dX6_expected_6 hf (fun r6 _ hf => ?_)
    exact g_iretp (pc := 9) C hQ dX6_expected_9 hf
theorem dX7_isSlot_0 : decode cX7_isSlot 0 = .ok (.iload_n 0, 1) := by decide +kernel
theorem dX7_isSlot_1 : decode cX7_isSlot 1 = .ok (.ifCond .lt 13, 3) := by decide +kernel
theorem dX7_isSlot_4 : decode cX7_isSlot 4 = .ok (.iload_n 0, 1) := by decide +kernel
theorem dX7_isSlot_5 : decode cX7_isSlot 5 = .ok (.bipush 10, 2) := by decide +kernel
theorem dX7_isSlot_7 : decode cX7_isSlot 7 = .ok (.if_icmp .ge 7, 3) := by decide +kernel
theorem dX7_isSlot_10 : decode cX7_isSlot 10 = .ok (.iconst 1, 1) := by decide +kernel
theorem dX7_isSlot_11 : decode cX7_isSlot 11 = .ok (.goto 4, 3) := by decide +kernel
theorem dX7_isSlot_14 : decode cX7_isSlot 14 = .ok (.iconst 0, 1) := by decide +kernel
theorem dX7_isSlot_15 : decode cX7_isSlot 15 = .ok (.ireturn, 1) := by decide +kernel
def fX7_isSlot (p1 : Int32) : Option Int32 := (if p1 < 0 then some (0 : Int32) else (if (10 : Int32) ≤ p1 then some (0 : Int32) else some (1 : Int32)))
set_option maxRecDepth 100000 in
set_option maxHeartbeats 4000000 in
theorem kX7_isSlot (l : Launch) (p1 : Int32) (out : Int32) (hf : fX7_isSlot p1 = some out) : Sq l yX7_isSlot cX7_isSlot 1 (some .boolean) 0 [.int p1] (some (.int out)) := by
  refine Sq.of [(0, .int p1)] rfl (by decide +kernel) (Nat.le_of_ble_eq_true rfl) ?_
  intro κ hκ C hQ
  subst hκ
  replace C : Cf κ cX7_isSlot 1 RX7 (some .boolean) 0 := C
  refine g_iload_n (pc := 0) (i := 0) (j := 0) C dX7_isSlot_0 rfl rfl ?_
  refine g_if_lt (pc := 1) (tgt := 14) C dX7_isSlot_1 rfl hf (fun _ hf => ?_) (fun _ hf => ?_)
  · refine g_iconst (pc := 14) C dX7_isSlot_14 ci_0 ?_
    exact g_zret1p (pc := 15) C rfl hQ dX7_isSlot_15 hf
  · refine g_iload_n (pc := 4) (i := 0) (j := 0) C dX7_isSlot_4 rfl rfl ?_
    refine g_bipush (pc := 5) C dX7_isSlot_5 cb_10 ?_
    refine g_icmp_ge (pc := 7) (tgt := 14) C dX7_isSlot_7 rfl hf (fun _ hf => ?_) (fun _ hf => ?_)
    · refine g_iconst (pc := 14) C dX7_isSlot_14 ci_0 ?_
      exact g_zret1p (pc := 15) C rfl hQ dX7_isSlot_15 hf
    · refine g_iconst (pc := 10) C dX7_isSlot_10 ci_1 ?_
      refine g_goto (pc := 11) (tgt := 15) C dX7_isSlot_11 rfl ?_
      exact g_zret1p (pc := 15) C rfl hQ dX7_isSlot_15 hf
theorem dX7_isWay_0 : decode cX7_isWay 0 = .ok (.iload_n 0, 1) := by decide +kernel
theorem dX7_isWay_1 : decode cX7_isWay 1 = .ok (.iconst 1, 1) := by decide +kernel
theorem dX7_isWay_2 : decode cX7_isWay 2 = .ok (.if_icmp .lt 10, 3) := by decide +kernel
theorem dX7_isWay_5 : decode cX7_isWay 5 = .ok (.iload_n 0, 1) := by decide +kernel
theorem dX7_isWay_6 : decode cX7_isWay 6 = .ok (.ldc_w 291, 3) := by decide +kernel
theorem dX7_isWay_9 : decode cX7_isWay 9 = .ok (.if_icmp .le 5, 3) := by decide +kernel
theorem dX7_isWay_12 : decode cX7_isWay 12 = .ok (.iconst 0, 1) := by decide +kernel
theorem dX7_isWay_13 : decode cX7_isWay 13 = .ok (.ireturn, 1) := by decide +kernel
theorem dX7_isWay_14 : decode cX7_isWay 14 = .ok (.iload_n 0, 1) := by decide +kernel
theorem dX7_isWay_15 : decode cX7_isWay 15 = .ok (.istore_n 1, 1) := by decide +kernel
theorem dX7_isWay_16 : decode cX7_isWay 16 = .ok (.iload_n 1, 1) := by decide +kernel
theorem dX7_isWay_17 : decode cX7_isWay 17 = .ok (.ifCond .le 25, 3) := by decide +kernel
theorem dX7_isWay_20 : decode cX7_isWay 20 = .ok (.iload_n 1, 1) := by decide +kernel
theorem dX7_isWay_21 : decode cX7_isWay 21 = .ok (.bipush 10, 2) := by decide +kernel
theorem dX7_isWay_23 : decode cX7_isWay 23 = .ok (.irem, 1) := by decide +kernel
theorem dX7_isWay_24 : decode cX7_isWay 24 = .ok (.iconst 1, 1) := by decide +kernel
theorem dX7_isWay_25 : decode cX7_isWay 25 = .ok (.isub, 1) := by decide +kernel
theorem dX7_isWay_26 : decode cX7_isWay 26 = .ok (.invokestatic 158, 3) := by decide +kernel
theorem dX7_isWay_29 : decode cX7_isWay 29 = .ok (.ifCond .ne 5, 3) := by decide +kernel
theorem dX7_isWay_32 : decode cX7_isWay 32 = .ok (.iconst 0, 1) := by decide +kernel
theorem dX7_isWay_33 : decode cX7_isWay 33 = .ok (.ireturn, 1) := by decide +kernel
theorem dX7_isWay_34 : decode cX7_isWay 34 = .ok (.iload_n 1, 1) := by decide +kernel
theorem dX7_isWay_35 : decode cX7_isWay 35 = .ok (.bipush 10, 2) := by decide +kernel
theorem dX7_isWay_37 : decode cX7_isWay 37 = .ok (.idiv, 1) := by decide +kernel
theorem dX7_isWay_38 : decode cX7_isWay 38 = .ok (.istore_n 1, 1) := by decide +kernel
theorem dX7_isWay_39 : decode cX7_isWay 39 = .ok (.goto (-23), 3) := by decide +kernel
theorem dX7_isWay_42 : decode cX7_isWay 42 = .ok (.iconst 1, 1) := by decide +kernel
theorem dX7_isWay_43 : decode cX7_isWay 43 = .ok (.ireturn, 1) := by decide +kernel
def fX7_isWay_b16 : Nat → Int32 → Option Int32
  | 0, _ => none
  | n + 1, v1 => (if v1 ≤ 0 then some (1 : Int32) else ((fX7_isPrimitive ((jrem v1 (10 : Int32)) - (1 : Int32))).bind fun r26 => (if r26 = 0 then some (0 : Int32) else (fX7_isWay_b16 n) (jdiv v1 (10 : Int32)))))
def fX7_isWay (p1 : Int32) : Option Int32 := (if p1 < (1 : Int32) then some (0 : Int32) else (if p1 ≤ (888888 : Int32) then fX7_isWay_b16 100 p1 else some (0 : Int32)))
set_option maxRecDepth 100000 in
set_option maxHeartbeats 4000000 in
theorem kX7_isWay (l : Launch) (p1 : Int32) (out : Int32) (hf : fX7_isWay p1 = some out) : Sq l yX7_isWay cX7_isWay 2 (some .boolean) 1 [.int p1] (some (.int out)) := by
  refine Sq.of [(0, .int p1)] rfl (by decide +kernel) (Nat.le_of_ble_eq_true rfl) ?_
  intro κ hκ C hQ
  subst hκ
  replace C : Cf κ cX7_isWay 2 RX7 (some .boolean) 1 := C
  have b16 : ∀ (n : Nat) (v1 : Int32) , fX7_isWay_b16 n v1 = some out → G κ (Vp κ) 2 16 [(1, .int v1)] [] := by
    intro n
    induction n with
    | zero => intro v1 hf; exact none_ne hf
    | succ n ih =>
      intro v1 hf
      refine g_iload_n (pc := 16) (i := 1) (j := 0) C dX7_isWay_16 rfl rfl ?_
      refine g_if_le (pc := 17) (tgt := 42) C dX7_isWay_17 rfl hf (fun _ hf => ?_) (fun _ hf => ?_)
      · refine g_iconst (pc := 42) C dX7_isWay_42 ci_1 ?_
        exact g_zret1p (pc := 43) C rfl hQ dX7_isWay_43 hf
      · refine g_iload_n (pc := 20) (i := 1) (j := 0) C dX7_isWay_20 rfl rfl ?_
        refine g_bipush (pc := 21) C dX7_isWay_21 cb_10 ?_
        refine g_irem (pc := 23) C dX7_isWay_23 (by decide) ?_
        refine g_iconst (pc := 24) C dX7_isWay_24 ci_1 ?_
        refine g_isub (pc := 25) C dX7_isWay_25 ?_
        refine g_cpi (pc := 26) (st := []) C lkX7_158 (As := [.int ((jrem v1 (10 : Int32)) - (1 : Int32))]) rfl (fun out h => kX7_isPrimitive (kl κ) ((jrem v1 (10 : Int32)) - (1 : Int32)) out h) (by decide) rfl (Nat.le_of_ble_eq_true rfl) dX7_isWay_26 hf (fun r26 _ hf => ?_)
        refine g_if_ne (pc := 29) (tgt := 34) C dX7_isWay_29 rfl hf (fun _ hf => ?_) (fun _ hf => ?_)
        · refine g_iload_n (pc := 34) (i := 1) (j := 0) C dX7_isWay_34 rfl rfl ?_
          refine g_bipush (pc := 35) C dX7_isWay_35 cb_10 ?_
          refine g_idiv (pc := 37) C dX7_isWay_37 (by decide) ?_
          refine g_istore_n (pc := 38) (i := 1) (L' := [(1, .int (jdiv v1 (10 : Int32)))]) C dX7_isWay_38 rfl (by decide) rfl ?_
          refine g_goto (pc := 39) (tgt := 16) C dX7_isWay_39 rfl ?_
          exact ih (jdiv v1 (10 : Int32)) hf
        · refine g_iconst (pc := 32) C dX7_isWay_32 ci_0 ?_
          exact g_zret1p (pc := 33) C rfl hQ dX7_isWay_33 hf
  refine g_iload_n (pc := 0) (i := 0) (j := 0) C dX7_isWay_0 rfl rfl ?_
  refine g_iconst (pc := 1) C dX7_isWay_1 ci_1 ?_
  refine g_icmp_lt (pc := 2) (tgt := 12) C dX7_isWay_2 rfl hf (fun _ hf => ?_) (fun _ hf => ?_)
  · refine g_iconst (pc := 12) C dX7_isWay_12 ci_0 ?_
    exact g_zret1p (pc := 13) C rfl hQ dX7_isWay_13 hf
  · refine g_iload_n (pc := 5) (i := 0) (j := 0) C dX7_isWay_5 rfl rfl ?_
    refine g_ldcw (pc := 6) C cnX7_291 dX7_isWay_6 ?_
    refine g_icmp_le (pc := 9) (tgt := 14) C dX7_isWay_9 rfl hf (fun _ hf => ?_) (fun _ hf => ?_)
    · refine g_iload_n (pc := 14) (i := 0) (j := 0) C dX7_isWay_14 rfl rfl ?_
      refine g_istore_n (pc := 15) (i := 1) (L' := [(1, .int p1), (0, .int p1)]) C dX7_isWay_15 rfl (by decide) rfl ?_
      exact g_at [0] rfl (b16 100 p1 hf)
    · refine g_iconst (pc := 12) C dX7_isWay_12 ci_0 ?_
      exact g_zret1p (pc := 13) C rfl hQ dX7_isWay_13 hf
theorem dX7_markIndex_0 : decode cX7_markIndex 0 = .ok (.iload_n 0, 1) := by decide +kernel
theorem dX7_markIndex_1 : decode cX7_markIndex 1 = .ok (.invokestatic 295, 3) := by decide +kernel
theorem dX7_markIndex_4 : decode cX7_markIndex 4 = .ok (.ifCond .eq 7, 3) := by decide +kernel
theorem dX7_markIndex_7 : decode cX7_markIndex 7 = .ok (.lload_n 1, 1) := by decide +kernel
theorem dX7_markIndex_8 : decode cX7_markIndex 8 = .ok (.goto 6, 3) := by decide +kernel
theorem dX7_markIndex_11 : decode cX7_markIndex 11 = .ok (.ldc2_w 298, 3) := by decide +kernel
theorem dX7_markIndex_14 : decode cX7_markIndex 14 = .ok (.lreturn, 1) := by decide +kernel
def fX7_markIndex (p1 : Int32) (p2 : Int64) : Option Int64 := ((fX4_isMark p1).bind fun r1 => (if r1 = 0 then some (-9 : Int64) else some p2))
set_option maxRecDepth 100000 in
set_option maxHeartbeats 4000000 in
theorem kX7_markIndex (l : Launch) (p1 : Int32) (p2 : Int64) (out : Int64) (hf : fX7_markIndex p1 p2 = some out) : Sq l yX7_markIndex cX7_markIndex 3 (some .long) 1 [.int p1, .long p2] (some (.long out)) := by
  refine Sq.of [(0, .int p1), (1, .long p2)] rfl (by decide +kernel) (Nat.le_of_ble_eq_true rfl) ?_
  intro κ hκ C hQ
  subst hκ
  replace C : Cf κ cX7_markIndex 3 RX7 (some .long) 1 := C
  refine g_iload_n (pc := 0) (i := 0) (j := 0) C dX7_markIndex_0 rfl rfl ?_
  refine g_cpi (pc := 1) (st := []) C lkX7_295 (As := [.int p1]) rfl (fun out h => kX4_isMark (kl κ) p1 out h) (by decide) rfl (Nat.le_of_ble_eq_true rfl) dX7_markIndex_1 hf (fun r1 _ hf => ?_)
  refine g_if_eq (pc := 4) (tgt := 11) C dX7_markIndex_4 rfl hf (fun _ hf => ?_) (fun _ hf => ?_)
  · refine g_ldc2 (pc := 11) C cnX7_298 dX7_markIndex_11 ?_
    exact g_lretp (pc := 14) C hQ dX7_markIndex_14 hf
  · refine g_lload_n (pc := 7) (i := 1) (j := 1) C dX7_markIndex_7 rfl rfl ?_
    refine g_goto (pc := 8) (tgt := 14) C dX7_markIndex_8 rfl ?_
    exact g_lretp (pc := 14) C hQ dX7_markIndex_14 hf
theorem dX7_isMarkNumber_0 : decode cX7_isMarkNumber 0 = .ok (.iload_n 0, 1) := by decide +kernel
theorem dX7_isMarkNumber_1 : decode cX7_isMarkNumber 1 = .ok (.ifCond .lt 14, 3) := by decide +kernel
theorem dX7_isMarkNumber_4 : decode cX7_isMarkNumber 4 = .ok (.iload_n 0, 1) := by decide +kernel
theorem dX7_isMarkNumber_5 : decode cX7_isMarkNumber 5 = .ok (.sipush 999, 3) := by decide +kernel
theorem dX7_isMarkNumber_8 : decode cX7_isMarkNumber 8 = .ok (.if_icmp .gt 7, 3) := by decide +kernel
theorem dX7_isMarkNumber_11 : decode cX7_isMarkNumber 11 = .ok (.iconst 1, 1) := by decide +kernel
theorem dX7_isMarkNumber_12 : decode cX7_isMarkNumber 12 = .ok (.goto 4, 3) := by decide +kernel
theorem dX7_isMarkNumber_15 : decode cX7_isMarkNumber 15 = .ok (.iconst 0, 1) := by decide +kernel
theorem dX7_isMarkNumber_16 : decode cX7_isMarkNumber 16 = .ok (.ireturn, 1) := by decide +kernel
def fX7_isMarkNumber (p1 : Int32) : Option Int32 := (if p1 < 0 then some (0 : Int32) else (if (999 : Int32) < p1 then some (0 : Int32) else some (1 : Int32)))
set_option maxRecDepth 100000 in
set_option maxHeartbeats 4000000 in
theorem kX7_isMarkNumber (l : Launch) (p1 : Int32) (out : Int32) (hf : fX7_isMarkNumber p1 = some out) : Sq l yX7_isMarkNumber cX7_isMarkNumber 1 (some .boolean) 0 [.int p1] (some (.int out)) := by
  refine Sq.of [(0, .int p1)] rfl (by decide +kernel) (Nat.le_of_ble_eq_true rfl) ?_
  intro κ hκ C hQ
  subst hκ
  replace C : Cf κ cX7_isMarkNumber 1 RX7 (some .boolean) 0 := C
  refine g_iload_n (pc := 0) (i := 0) (j := 0) C dX7_isMarkNumber_0 rfl rfl ?_
  refine g_if_lt (pc := 1) (tgt := 15) C dX7_isMarkNumber_1 rfl hf (fun _ hf => ?_) (fun _ hf => ?_)
  · refine g_iconst (pc := 15) C dX7_isMarkNumber_15 ci_0 ?_
    exact g_zret1p (pc := 16) C rfl hQ dX7_isMarkNumber_16 hf
  · refine g_iload_n (pc := 4) (i := 0) (j := 0) C dX7_isMarkNumber_4 rfl rfl ?_
    refine g_sipush (pc := 5) C dX7_isMarkNumber_5 cs_999 ?_
    refine g_icmp_gt (pc := 8) (tgt := 15) C dX7_isMarkNumber_8 rfl hf (fun _ hf => ?_) (fun _ hf => ?_)
    · refine g_iconst (pc := 15) C dX7_isMarkNumber_15 ci_0 ?_
      exact g_zret1p (pc := 16) C rfl hQ dX7_isMarkNumber_16 hf
    · refine g_iconst (pc := 11) C dX7_isMarkNumber_11 ci_1 ?_
      refine g_goto (pc := 12) (tgt := 16) C dX7_isMarkNumber_12 rfl ?_
      exact g_zret1p (pc := 16) C rfl hQ dX7_isMarkNumber_16 hf
theorem dX8_widens_0 : decode cX8_widens 0 = .ok (.iload_n 0, 1) := by decide +kernel
theorem dX8_widens_1 : decode cX8_widens 1 = .ok (.iload_n 1, 1) := by decide +kernel
theorem dX8_widens_2 : decode cX8_widens 2 = .ok (.if_icmp .ne 5, 3) := by decide +kernel
theorem dX8_widens_5 : decode cX8_widens 5 = .ok (.iconst 1, 1) := by decide +kernel
theorem dX8_widens_6 : decode cX8_widens 6 = .ok (.ireturn, 1) := by decide +kernel
theorem dX8_widens_7 : decode cX8_widens 7 = .ok (.iload_n 0, 1) := by decide +kernel
theorem dX8_widens_8 : decode cX8_widens 8 = .ok (.ifCond .eq 8, 3) := by decide +kernel
theorem dX8_widens_11 : decode cX8_widens 11 = .ok (.iload_n 1, 1) := by decide +kernel
theorem dX8_widens_12 : decode cX8_widens 12 = .ok (.iconst 3, 1) := by decide +kernel
theorem dX8_widens_13 : decode cX8_widens 13 = .ok (.if_icmp .ge 5, 3) := by decide +kernel
theorem dX8_widens_16 : decode cX8_widens 16 = .ok (.iconst 0, 1) := by decide +kernel
theorem dX8_widens_17 : decode cX8_widens 17 = .ok (.ireturn, 1) := by decide +kernel
theorem dX8_widens_18 : decode cX8_widens 18 = .ok (.iload_n 0, 1) := by decide +kernel
theorem dX8_widens_19 : decode cX8_widens 19 = .ok (.iconst 2, 1) := by decide +kernel
theorem dX8_widens_20 : decode cX8_widens 20 = .ok (.if_icmp .ne 16, 3) := by decide +kernel
theorem dX8_widens_23 : decode cX8_widens 23 = .ok (.iload_n 1, 1) := by decide +kernel
theorem dX8_widens_24 : decode cX8_widens 24 = .ok (.iconst 3, 1) := by decide +kernel
theorem dX8_widens_25 : decode cX8_widens 25 = .ok (.if_icmp .le 7, 3) := by decide +kernel
theorem dX8_widens_28 : decode cX8_widens 28 = .ok (.iconst 1, 1) := by decide +kernel
theorem dX8_widens_29 : decode cX8_widens 29 = .ok (.goto 17, 3) := by decide +kernel
theorem dX8_widens_32 : decode cX8_widens 32 = .ok (.iconst 0, 1) := by decide +kernel
theorem dX8_widens_33 : decode cX8_widens 33 = .ok (.goto 13, 3) := by decide +kernel
theorem dX8_widens_36 : decode cX8_widens 36 = .ok (.iload_n 0, 1) := by decide +kernel
theorem dX8_widens_37 : decode cX8_widens 37 = .ok (.iload_n 1, 1) := by decide +kernel
theorem dX8_widens_38 : decode cX8_widens 38 = .ok (.if_icmp .ge 7, 3) := by decide +kernel
theorem dX8_widens_41 : decode cX8_widens 41 = .ok (.iconst 1, 1) := by decide +kernel
theorem dX8_widens_42 : decode cX8_widens 42 = .ok (.goto 4, 3) := by decide +kernel
theorem dX8_widens_45 : decode cX8_widens 45 = .ok (.iconst 0, 1) := by decide +kernel
theorem dX8_widens_46 : decode cX8_widens 46 = .ok (.ireturn, 1) := by decide +kernel
def fX8_widens (p1 : Int32) (p2 : Int32) : Option Int32 := (if p1 = p2 then some (1 : Int32) else (if p1 = 0 then some (0 : Int32) else (if (3 : Int32) ≤ p2 then (if p1 = (2 : Int32) then (if p2 ≤ (3 : Int32) then some (0 : Int32) else some (1 : Int32)) else (if p2 ≤ p1 then some (0 : Int32) else some (1 : Int32))) else some (0 : Int32))))
set_option maxRecDepth 100000 in
set_option maxHeartbeats 4000000 in
theorem kX8_widens (l : Launch) (p1 : Int32) (p2 : Int32) (out : Int32) (hf : fX8_widens p1 p2 = some out) : Sq l yX8_widens cX8_widens 2 (some .boolean) 0 [.int p1, .int p2] (some (.int out)) := by
  refine Sq.of [(0, .int p1), (1, .int p2)] rfl (by decide +kernel) (Nat.le_of_ble_eq_true rfl) ?_
  intro κ hκ C hQ
  subst hκ
  replace C : Cf κ cX8_widens 2 RX8 (some .boolean) 0 := C
  refine g_iload_n (pc := 0) (i := 0) (j := 0) C dX8_widens_0 rfl rfl ?_
  refine g_iload_n (pc := 1) (i := 1) (j := 1) C dX8_widens_1 rfl rfl ?_
  refine g_icmp_ne (pc := 2) (tgt := 7) C dX8_widens_2 rfl hf (fun _ hf => ?_) (fun _ hf => ?_)
  · refine g_iload_n (pc := 7) (i := 0) (j := 0) C dX8_widens_7 rfl rfl ?_
    refine g_if_eq (pc := 8) (tgt := 16) C dX8_widens_8 rfl hf (fun _ hf => ?_) (fun _ hf => ?_)
    · refine g_iconst (pc := 16) C dX8_widens_16 ci_0 ?_
      exact g_zret1p (pc := 17) C rfl hQ dX8_widens_17 hf
    · refine g_iload_n (pc := 11) (i := 1) (j := 1) C dX8_widens_11 rfl rfl ?_
      refine g_iconst (pc := 12) C dX8_widens_12 ci_3 ?_
      refine g_icmp_ge (pc := 13) (tgt := 18) C dX8_widens_13 rfl hf (fun _ hf => ?_) (fun _ hf => ?_)
      · refine g_iload_n (pc := 18) (i := 0) (j := 0) C dX8_widens_18 rfl rfl ?_
        refine g_iconst (pc := 19) C dX8_widens_19 ci_2 ?_
        refine g_icmp_ne (pc := 20) (tgt := 36) C dX8_widens_20 rfl hf (fun _ hf => ?_) (fun _ hf => ?_)
        · refine g_iload_n (pc := 36) (i := 0) (j := 0) C dX8_widens_36 rfl rfl ?_
          refine g_iload_n (pc := 37) (i := 1) (j := 1) C dX8_widens_37 rfl rfl ?_
          refine g_icmp_ge (pc := 38) (tgt := 45) C dX8_widens_38 rfl hf (fun _ hf => ?_) (fun _ hf => ?_)
          · refine g_iconst (pc := 45) C dX8_widens_45 ci_0 ?_
            exact g_zret1p (pc := 46) C rfl hQ dX8_widens_46 hf
          · refine g_iconst (pc := 41) C dX8_widens_41 ci_1 ?_
            refine g_goto (pc := 42) (tgt := 46) C dX8_widens_42 rfl ?_
            exact g_zret1p (pc := 46) C rfl hQ dX8_widens_46 hf
        · refine g_iload_n (pc := 23) (i := 1) (j := 1) C dX8_widens_23 rfl rfl ?_
          refine g_iconst (pc := 24) C dX8_widens_24 ci_3 ?_
          refine g_icmp_le (pc := 25) (tgt := 32) C dX8_widens_25 rfl hf (fun _ hf => ?_) (fun _ hf => ?_)
          · refine g_iconst (pc := 32) C dX8_widens_32 ci_0 ?_
            refine g_goto (pc := 33) (tgt := 46) C dX8_widens_33 rfl ?_
            exact g_zret1p (pc := 46) C rfl hQ dX8_widens_46 hf
          · refine g_iconst (pc := 28) C dX8_widens_28 ci_1 ?_
            refine g_goto (pc := 29) (tgt := 46) C dX8_widens_29 rfl ?_
            exact g_zret1p (pc := 46) C rfl hQ dX8_widens_46 hf
      · refine g_iconst (pc := 16) C dX8_widens_16 ci_0 ?_
        exact g_zret1p (pc := 17) C rfl hQ dX8_widens_17 hf
  · refine g_iconst (pc := 5) C dX8_widens_5 ci_1 ?_
    exact g_zret1p (pc := 6) C rfl hQ dX8_widens_6 hf
theorem dX8_leastOf_0 : decode cX8_leastOf 0 = .ok (.bipush (-9), 2) := by decide +kernel
theorem dX8_leastOf_2 : decode cX8_leastOf 2 = .ok (.istore_n 2, 1) := by decide +kernel
theorem dX8_leastOf_3 : decode cX8_leastOf 3 = .ok (.bipush 7, 2) := by decide +kernel
theorem dX8_leastOf_5 : decode cX8_leastOf 5 = .ok (.istore_n 3, 1) := by decide +kernel
theorem dX8_leastOf_6 : decode cX8_leastOf 6 = .ok (.iload_n 3, 1) := by decide +kernel
theorem dX8_leastOf_7 : decode cX8_leastOf 7 = .ok (.ifCond .lt 31, 3) := by decide +kernel
theorem dX8_leastOf_10 : decode cX8_leastOf 10 = .ok (.iload_n 0, 1) := by decide +kernel
theorem dX8_leastOf_11 : decode cX8_leastOf 11 = .ok (.iload_n 3, 1) := by decide +kernel
theorem dX8_leastOf_12 : decode cX8_leastOf 12 = .ok (.invokestatic 313, 3) := by decide +kernel
theorem dX8_leastOf_15 : decode cX8_leastOf 15 = .ok (.ifCond .eq 15, 3) := by decide +kernel
theorem dX8_leastOf_18 : decode cX8_leastOf 18 = .ok (.iload_n 1, 1) := by decide +kernel
theorem dX8_leastOf_19 : decode cX8_leastOf 19 = .ok (.iload_n 3, 1) := by decide +kernel
theorem dX8_leastOf_20 : decode cX8_leastOf 20 = .ok (.invokestatic 313, 3) := by decide +kernel
theorem dX8_leastOf_23 : decode cX8_leastOf 23 = .ok (.ifCond .eq 7, 3) := by decide +kernel
theorem dX8_leastOf_26 : decode cX8_leastOf 26 = .ok (.iload_n 3, 1) := by decide +kernel
theorem dX8_leastOf_27 : decode cX8_leastOf 27 = .ok (.goto 4, 3) := by decide +kernel
theorem dX8_leastOf_30 : decode cX8_leastOf 30 = .ok (.iload_n 2, 1) := by decide +kernel
theorem dX8_leastOf_31 : decode cX8_leastOf 31 = .ok (.istore_n 2, 1) := by decide +kernel
theorem dX8_leastOf_32 : decode cX8_leastOf 32 = .ok (.iinc 3 (-1), 3) := by decide +kernel
theorem dX8_leastOf_35 : decode cX8_leastOf 35 = .ok (.goto (-29), 3) := by decide +kernel
theorem dX8_leastOf_38 : decode cX8_leastOf 38 = .ok (.iload_n 2, 1) := by decide +kernel
theorem dX8_leastOf_39 : decode cX8_leastOf 39 = .ok (.ireturn, 1) := by decide +kernel
def fX8_leastOf_b31 (k6 : Int32 → Int32 → Int32 → Int32 → Option Int32) (v0 : Int32) (v1 : Int32) (v3 : Int32) (s0 : Int32) : Option Int32 := k6 v0 v1 s0 (v3 + (-1 : Int32))
def fX8_leastOf_b30 (k6 : Int32 → Int32 → Int32 → Int32 → Option Int32) (v0 : Int32) (v1 : Int32) (v2 : Int32) (v3 : Int32) : Option Int32 := fX8_leastOf_b31 k6 v0 v1 v3 v2
def fX8_leastOf_b6 : Nat → Int32 → Int32 → Int32 → Int32 → Option Int32
  | 0, _, _, _, _ => none
  | n + 1, v0, v1, v2, v3 => (if v3 < 0 then some v2 else ((fX8_widens v0 v3).bind fun r12 => (if r12 = 0 then fX8_leastOf_b30 (fX8_leastOf_b6 n) v0 v1 v2 v3 else ((fX8_widens v1 v3).bind fun r20 => (if r20 = 0 then fX8_leastOf_b30 (fX8_leastOf_b6 n) v0 v1 v2 v3 else fX8_leastOf_b31 (fX8_leastOf_b6 n) v0 v1 v3 v3)))))
def fX8_leastOf (p1 : Int32) (p2 : Int32) : Option Int32 := fX8_leastOf_b6 100 p1 p2 (-9 : Int32) (7 : Int32)
set_option maxRecDepth 100000 in
set_option maxHeartbeats 4000000 in
theorem kX8_leastOf (l : Launch) (p1 : Int32) (p2 : Int32) (out : Int32) (hf : fX8_leastOf p1 p2 = some out) : Sq l yX8_leastOf cX8_leastOf 4 (some .int) 1 [.int p1, .int p2] (some (.int out)) := by
  refine Sq.of [(0, .int p1), (1, .int p2)] rfl (by decide +kernel) (Nat.le_of_ble_eq_true rfl) ?_
  intro κ hκ C hQ
  subst hκ
  replace C : Cf κ cX8_leastOf 4 RX8 (some .int) 1 := C
  have b31 : ∀ (k6 : Int32 → Int32 → Int32 → Int32 → Option Int32) (hk6 : ∀ (v0 : Int32) (v1 : Int32) (v2 : Int32) (v3 : Int32) , k6 v0 v1 v2 v3 = some out → G κ (Vp κ) 4 6 [(0, .int v0), (1, .int v1), (2, .int v2), (3, .int v3)] []) (v0 : Int32) (v1 : Int32) (v3 : Int32) (s0 : Int32) , fX8_leastOf_b31 k6 v0 v1 v3 s0 = some out → G κ (Vp κ) 4 31 [(0, .int v0), (1, .int v1), (3, .int v3)] [.int s0] := by
    intro k6 hk6 v0 v1 v3 s0 hf
    refine g_istore_n (pc := 31) (i := 2) (L' := [(2, .int s0), (0, .int v0), (1, .int v1), (3, .int v3)]) C dX8_leastOf_31 rfl (by decide) rfl ?_
    refine g_iinc (pc := 32) (i := 3) (j := 3) (v := (v3 + (-1 : Int32))) (L' := [(3, .int (v3 + (-1 : Int32))), (2, .int s0), (0, .int v0), (1, .int v1)]) C dX8_leastOf_32 rfl (cx_m1 _) (by decide) rfl ?_
    refine g_goto (pc := 35) (tgt := 6) C dX8_leastOf_35 rfl ?_
    exact g_at [2, 3, 1, 0] rfl (hk6 v0 v1 s0 (v3 + (-1 : Int32)) hf)
  have b30 : ∀ (k6 : Int32 → Int32 → Int32 → Int32 → Option Int32) (hk6 : ∀ (v0 : Int32) (v1 : Int32) (v2 : Int32) (v3 : Int32) , k6 v0 v1 v2 v3 = some out → G κ (Vp κ) 4 6 [(0, .int v0), (1, .int v1), (2, .int v2), (3, .int v3)] []) (v0 : Int32) (v1 : Int32) (v2 : Int32) (v3 : Int32) , fX8_leastOf_b30 k6 v0 v1 v2 v3 = some out → G κ (Vp κ) 4 30 [(0, .int v0), (1, .int v1), (2, .int v2), (3, .int v3)] [] := by
    intro k6 hk6 v0 v1 v2 v3 hf
    refine g_iload_n (pc := 30) (i := 2) (j := 2) C dX8_leastOf_30 rfl rfl ?_
    exact g_at [0, 1, 3] rfl (b31 k6 hk6 v0 v1 v3 v2 hf)
  have b6 : ∀ (n : Nat) (v0 : Int32) (v1 : Int32) (v2 : Int32) (v3 : Int32) , fX8_leastOf_b6 n v0 v1 v2 v3 = some out → G κ (Vp κ) 4 6 [(0, .int v0), (1, .int v1), (2, .int v2), (3, .int v3)] [] := by
    intro n
    induction n with
    | zero => intro v0 v1 v2 v3 hf; exact none_ne hf
    | succ n ih =>
      intro v0 v1 v2 v3 hf
      refine g_iload_n (pc := 6) (i := 3) (j := 3) C dX8_leastOf_6 rfl rfl ?_
      refine g_if_lt (pc := 7) (tgt := 38) C dX8_leastOf_7 rfl hf (fun _ hf => ?_) (fun _ hf => ?_)
      · refine g_iload_n (pc := 38) (i := 2) (j := 2) C dX8_leastOf_38 rfl rfl ?_
        exact g_iretp (pc := 39) C hQ dX8_leastOf_39 hf
      · refine g_iload_n (pc := 10) (i := 0) (j := 0) C dX8_leastOf_10 rfl rfl ?_
        refine g_iload_n (pc := 11) (i := 3) (j := 3) C dX8_leastOf_11 rfl rfl ?_
        refine g_cpi (pc := 12) (st := []) C lkX8_313 (As := [.int v0, .int v3]) rfl (fun out h => kX8_widens (kl κ) v0 v3 out h) (by decide) rfl (Nat.le_of_ble_eq_true rfl) dX8_leastOf_12 hf (fun r12 _ hf => ?_)
        refine g_if_eq (pc := 15) (tgt := 30) C dX8_leastOf_15 rfl hf (fun _ hf => ?_) (fun _ hf => ?_)
        · exact b30 (fX8_leastOf_b6 n) ih v0 v1 v2 v3 hf
        · refine g_iload_n (pc := 18) (i := 1) (j := 1) C dX8_leastOf_18 rfl rfl ?_
          refine g_iload_n (pc := 19) (i := 3) (j := 3) C dX8_leastOf_19 rfl rfl ?_
          refine g_cpi (pc := 20) (st := []) C lkX8_313 (As := [.int v1, .int v3]) rfl (fun out h => kX8_widens (kl κ) v1 v3 out h) (by decide) rfl (Nat.le_of_ble_eq_true rfl) dX8_leastOf_20 hf (fun r20 _ hf => ?_)
          refine g_if_eq (pc := 23) (tgt := 30) C dX8_leastOf_23 rfl hf (fun _ hf => ?_) (fun _ hf => ?_)
          · exact b30 (fX8_leastOf_b6 n) ih v0 v1 v2 v3 hf
          · refine g_iload_n (pc := 26) (i := 3) (j := 3) C dX8_leastOf_26 rfl rfl ?_
            refine g_goto (pc := 27) (tgt := 31) C dX8_leastOf_27 rfl ?_
            exact g_at [0, 1, 3] rfl (b31 (fX8_leastOf_b6 n) ih v0 v1 v3 v3 hf)
  refine g_bipush (pc := 0) C dX8_leastOf_0 cb_m9 ?_
  refine g_istore_n (pc := 2) (i := 2) (L' := [(2, .int (-9 : Int32)), (0, .int p1), (1, .int p2)]) C dX8_leastOf_2 rfl (by decide) rfl ?_
  refine g_bipush (pc := 3) C dX8_leastOf_3 cb_7 ?_
  refine g_istore_n (pc := 5) (i := 3) (L' := [(3, .int (7 : Int32)), (2, .int (-9 : Int32)), (0, .int p1), (1, .int p2)]) C dX8_leastOf_5 rfl (by decide) rfl ?_
  exact g_at [2, 3, 1, 0] rfl (b6 100 p1 p2 (-9 : Int32) (7 : Int32) hf)
theorem dX8_lengthOf_0 : decode cX8_lengthOf 0 = .ok (.iconst 0, 1) := by decide +kernel
theorem dX8_lengthOf_1 : decode cX8_lengthOf 1 = .ok (.istore_n 2, 1) := by decide +kernel
theorem dX8_lengthOf_2 : decode cX8_lengthOf 2 = .ok (.lload_n 0, 1) := by decide +kernel
theorem dX8_lengthOf_3 : decode cX8_lengthOf 3 = .ok (.lstore_n 3, 1) := by decide +kernel
theorem dX8_lengthOf_4 : decode cX8_lengthOf 4 = .ok (.lload_n 3, 1) := by decide +kernel
theorem dX8_lengthOf_5 : decode cX8_lengthOf 5 = .ok (.lconst 0, 1) := by decide +kernel
theorem dX8_lengthOf_6 : decode cX8_lengthOf 6 = .ok (.lcmp, 1) := by decide +kernel
theorem dX8_lengthOf_7 : decode cX8_lengthOf 7 = .ok (.ifCond .le 13, 3) := by decide +kernel
theorem dX8_lengthOf_10 : decode cX8_lengthOf 10 = .ok (.iinc 2 1, 3) := by decide +kernel
theorem dX8_lengthOf_13 : decode cX8_lengthOf 13 = .ok (.lload_n 3, 1) := by decide +kernel
theorem dX8_lengthOf_14 : decode cX8_lengthOf 14 = .ok (.iconst 1, 1) := by decide +kernel
theorem dX8_lengthOf_15 : decode cX8_lengthOf 15 = .ok (.lshr, 1) := by decide +kernel
theorem dX8_lengthOf_16 : decode cX8_lengthOf 16 = .ok (.lstore_n 3, 1) := by decide +kernel
theorem dX8_lengthOf_17 : decode cX8_lengthOf 17 = .ok (.goto (-13), 3) := by decide +kernel
theorem dX8_lengthOf_20 : decode cX8_lengthOf 20 = .ok (.iload_n 2, 1) := by decide +kernel
theorem dX8_lengthOf_21 : decode cX8_lengthOf 21 = .ok (.ireturn, 1) := by decide +kernel
def fX8_lengthOf_b4 : Nat → Int32 → Int64 → Option Int32
  | 0, _, _ => none
  | n + 1, v2, v3 => (if v3 ≤ (0 : Int64) then some v2 else (fX8_lengthOf_b4 n) (v2 + (1 : Int32)) (jlshr v3 (1 : Int32)))
def fX8_lengthOf (p1 : Int64) : Option Int32 := fX8_lengthOf_b4 100 (0 : Int32) p1
set_option maxRecDepth 100000 in
set_option maxHeartbeats 4000000 in
theorem kX8_lengthOf (l : Launch) (p1 : Int64) (out : Int32) (hf : fX8_lengthOf p1 = some out) : Sq l yX8_lengthOf cX8_lengthOf 5 (some .int) 0 [.long p1] (some (.int out)) := by
  refine Sq.of [(0, .long p1)] rfl (by decide +kernel) (Nat.le_of_ble_eq_true rfl) ?_
  intro κ hκ C hQ
  subst hκ
  replace C : Cf κ cX8_lengthOf 5 RX8 (some .int) 0 := C
  have b4 : ∀ (n : Nat) (v2 : Int32) (v3 : Int64) , fX8_lengthOf_b4 n v2 v3 = some out → G κ (Vp κ) 5 4 [(2, .int v2), (3, .long v3)] [] := by
    intro n
    induction n with
    | zero => intro v2 v3 hf; exact none_ne hf
    | succ n ih =>
      intro v2 v3 hf
      refine g_lload_n (pc := 4) (i := 3) (j := 1) C dX8_lengthOf_4 rfl rfl ?_
      refine g_lconst (pc := 5) C dX8_lengthOf_5 cl_0 ?_
      refine g_lcmp_le (pc := 6) (tgt := 20) C dX8_lengthOf_6 dX8_lengthOf_7 rfl hf (fun _ hf => ?_) (fun _ hf => ?_)
      · refine g_iload_n (pc := 20) (i := 2) (j := 0) C dX8_lengthOf_20 rfl rfl ?_
        exact g_iretp (pc := 21) C hQ dX8_lengthOf_21 hf
      · refine g_iinc (pc := 10) (i := 2) (j := 0) (v := (v2 + (1 : Int32))) (L' := [(2, .int (v2 + (1 : Int32))), (3, .long v3)]) C dX8_lengthOf_10 rfl (cx_1 _) (by decide) rfl ?_
        refine g_lload_n (pc := 13) (i := 3) (j := 1) C dX8_lengthOf_13 rfl rfl ?_
        refine g_iconst (pc := 14) C dX8_lengthOf_14 ci_1 ?_
        refine g_lshr (pc := 15) C dX8_lengthOf_15 ?_
        refine g_lstore_n (pc := 16) (i := 3) (L' := [(3, .long (jlshr v3 (1 : Int32))), (2, .int (v2 + (1 : Int32)))]) C dX8_lengthOf_16 rfl (by decide) rfl ?_
        refine g_goto (pc := 17) (tgt := 4) C dX8_lengthOf_17 rfl ?_
        exact g_at [1, 0] rfl (ih (v2 + (1 : Int32)) (jlshr v3 (1 : Int32)) hf)
  refine g_iconst (pc := 0) C dX8_lengthOf_0 ci_0 ?_
  refine g_istore_n (pc := 1) (i := 2) (L' := [(2, .int (0 : Int32)), (0, .long p1)]) C dX8_lengthOf_1 rfl (by decide) rfl ?_
  refine g_lload_n (pc := 2) (i := 0) (j := 1) C dX8_lengthOf_2 rfl rfl ?_
  refine g_lstore_n (pc := 3) (i := 3) (L' := [(3, .long p1), (2, .int (0 : Int32)), (0, .long p1)]) C dX8_lengthOf_3 rfl (by decide) rfl ?_
  exact g_at [1, 0] rfl (b4 100 (0 : Int32) p1 hf)
theorem dX8_rounded_0 : decode cX8_rounded 0 = .ok (.lload_n 1, 1) := by decide +kernel
theorem dX8_rounded_1 : decode cX8_rounded 1 = .ok (.lconst 0, 1) := by decide +kernel
theorem dX8_rounded_2 : decode cX8_rounded 2 = .ok (.lcmp, 1) := by decide +kernel
theorem dX8_rounded_3 : decode cX8_rounded 3 = .ok (.ifCond .ne 5, 3) := by decide +kernel
theorem dX8_rounded_6 : decode cX8_rounded 6 = .ok (.lconst 0, 1) := by decide +kernel
theorem dX8_rounded_7 : decode cX8_rounded 7 = .ok (.lreturn, 1) := by decide +kernel
theorem dX8_rounded_8 : decode cX8_rounded 8 = .ok (.iload_n 0, 1) := by decide +kernel
theorem dX8_rounded_9 : decode cX8_rounded 9 = .ok (.bipush 6, 2) := by decide +kernel
theorem dX8_rounded_11 : decode cX8_rounded 11 = .ok (.if_icmp .ne 8, 3) := by decide +kernel
theorem dX8_rounded_14 : decode cX8_rounded 14 = .ok (.bipush 24, 2) := by decide +kernel
theorem dX8_rounded_16 : decode cX8_rounded 16 = .ok (.goto 5, 3) := by decide +kernel
theorem dX8_rounded_19 : decode cX8_rounded 19 = .ok (.bipush 53, 2) := by decide +kernel
theorem dX8_rounded_21 : decode cX8_rounded 21 = .ok (.istore 4, 2) := by decide +kernel
theorem dX8_rounded_23 : decode cX8_rounded 23 = .ok (.lload_n 1, 1) := by decide +kernel
theorem dX8_rounded_24 : decode cX8_rounded 24 = .ok (.ldc2_w 112, 3) := by decide +kernel
theorem dX8_rounded_27 : decode cX8_rounded 27 = .ok (.lcmp, 1) := by decide +kernel
theorem dX8_rounded_28 : decode cX8_rounded 28 = .ok (.ifCond .ne 7, 3) := by decide +kernel
theorem dX8_rounded_31 : decode cX8_rounded 31 = .ok (.iconst 1, 1) := by decide +kernel
theorem dX8_rounded_32 : decode cX8_rounded 32 = .ok (.goto 4, 3) := by decide +kernel
theorem dX8_rounded_35 : decode cX8_rounded 35 = .ok (.iconst 0, 1) := by decide +kernel
theorem dX8_rounded_36 : decode cX8_rounded 36 = .ok (.istore 5, 2) := by decide +kernel
theorem dX8_rounded_38 : decode cX8_rounded 38 = .ok (.iload 5, 2) := by decide +kernel
theorem dX8_rounded_40 : decode cX8_rounded 40 = .ok (.ifCond .eq 11, 3) := by decide +kernel
theorem dX8_rounded_43 : decode cX8_rounded 43 = .ok (.lload_n 1, 1) := by decide +kernel
theorem dX8_rounded_44 : decode cX8_rounded 44 = .ok (.ldc2_w 110, 3) := by decide +kernel
theorem dX8_rounded_47 : decode cX8_rounded 47 = .ok (.ldiv, 1) := by decide +kernel
theorem dX8_rounded_48 : decode cX8_rounded 48 = .ok (.goto 4, 3) := by decide +kernel
theorem dX8_rounded_51 : decode cX8_rounded 51 = .ok (.lload_n 1, 1) := by decide +kernel
theorem dX8_rounded_52 : decode cX8_rounded 52 = .ok (.lstore 6, 2) := by decide +kernel
theorem dX8_rounded_54 : decode cX8_rounded 54 = .ok (.iload 5, 2) := by decide +kernel
theorem dX8_rounded_56 : decode cX8_rounded 56 = .ok (.ifCond .eq 9, 3) := by decide +kernel
theorem dX8_rounded_59 : decode cX8_rounded 59 = .ok (.iload_n 3, 1) := by decide +kernel
theorem dX8_rounded_60 : decode cX8_rounded 60 = .ok (.iconst 1, 1) := by decide +kernel
theorem dX8_rounded_61 : decode cX8_rounded 61 = .ok (.iadd, 1) := by decide +kernel
theorem dX8_rounded_62 : decode cX8_rounded 62 = .ok (.goto 4, 3) := by decide +kernel
theorem dX8_rounded_65 : decode cX8_rounded 65 = .ok (.iload_n 3, 1) := by decide +kernel
theorem dX8_rounded_66 : decode cX8_rounded 66 = .ok (.istore 8, 2) := by decide +kernel
theorem dX8_rounded_68 : decode cX8_rounded 68 = .ok (.lload 6, 2) := by decide +kernel
theorem dX8_rounded_70 : decode cX8_rounded 70 = .ok (.lconst 0, 1) := by decide +kernel
theorem dX8_rounded_71 : decode cX8_rounded 71 = .ok (.lcmp, 1) := by decide +kernel
theorem dX8_rounded_72 : decode cX8_rounded 72 = .ok (.ifCond .ge 9, 3) := by decide +kernel
theorem dX8_rounded_75 : decode cX8_rounded 75 = .ok (.lload 6, 2) := by decide +kernel
theorem dX8_rounded_77 : decode cX8_rounded 77 = .ok (.lneg, 1) := by decide +kernel
theorem dX8_rounded_78 : decode cX8_rounded 78 = .ok (.goto 5, 3) := by decide +kernel
theorem dX8_rounded_81 : decode cX8_rounded 81 = .ok (.lload 6, 2) := by decide +kernel
theorem dX8_rounded_83 : decode cX8_rounded 83 = .ok (.lstore 9, 2) := by decide +kernel
theorem dX8_rounded_85 : decode cX8_rounded 85 = .ok (.lload 9, 2) := by decide +kernel
theorem dX8_rounded_87 : decode cX8_rounded 87 = .ok (.invokestatic 114, 3) := by decide +kernel
theorem dX8_rounded_90 : decode cX8_rounded 90 = .ok (.iload 4, 2) := by decide +kernel
theorem dX8_rounded_92 : decode cX8_rounded 92 = .ok (.isub, 1) := by decide +kernel
theorem dX8_rounded_93 : decode cX8_rounded 93 = .ok (.istore 11, 2) := by decide +kernel
theorem dX8_rounded_95 : decode cX8_rounded 95 = .ok (.iload 11, 2) := by decide +kernel
theorem dX8_rounded_97 : decode cX8_rounded 97 = .ok (.ifCond .le 73, 3) := by decide +kernel
theorem dX8_rounded_100 : decode cX8_rounded 100 = .ok (.lload 9, 2) := by decide +kernel
theorem dX8_rounded_102 : decode cX8_rounded 102 = .ok (.lconst 1, 1) := by decide +kernel
theorem dX8_rounded_103 : decode cX8_rounded 103 = .ok (.iload 11, 2) := by decide +kernel
theorem dX8_rounded_105 : decode cX8_rounded 105 = .ok (.lshl, 1) := by decide +kernel
theorem dX8_rounded_106 : decode cX8_rounded 106 = .ok (.lconst 1, 1) := by decide +kernel
theorem dX8_rounded_107 : decode cX8_rounded 107 = .ok (.lsub, 1) := by decide +kernel
theorem dX8_rounded_108 : decode cX8_rounded 108 = .ok (.land, 1) := by decide +kernel
theorem dX8_rounded_109 : decode cX8_rounded 109 = .ok (.lstore 12, 2) := by decide +kernel
theorem dX8_rounded_111 : decode cX8_rounded 111 = .ok (.lconst 1, 1) := by decide +kernel
theorem dX8_rounded_112 : decode cX8_rounded 112 = .ok (.iload 11, 2) := by decide +kernel
theorem dX8_rounded_114 : decode cX8_rounded 114 = .ok (.iconst 1, 1) := by decide +kernel
theorem dX8_rounded_115 : decode cX8_rounded 115 = .ok (.isub, 1) := by decide +kernel
theorem dX8_rounded_116 : decode cX8_rounded 116 = .ok (.lshl, 1) := by decide +kernel
theorem dX8_rounded_117 : decode cX8_rounded 117 = .ok (.lstore 14, 2) := by decide +kernel
theorem dX8_rounded_119 : decode cX8_rounded 119 = .ok (.lload 9, 2) := by decide +kernel
theorem dX8_rounded_121 : decode cX8_rounded 121 = .ok (.iload 11, 2) := by decide +kernel
theorem dX8_rounded_123 : decode cX8_rounded 123 = .ok (.lshr, 1) := by decide +kernel
theorem dX8_rounded_124 : decode cX8_rounded 124 = .ok (.lstore 9, 2) := by decide +kernel
theorem dX8_rounded_126 : decode cX8_rounded 126 = .ok (.iload 8, 2) := by decide +kernel
theorem dX8_rounded_128 : decode cX8_rounded 128 = .ok (.iload 11, 2) := by decide +kernel
theorem dX8_rounded_130 : decode cX8_rounded 130 = .ok (.iadd, 1) := by decide +kernel
theorem dX8_rounded_131 : decode cX8_rounded 131 = .ok (.istore 8, 2) := by decide +kernel
theorem dX8_rounded_133 : decode cX8_rounded 133 = .ok (.lload 9, 2) := by decide +kernel
theorem dX8_rounded_135 : decode cX8_rounded 135 = .ok (.lload 12, 2) := by decide +kernel
theorem dX8_rounded_137 : decode cX8_rounded 137 = .ok (.lload 14, 2) := by decide +kernel
theorem dX8_rounded_139 : decode cX8_rounded 139 = .ok (.lcmp, 1) := by decide +kernel
theorem dX8_rounded_140 : decode cX8_rounded 140 = .ok (.ifCond .gt 22, 3) := by decide +kernel
theorem dX8_rounded_143 : decode cX8_rounded 143 = .ok (.lload 12, 2) := by decide +kernel
theorem dX8_rounded_145 : decode cX8_rounded 145 = .ok (.lload 14, 2) := by decide +kernel
theorem dX8_rounded_147 : decode cX8_rounded 147 = .ok (.lcmp, 1) := by decide +kernel
theorem dX8_rounded_148 : decode cX8_rounded 148 = .ok (.ifCond .ne 18, 3) := by decide +kernel
theorem dX8_rounded_151 : decode cX8_rounded 151 = .ok (.lload 9, 2) := by decide +kernel
theorem dX8_rounded_153 : decode cX8_rounded 153 = .ok (.ldc2_w 110, 3) := by decide +kernel
theorem dX8_rounded_156 : decode cX8_rounded 156 = .ok (.lrem, 1) := by decide +kernel
theorem dX8_rounded_157 : decode cX8_rounded 157 = .ok (.lconst 1, 1) := by decide +kernel
theorem dX8_rounded_158 : decode cX8_rounded 158 = .ok (.lcmp, 1) := by decide +kernel
theorem dX8_rounded_159 : decode cX8_rounded 159 = .ok (.ifCond .ne 7, 3) := by decide +kernel
theorem dX8_rounded_162 : decode cX8_rounded 162 = .ok (.lconst 1, 1) := by decide +kernel
theorem dX8_rounded_163 : decode cX8_rounded 163 = .ok (.goto 4, 3) := by decide +kernel
theorem dX8_rounded_166 : decode cX8_rounded 166 = .ok (.lconst 0, 1) := by decide +kernel
theorem dX8_rounded_167 : decode cX8_rounded 167 = .ok (.ladd, 1) := by decide +kernel
theorem dX8_rounded_168 : decode cX8_rounded 168 = .ok (.lstore 9, 2) := by decide +kernel
theorem dX8_rounded_170 : decode cX8_rounded 170 = .ok (.lload 9, 2) := by decide +kernel
theorem dX8_rounded_172 : decode cX8_rounded 172 = .ok (.invokestatic 114, 3) := by decide +kernel
theorem dX8_rounded_175 : decode cX8_rounded 175 = .ok (.istore 12, 2) := by decide +kernel
theorem dX8_rounded_177 : decode cX8_rounded 177 = .ok (.iload 12, 2) := by decide +kernel
theorem dX8_rounded_179 : decode cX8_rounded 179 = .ok (.iload 4, 2) := by decide +kernel
theorem dX8_rounded_181 : decode cX8_rounded 181 = .ok (.if_icmp .le 14, 3) := by decide +kernel
theorem dX8_rounded_184 : decode cX8_rounded 184 = .ok (.lload 9, 2) := by decide +kernel
theorem dX8_rounded_186 : decode cX8_rounded 186 = .ok (.iload 12, 2) := by decide +kernel
theorem dX8_rounded_188 : decode cX8_rounded 188 = .ok (.iload 4, 2) := by decide +kernel
theorem dX8_rounded_190 : decode cX8_rounded 190 = .ok (.isub, 1) := by decide +kernel
theorem dX8_rounded_191 : decode cX8_rounded 191 = .ok (.lshr, 1) := by decide +kernel
theorem dX8_rounded_192 : decode cX8_rounded 192 = .ok (.goto 11, 3) := by decide +kernel
theorem dX8_rounded_195 : decode cX8_rounded 195 = .ok (.lload 9, 2) := by decide +kernel
theorem dX8_rounded_197 : decode cX8_rounded 197 = .ok (.iload 4, 2) := by decide +kernel
theorem dX8_rounded_199 : decode cX8_rounded 199 = .ok (.iload 12, 2) := by decide +kernel
theorem dX8_rounded_201 : decode cX8_rounded 201 = .ok (.isub, 1) := by decide +kernel
theorem dX8_rounded_202 : decode cX8_rounded 202 = .ok (.lshl, 1) := by decide +kernel
theorem dX8_rounded_203 : decode cX8_rounded 203 = .ok (.lstore 13, 2) := by decide +kernel
theorem dX8_rounded_205 : decode cX8_rounded 205 = .ok (.iload 8, 2) := by decide +kernel
theorem dX8_rounded_207 : decode cX8_rounded 207 = .ok (.iload 12, 2) := by decide +kernel
theorem dX8_rounded_209 : decode cX8_rounded 209 = .ok (.iadd, 1) := by decide +kernel
theorem dX8_rounded_210 : decode cX8_rounded 210 = .ok (.iconst 1, 1) := by decide +kernel
theorem dX8_rounded_211 : decode cX8_rounded 211 = .ok (.isub, 1) := by decide +kernel
theorem dX8_rounded_212 : decode cX8_rounded 212 = .ok (.iload_n 0, 1) := by decide +kernel
theorem dX8_rounded_213 : decode cX8_rounded 213 = .ok (.bipush 6, 2) := by decide +kernel
theorem dX8_rounded_215 : decode cX8_rounded 215 = .ok (.if_icmp .ne 8, 3) := by decide +kernel
theorem dX8_rounded_218 : decode cX8_rounded 218 = .ok (.bipush 127, 2) := by decide +kernel
theorem dX8_rounded_220 : decode cX8_rounded 220 = .ok (.goto 6, 3) := by decide +kernel
theorem dX8_rounded_223 : decode cX8_rounded 223 = .ok (.sipush 1023, 3) := by decide +kernel
theorem dX8_rounded_226 : decode cX8_rounded 226 = .ok (.iadd, 1) := by decide +kernel
theorem dX8_rounded_227 : decode cX8_rounded 227 = .ok (.i2l, 1) := by decide +kernel
theorem dX8_rounded_228 : decode cX8_rounded 228 = .ok (.lstore 15, 2) := by decide +kernel
theorem dX8_rounded_230 : decode cX8_rounded 230 = .ok (.lload 13, 2) := by decide +kernel
theorem dX8_rounded_232 : decode cX8_rounded 232 = .ok (.lconst 1, 1) := by decide +kernel
theorem dX8_rounded_233 : decode cX8_rounded 233 = .ok (.iload 4, 2) := by decide +kernel
theorem dX8_rounded_235 : decode cX8_rounded 235 = .ok (.iconst 1, 1) := by decide +kernel
theorem dX8_rounded_236 : decode cX8_rounded 236 = .ok (.isub, 1) := by decide +kernel
theorem dX8_rounded_237 : decode cX8_rounded 237 = .ok (.lshl, 1) := by decide +kernel
theorem dX8_rounded_238 : decode cX8_rounded 238 = .ok (.lconst 1, 1) := by decide +kernel
theorem dX8_rounded_239 : decode cX8_rounded 239 = .ok (.lsub, 1) := by decide +kernel
theorem dX8_rounded_240 : decode cX8_rounded 240 = .ok (.land, 1) := by decide +kernel
theorem dX8_rounded_241 : decode cX8_rounded 241 = .ok (.lload 15, 2) := by decide +kernel
theorem dX8_rounded_243 : decode cX8_rounded 243 = .ok (.iload 4, 2) := by decide +kernel
theorem dX8_rounded_245 : decode cX8_rounded 245 = .ok (.iconst 1, 1) := by decide +kernel
theorem dX8_rounded_246 : decode cX8_rounded 246 = .ok (.isub, 1) := by decide +kernel
theorem dX8_rounded_247 : decode cX8_rounded 247 = .ok (.lshl, 1) := by decide +kernel
theorem dX8_rounded_248 : decode cX8_rounded 248 = .ok (.lor, 1) := by decide +kernel
theorem dX8_rounded_249 : decode cX8_rounded 249 = .ok (.lstore 17, 2) := by decide +kernel
theorem dX8_rounded_251 : decode cX8_rounded 251 = .ok (.lload 6, 2) := by decide +kernel
theorem dX8_rounded_253 : decode cX8_rounded 253 = .ok (.lconst 0, 1) := by decide +kernel
theorem dX8_rounded_254 : decode cX8_rounded 254 = .ok (.lcmp, 1) := by decide +kernel
theorem dX8_rounded_255 : decode cX8_rounded 255 = .ok (.ifCond .ge 24, 3) := by decide +kernel
theorem dX8_rounded_258 : decode cX8_rounded 258 = .ok (.lload 17, 2) := by decide +kernel
theorem dX8_rounded_260 : decode cX8_rounded 260 = .ok (.lconst 1, 1) := by decide +kernel
theorem dX8_rounded_261 : decode cX8_rounded 261 = .ok (.iload_n 0, 1) := by decide +kernel
theorem dX8_rounded_262 : decode cX8_rounded 262 = .ok (.bipush 6, 2) := by decide +kernel
theorem dX8_rounded_264 : decode cX8_rounded 264 = .ok (.if_icmp .ne 8, 3) := by decide +kernel
theorem dX8_rounded_267 : decode cX8_rounded 267 = .ok (.bipush 31, 2) := by decide +kernel
theorem dX8_rounded_269 : decode cX8_rounded 269 = .ok (.goto 5, 3) := by decide +kernel
theorem dX8_rounded_272 : decode cX8_rounded 272 = .ok (.bipush 63, 2) := by decide +kernel
theorem dX8_rounded_274 : decode cX8_rounded 274 = .ok (.lshl, 1) := by decide +kernel
theorem dX8_rounded_275 : decode cX8_rounded 275 = .ok (.lor, 1) := by decide +kernel
theorem dX8_rounded_276 : decode cX8_rounded 276 = .ok (.goto 5, 3) := by decide +kernel
theorem dX8_rounded_279 : decode cX8_rounded 279 = .ok (.lload 17, 2) := by decide +kernel
theorem dX8_rounded_281 : decode cX8_rounded 281 = .ok (.lstore 19, 2) := by decide +kernel
theorem dX8_rounded_283 : decode cX8_rounded 283 = .ok (.iload_n 0, 1) := by decide +kernel
theorem dX8_rounded_284 : decode cX8_rounded 284 = .ok (.bipush 6, 2) := by decide +kernel
theorem dX8_rounded_286 : decode cX8_rounded 286 = .ok (.if_icmp .ne 10, 3) := by decide +kernel
theorem dX8_rounded_289 : decode cX8_rounded 289 = .ok (.lload 19, 2) := by decide +kernel
theorem dX8_rounded_291 : decode cX8_rounded 291 = .ok (.l2i, 1) := by decide +kernel
theorem dX8_rounded_292 : decode cX8_rounded 292 = .ok (.i2l, 1) := by decide +kernel
theorem dX8_rounded_293 : decode cX8_rounded 293 = .ok (.goto 5, 3) := by decide +kernel
theorem dX8_rounded_296 : decode cX8_rounded 296 = .ok (.lload 19, 2) := by decide +kernel
theorem dX8_rounded_298 : decode cX8_rounded 298 = .ok (.lreturn, 1) := by decide +kernel
def fX8_rounded_b281 (v0 : Int32) (s0 : Int64) : Option Int64 := (if v0 = (6 : Int32) then some (Int32.toInt64 (Int64.toInt32 s0)) else some s0)
def fX8_rounded_b274 (v0 : Int32) (s0 : Int32) (s1 : Int64) (s2 : Int64) : Option Int64 := fX8_rounded_b281 v0 (s2 ||| (jlshl s1 s0))
def fX8_rounded_b226 (v0 : Int32) (v4 : Int32) (v6 : Int64) (v13 : Int64) (s0 : Int32) (s1 : Int32) : Option Int64 := (if (0 : Int64) ≤ v6 then fX8_rounded_b281 v0 ((v13 &&& ((jlshl (1 : Int64) (v4 - (1 : Int32))) - (1 : Int64))) ||| (jlshl (Int32.toInt64 (s1 + s0)) (v4 - (1 : Int32)))) else (if v0 = (6 : Int32) then fX8_rounded_b274 v0 (31 : Int32) (1 : Int64) ((v13 &&& ((jlshl (1 : Int64) (v4 - (1 : Int32))) - (1 : Int64))) ||| (jlshl (Int32.toInt64 (s1 + s0)) (v4 - (1 : Int32)))) else fX8_rounded_b274 v0 (63 : Int32) (1 : Int64) ((v13 &&& ((jlshl (1 : Int64) (v4 - (1 : Int32))) - (1 : Int64))) ||| (jlshl (Int32.toInt64 (s1 + s0)) (v4 - (1 : Int32))))))
def fX8_rounded_b203 (v0 : Int32) (v4 : Int32) (v6 : Int64) (v8 : Int32) (v12 : Int32) (s0 : Int64) : Option Int64 := (if v0 = (6 : Int32) then fX8_rounded_b226 v0 v4 v6 s0 (127 : Int32) ((v8 + v12) - (1 : Int32)) else fX8_rounded_b226 v0 v4 v6 s0 (1023 : Int32) ((v8 + v12) - (1 : Int32)))
def fX8_rounded_b170 (v0 : Int32) (v4 : Int32) (v6 : Int64) (v8 : Int32) (v9 : Int64) : Option Int64 := ((fX8_lengthOf v9).bind fun r172 => (if r172 ≤ v4 then fX8_rounded_b203 v0 v4 v6 v8 r172 (jlshl v9 (v4 - r172)) else fX8_rounded_b203 v0 v4 v6 v8 r172 (jlshr v9 (r172 - v4))))
def fX8_rounded_b167 (v0 : Int32) (v4 : Int32) (v6 : Int64) (v8 : Int32) (s0 : Int64) (s1 : Int64) : Option Int64 := fX8_rounded_b170 v0 v4 v6 v8 (s1 + s0)
def fX8_rounded_b162 (v0 : Int32) (v4 : Int32) (v6 : Int64) (v8 : Int32) (s0 : Int64) : Option Int64 := fX8_rounded_b167 v0 v4 v6 v8 (1 : Int64) s0
def fX8_rounded_b166 (v0 : Int32) (v4 : Int32) (v6 : Int64) (v8 : Int32) (s0 : Int64) : Option Int64 := fX8_rounded_b167 v0 v4 v6 v8 (0 : Int64) s0
def fX8_rounded_b83 (v0 : Int32) (v4 : Int32) (v6 : Int64) (v8 : Int32) (s0 : Int64) : Option Int64 := ((fX8_lengthOf s0).bind fun r87 => (if (r87 - v4) ≤ 0 then fX8_rounded_b170 v0 v4 v6 v8 s0 else (if (jlshl (1 : Int64) ((r87 - v4) - (1 : Int32))) < (s0 &&& ((jlshl (1 : Int64) (r87 - v4)) - (1 : Int64))) then fX8_rounded_b162 v0 v4 v6 (v8 + (r87 - v4)) (jlshr s0 (r87 - v4)) else (if (s0 &&& ((jlshl (1 : Int64) (r87 - v4)) - (1 : Int64))) = (jlshl (1 : Int64) ((r87 - v4) - (1 : Int32))) then (if (jlrem (jlshr s0 (r87 - v4)) (2 : Int64)) = (1 : Int64) then fX8_rounded_b162 v0 v4 v6 (v8 + (r87 - v4)) (jlshr s0 (r87 - v4)) else fX8_rounded_b166 v0 v4 v6 (v8 + (r87 - v4)) (jlshr s0 (r87 - v4))) else fX8_rounded_b166 v0 v4 v6 (v8 + (r87 - v4)) (jlshr s0 (r87 - v4))))))
def fX8_rounded_b66 (v0 : Int32) (v4 : Int32) (v6 : Int64) (s0 : Int32) : Option Int64 := (if (0 : Int64) ≤ v6 then fX8_rounded_b83 v0 v4 v6 s0 v6 else fX8_rounded_b83 v0 v4 v6 s0 (-v6))
def fX8_rounded_b52 (v0 : Int32) (v3 : Int32) (v4 : Int32) (v5 : Int32) (s0 : Int64) : Option Int64 := (if v5 = 0 then fX8_rounded_b66 v0 v4 s0 v3 else fX8_rounded_b66 v0 v4 s0 (v3 + (1 : Int32)))
def fX8_rounded_b36 (v0 : Int32) (v1 : Int64) (v3 : Int32) (v4 : Int32) (s0 : Int32) : Option Int64 := (if s0 = 0 then fX8_rounded_b52 v0 v3 v4 s0 v1 else fX8_rounded_b52 v0 v3 v4 s0 (jldiv v1 (2 : Int64)))
def fX8_rounded_b21 (v0 : Int32) (v1 : Int64) (v3 : Int32) (s0 : Int32) : Option Int64 := (if v1 = (-9223372036854775808 : Int64) then fX8_rounded_b36 v0 v1 v3 s0 (1 : Int32) else fX8_rounded_b36 v0 v1 v3 s0 (0 : Int32))
def fX8_rounded (p1 : Int32) (p2 : Int64) (p3 : Int32) : Option Int64 := (if p2 = (0 : Int64) then some (0 : Int64) else (if p1 = (6 : Int32) then fX8_rounded_b21 p1 p2 p3 (24 : Int32) else fX8_rounded_b21 p1 p2 p3 (53 : Int32)))
set_option maxRecDepth 100000 in
set_option maxHeartbeats 4000000 in
theorem kX8_rounded (l : Launch) (p1 : Int32) (p2 : Int64) (p3 : Int32) (out : Int64) (hf : fX8_rounded p1 p2 p3 = some out) : Sq l yX8_rounded cX8_rounded 21 (some .long) 1 [.int p1, .long p2, .int p3] (some (.long out)) := by
  refine Sq.of [(0, .int p1), (1, .long p2), (3, .int p3)] rfl (by decide +kernel) (Nat.le_of_ble_eq_true rfl) ?_
  intro κ hκ C hQ
  subst hκ
  replace C : Cf κ cX8_rounded 21 RX8 (some .long) 1 := C
  have b281 : ∀ (v0 : Int32) (s0 : Int64) , fX8_rounded_b281 v0 s0 = some out → G κ (Vp κ) 21 281 [(0, .int v0)] [.long s0] := by
    intro v0 s0 hf
    refine g_lstore (pc := 281) (i := 19) (L' := [(19, .long s0), (0, .int v0)]) C dX8_rounded_281 (by decide) rfl ?_
    refine g_iload_n (pc := 283) (i := 0) (j := 1) C dX8_rounded_283 rfl rfl ?_
    refine g_bipush (pc := 284) C dX8_rounded_284 cb_6 ?_
    refine g_icmp_ne (pc := 286) (tgt := 296) C dX8_rounded_286 rfl hf (fun _ hf => ?_) (fun _ hf => ?_)
    · refine g_lload (pc := 296) (i := 19) (j := 0) C dX8_rounded_296 rfl ?_
      exact g_lretp (pc := 298) C hQ dX8_rounded_298 hf
    · refine g_lload (pc := 289) (i := 19) (j := 0) C dX8_rounded_289 rfl ?_
      refine g_l2i (pc := 291) C dX8_rounded_291 ?_
      refine g_i2l (pc := 292) C dX8_rounded_292 ?_
      refine g_goto (pc := 293) (tgt := 298) C dX8_rounded_293 rfl ?_
      exact g_lretp (pc := 298) C hQ dX8_rounded_298 hf
  have b274 : ∀ (v0 : Int32) (s0 : Int32) (s1 : Int64) (s2 : Int64) , fX8_rounded_b274 v0 s0 s1 s2 = some out → G κ (Vp κ) 21 274 [(0, .int v0)] [.int s0, .long s1, .long s2] := by
    intro v0 s0 s1 s2 hf
    refine g_lshl (pc := 274) C dX8_rounded_274 ?_
    refine g_lor (pc := 275) C dX8_rounded_275 ?_
    refine g_goto (pc := 276) (tgt := 281) C dX8_rounded_276 rfl ?_
    exact b281 v0 (s2 ||| (jlshl s1 s0)) hf
  have b226 : ∀ (v0 : Int32) (v4 : Int32) (v6 : Int64) (v13 : Int64) (s0 : Int32) (s1 : Int32) , fX8_rounded_b226 v0 v4 v6 v13 s0 s1 = some out → G κ (Vp κ) 21 226 [(0, .int v0), (4, .int v4), (6, .long v6), (13, .long v13)] [.int s0, .int s1] := by
    intro v0 v4 v6 v13 s0 s1 hf
    refine g_iadd (pc := 226) C dX8_rounded_226 ?_
    refine g_i2l (pc := 227) C dX8_rounded_227 ?_
    refine g_lstore (pc := 228) (i := 15) (L' := [(15, .long (Int32.toInt64 (s1 + s0))), (0, .int v0), (4, .int v4), (6, .long v6), (13, .long v13)]) C dX8_rounded_228 (by decide) rfl ?_
    refine g_lload (pc := 230) (i := 13) (j := 4) C dX8_rounded_230 rfl ?_
    refine g_lconst (pc := 232) C dX8_rounded_232 cl_1 ?_
    refine g_iload (pc := 233) (i := 4) (j := 2) C dX8_rounded_233 rfl ?_
    refine g_iconst (pc := 235) C dX8_rounded_235 ci_1 ?_
    refine g_isub (pc := 236) C dX8_rounded_236 ?_
    refine g_lshl (pc := 237) C dX8_rounded_237 ?_
    refine g_lconst (pc := 238) C dX8_rounded_238 cl_1 ?_
    refine g_lsub (pc := 239) C dX8_rounded_239 ?_
    refine g_land (pc := 240) C dX8_rounded_240 ?_
    refine g_lload (pc := 241) (i := 15) (j := 0) C dX8_rounded_241 rfl ?_
    refine g_iload (pc := 243) (i := 4) (j := 2) C dX8_rounded_243 rfl ?_
    refine g_iconst (pc := 245) C dX8_rounded_245 ci_1 ?_
    refine g_isub (pc := 246) C dX8_rounded_246 ?_
    refine g_lshl (pc := 247) C dX8_rounded_247 ?_
    refine g_lor (pc := 248) C dX8_rounded_248 ?_
    refine g_lstore (pc := 249) (i := 17) (L' := [(17, .long ((v13 &&& ((jlshl (1 : Int64) (v4 - (1 : Int32))) - (1 : Int64))) ||| (jlshl (Int32.toInt64 (s1 + s0)) (v4 - (1 : Int32))))), (15, .long (Int32.toInt64 (s1 + s0))), (0, .int v0), (4, .int v4), (6, .long v6), (13, .long v13)]) C dX8_rounded_249 (by decide) rfl ?_
    refine g_lload (pc := 251) (i := 6) (j := 4) C dX8_rounded_251 rfl ?_
    refine g_lconst (pc := 253) C dX8_rounded_253 cl_0 ?_
    refine g_lcmp_ge (pc := 254) (tgt := 279) C dX8_rounded_254 dX8_rounded_255 rfl hf (fun _ hf => ?_) (fun _ hf => ?_)
    · refine g_lload (pc := 279) (i := 17) (j := 0) C dX8_rounded_279 rfl ?_
      exact g_at [2] rfl (b281 v0 ((v13 &&& ((jlshl (1 : Int64) (v4 - (1 : Int32))) - (1 : Int64))) ||| (jlshl (Int32.toInt64 (s1 + s0)) (v4 - (1 : Int32)))) hf)
    · refine g_lload (pc := 258) (i := 17) (j := 0) C dX8_rounded_258 rfl ?_
      refine g_lconst (pc := 260) C dX8_rounded_260 cl_1 ?_
      refine g_iload_n (pc := 261) (i := 0) (j := 2) C dX8_rounded_261 rfl rfl ?_
      refine g_bipush (pc := 262) C dX8_rounded_262 cb_6 ?_
      refine g_icmp_ne (pc := 264) (tgt := 272) C dX8_rounded_264 rfl hf (fun _ hf => ?_) (fun _ hf => ?_)
      · refine g_bipush (pc := 272) C dX8_rounded_272 cb_63 ?_
        exact g_at [2] rfl (b274 v0 (63 : Int32) (1 : Int64) ((v13 &&& ((jlshl (1 : Int64) (v4 - (1 : Int32))) - (1 : Int64))) ||| (jlshl (Int32.toInt64 (s1 + s0)) (v4 - (1 : Int32)))) hf)
      · refine g_bipush (pc := 267) C dX8_rounded_267 cb_31 ?_
        refine g_goto (pc := 269) (tgt := 274) C dX8_rounded_269 rfl ?_
        exact g_at [2] rfl (b274 v0 (31 : Int32) (1 : Int64) ((v13 &&& ((jlshl (1 : Int64) (v4 - (1 : Int32))) - (1 : Int64))) ||| (jlshl (Int32.toInt64 (s1 + s0)) (v4 - (1 : Int32)))) hf)
  have b203 : ∀ (v0 : Int32) (v4 : Int32) (v6 : Int64) (v8 : Int32) (v12 : Int32) (s0 : Int64) , fX8_rounded_b203 v0 v4 v6 v8 v12 s0 = some out → G κ (Vp κ) 21 203 [(0, .int v0), (4, .int v4), (6, .long v6), (8, .int v8), (12, .int v12)] [.long s0] := by
    intro v0 v4 v6 v8 v12 s0 hf
    refine g_lstore (pc := 203) (i := 13) (L' := [(13, .long s0), (0, .int v0), (4, .int v4), (6, .long v6), (8, .int v8), (12, .int v12)]) C dX8_rounded_203 (by decide) rfl ?_
    refine g_iload (pc := 205) (i := 8) (j := 4) C dX8_rounded_205 rfl ?_
    refine g_iload (pc := 207) (i := 12) (j := 5) C dX8_rounded_207 rfl ?_
    refine g_iadd (pc := 209) C dX8_rounded_209 ?_
    refine g_iconst (pc := 210) C dX8_rounded_210 ci_1 ?_
    refine g_isub (pc := 211) C dX8_rounded_211 ?_
    refine g_iload_n (pc := 212) (i := 0) (j := 1) C dX8_rounded_212 rfl rfl ?_
    refine g_bipush (pc := 213) C dX8_rounded_213 cb_6 ?_
    refine g_icmp_ne (pc := 215) (tgt := 223) C dX8_rounded_215 rfl hf (fun _ hf => ?_) (fun _ hf => ?_)
    · refine g_sipush (pc := 223) C dX8_rounded_223 cs_1023 ?_
      exact g_at [1, 2, 3, 0] rfl (b226 v0 v4 v6 s0 (1023 : Int32) ((v8 + v12) - (1 : Int32)) hf)
    · refine g_bipush (pc := 218) C dX8_rounded_218 cb_127 ?_
      refine g_goto (pc := 220) (tgt := 226) C dX8_rounded_220 rfl ?_
      exact g_at [1, 2, 3, 0] rfl (b226 v0 v4 v6 s0 (127 : Int32) ((v8 + v12) - (1 : Int32)) hf)
  have b170 : ∀ (v0 : Int32) (v4 : Int32) (v6 : Int64) (v8 : Int32) (v9 : Int64) , fX8_rounded_b170 v0 v4 v6 v8 v9 = some out → G κ (Vp κ) 21 170 [(0, .int v0), (4, .int v4), (6, .long v6), (8, .int v8), (9, .long v9)] [] := by
    intro v0 v4 v6 v8 v9 hf
    refine g_lload (pc := 170) (i := 9) (j := 4) C dX8_rounded_170 rfl ?_
    refine g_cpi (pc := 172) (st := []) C lkX8_114 (As := [.long v9]) rfl (fun out h => kX8_lengthOf (kl κ) v9 out h) (by decide) rfl (Nat.le_of_ble_eq_true rfl) dX8_rounded_172 hf (fun r172 _ hf => ?_)
    refine g_istore (pc := 175) (i := 12) (L' := [(12, .int r172), (0, .int v0), (4, .int v4), (6, .long v6), (8, .int v8), (9, .long v9)]) C dX8_rounded_175 (by decide) rfl ?_
    refine g_iload (pc := 177) (i := 12) (j := 0) C dX8_rounded_177 rfl ?_
    refine g_iload (pc := 179) (i := 4) (j := 2) C dX8_rounded_179 rfl ?_
    refine g_icmp_le (pc := 181) (tgt := 195) C dX8_rounded_181 rfl hf (fun _ hf => ?_) (fun _ hf => ?_)
    · refine g_lload (pc := 195) (i := 9) (j := 5) C dX8_rounded_195 rfl ?_
      refine g_iload (pc := 197) (i := 4) (j := 2) C dX8_rounded_197 rfl ?_
      refine g_iload (pc := 199) (i := 12) (j := 0) C dX8_rounded_199 rfl ?_
      refine g_isub (pc := 201) C dX8_rounded_201 ?_
      refine g_lshl (pc := 202) C dX8_rounded_202 ?_
      exact g_at [1, 2, 3, 4, 0] rfl (b203 v0 v4 v6 v8 r172 (jlshl v9 (v4 - r172)) hf)
    · refine g_lload (pc := 184) (i := 9) (j := 5) C dX8_rounded_184 rfl ?_
      refine g_iload (pc := 186) (i := 12) (j := 0) C dX8_rounded_186 rfl ?_
      refine g_iload (pc := 188) (i := 4) (j := 2) C dX8_rounded_188 rfl ?_
      refine g_isub (pc := 190) C dX8_rounded_190 ?_
      refine g_lshr (pc := 191) C dX8_rounded_191 ?_
      refine g_goto (pc := 192) (tgt := 203) C dX8_rounded_192 rfl ?_
      exact g_at [1, 2, 3, 4, 0] rfl (b203 v0 v4 v6 v8 r172 (jlshr v9 (r172 - v4)) hf)
  have b167 : ∀ (v0 : Int32) (v4 : Int32) (v6 : Int64) (v8 : Int32) (s0 : Int64) (s1 : Int64) , fX8_rounded_b167 v0 v4 v6 v8 s0 s1 = some out → G κ (Vp κ) 21 167 [(0, .int v0), (4, .int v4), (6, .long v6), (8, .int v8)] [.long s0, .long s1] := by
    intro v0 v4 v6 v8 s0 s1 hf
    refine g_ladd (pc := 167) C dX8_rounded_167 ?_
    refine g_lstore (pc := 168) (i := 9) (L' := [(9, .long (s1 + s0)), (0, .int v0), (4, .int v4), (6, .long v6), (8, .int v8)]) C dX8_rounded_168 (by decide) rfl ?_
    exact g_at [1, 2, 3, 4, 0] rfl (b170 v0 v4 v6 v8 (s1 + s0) hf)
  have b162 : ∀ (v0 : Int32) (v4 : Int32) (v6 : Int64) (v8 : Int32) (s0 : Int64) , fX8_rounded_b162 v0 v4 v6 v8 s0 = some out → G κ (Vp κ) 21 162 [(0, .int v0), (4, .int v4), (6, .long v6), (8, .int v8)] [.long s0] := by
    intro v0 v4 v6 v8 s0 hf
    refine g_lconst (pc := 162) C dX8_rounded_162 cl_1 ?_
    refine g_goto (pc := 163) (tgt := 167) C dX8_rounded_163 rfl ?_
    exact b167 v0 v4 v6 v8 (1 : Int64) s0 hf
  have b166 : ∀ (v0 : Int32) (v4 : Int32) (v6 : Int64) (v8 : Int32) (s0 : Int64) , fX8_rounded_b166 v0 v4 v6 v8 s0 = some out → G κ (Vp κ) 21 166 [(0, .int v0), (4, .int v4), (6, .long v6), (8, .int v8)] [.long s0] := by
    intro v0 v4 v6 v8 s0 hf
    refine g_lconst (pc := 166) C dX8_rounded_166 cl_0 ?_
    exact b167 v0 v4 v6 v8 (0 : Int64) s0 hf
  have b83 : ∀ (v0 : Int32) (v4 : Int32) (v6 : Int64) (v8 : Int32) (s0 : Int64) , fX8_rounded_b83 v0 v4 v6 v8 s0 = some out → G κ (Vp κ) 21 83 [(0, .int v0), (4, .int v4), (6, .long v6), (8, .int v8)] [.long s0] := by
    intro v0 v4 v6 v8 s0 hf
    refine g_lstore (pc := 83) (i := 9) (L' := [(9, .long s0), (0, .int v0), (4, .int v4), (6, .long v6), (8, .int v8)]) C dX8_rounded_83 (by decide) rfl ?_
    refine g_lload (pc := 85) (i := 9) (j := 0) C dX8_rounded_85 rfl ?_
    refine g_cpi (pc := 87) (st := []) C lkX8_114 (As := [.long s0]) rfl (fun out h => kX8_lengthOf (kl κ) s0 out h) (by decide) rfl (Nat.le_of_ble_eq_true rfl) dX8_rounded_87 hf (fun r87 _ hf => ?_)
    refine g_iload (pc := 90) (i := 4) (j := 2) C dX8_rounded_90 rfl ?_
    refine g_isub (pc := 92) C dX8_rounded_92 ?_
    refine g_istore (pc := 93) (i := 11) (L' := [(11, .int (r87 - v4)), (9, .long s0), (0, .int v0), (4, .int v4), (6, .long v6), (8, .int v8)]) C dX8_rounded_93 (by decide) rfl ?_
    refine g_iload (pc := 95) (i := 11) (j := 0) C dX8_rounded_95 rfl ?_
    refine g_if_le (pc := 97) (tgt := 170) C dX8_rounded_97 rfl hf (fun _ hf => ?_) (fun _ hf => ?_)
    · exact g_at [2, 3, 4, 5, 1] rfl (b170 v0 v4 v6 v8 s0 hf)
    · refine g_lload (pc := 100) (i := 9) (j := 1) C dX8_rounded_100 rfl ?_
      refine g_lconst (pc := 102) C dX8_rounded_102 cl_1 ?_
      refine g_iload (pc := 103) (i := 11) (j := 0) C dX8_rounded_103 rfl ?_
      refine g_lshl (pc := 105) C dX8_rounded_105 ?_
      refine g_lconst (pc := 106) C dX8_rounded_106 cl_1 ?_
      refine g_lsub (pc := 107) C dX8_rounded_107 ?_
      refine g_land (pc := 108) C dX8_rounded_108 ?_
      refine g_lstore (pc := 109) (i := 12) (L' := [(12, .long (s0 &&& ((jlshl (1 : Int64) (r87 - v4)) - (1 : Int64)))), (11, .int (r87 - v4)), (9, .long s0), (0, .int v0), (4, .int v4), (6, .long v6), (8, .int v8)]) C dX8_rounded_109 (by decide) rfl ?_
      refine g_lconst (pc := 111) C dX8_rounded_111 cl_1 ?_
      refine g_iload (pc := 112) (i := 11) (j := 1) C dX8_rounded_112 rfl ?_
      refine g_iconst (pc := 114) C dX8_rounded_114 ci_1 ?_
      refine g_isub (pc := 115) C dX8_rounded_115 ?_
      refine g_lshl (pc := 116) C dX8_rounded_116 ?_
      refine g_lstore (pc := 117) (i := 14) (L' := [(14, .long (jlshl (1 : Int64) ((r87 - v4) - (1 : Int32)))), (12, .long (s0 &&& ((jlshl (1 : Int64) (r87 - v4)) - (1 : Int64)))), (11, .int (r87 - v4)), (9, .long s0), (0, .int v0), (4, .int v4), (6, .long v6), (8, .int v8)]) C dX8_rounded_117 (by decide) rfl ?_
      refine g_lload (pc := 119) (i := 9) (j := 3) C dX8_rounded_119 rfl ?_
      refine g_iload (pc := 121) (i := 11) (j := 2) C dX8_rounded_121 rfl ?_
      refine g_lshr (pc := 123) C dX8_rounded_123 ?_
      refine g_lstore (pc := 124) (i := 9) (L' := [(9, .long (jlshr s0 (r87 - v4))), (14, .long (jlshl (1 : Int64) ((r87 - v4) - (1 : Int32)))), (12, .long (s0 &&& ((jlshl (1 : Int64) (r87 - v4)) - (1 : Int64)))), (11, .int (r87 - v4)), (0, .int v0), (4, .int v4), (6, .long v6), (8, .int v8)]) C dX8_rounded_124 (by decide) rfl ?_
      refine g_iload (pc := 126) (i := 8) (j := 7) C dX8_rounded_126 rfl ?_
      refine g_iload (pc := 128) (i := 11) (j := 3) C dX8_rounded_128 rfl ?_
      refine g_iadd (pc := 130) C dX8_rounded_130 ?_
      refine g_istore (pc := 131) (i := 8) (L' := [(8, .int (v8 + (r87 - v4))), (9, .long (jlshr s0 (r87 - v4))), (14, .long (jlshl (1 : Int64) ((r87 - v4) - (1 : Int32)))), (12, .long (s0 &&& ((jlshl (1 : Int64) (r87 - v4)) - (1 : Int64)))), (11, .int (r87 - v4)), (0, .int v0), (4, .int v4), (6, .long v6)]) C dX8_rounded_131 (by decide) rfl ?_
      refine g_lload (pc := 133) (i := 9) (j := 1) C dX8_rounded_133 rfl ?_
      refine g_lload (pc := 135) (i := 12) (j := 3) C dX8_rounded_135 rfl ?_
      refine g_lload (pc := 137) (i := 14) (j := 2) C dX8_rounded_137 rfl ?_
      refine g_lcmp_gt (pc := 139) (tgt := 162) C dX8_rounded_139 dX8_rounded_140 rfl hf (fun _ hf => ?_) (fun _ hf => ?_)
      · exact g_at [5, 6, 7, 0] rfl (b162 v0 v4 v6 (v8 + (r87 - v4)) (jlshr s0 (r87 - v4)) hf)
      · refine g_lload (pc := 143) (i := 12) (j := 3) C dX8_rounded_143 rfl ?_
        refine g_lload (pc := 145) (i := 14) (j := 2) C dX8_rounded_145 rfl ?_
        refine g_lcmp_ne (pc := 147) (tgt := 166) C dX8_rounded_147 dX8_rounded_148 rfl hf (fun _ hf => ?_) (fun _ hf => ?_)
        · exact g_at [5, 6, 7, 0] rfl (b166 v0 v4 v6 (v8 + (r87 - v4)) (jlshr s0 (r87 - v4)) hf)
        · refine g_lload (pc := 151) (i := 9) (j := 1) C dX8_rounded_151 rfl ?_
          refine g_ldc2 (pc := 153) C cnX8_110 dX8_rounded_153 ?_
          refine g_lrem (pc := 156) C dX8_rounded_156 (by decide) ?_
          refine g_lconst (pc := 157) C dX8_rounded_157 cl_1 ?_
          refine g_lcmp_ne (pc := 158) (tgt := 166) C dX8_rounded_158 dX8_rounded_159 rfl hf (fun _ hf => ?_) (fun _ hf => ?_)
          · exact g_at [5, 6, 7, 0] rfl (b166 v0 v4 v6 (v8 + (r87 - v4)) (jlshr s0 (r87 - v4)) hf)
          · exact g_at [5, 6, 7, 0] rfl (b162 v0 v4 v6 (v8 + (r87 - v4)) (jlshr s0 (r87 - v4)) hf)
  have b66 : ∀ (v0 : Int32) (v4 : Int32) (v6 : Int64) (s0 : Int32) , fX8_rounded_b66 v0 v4 v6 s0 = some out → G κ (Vp κ) 21 66 [(0, .int v0), (4, .int v4), (6, .long v6)] [.int s0] := by
    intro v0 v4 v6 s0 hf
    refine g_istore (pc := 66) (i := 8) (L' := [(8, .int s0), (0, .int v0), (4, .int v4), (6, .long v6)]) C dX8_rounded_66 (by decide) rfl ?_
    refine g_lload (pc := 68) (i := 6) (j := 3) C dX8_rounded_68 rfl ?_
    refine g_lconst (pc := 70) C dX8_rounded_70 cl_0 ?_
    refine g_lcmp_ge (pc := 71) (tgt := 81) C dX8_rounded_71 dX8_rounded_72 rfl hf (fun _ hf => ?_) (fun _ hf => ?_)
    · refine g_lload (pc := 81) (i := 6) (j := 3) C dX8_rounded_81 rfl ?_
      exact g_at [1, 2, 3, 0] rfl (b83 v0 v4 v6 s0 v6 hf)
    · refine g_lload (pc := 75) (i := 6) (j := 3) C dX8_rounded_75 rfl ?_
      refine g_lneg (pc := 77) C dX8_rounded_77 ?_
      refine g_goto (pc := 78) (tgt := 83) C dX8_rounded_78 rfl ?_
      exact g_at [1, 2, 3, 0] rfl (b83 v0 v4 v6 s0 (-v6) hf)
  have b52 : ∀ (v0 : Int32) (v3 : Int32) (v4 : Int32) (v5 : Int32) (s0 : Int64) , fX8_rounded_b52 v0 v3 v4 v5 s0 = some out → G κ (Vp κ) 21 52 [(0, .int v0), (3, .int v3), (4, .int v4), (5, .int v5)] [.long s0] := by
    intro v0 v3 v4 v5 s0 hf
    refine g_lstore (pc := 52) (i := 6) (L' := [(6, .long s0), (0, .int v0), (3, .int v3), (4, .int v4), (5, .int v5)]) C dX8_rounded_52 (by decide) rfl ?_
    refine g_iload (pc := 54) (i := 5) (j := 4) C dX8_rounded_54 rfl ?_
    refine g_if_eq (pc := 56) (tgt := 65) C dX8_rounded_56 rfl hf (fun _ hf => ?_) (fun _ hf => ?_)
    · refine g_iload_n (pc := 65) (i := 3) (j := 2) C dX8_rounded_65 rfl rfl ?_
      exact g_at [1, 3, 0] rfl (b66 v0 v4 s0 v3 hf)
    · refine g_iload_n (pc := 59) (i := 3) (j := 2) C dX8_rounded_59 rfl rfl ?_
      refine g_iconst (pc := 60) C dX8_rounded_60 ci_1 ?_
      refine g_iadd (pc := 61) C dX8_rounded_61 ?_
      refine g_goto (pc := 62) (tgt := 66) C dX8_rounded_62 rfl ?_
      exact g_at [1, 3, 0] rfl (b66 v0 v4 s0 (v3 + (1 : Int32)) hf)
  have b36 : ∀ (v0 : Int32) (v1 : Int64) (v3 : Int32) (v4 : Int32) (s0 : Int32) , fX8_rounded_b36 v0 v1 v3 v4 s0 = some out → G κ (Vp κ) 21 36 [(0, .int v0), (1, .long v1), (3, .int v3), (4, .int v4)] [.int s0] := by
    intro v0 v1 v3 v4 s0 hf
    refine g_istore (pc := 36) (i := 5) (L' := [(5, .int s0), (0, .int v0), (1, .long v1), (3, .int v3), (4, .int v4)]) C dX8_rounded_36 (by decide) rfl ?_
    refine g_iload (pc := 38) (i := 5) (j := 0) C dX8_rounded_38 rfl ?_
    refine g_if_eq (pc := 40) (tgt := 51) C dX8_rounded_40 rfl hf (fun _ hf => ?_) (fun _ hf => ?_)
    · refine g_lload_n (pc := 51) (i := 1) (j := 2) C dX8_rounded_51 rfl rfl ?_
      exact g_at [1, 3, 4, 0] rfl (b52 v0 v3 v4 s0 v1 hf)
    · refine g_lload_n (pc := 43) (i := 1) (j := 2) C dX8_rounded_43 rfl rfl ?_
      refine g_ldc2 (pc := 44) C cnX8_110 dX8_rounded_44 ?_
      refine g_ldiv (pc := 47) C dX8_rounded_47 (by decide) ?_
      refine g_goto (pc := 48) (tgt := 52) C dX8_rounded_48 rfl ?_
      exact g_at [1, 3, 4, 0] rfl (b52 v0 v3 v4 s0 (jldiv v1 (2 : Int64)) hf)
  have b21 : ∀ (v0 : Int32) (v1 : Int64) (v3 : Int32) (s0 : Int32) , fX8_rounded_b21 v0 v1 v3 s0 = some out → G κ (Vp κ) 21 21 [(0, .int v0), (1, .long v1), (3, .int v3)] [.int s0] := by
    intro v0 v1 v3 s0 hf
    refine g_istore (pc := 21) (i := 4) (L' := [(4, .int s0), (0, .int v0), (1, .long v1), (3, .int v3)]) C dX8_rounded_21 (by decide) rfl ?_
    refine g_lload_n (pc := 23) (i := 1) (j := 2) C dX8_rounded_23 rfl rfl ?_
    refine g_ldc2 (pc := 24) C cnX8_112 dX8_rounded_24 ?_
    refine g_lcmp_ne (pc := 27) (tgt := 35) C dX8_rounded_27 dX8_rounded_28 rfl hf (fun _ hf => ?_) (fun _ hf => ?_)
    · refine g_iconst (pc := 35) C dX8_rounded_35 ci_0 ?_
      exact g_at [1, 2, 3, 0] rfl (b36 v0 v1 v3 s0 (0 : Int32) hf)
    · refine g_iconst (pc := 31) C dX8_rounded_31 ci_1 ?_
      refine g_goto (pc := 32) (tgt := 36) C dX8_rounded_32 rfl ?_
      exact g_at [1, 2, 3, 0] rfl (b36 v0 v1 v3 s0 (1 : Int32) hf)
  refine g_lload_n (pc := 0) (i := 1) (j := 1) C dX8_rounded_0 rfl rfl ?_
  refine g_lconst (pc := 1) C dX8_rounded_1 cl_0 ?_
  refine g_lcmp_ne (pc := 2) (tgt := 8) C dX8_rounded_2 dX8_rounded_3 rfl hf (fun _ hf => ?_) (fun _ hf => ?_)
  · refine g_iload_n (pc := 8) (i := 0) (j := 0) C dX8_rounded_8 rfl rfl ?_
    refine g_bipush (pc := 9) C dX8_rounded_9 cb_6 ?_
    refine g_icmp_ne (pc := 11) (tgt := 19) C dX8_rounded_11 rfl hf (fun _ hf => ?_) (fun _ hf => ?_)
    · refine g_bipush (pc := 19) C dX8_rounded_19 cb_53 ?_
      exact b21 p1 p2 p3 (53 : Int32) hf
    · refine g_bipush (pc := 14) C dX8_rounded_14 cb_24 ?_
      refine g_goto (pc := 16) (tgt := 21) C dX8_rounded_16 rfl ?_
      exact b21 p1 p2 p3 (24 : Int32) hf
  · refine g_lconst (pc := 6) C dX8_rounded_6 cl_0 ?_
    exact g_lretp (pc := 7) C hQ dX8_rounded_7 hf
theorem dX8_in_0 : decode cX8_in 0 = .ok (.lload_n 0, 1) := by decide +kernel
theorem dX8_in_1 : decode cX8_in 1 = .ok (.lload_n 2, 1) := by decide +kernel
theorem dX8_in_2 : decode cX8_in 2 = .ok (.lcmp, 1) := by decide +kernel
theorem dX8_in_3 : decode cX8_in 3 = .ok (.ifCond .lt 14, 3) := by decide +kernel
theorem dX8_in_6 : decode cX8_in 6 = .ok (.lload_n 0, 1) := by decide +kernel
theorem dX8_in_7 : decode cX8_in 7 = .ok (.lload 4, 2) := by decide +kernel
theorem dX8_in_9 : decode cX8_in 9 = .ok (.lcmp, 1) := by decide +kernel
theorem dX8_in_10 : decode cX8_in 10 = .ok (.ifCond .gt 7, 3) := by decide +kernel
theorem dX8_in_13 : decode cX8_in 13 = .ok (.iconst 1, 1) := by decide +kernel
theorem dX8_in_14 : decode cX8_in 14 = .ok (.goto 4, 3) := by decide +kernel
theorem dX8_in_17 : decode cX8_in 17 = .ok (.iconst 0, 1) := by decide +kernel
theorem dX8_in_18 : decode cX8_in 18 = .ok (.ireturn, 1) := by decide +kernel
def fX8_in (p1 : Int64) (p2 : Int64) (p3 : Int64) : Option Int32 := (if p1 < p2 then some (0 : Int32) else (if p3 < p1 then some (0 : Int32) else some (1 : Int32)))
set_option maxRecDepth 100000 in
set_option maxHeartbeats 4000000 in
theorem kX8_in (l : Launch) (p1 : Int64) (p2 : Int64) (p3 : Int64) (out : Int32) (hf : fX8_in p1 p2 p3 = some out) : Sq l yX8_in cX8_in 6 (some .boolean) 0 [.long p1, .long p2, .long p3] (some (.int out)) := by
  refine Sq.of [(0, .long p1), (2, .long p2), (4, .long p3)] rfl (by decide +kernel) (Nat.le_of_ble_eq_true rfl) ?_
  intro κ hκ C hQ
  subst hκ
  replace C : Cf κ cX8_in 6 RX8 (some .boolean) 0 := C
  refine g_lload_n (pc := 0) (i := 0) (j := 0) C dX8_in_0 rfl rfl ?_
  refine g_lload_n (pc := 1) (i := 2) (j := 1) C dX8_in_1 rfl rfl ?_
  refine g_lcmp_lt (pc := 2) (tgt := 17) C dX8_in_2 dX8_in_3 rfl hf (fun _ hf => ?_) (fun _ hf => ?_)
  · refine g_iconst (pc := 17) C dX8_in_17 ci_0 ?_
    exact g_zret1p (pc := 18) C rfl hQ dX8_in_18 hf
  · refine g_lload_n (pc := 6) (i := 0) (j := 0) C dX8_in_6 rfl rfl ?_
    refine g_lload (pc := 7) (i := 4) (j := 2) C dX8_in_7 rfl ?_
    refine g_lcmp_gt (pc := 9) (tgt := 17) C dX8_in_9 dX8_in_10 rfl hf (fun _ hf => ?_) (fun _ hf => ?_)
    · refine g_iconst (pc := 17) C dX8_in_17 ci_0 ?_
      exact g_zret1p (pc := 18) C rfl hQ dX8_in_18 hf
    · refine g_iconst (pc := 13) C dX8_in_13 ci_1 ?_
      refine g_goto (pc := 14) (tgt := 18) C dX8_in_14 rfl ?_
      exact g_zret1p (pc := 18) C rfl hQ dX8_in_18 hf
theorem dX8_isSlot_0 : decode cX8_isSlot 0 = .ok (.iload_n 0, 1) := by decide +kernel
theorem dX8_isSlot_1 : decode cX8_isSlot 1 = .ok (.i2l, 1) := by decide +kernel
theorem dX8_isSlot_2 : decode cX8_isSlot 2 = .ok (.lconst 0, 1) := by decide +kernel
theorem dX8_isSlot_3 : decode cX8_isSlot 3 = .ok (.ldc2_w 178, 3) := by decide +kernel
theorem dX8_isSlot_6 : decode cX8_isSlot 6 = .ok (.invokestatic 98, 3) := by decide +kernel
theorem dX8_isSlot_9 : decode cX8_isSlot 9 = .ok (.ireturn, 1) := by decide +kernel
def fX8_isSlot (p1 : Int32) : Option Int32 := ((fX8_in (Int32.toInt64 p1) (0 : Int64) (9 : Int64)).bind fun r6 => (if rbz r6 = true then some r6 else none))
set_option maxRecDepth 100000 in
set_option maxHeartbeats 4000000 in
theorem kX8_isSlot (l : Launch) (p1 : Int32) (out : Int32) (hf : fX8_isSlot p1 = some out) : Sq l yX8_isSlot cX8_isSlot 1 (some .boolean) 1 [.int p1] (some (.int out)) := by
  refine Sq.of [(0, .int p1)] rfl (by decide +kernel) (Nat.le_of_ble_eq_true rfl) ?_
  intro κ hκ C hQ
  subst hκ
  replace C : Cf κ cX8_isSlot 1 RX8 (some .boolean) 1 := C
  refine g_iload_n (pc := 0) (i := 0) (j := 0) C dX8_isSlot_0 rfl rfl ?_
  refine g_i2l (pc := 1) C dX8_isSlot_1 ?_
  refine g_lconst (pc := 2) C dX8_isSlot_2 cl_0 ?_
  refine g_ldc2 (pc := 3) C cnX8_178 dX8_isSlot_3 ?_
  refine g_cpi (pc := 6) (st := []) C lkX8_98 (As := [.long (Int32.toInt64 p1), .long (0 : Int64), .long (9 : Int64)]) rfl (fun out h => kX8_in (kl κ) (Int32.toInt64 p1) (0 : Int64) (9 : Int64) out h) (by decide) rfl (Nat.le_of_ble_eq_true rfl) dX8_isSlot_6 hf (fun r6 _ hf => ?_)
  exact g_zretp (pc := 9) C hQ dX8_isSlot_9 hf
theorem dX8_isPlain_0 : decode cX8_isPlain 0 = .ok (.iload_n 0, 1) := by decide +kernel
theorem dX8_isPlain_1 : decode cX8_isPlain 1 = .ok (.i2l, 1) := by decide +kernel
theorem dX8_isPlain_2 : decode cX8_isPlain 2 = .ok (.lconst 0, 1) := by decide +kernel
theorem dX8_isPlain_3 : decode cX8_isPlain 3 = .ok (.ldc2_w 96, 3) := by decide +kernel
theorem dX8_isPlain_6 : decode cX8_isPlain 6 = .ok (.invokestatic 98, 3) := by decide +kernel
theorem dX8_isPlain_9 : decode cX8_isPlain 9 = .ok (.ireturn, 1) := by decide +kernel
def fX8_isPlain (p1 : Int32) : Option Int32 := ((fX8_in (Int32.toInt64 p1) (0 : Int64) (7 : Int64)).bind fun r6 => (if rbz r6 = true then some r6 else none))
set_option maxRecDepth 100000 in
set_option maxHeartbeats 4000000 in
theorem kX8_isPlain (l : Launch) (p1 : Int32) (out : Int32) (hf : fX8_isPlain p1 = some out) : Sq l yX8_isPlain cX8_isPlain 1 (some .boolean) 1 [.int p1] (some (.int out)) := by
  refine Sq.of [(0, .int p1)] rfl (by decide +kernel) (Nat.le_of_ble_eq_true rfl) ?_
  intro κ hκ C hQ
  subst hκ
  replace C : Cf κ cX8_isPlain 1 RX8 (some .boolean) 1 := C
  refine g_iload_n (pc := 0) (i := 0) (j := 0) C dX8_isPlain_0 rfl rfl ?_
  refine g_i2l (pc := 1) C dX8_isPlain_1 ?_
  refine g_lconst (pc := 2) C dX8_isPlain_2 cl_0 ?_
  refine g_ldc2 (pc := 3) C cnX8_96 dX8_isPlain_3 ?_
  refine g_cpi (pc := 6) (st := []) C lkX8_98 (As := [.long (Int32.toInt64 p1), .long (0 : Int64), .long (7 : Int64)]) rfl (fun out h => kX8_in (kl κ) (Int32.toInt64 p1) (0 : Int64) (7 : Int64) out h) (by decide) rfl (Nat.le_of_ble_eq_true rfl) dX8_isPlain_6 hf (fun r6 _ hf => ?_)
  exact g_zretp (pc := 9) C hQ dX8_isPlain_9 hf
theorem dX8_isWay_0 : decode cX8_isWay 0 = .ok (.iload_n 0, 1) := by decide +kernel
theorem dX8_isWay_1 : decode cX8_isWay 1 = .ok (.i2l, 1) := by decide +kernel
theorem dX8_isWay_2 : decode cX8_isWay 2 = .ok (.lconst 1, 1) := by decide +kernel
theorem dX8_isWay_3 : decode cX8_isWay 3 = .ok (.ldc2_w 370, 3) := by decide +kernel
theorem dX8_isWay_6 : decode cX8_isWay 6 = .ok (.invokestatic 98, 3) := by decide +kernel
theorem dX8_isWay_9 : decode cX8_isWay 9 = .ok (.istore_n 1, 1) := by decide +kernel
theorem dX8_isWay_10 : decode cX8_isWay 10 = .ok (.iload_n 0, 1) := by decide +kernel
theorem dX8_isWay_11 : decode cX8_isWay 11 = .ok (.istore_n 2, 1) := by decide +kernel
theorem dX8_isWay_12 : decode cX8_isWay 12 = .ok (.iload_n 2, 1) := by decide +kernel
theorem dX8_isWay_13 : decode cX8_isWay 13 = .ok (.ifCond .le 36, 3) := by decide +kernel
theorem dX8_isWay_16 : decode cX8_isWay 16 = .ok (.iload_n 1, 1) := by decide +kernel
theorem dX8_isWay_17 : decode cX8_isWay 17 = .ok (.ifCond .eq 22, 3) := by decide +kernel
theorem dX8_isWay_20 : decode cX8_isWay 20 = .ok (.iload_n 2, 1) := by decide +kernel
theorem dX8_isWay_21 : decode cX8_isWay 21 = .ok (.bipush 10, 2) := by decide +kernel
theorem dX8_isWay_23 : decode cX8_isWay 23 = .ok (.irem, 1) := by decide +kernel
theorem dX8_isWay_24 : decode cX8_isWay 24 = .ok (.i2l, 1) := by decide +kernel
theorem dX8_isWay_25 : decode cX8_isWay 25 = .ok (.lconst 1, 1) := by decide +kernel
theorem dX8_isWay_26 : decode cX8_isWay 26 = .ok (.ldc2_w 372, 3) := by decide +kernel
theorem dX8_isWay_29 : decode cX8_isWay 29 = .ok (.invokestatic 98, 3) := by decide +kernel
theorem dX8_isWay_32 : decode cX8_isWay 32 = .ok (.ifCond .eq 7, 3) := by decide +kernel
theorem dX8_isWay_35 : decode cX8_isWay 35 = .ok (.iconst 1, 1) := by decide +kernel
theorem dX8_isWay_36 : decode cX8_isWay 36 = .ok (.goto 4, 3) := by decide +kernel
theorem dX8_isWay_39 : decode cX8_isWay 39 = .ok (.iconst 0, 1) := by decide +kernel
theorem dX8_isWay_40 : decode cX8_isWay 40 = .ok (.istore_n 1, 1) := by decide +kernel
theorem dX8_isWay_41 : decode cX8_isWay 41 = .ok (.iload_n 2, 1) := by decide +kernel
theorem dX8_isWay_42 : decode cX8_isWay 42 = .ok (.bipush 10, 2) := by decide +kernel
theorem dX8_isWay_44 : decode cX8_isWay 44 = .ok (.idiv, 1) := by decide +kernel
theorem dX8_isWay_45 : decode cX8_isWay 45 = .ok (.istore_n 2, 1) := by decide +kernel
theorem dX8_isWay_46 : decode cX8_isWay 46 = .ok (.goto (-34), 3) := by decide +kernel
theorem dX8_isWay_49 : decode cX8_isWay 49 = .ok (.iload_n 1, 1) := by decide +kernel
theorem dX8_isWay_50 : decode cX8_isWay 50 = .ok (.ireturn, 1) := by decide +kernel
def fX8_isWay_b40 (k12 : Int32 → Int32 → Option Int32) (v2 : Int32) (s0 : Int32) : Option Int32 := k12 s0 (jdiv v2 (10 : Int32))
def fX8_isWay_b39 (k12 : Int32 → Int32 → Option Int32) (v2 : Int32) : Option Int32 := fX8_isWay_b40 k12 v2 (0 : Int32)
def fX8_isWay_b12 : Nat → Int32 → Int32 → Option Int32
  | 0, _, _ => none
  | n + 1, v1, v2 => (if v2 ≤ 0 then (if rbz v1 = true then some v1 else none) else (if v1 = 0 then fX8_isWay_b39 (fX8_isWay_b12 n) v2 else ((fX8_in (Int32.toInt64 (jrem v2 (10 : Int32))) (1 : Int64) (8 : Int64)).bind fun r29 => (if r29 = 0 then fX8_isWay_b39 (fX8_isWay_b12 n) v2 else fX8_isWay_b40 (fX8_isWay_b12 n) v2 (1 : Int32)))))
def fX8_isWay (p1 : Int32) : Option Int32 := ((fX8_in (Int32.toInt64 p1) (1 : Int64) (888888 : Int64)).bind fun r6 => fX8_isWay_b12 100 r6 p1)
set_option maxRecDepth 100000 in
set_option maxHeartbeats 4000000 in
theorem kX8_isWay (l : Launch) (p1 : Int32) (out : Int32) (hf : fX8_isWay p1 = some out) : Sq l yX8_isWay cX8_isWay 3 (some .boolean) 1 [.int p1] (some (.int out)) := by
  refine Sq.of [(0, .int p1)] rfl (by decide +kernel) (Nat.le_of_ble_eq_true rfl) ?_
  intro κ hκ C hQ
  subst hκ
  replace C : Cf κ cX8_isWay 3 RX8 (some .boolean) 1 := C
  have b40 : ∀ (k12 : Int32 → Int32 → Option Int32) (hk12 : ∀ (v1 : Int32) (v2 : Int32) , k12 v1 v2 = some out → G κ (Vp κ) 3 12 [(1, .int v1), (2, .int v2)] []) (v2 : Int32) (s0 : Int32) , fX8_isWay_b40 k12 v2 s0 = some out → G κ (Vp κ) 3 40 [(2, .int v2)] [.int s0] := by
    intro k12 hk12 v2 s0 hf
    refine g_istore_n (pc := 40) (i := 1) (L' := [(1, .int s0), (2, .int v2)]) C dX8_isWay_40 rfl (by decide) rfl ?_
    refine g_iload_n (pc := 41) (i := 2) (j := 1) C dX8_isWay_41 rfl rfl ?_
    refine g_bipush (pc := 42) C dX8_isWay_42 cb_10 ?_
    refine g_idiv (pc := 44) C dX8_isWay_44 (by decide) ?_
    refine g_istore_n (pc := 45) (i := 2) (L' := [(2, .int (jdiv v2 (10 : Int32))), (1, .int s0)]) C dX8_isWay_45 rfl (by decide) rfl ?_
    refine g_goto (pc := 46) (tgt := 12) C dX8_isWay_46 rfl ?_
    exact g_at [1, 0] rfl (hk12 s0 (jdiv v2 (10 : Int32)) hf)
  have b39 : ∀ (k12 : Int32 → Int32 → Option Int32) (hk12 : ∀ (v1 : Int32) (v2 : Int32) , k12 v1 v2 = some out → G κ (Vp κ) 3 12 [(1, .int v1), (2, .int v2)] []) (v2 : Int32) , fX8_isWay_b39 k12 v2 = some out → G κ (Vp κ) 3 39 [(2, .int v2)] [] := by
    intro k12 hk12 v2 hf
    refine g_iconst (pc := 39) C dX8_isWay_39 ci_0 ?_
    exact b40 k12 hk12 v2 (0 : Int32) hf
  have b12 : ∀ (n : Nat) (v1 : Int32) (v2 : Int32) , fX8_isWay_b12 n v1 v2 = some out → G κ (Vp κ) 3 12 [(1, .int v1), (2, .int v2)] [] := by
    intro n
    induction n with
    | zero => intro v1 v2 hf; exact none_ne hf
    | succ n ih =>
      intro v1 v2 hf
      refine g_iload_n (pc := 12) (i := 2) (j := 1) C dX8_isWay_12 rfl rfl ?_
      refine g_if_le (pc := 13) (tgt := 49) C dX8_isWay_13 rfl hf (fun _ hf => ?_) (fun _ hf => ?_)
      · refine g_iload_n (pc := 49) (i := 1) (j := 0) C dX8_isWay_49 rfl rfl ?_
        exact g_zretp (pc := 50) C hQ dX8_isWay_50 hf
      · refine g_iload_n (pc := 16) (i := 1) (j := 0) C dX8_isWay_16 rfl rfl ?_
        refine g_if_eq (pc := 17) (tgt := 39) C dX8_isWay_17 rfl hf (fun _ hf => ?_) (fun _ hf => ?_)
        · exact g_at [1] rfl (b39 (fX8_isWay_b12 n) ih v2 hf)
        · refine g_iload_n (pc := 20) (i := 2) (j := 1) C dX8_isWay_20 rfl rfl ?_
          refine g_bipush (pc := 21) C dX8_isWay_21 cb_10 ?_
          refine g_irem (pc := 23) C dX8_isWay_23 (by decide) ?_
          refine g_i2l (pc := 24) C dX8_isWay_24 ?_
          refine g_lconst (pc := 25) C dX8_isWay_25 cl_1 ?_
          refine g_ldc2 (pc := 26) C cnX8_372 dX8_isWay_26 ?_
          refine g_cpi (pc := 29) (st := []) C lkX8_98 (As := [.long (Int32.toInt64 (jrem v2 (10 : Int32))), .long (1 : Int64), .long (8 : Int64)]) rfl (fun out h => kX8_in (kl κ) (Int32.toInt64 (jrem v2 (10 : Int32))) (1 : Int64) (8 : Int64) out h) (by decide) rfl (Nat.le_of_ble_eq_true rfl) dX8_isWay_29 hf (fun r29 _ hf => ?_)
          refine g_if_eq (pc := 32) (tgt := 39) C dX8_isWay_32 rfl hf (fun _ hf => ?_) (fun _ hf => ?_)
          · exact g_at [1] rfl (b39 (fX8_isWay_b12 n) ih v2 hf)
          · refine g_iconst (pc := 35) C dX8_isWay_35 ci_1 ?_
            refine g_goto (pc := 36) (tgt := 40) C dX8_isWay_36 rfl ?_
            exact g_at [1] rfl (b40 (fX8_isWay_b12 n) ih v2 (1 : Int32) hf)
  refine g_iload_n (pc := 0) (i := 0) (j := 0) C dX8_isWay_0 rfl rfl ?_
  refine g_i2l (pc := 1) C dX8_isWay_1 ?_
  refine g_lconst (pc := 2) C dX8_isWay_2 cl_1 ?_
  refine g_ldc2 (pc := 3) C cnX8_370 dX8_isWay_3 ?_
  refine g_cpi (pc := 6) (st := []) C lkX8_98 (As := [.long (Int32.toInt64 p1), .long (1 : Int64), .long (888888 : Int64)]) rfl (fun out h => kX8_in (kl κ) (Int32.toInt64 p1) (1 : Int64) (888888 : Int64) out h) (by decide) rfl (Nat.le_of_ble_eq_true rfl) dX8_isWay_6 hf (fun r6 _ hf => ?_)
  refine g_istore_n (pc := 9) (i := 1) (L' := [(1, .int r6), (0, .int p1)]) C dX8_isWay_9 rfl (by decide) rfl ?_
  refine g_iload_n (pc := 10) (i := 0) (j := 1) C dX8_isWay_10 rfl rfl ?_
  refine g_istore_n (pc := 11) (i := 2) (L' := [(2, .int p1), (1, .int r6), (0, .int p1)]) C dX8_isWay_11 rfl (by decide) rfl ?_
  exact g_at [1, 0] rfl (b12 100 r6 p1 hf)
theorem dX8_fits_0 : decode cX8_fits 0 = .ok (.iload_n 0, 1) := by decide +kernel
theorem dX8_fits_1 : decode cX8_fits 1 = .ok (.tableswitch 84 0 4 #[35, 42, 53, 62, 73], 35) := by decide +kernel
theorem dX8_fits_36 : decode cX8_fits 36 = .ok (.lload_n 1, 1) := by decide +kernel
theorem dX8_fits_37 : decode cX8_fits 37 = .ok (.lconst 0, 1) := by decide +kernel
theorem dX8_fits_38 : decode cX8_fits 38 = .ok (.lconst 1, 1) := by decide +kernel
theorem dX8_fits_39 : decode cX8_fits 39 = .ok (.invokestatic 98, 3) := by decide +kernel
theorem dX8_fits_42 : decode cX8_fits 42 = .ok (.ireturn, 1) := by decide +kernel
theorem dX8_fits_43 : decode cX8_fits 43 = .ok (.lload_n 1, 1) := by decide +kernel
theorem dX8_fits_44 : decode cX8_fits 44 = .ok (.ldc2_w 118, 3) := by decide +kernel
theorem dX8_fits_47 : decode cX8_fits 47 = .ok (.ldc2_w 120, 3) := by decide +kernel
theorem dX8_fits_50 : decode cX8_fits 50 = .ok (.invokestatic 98, 3) := by decide +kernel
theorem dX8_fits_53 : decode cX8_fits 53 = .ok (.ireturn, 1) := by decide +kernel
theorem dX8_fits_54 : decode cX8_fits 54 = .ok (.lload_n 1, 1) := by decide +kernel
theorem dX8_fits_55 : decode cX8_fits 55 = .ok (.lconst 0, 1) := by decide +kernel
theorem dX8_fits_56 : decode cX8_fits 56 = .ok (.ldc2_w 122, 3) := by decide +kernel
theorem dX8_fits_59 : decode cX8_fits 59 = .ok (.invokestatic 98, 3) := by decide +kernel
theorem dX8_fits_62 : decode cX8_fits 62 = .ok (.ireturn, 1) := by decide +kernel
theorem dX8_fits_63 : decode cX8_fits 63 = .ok (.lload_n 1, 1) := by decide +kernel
theorem dX8_fits_64 : decode cX8_fits 64 = .ok (.ldc2_w 124, 3) := by decide +kernel
theorem dX8_fits_67 : decode cX8_fits 67 = .ok (.ldc2_w 126, 3) := by decide +kernel
theorem dX8_fits_70 : decode cX8_fits 70 = .ok (.invokestatic 98, 3) := by decide +kernel
theorem dX8_fits_73 : decode cX8_fits 73 = .ok (.ireturn, 1) := by decide +kernel
theorem dX8_fits_74 : decode cX8_fits 74 = .ok (.lload_n 1, 1) := by decide +kernel
theorem dX8_fits_75 : decode cX8_fits 75 = .ok (.ldc2_w 128, 3) := by decide +kernel
theorem dX8_fits_78 : decode cX8_fits 78 = .ok (.ldc2_w 130, 3) := by decide +kernel
theorem dX8_fits_81 : decode cX8_fits 81 = .ok (.invokestatic 98, 3) := by decide +kernel
theorem dX8_fits_84 : decode cX8_fits 84 = .ok (.ireturn, 1) := by decide +kernel
theorem dX8_fits_85 : decode cX8_fits 85 = .ok (.iconst 1, 1) := by decide +kernel
theorem dX8_fits_86 : decode cX8_fits 86 = .ok (.ireturn, 1) := by decide +kernel
def fX8_fits (p1 : Int32) (p2 : Int64) : Option Int32 := (if p1 = 0 then ((fX8_in p2 (0 : Int64) (1 : Int64)).bind fun r39 => (if rbz r39 = true then some r39 else none)) else (if p1 = 1 then ((fX8_in p2 (-128 : Int64) (127 : Int64)).bind fun r50 => (if rbz r50 = true then some r50 else none)) else (if p1 = 2 then ((fX8_in p2 (0 : Int64) (65535 : Int64)).bind fun r59 => (if rbz r59 = true then some r59 else none)) else (if p1 = 3 then ((fX8_in p2 (-32768 : Int64) (32767 : Int64)).bind fun r70 => (if rbz r70 = true then some r70 else none)) else (if p1 = 4 then ((fX8_in p2 (-2147483648 : Int64) (2147483647 : Int64)).bind fun r81 => (if rbz r81 = true then some r81 else none)) else some (1 : Int32))))))
set_option maxRecDepth 100000 in
set_option maxHeartbeats 4000000 in
theorem kX8_fits (l : Launch) (p1 : Int32) (p2 : Int64) (out : Int32) (hf : fX8_fits p1 p2 = some out) : Sq l yX8_fits cX8_fits 3 (some .boolean) 1 [.int p1, .long p2] (some (.int out)) := by
  refine Sq.of [(0, .int p1), (1, .long p2)] rfl (by decide +kernel) (Nat.le_of_ble_eq_true rfl) ?_
  intro κ hκ C hQ
  subst hκ
  replace C : Cf κ cX8_fits 3 RX8 (some .boolean) 1 := C
  refine g_iload_n (pc := 0) (i := 0) (j := 0) C dX8_fits_0 rfl rfl ?_
  by_cases h1_0 : p1 = 0
  · replace hf := ite_t h1_0 hf
    refine g_tabIn (pc := 1) (v := 0) (off := 35) (tgt := 36) C dX8_fits_1 h1_0 (by decide) rfl ?_
    refine g_lload_n (pc := 36) (i := 1) (j := 1) C dX8_fits_36 rfl rfl ?_
    refine g_lconst (pc := 37) C dX8_fits_37 cl_0 ?_
    refine g_lconst (pc := 38) C dX8_fits_38 cl_1 ?_
    refine g_cpi (pc := 39) (st := []) C lkX8_98 (As := [.long p2, .long (0 : Int64), .long (1 : Int64)]) rfl (fun out h => kX8_in (kl κ) p2 (0 : Int64) (1 : Int64) out h) (by decide) rfl (Nat.le_of_ble_eq_true rfl) dX8_fits_39 hf (fun r39 _ hf => ?_)
    exact g_zretp (pc := 42) C hQ dX8_fits_42 hf
  replace hf := ite_f h1_0 hf
  by_cases h1_1 : p1 = 1
  · replace hf := ite_t h1_1 hf
    refine g_tabIn (pc := 1) (v := 1) (off := 42) (tgt := 43) C dX8_fits_1 h1_1 (by decide) rfl ?_
    refine g_lload_n (pc := 43) (i := 1) (j := 1) C dX8_fits_43 rfl rfl ?_
    refine g_ldc2 (pc := 44) C cnX8_118 dX8_fits_44 ?_
    refine g_ldc2 (pc := 47) C cnX8_120 dX8_fits_47 ?_
    refine g_cpi (pc := 50) (st := []) C lkX8_98 (As := [.long p2, .long (-128 : Int64), .long (127 : Int64)]) rfl (fun out h => kX8_in (kl κ) p2 (-128 : Int64) (127 : Int64) out h) (by decide) rfl (Nat.le_of_ble_eq_true rfl) dX8_fits_50 hf (fun r50 _ hf => ?_)
    exact g_zretp (pc := 53) C hQ dX8_fits_53 hf
  replace hf := ite_f h1_1 hf
  by_cases h1_2 : p1 = 2
  · replace hf := ite_t h1_2 hf
    refine g_tabIn (pc := 1) (v := 2) (off := 53) (tgt := 54) C dX8_fits_1 h1_2 (by decide) rfl ?_
    refine g_lload_n (pc := 54) (i := 1) (j := 1) C dX8_fits_54 rfl rfl ?_
    refine g_lconst (pc := 55) C dX8_fits_55 cl_0 ?_
    refine g_ldc2 (pc := 56) C cnX8_122 dX8_fits_56 ?_
    refine g_cpi (pc := 59) (st := []) C lkX8_98 (As := [.long p2, .long (0 : Int64), .long (65535 : Int64)]) rfl (fun out h => kX8_in (kl κ) p2 (0 : Int64) (65535 : Int64) out h) (by decide) rfl (Nat.le_of_ble_eq_true rfl) dX8_fits_59 hf (fun r59 _ hf => ?_)
    exact g_zretp (pc := 62) C hQ dX8_fits_62 hf
  replace hf := ite_f h1_2 hf
  by_cases h1_3 : p1 = 3
  · replace hf := ite_t h1_3 hf
    refine g_tabIn (pc := 1) (v := 3) (off := 62) (tgt := 63) C dX8_fits_1 h1_3 (by decide) rfl ?_
    refine g_lload_n (pc := 63) (i := 1) (j := 1) C dX8_fits_63 rfl rfl ?_
    refine g_ldc2 (pc := 64) C cnX8_124 dX8_fits_64 ?_
    refine g_ldc2 (pc := 67) C cnX8_126 dX8_fits_67 ?_
    refine g_cpi (pc := 70) (st := []) C lkX8_98 (As := [.long p2, .long (-32768 : Int64), .long (32767 : Int64)]) rfl (fun out h => kX8_in (kl κ) p2 (-32768 : Int64) (32767 : Int64) out h) (by decide) rfl (Nat.le_of_ble_eq_true rfl) dX8_fits_70 hf (fun r70 _ hf => ?_)
    exact g_zretp (pc := 73) C hQ dX8_fits_73 hf
  replace hf := ite_f h1_3 hf
  by_cases h1_4 : p1 = 4
  · replace hf := ite_t h1_4 hf
    refine g_tabIn (pc := 1) (v := 4) (off := 73) (tgt := 74) C dX8_fits_1 h1_4 (by decide) rfl ?_
    refine g_lload_n (pc := 74) (i := 1) (j := 1) C dX8_fits_74 rfl rfl ?_
    refine g_ldc2 (pc := 75) C cnX8_128 dX8_fits_75 ?_
    refine g_ldc2 (pc := 78) C cnX8_130 dX8_fits_78 ?_
    refine g_cpi (pc := 81) (st := []) C lkX8_98 (As := [.long p2, .long (-2147483648 : Int64), .long (2147483647 : Int64)]) rfl (fun out h => kX8_in (kl κ) p2 (-2147483648 : Int64) (2147483647 : Int64) out h) (by decide) rfl (Nat.le_of_ble_eq_true rfl) dX8_fits_81 hf (fun r81 _ hf => ?_)
    exact g_zretp (pc := 84) C hQ dX8_fits_84 hf
  replace hf := ite_f h1_4 hf
  have e1_0 := i32_ne (n := 0) h1_0 (by decide)
  have e1_1 := i32_ne (n := 1) h1_1 (by decide)
  have e1_2 := i32_ne (n := 2) h1_2 (by decide)
  have e1_3 := i32_ne (n := 3) h1_3 (by decide)
  have e1_4 := i32_ne (n := 4) h1_4 (by decide)
  refine g_tabOut (pc := 1) (tgt := 85) C dX8_fits_1 (by omega) rfl ?_
  refine g_iconst (pc := 85) C dX8_fits_85 ci_1 ?_
  exact g_zret1p (pc := 86) C rfl hQ dX8_fits_86 hf
theorem dX8_takeFrom_0 : decode cX8_takeFrom 0 = .ok (.iload_n 0, 1) := by decide +kernel
theorem dX8_takeFrom_1 : decode cX8_takeFrom 1 = .ok (.invokestatic 198, 3) := by decide +kernel
theorem dX8_takeFrom_4 : decode cX8_takeFrom 4 = .ok (.ifCond .ne 7, 3) := by decide +kernel
theorem dX8_takeFrom_7 : decode cX8_takeFrom 7 = .ok (.iconst 4, 1) := by decide +kernel
theorem dX8_takeFrom_8 : decode cX8_takeFrom 8 = .ok (.goto 16, 3) := by decide +kernel
theorem dX8_takeFrom_11 : decode cX8_takeFrom 11 = .ok (.iload_n 0, 1) := by decide +kernel
theorem dX8_takeFrom_12 : decode cX8_takeFrom 12 = .ok (.iload_n 1, 1) := by decide +kernel
theorem dX8_takeFrom_13 : decode cX8_takeFrom 13 = .ok (.invokestatic 313, 3) := by decide +kernel
theorem dX8_takeFrom_16 : decode cX8_takeFrom 16 = .ok (.ifCond .eq 7, 3) := by decide +kernel
theorem dX8_takeFrom_19 : decode cX8_takeFrom 19 = .ok (.iconst 0, 1) := by decide +kernel
theorem dX8_takeFrom_20 : decode cX8_takeFrom 20 = .ok (.goto 4, 3) := by decide +kernel
theorem dX8_takeFrom_23 : decode cX8_takeFrom 23 = .ok (.iconst 2, 1) := by decide +kernel
theorem dX8_takeFrom_24 : decode cX8_takeFrom 24 = .ok (.ireturn, 1) := by decide +kernel
def fX8_takeFrom (p1 : Int32) (p2 : Int32) : Option Int32 := ((fX8_isPlain p1).bind fun r1 => (if r1 = 0 then some (4 : Int32) else ((fX8_widens p1 p2).bind fun r13 => (if r13 = 0 then some (2 : Int32) else some (0 : Int32)))))
set_option maxRecDepth 100000 in
set_option maxHeartbeats 4000000 in
theorem kX8_takeFrom (l : Launch) (p1 : Int32) (p2 : Int32) (out : Int32) (hf : fX8_takeFrom p1 p2 = some out) : Sq l yX8_takeFrom cX8_takeFrom 2 (some .int) 2 [.int p1, .int p2] (some (.int out)) := by
  refine Sq.of [(0, .int p1), (1, .int p2)] rfl (by decide +kernel) (Nat.le_of_ble_eq_true rfl) ?_
  intro κ hκ C hQ
  subst hκ
  replace C : Cf κ cX8_takeFrom 2 RX8 (some .int) 2 := C
  refine g_iload_n (pc := 0) (i := 0) (j := 0) C dX8_takeFrom_0 rfl rfl ?_
  refine g_cpi (pc := 1) (st := []) C lkX8_198 (As := [.int p1]) rfl (fun out h => kX8_isPlain (kl κ) p1 out h) (by decide) rfl (Nat.le_of_ble_eq_true rfl) dX8_takeFrom_1 hf (fun r1 _ hf => ?_)
  refine g_if_ne (pc := 4) (tgt := 11) C dX8_takeFrom_4 rfl hf (fun _ hf => ?_) (fun _ hf => ?_)
  · refine g_iload_n (pc := 11) (i := 0) (j := 0) C dX8_takeFrom_11 rfl rfl ?_
    refine g_iload_n (pc := 12) (i := 1) (j := 1) C dX8_takeFrom_12 rfl rfl ?_
    refine g_cpi (pc := 13) (st := []) C lkX8_313 (As := [.int p1, .int p2]) rfl (fun out h => kX8_widens (kl κ) p1 p2 out h) (by decide) rfl (Nat.le_of_ble_eq_true rfl) dX8_takeFrom_13 hf (fun r13 _ hf => ?_)
    refine g_if_eq (pc := 16) (tgt := 23) C dX8_takeFrom_16 rfl hf (fun _ hf => ?_) (fun _ hf => ?_)
    · refine g_iconst (pc := 23) C dX8_takeFrom_23 ci_2 ?_
      exact g_iretp (pc := 24) C hQ dX8_takeFrom_24 hf
    · refine g_iconst (pc := 19) C dX8_takeFrom_19 ci_0 ?_
      refine g_goto (pc := 20) (tgt := 24) C dX8_takeFrom_20 rfl ?_
      exact g_iretp (pc := 24) C hQ dX8_takeFrom_24 hf
  · refine g_iconst (pc := 7) C dX8_takeFrom_7 ci_4 ?_
    refine g_goto (pc := 8) (tgt := 24) C dX8_takeFrom_8 rfl ?_
    exact g_iretp (pc := 24) C hQ dX8_takeFrom_24 hf
theorem dX8_plainOf_0 : decode cX8_plainOf 0 = .ok (.iload_n 0, 1) := by decide +kernel
theorem dX8_plainOf_1 : decode cX8_plainOf 1 = .ok (.tableswitch 133 98 122 #[117, 119, 130, 133, 127, 133, 133, 123, 125, 133, 133, 133, 133, 133, 133, 133, 133, 121, 133, 133, 133, 133, 133, 133, 115], 115) := by decide +kernel
theorem dX8_plainOf_116 : decode cX8_plainOf 116 = .ok (.iconst 0, 1) := by decide +kernel
theorem dX8_plainOf_117 : decode cX8_plainOf 117 = .ok (.ireturn, 1) := by decide +kernel
theorem dX8_plainOf_118 : decode cX8_plainOf 118 = .ok (.iconst 1, 1) := by decide +kernel
theorem dX8_plainOf_119 : decode cX8_plainOf 119 = .ok (.ireturn, 1) := by decide +kernel
theorem dX8_plainOf_120 : decode cX8_plainOf 120 = .ok (.iconst 2, 1) := by decide +kernel
theorem dX8_plainOf_121 : decode cX8_plainOf 121 = .ok (.ireturn, 1) := by decide +kernel
theorem dX8_plainOf_122 : decode cX8_plainOf 122 = .ok (.iconst 3, 1) := by decide +kernel
theorem dX8_plainOf_123 : decode cX8_plainOf 123 = .ok (.ireturn, 1) := by decide +kernel
theorem dX8_plainOf_124 : decode cX8_plainOf 124 = .ok (.iconst 4, 1) := by decide +kernel
theorem dX8_plainOf_125 : decode cX8_plainOf 125 = .ok (.ireturn, 1) := by decide +kernel
theorem dX8_plainOf_126 : decode cX8_plainOf 126 = .ok (.iconst 5, 1) := by decide +kernel
theorem dX8_plainOf_127 : decode cX8_plainOf 127 = .ok (.ireturn, 1) := by decide +kernel
theorem dX8_plainOf_128 : decode cX8_plainOf 128 = .ok (.bipush 6, 2) := by decide +kernel
theorem dX8_plainOf_130 : decode cX8_plainOf 130 = .ok (.ireturn, 1) := by decide +kernel
theorem dX8_plainOf_131 : decode cX8_plainOf 131 = .ok (.bipush 7, 2) := by decide +kernel
theorem dX8_plainOf_133 : decode cX8_plainOf 133 = .ok (.ireturn, 1) := by decide +kernel
theorem dX8_plainOf_134 : decode cX8_plainOf 134 = .ok (.bipush (-9), 2) := by decide +kernel
theorem dX8_plainOf_136 : decode cX8_plainOf 136 = .ok (.ireturn, 1) := by decide +kernel
def fX8_plainOf (p1 : Int32) : Option Int32 := (if p1 = 98 then some (1 : Int32) else (if p1 = 99 then some (2 : Int32) else (if p1 = 100 then some (7 : Int32) else (if p1 = 101 then some (-9 : Int32) else (if p1 = 102 then some (6 : Int32) else (if p1 = 103 then some (-9 : Int32) else (if p1 = 104 then some (-9 : Int32) else (if p1 = 105 then some (4 : Int32) else (if p1 = 106 then some (5 : Int32) else (if p1 = 107 then some (-9 : Int32) else (if p1 = 108 then some (-9 : Int32) else (if p1 = 109 then some (-9 : Int32) else (if p1 = 110 then some (-9 : Int32) else (if p1 = 111 then some (-9 : Int32) else (if p1 = 112 then some (-9 : Int32) else (if p1 = 113 then some (-9 : Int32) else (if p1 = 114 then some (-9 : Int32) else (if p1 = 115 then some (3 : Int32) else (if p1 = 116 then some (-9 : Int32) else (if p1 = 117 then some (-9 : Int32) else (if p1 = 118 then some (-9 : Int32) else (if p1 = 119 then some (-9 : Int32) else (if p1 = 120 then some (-9 : Int32) else (if p1 = 121 then some (-9 : Int32) else (if p1 = 122 then some (0 : Int32) else some (-9 : Int32))))))))))))))))))))))))))
set_option maxRecDepth 100000 in
set_option maxHeartbeats 4000000 in
theorem kX8_plainOf (l : Launch) (p1 : Int32) (out : Int32) (hf : fX8_plainOf p1 = some out) : Sq l yX8_plainOf cX8_plainOf 1 (some .int) 0 [.int p1] (some (.int out)) := by
  refine Sq.of [(0, .int p1)] rfl (by decide +kernel) (Nat.le_of_ble_eq_true rfl) ?_
  intro κ hκ C hQ
  subst hκ
  replace C : Cf κ cX8_plainOf 1 RX8 (some .int) 0 := C
  refine g_iload_n (pc := 0) (i := 0) (j := 0) C dX8_plainOf_0 rfl rfl ?_
  by_cases h1_0 : p1 = 98
  · replace hf := ite_t h1_0 hf
    refine g_tabIn (pc := 1) (v := 98) (off := 117) (tgt := 118) C dX8_plainOf_1 h1_0 (by decide) rfl ?_
    refine g_iconst (pc := 118) C dX8_plainOf_118 ci_1 ?_
    exact g_iretp (pc := 119) C hQ dX8_plainOf_119 hf
  replace hf := ite_f h1_0 hf
  by_cases h1_1 : p1 = 99
  · replace hf := ite_t h1_1 hf
    refine g_tabIn (pc := 1) (v := 99) (off := 119) (tgt := 120) C dX8_plainOf_1 h1_1 (by decide) rfl ?_
    refine g_iconst (pc := 120) C dX8_plainOf_120 ci_2 ?_
    exact g_iretp (pc := 121) C hQ dX8_plainOf_121 hf
  replace hf := ite_f h1_1 hf
  by_cases h1_2 : p1 = 100
  · replace hf := ite_t h1_2 hf
    refine g_tabIn (pc := 1) (v := 100) (off := 130) (tgt := 131) C dX8_plainOf_1 h1_2 (by decide) rfl ?_
    refine g_bipush (pc := 131) C dX8_plainOf_131 cb_7 ?_
    exact g_iretp (pc := 133) C hQ dX8_plainOf_133 hf
  replace hf := ite_f h1_2 hf
  by_cases h1_3 : p1 = 101
  · replace hf := ite_t h1_3 hf
    refine g_tabIn (pc := 1) (v := 101) (off := 133) (tgt := 134) C dX8_plainOf_1 h1_3 (by decide) rfl ?_
    refine g_bipush (pc := 134) C dX8_plainOf_134 cb_m9 ?_
    exact g_iretp (pc := 136) C hQ dX8_plainOf_136 hf
  replace hf := ite_f h1_3 hf
  by_cases h1_4 : p1 = 102
  · replace hf := ite_t h1_4 hf
    refine g_tabIn (pc := 1) (v := 102) (off := 127) (tgt := 128) C dX8_plainOf_1 h1_4 (by decide) rfl ?_
    refine g_bipush (pc := 128) C dX8_plainOf_128 cb_6 ?_
    exact g_iretp (pc := 130) C hQ dX8_plainOf_130 hf
  replace hf := ite_f h1_4 hf
  by_cases h1_5 : p1 = 103
  · replace hf := ite_t h1_5 hf
    refine g_tabIn (pc := 1) (v := 103) (off := 133) (tgt := 134) C dX8_plainOf_1 h1_5 (by decide) rfl ?_
    refine g_bipush (pc := 134) C dX8_plainOf_134 cb_m9 ?_
    exact g_iretp (pc := 136) C hQ dX8_plainOf_136 hf
  replace hf := ite_f h1_5 hf
  by_cases h1_6 : p1 = 104
  · replace hf := ite_t h1_6 hf
    refine g_tabIn (pc := 1) (v := 104) (off := 133) (tgt := 134) C dX8_plainOf_1 h1_6 (by decide) rfl ?_
    refine g_bipush (pc := 134) C dX8_plainOf_134 cb_m9 ?_
    exact g_iretp (pc := 136) C hQ dX8_plainOf_136 hf
  replace hf := ite_f h1_6 hf
  by_cases h1_7 : p1 = 105
  · replace hf := ite_t h1_7 hf
    refine g_tabIn (pc := 1) (v := 105) (off := 123) (tgt := 124) C dX8_plainOf_1 h1_7 (by decide) rfl ?_
    refine g_iconst (pc := 124) C dX8_plainOf_124 ci_4 ?_
    exact g_iretp (pc := 125) C hQ dX8_plainOf_125 hf
  replace hf := ite_f h1_7 hf
  by_cases h1_8 : p1 = 106
  · replace hf := ite_t h1_8 hf
    refine g_tabIn (pc := 1) (v := 106) (off := 125) (tgt := 126) C dX8_plainOf_1 h1_8 (by decide) rfl ?_
    refine g_iconst (pc := 126) C dX8_plainOf_126 ci_5 ?_
    exact g_iretp (pc := 127) C hQ dX8_plainOf_127 hf
  replace hf := ite_f h1_8 hf
  by_cases h1_9 : p1 = 107
  · replace hf := ite_t h1_9 hf
    refine g_tabIn (pc := 1) (v := 107) (off := 133) (tgt := 134) C dX8_plainOf_1 h1_9 (by decide) rfl ?_
    refine g_bipush (pc := 134) C dX8_plainOf_134 cb_m9 ?_
    exact g_iretp (pc := 136) C hQ dX8_plainOf_136 hf
  replace hf := ite_f h1_9 hf
  by_cases h1_10 : p1 = 108
  · replace hf := ite_t h1_10 hf
    refine g_tabIn (pc := 1) (v := 108) (off := 133) (tgt := 134) C dX8_plainOf_1 h1_10 (by decide) rfl ?_
    refine g_bipush (pc := 134) C dX8_plainOf_134 cb_m9 ?_
    exact g_iretp (pc := 136) C hQ dX8_plainOf_136 hf
  replace hf := ite_f h1_10 hf
  by_cases h1_11 : p1 = 109
  · replace hf := ite_t h1_11 hf
    refine g_tabIn (pc := 1) (v := 109) (off := 133) (tgt := 134) C dX8_plainOf_1 h1_11 (by decide) rfl ?_
    refine g_bipush (pc := 134) C dX8_plainOf_134 cb_m9 ?_
    exact g_iretp (pc := 136) C hQ dX8_plainOf_136 hf
  replace hf := ite_f h1_11 hf
  by_cases h1_12 : p1 = 110
  · replace hf := ite_t h1_12 hf
    refine g_tabIn (pc := 1) (v := 110) (off := 133) (tgt := 134) C dX8_plainOf_1 h1_12 (by decide) rfl ?_
    refine g_bipush (pc := 134) C dX8_plainOf_134 cb_m9 ?_
    exact g_iretp (pc := 136) C hQ dX8_plainOf_136 hf
  replace hf := ite_f h1_12 hf
  by_cases h1_13 : p1 = 111
  · replace hf := ite_t h1_13 hf
    refine g_tabIn (pc := 1) (v := 111) (off := 133) (tgt := 134) C dX8_plainOf_1 h1_13 (by decide) rfl ?_
    refine g_bipush (pc := 134) C dX8_plainOf_134 cb_m9 ?_
    exact g_iretp (pc := 136) C hQ dX8_plainOf_136 hf
  replace hf := ite_f h1_13 hf
  by_cases h1_14 : p1 = 112
  · replace hf := ite_t h1_14 hf
    refine g_tabIn (pc := 1) (v := 112) (off := 133) (tgt := 134) C dX8_plainOf_1 h1_14 (by decide) rfl ?_
    refine g_bipush (pc := 134) C dX8_plainOf_134 cb_m9 ?_
    exact g_iretp (pc := 136) C hQ dX8_plainOf_136 hf
  replace hf := ite_f h1_14 hf
  by_cases h1_15 : p1 = 113
  · replace hf := ite_t h1_15 hf
    refine g_tabIn (pc := 1) (v := 113) (off := 133) (tgt := 134) C dX8_plainOf_1 h1_15 (by decide) rfl ?_
    refine g_bipush (pc := 134) C dX8_plainOf_134 cb_m9 ?_
    exact g_iretp (pc := 136) C hQ dX8_plainOf_136 hf
  replace hf := ite_f h1_15 hf
  by_cases h1_16 : p1 = 114
  · replace hf := ite_t h1_16 hf
    refine g_tabIn (pc := 1) (v := 114) (off := 133) (tgt := 134) C dX8_plainOf_1 h1_16 (by decide) rfl ?_
    refine g_bipush (pc := 134) C dX8_plainOf_134 cb_m9 ?_
    exact g_iretp (pc := 136) C hQ dX8_plainOf_136 hf
  replace hf := ite_f h1_16 hf
  by_cases h1_17 : p1 = 115
  · replace hf := ite_t h1_17 hf
    refine g_tabIn (pc := 1) (v := 115) (off := 121) (tgt := 122) C dX8_plainOf_1 h1_17 (by decide) rfl ?_
    refine g_iconst (pc := 122) C dX8_plainOf_122 ci_3 ?_
    exact g_iretp (pc := 123) C hQ dX8_plainOf_123 hf
  replace hf := ite_f h1_17 hf
  by_cases h1_18 : p1 = 116
  · replace hf := ite_t h1_18 hf
    refine g_tabIn (pc := 1) (v := 116) (off := 133) (tgt := 134) C dX8_plainOf_1 h1_18 (by decide) rfl ?_
    refine g_bipush (pc := 134) C dX8_plainOf_134 cb_m9 ?_
    exact g_iretp (pc := 136) C hQ dX8_plainOf_136 hf
  replace hf := ite_f h1_18 hf
  by_cases h1_19 : p1 = 117
  · replace hf := ite_t h1_19 hf
    refine g_tabIn (pc := 1) (v := 117) (off := 133) (tgt := 134) C dX8_plainOf_1 h1_19 (by decide) rfl ?_
    refine g_bipush (pc := 134) C dX8_plainOf_134 cb_m9 ?_
    exact g_iretp (pc := 136) C hQ dX8_plainOf_136 hf
  replace hf := ite_f h1_19 hf
  by_cases h1_20 : p1 = 118
  · replace hf := ite_t h1_20 hf
    refine g_tabIn (pc := 1) (v := 118) (off := 133) (tgt := 134) C dX8_plainOf_1 h1_20 (by decide) rfl ?_
    refine g_bipush (pc := 134) C dX8_plainOf_134 cb_m9 ?_
    exact g_iretp (pc := 136) C hQ dX8_plainOf_136 hf
  replace hf := ite_f h1_20 hf
  by_cases h1_21 : p1 = 119
  · replace hf := ite_t h1_21 hf
    refine g_tabIn (pc := 1) (v := 119) (off := 133) (tgt := 134) C dX8_plainOf_1 h1_21 (by decide) rfl ?_
    refine g_bipush (pc := 134) C dX8_plainOf_134 cb_m9 ?_
    exact g_iretp (pc := 136) C hQ dX8_plainOf_136 hf
  replace hf := ite_f h1_21 hf
  by_cases h1_22 : p1 = 120
  · replace hf := ite_t h1_22 hf
    refine g_tabIn (pc := 1) (v := 120) (off := 133) (tgt := 134) C dX8_plainOf_1 h1_22 (by decide) rfl ?_
    refine g_bipush (pc := 134) C dX8_plainOf_134 cb_m9 ?_
    exact g_iretp (pc := 136) C hQ dX8_plainOf_136 hf
  replace hf := ite_f h1_22 hf
  by_cases h1_23 : p1 = 121
  · replace hf := ite_t h1_23 hf
    refine g_tabIn (pc := 1) (v := 121) (off := 133) (tgt := 134) C dX8_plainOf_1 h1_23 (by decide) rfl ?_
    refine g_bipush (pc := 134) C dX8_plainOf_134 cb_m9 ?_
    exact g_iretp (pc := 136) C hQ dX8_plainOf_136 hf
  replace hf := ite_f h1_23 hf
  by_cases h1_24 : p1 = 122
  · replace hf := ite_t h1_24 hf
    refine g_tabIn (pc := 1) (v := 122) (off := 115) (tgt := 116) C dX8_plainOf_1 h1_24 (by decide) rfl ?_
    refine g_iconst (pc := 116) C dX8_plainOf_116 ci_0 ?_
    exact g_iretp (pc := 117) C hQ dX8_plainOf_117 hf
  replace hf := ite_f h1_24 hf
  have e1_0 := i32_ne (n := 98) h1_0 (by decide)
  have e1_1 := i32_ne (n := 99) h1_1 (by decide)
  have e1_2 := i32_ne (n := 100) h1_2 (by decide)
  have e1_3 := i32_ne (n := 101) h1_3 (by decide)
  have e1_4 := i32_ne (n := 102) h1_4 (by decide)
  have e1_5 := i32_ne (n := 103) h1_5 (by decide)
  have e1_6 := i32_ne (n := 104) h1_6 (by decide)
  have e1_7 := i32_ne (n := 105) h1_7 (by decide)
  have e1_8 := i32_ne (n := 106) h1_8 (by decide)
  have e1_9 := i32_ne (n := 107) h1_9 (by decide)
  have e1_10 := i32_ne (n := 108) h1_10 (by decide)
  have e1_11 := i32_ne (n := 109) h1_11 (by decide)
  have e1_12 := i32_ne (n := 110) h1_12 (by decide)
  have e1_13 := i32_ne (n := 111) h1_13 (by decide)
  have e1_14 := i32_ne (n := 112) h1_14 (by decide)
  have e1_15 := i32_ne (n := 113) h1_15 (by decide)
  have e1_16 := i32_ne (n := 114) h1_16 (by decide)
  have e1_17 := i32_ne (n := 115) h1_17 (by decide)
  have e1_18 := i32_ne (n := 116) h1_18 (by decide)
  have e1_19 := i32_ne (n := 117) h1_19 (by decide)
  have e1_20 := i32_ne (n := 118) h1_20 (by decide)
  have e1_21 := i32_ne (n := 119) h1_21 (by decide)
  have e1_22 := i32_ne (n := 120) h1_22 (by decide)
  have e1_23 := i32_ne (n := 121) h1_23 (by decide)
  have e1_24 := i32_ne (n := 122) h1_24 (by decide)
  refine g_tabOut (pc := 1) (tgt := 134) C dX8_plainOf_1 (by omega) rfl ?_
  refine g_bipush (pc := 134) C dX8_plainOf_134 cb_m9 ?_
  exact g_iretp (pc := 136) C hQ dX8_plainOf_136 hf
theorem dX8_isNumber_0 : decode cX8_isNumber 0 = .ok (.iload_n 0, 1) := by decide +kernel
theorem dX8_isNumber_1 : decode cX8_isNumber 1 = .ok (.bipush 10, 2) := by decide +kernel
theorem dX8_isNumber_3 : decode cX8_isNumber 3 = .ok (.if_icmp .ne 14, 3) := by decide +kernel
theorem dX8_isNumber_6 : decode cX8_isNumber 6 = .ok (.lload_n 1, 1) := by decide +kernel
theorem dX8_isNumber_7 : decode cX8_isNumber 7 = .ok (.lconst 0, 1) := by decide +kernel
theorem dX8_isNumber_8 : decode cX8_isNumber 8 = .ok (.ldc2_w 190, 3) := by decide +kernel
theorem dX8_isNumber_11 : decode cX8_isNumber 11 = .ok (.invokestatic 98, 3) := by decide +kernel
theorem dX8_isNumber_14 : decode cX8_isNumber 14 = .ok (.goto 8, 3) := by decide +kernel
theorem dX8_isNumber_17 : decode cX8_isNumber 17 = .ok (.iload_n 0, 1) := by decide +kernel
theorem dX8_isNumber_18 : decode cX8_isNumber 18 = .ok (.lload_n 1, 1) := by decide +kernel
theorem dX8_isNumber_19 : decode cX8_isNumber 19 = .ok (.invokestatic 158, 3) := by decide +kernel
theorem dX8_isNumber_22 : decode cX8_isNumber 22 = .ok (.ireturn, 1) := by decide +kernel
def fX8_isNumber (p1 : Int32) (p2 : Int64) : Option Int32 := (if p1 = (10 : Int32) then ((fX8_in p2 (0 : Int64) (9999 : Int64)).bind fun r11 => (if rbz r11 = true then some r11 else none)) else ((fX8_fits p1 p2).bind fun r19 => (if rbz r19 = true then some r19 else none)))
set_option maxRecDepth 100000 in
set_option maxHeartbeats 4000000 in
theorem kX8_isNumber (l : Launch) (p1 : Int32) (p2 : Int64) (out : Int32) (hf : fX8_isNumber p1 p2 = some out) : Sq l yX8_isNumber cX8_isNumber 3 (some .boolean) 2 [.int p1, .long p2] (some (.int out)) := by
  refine Sq.of [(0, .int p1), (1, .long p2)] rfl (by decide +kernel) (Nat.le_of_ble_eq_true rfl) ?_
  intro κ hκ C hQ
  subst hκ
  replace C : Cf κ cX8_isNumber 3 RX8 (some .boolean) 2 := C
  refine g_iload_n (pc := 0) (i := 0) (j := 0) C dX8_isNumber_0 rfl rfl ?_
  refine g_bipush (pc := 1) C dX8_isNumber_1 cb_10 ?_
  refine g_icmp_ne (pc := 3) (tgt := 17) C dX8_isNumber_3 rfl hf (fun _ hf => ?_) (fun _ hf => ?_)
  · refine g_iload_n (pc := 17) (i := 0) (j := 0) C dX8_isNumber_17 rfl rfl ?_
    refine g_lload_n (pc := 18) (i := 1) (j := 1) C dX8_isNumber_18 rfl rfl ?_
    refine g_cpi (pc := 19) (st := []) C lkX8_158 (As := [.int p1, .long p2]) rfl (fun out h => kX8_fits (kl κ) p1 p2 out h) (by decide) rfl (Nat.le_of_ble_eq_true rfl) dX8_isNumber_19 hf (fun r19 _ hf => ?_)
    exact g_zretp (pc := 22) C hQ dX8_isNumber_22 hf
  · refine g_lload_n (pc := 6) (i := 1) (j := 1) C dX8_isNumber_6 rfl rfl ?_
    refine g_lconst (pc := 7) C dX8_isNumber_7 cl_0 ?_
    refine g_ldc2 (pc := 8) C cnX8_190 dX8_isNumber_8 ?_
    refine g_cpi (pc := 11) (st := []) C lkX8_98 (As := [.long p2, .long (0 : Int64), .long (9999 : Int64)]) rfl (fun out h => kX8_in (kl κ) p2 (0 : Int64) (9999 : Int64) out h) (by decide) rfl (Nat.le_of_ble_eq_true rfl) dX8_isNumber_11 hf (fun r11 _ hf => ?_)
    refine g_goto (pc := 14) (tgt := 22) C dX8_isNumber_14 rfl ?_
    exact g_zretp (pc := 22) C hQ dX8_isNumber_22 hf
theorem dX8_toldOf_0 : decode cX8_toldOf 0 = .ok (.iload_n 0, 1) := by decide +kernel
theorem dX8_toldOf_1 : decode cX8_toldOf 1 = .ok (.bipush 6, 2) := by decide +kernel
theorem dX8_toldOf_3 : decode cX8_toldOf 3 = .ok (.if_icmp .lt 12, 3) := by decide +kernel
theorem dX8_toldOf_6 : decode cX8_toldOf 6 = .ok (.iload_n 0, 1) := by decide +kernel
theorem dX8_toldOf_7 : decode cX8_toldOf 7 = .ok (.lload_n 1, 1) := by decide +kernel
theorem dX8_toldOf_8 : decode cX8_toldOf 8 = .ok (.iconst 0, 1) := by decide +kernel
theorem dX8_toldOf_9 : decode cX8_toldOf 9 = .ok (.invokestatic 136, 3) := by decide +kernel
theorem dX8_toldOf_12 : decode cX8_toldOf 12 = .ok (.goto 4, 3) := by decide +kernel
theorem dX8_toldOf_15 : decode cX8_toldOf 15 = .ok (.lload_n 1, 1) := by decide +kernel
theorem dX8_toldOf_16 : decode cX8_toldOf 16 = .ok (.lreturn, 1) := by decide +kernel
def fX8_toldOf (p1 : Int32) (p2 : Int64) : Option Int64 := (if p1 < (6 : Int32) then some p2 else ((fX8_rounded p1 p2 (0 : Int32)).bind fun r9 => some r9))
set_option maxRecDepth 100000 in
set_option maxHeartbeats 4000000 in
theorem kX8_toldOf (l : Launch) (p1 : Int32) (p2 : Int64) (out : Int64) (hf : fX8_toldOf p1 p2 = some out) : Sq l yX8_toldOf cX8_toldOf 3 (some .long) 2 [.int p1, .long p2] (some (.long out)) := by
  refine Sq.of [(0, .int p1), (1, .long p2)] rfl (by decide +kernel) (Nat.le_of_ble_eq_true rfl) ?_
  intro κ hκ C hQ
  subst hκ
  replace C : Cf κ cX8_toldOf 3 RX8 (some .long) 2 := C
  refine g_iload_n (pc := 0) (i := 0) (j := 0) C dX8_toldOf_0 rfl rfl ?_
  refine g_bipush (pc := 1) C dX8_toldOf_1 cb_6 ?_
  refine g_icmp_lt (pc := 3) (tgt := 15) C dX8_toldOf_3 rfl hf (fun _ hf => ?_) (fun _ hf => ?_)
  · refine g_lload_n (pc := 15) (i := 1) (j := 1) C dX8_toldOf_15 rfl rfl ?_
    exact g_lretp (pc := 16) C hQ dX8_toldOf_16 hf
  · refine g_iload_n (pc := 6) (i := 0) (j := 0) C dX8_toldOf_6 rfl rfl ?_
    refine g_lload_n (pc := 7) (i := 1) (j := 1) C dX8_toldOf_7 rfl rfl ?_
    refine g_iconst (pc := 8) C dX8_toldOf_8 ci_0 ?_
    refine g_cpl (pc := 9) (st := []) C lkX8_136 (As := [.int p1, .long p2, .int (0 : Int32)]) rfl (fun out h => kX8_rounded (kl κ) p1 p2 (0 : Int32) out h) (by decide) rfl (Nat.le_of_ble_eq_true rfl) dX8_toldOf_9 hf (fun r9 _ hf => ?_)
    refine g_goto (pc := 12) (tgt := 16) C dX8_toldOf_12 rfl ?_
    exact g_lretp (pc := 16) C hQ dX8_toldOf_16 hf
theorem dX8_rowKindOf_0 : decode cX8_rowKindOf 0 = .ok (.iload_n 0, 1) := by decide +kernel
theorem dX8_rowKindOf_1 : decode cX8_rowKindOf 1 = .ok (.bipush 116, 2) := by decide +kernel
theorem dX8_rowKindOf_3 : decode cX8_rowKindOf 3 = .ok (.if_icmp .ne 8, 3) := by decide +kernel
theorem dX8_rowKindOf_6 : decode cX8_rowKindOf 6 = .ok (.bipush 10, 2) := by decide +kernel
theorem dX8_rowKindOf_8 : decode cX8_rowKindOf 8 = .ok (.goto 29, 3) := by decide +kernel
theorem dX8_rowKindOf_11 : decode cX8_rowKindOf 11 = .ok (.iload_n 0, 1) := by decide +kernel
theorem dX8_rowKindOf_12 : decode cX8_rowKindOf 12 = .ok (.bipush 119, 2) := by decide +kernel
theorem dX8_rowKindOf_14 : decode cX8_rowKindOf 14 = .ok (.if_icmp .ne 8, 3) := by decide +kernel
theorem dX8_rowKindOf_17 : decode cX8_rowKindOf 17 = .ok (.bipush 11, 2) := by decide +kernel
theorem dX8_rowKindOf_19 : decode cX8_rowKindOf 19 = .ok (.goto 18, 3) := by decide +kernel
theorem dX8_rowKindOf_22 : decode cX8_rowKindOf 22 = .ok (.iload_n 0, 1) := by decide +kernel
theorem dX8_rowKindOf_23 : decode cX8_rowKindOf 23 = .ok (.bipush 111, 2) := by decide +kernel
theorem dX8_rowKindOf_25 : decode cX8_rowKindOf 25 = .ok (.if_icmp .ne 8, 3) := by decide +kernel
theorem dX8_rowKindOf_28 : decode cX8_rowKindOf 28 = .ok (.bipush 12, 2) := by decide +kernel
theorem dX8_rowKindOf_30 : decode cX8_rowKindOf 30 = .ok (.goto 7, 3) := by decide +kernel
theorem dX8_rowKindOf_33 : decode cX8_rowKindOf 33 = .ok (.iload_n 0, 1) := by decide +kernel
theorem dX8_rowKindOf_34 : decode cX8_rowKindOf 34 = .ok (.invokestatic 165, 3) := by decide +kernel
theorem dX8_rowKindOf_37 : decode cX8_rowKindOf 37 = .ok (.ireturn, 1) := by decide +kernel
def fX8_rowKindOf (p1 : Int32) : Option Int32 := (if p1 = (116 : Int32) then some (10 : Int32) else (if p1 = (119 : Int32) then some (11 : Int32) else (if p1 = (111 : Int32) then some (12 : Int32) else ((fX8_plainOf p1).bind fun r34 => some r34))))
set_option maxRecDepth 100000 in
set_option maxHeartbeats 4000000 in
theorem kX8_rowKindOf (l : Launch) (p1 : Int32) (out : Int32) (hf : fX8_rowKindOf p1 = some out) : Sq l yX8_rowKindOf cX8_rowKindOf 1 (some .int) 1 [.int p1] (some (.int out)) := by
  refine Sq.of [(0, .int p1)] rfl (by decide +kernel) (Nat.le_of_ble_eq_true rfl) ?_
  intro κ hκ C hQ
  subst hκ
  replace C : Cf κ cX8_rowKindOf 1 RX8 (some .int) 1 := C
  refine g_iload_n (pc := 0) (i := 0) (j := 0) C dX8_rowKindOf_0 rfl rfl ?_
  refine g_bipush (pc := 1) C dX8_rowKindOf_1 cb_116 ?_
  refine g_icmp_ne (pc := 3) (tgt := 11) C dX8_rowKindOf_3 rfl hf (fun _ hf => ?_) (fun _ hf => ?_)
  · refine g_iload_n (pc := 11) (i := 0) (j := 0) C dX8_rowKindOf_11 rfl rfl ?_
    refine g_bipush (pc := 12) C dX8_rowKindOf_12 cb_119 ?_
    refine g_icmp_ne (pc := 14) (tgt := 22) C dX8_rowKindOf_14 rfl hf (fun _ hf => ?_) (fun _ hf => ?_)
    · refine g_iload_n (pc := 22) (i := 0) (j := 0) C dX8_rowKindOf_22 rfl rfl ?_
      refine g_bipush (pc := 23) C dX8_rowKindOf_23 cb_111 ?_
      refine g_icmp_ne (pc := 25) (tgt := 33) C dX8_rowKindOf_25 rfl hf (fun _ hf => ?_) (fun _ hf => ?_)
      · refine g_iload_n (pc := 33) (i := 0) (j := 0) C dX8_rowKindOf_33 rfl rfl ?_
        refine g_cpi (pc := 34) (st := []) C lkX8_165 (As := [.int p1]) rfl (fun out h => kX8_plainOf (kl κ) p1 out h) (by decide) rfl (Nat.le_of_ble_eq_true rfl) dX8_rowKindOf_34 hf (fun r34 _ hf => ?_)
        exact g_iretp (pc := 37) C hQ dX8_rowKindOf_37 hf
      · refine g_bipush (pc := 28) C dX8_rowKindOf_28 cb_12 ?_
        refine g_goto (pc := 30) (tgt := 37) C dX8_rowKindOf_30 rfl ?_
        exact g_iretp (pc := 37) C hQ dX8_rowKindOf_37 hf
    · refine g_bipush (pc := 17) C dX8_rowKindOf_17 cb_11 ?_
      refine g_goto (pc := 19) (tgt := 37) C dX8_rowKindOf_19 rfl ?_
      exact g_iretp (pc := 37) C hQ dX8_rowKindOf_37 hf
  · refine g_bipush (pc := 6) C dX8_rowKindOf_6 cb_10 ?_
    refine g_goto (pc := 8) (tgt := 37) C dX8_rowKindOf_8 rfl ?_
    exact g_iretp (pc := 37) C hQ dX8_rowKindOf_37 hf
theorem dX8_given_0 : decode cX8_given 0 = .ok (.iload_n 0, 1) := by decide +kernel
theorem dX8_given_1 : decode cX8_given 1 = .ok (.tableswitch 123 0 5 #[39, 43, 67, 73, 97, 121], 39) := by decide +kernel
theorem dX8_given_40 : decode cX8_given 40 = .ok (.lload_n 1, 1) := by decide +kernel
theorem dX8_given_41 : decode cX8_given 41 = .ok (.lconst 1, 1) := by decide +kernel
theorem dX8_given_42 : decode cX8_given 42 = .ok (.land, 1) := by decide +kernel
theorem dX8_given_43 : decode cX8_given 43 = .ok (.lreturn, 1) := by decide +kernel
theorem dX8_given_44 : decode cX8_given 44 = .ok (.lload_n 1, 1) := by decide +kernel
theorem dX8_given_45 : decode cX8_given 45 = .ok (.ldc2_w 140, 3) := by decide +kernel
theorem dX8_given_48 : decode cX8_given 48 = .ok (.land, 1) := by decide +kernel
theorem dX8_given_49 : decode cX8_given 49 = .ok (.lload_n 1, 1) := by decide +kernel
theorem dX8_given_50 : decode cX8_given 50 = .ok (.ldc2_w 142, 3) := by decide +kernel
theorem dX8_given_53 : decode cX8_given 53 = .ok (.land, 1) := by decide +kernel
theorem dX8_given_54 : decode cX8_given 54 = .ok (.lconst 0, 1) := by decide +kernel
theorem dX8_given_55 : decode cX8_given 55 = .ok (.lcmp, 1) := by decide +kernel
theorem dX8_given_56 : decode cX8_given 56 = .ok (.ifCond .ne 7, 3) := by decide +kernel
theorem dX8_given_59 : decode cX8_given 59 = .ok (.lconst 0, 1) := by decide +kernel
theorem dX8_given_60 : decode cX8_given 60 = .ok (.goto 6, 3) := by decide +kernel
theorem dX8_given_63 : decode cX8_given 63 = .ok (.ldc2_w 144, 3) := by decide +kernel
theorem dX8_given_66 : decode cX8_given 66 = .ok (.lsub, 1) := by decide +kernel
theorem dX8_given_67 : decode cX8_given 67 = .ok (.lreturn, 1) := by decide +kernel
theorem dX8_given_68 : decode cX8_given 68 = .ok (.lload_n 1, 1) := by decide +kernel
theorem dX8_given_69 : decode cX8_given 69 = .ok (.ldc2_w 122, 3) := by decide +kernel
theorem dX8_given_72 : decode cX8_given 72 = .ok (.land, 1) := by decide +kernel
theorem dX8_given_73 : decode cX8_given 73 = .ok (.lreturn, 1) := by decide +kernel
theorem dX8_given_74 : decode cX8_given 74 = .ok (.lload_n 1, 1) := by decide +kernel
theorem dX8_given_75 : decode cX8_given 75 = .ok (.ldc2_w 122, 3) := by decide +kernel
theorem dX8_given_78 : decode cX8_given 78 = .ok (.land, 1) := by decide +kernel
theorem dX8_given_79 : decode cX8_given 79 = .ok (.lload_n 1, 1) := by decide +kernel
theorem dX8_given_80 : decode cX8_given 80 = .ok (.ldc2_w 146, 3) := by decide +kernel
theorem dX8_given_83 : decode cX8_given 83 = .ok (.land, 1) := by decide +kernel
theorem dX8_given_84 : decode cX8_given 84 = .ok (.lconst 0, 1) := by decide +kernel
theorem dX8_given_85 : decode cX8_given 85 = .ok (.lcmp, 1) := by decide +kernel
theorem dX8_given_86 : decode cX8_given 86 = .ok (.ifCond .ne 7, 3) := by decide +kernel
theorem dX8_given_89 : decode cX8_given 89 = .ok (.lconst 0, 1) := by decide +kernel
theorem dX8_given_90 : decode cX8_given 90 = .ok (.goto 6, 3) := by decide +kernel
theorem dX8_given_93 : decode cX8_given 93 = .ok (.ldc2_w 148, 3) := by decide +kernel
theorem dX8_given_96 : decode cX8_given 96 = .ok (.lsub, 1) := by decide +kernel
theorem dX8_given_97 : decode cX8_given 97 = .ok (.lreturn, 1) := by decide +kernel
theorem dX8_given_98 : decode cX8_given 98 = .ok (.lload_n 1, 1) := by decide +kernel
theorem dX8_given_99 : decode cX8_given 99 = .ok (.ldc2_w 150, 3) := by decide +kernel
theorem dX8_given_102 : decode cX8_given 102 = .ok (.land, 1) := by decide +kernel
theorem dX8_given_103 : decode cX8_given 103 = .ok (.lload_n 1, 1) := by decide +kernel
theorem dX8_given_104 : decode cX8_given 104 = .ok (.ldc2_w 152, 3) := by decide +kernel
theorem dX8_given_107 : decode cX8_given 107 = .ok (.land, 1) := by decide +kernel
theorem dX8_given_108 : decode cX8_given 108 = .ok (.lconst 0, 1) := by decide +kernel
theorem dX8_given_109 : decode cX8_given 109 = .ok (.lcmp, 1) := by decide +kernel
theorem dX8_given_110 : decode cX8_given 110 = .ok (.ifCond .ne 7, 3) := by decide +kernel
theorem dX8_given_113 : decode cX8_given 113 = .ok (.lconst 0, 1) := by decide +kernel
theorem dX8_given_114 : decode cX8_given 114 = .ok (.goto 6, 3) := by decide +kernel
theorem dX8_given_117 : decode cX8_given 117 = .ok (.ldc2_w 154, 3) := by decide +kernel
theorem dX8_given_120 : decode cX8_given 120 = .ok (.lsub, 1) := by decide +kernel
theorem dX8_given_121 : decode cX8_given 121 = .ok (.lreturn, 1) := by decide +kernel
theorem dX8_given_122 : decode cX8_given 122 = .ok (.lload_n 1, 1) := by decide +kernel
theorem dX8_given_123 : decode cX8_given 123 = .ok (.lreturn, 1) := by decide +kernel
theorem dX8_given_124 : decode cX8_given 124 = .ok (.iload_n 0, 1) := by decide +kernel
theorem dX8_given_125 : decode cX8_given 125 = .ok (.lload_n 1, 1) := by decide +kernel
theorem dX8_given_126 : decode cX8_given 126 = .ok (.bipush (-3), 2) := by decide +kernel
theorem dX8_given_128 : decode cX8_given 128 = .ok (.invokestatic 136, 3) := by decide +kernel
theorem dX8_given_131 : decode cX8_given 131 = .ok (.lreturn, 1) := by decide +kernel
def fX8_given (p1 : Int32) (p2 : Int64) : Option Int64 := (if p1 = 0 then some (p2 &&& (1 : Int64)) else (if p1 = 1 then (if (p2 &&& (128 : Int64)) = (0 : Int64) then some ((p2 &&& (255 : Int64)) - (0 : Int64)) else some ((p2 &&& (255 : Int64)) - (256 : Int64))) else (if p1 = 2 then some (p2 &&& (65535 : Int64)) else (if p1 = 3 then (if (p2 &&& (32768 : Int64)) = (0 : Int64) then some ((p2 &&& (65535 : Int64)) - (0 : Int64)) else some ((p2 &&& (65535 : Int64)) - (65536 : Int64))) else (if p1 = 4 then (if (p2 &&& (2147483648 : Int64)) = (0 : Int64) then some ((p2 &&& (4294967295 : Int64)) - (0 : Int64)) else some ((p2 &&& (4294967295 : Int64)) - (4294967296 : Int64))) else (if p1 = 5 then some p2 else ((fX8_rounded p1 p2 (-3 : Int32)).bind fun r128 => some r128)))))))
set_option maxRecDepth 100000 in
set_option maxHeartbeats 4000000 in
theorem kX8_given (l : Launch) (p1 : Int32) (p2 : Int64) (out : Int64) (hf : fX8_given p1 p2 = some out) : Sq l yX8_given cX8_given 3 (some .long) 2 [.int p1, .long p2] (some (.long out)) := by
  refine Sq.of [(0, .int p1), (1, .long p2)] rfl (by decide +kernel) (Nat.le_of_ble_eq_true rfl) ?_
  intro κ hκ C hQ
  subst hκ
  replace C : Cf κ cX8_given 3 RX8 (some .long) 2 := C
  refine g_iload_n (pc := 0) (i := 0) (j := 0) C dX8_given_0 rfl rfl ?_
  by_cases h1_0 : p1 = 0
  · replace hf := ite_t h1_0 hf
    refine g_tabIn (pc := 1) (v := 0) (off := 39) (tgt := 40) C dX8_given_1 h1_0 (by decide) rfl ?_
    refine g_lload_n (pc := 40) (i := 1) (j := 1) C dX8_given_40 rfl rfl ?_
    refine g_lconst (pc := 41) C dX8_given_41 cl_1 ?_
    refine g_land (pc := 42) C dX8_given_42 ?_
    exact g_lretp (pc := 43) C hQ dX8_given_43 hf
  replace hf := ite_f h1_0 hf
  by_cases h1_1 : p1 = 1
  · replace hf := ite_t h1_1 hf
    refine g_tabIn (pc := 1) (v := 1) (off := 43) (tgt := 44) C dX8_given_1 h1_1 (by decide) rfl ?_
    refine g_lload_n (pc := 44) (i := 1) (j := 1) C dX8_given_44 rfl rfl ?_
    refine g_ldc2 (pc := 45) C cnX8_140 dX8_given_45 ?_
    refine g_land (pc := 48) C dX8_given_48 ?_
    refine g_lload_n (pc := 49) (i := 1) (j := 1) C dX8_given_49 rfl rfl ?_
    refine g_ldc2 (pc := 50) C cnX8_142 dX8_given_50 ?_
    refine g_land (pc := 53) C dX8_given_53 ?_
    refine g_lconst (pc := 54) C dX8_given_54 cl_0 ?_
    refine g_lcmp_ne (pc := 55) (tgt := 63) C dX8_given_55 dX8_given_56 rfl hf (fun _ hf => ?_) (fun _ hf => ?_)
    · refine g_ldc2 (pc := 63) C cnX8_144 dX8_given_63 ?_
      refine g_lsub (pc := 66) C dX8_given_66 ?_
      exact g_lretp (pc := 67) C hQ dX8_given_67 hf
    · refine g_lconst (pc := 59) C dX8_given_59 cl_0 ?_
      refine g_goto (pc := 60) (tgt := 66) C dX8_given_60 rfl ?_
      refine g_lsub (pc := 66) C dX8_given_66 ?_
      exact g_lretp (pc := 67) C hQ dX8_given_67 hf
  replace hf := ite_f h1_1 hf
  by_cases h1_2 : p1 = 2
  · replace hf := ite_t h1_2 hf
    refine g_tabIn (pc := 1) (v := 2) (off := 67) (tgt := 68) C dX8_given_1 h1_2 (by decide) rfl ?_
    refine g_lload_n (pc := 68) (i := 1) (j := 1) C dX8_given_68 rfl rfl ?_
    refine g_ldc2 (pc := 69) C cnX8_122 dX8_given_69 ?_
    refine g_land (pc := 72) C dX8_given_72 ?_
    exact g_lretp (pc := 73) C hQ dX8_given_73 hf
  replace hf := ite_f h1_2 hf
  by_cases h1_3 : p1 = 3
  · replace hf := ite_t h1_3 hf
    refine g_tabIn (pc := 1) (v := 3) (off := 73) (tgt := 74) C dX8_given_1 h1_3 (by decide) rfl ?_
    refine g_lload_n (pc := 74) (i := 1) (j := 1) C dX8_given_74 rfl rfl ?_
    refine g_ldc2 (pc := 75) C cnX8_122 dX8_given_75 ?_
    refine g_land (pc := 78) C dX8_given_78 ?_
    refine g_lload_n (pc := 79) (i := 1) (j := 1) C dX8_given_79 rfl rfl ?_
    refine g_ldc2 (pc := 80) C cnX8_146 dX8_given_80 ?_
    refine g_land (pc := 83) C dX8_given_83 ?_
    refine g_lconst (pc := 84) C dX8_given_84 cl_0 ?_
    refine g_lcmp_ne (pc := 85) (tgt := 93) C dX8_given_85 dX8_given_86 rfl hf (fun _ hf => ?_) (fun _ hf => ?_)
    · refine g_ldc2 (pc := 93) C cnX8_148 dX8_given_93 ?_
      refine g_lsub (pc := 96) C dX8_given_96 ?_
      exact g_lretp (pc := 97) C hQ dX8_given_97 hf
    · refine g_lconst (pc := 89) C dX8_given_89 cl_0 ?_
      refine g_goto (pc := 90) (tgt := 96) C dX8_given_90 rfl ?_
      refine g_lsub (pc := 96) C dX8_given_96 ?_
      exact g_lretp (pc := 97) C hQ dX8_given_97 hf
  replace hf := ite_f h1_3 hf
  by_cases h1_4 : p1 = 4
  · replace hf := ite_t h1_4 hf
    refine g_tabIn (pc := 1) (v := 4) (off := 97) (tgt := 98) C dX8_given_1 h1_4 (by decide) rfl ?_
    refine g_lload_n (pc := 98) (i := 1) (j := 1) C dX8_given_98 rfl rfl ?_
    refine g_ldc2 (pc := 99) C cnX8_150 dX8_given_99 ?_
    refine g_land (pc := 102) C dX8_given_102 ?_
    refine g_lload_n (pc := 103) (i := 1) (j := 1) C dX8_given_103 rfl rfl ?_
    refine g_ldc2 (pc := 104) C cnX8_152 dX8_given_104 ?_
    refine g_land (pc := 107) C dX8_given_107 ?_
    refine g_lconst (pc := 108) C dX8_given_108 cl_0 ?_
    refine g_lcmp_ne (pc := 109) (tgt := 117) C dX8_given_109 dX8_given_110 rfl hf (fun _ hf => ?_) (fun _ hf => ?_)
    · refine g_ldc2 (pc := 117) C cnX8_154 dX8_given_117 ?_
      refine g_lsub (pc := 120) C dX8_given_120 ?_
      exact g_lretp (pc := 121) C hQ dX8_given_121 hf
    · refine g_lconst (pc := 113) C dX8_given_113 cl_0 ?_
      refine g_goto (pc := 114) (tgt := 120) C dX8_given_114 rfl ?_
      refine g_lsub (pc := 120) C dX8_given_120 ?_
      exact g_lretp (pc := 121) C hQ dX8_given_121 hf
  replace hf := ite_f h1_4 hf
  by_cases h1_5 : p1 = 5
  · replace hf := ite_t h1_5 hf
    refine g_tabIn (pc := 1) (v := 5) (off := 121) (tgt := 122) C dX8_given_1 h1_5 (by decide) rfl ?_
    refine g_lload_n (pc := 122) (i := 1) (j := 1) C dX8_given_122 rfl rfl ?_
    exact g_lretp (pc := 123) C hQ dX8_given_123 hf
  replace hf := ite_f h1_5 hf
  have e1_0 := i32_ne (n := 0) h1_0 (by decide)
  have e1_1 := i32_ne (n := 1) h1_1 (by decide)
  have e1_2 := i32_ne (n := 2) h1_2 (by decide)
  have e1_3 := i32_ne (n := 3) h1_3 (by decide)
  have e1_4 := i32_ne (n := 4) h1_4 (by decide)
  have e1_5 := i32_ne (n := 5) h1_5 (by decide)
  refine g_tabOut (pc := 1) (tgt := 124) C dX8_given_1 (by omega) rfl ?_
  refine g_iload_n (pc := 124) (i := 0) (j := 0) C dX8_given_124 rfl rfl ?_
  refine g_lload_n (pc := 125) (i := 1) (j := 1) C dX8_given_125 rfl rfl ?_
  refine g_bipush (pc := 126) C dX8_given_126 cb_m3 ?_
  refine g_cpl (pc := 128) (st := []) C lkX8_136 (As := [.int p1, .long p2, .int (-3 : Int32)]) rfl (fun out h => kX8_rounded (kl κ) p1 p2 (-3 : Int32) out h) (by decide) rfl (Nat.le_of_ble_eq_true rfl) dX8_given_128 hf (fun r128 _ hf => ?_)
  exact g_lretp (pc := 131) C hQ dX8_given_131 hf
theorem dX8_has_0 : decode cX8_has 0 = .ok (.iload_n 0, 1) := by decide +kernel
theorem dX8_has_1 : decode cX8_has 1 = .ok (.iload_n 1, 1) := by decide +kernel
theorem dX8_has_2 : decode cX8_has 2 = .ok (.ishr, 1) := by decide +kernel
theorem dX8_has_3 : decode cX8_has 3 = .ok (.iconst 1, 1) := by decide +kernel
theorem dX8_has_4 : decode cX8_has 4 = .ok (.iand, 1) := by decide +kernel
theorem dX8_has_5 : decode cX8_has 5 = .ok (.iconst 1, 1) := by decide +kernel
theorem dX8_has_6 : decode cX8_has 6 = .ok (.if_icmp .ne 7, 3) := by decide +kernel
theorem dX8_has_9 : decode cX8_has 9 = .ok (.iconst 1, 1) := by decide +kernel
theorem dX8_has_10 : decode cX8_has 10 = .ok (.goto 4, 3) := by decide +kernel
theorem dX8_has_13 : decode cX8_has 13 = .ok (.iconst 0, 1) := by decide +kernel
theorem dX8_has_14 : decode cX8_has 14 = .ok (.ireturn, 1) := by decide +kernel
def fX8_has (p1 : Int32) (p2 : Int32) : Option Int32 := (if ((jshr p1 p2) &&& (1 : Int32)) = (1 : Int32) then some (1 : Int32) else some (0 : Int32))
set_option maxRecDepth 100000 in
set_option maxHeartbeats 4000000 in
theorem kX8_has (l : Launch) (p1 : Int32) (p2 : Int32) (out : Int32) (hf : fX8_has p1 p2 = some out) : Sq l yX8_has cX8_has 2 (some .boolean) 0 [.int p1, .int p2] (some (.int out)) := by
  refine Sq.of [(0, .int p1), (1, .int p2)] rfl (by decide +kernel) (Nat.le_of_ble_eq_true rfl) ?_
  intro κ hκ C hQ
  subst hκ
  replace C : Cf κ cX8_has 2 RX8 (some .boolean) 0 := C
  refine g_iload_n (pc := 0) (i := 0) (j := 0) C dX8_has_0 rfl rfl ?_
  refine g_iload_n (pc := 1) (i := 1) (j := 1) C dX8_has_1 rfl rfl ?_
  refine g_ishr (pc := 2) C dX8_has_2 ?_
  refine g_iconst (pc := 3) C dX8_has_3 ci_1 ?_
  refine g_iand (pc := 4) C dX8_has_4 ?_
  refine g_iconst (pc := 5) C dX8_has_5 ci_1 ?_
  refine g_icmp_ne (pc := 6) (tgt := 13) C dX8_has_6 rfl hf (fun _ hf => ?_) (fun _ hf => ?_)
  · refine g_iconst (pc := 13) C dX8_has_13 ci_0 ?_
    exact g_zret1p (pc := 14) C rfl hQ dX8_has_14 hf
  · refine g_iconst (pc := 9) C dX8_has_9 ci_1 ?_
    refine g_goto (pc := 10) (tgt := 14) C dX8_has_10 rfl ?_
    exact g_zret1p (pc := 14) C rfl hQ dX8_has_14 hf
theorem dX8_joinedKind_0 : decode cX8_joinedKind 0 = .ok (.iload_n 0, 1) := by decide +kernel
theorem dX8_joinedKind_1 : decode cX8_joinedKind 1 = .ok (.invokestatic 198, 3) := by decide +kernel
theorem dX8_joinedKind_4 : decode cX8_joinedKind 4 = .ok (.ifCond .eq 26, 3) := by decide +kernel
theorem dX8_joinedKind_7 : decode cX8_joinedKind 7 = .ok (.iload_n 1, 1) := by decide +kernel
theorem dX8_joinedKind_8 : decode cX8_joinedKind 8 = .ok (.invokestatic 198, 3) := by decide +kernel
theorem dX8_joinedKind_11 : decode cX8_joinedKind 11 = .ok (.ifCond .eq 19, 3) := by decide +kernel
theorem dX8_joinedKind_14 : decode cX8_joinedKind 14 = .ok (.iload_n 0, 1) := by decide +kernel
theorem dX8_joinedKind_15 : decode cX8_joinedKind 15 = .ok (.iload_n 1, 1) := by decide +kernel
theorem dX8_joinedKind_16 : decode cX8_joinedKind 16 = .ok (.invokestatic 386, 3) := by decide +kernel
theorem dX8_joinedKind_19 : decode cX8_joinedKind 19 = .ok (.bipush (-9), 2) := by decide +kernel
theorem dX8_joinedKind_21 : decode cX8_joinedKind 21 = .ok (.if_icmp .eq 9, 3) := by decide +kernel
theorem dX8_joinedKind_24 : decode cX8_joinedKind 24 = .ok (.iload_n 0, 1) := by decide +kernel
theorem dX8_joinedKind_25 : decode cX8_joinedKind 25 = .ok (.iload_n 1, 1) := by decide +kernel
theorem dX8_joinedKind_26 : decode cX8_joinedKind 26 = .ok (.invokestatic 386, 3) := by decide +kernel
theorem dX8_joinedKind_29 : decode cX8_joinedKind 29 = .ok (.ireturn, 1) := by decide +kernel
theorem dX8_joinedKind_30 : decode cX8_joinedKind 30 = .ok (.iload_n 0, 1) := by decide +kernel
theorem dX8_joinedKind_31 : decode cX8_joinedKind 31 = .ok (.iload_n 1, 1) := by decide +kernel
theorem dX8_joinedKind_32 : decode cX8_joinedKind 32 = .ok (.if_icmp .ne 5, 3) := by decide +kernel
theorem dX8_joinedKind_35 : decode cX8_joinedKind 35 = .ok (.iload_n 0, 1) := by decide +kernel
theorem dX8_joinedKind_36 : decode cX8_joinedKind 36 = .ok (.ireturn, 1) := by decide +kernel
theorem dX8_joinedKind_37 : decode cX8_joinedKind 37 = .ok (.iload_n 0, 1) := by decide +kernel
theorem dX8_joinedKind_38 : decode cX8_joinedKind 38 = .ok (.i2l, 1) := by decide +kernel
theorem dX8_joinedKind_39 : decode cX8_joinedKind 39 = .ok (.ldc2_w 372, 3) := by decide +kernel
theorem dX8_joinedKind_42 : decode cX8_joinedKind 42 = .ok (.ldc2_w 178, 3) := by decide +kernel
theorem dX8_joinedKind_45 : decode cX8_joinedKind 45 = .ok (.invokestatic 98, 3) := by decide +kernel
theorem dX8_joinedKind_48 : decode cX8_joinedKind 48 = .ok (.ifCond .eq 22, 3) := by decide +kernel
theorem dX8_joinedKind_51 : decode cX8_joinedKind 51 = .ok (.iload_n 1, 1) := by decide +kernel
theorem dX8_joinedKind_52 : decode cX8_joinedKind 52 = .ok (.i2l, 1) := by decide +kernel
theorem dX8_joinedKind_53 : decode cX8_joinedKind 53 = .ok (.ldc2_w 372, 3) := by decide +kernel
theorem dX8_joinedKind_56 : decode cX8_joinedKind 56 = .ok (.ldc2_w 178, 3) := by decide +kernel
theorem dX8_joinedKind_59 : decode cX8_joinedKind 59 = .ok (.invokestatic 98, 3) := by decide +kernel
theorem dX8_joinedKind_62 : decode cX8_joinedKind 62 = .ok (.ifCond .eq 8, 3) := by decide +kernel
theorem dX8_joinedKind_65 : decode cX8_joinedKind 65 = .ok (.bipush 8, 2) := by decide +kernel
theorem dX8_joinedKind_67 : decode cX8_joinedKind 67 = .ok (.goto 5, 3) := by decide +kernel
theorem dX8_joinedKind_70 : decode cX8_joinedKind 70 = .ok (.bipush 12, 2) := by decide +kernel
theorem dX8_joinedKind_72 : decode cX8_joinedKind 72 = .ok (.ireturn, 1) := by decide +kernel
def fX8_joinedKind_b30 (v0 : Int32) (v1 : Int32) : Option Int32 := (if v0 = v1 then some v0 else ((fX8_in (Int32.toInt64 v0) (8 : Int64) (9 : Int64)).bind fun r45 => (if r45 = 0 then some (12 : Int32) else ((fX8_in (Int32.toInt64 v1) (8 : Int64) (9 : Int64)).bind fun r59 => (if r59 = 0 then some (12 : Int32) else some (8 : Int32))))))
def fX8_joinedKind (p1 : Int32) (p2 : Int32) : Option Int32 := ((fX8_isPlain p1).bind fun r1 => (if r1 = 0 then fX8_joinedKind_b30 p1 p2 else ((fX8_isPlain p2).bind fun r8 => (if r8 = 0 then fX8_joinedKind_b30 p1 p2 else ((fX8_leastOf p1 p2).bind fun r16 => (if r16 = (-9 : Int32) then fX8_joinedKind_b30 p1 p2 else ((fX8_leastOf p1 p2).bind fun r26 => some r26)))))))
set_option maxRecDepth 100000 in
set_option maxHeartbeats 4000000 in
theorem kX8_joinedKind (l : Launch) (p1 : Int32) (p2 : Int32) (out : Int32) (hf : fX8_joinedKind p1 p2 = some out) : Sq l yX8_joinedKind cX8_joinedKind 2 (some .int) 2 [.int p1, .int p2] (some (.int out)) := by
  refine Sq.of [(0, .int p1), (1, .int p2)] rfl (by decide +kernel) (Nat.le_of_ble_eq_true rfl) ?_
  intro κ hκ C hQ
  subst hκ
  replace C : Cf κ cX8_joinedKind 2 RX8 (some .int) 2 := C
  have b30 : ∀ (v0 : Int32) (v1 : Int32) , fX8_joinedKind_b30 v0 v1 = some out → G κ (Vp κ) 2 30 [(0, .int v0), (1, .int v1)] [] := by
    intro v0 v1 hf
    refine g_iload_n (pc := 30) (i := 0) (j := 0) C dX8_joinedKind_30 rfl rfl ?_
    refine g_iload_n (pc := 31) (i := 1) (j := 1) C dX8_joinedKind_31 rfl rfl ?_
    refine g_icmp_ne (pc := 32) (tgt := 37) C dX8_joinedKind_32 rfl hf (fun _ hf => ?_) (fun _ hf => ?_)
    · refine g_iload_n (pc := 37) (i := 0) (j := 0) C dX8_joinedKind_37 rfl rfl ?_
      refine g_i2l (pc := 38) C dX8_joinedKind_38 ?_
      refine g_ldc2 (pc := 39) C cnX8_372 dX8_joinedKind_39 ?_
      refine g_ldc2 (pc := 42) C cnX8_178 dX8_joinedKind_42 ?_
      refine g_cpi (pc := 45) (st := []) C lkX8_98 (As := [.long (Int32.toInt64 v0), .long (8 : Int64), .long (9 : Int64)]) rfl (fun out h => kX8_in (kl κ) (Int32.toInt64 v0) (8 : Int64) (9 : Int64) out h) (by decide) rfl (Nat.le_of_ble_eq_true rfl) dX8_joinedKind_45 hf (fun r45 _ hf => ?_)
      refine g_if_eq (pc := 48) (tgt := 70) C dX8_joinedKind_48 rfl hf (fun _ hf => ?_) (fun _ hf => ?_)
      · refine g_bipush (pc := 70) C dX8_joinedKind_70 cb_12 ?_
        exact g_iretp (pc := 72) C hQ dX8_joinedKind_72 hf
      · refine g_iload_n (pc := 51) (i := 1) (j := 1) C dX8_joinedKind_51 rfl rfl ?_
        refine g_i2l (pc := 52) C dX8_joinedKind_52 ?_
        refine g_ldc2 (pc := 53) C cnX8_372 dX8_joinedKind_53 ?_
        refine g_ldc2 (pc := 56) C cnX8_178 dX8_joinedKind_56 ?_
        refine g_cpi (pc := 59) (st := []) C lkX8_98 (As := [.long (Int32.toInt64 v1), .long (8 : Int64), .long (9 : Int64)]) rfl (fun out h => kX8_in (kl κ) (Int32.toInt64 v1) (8 : Int64) (9 : Int64) out h) (by decide) rfl (Nat.le_of_ble_eq_true rfl) dX8_joinedKind_59 hf (fun r59 _ hf => ?_)
        refine g_if_eq (pc := 62) (tgt := 70) C dX8_joinedKind_62 rfl hf (fun _ hf => ?_) (fun _ hf => ?_)
        · refine g_bipush (pc := 70) C dX8_joinedKind_70 cb_12 ?_
          exact g_iretp (pc := 72) C hQ dX8_joinedKind_72 hf
        · refine g_bipush (pc := 65) C dX8_joinedKind_65 cb_8 ?_
          refine g_goto (pc := 67) (tgt := 72) C dX8_joinedKind_67 rfl ?_
          exact g_iretp (pc := 72) C hQ dX8_joinedKind_72 hf
    · refine g_iload_n (pc := 35) (i := 0) (j := 0) C dX8_joinedKind_35 rfl rfl ?_
      exact g_iretp (pc := 36) C hQ dX8_joinedKind_36 hf
  refine g_iload_n (pc := 0) (i := 0) (j := 0) C dX8_joinedKind_0 rfl rfl ?_
  refine g_cpi (pc := 1) (st := []) C lkX8_198 (As := [.int p1]) rfl (fun out h => kX8_isPlain (kl κ) p1 out h) (by decide) rfl (Nat.le_of_ble_eq_true rfl) dX8_joinedKind_1 hf (fun r1 _ hf => ?_)
  refine g_if_eq (pc := 4) (tgt := 30) C dX8_joinedKind_4 rfl hf (fun _ hf => ?_) (fun _ hf => ?_)
  · exact b30 p1 p2 hf
  · refine g_iload_n (pc := 7) (i := 1) (j := 1) C dX8_joinedKind_7 rfl rfl ?_
    refine g_cpi (pc := 8) (st := []) C lkX8_198 (As := [.int p2]) rfl (fun out h => kX8_isPlain (kl κ) p2 out h) (by decide) rfl (Nat.le_of_ble_eq_true rfl) dX8_joinedKind_8 hf (fun r8 _ hf => ?_)
    refine g_if_eq (pc := 11) (tgt := 30) C dX8_joinedKind_11 rfl hf (fun _ hf => ?_) (fun _ hf => ?_)
    · exact b30 p1 p2 hf
    · refine g_iload_n (pc := 14) (i := 0) (j := 0) C dX8_joinedKind_14 rfl rfl ?_
      refine g_iload_n (pc := 15) (i := 1) (j := 1) C dX8_joinedKind_15 rfl rfl ?_
      refine g_cpi (pc := 16) (st := []) C lkX8_386 (As := [.int p1, .int p2]) rfl (fun out h => kX8_leastOf (kl κ) p1 p2 out h) (by decide) rfl (Nat.le_of_ble_eq_true rfl) dX8_joinedKind_16 hf (fun r16 _ hf => ?_)
      refine g_bipush (pc := 19) C dX8_joinedKind_19 cb_m9 ?_
      refine g_icmp_eq (pc := 21) (tgt := 30) C dX8_joinedKind_21 rfl hf (fun _ hf => ?_) (fun _ hf => ?_)
      · exact b30 p1 p2 hf
      · refine g_iload_n (pc := 24) (i := 0) (j := 0) C dX8_joinedKind_24 rfl rfl ?_
        refine g_iload_n (pc := 25) (i := 1) (j := 1) C dX8_joinedKind_25 rfl rfl ?_
        refine g_cpi (pc := 26) (st := []) C lkX8_386 (As := [.int p1, .int p2]) rfl (fun out h => kX8_leastOf (kl κ) p1 p2 out h) (by decide) rfl (Nat.le_of_ble_eq_true rfl) dX8_joinedKind_26 hf (fun r26 _ hf => ?_)
        exact g_iretp (pc := 29) C hQ dX8_joinedKind_29 hf
theorem dX8_withOut_0 : decode cX8_withOut 0 = .ok (.iload_n 1, 1) := by decide +kernel
theorem dX8_withOut_1 : decode cX8_withOut 1 = .ok (.ifCond .ne 7, 3) := by decide +kernel
theorem dX8_withOut_4 : decode cX8_withOut 4 = .ok (.iload_n 0, 1) := by decide +kernel
theorem dX8_withOut_5 : decode cX8_withOut 5 = .ok (.goto 13, 3) := by decide +kernel
theorem dX8_withOut_8 : decode cX8_withOut 8 = .ok (.iload_n 0, 1) := by decide +kernel
theorem dX8_withOut_9 : decode cX8_withOut 9 = .ok (.ifCond .ne 7, 3) := by decide +kernel
theorem dX8_withOut_12 : decode cX8_withOut 12 = .ok (.iconst 1, 1) := by decide +kernel
theorem dX8_withOut_13 : decode cX8_withOut 13 = .ok (.goto 5, 3) := by decide +kernel
theorem dX8_withOut_16 : decode cX8_withOut 16 = .ok (.bipush 6, 2) := by decide +kernel
theorem dX8_withOut_18 : decode cX8_withOut 18 = .ok (.ireturn, 1) := by decide +kernel
def fX8_withOut (p1 : Int32) (p2 : Int32) : Option Int32 := (if p2 = 0 then some p1 else (if p1 = 0 then some (1 : Int32) else some (6 : Int32)))
set_option maxRecDepth 100000 in
set_option maxHeartbeats 4000000 in
theorem kX8_withOut (l : Launch) (p1 : Int32) (p2 : Int32) (out : Int32) (hf : fX8_withOut p1 p2 = some out) : Sq l yX8_withOut cX8_withOut 2 (some .int) 0 [.int p1, .int p2] (some (.int out)) := by
  refine Sq.of [(0, .int p1), (1, .int p2)] rfl (by decide +kernel) (Nat.le_of_ble_eq_true rfl) ?_
  intro κ hκ C hQ
  subst hκ
  replace C : Cf κ cX8_withOut 2 RX8 (some .int) 0 := C
  refine g_iload_n (pc := 0) (i := 1) (j := 1) C dX8_withOut_0 rfl rfl ?_
  refine g_if_ne (pc := 1) (tgt := 8) C dX8_withOut_1 rfl hf (fun _ hf => ?_) (fun _ hf => ?_)
  · refine g_iload_n (pc := 8) (i := 0) (j := 0) C dX8_withOut_8 rfl rfl ?_
    refine g_if_ne (pc := 9) (tgt := 16) C dX8_withOut_9 rfl hf (fun _ hf => ?_) (fun _ hf => ?_)
    · refine g_bipush (pc := 16) C dX8_withOut_16 cb_6 ?_
      exact g_iretp (pc := 18) C hQ dX8_withOut_18 hf
    · refine g_iconst (pc := 12) C dX8_withOut_12 ci_1 ?_
      refine g_goto (pc := 13) (tgt := 18) C dX8_withOut_13 rfl ?_
      exact g_iretp (pc := 18) C hQ dX8_withOut_18 hf
  · refine g_iload_n (pc := 4) (i := 0) (j := 0) C dX8_withOut_4 rfl rfl ?_
    refine g_goto (pc := 5) (tgt := 18) C dX8_withOut_5 rfl ?_
    exact g_iretp (pc := 18) C hQ dX8_withOut_18 hf
