section
-- ===== PART A: goes FIRST, ahead of the names: the tables' words, and 'selects' of the private methods out of them =====
/-- a private method of a class that the tables say can be made, by its rows of tables_1 -/
def lw_okq (q : MethodName × Nat) : Prop := (q.1.cls ≠ "java/lang/invoke/MethodHandle" ∧ q.1.cls ≠ "java/lang/invoke/VarHandle") ∧ Cond.instantiable q.1.cls q.2 ∈ tables_1 ∧ Cond.privateMethod q.1 ∈ tables_1 ∧ Cond.instanceMethod q.1 ∈ tables_1
theorem lw_p0 : lw_okq (⟨"WidenDesk$Reader", "letter", "()I"⟩, 7) := ⟨⟨by decide +kernel, by decide +kernel⟩, List.mem_of_getElem? (i := 27) (by decide +kernel), List.mem_of_getElem? (i := 207) (by decide +kernel), List.mem_of_getElem? (i := 208) (by decide +kernel)⟩
theorem lw_p1 : lw_okq (⟨"WidenDesk$Reader", "skip", "(C)Z"⟩, 7) := ⟨⟨by decide +kernel, by decide +kernel⟩, List.mem_of_getElem? (i := 27) (by decide +kernel), List.mem_of_getElem? (i := 304) (by decide +kernel), List.mem_of_getElem? (i := 305) (by decide +kernel)⟩
theorem lw_p2 : lw_okq (⟨"WidenDesk$Reader", "readElement", "()Z"⟩, 7) := ⟨⟨by decide +kernel, by decide +kernel⟩, List.mem_of_getElem? (i := 27) (by decide +kernel), List.mem_of_getElem? (i := 308) (by decide +kernel), List.mem_of_getElem? (i := 309) (by decide +kernel)⟩
theorem lw_p3 : lw_okq (⟨"WidenDesk$Reader", "keep", "(IJ)V"⟩, 7) := ⟨⟨by decide +kernel, by decide +kernel⟩, List.mem_of_getElem? (i := 27) (by decide +kernel), List.mem_of_getElem? (i := 315) (by decide +kernel), List.mem_of_getElem? (i := 316) (by decide +kernel)⟩
theorem lw_p4 : lw_okq (⟨"WidenDesk$Reader", "readNumber", "(I)Z"⟩, 7) := ⟨⟨by decide +kernel, by decide +kernel⟩, List.mem_of_getElem? (i := 27) (by decide +kernel), List.mem_of_getElem? (i := 319) (by decide +kernel), List.mem_of_getElem? (i := 320) (by decide +kernel)⟩
theorem lw_p5 : lw_okq (⟨"WidenDesk", "newRow", "(II)I"⟩, 11) := ⟨⟨by decide +kernel, by decide +kernel⟩, List.mem_of_getElem? (i := 19) (by decide +kernel), List.mem_of_getElem? (i := 355) (by decide +kernel), List.mem_of_getElem? (i := 356) (by decide +kernel)⟩
theorem lw_p6 : lw_okq (⟨"WidenDesk", "freeRow", "()I"⟩, 11) := ⟨⟨by decide +kernel, by decide +kernel⟩, List.mem_of_getElem? (i := 19) (by decide +kernel), List.mem_of_getElem? (i := 359) (by decide +kernel), List.mem_of_getElem? (i := 360) (by decide +kernel)⟩
theorem lw_p7 : lw_okq (⟨"WidenDesk", "isInSlots", "(I)Z"⟩, 11) := ⟨⟨by decide +kernel, by decide +kernel⟩, List.mem_of_getElem? (i := 19) (by decide +kernel), List.mem_of_getElem? (i := 363) (by decide +kernel), List.mem_of_getElem? (i := 364) (by decide +kernel)⟩
theorem lw_p8 : lw_okq (⟨"WidenDesk", "firstSlotOf", "(I)I"⟩, 11) := ⟨⟨by decide +kernel, by decide +kernel⟩, List.mem_of_getElem? (i := 19) (by decide +kernel), List.mem_of_getElem? (i := 367) (by decide +kernel), List.mem_of_getElem? (i := 368) (by decide +kernel)⟩
theorem lw_p9 : lw_okq (⟨"WidenDesk", "replace", "(II)V"⟩, 11) := ⟨⟨by decide +kernel, by decide +kernel⟩, List.mem_of_getElem? (i := 19) (by decide +kernel), List.mem_of_getElem? (i := 411) (by decide +kernel), List.mem_of_getElem? (i := 412) (by decide +kernel)⟩
theorem lw_p10 : lw_okq (⟨"WidenDesk$Log", "add", "(IIII)I"⟩, 8) := ⟨⟨by decide +kernel, by decide +kernel⟩, List.mem_of_getElem? (i := 83) (by decide +kernel), List.mem_of_getElem? (i := 419) (by decide +kernel), List.mem_of_getElem? (i := 420) (by decide +kernel)⟩
theorem lw_p11 : lw_okq (⟨"WidenDesk", "countArrays", "(Z)I"⟩, 11) := ⟨⟨by decide +kernel, by decide +kernel⟩, List.mem_of_getElem? (i := 19) (by decide +kernel), List.mem_of_getElem? (i := 428) (by decide +kernel), List.mem_of_getElem? (i := 429) (by decide +kernel)⟩
theorem lw_p12 : lw_okq (⟨"WidenDesk", "holdsArray", "(I)Z"⟩, 11) := ⟨⟨by decide +kernel, by decide +kernel⟩, List.mem_of_getElem? (i := 19) (by decide +kernel), List.mem_of_getElem? (i := 432) (by decide +kernel), List.mem_of_getElem? (i := 433) (by decide +kernel)⟩
theorem lw_p13 : lw_okq (⟨"WidenDesk", "thingIn", "(I)I"⟩, 11) := ⟨⟨by decide +kernel, by decide +kernel⟩, List.mem_of_getElem? (i := 19) (by decide +kernel), List.mem_of_getElem? (i := 436) (by decide +kernel), List.mem_of_getElem? (i := 437) (by decide +kernel)⟩
theorem lw_p14 : lw_okq (⟨"WidenDesk", "countEmptySlots", "()I"⟩, 11) := ⟨⟨by decide +kernel, by decide +kernel⟩, List.mem_of_getElem? (i := 19) (by decide +kernel), List.mem_of_getElem? (i := 440) (by decide +kernel), List.mem_of_getElem? (i := 441) (by decide +kernel)⟩
theorem lw_p15 : lw_okq (⟨"WidenDesk", "countFine", "()I"⟩, 11) := ⟨⟨by decide +kernel, by decide +kernel⟩, List.mem_of_getElem? (i := 19) (by decide +kernel), List.mem_of_getElem? (i := 444) (by decide +kernel), List.mem_of_getElem? (i := 445) (by decide +kernel)⟩
def lw_privs_1 : List (MethodName × Nat) := [(⟨"WidenDesk$Reader", "letter", "()I"⟩, 7), (⟨"WidenDesk$Reader", "skip", "(C)Z"⟩, 7), (⟨"WidenDesk$Reader", "readElement", "()Z"⟩, 7), (⟨"WidenDesk$Reader", "keep", "(IJ)V"⟩, 7), (⟨"WidenDesk$Reader", "readNumber", "(I)Z"⟩, 7), (⟨"WidenDesk", "newRow", "(II)I"⟩, 11), (⟨"WidenDesk", "freeRow", "()I"⟩, 11), (⟨"WidenDesk", "isInSlots", "(I)Z"⟩, 11), (⟨"WidenDesk", "firstSlotOf", "(I)I"⟩, 11), (⟨"WidenDesk", "replace", "(II)V"⟩, 11), (⟨"WidenDesk$Log", "add", "(IIII)I"⟩, 8), (⟨"WidenDesk", "countArrays", "(Z)I"⟩, 11), (⟨"WidenDesk", "holdsArray", "(I)Z"⟩, 11), (⟨"WidenDesk", "thingIn", "(I)I"⟩, 11), (⟨"WidenDesk", "countEmptySlots", "()I"⟩, 11), (⟨"WidenDesk", "countFine", "()I"⟩, 11)]
theorem lw_r1 : ∀ q ∈ lw_privs_1, lw_okq q := List.forall_mem_cons.mpr ⟨lw_p0, List.forall_mem_cons.mpr ⟨lw_p1, List.forall_mem_cons.mpr ⟨lw_p2, List.forall_mem_cons.mpr ⟨lw_p3, List.forall_mem_cons.mpr ⟨lw_p4, List.forall_mem_cons.mpr ⟨lw_p5, List.forall_mem_cons.mpr ⟨lw_p6, List.forall_mem_cons.mpr ⟨lw_p7, List.forall_mem_cons.mpr ⟨lw_p8, List.forall_mem_cons.mpr ⟨lw_p9, List.forall_mem_cons.mpr ⟨lw_p10, List.forall_mem_cons.mpr ⟨lw_p11, List.forall_mem_cons.mpr ⟨lw_p12, List.forall_mem_cons.mpr ⟨lw_p13, List.forall_mem_cons.mpr ⟨lw_p14, List.forall_mem_cons.mpr ⟨lw_p15, fun _ h => absurd h List.not_mem_nil⟩⟩⟩⟩⟩⟩⟩⟩⟩⟩⟩⟩⟩⟩⟩⟩
theorem lw_p16 : lw_okq (⟨"WidenDesk", "shownCode", "(IJ)J"⟩, 11) := ⟨⟨by decide +kernel, by decide +kernel⟩, List.mem_of_getElem? (i := 19) (by decide +kernel), List.mem_of_getElem? (i := 483) (by decide +kernel), List.mem_of_getElem? (i := 484) (by decide +kernel)⟩
theorem lw_p17 : lw_okq (⟨"WidenDesk", "hold", "(IIJ)V"⟩, 11) := ⟨⟨by decide +kernel, by decide +kernel⟩, List.mem_of_getElem? (i := 19) (by decide +kernel), List.mem_of_getElem? (i := 506) (by decide +kernel), List.mem_of_getElem? (i := 507) (by decide +kernel)⟩
theorem lw_p18 : lw_okq (⟨"WidenDesk", "fetchReason", "(II)I"⟩, 11) := ⟨⟨by decide +kernel, by decide +kernel⟩, List.mem_of_getElem? (i := 19) (by decide +kernel), List.mem_of_getElem? (i := 579) (by decide +kernel), List.mem_of_getElem? (i := 580) (by decide +kernel)⟩
theorem lw_p19 : lw_okq (⟨"WidenDesk", "convertReason", "(IIII)I"⟩, 11) := ⟨⟨by decide +kernel, by decide +kernel⟩, List.mem_of_getElem? (i := 19) (by decide +kernel), List.mem_of_getElem? (i := 620) (by decide +kernel), List.mem_of_getElem? (i := 621) (by decide +kernel)⟩
theorem lw_p20 : lw_okq (⟨"WidenDesk", "convertElement", "(IIII)V"⟩, 11) := ⟨⟨by decide +kernel, by decide +kernel⟩, List.mem_of_getElem? (i := 19) (by decide +kernel), List.mem_of_getElem? (i := 655) (by decide +kernel), List.mem_of_getElem? (i := 656) (by decide +kernel)⟩
theorem lw_p21 : lw_okq (⟨"WidenDesk", "carryThrough", "(IJI)I"⟩, 11) := ⟨⟨by decide +kernel, by decide +kernel⟩, List.mem_of_getElem? (i := 19) (by decide +kernel), List.mem_of_getElem? (i := 686) (by decide +kernel), List.mem_of_getElem? (i := 687) (by decide +kernel)⟩
theorem lw_p22 : lw_okq (⟨"WidenDeskModel", "readText", "()I"⟩, 47) := ⟨⟨by decide +kernel, by decide +kernel⟩, List.mem_of_getElem? (i := 791) (by decide +kernel), List.mem_of_getElem? (i := 956) (by decide +kernel), List.mem_of_getElem? (i := 957) (by decide +kernel)⟩
theorem lw_p23 : lw_okq (⟨"WidenDeskModel", "letter", "()I"⟩, 47) := ⟨⟨by decide +kernel, by decide +kernel⟩, List.mem_of_getElem? (i := 791) (by decide +kernel), List.mem_of_getElem? (i := 960) (by decide +kernel), List.mem_of_getElem? (i := 961) (by decide +kernel)⟩
theorem lw_p24 : lw_okq (⟨"WidenDeskModel", "readCell", "()Z"⟩, 47) := ⟨⟨by decide +kernel, by decide +kernel⟩, List.mem_of_getElem? (i := 791) (by decide +kernel), List.mem_of_getElem? (i := 970) (by decide +kernel), List.mem_of_getElem? (i := 971) (by decide +kernel)⟩
theorem lw_p25 : lw_okq (⟨"WidenDeskModel", "putTold", "(IIJ)V"⟩, 47) := ⟨⟨by decide +kernel, by decide +kernel⟩, List.mem_of_getElem? (i := 791) (by decide +kernel), List.mem_of_getElem? (i := 978) (by decide +kernel), List.mem_of_getElem? (i := 979) (by decide +kernel)⟩
theorem lw_p26 : lw_okq (⟨"WidenDeskModel", "readNumber", "(I)V"⟩, 47) := ⟨⟨by decide +kernel, by decide +kernel⟩, List.mem_of_getElem? (i := 791) (by decide +kernel), List.mem_of_getElem? (i := 982) (by decide +kernel), List.mem_of_getElem? (i := 983) (by decide +kernel)⟩
theorem lw_p27 : lw_okq (⟨"WidenDeskModel", "holdNew", "(I)V"⟩, 47) := ⟨⟨by decide +kernel, by decide +kernel⟩, List.mem_of_getElem? (i := 791) (by decide +kernel), List.mem_of_getElem? (i := 1024) (by decide +kernel), List.mem_of_getElem? (i := 1025) (by decide +kernel)⟩
theorem lw_p28 : lw_okq (⟨"WidenDeskModel", "note", "()V"⟩, 47) := ⟨⟨by decide +kernel, by decide +kernel⟩, List.mem_of_getElem? (i := 791) (by decide +kernel), List.mem_of_getElem? (i := 1028) (by decide +kernel), List.mem_of_getElem? (i := 1029) (by decide +kernel)⟩
theorem lw_p29 : lw_okq (⟨"WidenDeskModel", "freeRow", "()I"⟩, 47) := ⟨⟨by decide +kernel, by decide +kernel⟩, List.mem_of_getElem? (i := 791) (by decide +kernel), List.mem_of_getElem? (i := 1032) (by decide +kernel), List.mem_of_getElem? (i := 1033) (by decide +kernel)⟩
theorem lw_p30 : lw_okq (⟨"WidenDeskModel", "isHeld", "(I)Z"⟩, 47) := ⟨⟨by decide +kernel, by decide +kernel⟩, List.mem_of_getElem? (i := 791) (by decide +kernel), List.mem_of_getElem? (i := 1036) (by decide +kernel), List.mem_of_getElem? (i := 1037) (by decide +kernel)⟩
theorem lw_p31 : lw_okq (⟨"WidenDeskModel", "rowsHeld", "(I)I"⟩, 47) := ⟨⟨by decide +kernel, by decide +kernel⟩, List.mem_of_getElem? (i := 791) (by decide +kernel), List.mem_of_getElem? (i := 1044) (by decide +kernel), List.mem_of_getElem? (i := 1045) (by decide +kernel)⟩
def lw_privs_2 : List (MethodName × Nat) := [(⟨"WidenDesk", "shownCode", "(IJ)J"⟩, 11), (⟨"WidenDesk", "hold", "(IIJ)V"⟩, 11), (⟨"WidenDesk", "fetchReason", "(II)I"⟩, 11), (⟨"WidenDesk", "convertReason", "(IIII)I"⟩, 11), (⟨"WidenDesk", "convertElement", "(IIII)V"⟩, 11), (⟨"WidenDesk", "carryThrough", "(IJI)I"⟩, 11), (⟨"WidenDeskModel", "readText", "()I"⟩, 47), (⟨"WidenDeskModel", "letter", "()I"⟩, 47), (⟨"WidenDeskModel", "readCell", "()Z"⟩, 47), (⟨"WidenDeskModel", "putTold", "(IIJ)V"⟩, 47), (⟨"WidenDeskModel", "readNumber", "(I)V"⟩, 47), (⟨"WidenDeskModel", "holdNew", "(I)V"⟩, 47), (⟨"WidenDeskModel", "note", "()V"⟩, 47), (⟨"WidenDeskModel", "freeRow", "()I"⟩, 47), (⟨"WidenDeskModel", "isHeld", "(I)Z"⟩, 47), (⟨"WidenDeskModel", "rowsHeld", "(I)I"⟩, 47)]
theorem lw_r2 : ∀ q ∈ lw_privs_2, lw_okq q := List.forall_mem_cons.mpr ⟨lw_p16, List.forall_mem_cons.mpr ⟨lw_p17, List.forall_mem_cons.mpr ⟨lw_p18, List.forall_mem_cons.mpr ⟨lw_p19, List.forall_mem_cons.mpr ⟨lw_p20, List.forall_mem_cons.mpr ⟨lw_p21, List.forall_mem_cons.mpr ⟨lw_p22, List.forall_mem_cons.mpr ⟨lw_p23, List.forall_mem_cons.mpr ⟨lw_p24, List.forall_mem_cons.mpr ⟨lw_p25, List.forall_mem_cons.mpr ⟨lw_p26, List.forall_mem_cons.mpr ⟨lw_p27, List.forall_mem_cons.mpr ⟨lw_p28, List.forall_mem_cons.mpr ⟨lw_p29, List.forall_mem_cons.mpr ⟨lw_p30, List.forall_mem_cons.mpr ⟨lw_p31, fun _ h => absurd h List.not_mem_nil⟩⟩⟩⟩⟩⟩⟩⟩⟩⟩⟩⟩⟩⟩⟩⟩
theorem lw_p32 : lw_okq (⟨"WidenDeskModel", "nothings", "()I"⟩, 47) := ⟨⟨by decide +kernel, by decide +kernel⟩, List.mem_of_getElem? (i := 791) (by decide +kernel), List.mem_of_getElem? (i := 1048) (by decide +kernel), List.mem_of_getElem? (i := 1049) (by decide +kernel)⟩
theorem lw_p33 : lw_okq (⟨"WidenDeskModel", "fineOnes", "()I"⟩, 47) := ⟨⟨by decide +kernel, by decide +kernel⟩, List.mem_of_getElem? (i := 791) (by decide +kernel), List.mem_of_getElem? (i := 1052) (by decide +kernel), List.mem_of_getElem? (i := 1053) (by decide +kernel)⟩
theorem lw_p34 : lw_okq (⟨"WidenDeskModel", "holdsRow", "(I)Z"⟩, 47) := ⟨⟨by decide +kernel, by decide +kernel⟩, List.mem_of_getElem? (i := 791) (by decide +kernel), List.mem_of_getElem? (i := 1070) (by decide +kernel), List.mem_of_getElem? (i := 1071) (by decide +kernel)⟩
theorem lw_p35 : lw_okq (⟨"WidenDeskModel", "get", "(II)V"⟩, 47) := ⟨⟨by decide +kernel, by decide +kernel⟩, List.mem_of_getElem? (i := 791) (by decide +kernel), List.mem_of_getElem? (i := 1085) (by decide +kernel), List.mem_of_getElem? (i := 1086) (by decide +kernel)⟩
theorem lw_p36 : lw_okq (⟨"WidenDeskModel", "kindTold", "(IIJ)I"⟩, 47) := ⟨⟨by decide +kernel, by decide +kernel⟩, List.mem_of_getElem? (i := 791) (by decide +kernel), List.mem_of_getElem? (i := 1089) (by decide +kernel), List.mem_of_getElem? (i := 1090) (by decide +kernel)⟩
theorem lw_p37 : lw_okq (⟨"WidenDeskModel", "told", "(IJ)J"⟩, 47) := ⟨⟨by decide +kernel, by decide +kernel⟩, List.mem_of_getElem? (i := 791) (by decide +kernel), List.mem_of_getElem? (i := 1093) (by decide +kernel), List.mem_of_getElem? (i := 1094) (by decide +kernel)⟩
theorem lw_p38 : lw_okq (⟨"WidenDeskModel", "hold", "(IIJ)V"⟩, 47) := ⟨⟨by decide +kernel, by decide +kernel⟩, List.mem_of_getElem? (i := 791) (by decide +kernel), List.mem_of_getElem? (i := 1112) (by decide +kernel), List.mem_of_getElem? (i := 1113) (by decide +kernel)⟩
theorem lw_p39 : lw_okq (⟨"WidenDeskModel", "reasonToTake", "(III)I"⟩, 47) := ⟨⟨by decide +kernel, by decide +kernel⟩, List.mem_of_getElem? (i := 791) (by decide +kernel), List.mem_of_getElem? (i := 1141) (by decide +kernel), List.mem_of_getElem? (i := 1142) (by decide +kernel)⟩
theorem lw_p40 : lw_okq (⟨"WidenDeskModel", "reasonOf", "(I)I"⟩, 47) := ⟨⟨by decide +kernel, by decide +kernel⟩, List.mem_of_getElem? (i := 791) (by decide +kernel), List.mem_of_getElem? (i := 1145) (by decide +kernel), List.mem_of_getElem? (i := 1146) (by decide +kernel)⟩
theorem lw_p41 : lw_okq (⟨"WidenDeskModel", "widened", "(IJI)J"⟩, 47) := ⟨⟨by decide +kernel, by decide +kernel⟩, List.mem_of_getElem? (i := 791) (by decide +kernel), List.mem_of_getElem? (i := 1158) (by decide +kernel), List.mem_of_getElem? (i := 1159) (by decide +kernel)⟩
theorem lw_p42 : lw_okq (⟨"WidenDeskModel", "takeApart", "(IJ)V"⟩, 47) := ⟨⟨by decide +kernel, by decide +kernel⟩, List.mem_of_getElem? (i := 791) (by decide +kernel), List.mem_of_getElem? (i := 1162) (by decide +kernel), List.mem_of_getElem? (i := 1163) (by decide +kernel)⟩
theorem lw_p43 : lw_okq (⟨"WidenDeskModel", "reasonToFetch", "(II)I"⟩, 47) := ⟨⟨by decide +kernel, by decide +kernel⟩, List.mem_of_getElem? (i := 791) (by decide +kernel), List.mem_of_getElem? (i := 1170) (by decide +kernel), List.mem_of_getElem? (i := 1171) (by decide +kernel)⟩
theorem lw_p44 : lw_okq (⟨"WidenDeskModel", "reasonToLay", "(IIIIJ)I"⟩, 47) := ⟨⟨by decide +kernel, by decide +kernel⟩, List.mem_of_getElem? (i := 791) (by decide +kernel), List.mem_of_getElem? (i := 1178) (by decide +kernel), List.mem_of_getElem? (i := 1179) (by decide +kernel)⟩
theorem lw_p45 : lw_okq (⟨"WidenDeskModel", "bring", "(IIIJ)I"⟩, 47) := ⟨⟨by decide +kernel, by decide +kernel⟩, List.mem_of_getElem? (i := 791) (by decide +kernel), List.mem_of_getElem? (i := 1182) (by decide +kernel), List.mem_of_getElem? (i := 1183) (by decide +kernel)⟩
theorem lw_p46 : lw_okq (⟨"WidenDeskModel", "put", "(IIIIJ)V"⟩, 47) := ⟨⟨by decide +kernel, by decide +kernel⟩, List.mem_of_getElem? (i := 791) (by decide +kernel), List.mem_of_getElem? (i := 1186) (by decide +kernel), List.mem_of_getElem? (i := 1187) (by decide +kernel)⟩
theorem lw_p47 : lw_okq (⟨"WidenDeskModel", "holdsPlain", "(I)Z"⟩, 47) := ⟨⟨by decide +kernel, by decide +kernel⟩, List.mem_of_getElem? (i := 791) (by decide +kernel), List.mem_of_getElem? (i := 1194) (by decide +kernel), List.mem_of_getElem? (i := 1195) (by decide +kernel)⟩
def lw_privs_3 : List (MethodName × Nat) := [(⟨"WidenDeskModel", "nothings", "()I"⟩, 47), (⟨"WidenDeskModel", "fineOnes", "()I"⟩, 47), (⟨"WidenDeskModel", "holdsRow", "(I)Z"⟩, 47), (⟨"WidenDeskModel", "get", "(II)V"⟩, 47), (⟨"WidenDeskModel", "kindTold", "(IIJ)I"⟩, 47), (⟨"WidenDeskModel", "told", "(IJ)J"⟩, 47), (⟨"WidenDeskModel", "hold", "(IIJ)V"⟩, 47), (⟨"WidenDeskModel", "reasonToTake", "(III)I"⟩, 47), (⟨"WidenDeskModel", "reasonOf", "(I)I"⟩, 47), (⟨"WidenDeskModel", "widened", "(IJI)J"⟩, 47), (⟨"WidenDeskModel", "takeApart", "(IJ)V"⟩, 47), (⟨"WidenDeskModel", "reasonToFetch", "(II)I"⟩, 47), (⟨"WidenDeskModel", "reasonToLay", "(IIIIJ)I"⟩, 47), (⟨"WidenDeskModel", "bring", "(IIIJ)I"⟩, 47), (⟨"WidenDeskModel", "put", "(IIIIJ)V"⟩, 47), (⟨"WidenDeskModel", "holdsPlain", "(I)Z"⟩, 47)]
theorem lw_r3 : ∀ q ∈ lw_privs_3, lw_okq q := List.forall_mem_cons.mpr ⟨lw_p32, List.forall_mem_cons.mpr ⟨lw_p33, List.forall_mem_cons.mpr ⟨lw_p34, List.forall_mem_cons.mpr ⟨lw_p35, List.forall_mem_cons.mpr ⟨lw_p36, List.forall_mem_cons.mpr ⟨lw_p37, List.forall_mem_cons.mpr ⟨lw_p38, List.forall_mem_cons.mpr ⟨lw_p39, List.forall_mem_cons.mpr ⟨lw_p40, List.forall_mem_cons.mpr ⟨lw_p41, List.forall_mem_cons.mpr ⟨lw_p42, List.forall_mem_cons.mpr ⟨lw_p43, List.forall_mem_cons.mpr ⟨lw_p44, List.forall_mem_cons.mpr ⟨lw_p45, List.forall_mem_cons.mpr ⟨lw_p46, List.forall_mem_cons.mpr ⟨lw_p47, fun _ h => absurd h List.not_mem_nil⟩⟩⟩⟩⟩⟩⟩⟩⟩⟩⟩⟩⟩⟩⟩⟩
theorem lw_p48 : lw_okq (⟨"WidenDeskModel", "convertCell", "(IIII)I"⟩, 47) := ⟨⟨by decide +kernel, by decide +kernel⟩, List.mem_of_getElem? (i := 791) (by decide +kernel), List.mem_of_getElem? (i := 1205) (by decide +kernel), List.mem_of_getElem? (i := 1206) (by decide +kernel)⟩
theorem lw_p49 : lw_okq (⟨"WidenDeskModel", "isOne", "(IJI)Z"⟩, 47) := ⟨⟨by decide +kernel, by decide +kernel⟩, List.mem_of_getElem? (i := 791) (by decide +kernel), List.mem_of_getElem? (i := 1209) (by decide +kernel), List.mem_of_getElem? (i := 1210) (by decide +kernel)⟩
theorem lw_p50 : lw_okq (⟨"WidenDeskModel", "asOne", "(IJI)J"⟩, 47) := ⟨⟨by decide +kernel, by decide +kernel⟩, List.mem_of_getElem? (i := 791) (by decide +kernel), List.mem_of_getElem? (i := 1213) (by decide +kernel), List.mem_of_getElem? (i := 1214) (by decide +kernel)⟩
theorem lw_p51 : lw_okq (⟨"WidenDeskModel", "addEnd", "(IJ)V"⟩, 47) := ⟨⟨by decide +kernel, by decide +kernel⟩, List.mem_of_getElem? (i := 791) (by decide +kernel), List.mem_of_getElem? (i := 1239) (by decide +kernel), List.mem_of_getElem? (i := 1240) (by decide +kernel)⟩
theorem lw_p52 : lw_okq (⟨"WidenDeskModel", "joinCells", "(I)V"⟩, 47) := ⟨⟨by decide +kernel, by decide +kernel⟩, List.mem_of_getElem? (i := 791) (by decide +kernel), List.mem_of_getElem? (i := 1261) (by decide +kernel), List.mem_of_getElem? (i := 1262) (by decide +kernel)⟩
theorem lw_p53 : lw_okq (⟨"WidenDeskModel", "areAlike", "(II)Z"⟩, 47) := ⟨⟨by decide +kernel, by decide +kernel⟩, List.mem_of_getElem? (i := 791) (by decide +kernel), List.mem_of_getElem? (i := 1274) (by decide +kernel), List.mem_of_getElem? (i := 1275) (by decide +kernel)⟩
theorem lw_p54 : lw_okq (⟨"WidenDeskModel", "areSame", "(II)Z"⟩, 47) := ⟨⟨by decide +kernel, by decide +kernel⟩, List.mem_of_getElem? (i := 791) (by decide +kernel), List.mem_of_getElem? (i := 1282) (by decide +kernel), List.mem_of_getElem? (i := 1283) (by decide +kernel)⟩
theorem lw_p55 : lw_okq (⟨"WidenDeskModel", "reasonBy", "(III)I"⟩, 47) := ⟨⟨by decide +kernel, by decide +kernel⟩, List.mem_of_getElem? (i := 791) (by decide +kernel), List.mem_of_getElem? (i := 1304) (by decide +kernel), List.mem_of_getElem? (i := 1305) (by decide +kernel)⟩
def lw_privs_4 : List (MethodName × Nat) := [(⟨"WidenDeskModel", "convertCell", "(IIII)I"⟩, 47), (⟨"WidenDeskModel", "isOne", "(IJI)Z"⟩, 47), (⟨"WidenDeskModel", "asOne", "(IJI)J"⟩, 47), (⟨"WidenDeskModel", "addEnd", "(IJ)V"⟩, 47), (⟨"WidenDeskModel", "joinCells", "(I)V"⟩, 47), (⟨"WidenDeskModel", "areAlike", "(II)Z"⟩, 47), (⟨"WidenDeskModel", "areSame", "(II)Z"⟩, 47), (⟨"WidenDeskModel", "reasonBy", "(III)I"⟩, 47)]
theorem lw_r4 : ∀ q ∈ lw_privs_4, lw_okq q := List.forall_mem_cons.mpr ⟨lw_p48, List.forall_mem_cons.mpr ⟨lw_p49, List.forall_mem_cons.mpr ⟨lw_p50, List.forall_mem_cons.mpr ⟨lw_p51, List.forall_mem_cons.mpr ⟨lw_p52, List.forall_mem_cons.mpr ⟨lw_p53, List.forall_mem_cons.mpr ⟨lw_p54, List.forall_mem_cons.mpr ⟨lw_p55, fun _ h => absurd h List.not_mem_nil⟩⟩⟩⟩⟩⟩⟩⟩
def lw_privs : List (MethodName × Nat) := lw_privs_1 ++ (lw_privs_2 ++ (lw_privs_3 ++ (lw_privs_4)))
def lw_tbl : List Cond := k2_sels lw_privs ++ tables_1
theorem lw_privs_ok : ∀ q ∈ lw_privs, lw_okq q := by
  show ∀ q ∈ lw_privs_1 ++ (lw_privs_2 ++ (lw_privs_3 ++ (lw_privs_4))), lw_okq q
  exact List.forall_mem_append.mpr ⟨lw_r1, List.forall_mem_append.mpr ⟨lw_r2, List.forall_mem_append.mpr ⟨lw_r3, lw_r4⟩⟩⟩

def RX0 : String := "WidenDesk$Log"
def TX0 : u_T := fun k => match k with
  | 0 => ("WidenDesk$Log", "sorts", "[I", true)
  | 1 => ("WidenDesk$Log", "spots", "[I", true)
  | 2 => ("WidenDesk$Log", "rows", "[I", true)
  | 3 => ("WidenDesk$Log", "numbers", "[I", true)
  | 4 => ("WidenDesk$Log", "types", "[I", true)
  | 5 => ("WidenDesk$Log", "codes", "[J", true)
  | 6 => ("WidenDesk$Log", "next", "I", false)
  | _ => ("WidenDesk$Log", "kept", "I", false)
def tyX0 : Nat → FieldType := fun k => match k with
  | 0 => .array .int
  | 1 => .array .int
  | 2 => .array .int
  | 3 => .array .int
  | 4 => .array .int
  | 5 => .array .long
  | 6 => .int
  | _ => .int
abbrev wsX00 : List Cond := u_ws RX0 TX0 8
theorem nmX0 : ∀ a, a < 8 → ∀ b, b < 8 → a ≠ b → (TX0 a).2.1 ≠ (TX0 b).2.1 := by decide +kernel
theorem tyX0_ok : ∀ k, k < 8 → parseFieldDescriptor (TX0 k).2.2.1 = some (tyX0 k) := by decide +kernel
abbrev cX0_init : ByteArray := prog_2_method_1_code
def yX0_init : MethodName := ⟨RX0, "<init>", "()V"⟩
abbrev cX0_keepSlot : ByteArray := prog_2_method_2_code
def yX0_keepSlot : MethodName := ⟨RX0, "keepSlot", "(II)V"⟩
abbrev cX0_keepNumber : ByteArray := prog_2_method_3_code
def yX0_keepNumber : MethodName := ⟨RX0, "keepNumber", "(II)V"⟩
abbrev cX0_keepCells : ByteArray := prog_2_method_4_code
def yX0_keepCells : MethodName := ⟨RX0, "keepCells", "(ILWidenDesk$Shelf;)V"⟩
abbrev cX0_restoreCells : ByteArray := prog_2_method_5_code
def yX0_restoreCells : MethodName := ⟨RX0, "restoreCells", "(ILWidenDesk$Shelf;)V"⟩
abbrev cX0_removeLatest : ByteArray := prog_2_method_6_code
def yX0_removeLatest : MethodName := ⟨RX0, "removeLatest", "()I"⟩
abbrev cX0_holds : ByteArray := prog_2_method_7_code
def yX0_holds : MethodName := ⟨RX0, "holds", "(I)Z"⟩
abbrev cX0_add : ByteArray := prog_2_method_8_code
def yX0_add : MethodName := ⟨RX0, "add", "(IIII)I"⟩
abbrev cX0_before : ByteArray := prog_2_method_9_code
def yX0_before : MethodName := ⟨RX0, "before", "(I)I"⟩
def RX1 : String := "WidenDesk$Marks"
def TX1 : u_T := fun k => match k with
  | 0 => ("WidenDesk$Marks", "numbers", "[I", true)
  | _ => ("WidenDesk$Marks", "count", "I", false)
def tyX1 : Nat → FieldType := fun k => match k with
  | 0 => .array .int
  | _ => .int
abbrev wsX10 : List Cond := u_ws RX1 TX1 2
theorem nmX1 : ∀ a, a < 2 → ∀ b, b < 2 → a ≠ b → (TX1 a).2.1 ≠ (TX1 b).2.1 := by decide +kernel
theorem tyX1_ok : ∀ k, k < 2 → parseFieldDescriptor (TX1 k).2.2.1 = some (tyX1 k) := by decide +kernel
abbrev cX1_init : ByteArray := prog_3_method_1_code
def yX1_init : MethodName := ⟨RX1, "<init>", "()V"⟩
abbrev cX1_isFull : ByteArray := prog_3_method_2_code
def yX1_isFull : MethodName := ⟨RX1, "isFull", "()Z"⟩
abbrev cX1_create : ByteArray := prog_3_method_3_code
def yX1_create : MethodName := ⟨RX1, "create", "(I)I"⟩
abbrev cX1_numberOf : ByteArray := prog_3_method_4_code
def yX1_numberOf : MethodName := ⟨RX1, "numberOf", "(I)I"⟩
abbrev cX1_setNumber : ByteArray := prog_3_method_5_code
def yX1_setNumber : MethodName := ⟨RX1, "setNumber", "(II)V"⟩
def RX2 : String := "WidenDesk$Numbers"
def TX2 : u_T := fun k => match k with
  | _ => ("", "", "", false)
def tyX2 : Nat → FieldType := fun k => match k with
  | _ => .int
abbrev wsX20 : List Cond := u_ws RX2 TX2 0
theorem nmX2 : ∀ a, a < 0 → ∀ b, b < 0 → a ≠ b → (TX2 a).2.1 ≠ (TX2 b).2.1 := by decide +kernel
theorem tyX2_ok : ∀ k, k < 0 → parseFieldDescriptor (TX2 k).2.2.1 = some (tyX2 k) := by decide +kernel
abbrev cX2_widens : ByteArray := prog_4_method_2_code
def yX2_widens : MethodName := ⟨RX2, "widens", "(II)Z"⟩
abbrev cX2_targets : ByteArray := prog_4_method_3_code
def yX2_targets : MethodName := ⟨RX2, "targets", "(I)I"⟩
abbrev cX2_leastOf : ByteArray := prog_4_method_4_code
def yX2_leastOf : MethodName := ⟨RX2, "leastOf", "(I)I"⟩
abbrev cX2_leastOfTwo : ByteArray := prog_4_method_5_code
def yX2_leastOfTwo : MethodName := ⟨RX2, "leastOfTwo", "(II)I"⟩
abbrev cX2_countChains : ByteArray := prog_4_method_6_code
def yX2_countChains : MethodName := ⟨RX2, "countChains", "(III)I"⟩
abbrev cX2_countEnds : ByteArray := prog_4_method_7_code
def yX2_countEnds : MethodName := ⟨RX2, "countEnds", "(JII)I"⟩
abbrev cX2_made : ByteArray := prog_4_method_8_code
def yX2_made : MethodName := ⟨RX2, "made", "(IJ)J"⟩
abbrev cX2_ofWhole : ByteArray := prog_4_method_9_code
def yX2_ofWhole : MethodName := ⟨RX2, "ofWhole", "(IJ)J"⟩
abbrev cX2_widened : ByteArray := prog_4_method_10_code
def yX2_widened : MethodName := ⟨RX2, "widened", "(JII)J"⟩
abbrev cX2_hasNumber : ByteArray := prog_4_method_11_code
def yX2_hasNumber : MethodName := ⟨RX2, "hasNumber", "(JII)Z"⟩
abbrev cX2_sameNumber : ByteArray := prog_4_method_12_code
def yX2_sameNumber : MethodName := ⟨RX2, "sameNumber", "(JII)J"⟩
abbrev cX2_lowest : ByteArray := prog_4_method_13_code
def yX2_lowest : MethodName := ⟨RX2, "lowest", "(I)J"⟩
abbrev cX2_highest : ByteArray := prog_4_method_14_code
def yX2_highest : MethodName := ⟨RX2, "highest", "(I)J"⟩
abbrev cX2_isBetween : ByteArray := prog_4_method_15_code
def yX2_isBetween : MethodName := ⟨RX2, "isBetween", "(JI)Z"⟩
abbrev cX2_isWhole : ByteArray := prog_4_method_16_code
def yX2_isWhole : MethodName := ⟨RX2, "isWhole", "(JIJ)Z"⟩
abbrev cX2_asDouble : ByteArray := prog_4_method_17_code
def yX2_asDouble : MethodName := ⟨RX2, "asDouble", "(JI)J"⟩
abbrev cX2_nearest : ByteArray := prog_4_method_18_code
def yX2_nearest : MethodName := ⟨RX2, "nearest", "(IJI)J"⟩
abbrev cX2_signedFloat : ByteArray := prog_4_method_19_code
def yX2_signedFloat : MethodName := ⟨RX2, "signedFloat", "(ZJ)J"⟩
abbrev cX2_signedDouble : ByteArray := prog_4_method_20_code
def yX2_signedDouble : MethodName := ⟨RX2, "signedDouble", "(ZJ)J"⟩
abbrev cX2_rounded : ByteArray := prog_4_method_21_code
def yX2_rounded : MethodName := ⟨RX2, "rounded", "(JIII)J"⟩
abbrev cX2_doubleOfFloat : ByteArray := prog_4_method_22_code
def yX2_doubleOfFloat : MethodName := ⟨RX2, "doubleOfFloat", "(J)J"⟩
abbrev cX2_floatOfDouble : ByteArray := prog_4_method_23_code
def yX2_floatOfDouble : MethodName := ⟨RX2, "floatOfDouble", "(J)J"⟩
abbrev cX2_hasWhole : ByteArray := prog_4_method_24_code
def yX2_hasWhole : MethodName := ⟨RX2, "hasWhole", "(J)Z"⟩
abbrev cX2_wholeOf : ByteArray := prog_4_method_25_code
def yX2_wholeOf : MethodName := ⟨RX2, "wholeOf", "(J)J"⟩
abbrev cX2_exponentOf : ByteArray := prog_4_method_26_code
def yX2_exponentOf : MethodName := ⟨RX2, "exponentOf", "(J)I"⟩
abbrev cX2_significand : ByteArray := prog_4_method_27_code
def yX2_significand : MethodName := ⟨RX2, "significand", "(J)J"⟩
def RX3 : String := "WidenDesk$Reader"
def TX3 : u_T := fun k => match k with
  | 0 => ("WidenDesk$Reader", "letters", "[I", true)
  | 1 => ("WidenDesk$Reader", "length", "I", false)
  | 2 => ("WidenDesk$Reader", "arrayType", "I", false)
  | 3 => ("WidenDesk$Reader", "count", "I", false)
  | 4 => ("WidenDesk$Reader", "types", "[I", true)
  | 5 => ("WidenDesk$Reader", "numbers", "[J", true)
  | _ => ("WidenDesk$Reader", "next", "I", false)
def tyX3 : Nat → FieldType := fun k => match k with
  | 0 => .array .int
  | 1 => .int
  | 2 => .int
  | 3 => .int
  | 4 => .array .int
  | 5 => .array .long
  | _ => .int
abbrev wsX30 : List Cond := u_ws RX3 TX3 7
theorem nmX3 : ∀ a, a < 7 → ∀ b, b < 7 → a ≠ b → (TX3 a).2.1 ≠ (TX3 b).2.1 := by decide +kernel
theorem tyX3_ok : ∀ k, k < 7 → parseFieldDescriptor (TX3 k).2.2.1 = some (tyX3 k) := by decide +kernel
abbrev cX3_init : ByteArray := prog_5_method_1_code
def yX3_init : MethodName := ⟨RX3, "<init>", "()V"⟩
abbrev cX3_append : ByteArray := prog_5_method_2_code
def yX3_append : MethodName := ⟨RX3, "append", "(I)Z"⟩
abbrev cX3_scan : ByteArray := prog_5_method_3_code
def yX3_scan : MethodName := ⟨RX3, "scan", "()I"⟩
abbrev cX3_letter : ByteArray := prog_5_method_4_code
def yX3_letter : MethodName := ⟨RX3, "letter", "()I"⟩
abbrev cX3_skip : ByteArray := prog_5_method_5_code
def yX3_skip : MethodName := ⟨RX3, "skip", "(C)Z"⟩
abbrev cX3_arrayTypeOf : ByteArray := prog_5_method_6_code
def yX3_arrayTypeOf : MethodName := ⟨RX3, "arrayTypeOf", "(I)I"⟩
abbrev cX3_primitiveOf : ByteArray := prog_5_method_7_code
def yX3_primitiveOf : MethodName := ⟨RX3, "primitiveOf", "(I)I"⟩
abbrev cX3_readElement : ByteArray := prog_5_method_8_code
def yX3_readElement : MethodName := ⟨RX3, "readElement", "()Z"⟩
abbrev cX3_readNumber : ByteArray := prog_5_method_9_code
def yX3_readNumber : MethodName := ⟨RX3, "readNumber", "(I)Z"⟩
abbrev cX3_isDigit : ByteArray := prog_5_method_10_code
def yX3_isDigit : MethodName := ⟨RX3, "isDigit", "(I)Z"⟩
abbrev cX3_keep : ByteArray := prog_5_method_11_code
def yX3_keep : MethodName := ⟨RX3, "keep", "(IJ)V"⟩
def RX4 : String := "WidenDesk$Rules"
def TX4 : u_T := fun k => match k with
  | _ => ("", "", "", false)
def tyX4 : Nat → FieldType := fun k => match k with
  | _ => .int
abbrev wsX40 : List Cond := u_ws RX4 TX4 0
theorem nmX4 : ∀ a, a < 0 → ∀ b, b < 0 → a ≠ b → (TX4 a).2.1 ≠ (TX4 b).2.1 := by decide +kernel
theorem tyX4_ok : ∀ k, k < 0 → parseFieldDescriptor (TX4 k).2.2.1 = some (tyX4 k) := by decide +kernel
abbrev cX4_isMark : ByteArray := prog_6_method_2_code
def yX4_isMark : MethodName := ⟨RX4, "isMark", "(I)Z"⟩
abbrev cX4_isNumeric : ByteArray := prog_6_method_3_code
def yX4_isNumeric : MethodName := ⟨RX4, "isNumeric", "(I)Z"⟩
abbrev cX4_fetchedForm : ByteArray := prog_6_method_4_code
def yX4_fetchedForm : MethodName := ⟨RX4, "fetchedForm", "(I)I"⟩
abbrev cX4_fetchFit : ByteArray := prog_6_method_5_code
def yX4_fetchFit : MethodName := ⟨RX4, "fetchFit", "(I)I"⟩
abbrev cX4_getFit : ByteArray := prog_6_method_6_code
def yX4_getFit : MethodName := ⟨RX4, "getFit", "(II)I"⟩
abbrev cX4_putFit : ByteArray := prog_6_method_7_code
def yX4_putFit : MethodName := ⟨RX4, "putFit", "(III)I"⟩
abbrev cX4_accepts : ByteArray := prog_6_method_8_code
def yX4_accepts : MethodName := ⟨RX4, "accepts", "(II)Z"⟩
abbrev cX4_placed : ByteArray := prog_6_method_9_code
def yX4_placed : MethodName := ⟨RX4, "placed", "(IZ)I"⟩
abbrev cX4_joinedType : ByteArray := prog_6_method_10_code
def yX4_joinedType : MethodName := ⟨RX4, "joinedType", "(II)I"⟩
def RX5 : String := "WidenDesk$Shelf"
def TX5 : u_T := fun k => match k with
  | 0 => ("WidenDesk$Shelf", "things", "[I", true)
  | 1 => ("WidenDesk$Shelf", "lengths", "[I", true)
  | 2 => ("WidenDesk$Shelf", "types", "[I", true)
  | _ => ("WidenDesk$Shelf", "codes", "[J", true)
def tyX5 : Nat → FieldType := fun k => match k with
  | 0 => .array .int
  | 1 => .array .int
  | 2 => .array .int
  | _ => .array .long
abbrev wsX50 : List Cond := u_ws RX5 TX5 4
theorem nmX5 : ∀ a, a < 4 → ∀ b, b < 4 → a ≠ b → (TX5 a).2.1 ≠ (TX5 b).2.1 := by decide +kernel
theorem tyX5_ok : ∀ k, k < 4 → parseFieldDescriptor (TX5 k).2.2.1 = some (tyX5 k) := by decide +kernel
abbrev cX5_init : ByteArray := prog_7_method_1_code
def yX5_init : MethodName := ⟨RX5, "<init>", "()V"⟩
abbrev cX5_prepare : ByteArray := prog_7_method_2_code
def yX5_prepare : MethodName := ⟨RX5, "prepare", "(III)V"⟩
abbrev cX5_has : ByteArray := prog_7_method_3_code
def yX5_has : MethodName := ⟨RX5, "has", "(II)Z"⟩
abbrev cX5_typeAt : ByteArray := prog_7_method_4_code
def yX5_typeAt : MethodName := ⟨RX5, "typeAt", "(II)I"⟩
abbrev cX5_codeAt : ByteArray := prog_7_method_5_code
def yX5_codeAt : MethodName := ⟨RX5, "codeAt", "(II)J"⟩
abbrev cX5_set : ByteArray := prog_7_method_6_code
def yX5_set : MethodName := ⟨RX5, "set", "(IIIJ)V"⟩
abbrev cX5_put : ByteArray := prog_7_method_7_code
def yX5_put : MethodName := ⟨RX5, "put", "(IIIJ)V"⟩
abbrev cX5_putAll : ByteArray := prog_7_method_8_code
def yX5_putAll : MethodName := ⟨RX5, "putAll", "(IIIII)V"⟩
abbrev cX5_agree : ByteArray := prog_7_method_9_code
def yX5_agree : MethodName := ⟨RX5, "agree", "(III)Z"⟩
abbrev cX5_stoodBefore : ByteArray := prog_7_method_10_code
def yX5_stoodBefore : MethodName := ⟨RX5, "stoodBefore", "(II)Z"⟩
def RX6 : String := "WidenDesk$Views"
def TX6 : u_T := fun k => match k with
  | 0 => ("WidenDesk$Views", "ways", "[I", true)
  | 1 => ("WidenDesk$Views", "kinds", "[I", true)
  | 2 => ("WidenDesk$Views", "outcomes", "[I", true)
  | _ => ("WidenDesk$Views", "count", "I", false)
def tyX6 : Nat → FieldType := fun k => match k with
  | 0 => .array .int
  | 1 => .array .int
  | 2 => .array .int
  | _ => .int
abbrev wsX60 : List Cond := u_ws RX6 TX6 4
theorem nmX6 : ∀ a, a < 4 → ∀ b, b < 4 → a ≠ b → (TX6 a).2.1 ≠ (TX6 b).2.1 := by decide +kernel
theorem tyX6_ok : ∀ k, k < 4 → parseFieldDescriptor (TX6 k).2.2.1 = some (tyX6 k) := by decide +kernel
abbrev cX6_init : ByteArray := prog_8_method_1_code
def yX6_init : MethodName := ⟨RX6, "<init>", "()V"⟩
abbrev cX6_add : ByteArray := prog_8_method_2_code
def yX6_add : MethodName := ⟨RX6, "add", "(III)Z"⟩
abbrev cX6_allow : ByteArray := prog_8_method_3_code
def yX6_allow : MethodName := ⟨RX6, "allow", "(I)Z"⟩
abbrev cX6_expected : ByteArray := prog_8_method_4_code
def yX6_expected : MethodName := ⟨RX6, "expected", "(III)I"⟩
def RX7 : String := "WidenDesk"
def TX7 : u_T := fun k => match k with
  | 0 => ("WidenDesk", "reader", "LWidenDesk$Reader;", true)
  | 1 => ("WidenDesk", "shelf", "LWidenDesk$Shelf;", true)
  | 2 => ("WidenDesk", "log", "LWidenDesk$Log;", true)
  | 3 => ("WidenDesk", "marks", "LWidenDesk$Marks;", true)
  | 4 => ("WidenDesk", "views", "LWidenDesk$Views;", true)
  | 5 => ("WidenDesk", "slots", "[I", true)
  | 6 => ("WidenDesk", "reasons", "[I", true)
  | 7 => ("WidenDesk", "reasonCount", "I", false)
  | 8 => ("WidenDesk", "handForm", "I", false)
  | 9 => ("WidenDesk", "handType", "I", false)
  | _ => ("WidenDesk", "handCode", "J", false)
def tyX7 : Nat → FieldType := fun k => match k with
  | 0 => .object "WidenDesk$Reader"
  | 1 => .object "WidenDesk$Shelf"
  | 2 => .object "WidenDesk$Log"
  | 3 => .object "WidenDesk$Marks"
  | 4 => .object "WidenDesk$Views"
  | 5 => .array .int
  | 6 => .array .int
  | 7 => .int
  | 8 => .int
  | 9 => .int
  | _ => .long
abbrev wsX70 : List Cond := u_ws RX7 TX7 11
theorem nmX7 : ∀ a, a < 11 → ∀ b, b < 11 → a ≠ b → (TX7 a).2.1 ≠ (TX7 b).2.1 := by decide +kernel
theorem tyX7_ok : ∀ k, k < 11 → parseFieldDescriptor (TX7 k).2.2.1 = some (tyX7 k) := by decide +kernel
abbrev cX7_init : ByteArray := prog_1_method_1_code
def yX7_init : MethodName := ⟨RX7, "<init>", "()V"⟩
abbrev cX7_write : ByteArray := prog_1_method_2_code
def yX7_write : MethodName := ⟨RX7, "write", "(I)I"⟩
abbrev cX7_wipe : ByteArray := prog_1_method_3_code
def yX7_wipe : MethodName := ⟨RX7, "wipe", "()I"⟩
abbrev cX7_fault : ByteArray := prog_1_method_4_code
def yX7_fault : MethodName := ⟨RX7, "fault", "()I"⟩
abbrev cX7_tell : ByteArray := prog_1_method_5_code
def yX7_tell : MethodName := ⟨RX7, "tell", "(I)I"⟩
abbrev cX7_about : ByteArray := prog_1_method_6_code
def yX7_about : MethodName := ⟨RX7, "about", "(I)I"⟩
abbrev cX7_make : ByteArray := prog_1_method_7_code
def yX7_make : MethodName := ⟨RX7, "make", "(III)I"⟩
abbrev cX7_share : ByteArray := prog_1_method_8_code
def yX7_share : MethodName := ⟨RX7, "share", "(II)I"⟩
abbrev cX7_thing : ByteArray := prog_1_method_9_code
def yX7_thing : MethodName := ⟨RX7, "thing", "(II)I"⟩
abbrev cX7_same : ByteArray := prog_1_method_10_code
def yX7_same : MethodName := ⟨RX7, "same", "(II)I"⟩
abbrev cX7_cell : ByteArray := prog_1_method_11_code
def yX7_cell : MethodName := ⟨RX7, "cell", "(III)J"⟩
abbrev cX7_give : ByteArray := prog_1_method_12_code
def yX7_give : MethodName := ⟨RX7, "give", "(IJ)I"⟩
abbrev cX7_mark : ByteArray := prog_1_method_13_code
def yX7_mark : MethodName := ⟨RX7, "mark", "(II)I"⟩
abbrev cX7_text : ByteArray := prog_1_method_14_code
def yX7_text : MethodName := ⟨RX7, "text", "(I)I"⟩
abbrev cX7_turn : ByteArray := prog_1_method_15_code
def yX7_turn : MethodName := ⟨RX7, "turn", "()I"⟩
abbrev cX7_hand : ByteArray := prog_1_method_16_code
def yX7_hand : MethodName := ⟨RX7, "hand", "(I)J"⟩
abbrev cX7_grow : ByteArray := prog_1_method_17_code
def yX7_grow : MethodName := ⟨RX7, "grow", "(I)I"⟩
abbrev cX7_take : ByteArray := prog_1_method_18_code
def yX7_take : MethodName := ⟨RX7, "take", "(III)I"⟩
abbrev cX7_fetch : ByteArray := prog_1_method_19_code
def yX7_fetch : MethodName := ⟨RX7, "fetch", "(II)I"⟩
abbrev cX7_lay : ByteArray := prog_1_method_20_code
def yX7_lay : MethodName := ⟨RX7, "lay", "(II)I"⟩
abbrev cX7_scatter : ByteArray := prog_1_method_21_code
def yX7_scatter : MethodName := ⟨RX7, "scatter", "(IJ)I"⟩
abbrev cX7_convert : ByteArray := prog_1_method_22_code
def yX7_convert : MethodName := ⟨RX7, "convert", "(III)I"⟩
abbrev cX7_report : ByteArray := prog_1_method_23_code
def yX7_report : MethodName := ⟨RX7, "report", "(I)I"⟩
abbrev cX7_chains : ByteArray := prog_1_method_24_code
def yX7_chains : MethodName := ⟨RX7, "chains", "(II)I"⟩
abbrev cX7_carry : ByteArray := prog_1_method_25_code
def yX7_carry : MethodName := ⟨RX7, "carry", "(III)I"⟩
abbrev cX7_ends : ByteArray := prog_1_method_26_code
def yX7_ends : MethodName := ⟨RX7, "ends", "(III)I"⟩
abbrev cX7_least : ByteArray := prog_1_method_27_code
def yX7_least : MethodName := ⟨RX7, "least", "(I)I"⟩
abbrev cX7_join : ByteArray := prog_1_method_28_code
def yX7_join : MethodName := ⟨RX7, "join", "(III)I"⟩
abbrev cX7_cut : ByteArray := prog_1_method_29_code
def yX7_cut : MethodName := ⟨RX7, "cut", "(III)I"⟩
abbrev cX7_alike : ByteArray := prog_1_method_30_code
def yX7_alike : MethodName := ⟨RX7, "alike", "(II)I"⟩
abbrev cX7_unlike : ByteArray := prog_1_method_31_code
def yX7_unlike : MethodName := ⟨RX7, "unlike", "(I)I"⟩
abbrev cX7_total : ByteArray := prog_1_method_32_code
def yX7_total : MethodName := ⟨RX7, "total", "(II)I"⟩
abbrev cX7_see : ByteArray := prog_1_method_33_code
def yX7_see : MethodName := ⟨RX7, "see", "(III)I"⟩
abbrev cX7_unsee : ByteArray := prog_1_method_34_code
def yX7_unsee : MethodName := ⟨RX7, "unsee", "()I"⟩
abbrev cX7_which : ByteArray := prog_1_method_35_code
def yX7_which : MethodName := ⟨RX7, "which", "()I"⟩
abbrev cX7_undo : ByteArray := prog_1_method_36_code
def yX7_undo : MethodName := ⟨RX7, "undo", "()I"⟩
abbrev cX7_isSlot : ByteArray := prog_1_method_37_code
def yX7_isSlot : MethodName := ⟨RX7, "isSlot", "(I)Z"⟩
abbrev cX7_isPrimitive : ByteArray := prog_1_method_38_code
def yX7_isPrimitive : MethodName := ⟨RX7, "isPrimitive", "(I)Z"⟩
abbrev cX7_isMarkNumber : ByteArray := prog_1_method_39_code
def yX7_isMarkNumber : MethodName := ⟨RX7, "isMarkNumber", "(I)Z"⟩
abbrev cX7_isWay : ByteArray := prog_1_method_40_code
def yX7_isWay : MethodName := ⟨RX7, "isWay", "(I)Z"⟩
abbrev cX7_thingIn : ByteArray := prog_1_method_41_code
def yX7_thingIn : MethodName := ⟨RX7, "thingIn", "(I)I"⟩
abbrev cX7_holdsArray : ByteArray := prog_1_method_42_code
def yX7_holdsArray : MethodName := ⟨RX7, "holdsArray", "(I)Z"⟩
abbrev cX7_hold : ByteArray := prog_1_method_43_code
def yX7_hold : MethodName := ⟨RX7, "hold", "(IIJ)V"⟩
abbrev cX7_shownCode : ByteArray := prog_1_method_44_code
def yX7_shownCode : MethodName := ⟨RX7, "shownCode", "(IJ)J"⟩
abbrev cX7_markIndex : ByteArray := prog_1_method_45_code
def yX7_markIndex : MethodName := ⟨RX7, "markIndex", "(IJ)J"⟩
abbrev cX7_fetchReason : ByteArray := prog_1_method_46_code
def yX7_fetchReason : MethodName := ⟨RX7, "fetchReason", "(II)I"⟩
abbrev cX7_replace : ByteArray := prog_1_method_47_code
def yX7_replace : MethodName := ⟨RX7, "replace", "(II)V"⟩
abbrev cX7_newRow : ByteArray := prog_1_method_48_code
def yX7_newRow : MethodName := ⟨RX7, "newRow", "(II)I"⟩
abbrev cX7_freeRow : ByteArray := prog_1_method_49_code
def yX7_freeRow : MethodName := ⟨RX7, "freeRow", "()I"⟩
abbrev cX7_isInSlots : ByteArray := prog_1_method_50_code
def yX7_isInSlots : MethodName := ⟨RX7, "isInSlots", "(I)Z"⟩
abbrev cX7_firstSlotOf : ByteArray := prog_1_method_51_code
def yX7_firstSlotOf : MethodName := ⟨RX7, "firstSlotOf", "(I)I"⟩
abbrev cX7_countArrays : ByteArray := prog_1_method_52_code
def yX7_countArrays : MethodName := ⟨RX7, "countArrays", "(Z)I"⟩
abbrev cX7_countEmptySlots : ByteArray := prog_1_method_53_code
def yX7_countEmptySlots : MethodName := ⟨RX7, "countEmptySlots", "()I"⟩
abbrev cX7_countFine : ByteArray := prog_1_method_54_code
def yX7_countFine : MethodName := ⟨RX7, "countFine", "()I"⟩
abbrev cX7_convertReason : ByteArray := prog_1_method_55_code
def yX7_convertReason : MethodName := ⟨RX7, "convertReason", "(IIII)I"⟩
abbrev cX7_convertElement : ByteArray := prog_1_method_56_code
def yX7_convertElement : MethodName := ⟨RX7, "convertElement", "(IIII)V"⟩
abbrev cX7_carryThrough : ByteArray := prog_1_method_57_code
def yX7_carryThrough : MethodName := ⟨RX7, "carryThrough", "(IJI)I"⟩
def RX8 : String := "WidenDeskModel"
def TX8 : u_T := fun k => match k with
  | 0 => ("WidenDeskModel", "text", "[I", true)
  | 1 => ("WidenDeskModel", "length", "I", false)
  | 2 => ("WidenDeskModel", "thing", "[I", true)
  | 3 => ("WidenDeskModel", "rowOf", "[I", true)
  | 4 => ("WidenDeskModel", "kindOf", "[I", true)
  | 5 => ("WidenDeskModel", "size", "[I", true)
  | 6 => ("WidenDeskModel", "form", "[I", true)
  | 7 => ("WidenDeskModel", "kind", "[I", true)
  | 8 => ("WidenDeskModel", "value", "[J", true)
  | 9 => ("WidenDeskModel", "number", "[I", true)
  | 10 => ("WidenDeskModel", "isStar", "[Z", true)
  | 11 => ("WidenDeskModel", "marks", "I", false)
  | 12 => ("WidenDeskModel", "handForm", "I", false)
  | 13 => ("WidenDeskModel", "handKind", "I", false)
  | 14 => ("WidenDeskModel", "handValue", "J", false)
  | 15 => ("WidenDeskModel", "reports", "[I", true)
  | 16 => ("WidenDeskModel", "reported", "I", false)
  | 17 => ("WidenDeskModel", "oldThing", "[I", true)
  | 18 => ("WidenDeskModel", "oldRow", "[I", true)
  | 19 => ("WidenDeskModel", "oldKindOf", "[I", true)
  | 20 => ("WidenDeskModel", "oldSize", "[I", true)
  | 21 => ("WidenDeskModel", "oldForm", "[I", true)
  | 22 => ("WidenDeskModel", "oldKind", "[I", true)
  | 23 => ("WidenDeskModel", "oldValue", "[J", true)
  | 24 => ("WidenDeskModel", "oldNumber", "[I", true)
  | 25 => ("WidenDeskModel", "oldMarks", "[I", true)
  | 26 => ("WidenDeskModel", "doings", "I", false)
  | 27 => ("WidenDeskModel", "next", "I", false)
  | 28 => ("WidenDeskModel", "seenHow", "[I", true)
  | 29 => ("WidenDeskModel", "seenKind", "[I", true)
  | 30 => ("WidenDeskModel", "seenReason", "[I", true)
  | 31 => ("WidenDeskModel", "seen", "I", false)
  | 32 => ("WidenDeskModel", "newKind", "I", false)
  | 33 => ("WidenDeskModel", "newSize", "I", false)
  | 34 => ("WidenDeskModel", "newForm", "[I", true)
  | 35 => ("WidenDeskModel", "newCellKind", "[I", true)
  | 36 => ("WidenDeskModel", "newValue", "[J", true)
  | 37 => ("WidenDeskModel", "gotForm", "I", false)
  | 38 => ("WidenDeskModel", "gotKind", "I", false)
  | 39 => ("WidenDeskModel", "gotValue", "J", false)
  | 40 => ("WidenDeskModel", "ends", "[J", true)
  | 41 => ("WidenDeskModel", "manyEnds", "[I", true)
  | 42 => ("WidenDeskModel", "whole", "J", false)
  | 43 => ("WidenDeskModel", "power", "I", false)
  | 44 => ("WidenDeskModel", "at", "I", false)
  | 45 => ("WidenDeskModel", "read", "J", false)
  | _ => ("WidenDeskModel", "isWhole", "Z", false)
def tyX8 : Nat → FieldType := fun k => match k with
  | 0 => .array .int
  | 1 => .int
  | 2 => .array .int
  | 3 => .array .int
  | 4 => .array .int
  | 5 => .array .int
  | 6 => .array .int
  | 7 => .array .int
  | 8 => .array .long
  | 9 => .array .int
  | 10 => .array .boolean
  | 11 => .int
  | 12 => .int
  | 13 => .int
  | 14 => .long
  | 15 => .array .int
  | 16 => .int
  | 17 => .array .int
  | 18 => .array .int
  | 19 => .array .int
  | 20 => .array .int
  | 21 => .array .int
  | 22 => .array .int
  | 23 => .array .long
  | 24 => .array .int
  | 25 => .array .int
  | 26 => .int
  | 27 => .int
  | 28 => .array .int
  | 29 => .array .int
  | 30 => .array .int
  | 31 => .int
  | 32 => .int
  | 33 => .int
  | 34 => .array .int
  | 35 => .array .int
  | 36 => .array .long
  | 37 => .int
  | 38 => .int
  | 39 => .long
  | 40 => .array .long
  | 41 => .array .int
  | 42 => .long
  | 43 => .int
  | 44 => .int
  | 45 => .long
  | _ => .boolean
abbrev wsX80 : List Cond := u_ws RX8 TX8 47
theorem nmX8 : ∀ a, a < 47 → ∀ b, b < 47 → a ≠ b → (TX8 a).2.1 ≠ (TX8 b).2.1 := by decide +kernel
theorem tyX8_ok : ∀ k, k < 47 → parseFieldDescriptor (TX8 k).2.2.1 = some (tyX8 k) := by decide +kernel
abbrev cX8_init : ByteArray := prog_10_method_1_code
def yX8_init : MethodName := ⟨RX8, "<init>", "()V"⟩
abbrev cX8_in : ByteArray := prog_10_method_3_code
def yX8_in : MethodName := ⟨RX8, "in", "(JJJ)Z"⟩
abbrev cX8_has : ByteArray := prog_10_method_4_code
def yX8_has : MethodName := ⟨RX8, "has", "(II)Z"⟩
abbrev cX8_isPlain : ByteArray := prog_10_method_5_code
def yX8_isPlain : MethodName := ⟨RX8, "isPlain", "(I)Z"⟩
abbrev cX8_lengthOf : ByteArray := prog_10_method_6_code
def yX8_lengthOf : MethodName := ⟨RX8, "lengthOf", "(J)I"⟩
abbrev cX8_takeApart : ByteArray := prog_10_method_7_code
def yX8_takeApart : MethodName := ⟨RX8, "takeApart", "(IJ)V"⟩
abbrev cX8_rounded : ByteArray := prog_10_method_8_code
def yX8_rounded : MethodName := ⟨RX8, "rounded", "(IJI)J"⟩
abbrev cX8_fits : ByteArray := prog_10_method_9_code
def yX8_fits : MethodName := ⟨RX8, "fits", "(IJ)Z"⟩
abbrev cX8_widens : ByteArray := prog_10_method_10_code
def yX8_widens : MethodName := ⟨RX8, "widens", "(II)Z"⟩
abbrev cX8_widened : ByteArray := prog_10_method_11_code
def yX8_widened : MethodName := ⟨RX8, "widened", "(IJI)J"⟩
abbrev cX8_given : ByteArray := prog_10_method_12_code
def yX8_given : MethodName := ⟨RX8, "given", "(IJ)J"⟩
abbrev cX8_isOne : ByteArray := prog_10_method_13_code
def yX8_isOne : MethodName := ⟨RX8, "isOne", "(IJI)Z"⟩
abbrev cX8_asOne : ByteArray := prog_10_method_14_code
def yX8_asOne : MethodName := ⟨RX8, "asOne", "(IJI)J"⟩
abbrev cX8_write : ByteArray := prog_10_method_15_code
def yX8_write : MethodName := ⟨RX8, "write", "(I)I"⟩
abbrev cX8_wipe : ByteArray := prog_10_method_16_code
def yX8_wipe : MethodName := ⟨RX8, "wipe", "()I"⟩
abbrev cX8_plainOf : ByteArray := prog_10_method_17_code
def yX8_plainOf : MethodName := ⟨RX8, "plainOf", "(I)I"⟩
abbrev cX8_rowKindOf : ByteArray := prog_10_method_18_code
def yX8_rowKindOf : MethodName := ⟨RX8, "rowKindOf", "(I)I"⟩
abbrev cX8_letter : ByteArray := prog_10_method_19_code
def yX8_letter : MethodName := ⟨RX8, "letter", "()I"⟩
abbrev cX8_readNumber : ByteArray := prog_10_method_20_code
def yX8_readNumber : MethodName := ⟨RX8, "readNumber", "(I)V"⟩
abbrev cX8_isNumber : ByteArray := prog_10_method_21_code
def yX8_isNumber : MethodName := ⟨RX8, "isNumber", "(IJ)Z"⟩
abbrev cX8_putTold : ByteArray := prog_10_method_22_code
def yX8_putTold : MethodName := ⟨RX8, "putTold", "(IIJ)V"⟩
abbrev cX8_toldOf : ByteArray := prog_10_method_23_code
def yX8_toldOf : MethodName := ⟨RX8, "toldOf", "(IJ)J"⟩
abbrev cX8_readCell : ByteArray := prog_10_method_24_code
def yX8_readCell : MethodName := ⟨RX8, "readCell", "()Z"⟩
abbrev cX8_readText : ByteArray := prog_10_method_25_code
def yX8_readText : MethodName := ⟨RX8, "readText", "()I"⟩
abbrev cX8_fault : ByteArray := prog_10_method_26_code
def yX8_fault : MethodName := ⟨RX8, "fault", "()I"⟩
abbrev cX8_isSlot : ByteArray := prog_10_method_27_code
def yX8_isSlot : MethodName := ⟨RX8, "isSlot", "(I)Z"⟩
abbrev cX8_holdsRow : ByteArray := prog_10_method_28_code
def yX8_holdsRow : MethodName := ⟨RX8, "holdsRow", "(I)Z"⟩
abbrev cX8_holdsPlain : ByteArray := prog_10_method_29_code
def yX8_holdsPlain : MethodName := ⟨RX8, "holdsPlain", "(I)Z"⟩
abbrev cX8_isHeld : ByteArray := prog_10_method_30_code
def yX8_isHeld : MethodName := ⟨RX8, "isHeld", "(I)Z"⟩
abbrev cX8_freeRow : ByteArray := prog_10_method_31_code
def yX8_freeRow : MethodName := ⟨RX8, "freeRow", "()I"⟩
abbrev cX8_note : ByteArray := prog_10_method_32_code
def yX8_note : MethodName := ⟨RX8, "note", "()V"⟩
abbrev cX8_undo : ByteArray := prog_10_method_33_code
def yX8_undo : MethodName := ⟨RX8, "undo", "()I"⟩
abbrev cX8_holdNew : ByteArray := prog_10_method_34_code
def yX8_holdNew : MethodName := ⟨RX8, "holdNew", "(I)V"⟩
abbrev cX8_tell : ByteArray := prog_10_method_35_code
def yX8_tell : MethodName := ⟨RX8, "tell", "(I)I"⟩
abbrev cX8_rowsHeld : ByteArray := prog_10_method_36_code
def yX8_rowsHeld : MethodName := ⟨RX8, "rowsHeld", "(I)I"⟩
abbrev cX8_nothings : ByteArray := prog_10_method_37_code
def yX8_nothings : MethodName := ⟨RX8, "nothings", "()I"⟩
abbrev cX8_fineOnes : ByteArray := prog_10_method_38_code
def yX8_fineOnes : MethodName := ⟨RX8, "fineOnes", "()I"⟩
abbrev cX8_about : ByteArray := prog_10_method_39_code
def yX8_about : MethodName := ⟨RX8, "about", "(I)I"⟩
abbrev cX8_make : ByteArray := prog_10_method_40_code
def yX8_make : MethodName := ⟨RX8, "make", "(III)I"⟩
abbrev cX8_share : ByteArray := prog_10_method_41_code
def yX8_share : MethodName := ⟨RX8, "share", "(II)I"⟩
abbrev cX8_thing : ByteArray := prog_10_method_42_code
def yX8_thing : MethodName := ⟨RX8, "thing", "(II)I"⟩
abbrev cX8_same : ByteArray := prog_10_method_43_code
def yX8_same : MethodName := ⟨RX8, "same", "(II)I"⟩
abbrev cX8_get : ByteArray := prog_10_method_44_code
def yX8_get : MethodName := ⟨RX8, "get", "(II)V"⟩
abbrev cX8_kindTold : ByteArray := prog_10_method_45_code
def yX8_kindTold : MethodName := ⟨RX8, "kindTold", "(IIJ)I"⟩
abbrev cX8_told : ByteArray := prog_10_method_46_code
def yX8_told : MethodName := ⟨RX8, "told", "(IJ)J"⟩
abbrev cX8_cell : ByteArray := prog_10_method_47_code
def yX8_cell : MethodName := ⟨RX8, "cell", "(III)J"⟩
abbrev cX8_hold : ByteArray := prog_10_method_48_code
def yX8_hold : MethodName := ⟨RX8, "hold", "(IIJ)V"⟩
abbrev cX8_give : ByteArray := prog_10_method_49_code
def yX8_give : MethodName := ⟨RX8, "give", "(IJ)I"⟩
abbrev cX8_mark : ByteArray := prog_10_method_50_code
def yX8_mark : MethodName := ⟨RX8, "mark", "(II)I"⟩
abbrev cX8_text : ByteArray := prog_10_method_51_code
def yX8_text : MethodName := ⟨RX8, "text", "(I)I"⟩
abbrev cX8_turn : ByteArray := prog_10_method_52_code
def yX8_turn : MethodName := ⟨RX8, "turn", "()I"⟩
abbrev cX8_hand : ByteArray := prog_10_method_53_code
def yX8_hand : MethodName := ⟨RX8, "hand", "(I)J"⟩
abbrev cX8_grow : ByteArray := prog_10_method_54_code
def yX8_grow : MethodName := ⟨RX8, "grow", "(I)I"⟩
abbrev cX8_withOut : ByteArray := prog_10_method_55_code
def yX8_withOut : MethodName := ⟨RX8, "withOut", "(IZ)I"⟩
abbrev cX8_reasonOf : ByteArray := prog_10_method_56_code
def yX8_reasonOf : MethodName := ⟨RX8, "reasonOf", "(I)I"⟩
abbrev cX8_takeFrom : ByteArray := prog_10_method_57_code
def yX8_takeFrom : MethodName := ⟨RX8, "takeFrom", "(II)I"⟩
abbrev cX8_bring : ByteArray := prog_10_method_58_code
def yX8_bring : MethodName := ⟨RX8, "bring", "(IIIJ)I"⟩
abbrev cX8_reasonToTake : ByteArray := prog_10_method_59_code
def yX8_reasonToTake : MethodName := ⟨RX8, "reasonToTake", "(III)I"⟩
abbrev cX8_reasonToFetch : ByteArray := prog_10_method_60_code
def yX8_reasonToFetch : MethodName := ⟨RX8, "reasonToFetch", "(II)I"⟩
abbrev cX8_reasonToLay : ByteArray := prog_10_method_61_code
def yX8_reasonToLay : MethodName := ⟨RX8, "reasonToLay", "(IIIIJ)I"⟩
abbrev cX8_put : ByteArray := prog_10_method_62_code
def yX8_put : MethodName := ⟨RX8, "put", "(IIIIJ)V"⟩
abbrev cX8_take : ByteArray := prog_10_method_63_code
def yX8_take : MethodName := ⟨RX8, "take", "(III)I"⟩
abbrev cX8_fetch : ByteArray := prog_10_method_64_code
def yX8_fetch : MethodName := ⟨RX8, "fetch", "(II)I"⟩
abbrev cX8_lay : ByteArray := prog_10_method_65_code
def yX8_lay : MethodName := ⟨RX8, "lay", "(II)I"⟩
abbrev cX8_scatter : ByteArray := prog_10_method_66_code
def yX8_scatter : MethodName := ⟨RX8, "scatter", "(IJ)I"⟩
abbrev cX8_convertCell : ByteArray := prog_10_method_67_code
def yX8_convertCell : MethodName := ⟨RX8, "convertCell", "(IIII)I"⟩
abbrev cX8_convert : ByteArray := prog_10_method_68_code
def yX8_convert : MethodName := ⟨RX8, "convert", "(III)I"⟩
abbrev cX8_report : ByteArray := prog_10_method_69_code
def yX8_report : MethodName := ⟨RX8, "report", "(I)I"⟩
abbrev cX8_chains : ByteArray := prog_10_method_70_code
def yX8_chains : MethodName := ⟨RX8, "chains", "(II)I"⟩
abbrev cX8_isWay : ByteArray := prog_10_method_71_code
def yX8_isWay : MethodName := ⟨RX8, "isWay", "(I)Z"⟩
abbrev cX8_carry : ByteArray := prog_10_method_72_code
def yX8_carry : MethodName := ⟨RX8, "carry", "(III)I"⟩
abbrev cX8_addEnd : ByteArray := prog_10_method_73_code
def yX8_addEnd : MethodName := ⟨RX8, "addEnd", "(IJ)V"⟩
abbrev cX8_ends : ByteArray := prog_10_method_74_code
def yX8_ends : MethodName := ⟨RX8, "ends", "(III)I"⟩
abbrev cX8_leastOf : ByteArray := prog_10_method_75_code
def yX8_leastOf : MethodName := ⟨RX8, "leastOf", "(II)I"⟩
abbrev cX8_least : ByteArray := prog_10_method_76_code
def yX8_least : MethodName := ⟨RX8, "least", "(I)I"⟩
abbrev cX8_joinedKind : ByteArray := prog_10_method_77_code
def yX8_joinedKind : MethodName := ⟨RX8, "joinedKind", "(II)I"⟩
abbrev cX8_joinCells : ByteArray := prog_10_method_78_code
def yX8_joinCells : MethodName := ⟨RX8, "joinCells", "(I)V"⟩
abbrev cX8_join : ByteArray := prog_10_method_79_code
def yX8_join : MethodName := ⟨RX8, "join", "(III)I"⟩
abbrev cX8_cut : ByteArray := prog_10_method_80_code
def yX8_cut : MethodName := ⟨RX8, "cut", "(III)I"⟩
abbrev cX8_areAlike : ByteArray := prog_10_method_81_code
def yX8_areAlike : MethodName := ⟨RX8, "areAlike", "(II)Z"⟩
abbrev cX8_alike : ByteArray := prog_10_method_82_code
def yX8_alike : MethodName := ⟨RX8, "alike", "(II)I"⟩
abbrev cX8_areSame : ByteArray := prog_10_method_83_code
def yX8_areSame : MethodName := ⟨RX8, "areSame", "(II)Z"⟩
abbrev cX8_unlike : ByteArray := prog_10_method_84_code
def yX8_unlike : MethodName := ⟨RX8, "unlike", "(I)I"⟩
abbrev cX8_total : ByteArray := prog_10_method_85_code
def yX8_total : MethodName := ⟨RX8, "total", "(II)I"⟩
abbrev cX8_see : ByteArray := prog_10_method_86_code
def yX8_see : MethodName := ⟨RX8, "see", "(III)I"⟩
abbrev cX8_unsee : ByteArray := prog_10_method_87_code
def yX8_unsee : MethodName := ⟨RX8, "unsee", "()I"⟩
abbrev cX8_reasonBy : ByteArray := prog_10_method_88_code
def yX8_reasonBy : MethodName := ⟨RX8, "reasonBy", "(III)I"⟩
abbrev cX8_which : ByteArray := prog_10_method_89_code
def yX8_which : MethodName := ⟨RX8, "which", "()I"⟩
def RJ11 : String := "java/lang/Character"
abbrev cJ11_isValidCodePoint_9a6ad : ByteArray := prog_11_method_11_code
def yJ11_isValidCodePoint_9a6ad : MethodName := ⟨RJ11, "isValidCodePoint", "(I)Z"⟩
abbrev cJ11_highSurrogate_5068e : ByteArray := prog_11_method_28_code
def yJ11_highSurrogate_5068e : MethodName := ⟨RJ11, "highSurrogate", "(I)C"⟩
abbrev cJ11_lowSurrogate_5068e : ByteArray := prog_11_method_29_code
def yJ11_lowSurrogate_5068e : MethodName := ⟨RJ11, "lowSurrogate", "(I)C"⟩
def RJ6 : String := "java/lang/Integer"
abbrev cJ6_numberOfLeadingZeros_0f7a4 : ByteArray := prog_12_method_47_code
def yJ6_numberOfLeadingZeros_0f7a4 : MethodName := ⟨RJ6, "numberOfLeadingZeros", "(I)I"⟩
def RJ13 : String := "java/lang/Long"
abbrev cJ13_numberOfLeadingZeros_95d88 : ByteArray := prog_13_method_48_code
def yJ13_numberOfLeadingZeros_95d88 : MethodName := ⟨RJ13, "numberOfLeadingZeros", "(J)I"⟩
def RJ9 : String := "java/lang/Math"
abbrev cJ9_max_7cf53 : ByteArray := prog_14_method_65_code
def yJ9_max_7cf53 : MethodName := ⟨RJ9, "max", "(II)I"⟩
abbrev cJ9_min_7cf53 : ByteArray := prog_14_method_69_code
def yJ9_min_7cf53 : MethodName := ⟨RJ9, "min", "(II)I"⟩
def RJ0 : String := "java/lang/String"
abbrev cJ0_length_8abf5 : ByteArray := prog_15_method_54_code
def yJ0_length_8abf5 : MethodName := ⟨RJ0, "length", "()I"⟩
abbrev cJ0_indexOf_0f7a4 : ByteArray := prog_15_method_79_code
def yJ0_indexOf_0f7a4 : MethodName := ⟨RJ0, "indexOf", "(I)I"⟩
abbrev cJ0_indexOf_7cf53 : ByteArray := prog_15_method_80_code
def yJ0_indexOf_7cf53 : MethodName := ⟨RJ0, "indexOf", "(II)I"⟩
abbrev cJ0_coder_7d493 : ByteArray := prog_15_method_152_code
def yJ0_coder_7d493 : MethodName := ⟨RJ0, "coder", "()B"⟩
abbrev cJ0_isLatin1_aae02 : ByteArray := prog_15_method_154_code
def yJ0_isLatin1_aae02 : MethodName := ⟨RJ0, "isLatin1", "()Z"⟩
abbrev cJ0_checkBoundsBeginEnd_23922 : ByteArray := prog_15_method_158_code
def yJ0_checkBoundsBeginEnd_23922 : MethodName := ⟨RJ0, "checkBoundsBeginEnd", "(III)V"⟩
def RJ1 : String := "java/lang/StringLatin1"
abbrev cJ1_canEncode_9a6ad : ByteArray := prog_16_method_4_code
def yJ1_canEncode_9a6ad : MethodName := ⟨RJ1, "canEncode", "(I)Z"⟩
abbrev cJ1_indexOf_4cfef : ByteArray := prog_16_method_22_code
def yJ1_indexOf_4cfef : MethodName := ⟨RJ1, "indexOf", "([BIII)I"⟩
abbrev cJ1_indexOfChar_4cfef : ByteArray := prog_16_method_23_code
def yJ1_indexOfChar_4cfef : MethodName := ⟨RJ1, "indexOfChar", "([BIII)I"⟩
def RJ2 : String := "java/lang/StringUTF16"
abbrev cJ2_getChar_3b067 : ByteArray := prog_17_method_5_code
def yJ2_getChar_3b067 : MethodName := ⟨RJ2, "getChar", "([BI)C"⟩
abbrev cJ2_length_9d52b : ByteArray := prog_17_method_6_code
def yJ2_length_9d52b : MethodName := ⟨RJ2, "length", "([B)I"⟩
abbrev cJ2_indexOf_4cfef : ByteArray := prog_17_method_40_code
def yJ2_indexOf_4cfef : MethodName := ⟨RJ2, "indexOf", "([BIII)I"⟩
abbrev cJ2_indexOfChar_4cfef : ByteArray := prog_17_method_47_code
def yJ2_indexOfChar_4cfef : MethodName := ⟨RJ2, "indexOfChar", "([BIII)I"⟩
abbrev cJ2_indexOfCharUnsafe_4cfef : ByteArray := prog_17_method_48_code
def yJ2_indexOfCharUnsafe_4cfef : MethodName := ⟨RJ2, "indexOfCharUnsafe", "([BIII)I"⟩
abbrev cJ2_indexOfSupplementary_4cfef : ByteArray := prog_17_method_49_code
def yJ2_indexOfSupplementary_4cfef : MethodName := ⟨RJ2, "indexOfSupplementary", "([BIII)I"⟩
abbrev cJ2_checkBoundsBeginEnd_d044e : ByteArray := prog_17_method_93_code
def yJ2_checkBoundsBeginEnd_d044e : MethodName := ⟨RJ2, "checkBoundsBeginEnd", "(II[B)V"⟩
def RJ3 : String := "jdk/internal/util/Preconditions"
abbrev cJ3_checkFromToIndex_8c36e : ByteArray := prog_18_method_12_code
def yJ3_checkFromToIndex_8c36e : MethodName := ⟨RJ3, "checkFromToIndex", "(IIILjava/util/function/BiFunction;)I"⟩
def RL : String := "WidenDeskLaw"
abbrev cL_law : ByteArray := code
def yL_law : MethodName := ⟨RL, "law", "([I)Z"⟩
abbrev vwCl : List vw_C := [(RX0, TX0, 8), (RX1, TX1, 2), (RX3, TX3, 7), (RX5, TX5, 4), (RX6, TX6, 4), (RX7, TX7, 11), (RX8, TX8, 47)]
end
section
/-! MY KIT, 1: the words, the world as a memory, the judgement G -/
/-- the tables' good words: what every contract here asks for, beside its own code -/
def TT : List Cond := lw_tbl.filter goodWord
theorem TT_in {w : Cond} (i : Nat) (h : lw_tbl[i]? = some w) (hg : goodWord w = true) : w ∈ TT := List.mem_filter.mpr ⟨List.mem_of_getElem? h, hg⟩
theorem TT_good {w : Cond} (h : w ∈ TT) : (w.onTables && w.keeps) = true ∨ ∃ ty, w = .arrayClass ty := good_of_word (List.mem_filter.mp h).2
/-- a memory: ints and longs, by object and slot (or index) -/
abbrev Mm : Type := (Nat → Nat → Int32) × (Nat → Nat → Int64)
def wI (μ : Mm) (o k : Nat) (v : Int32) : Mm := (fun a b => if a = o ∧ b = k then v else μ.1 a b, μ.2)
def wL (μ : Mm) (o k : Nat) (v : Int64) : Mm := (μ.1, fun a b => if a = o ∧ b = k then v else μ.2 a b)
/-- a shape: an array (kind 0 int, 1 long, 2 boolean; its length), or an object (its class, its slots: 0 int, 1 long, j+2 the object j) -/
abbrev Sh : Type := (Nat × Nat) ⊕ (Nat × List Nat)
/-- an environment: class numbers and slots, array classes, the objects' addresses, the text constant's two addresses -/
abbrev Ev : Type := va_G × (Nat → ClassId) × (Nat → Nat) × (Nat → Nat) × (Nat → Nat)
abbrev eD (ε : Ev) : va_G := ε.1
abbrev eA (ε : Ev) : Nat → ClassId := ε.2.1
abbrev ea (ε : Ev) : Nat → Nat := ε.2.2.1
def shv (ad : Nat → Nat) (μ : Mm) (o k : Nat) : Nat → Value
  | 0 => .int (μ.1 o k)
  | 1 => .long (μ.2 o k)
  | j + 2 => .ref (ad j)
def mkE (ε : Ev) (μ : Mm) (o : Nat) : Sh → va_E
  | .inl q => .inl (eA ε q.1, q.2, if q.1 = 1 then .inr (.inl (μ.2 o)) else .inl (μ.1 o))
  | .inr q => .inr (q.1, q.2.mapIdx (fun k kd => shv (ea ε) μ o k kd))
def wd (lay : List Sh) (ε : Ev) (μ : Mm) : va_W := lay.mapIdx (fun o sh => (ea ε o, mkE ε μ o sh))
def Aw (lay : List Sh) (ε : Ev) : Nat → Prop := fun q => ∃ o, o < lay.length ∧ q = ea ε o
def tysOf (ε : Ev) : List (ClassId × FieldType) := [(eA ε 0, .int), (eA ε 1, .long), (eA ε 2, .boolean)]
theorem wd_at {lay : List Sh} {ε : Ev} {μ : Mm} {o : Nat} {sh : Sh} (h : lay[o]? = some sh) : (wd lay ε μ)[o]? = some (ea ε o, mkE ε μ o sh) := by
  simp [wd, List.getElem?_mapIdx, h]
theorem wd_of {lay : List Sh} {ε : Ev} {μ : Mm} {o : Nat} {q : Nat × va_E} (h : (wd lay ε μ)[o]? = some q) : o < lay.length ∧ q.1 = ea ε o := by
  have hl : o < (wd lay ε μ).length := (List.getElem?_eq_some_iff.mp h).1
  have hl' : o < lay.length := by simpa [wd] using hl
  rw [wd_at (List.getElem?_eq_getElem hl')] at h
  cases h
  exact ⟨hl', rfl⟩
def Apart (lay : List Sh) (ε : Ev) : Prop := ∀ i j, i < lay.length → j < lay.length → ea ε i = ea ε j → i = j
theorem wd_D {lay : List Sh} {ε : Ev} {μ : Mm} (h : Apart lay ε) : va_D (Aw lay ε) (wd lay ε μ) := by
  refine ⟨fun i j p q hi hj e => ?_, fun k q hk => ?_⟩
  · obtain ⟨a1, a2⟩ := wd_of hi
    obtain ⟨b1, b2⟩ := wd_of hj
    exact h i j a1 b1 (by rw [← a2, ← b2]; exact e)
  · obtain ⟨a1, a2⟩ := wd_of hk
    exact ⟨k, a1, a2⟩
theorem shv_wI_ne {ad : Nat → Nat} {μ : Mm} {o k v o' k' : Nat} {x : Int32} (h : ¬ (o' = o ∧ k' = k)) : shv ad (wI μ o k x) o' k' v = shv ad μ o' k' v := by
  match v with
  | 0 => simp [shv, wI, h]
  | 1 => rfl
  | j + 2 => rfl
theorem shv_wL_ne {ad : Nat → Nat} {μ : Mm} {o k v o' k' : Nat} {x : Int64} (h : ¬ (o' = o ∧ k' = k)) : shv ad (wL μ o k x) o' k' v = shv ad μ o' k' v := by
  match v with
  | 0 => rfl
  | 1 => simp [shv, wL, h]
  | j + 2 => rfl
theorem mkE_wI_ne {ε : Ev} {μ : Mm} {o k o' : Nat} {x : Int32} (h : o' ≠ o) (sh : Sh) : mkE ε (wI μ o k x) o' sh = mkE ε μ o' sh := by
  rcases sh with q | q
  · have e : (wI μ o k x).1 o' = μ.1 o' := by funext b; simp [wI, h]
    simp only [mkE, e]
    rfl
  · simp only [mkE]
    congr 2
    congr 1
    funext a b
    exact shv_wI_ne (fun z => h z.1)
theorem mkE_wL_ne {ε : Ev} {μ : Mm} {o k o' : Nat} {x : Int64} (h : o' ≠ o) (sh : Sh) : mkE ε (wL μ o k x) o' sh = mkE ε μ o' sh := by
  rcases sh with q | q
  · have e : (wL μ o k x).2 o' = μ.2 o' := by funext b; simp [wL, h]
    simp only [mkE, e]
    rfl
  · simp only [mkE]
    congr 2
    congr 1
    funext a b
    exact shv_wL_ne (fun z => h z.1)
theorem wd_set {lay : List Sh} {ε : Ev} {μ μ' : Mm} {o : Nat} {sh : Sh} {en : va_E} (h : lay[o]? = some sh) (he : mkE ε μ' o sh = en) (hn : ∀ o' sh', o' ≠ o → mkE ε μ' o' sh' = mkE ε μ o' sh') : (wd lay ε μ).set o (ea ε o, en) = wd lay ε μ' := by
  apply List.ext_getElem?
  intro i
  by_cases hi : i = o
  · subst hi
    have hl : i < (wd lay ε μ).length := by simpa [wd] using (List.getElem?_eq_some_iff.mp h).1
    rw [List.getElem?_set_self hl, wd_at h, he]
  · rw [List.getElem?_set_ne (Ne.symm hi)]
    simp only [wd, List.getElem?_mapIdx]
    cases lay[i]? with
    | none => rfl
    | some sh' => simp only [Option.map]; rw [hn i sh' hi]
theorem wd_setI {lay : List Sh} {ε : Ev} {μ : Mm} {o k ci : Nat} {ks : List Nat} {x : Int32} (h : lay[o]? = some (.inr (ci, ks))) (hk : ks[k]? = some 0) : (wd lay ε μ).set o (ea ε o, .inr (ci, (ks.mapIdx (fun k kd => shv (ea ε) μ o k kd)).set k (.int x))) = wd lay ε (wI μ o k x) := by
  refine wd_set h ?_ (fun o' sh' ho => mkE_wI_ne ho sh')
  simp only [mkE]
  congr 2
  apply List.ext_getElem?
  intro i
  by_cases hi : i = k
  · subst hi
    have hl : i < (ks.mapIdx (fun k kd => shv (ea ε) μ o k kd)).length := by simpa using (List.getElem?_eq_some_iff.mp hk).1
    rw [List.getElem?_set_self hl, List.getElem?_mapIdx, hk]
    simp [shv, wI]
  · rw [List.getElem?_set_ne (Ne.symm hi), List.getElem?_mapIdx, List.getElem?_mapIdx]
    cases ks[i]? with
    | none => rfl
    | some z => simp only [Option.map]; rw [shv_wI_ne (fun q => hi q.2)]
theorem wd_setL {lay : List Sh} {ε : Ev} {μ : Mm} {o k ci : Nat} {ks : List Nat} {x : Int64} (h : lay[o]? = some (.inr (ci, ks))) (hk : ks[k]? = some 1) : (wd lay ε μ).set o (ea ε o, .inr (ci, (ks.mapIdx (fun k kd => shv (ea ε) μ o k kd)).set k (.long x))) = wd lay ε (wL μ o k x) := by
  refine wd_set h ?_ (fun o' sh' ho => mkE_wL_ne ho sh')
  simp only [mkE]
  congr 2
  apply List.ext_getElem?
  intro i
  by_cases hi : i = k
  · subst hi
    have hl : i < (ks.mapIdx (fun k kd => shv (ea ε) μ o k kd)).length := by simpa using (List.getElem?_eq_some_iff.mp hk).1
    rw [List.getElem?_set_self hl, List.getElem?_mapIdx, hk]
    simp [shv, wL]
  · rw [List.getElem?_set_ne (Ne.symm hi), List.getElem?_mapIdx, List.getElem?_mapIdx]
    cases ks[i]? with
    | none => rfl
    | some z => simp only [Option.map]; rw [shv_wL_ne (fun q => hi q.2)]
theorem wd_setA {lay : List Sh} {ε : Ev} {μ : Mm} {o t n i : Nat} {x : Int32} (h : lay[o]? = some (.inl (t, n))) (ht : t ≠ 1) : (wd lay ε μ).set o (ea ε o, .inl (eA ε t, n, .inl (upd (μ.1 o) i x))) = wd lay ε (wI μ o i x) := by
  refine wd_set h ?_ (fun o' sh' ho => mkE_wI_ne ho sh')
  have e : (wI μ o i x).1 o = upd (μ.1 o) i x := by funext b; simp [wI, upd]
  simp [mkE, ht, e]
theorem wd_setAL {lay : List Sh} {ε : Ev} {μ : Mm} {o n i : Nat} {x : Int64} (h : lay[o]? = some (.inl (1, n))) : (wd lay ε μ).set o (ea ε o, .inl (eA ε 1, n, .inr (.inl (vp_updL (μ.2 o) i x)))) = wd lay ε (wL μ o i x) := by
  refine wd_set h ?_ (fun o' sh' ho => mkE_wL_ne ho sh')
  have e : (wL μ o i x).2 o = vp_updL (μ.2 o) i x := by funext b; simp [wL, vp_updL]
  simp [mkE, e]
def inb (i : Int32) (n : Nat) : Bool := !(decide (i < 0) || decide (n ≤ i.toNatClampNeg))
theorem inb_in {i : Int32} {n : Nat} (h : inb i n = true) : vp_in i n := by
  simp only [inb, Bool.not_eq_true', Bool.or_eq_false_iff, decide_eq_false_iff_not] at h
  exact fun z => z.elim h.1 h.2
theorem ite_some {α : Type} {c : Prop} [Decidable c] {a : Option α} {r : α} (h : (if c then a else none) = some r) : c ∧ a = some r := by
  split at h
  · exact ⟨by assumption, h⟩
  · cases h
theorem bind_some {α β : Type} {a : Option α} {f : α → Option β} {r : β} (h : a.bind f = some r) : ∃ q, a = some q ∧ f q = some r := by
  cases a with
  | none => cases h
  | some q => exact ⟨q, rfl, h⟩
/-! the judgement -/
abbrev Kx : Type := Program × Launch × Env × Room × State × MethodId × Array Value × List Frame × Method × Code × (State → Prop)
abbrev kp (κ : Kx) : Program := κ.1
abbrev kl (κ : Kx) : Launch := κ.2.1
abbrev ke (κ : Kx) : Env := κ.2.2.1
abbrev kR (κ : Kx) : Room := κ.2.2.2.1
abbrev kS (κ : Kx) : State := κ.2.2.2.2.1
abbrev km (κ : Kx) : MethodId := κ.2.2.2.2.2.1
abbrev ka (κ : Kx) : Array Value := κ.2.2.2.2.2.2.1
abbrev kb (κ : Kx) : List Frame := κ.2.2.2.2.2.2.2.1
abbrev kt (κ : Kx) : Method := κ.2.2.2.2.2.2.2.2.1
abbrev kc (κ : Kx) : Code := κ.2.2.2.2.2.2.2.2.2.1
abbrev kQ (κ : Kx) : State → Prop := κ.2.2.2.2.2.2.2.2.2.2
abbrev Wk (κ : Kx) (H : Heap) (locs : List Loc) (g : JFrame) : Prop := W (kp κ) (kl κ) (ke κ) (kR κ) (kS κ) (km κ) (ka κ) (kb κ) (kt κ) (kc κ) H locs 0 0 (kQ κ) g
/-- from every heap with V and locals with L, the machine at pc with stack st comes to the end -/
def G (κ : Kx) (V : Heap → List Loc → Prop) (nL pc : Nat) (L : List (Nat × Value)) (st : List Value) : Prop :=
  ∀ (H : Heap) (locs : List Loc) (ls : Array Slot), V H locs → lv_has ls nL L → Wk κ H locs (F0 (km κ) pc ls st)
def rmd (d : Nat) : Room := { frames := d, cells := 0, slots := 0, locals := 120 * d }
def nestW : List Cond := [.methodLinkNest "WidenDesk$Reader" 61 ⟨"WidenDesk", "isPrimitive", "(I)Z"⟩ "WidenDesk", .methodLinkNest "WidenDesk$Reader" 83 ⟨"WidenDesk$Numbers", "isBetween", "(JI)Z"⟩ "WidenDesk", .methodLinkNest "WidenDesk$Shelf" 27 ⟨"WidenDesk", "isPrimitive", "(I)Z"⟩ "WidenDesk", .methodLinkNest "WidenDesk$Rules" 9 ⟨"WidenDesk", "isPrimitive", "(I)Z"⟩ "WidenDesk", .methodLinkNest "WidenDesk" 234 ⟨"WidenDesk$Numbers", "countChains", "(III)I"⟩ "WidenDesk"]
def Nst (U : State) : Prop := ∀ w ∈ nestW, va_Nw w U
theorem Nst.warm {s U : State} (hW : s.WarmedH U.vm) (h : Nst s) : Nst U := by
  intro w hw
  have h1 := h w hw
  simp only [nestW, List.mem_cons, List.not_mem_nil, or_false] at hw
  rcases hw with rfl | rfl | rfl | rfl | rfl <;> exact va_Nw.warmM hW h1
theorem Nst.same {u U : State} (hv : u.vm = U.vm) (h : Nst u) : Nst U := by
  intro w hw
  have h1 := h w hw
  simp only [nestW, List.mem_cons, List.not_mem_nil, or_false] at hw
  rcases hw with rfl | rfl | rfl | rfl | rfl <;> exact va_Nw.same rfl hv h1
/-- what a walk stands on: the machine, the code, the class, the words, the room, the return type -/
def Cf (κ : Kx) (cc : ByteArray) (nL : Nat) (own : String) (ret : Option FieldType) (d : Nat) : Prop :=
  CallFix (kp κ) (km κ) (kc κ) cc nL (kS κ) (ka κ) TT own ∧ (kt κ).sig.returnType = ret ∧ (kt κ).locks = false ∧ Nst (kS κ) ∧ kR κ = rmd d
/-- the text constant of the reader, and String's COMPACT_STRINGS -/
def Sx (ε : Ev) (A : Nat → Prop) (U : State) (H : Heap) : Prop :=
  vk_R "WidenDesk$Reader" 54 "zbcsijfd" (ε.2.2.2.1 0) U ∧ vk_S 1 [8] [[122, 98, 99, 115, 105, 106, 102, 100]] ε.2.2.2.1 ε.2.2.2.2 A U H ∧ va_Z "java/lang/String" "COMPACT_STRINGS" "Z" (.int 1) A U H
theorem Sx.same {ε : Ev} {A : Nat → Prop} {u U : State} {H : Heap} (hv : u.vm = U.vm) (h : Sx ε A u H) : Sx ε A U H :=
  ⟨vk_R.same hv.symm h.1, vk_S.moved (by rw [hv]; exact Vm.Alike.refl _) h.2.1, va_Z.moved (by rw [hv]; exact Vm.Alike.refl _) h.2.2⟩
theorem Sx.warm {ε : Ev} {A : Nat → Prop} {s U : State} {H : Heap} (hW : s.WarmedH U.vm) (h : Sx ε A s H) : Sx ε A U H :=
  ⟨vk_R.warm hW h.1, vk_S.moved hW.alike h.2.1, va_Z.moved hW.alike h.2.2⟩
theorem Sx.kept {ε : Ev} {A : Nat → Prop} {U : State} {H H1 : Heap} (h : Sx ε A U H) (hq : ∀ a : Nat, a < H.size → ¬ A a → H1[a]? = H[a]?) : Sx ε A U H1 :=
  ⟨h.1, vk_S.kept h.2.1 hq, va_Z.kept h.2.2 hq⟩
/-- the fixed part of a world at a state -/
def En (ε : Ev) (lay : List Sh) (U : State) : Prop := va_K (eD ε) vwCl (tysOf ε) U ∧ Apart lay ε ∧ Sx ε (Aw lay ε) U U.heap
theorem En.same {ε : Ev} {lay : List Sh} {u U : State} (hv : u.vm = U.vm) (hh : u.heap = U.heap) (h : En ε lay u) : En ε lay U :=
  ⟨va_K.moved (by rw [hv]; exact Vm.Alike.refl _) h.1, h.2.1, by rw [← hh]; exact h.2.2.same hv⟩
theorem En.go {ε : Ev} {lay : List Sh} {s U : State} {H : Heap} {locs : List Loc} (h : En ε lay s) (hS : va_S (Aw lay ε) s.heap H locs) (hU : U.heap = H) (hW : s.WarmedH U.vm) : En ε lay U :=
  ⟨va_K.moved hW.alike h.1, h.2.1, by rw [hU]; exact (h.2.2.warm hW).kept hS.2.1⟩
def Vw (κ : Kx) (ε : Ev) (lay : List Sh) (μ : Mm) : Heap → List Loc → Prop := fun H locs => va_P (eD ε) vwCl (wd lay ε μ) H ∧ va_S (Aw lay ε) (kS κ).heap H locs
def Vp (κ : Kx) : Heap → List Loc → Prop := fun H locs => H = (kS κ).heap ∧ locs = []
/-- a contract over a world: its start, its end -/
def Pw (ε : Ev) (lay : List Sh) (argv : List Value) (μ : Mm) : Array Value → State → Prop := fun a U => a = argv.toArray ∧ En ε lay U ∧ Nst U ∧ va_P (eD ε) vwCl (wd lay ε μ) U.heap
def Qw (ε : Ev) (lay : List Sh) (rv : Option Value) (μ : Mm) : Array Value → State → Outcome → State → Prop := fun _ st o t => o = .returned rv ∧ va_P (eD ε) vwCl (wd lay ε μ) t.heap ∧ va_F (Aw lay ε) st t
def Pp (argv : List Value) : Array Value → State → Prop := fun a U => a = argv.toArray ∧ Nst U
def Qp (rv : Option Value) : Array Value → State → Outcome → State → Prop := fun _ st o t => o = .returned rv ∧ t.heap = st.heap
def Sp (l : Launch) (ε : Ev) (lay : List Sh) (y : MethodName) (cc : ByteArray) (nL : Nat) (ret : Option FieldType) (d : Nat) (argv : List Value) (rv : Option Value) (μ μ' : Mm) : Prop :=
  Met l y (.code y cc nL ret :: TT) (rmd d) (Pw ε lay argv μ) (Qw ε lay rv μ') 0 0 (Aw lay ε)
def Sq (l : Launch) (y : MethodName) (cc : ByteArray) (nL : Nat) (ret : Option FieldType) (d : Nat) (argv : List Value) (rv : Option Value) : Prop :=
  Met l y (.code y cc nL ret :: TT) (rmd d) (Pp argv) (Qp rv) 0 0 (fun _ => False)
def Rw (κ : Kx) (ε : Ev) (lay : List Sh) (rv : Option Value) (μ : Mm) : Prop := kQ κ = MQ (kb κ) (Qw ε lay rv μ) (ka κ) (kS κ) 0 0 (Aw lay ε)
def Rp (κ : Kx) (rv : Option Value) : Prop := kQ κ = MQ (kb κ) (Qp rv) (ka κ) (kS κ) 0 0 (fun _ => False)
theorem Sp.of {l : Launch} {ε : Ev} {lay : List Sh} {y : MethodName} {cc : ByteArray} {nL : Nat} {ret : Option FieldType} {d : Nat} {argv : List Value} {rv : Option Value} {μ μ' : Mm} (L : List (Nat × Value)) (hL : lv_args 0 argv = L) (hy : plainName y.cls = true) (hn : (lg_sl argv).length ≤ nL)
    (body : ∀ κ : Kx, kl κ = l → Cf κ cc nL y.cls ret d → En ε lay (kS κ) → Rw κ ε lay rv μ' → G κ (Vw κ ε lay μ) nL 0 L []) : Sp l ε lay y cc nL ret d argv rv μ μ' := by
  refine Met.ofW (cc := cc) (maxL := nL) (ret := ret) hy rfl ?_
  intro p e s m args below meth c s₁ B hml hv
  obtain ⟨rfl, hE, hN, hP⟩ := hv
  have hts := atoms_spec (ws := .code y cc nL ret :: TT) B.pre
  have hl := lv_entry argv (n := nL) hn
  rw [lg_entry_eq]
  rw [hL] at hl
  exact body (p, l, e, rmd d, s, m, argv.toArray, below, meth, c, MQ below (Qw ε lay rv μ') argv.toArray s 0 0 (Aw lay ε)) rfl ⟨⟨B.exec, B.bytes, hml, findClass_of_methodNamed B.named, fun w h => hts w (List.mem_cons_of_mem _ h)⟩, B.returns, B.notSynchronized, hN, rfl⟩ hE rfl s.heap [] _ ⟨hP, va_S.rf⟩ hl
theorem Sq.of {l : Launch} {y : MethodName} {cc : ByteArray} {nL : Nat} {ret : Option FieldType} {d : Nat} {argv : List Value} {rv : Option Value} (L : List (Nat × Value)) (hL : lv_args 0 argv = L) (hy : plainName y.cls = true) (hn : (lg_sl argv).length ≤ nL)
    (body : ∀ κ : Kx, kl κ = l → Cf κ cc nL y.cls ret d → Rp κ rv → G κ (Vp κ) nL 0 L []) : Sq l y cc nL ret d argv rv := by
  refine Met.ofW (cc := cc) (maxL := nL) (ret := ret) hy rfl ?_
  intro p e s m args below meth c s₁ B hml hv
  obtain ⟨rfl, hN⟩ := hv
  have hts := atoms_spec (ws := .code y cc nL ret :: TT) B.pre
  have hl := lv_entry argv (n := nL) hn
  rw [lg_entry_eq]
  rw [hL] at hl
  exact body (p, l, e, rmd d, s, m, argv.toArray, below, meth, c, MQ below (Qp rv) argv.toArray s 0 0 (fun _ => False)) rfl ⟨⟨B.exec, B.bytes, hml, findClass_of_methodNamed B.named, fun w h => hts w (List.mem_cons_of_mem _ h)⟩, B.returns, B.notSynchronized, hN, rfl⟩ rfl s.heap [] _ ⟨rfl, rfl⟩ hl
end
section
def jdiv (x y : Int32) : Int32 := x / y
def jrem (x y : Int32) : Int32 := x - x / y * y
def jldiv (x y : Int64) : Int64 := x / y
def jlrem (x y : Int64) : Int64 := x - x / y * y
def jshl (x y : Int32) : Int32 := x <<< (y &&& 31)
def jshr (x y : Int32) : Int32 := x >>> (y &&& 31)
def jushr (x y : Int32) : Int32 := (x.toUInt32 >>> (y.toUInt32 &&& Int32.toUInt32 31)).toInt32
def jlshl (x : Int64) (y : Int32) : Int64 := x <<< (y.toInt64 &&& 63)
def jlshr (x : Int64) (y : Int32) : Int64 := x >>> (y.toInt64 &&& 63)
def jlushr (x : Int64) (y : Int32) : Int64 := (x.toUInt64 >>> (y.toInt64.toUInt64 &&& Int64.toUInt64 63)).toInt64
def ji2b (x : Int32) : Int32 := x.toInt8.toInt32
def ji2s (x : Int32) : Int32 := x.toInt16.toInt32
def ji2c (x : Int32) : Int32 := (x.toUInt32 % 65536).toInt32
def bnd {α β γ : Type} (a : Option (α × β)) (f : α → β → Option γ) : Option γ := match a with
  | none => none
  | some q => f q.1 q.2
theorem bnd_of {α β γ : Type} {a : Option (α × β)} {f : α → β → Option γ} {r : γ} (h : bnd a f = some r) : ∃ x y, a = some (x, y) ∧ f x y = some r := by
  cases a with
  | none => cases h
  | some q => exact ⟨q.1, q.2, rfl, h⟩
/-- a boolean answer: 0 or 1 -/
def rbz (v : Int32) : Bool := decide (v = 0) || decide (v = 1)
theorem rbz_of {v : Int32} (h : rbz v = true) : v = 0 ∨ v = 1 := by simpa [rbz] using h
theorem rbz_narrow {v : Int32} (h : rbz v = true) : narrow .boolean (.int v) = .int v := by
  rcases rbz_of h with rfl | rfl <;> rfl
theorem rbz_nar {v : Int32} (h : rbz v = true) : vp_nar .boolean v = v := by
  rcases rbz_of h with rfl | rfl <;> rfl
theorem g_iconst {κ : Kx} {V : Heap → List Loc → Prop} {nL pc : Nat} {L : List (Nat × Value)} {st : List Value} {cc : ByteArray} {own : String} {ret : Option FieldType} {d : Nat} (C : Cf κ cc nL own ret d) {n : Int} {v : Int32} (hd : decode cc pc = .ok (.iconst n, 1)) (hv : Int32.ofInt n = v) (k : G κ V nL (pc + 1) L (.int v :: st)) : G κ V nL pc L (st) :=
  fun H locs ls hV hl => lv_iconst C.1.1 C.1.2.1 hd hv (k H locs ls hV hl)
theorem g_bipush {κ : Kx} {V : Heap → List Loc → Prop} {nL pc : Nat} {L : List (Nat × Value)} {st : List Value} {cc : ByteArray} {own : String} {ret : Option FieldType} {d : Nat} (C : Cf κ cc nL own ret d) {n : Int} {v : Int32} (hd : decode cc pc = .ok (.bipush n, 2)) (hv : (Int8.ofInt n).toInt32 = v) (k : G κ V nL (pc + 2) L (.int v :: st)) : G κ V nL pc L (st) :=
  fun H locs ls hV hl => lv_bipush C.1.1 C.1.2.1 hd hv (k H locs ls hV hl)
theorem g_sipush {κ : Kx} {V : Heap → List Loc → Prop} {nL pc : Nat} {L : List (Nat × Value)} {st : List Value} {cc : ByteArray} {own : String} {ret : Option FieldType} {d : Nat} (C : Cf κ cc nL own ret d) {n : Int} {v : Int32} (hd : decode cc pc = .ok (.sipush n, 3)) (hv : (Int16.ofInt n).toInt32 = v) (k : G κ V nL (pc + 3) L (.int v :: st)) : G κ V nL pc L (st) :=
  fun H locs ls hV hl => lv_sipush C.1.1 C.1.2.1 hd hv (k H locs ls hV hl)
theorem g_lconst {κ : Kx} {V : Heap → List Loc → Prop} {nL pc : Nat} {L : List (Nat × Value)} {st : List Value} {cc : ByteArray} {own : String} {ret : Option FieldType} {d : Nat} (C : Cf κ cc nL own ret d) {n : Fin 2} {v : Int64} (hd : decode cc pc = .ok (.lconst n, 1)) (hv : Int64.ofNat (n : Nat) = v) (k : G κ V nL (pc + 1) L (.long v :: st)) : G κ V nL pc L (st) :=
  fun H locs ls hV hl => lv_lconst C.1.1 C.1.2.1 hd hv (k H locs ls hV hl)
theorem g_iload_n {κ : Kx} {V : Heap → List Loc → Prop} {nL pc : Nat} {L : List (Nat × Value)} {st : List Value} {cc : ByteArray} {own : String} {ret : Option FieldType} {d : Nat} (C : Cf κ cc nL own ret d) {k : Fin 4} {i j : Nat} {x : Int32} (hd : decode cc pc = .ok (.iload_n k, 1)) (hi : (k : Nat) = i) (hj : L[j]? = some (i, .int x)) (kk : G κ V nL (pc + 1) L (.int x :: st)) : G κ V nL pc L st :=
  fun H locs ls hV hl => lv_iload_n C.1.1 C.1.2.1 hd hi (lv_at hl j hj) (kk H locs ls hV hl)
theorem g_iload {κ : Kx} {V : Heap → List Loc → Prop} {nL pc : Nat} {L : List (Nat × Value)} {st : List Value} {cc : ByteArray} {own : String} {ret : Option FieldType} {d : Nat} (C : Cf κ cc nL own ret d) {i j : Nat} {x : Int32} (hd : decode cc pc = .ok (.iload i, 2)) (hj : L[j]? = some (i, .int x)) (kk : G κ V nL (pc + 2) L (.int x :: st)) : G κ V nL pc L st :=
  fun H locs ls hV hl => lv_iload C.1.1 C.1.2.1 hd (lv_at hl j hj) (kk H locs ls hV hl)
theorem g_lload_n {κ : Kx} {V : Heap → List Loc → Prop} {nL pc : Nat} {L : List (Nat × Value)} {st : List Value} {cc : ByteArray} {own : String} {ret : Option FieldType} {d : Nat} (C : Cf κ cc nL own ret d) {k : Fin 4} {i j : Nat} {x : Int64} (hd : decode cc pc = .ok (.lload_n k, 1)) (hi : (k : Nat) = i) (hj : L[j]? = some (i, .long x)) (kk : G κ V nL (pc + 1) L (.long x :: st)) : G κ V nL pc L st :=
  fun H locs ls hV hl => lv_lload_n C.1.1 C.1.2.1 hd hi (lv_at hl j hj) (kk H locs ls hV hl)
theorem g_lload {κ : Kx} {V : Heap → List Loc → Prop} {nL pc : Nat} {L : List (Nat × Value)} {st : List Value} {cc : ByteArray} {own : String} {ret : Option FieldType} {d : Nat} (C : Cf κ cc nL own ret d) {i j : Nat} {x : Int64} (hd : decode cc pc = .ok (.lload i, 2)) (hj : L[j]? = some (i, .long x)) (kk : G κ V nL (pc + 2) L (.long x :: st)) : G κ V nL pc L st :=
  fun H locs ls hV hl => lv_lload C.1.1 C.1.2.1 hd (lv_at hl j hj) (kk H locs ls hV hl)
theorem g_aload_n {κ : Kx} {V : Heap → List Loc → Prop} {nL pc : Nat} {L : List (Nat × Value)} {st : List Value} {cc : ByteArray} {own : String} {ret : Option FieldType} {d : Nat} (C : Cf κ cc nL own ret d) {k : Fin 4} {i j : Nat} {x : Nat} (hd : decode cc pc = .ok (.aload_n k, 1)) (hi : (k : Nat) = i) (hj : L[j]? = some (i, .ref x)) (kk : G κ V nL (pc + 1) L (.ref x :: st)) : G κ V nL pc L st :=
  fun H locs ls hV hl => lv_aload_n C.1.1 C.1.2.1 hd hi (lv_at hl j hj) (kk H locs ls hV hl)
theorem g_aload {κ : Kx} {V : Heap → List Loc → Prop} {nL pc : Nat} {L : List (Nat × Value)} {st : List Value} {cc : ByteArray} {own : String} {ret : Option FieldType} {d : Nat} (C : Cf κ cc nL own ret d) {i j : Nat} {x : Nat} (hd : decode cc pc = .ok (.aload i, 2)) (hj : L[j]? = some (i, .ref x)) (kk : G κ V nL (pc + 2) L (.ref x :: st)) : G κ V nL pc L st :=
  fun H locs ls hV hl => lv_aload C.1.1 C.1.2.1 hd (lv_at hl j hj) (kk H locs ls hV hl)
theorem g_istore_n {κ : Kx} {V : Heap → List Loc → Prop} {nL pc : Nat} {L : List (Nat × Value)} {st : List Value} {cc : ByteArray} {own : String} {ret : Option FieldType} {d : Nat} (C : Cf κ cc nL own ret d) {k : Fin 4} {i : Nat} {x : Int32} {L' : List (Nat × Value)} (hd : decode cc pc = .ok (.istore_n k, 1)) (hi : (k : Nat) = i) (hn : i < nL) (hL : (i, Value.int x) :: L.filter (fun q => !(q.1 == i) && !(q.1 + 1 == i && q.2.category == 2)) = L') (kk : G κ V nL (pc + 1) L' st) : G κ V nL pc L (.int x :: st) :=
  fun H locs ls hV hl => lv_istore_n C.1.1 C.1.2.1 hd hi hl hn hL (fun ls' hl' => kk H locs ls' hV hl')
theorem g_istore {κ : Kx} {V : Heap → List Loc → Prop} {nL pc : Nat} {L : List (Nat × Value)} {st : List Value} {cc : ByteArray} {own : String} {ret : Option FieldType} {d : Nat} (C : Cf κ cc nL own ret d) {i : Nat} {x : Int32} {L' : List (Nat × Value)} (hd : decode cc pc = .ok (.istore i, 2)) (hn : i < nL) (hL : (i, Value.int x) :: L.filter (fun q => !(q.1 == i) && !(q.1 + 1 == i && q.2.category == 2)) = L') (kk : G κ V nL (pc + 2) L' st) : G κ V nL pc L (.int x :: st) :=
  fun H locs ls hV hl => lv_istore C.1.1 C.1.2.1 hd hl hn hL (fun ls' hl' => kk H locs ls' hV hl')
theorem g_lstore_n {κ : Kx} {V : Heap → List Loc → Prop} {nL pc : Nat} {L : List (Nat × Value)} {st : List Value} {cc : ByteArray} {own : String} {ret : Option FieldType} {d : Nat} (C : Cf κ cc nL own ret d) {k : Fin 4} {i : Nat} {x : Int64} {L' : List (Nat × Value)} (hd : decode cc pc = .ok (.lstore_n k, 1)) (hi : (k : Nat) = i) (hn : i + 1 < nL) (hL : (i, Value.long x) :: L.filter (fun q => !(q.1 == i) && (!(q.1 == i + 1) && !(q.1 + 1 == i && q.2.category == 2))) = L') (kk : G κ V nL (pc + 1) L' st) : G κ V nL pc L (.long x :: st) :=
  fun H locs ls hV hl => lv_lstore_n C.1.1 C.1.2.1 hd hi hl hn hL (fun ls' hl' => kk H locs ls' hV hl')
theorem g_lstore {κ : Kx} {V : Heap → List Loc → Prop} {nL pc : Nat} {L : List (Nat × Value)} {st : List Value} {cc : ByteArray} {own : String} {ret : Option FieldType} {d : Nat} (C : Cf κ cc nL own ret d) {i : Nat} {x : Int64} {L' : List (Nat × Value)} (hd : decode cc pc = .ok (.lstore i, 2)) (hn : i + 1 < nL) (hL : (i, Value.long x) :: L.filter (fun q => !(q.1 == i) && (!(q.1 == i + 1) && !(q.1 + 1 == i && q.2.category == 2))) = L') (kk : G κ V nL (pc + 2) L' st) : G κ V nL pc L (.long x :: st) :=
  fun H locs ls hV hl => lv_lstore C.1.1 C.1.2.1 hd hl hn hL (fun ls' hl' => kk H locs ls' hV hl')
theorem g_iinc {κ : Kx} {V : Heap → List Loc → Prop} {nL pc : Nat} {L : List (Nat × Value)} {st : List Value} {cc : ByteArray} {own : String} {ret : Option FieldType} {d : Nat} (C : Cf κ cc nL own ret d) {i j : Nat} {n : Int} {x v : Int32} {L' : List (Nat × Value)} (hd : decode cc pc = .ok (.iinc i n, 3)) (hj : L[j]? = some (i, .int x)) (hv : x + Int32.ofInt n = v) (hn : i < nL) (hL : (i, Value.int v) :: L.filter (fun q => !(q.1 == i) && !(q.1 + 1 == i && q.2.category == 2)) = L') (kk : G κ V nL (pc + 3) L' st) : G κ V nL pc L st :=
  fun H locs ls hV hl => lv_iinc C.1.1 C.1.2.1 hd hl hj hv hn hL (fun ls' hl' => kk H locs ls' hV hl')
theorem g_iadd {κ : Kx} {V : Heap → List Loc → Prop} {nL pc : Nat} {L : List (Nat × Value)} {st : List Value} {cc : ByteArray} {own : String} {ret : Option FieldType} {d : Nat} (C : Cf κ cc nL own ret d) {x y : Int32} (hd : decode cc pc = .ok (.iadd, 1)) (k : G κ V nL (pc + 1) L (.int (x + y) :: st)) : G κ V nL pc L (.int y :: .int x :: st) :=
  fun H locs ls hV hl => lv_iadd C.1.1 C.1.2.1 hd (k H locs ls hV hl)
theorem g_isub {κ : Kx} {V : Heap → List Loc → Prop} {nL pc : Nat} {L : List (Nat × Value)} {st : List Value} {cc : ByteArray} {own : String} {ret : Option FieldType} {d : Nat} (C : Cf κ cc nL own ret d) {x y : Int32} (hd : decode cc pc = .ok (.isub, 1)) (k : G κ V nL (pc + 1) L (.int (x - y) :: st)) : G κ V nL pc L (.int y :: .int x :: st) :=
  fun H locs ls hV hl => lv_isub C.1.1 C.1.2.1 hd (k H locs ls hV hl)
theorem g_imul {κ : Kx} {V : Heap → List Loc → Prop} {nL pc : Nat} {L : List (Nat × Value)} {st : List Value} {cc : ByteArray} {own : String} {ret : Option FieldType} {d : Nat} (C : Cf κ cc nL own ret d) {x y : Int32} (hd : decode cc pc = .ok (.imul, 1)) (k : G κ V nL (pc + 1) L (.int (x * y) :: st)) : G κ V nL pc L (.int y :: .int x :: st) :=
  fun H locs ls hV hl => lv_imul C.1.1 C.1.2.1 hd (k H locs ls hV hl)
theorem g_iand {κ : Kx} {V : Heap → List Loc → Prop} {nL pc : Nat} {L : List (Nat × Value)} {st : List Value} {cc : ByteArray} {own : String} {ret : Option FieldType} {d : Nat} (C : Cf κ cc nL own ret d) {x y : Int32} (hd : decode cc pc = .ok (.iand, 1)) (k : G κ V nL (pc + 1) L (.int (x &&& y) :: st)) : G κ V nL pc L (.int y :: .int x :: st) :=
  fun H locs ls hV hl => lv_iand C.1.1 C.1.2.1 hd (k H locs ls hV hl)
theorem g_ior {κ : Kx} {V : Heap → List Loc → Prop} {nL pc : Nat} {L : List (Nat × Value)} {st : List Value} {cc : ByteArray} {own : String} {ret : Option FieldType} {d : Nat} (C : Cf κ cc nL own ret d) {x y : Int32} (hd : decode cc pc = .ok (.ior, 1)) (k : G κ V nL (pc + 1) L (.int (x ||| y) :: st)) : G κ V nL pc L (.int y :: .int x :: st) :=
  fun H locs ls hV hl => lv_ior C.1.1 C.1.2.1 hd (k H locs ls hV hl)
theorem g_ixor {κ : Kx} {V : Heap → List Loc → Prop} {nL pc : Nat} {L : List (Nat × Value)} {st : List Value} {cc : ByteArray} {own : String} {ret : Option FieldType} {d : Nat} (C : Cf κ cc nL own ret d) {x y : Int32} (hd : decode cc pc = .ok (.ixor, 1)) (k : G κ V nL (pc + 1) L (.int (x ^^^ y) :: st)) : G κ V nL pc L (.int y :: .int x :: st) :=
  fun H locs ls hV hl => lv_ixor C.1.1 C.1.2.1 hd (k H locs ls hV hl)
theorem g_ladd {κ : Kx} {V : Heap → List Loc → Prop} {nL pc : Nat} {L : List (Nat × Value)} {st : List Value} {cc : ByteArray} {own : String} {ret : Option FieldType} {d : Nat} (C : Cf κ cc nL own ret d) {x y : Int64} (hd : decode cc pc = .ok (.ladd, 1)) (k : G κ V nL (pc + 1) L (.long (x + y) :: st)) : G κ V nL pc L (.long y :: .long x :: st) :=
  fun H locs ls hV hl => lv_ladd C.1.1 C.1.2.1 hd (k H locs ls hV hl)
theorem g_lsub {κ : Kx} {V : Heap → List Loc → Prop} {nL pc : Nat} {L : List (Nat × Value)} {st : List Value} {cc : ByteArray} {own : String} {ret : Option FieldType} {d : Nat} (C : Cf κ cc nL own ret d) {x y : Int64} (hd : decode cc pc = .ok (.lsub, 1)) (k : G κ V nL (pc + 1) L (.long (x - y) :: st)) : G κ V nL pc L (.long y :: .long x :: st) :=
  fun H locs ls hV hl => lv_lsub C.1.1 C.1.2.1 hd (k H locs ls hV hl)
theorem g_lmul {κ : Kx} {V : Heap → List Loc → Prop} {nL pc : Nat} {L : List (Nat × Value)} {st : List Value} {cc : ByteArray} {own : String} {ret : Option FieldType} {d : Nat} (C : Cf κ cc nL own ret d) {x y : Int64} (hd : decode cc pc = .ok (.lmul, 1)) (k : G κ V nL (pc + 1) L (.long (x * y) :: st)) : G κ V nL pc L (.long y :: .long x :: st) :=
  fun H locs ls hV hl => lv_lmul C.1.1 C.1.2.1 hd (k H locs ls hV hl)
theorem g_land {κ : Kx} {V : Heap → List Loc → Prop} {nL pc : Nat} {L : List (Nat × Value)} {st : List Value} {cc : ByteArray} {own : String} {ret : Option FieldType} {d : Nat} (C : Cf κ cc nL own ret d) {x y : Int64} (hd : decode cc pc = .ok (.land, 1)) (k : G κ V nL (pc + 1) L (.long (x &&& y) :: st)) : G κ V nL pc L (.long y :: .long x :: st) :=
  fun H locs ls hV hl => lv_land C.1.1 C.1.2.1 hd (k H locs ls hV hl)
theorem g_lor {κ : Kx} {V : Heap → List Loc → Prop} {nL pc : Nat} {L : List (Nat × Value)} {st : List Value} {cc : ByteArray} {own : String} {ret : Option FieldType} {d : Nat} (C : Cf κ cc nL own ret d) {x y : Int64} (hd : decode cc pc = .ok (.lor, 1)) (k : G κ V nL (pc + 1) L (.long (x ||| y) :: st)) : G κ V nL pc L (.long y :: .long x :: st) :=
  fun H locs ls hV hl => lv_lor C.1.1 C.1.2.1 hd (k H locs ls hV hl)
theorem g_idiv {κ : Kx} {V : Heap → List Loc → Prop} {nL pc : Nat} {L : List (Nat × Value)} {st : List Value} {cc : ByteArray} {own : String} {ret : Option FieldType} {d : Nat} (C : Cf κ cc nL own ret d) {x y : Int32} (hd : decode cc pc = .ok (.idiv, 1)) (hne : ¬ y = 0) (k : G κ V nL (pc + 1) L (.int (jdiv x y) :: st)) : G κ V nL pc L (.int y :: .int x :: st) :=
  fun H locs ls hV hl => lv_idiv C.1.1 C.1.2.1 hd hne (k H locs ls hV hl)
theorem g_irem {κ : Kx} {V : Heap → List Loc → Prop} {nL pc : Nat} {L : List (Nat × Value)} {st : List Value} {cc : ByteArray} {own : String} {ret : Option FieldType} {d : Nat} (C : Cf κ cc nL own ret d) {x y : Int32} (hd : decode cc pc = .ok (.irem, 1)) (hne : ¬ y = 0) (k : G κ V nL (pc + 1) L (.int (jrem x y) :: st)) : G κ V nL pc L (.int y :: .int x :: st) :=
  fun H locs ls hV hl => lv_irem C.1.1 C.1.2.1 hd hne (k H locs ls hV hl)
theorem g_ldiv {κ : Kx} {V : Heap → List Loc → Prop} {nL pc : Nat} {L : List (Nat × Value)} {st : List Value} {cc : ByteArray} {own : String} {ret : Option FieldType} {d : Nat} (C : Cf κ cc nL own ret d) {x y : Int64} (hd : decode cc pc = .ok (.ldiv, 1)) (hne : ¬ y = 0) (k : G κ V nL (pc + 1) L (.long (jldiv x y) :: st)) : G κ V nL pc L (.long y :: .long x :: st) :=
  fun H locs ls hV hl => lv_ldiv C.1.1 C.1.2.1 hd hne (k H locs ls hV hl)
theorem g_lrem {κ : Kx} {V : Heap → List Loc → Prop} {nL pc : Nat} {L : List (Nat × Value)} {st : List Value} {cc : ByteArray} {own : String} {ret : Option FieldType} {d : Nat} (C : Cf κ cc nL own ret d) {x y : Int64} (hd : decode cc pc = .ok (.lrem, 1)) (hne : ¬ y = 0) (k : G κ V nL (pc + 1) L (.long (jlrem x y) :: st)) : G κ V nL pc L (.long y :: .long x :: st) :=
  fun H locs ls hV hl => lv_lrem C.1.1 C.1.2.1 hd hne (k H locs ls hV hl)
theorem g_ineg {κ : Kx} {V : Heap → List Loc → Prop} {nL pc : Nat} {L : List (Nat × Value)} {st : List Value} {cc : ByteArray} {own : String} {ret : Option FieldType} {d : Nat} (C : Cf κ cc nL own ret d) {x : Int32} (hd : decode cc pc = .ok (.ineg, 1)) (k : G κ V nL (pc + 1) L (.int (-x) :: st)) : G κ V nL pc L (.int x :: st) :=
  fun H locs ls hV hl => lv_ineg C.1.1 C.1.2.1 hd (k H locs ls hV hl)
theorem g_lneg {κ : Kx} {V : Heap → List Loc → Prop} {nL pc : Nat} {L : List (Nat × Value)} {st : List Value} {cc : ByteArray} {own : String} {ret : Option FieldType} {d : Nat} (C : Cf κ cc nL own ret d) {x : Int64} (hd : decode cc pc = .ok (.lneg, 1)) (k : G κ V nL (pc + 1) L (.long (-x) :: st)) : G κ V nL pc L (.long x :: st) :=
  fun H locs ls hV hl => lv_lneg C.1.1 C.1.2.1 hd (k H locs ls hV hl)
theorem g_ishl {κ : Kx} {V : Heap → List Loc → Prop} {nL pc : Nat} {L : List (Nat × Value)} {st : List Value} {cc : ByteArray} {own : String} {ret : Option FieldType} {d : Nat} (C : Cf κ cc nL own ret d) {x y : Int32} (hd : decode cc pc = .ok (.ishl, 1)) (k : G κ V nL (pc + 1) L (.int (jshl x y) :: st)) : G κ V nL pc L (.int y :: .int x :: st) :=
  fun H locs ls hV hl => lv_ishl C.1.1 C.1.2.1 hd (k H locs ls hV hl)
theorem g_ishr {κ : Kx} {V : Heap → List Loc → Prop} {nL pc : Nat} {L : List (Nat × Value)} {st : List Value} {cc : ByteArray} {own : String} {ret : Option FieldType} {d : Nat} (C : Cf κ cc nL own ret d) {x y : Int32} (hd : decode cc pc = .ok (.ishr, 1)) (k : G κ V nL (pc + 1) L (.int (jshr x y) :: st)) : G κ V nL pc L (.int y :: .int x :: st) :=
  fun H locs ls hV hl => lv_ishr C.1.1 C.1.2.1 hd (k H locs ls hV hl)
theorem g_iushr {κ : Kx} {V : Heap → List Loc → Prop} {nL pc : Nat} {L : List (Nat × Value)} {st : List Value} {cc : ByteArray} {own : String} {ret : Option FieldType} {d : Nat} (C : Cf κ cc nL own ret d) {x y : Int32} (hd : decode cc pc = .ok (.iushr, 1)) (k : G κ V nL (pc + 1) L (.int (jushr x y) :: st)) : G κ V nL pc L (.int y :: .int x :: st) :=
  fun H locs ls hV hl => lv_iushr C.1.1 C.1.2.1 hd rfl (k H locs ls hV hl)
theorem g_lshl {κ : Kx} {V : Heap → List Loc → Prop} {nL pc : Nat} {L : List (Nat × Value)} {st : List Value} {cc : ByteArray} {own : String} {ret : Option FieldType} {d : Nat} (C : Cf κ cc nL own ret d) {x : Int64} {y : Int32} (hd : decode cc pc = .ok (.lshl, 1)) (k : G κ V nL (pc + 1) L (.long (jlshl x y) :: st)) : G κ V nL pc L (.int y :: .long x :: st) :=
  fun H locs ls hV hl => lv_lshl C.1.1 C.1.2.1 hd rfl (k H locs ls hV hl)
theorem g_lshr {κ : Kx} {V : Heap → List Loc → Prop} {nL pc : Nat} {L : List (Nat × Value)} {st : List Value} {cc : ByteArray} {own : String} {ret : Option FieldType} {d : Nat} (C : Cf κ cc nL own ret d) {x : Int64} {y : Int32} (hd : decode cc pc = .ok (.lshr, 1)) (k : G κ V nL (pc + 1) L (.long (jlshr x y) :: st)) : G κ V nL pc L (.int y :: .long x :: st) :=
  fun H locs ls hV hl => lv_lshr C.1.1 C.1.2.1 hd rfl (k H locs ls hV hl)
theorem g_lushr {κ : Kx} {V : Heap → List Loc → Prop} {nL pc : Nat} {L : List (Nat × Value)} {st : List Value} {cc : ByteArray} {own : String} {ret : Option FieldType} {d : Nat} (C : Cf κ cc nL own ret d) {x : Int64} {y : Int32} (hd : decode cc pc = .ok (.lushr, 1)) (k : G κ V nL (pc + 1) L (.long (jlushr x y) :: st)) : G κ V nL pc L (.int y :: .long x :: st) :=
  fun H locs ls hV hl => lv_lushr C.1.1 C.1.2.1 hd rfl (k H locs ls hV hl)
theorem g_i2l {κ : Kx} {V : Heap → List Loc → Prop} {nL pc : Nat} {L : List (Nat × Value)} {st : List Value} {cc : ByteArray} {own : String} {ret : Option FieldType} {d : Nat} (C : Cf κ cc nL own ret d) {x : Int32} (hd : decode cc pc = .ok (.i2l, 1)) (k : G κ V nL (pc + 1) L (.long (x.toInt64) :: st)) : G κ V nL pc L (.int x :: st) :=
  fun H locs ls hV hl => lv_i2l C.1.1 C.1.2.1 hd rfl (k H locs ls hV hl)
theorem g_l2i {κ : Kx} {V : Heap → List Loc → Prop} {nL pc : Nat} {L : List (Nat × Value)} {st : List Value} {cc : ByteArray} {own : String} {ret : Option FieldType} {d : Nat} (C : Cf κ cc nL own ret d) {x : Int64} (hd : decode cc pc = .ok (.l2i, 1)) (k : G κ V nL (pc + 1) L (.int (x.toInt32) :: st)) : G κ V nL pc L (.long x :: st) :=
  fun H locs ls hV hl => lv_l2i C.1.1 C.1.2.1 hd rfl (k H locs ls hV hl)
theorem g_i2b {κ : Kx} {V : Heap → List Loc → Prop} {nL pc : Nat} {L : List (Nat × Value)} {st : List Value} {cc : ByteArray} {own : String} {ret : Option FieldType} {d : Nat} (C : Cf κ cc nL own ret d) {x : Int32} (hd : decode cc pc = .ok (.i2b, 1)) (k : G κ V nL (pc + 1) L (.int (ji2b x) :: st)) : G κ V nL pc L (.int x :: st) :=
  fun H locs ls hV hl => lv_i2b C.1.1 C.1.2.1 hd rfl (k H locs ls hV hl)
theorem g_i2s {κ : Kx} {V : Heap → List Loc → Prop} {nL pc : Nat} {L : List (Nat × Value)} {st : List Value} {cc : ByteArray} {own : String} {ret : Option FieldType} {d : Nat} (C : Cf κ cc nL own ret d) {x : Int32} (hd : decode cc pc = .ok (.i2s, 1)) (k : G κ V nL (pc + 1) L (.int (ji2s x) :: st)) : G κ V nL pc L (.int x :: st) :=
  fun H locs ls hV hl => lv_i2s C.1.1 C.1.2.1 hd rfl (k H locs ls hV hl)
theorem g_i2c {κ : Kx} {V : Heap → List Loc → Prop} {nL pc : Nat} {L : List (Nat × Value)} {st : List Value} {cc : ByteArray} {own : String} {ret : Option FieldType} {d : Nat} (C : Cf κ cc nL own ret d) {x : Int32} (hd : decode cc pc = .ok (.i2c, 1)) (k : G κ V nL (pc + 1) L (.int (ji2c x) :: st)) : G κ V nL pc L (.int x :: st) :=
  fun H locs ls hV hl => lv_i2c C.1.1 C.1.2.1 hd rfl (k H locs ls hV hl)
theorem g_dup {κ : Kx} {V : Heap → List Loc → Prop} {nL pc : Nat} {L : List (Nat × Value)} {st : List Value} {cc : ByteArray} {own : String} {ret : Option FieldType} {d : Nat} (C : Cf κ cc nL own ret d) {a : Value} (hd : decode cc pc = .ok (.dup, 1)) (hc : a.category = 1) (k : G κ V nL (pc + 1) L (a :: a :: st)) : G κ V nL pc L (a :: st) :=
  fun H locs ls hV hl => lv_dup C.1.1 C.1.2.1 hd hc (k H locs ls hV hl)
theorem g_dup2 {κ : Kx} {V : Heap → List Loc → Prop} {nL pc : Nat} {L : List (Nat × Value)} {st : List Value} {cc : ByteArray} {own : String} {ret : Option FieldType} {d : Nat} (C : Cf κ cc nL own ret d) {a b : Value} (hd : decode cc pc = .ok (.dup2, 1)) (ha : a.category = 1) (hb : b.category = 1) (k : G κ V nL (pc + 1) L (a :: b :: a :: b :: st)) : G κ V nL pc L (a :: b :: st) :=
  fun H locs ls hV hl => lv_dup2_11 C.1.1 C.1.2.1 hd ha hb (k H locs ls hV hl)
theorem g_pop {κ : Kx} {V : Heap → List Loc → Prop} {nL pc : Nat} {L : List (Nat × Value)} {st : List Value} {cc : ByteArray} {own : String} {ret : Option FieldType} {d : Nat} (C : Cf κ cc nL own ret d) {a : Value} (hd : decode cc pc = .ok (.pop, 1)) (hc : a.category = 1) (k : G κ V nL (pc + 1) L (st)) : G κ V nL pc L (a :: st) :=
  fun H locs ls hV hl => lv_pop C.1.1 C.1.2.1 hd hc (k H locs ls hV hl)
theorem g_if_eq {κ : Kx} {V : Heap → List Loc → Prop} {nL pc : Nat} {L : List (Nat × Value)} {st : List Value} {cc : ByteArray} {own : String} {ret : Option FieldType} {d : Nat} (C : Cf κ cc nL own ret d) {α : Type} {A B : Option α} {out : α} {x : Int32} {off : Int} {tgt : Nat} (hd : decode cc pc = .ok (.ifCond .eq off, 3)) (ht : (pc : Int) + off = (tgt : Int)) (hf : (if x = 0 then A else B) = some out) (kt : x = 0 → A = some out → G κ V nL tgt L st) (kf : ¬ x = 0 → B = some out → G κ V nL (pc + 3) L st) : G κ V nL pc L (.int x :: st) :=
  fun H locs ls hV hl => lv_if_eq C.1.1 C.1.2.1 hd ht (fun h => kt h (by rw [if_pos h] at hf; exact hf) H locs ls hV hl) (fun h => kf h (by rw [if_neg h] at hf; exact hf) H locs ls hV hl)
theorem g_icmp_eq {κ : Kx} {V : Heap → List Loc → Prop} {nL pc : Nat} {L : List (Nat × Value)} {st : List Value} {cc : ByteArray} {own : String} {ret : Option FieldType} {d : Nat} (C : Cf κ cc nL own ret d) {α : Type} {A B : Option α} {out : α} {x y : Int32} {off : Int} {tgt : Nat} (hd : decode cc pc = .ok (.if_icmp .eq off, 3)) (ht : (pc : Int) + off = (tgt : Int)) (hf : (if x = y then A else B) = some out) (kt : x = y → A = some out → G κ V nL tgt L st) (kf : ¬ x = y → B = some out → G κ V nL (pc + 3) L st) : G κ V nL pc L (.int y :: .int x :: st) :=
  fun H locs ls hV hl => lv_icmp_eq C.1.1 C.1.2.1 hd ht (fun h => kt h (by rw [if_pos h] at hf; exact hf) H locs ls hV hl) (fun h => kf h (by rw [if_neg h] at hf; exact hf) H locs ls hV hl)
theorem g_if_lt {κ : Kx} {V : Heap → List Loc → Prop} {nL pc : Nat} {L : List (Nat × Value)} {st : List Value} {cc : ByteArray} {own : String} {ret : Option FieldType} {d : Nat} (C : Cf κ cc nL own ret d) {α : Type} {A B : Option α} {out : α} {x : Int32} {off : Int} {tgt : Nat} (hd : decode cc pc = .ok (.ifCond .lt off, 3)) (ht : (pc : Int) + off = (tgt : Int)) (hf : (if x < 0 then A else B) = some out) (kt : x < 0 → A = some out → G κ V nL tgt L st) (kf : ¬ x < 0 → B = some out → G κ V nL (pc + 3) L st) : G κ V nL pc L (.int x :: st) :=
  fun H locs ls hV hl => lv_if_lt C.1.1 C.1.2.1 hd ht (fun h => kt h (by rw [if_pos h] at hf; exact hf) H locs ls hV hl) (fun h => kf h (by rw [if_neg h] at hf; exact hf) H locs ls hV hl)
theorem g_icmp_lt {κ : Kx} {V : Heap → List Loc → Prop} {nL pc : Nat} {L : List (Nat × Value)} {st : List Value} {cc : ByteArray} {own : String} {ret : Option FieldType} {d : Nat} (C : Cf κ cc nL own ret d) {α : Type} {A B : Option α} {out : α} {x y : Int32} {off : Int} {tgt : Nat} (hd : decode cc pc = .ok (.if_icmp .lt off, 3)) (ht : (pc : Int) + off = (tgt : Int)) (hf : (if x < y then A else B) = some out) (kt : x < y → A = some out → G κ V nL tgt L st) (kf : ¬ x < y → B = some out → G κ V nL (pc + 3) L st) : G κ V nL pc L (.int y :: .int x :: st) :=
  fun H locs ls hV hl => lv_icmp_lt C.1.1 C.1.2.1 hd ht (fun h => kt h (by rw [if_pos h] at hf; exact hf) H locs ls hV hl) (fun h => kf h (by rw [if_neg h] at hf; exact hf) H locs ls hV hl)
theorem g_if_ge {κ : Kx} {V : Heap → List Loc → Prop} {nL pc : Nat} {L : List (Nat × Value)} {st : List Value} {cc : ByteArray} {own : String} {ret : Option FieldType} {d : Nat} (C : Cf κ cc nL own ret d) {α : Type} {A B : Option α} {out : α} {x : Int32} {off : Int} {tgt : Nat} (hd : decode cc pc = .ok (.ifCond .ge off, 3)) (ht : (pc : Int) + off = (tgt : Int)) (hf : (if 0 ≤ x then A else B) = some out) (kt : 0 ≤ x → A = some out → G κ V nL tgt L st) (kf : ¬ 0 ≤ x → B = some out → G κ V nL (pc + 3) L st) : G κ V nL pc L (.int x :: st) :=
  fun H locs ls hV hl => lv_if_ge C.1.1 C.1.2.1 hd ht (fun h => kt h (by rw [if_pos h] at hf; exact hf) H locs ls hV hl) (fun h => kf h (by rw [if_neg h] at hf; exact hf) H locs ls hV hl)
theorem g_icmp_ge {κ : Kx} {V : Heap → List Loc → Prop} {nL pc : Nat} {L : List (Nat × Value)} {st : List Value} {cc : ByteArray} {own : String} {ret : Option FieldType} {d : Nat} (C : Cf κ cc nL own ret d) {α : Type} {A B : Option α} {out : α} {x y : Int32} {off : Int} {tgt : Nat} (hd : decode cc pc = .ok (.if_icmp .ge off, 3)) (ht : (pc : Int) + off = (tgt : Int)) (hf : (if y ≤ x then A else B) = some out) (kt : y ≤ x → A = some out → G κ V nL tgt L st) (kf : ¬ y ≤ x → B = some out → G κ V nL (pc + 3) L st) : G κ V nL pc L (.int y :: .int x :: st) :=
  fun H locs ls hV hl => lv_icmp_ge C.1.1 C.1.2.1 hd ht (fun h => kt h (by rw [if_pos h] at hf; exact hf) H locs ls hV hl) (fun h => kf h (by rw [if_neg h] at hf; exact hf) H locs ls hV hl)
theorem g_if_gt {κ : Kx} {V : Heap → List Loc → Prop} {nL pc : Nat} {L : List (Nat × Value)} {st : List Value} {cc : ByteArray} {own : String} {ret : Option FieldType} {d : Nat} (C : Cf κ cc nL own ret d) {α : Type} {A B : Option α} {out : α} {x : Int32} {off : Int} {tgt : Nat} (hd : decode cc pc = .ok (.ifCond .gt off, 3)) (ht : (pc : Int) + off = (tgt : Int)) (hf : (if 0 < x then A else B) = some out) (kt : 0 < x → A = some out → G κ V nL tgt L st) (kf : ¬ 0 < x → B = some out → G κ V nL (pc + 3) L st) : G κ V nL pc L (.int x :: st) :=
  fun H locs ls hV hl => lv_if_gt C.1.1 C.1.2.1 hd ht (fun h => kt h (by rw [if_pos h] at hf; exact hf) H locs ls hV hl) (fun h => kf h (by rw [if_neg h] at hf; exact hf) H locs ls hV hl)
theorem g_icmp_gt {κ : Kx} {V : Heap → List Loc → Prop} {nL pc : Nat} {L : List (Nat × Value)} {st : List Value} {cc : ByteArray} {own : String} {ret : Option FieldType} {d : Nat} (C : Cf κ cc nL own ret d) {α : Type} {A B : Option α} {out : α} {x y : Int32} {off : Int} {tgt : Nat} (hd : decode cc pc = .ok (.if_icmp .gt off, 3)) (ht : (pc : Int) + off = (tgt : Int)) (hf : (if y < x then A else B) = some out) (kt : y < x → A = some out → G κ V nL tgt L st) (kf : ¬ y < x → B = some out → G κ V nL (pc + 3) L st) : G κ V nL pc L (.int y :: .int x :: st) :=
  fun H locs ls hV hl => lv_icmp_gt C.1.1 C.1.2.1 hd ht (fun h => kt h (by rw [if_pos h] at hf; exact hf) H locs ls hV hl) (fun h => kf h (by rw [if_neg h] at hf; exact hf) H locs ls hV hl)
theorem g_if_le {κ : Kx} {V : Heap → List Loc → Prop} {nL pc : Nat} {L : List (Nat × Value)} {st : List Value} {cc : ByteArray} {own : String} {ret : Option FieldType} {d : Nat} (C : Cf κ cc nL own ret d) {α : Type} {A B : Option α} {out : α} {x : Int32} {off : Int} {tgt : Nat} (hd : decode cc pc = .ok (.ifCond .le off, 3)) (ht : (pc : Int) + off = (tgt : Int)) (hf : (if x ≤ 0 then A else B) = some out) (kt : x ≤ 0 → A = some out → G κ V nL tgt L st) (kf : ¬ x ≤ 0 → B = some out → G κ V nL (pc + 3) L st) : G κ V nL pc L (.int x :: st) :=
  fun H locs ls hV hl => lv_if_le C.1.1 C.1.2.1 hd ht (fun h => kt h (by rw [if_pos h] at hf; exact hf) H locs ls hV hl) (fun h => kf h (by rw [if_neg h] at hf; exact hf) H locs ls hV hl)
theorem g_icmp_le {κ : Kx} {V : Heap → List Loc → Prop} {nL pc : Nat} {L : List (Nat × Value)} {st : List Value} {cc : ByteArray} {own : String} {ret : Option FieldType} {d : Nat} (C : Cf κ cc nL own ret d) {α : Type} {A B : Option α} {out : α} {x y : Int32} {off : Int} {tgt : Nat} (hd : decode cc pc = .ok (.if_icmp .le off, 3)) (ht : (pc : Int) + off = (tgt : Int)) (hf : (if x ≤ y then A else B) = some out) (kt : x ≤ y → A = some out → G κ V nL tgt L st) (kf : ¬ x ≤ y → B = some out → G κ V nL (pc + 3) L st) : G κ V nL pc L (.int y :: .int x :: st) :=
  fun H locs ls hV hl => lv_icmp_le C.1.1 C.1.2.1 hd ht (fun h => kt h (by rw [if_pos h] at hf; exact hf) H locs ls hV hl) (fun h => kf h (by rw [if_neg h] at hf; exact hf) H locs ls hV hl)
theorem g_if_ne {κ : Kx} {V : Heap → List Loc → Prop} {nL pc : Nat} {L : List (Nat × Value)} {st : List Value} {cc : ByteArray} {own : String} {ret : Option FieldType} {d : Nat} (C : Cf κ cc nL own ret d) {α : Type} {A B : Option α} {out : α} {x : Int32} {off : Int} {tgt : Nat} (hd : decode cc pc = .ok (.ifCond .ne off, 3)) (ht : (pc : Int) + off = (tgt : Int)) (hf : (if x = 0 then B else A) = some out) (kt : ¬ x = 0 → A = some out → G κ V nL tgt L st) (kf : x = 0 → B = some out → G κ V nL (pc + 3) L st) : G κ V nL pc L (.int x :: st) :=
  fun H locs ls hV hl => lv_if_ne C.1.1 C.1.2.1 hd ht (fun h => kt h (by rw [if_neg h] at hf; exact hf) H locs ls hV hl) (fun h => kf h (by rw [if_pos h] at hf; exact hf) H locs ls hV hl)
theorem g_icmp_ne {κ : Kx} {V : Heap → List Loc → Prop} {nL pc : Nat} {L : List (Nat × Value)} {st : List Value} {cc : ByteArray} {own : String} {ret : Option FieldType} {d : Nat} (C : Cf κ cc nL own ret d) {α : Type} {A B : Option α} {out : α} {x y : Int32} {off : Int} {tgt : Nat} (hd : decode cc pc = .ok (.if_icmp .ne off, 3)) (ht : (pc : Int) + off = (tgt : Int)) (hf : (if x = y then B else A) = some out) (kt : ¬ x = y → A = some out → G κ V nL tgt L st) (kf : x = y → B = some out → G κ V nL (pc + 3) L st) : G κ V nL pc L (.int y :: .int x :: st) :=
  fun H locs ls hV hl => lv_icmp_ne C.1.1 C.1.2.1 hd ht (fun h => kt h (by rw [if_neg h] at hf; exact hf) H locs ls hV hl) (fun h => kf h (by rw [if_pos h] at hf; exact hf) H locs ls hV hl)
theorem lgc_lt {x y : Int64} : lg_cmp x y < 0 ↔ x < y := by
  unfold lg_cmp
  by_cases h1 : x > y
  · rw [if_pos h1]; exact ⟨fun h => absurd h (by decide), fun h => absurd (Int64.lt_trans h h1) (Int64.lt_irrefl)⟩
  · rw [if_neg h1]
    by_cases h2 : x = y
    · rw [if_pos h2]; subst h2; exact ⟨fun h => absurd h (by decide), fun h => absurd h (Int64.lt_irrefl)⟩
    · rw [if_neg h2]; refine ⟨fun _ => ?_, fun _ => by decide⟩
      exact Int64.lt_of_le_of_ne (Int64.not_lt.mp h1) h2
theorem lgc_eq {x y : Int64} : lg_cmp x y = 0 ↔ x = y := by
  unfold lg_cmp
  by_cases h1 : x > y
  · rw [if_pos h1]; exact ⟨fun h => absurd h (by decide), fun h => absurd (h ▸ h1 : y > y) (Int64.lt_irrefl)⟩
  · rw [if_neg h1]
    by_cases h2 : x = y
    · rw [if_pos h2]; exact ⟨fun _ => h2, fun _ => rfl⟩
    · rw [if_neg h2]; exact ⟨fun h => absurd h (by decide), fun h => absurd h h2⟩
theorem lgc_gt {x y : Int64} : 0 < lg_cmp x y ↔ y < x := by
  unfold lg_cmp
  by_cases h1 : x > y
  · rw [if_pos h1]; exact ⟨fun _ => h1, fun _ => by decide⟩
  · rw [if_neg h1]
    by_cases h2 : x = y
    · rw [if_pos h2]; exact ⟨fun h => absurd h (by decide), fun h => absurd h h1⟩
    · rw [if_neg h2]; exact ⟨fun h => absurd h (by decide), fun h => absurd h h1⟩
theorem lgc_ge {x y : Int64} : 0 ≤ lg_cmp x y ↔ y ≤ x := by
  rw [← Int32.not_lt, lgc_lt, Int64.not_lt]
theorem lgc_le {x y : Int64} : lg_cmp x y ≤ 0 ↔ x ≤ y := by
  rw [← Int32.not_lt, lgc_gt, Int64.not_lt]
theorem g_lcmp_eq {κ : Kx} {V : Heap → List Loc → Prop} {nL pc : Nat} {L : List (Nat × Value)} {st : List Value} {cc : ByteArray} {own : String} {ret : Option FieldType} {d : Nat} (C : Cf κ cc nL own ret d) {α : Type} {A B : Option α} {out : α} {x y : Int64} {off : Int} {tgt : Nat} (hd0 : decode cc pc = .ok (.lcmp, 1)) (hd : decode cc (pc + 1) = .ok (.ifCond .eq off, 3)) (ht : ((pc + 1 : Nat) : Int) + off = (tgt : Int)) (hf : (if x = y then A else B) = some out) (kt : x = y → A = some out → G κ V nL tgt L st) (kf : ¬ x = y → B = some out → G κ V nL (pc + 1 + 3) L st) : G κ V nL pc L (.long y :: .long x :: st) :=
  fun H locs ls hV hl => W.lcmp C.1.1 C.1.2.1 hd0 (lv_if_eq C.1.1 C.1.2.1 hd ht (fun h => kt (lgc_eq.mp h) (by rw [if_pos (lgc_eq.mp h)] at hf; exact hf) H locs ls hV hl) (fun h => kf (fun z => h (lgc_eq.mpr z)) (by rw [if_neg (fun z => h (lgc_eq.mpr z))] at hf; exact hf) H locs ls hV hl))
theorem g_lcmp_lt {κ : Kx} {V : Heap → List Loc → Prop} {nL pc : Nat} {L : List (Nat × Value)} {st : List Value} {cc : ByteArray} {own : String} {ret : Option FieldType} {d : Nat} (C : Cf κ cc nL own ret d) {α : Type} {A B : Option α} {out : α} {x y : Int64} {off : Int} {tgt : Nat} (hd0 : decode cc pc = .ok (.lcmp, 1)) (hd : decode cc (pc + 1) = .ok (.ifCond .lt off, 3)) (ht : ((pc + 1 : Nat) : Int) + off = (tgt : Int)) (hf : (if x < y then A else B) = some out) (kt : x < y → A = some out → G κ V nL tgt L st) (kf : ¬ x < y → B = some out → G κ V nL (pc + 1 + 3) L st) : G κ V nL pc L (.long y :: .long x :: st) :=
  fun H locs ls hV hl => W.lcmp C.1.1 C.1.2.1 hd0 (lv_if_lt C.1.1 C.1.2.1 hd ht (fun h => kt (lgc_lt.mp h) (by rw [if_pos (lgc_lt.mp h)] at hf; exact hf) H locs ls hV hl) (fun h => kf (fun z => h (lgc_lt.mpr z)) (by rw [if_neg (fun z => h (lgc_lt.mpr z))] at hf; exact hf) H locs ls hV hl))
theorem g_lcmp_ge {κ : Kx} {V : Heap → List Loc → Prop} {nL pc : Nat} {L : List (Nat × Value)} {st : List Value} {cc : ByteArray} {own : String} {ret : Option FieldType} {d : Nat} (C : Cf κ cc nL own ret d) {α : Type} {A B : Option α} {out : α} {x y : Int64} {off : Int} {tgt : Nat} (hd0 : decode cc pc = .ok (.lcmp, 1)) (hd : decode cc (pc + 1) = .ok (.ifCond .ge off, 3)) (ht : ((pc + 1 : Nat) : Int) + off = (tgt : Int)) (hf : (if y ≤ x then A else B) = some out) (kt : y ≤ x → A = some out → G κ V nL tgt L st) (kf : ¬ y ≤ x → B = some out → G κ V nL (pc + 1 + 3) L st) : G κ V nL pc L (.long y :: .long x :: st) :=
  fun H locs ls hV hl => W.lcmp C.1.1 C.1.2.1 hd0 (lv_if_ge C.1.1 C.1.2.1 hd ht (fun h => kt (lgc_ge.mp h) (by rw [if_pos (lgc_ge.mp h)] at hf; exact hf) H locs ls hV hl) (fun h => kf (fun z => h (lgc_ge.mpr z)) (by rw [if_neg (fun z => h (lgc_ge.mpr z))] at hf; exact hf) H locs ls hV hl))
theorem g_lcmp_gt {κ : Kx} {V : Heap → List Loc → Prop} {nL pc : Nat} {L : List (Nat × Value)} {st : List Value} {cc : ByteArray} {own : String} {ret : Option FieldType} {d : Nat} (C : Cf κ cc nL own ret d) {α : Type} {A B : Option α} {out : α} {x y : Int64} {off : Int} {tgt : Nat} (hd0 : decode cc pc = .ok (.lcmp, 1)) (hd : decode cc (pc + 1) = .ok (.ifCond .gt off, 3)) (ht : ((pc + 1 : Nat) : Int) + off = (tgt : Int)) (hf : (if y < x then A else B) = some out) (kt : y < x → A = some out → G κ V nL tgt L st) (kf : ¬ y < x → B = some out → G κ V nL (pc + 1 + 3) L st) : G κ V nL pc L (.long y :: .long x :: st) :=
  fun H locs ls hV hl => W.lcmp C.1.1 C.1.2.1 hd0 (lv_if_gt C.1.1 C.1.2.1 hd ht (fun h => kt (lgc_gt.mp h) (by rw [if_pos (lgc_gt.mp h)] at hf; exact hf) H locs ls hV hl) (fun h => kf (fun z => h (lgc_gt.mpr z)) (by rw [if_neg (fun z => h (lgc_gt.mpr z))] at hf; exact hf) H locs ls hV hl))
theorem g_lcmp_le {κ : Kx} {V : Heap → List Loc → Prop} {nL pc : Nat} {L : List (Nat × Value)} {st : List Value} {cc : ByteArray} {own : String} {ret : Option FieldType} {d : Nat} (C : Cf κ cc nL own ret d) {α : Type} {A B : Option α} {out : α} {x y : Int64} {off : Int} {tgt : Nat} (hd0 : decode cc pc = .ok (.lcmp, 1)) (hd : decode cc (pc + 1) = .ok (.ifCond .le off, 3)) (ht : ((pc + 1 : Nat) : Int) + off = (tgt : Int)) (hf : (if x ≤ y then A else B) = some out) (kt : x ≤ y → A = some out → G κ V nL tgt L st) (kf : ¬ x ≤ y → B = some out → G κ V nL (pc + 1 + 3) L st) : G κ V nL pc L (.long y :: .long x :: st) :=
  fun H locs ls hV hl => W.lcmp C.1.1 C.1.2.1 hd0 (lv_if_le C.1.1 C.1.2.1 hd ht (fun h => kt (lgc_le.mp h) (by rw [if_pos (lgc_le.mp h)] at hf; exact hf) H locs ls hV hl) (fun h => kf (fun z => h (lgc_le.mpr z)) (by rw [if_neg (fun z => h (lgc_le.mpr z))] at hf; exact hf) H locs ls hV hl))
theorem g_lcmp_ne {κ : Kx} {V : Heap → List Loc → Prop} {nL pc : Nat} {L : List (Nat × Value)} {st : List Value} {cc : ByteArray} {own : String} {ret : Option FieldType} {d : Nat} (C : Cf κ cc nL own ret d) {α : Type} {A B : Option α} {out : α} {x y : Int64} {off : Int} {tgt : Nat} (hd0 : decode cc pc = .ok (.lcmp, 1)) (hd : decode cc (pc + 1) = .ok (.ifCond .ne off, 3)) (ht : ((pc + 1 : Nat) : Int) + off = (tgt : Int)) (hf : (if x = y then B else A) = some out) (kt : ¬ x = y → A = some out → G κ V nL tgt L st) (kf : x = y → B = some out → G κ V nL (pc + 1 + 3) L st) : G κ V nL pc L (.long y :: .long x :: st) :=
  fun H locs ls hV hl => W.lcmp C.1.1 C.1.2.1 hd0 (lv_if_ne C.1.1 C.1.2.1 hd ht (fun h => kt (fun z => h (lgc_eq.mpr z)) (by rw [if_neg (fun z => h (lgc_eq.mpr z))] at hf; exact hf) H locs ls hV hl) (fun h => kf (lgc_eq.mp h) (by rw [if_pos (lgc_eq.mp h)] at hf; exact hf) H locs ls hV hl))
theorem g_goto {κ : Kx} {V : Heap → List Loc → Prop} {nL pc : Nat} {L : List (Nat × Value)} {st : List Value} {cc : ByteArray} {own : String} {ret : Option FieldType} {d : Nat} (C : Cf κ cc nL own ret d) {off : Int} {tgt : Nat} (hd : decode cc pc = .ok (.goto off, 3)) (ht : (pc : Int) + off = (tgt : Int)) (k : G κ V nL tgt L st) : G κ V nL pc L st :=
  fun H locs ls hV hl => lv_goto C.1.1 C.1.2.1 hd ht (k H locs ls hV hl)
theorem g_at {κ : Kx} {V : Heap → List Loc → Prop} {nL pc : Nat} {L L' : List (Nat × Value)} {st : List Value} (ks : List Nat) (hL : lv_pick L ks = L') (k : G κ V nL pc L' st) : G κ V nL pc L st :=
  fun H locs ls hV hl => k H locs ls hV (lv_sub hl ks hL)
theorem g_tabIn {κ : Kx} {V : Heap → List Loc → Prop} {nL pc : Nat} {L : List (Nat × Value)} {st : List Value} {cc : ByteArray} {own : String} {ret : Option FieldType} {d : Nat} (C : Cf κ cc nL own ret d) {x v : Int32} {dflt lo hi : Int} {offs : Array Int} {len : Nat} {off : Int} {tgt : Nat} (hd : decode cc pc = .ok (.tableswitch dflt lo hi offs, len)) (hx : x = v) (hc : (decide (lo ≤ v.toInt) && decide (v.toInt ≤ hi) && decide (offs[(v.toInt - lo).toNat]? = some off)) = true) (ht : (pc : Int) + off = (tgt : Int)) (k : G κ V nL tgt L st) : G κ V nL pc L (.int x :: st) := by
  subst hx
  simp only [Bool.and_eq_true, decide_eq_true_eq] at hc
  exact fun H locs ls hV hl => lv_tableIn C.1.1 C.1.2.1 hd (by omega) (by omega) hc.2 ht (k H locs ls hV hl)
theorem g_tabOut {κ : Kx} {V : Heap → List Loc → Prop} {nL pc : Nat} {L : List (Nat × Value)} {st : List Value} {cc : ByteArray} {own : String} {ret : Option FieldType} {d : Nat} (C : Cf κ cc nL own ret d) {x : Int32} {dflt lo hi : Int} {offs : Array Int} {len : Nat} {tgt : Nat} (hd : decode cc pc = .ok (.tableswitch dflt lo hi offs, len)) (hx : x.toInt < lo ∨ hi < x.toInt) (ht : (pc : Int) + dflt = (tgt : Int)) (k : G κ V nL tgt L st) : G κ V nL pc L (.int x :: st) :=
  fun H locs ls hV hl => lv_tableOut C.1.1 C.1.2.1 hd hx ht (k H locs ls hV hl)
theorem g_look {κ : Kx} {V : Heap → List Loc → Prop} {nL pc : Nat} {L : List (Nat × Value)} {st : List Value} {cc : ByteArray} {own : String} {ret : Option FieldType} {d : Nat} (C : Cf κ cc nL own ret d) {x : Int32} {dflt : Int} {ps : Array (Int × Int)} {len : Nat} {off : Int} {tgt : Nat} (hd : decode cc pc = .ok (.lookupswitch dflt ps, len)) (hp : (ps.toList.zip (ps.toList.drop 1)).all (fun (a, next) => a.1 < next.1) = true) (ho : Op.lookupswitch.offset ps.toList dflt x.toInt = off) (ht : (pc : Int) + off = (tgt : Int)) (k : G κ V nL tgt L st) : G κ V nL pc L (.int x :: st) :=
  fun H locs ls hV hl => lv_lookup C.1.1 C.1.2.1 hd hp ho ht (k H locs ls hV hl)
theorem i32_ne {x v : Int32} {n : Int} (h : ¬ x = v) (hv : v.toInt = n) : x.toInt ≠ n := fun z => h (Int32.toInt_inj.mp (z.trans hv.symm))
theorem ite_t {α : Type} {c : Prop} [Decidable c] {A B : Option α} {o : α} (h : c) (hf : (if c then A else B) = some o) : A = some o := by rw [if_pos h] at hf; exact hf
theorem ite_f {α : Type} {c : Prop} [Decidable c] {A B : Option α} {o : α} (h : ¬ c) (hf : (if c then A else B) = some o) : B = some o := by rw [if_neg h] at hf; exact hf
theorem g_ldc2 {κ : Kx} {V : Heap → List Loc → Prop} {nL pc : Nat} {L : List (Nat × Value)} {st : List Value} {cc : ByteArray} {own : String} {ret : Option FieldType} {d : Nat} (C : Cf κ cc nL own ret d) {index : Nat} {v : Int64} (hw : Cond.constantLong own index v ∈ TT) (hd : decode cc pc = .ok (.ldc2_w index, 3)) (k : G κ V nL (pc + 3) L (.long v :: st)) : G κ V nL pc L st :=
  fun H locs ls hV hl => lv_ldc2 C.1.1 C.1.2.1 C.1.2.2.2.1 (C.1.2.2.2.2 _ hw) hd (k H locs ls hV hl)
theorem g_ldc {κ : Kx} {V : Heap → List Loc → Prop} {nL pc : Nat} {L : List (Nat × Value)} {st : List Value} {cc : ByteArray} {own : String} {ret : Option FieldType} {d : Nat} (C : Cf κ cc nL own ret d) {index : Nat} {v : Int32} (hw : Cond.constant own index v ∈ TT) (hd : decode cc pc = .ok (.ldc index, 2)) (k : G κ V nL (pc + 2) L (.int v :: st)) : G κ V nL pc L st :=
  fun H locs ls hV hl => lv_ldc C.1.1 C.1.2.1 C.1.2.2.2.1 (C.1.2.2.2.2 _ hw) hd (k H locs ls hV hl)
theorem g_ldcw {κ : Kx} {V : Heap → List Loc → Prop} {nL pc : Nat} {L : List (Nat × Value)} {st : List Value} {cc : ByteArray} {own : String} {ret : Option FieldType} {d : Nat} (C : Cf κ cc nL own ret d) {index : Nat} {v : Int32} (hw : Cond.constant own index v ∈ TT) (hd : decode cc pc = .ok (.ldc_w index, 3)) (k : G κ V nL (pc + 3) L (.int v :: st)) : G κ V nL pc L st :=
  fun H locs ls hV hl => lv_ldcw C.1.1 C.1.2.1 C.1.2.2.2.1 (C.1.2.2.2.2 _ hw) hd (k H locs ls hV hl)
end
section
/-! MY KIT, 3: fields, arrays, calls, returns over a memory's world -/
def q_Fd (own : String) (idx ci k : Nat) (ty : FieldType) (fin : Bool) : Prop := ∃ (C : String) (T : u_T) (N : Nat) (ty0 : Nat → FieldType), vwCl[ci]? = some (C, T, N) ∧ k < N ∧ (∀ w ∈ u_ws C T N, w ∈ TT) ∧ Cond.fieldLink own idx (T k).1 (T k).2.1 (T k).2.2.1 ∈ TT ∧ (∀ k, k < N → parseFieldDescriptor (T k).2.2.1 = some (ty0 k)) ∧ (∀ a, a < N → ∀ b, b < N → a ≠ b → (T a).2.1 ≠ (T b).2.1) ∧ ty0 k = ty ∧ (T k).2.2.2 = fin
/-- the class and the kind of a slot -/
def q_lk (lay : List Sh) (o k : Nat) : Option (Nat × Nat) := match lay[o]? with
  | some (.inr q) => match q.2[k]? with
    | some kd => some (q.1, kd)
    | none => none
  | _ => none
theorem q_lk_of {lay : List Sh} {o k ci kd : Nat} (h : q_lk lay o k = some (ci, kd)) : ∃ ks, lay[o]? = some (.inr (ci, ks)) ∧ ks[k]? = some kd := by
  unfold q_lk at h
  split at h
  · rename_i q hq
    split at h
    · rename_i z hz
      cases h
      exact ⟨q.2, hq, hz⟩
    · cases h
  · cases h
section R
variable {κ : Kx} {nL pc : Nat} {L : List (Nat × Value)} {st : List Value} {cc : ByteArray} {own : String} {ret : Option FieldType} {d : Nat} {ε : Ev} {lay : List Sh} {μ : Mm} {idx ci k o : Nat} {ty : FieldType} {fin : Bool}
theorem g_getv (C : Cf κ cc nL own ret d) (E : En ε lay (kS κ)) (F : q_Fd own idx ci k ty fin) {kd : Nat} (hs : q_lk lay o k = some (ci, kd)) {v : Value} (hv : shv (ea ε) μ o k kd = v) (hd : decode cc pc = .ok (.getfield idx, 3)) (kk : G κ (Vw κ ε lay μ) nL (pc + 3) L (v :: st)) : G κ (Vw κ ε lay μ) nL pc L (.ref (ea ε o) :: st) := by
  obtain ⟨CC, T, N, ty0, h1, h2, h3, h4, h5, h6, h7, h8⟩ := F
  obtain ⟨ks, e1, e2⟩ := q_lk_of hs
  intro H locs ls hV hl
  refine va_get (D := eD ε) (cl := vwCl) (ci := ci) (C := CC) (T := T) (N := N) C.1.1 C.1.2.1 C.1.2.2.2.2 h3 C.1.2.2.2.1 E.1 hV.1 o (wd_at e1) h1 k h2 (C.1.2.2.2.2 _ h4) (fun _ h => h) (v := v) ?_ hd (kk H locs ls hV hl)
  rw [List.getElem?_mapIdx, e2, ← hv]
  rfl
theorem g_geti (C : Cf κ cc nL own ret d) (E : En ε lay (kS κ)) (F : q_Fd own idx ci k ty fin) (hs : q_lk lay o k = some (ci, 0)) (hd : decode cc pc = .ok (.getfield idx, 3)) (kk : G κ (Vw κ ε lay μ) nL (pc + 3) L (.int (μ.1 o k) :: st)) : G κ (Vw κ ε lay μ) nL pc L (.ref (ea ε o) :: st) := g_getv C E F hs rfl hd kk
theorem g_getl (C : Cf κ cc nL own ret d) (E : En ε lay (kS κ)) (F : q_Fd own idx ci k ty fin) (hs : q_lk lay o k = some (ci, 1)) (hd : decode cc pc = .ok (.getfield idx, 3)) (kk : G κ (Vw κ ε lay μ) nL (pc + 3) L (.long (μ.2 o k) :: st)) : G κ (Vw κ ε lay μ) nL pc L (.ref (ea ε o) :: st) := g_getv C E F hs rfl hd kk
theorem g_getr (C : Cf κ cc nL own ret d) (E : En ε lay (kS κ)) (F : q_Fd own idx ci k ty fin) {j : Nat} (hs : q_lk lay o k = some (ci, j + 2)) (hd : decode cc pc = .ok (.getfield idx, 3)) (kk : G κ (Vw κ ε lay μ) nL (pc + 3) L (.ref (ea ε j) :: st)) : G κ (Vw κ ε lay μ) nL pc L (.ref (ea ε o) :: st) := g_getv C E F hs rfl hd kk
theorem g_puti (C : Cf κ cc nL own ret d) (E : En ε lay (kS κ)) (F : q_Fd own idx ci k .int false) (hs : q_lk lay o k = some (ci, 0)) {x : Int32} (hd : decode cc pc = .ok (.putfield idx, 3)) (kk : G κ (Vw κ ε lay (wI μ o k x)) nL (pc + 3) L st) : G κ (Vw κ ε lay μ) nL pc L (.int x :: .ref (ea ε o) :: st) := by
  obtain ⟨CC, T, N, ty0, h1, h2, h3, h4, h5, h6, h7, h8⟩ := F
  obtain ⟨ks, e1, e2⟩ := q_lk_of hs
  intro H locs ls hV hl
  refine va_put (D := eD ε) (cl := vwCl) (ci := ci) (C := CC) (T := T) (N := N) C.1.1 C.1.2.1 C.1.2.2.2.2 h3 ty0 h5 h6 C.1.2.2.2.1 E.1 hV.1 (wd_D E.2.1) hV.2 o (wd_at e1) h1 k h2 (C.1.2.2.2.2 _ h4) (fun _ h => h) h8 (ty := .int) (v := .int x) (by rw [h5 k h2, h7]) rfl rfl (by simpa using (List.getElem?_eq_some_iff.mp e2).1) hd (fun H1 locs1 hP1 _ hS1 => kk H1 locs1 ls ⟨?_, hS1⟩ hl)
  rw [← wd_setI e1 e2]
  exact hP1
theorem g_putl (C : Cf κ cc nL own ret d) (E : En ε lay (kS κ)) (F : q_Fd own idx ci k .long false) (hs : q_lk lay o k = some (ci, 1)) {x : Int64} (hd : decode cc pc = .ok (.putfield idx, 3)) (kk : G κ (Vw κ ε lay (wL μ o k x)) nL (pc + 3) L st) : G κ (Vw κ ε lay μ) nL pc L (.long x :: .ref (ea ε o) :: st) := by
  obtain ⟨CC, T, N, ty0, h1, h2, h3, h4, h5, h6, h7, h8⟩ := F
  obtain ⟨ks, e1, e2⟩ := q_lk_of hs
  intro H locs ls hV hl
  refine va_put (D := eD ε) (cl := vwCl) (ci := ci) (C := CC) (T := T) (N := N) C.1.1 C.1.2.1 C.1.2.2.2.2 h3 ty0 h5 h6 C.1.2.2.2.1 E.1 hV.1 (wd_D E.2.1) hV.2 o (wd_at e1) h1 k h2 (C.1.2.2.2.2 _ h4) (fun _ h => h) h8 (ty := .long) (v := .long x) (by rw [h5 k h2, h7]) rfl rfl (by simpa using (List.getElem?_eq_some_iff.mp e2).1) hd (fun H1 locs1 hP1 _ hS1 => kk H1 locs1 ls ⟨?_, hS1⟩ hl)
  rw [← wd_setL e1 e2]
  exact hP1
theorem g_putz (C : Cf κ cc nL own ret d) (E : En ε lay (kS κ)) (F : q_Fd own idx ci k .boolean false) (hs : q_lk lay o k = some (ci, 0)) {x : Int32} {α : Type} {A : Option α} {out : α} (hd : decode cc pc = .ok (.putfield idx, 3)) (hf : (if rbz x = true then A else none) = some out) (kk : A = some out → G κ (Vw κ ε lay (wI μ o k x)) nL (pc + 3) L st) : G κ (Vw κ ε lay μ) nL pc L (.int x :: .ref (ea ε o) :: st) := by
  obtain ⟨CC, T, N, ty0, h1, h2, h3, h4, h5, h6, h7, h8⟩ := F
  obtain ⟨ks, e1, e2⟩ := q_lk_of hs
  obtain ⟨hz, hf⟩ := ite_some hf
  intro H locs ls hV hl
  refine va_put (D := eD ε) (cl := vwCl) (ci := ci) (C := CC) (T := T) (N := N) C.1.1 C.1.2.1 C.1.2.2.2.2 h3 ty0 h5 h6 C.1.2.2.2.1 E.1 hV.1 (wd_D E.2.1) hV.2 o (wd_at e1) h1 k h2 (C.1.2.2.2.2 _ h4) (fun _ h => h) h8 (ty := .boolean) (v := .int x) (by rw [h5 k h2, h7]) (rbz_narrow hz) (by rcases rbz_of hz with rfl | rfl <;> rfl) (by simpa using (List.getElem?_eq_some_iff.mp e2).1) hd (fun H1 locs1 hP1 _ hS1 => kk hf H1 locs1 ls ⟨?_, hS1⟩ hl)
  rw [← wd_setI e1 e2]
  exact hP1
theorem g_iald (C : Cf κ cc nL own ret d) (E : En ε lay (kS κ)) {n : Nat} (hs : lay[o]? = some (.inl (0, n))) {i : Int32} {α : Type} {A : Option α} {out : α} (hd : decode cc pc = .ok (.iaload, 1)) (hf : (if inb i n = true then A else none) = some out) (kk : A = some out → G κ (Vw κ ε lay μ) nL (pc + 1) L (.int (μ.1 o i.toNatClampNeg) :: st)) : G κ (Vw κ ε lay μ) nL pc L (.int i :: .ref (ea ε o) :: st) := by
  obtain ⟨hz, hf⟩ := ite_some hf
  intro H locs ls hV hl
  exact va_iald (D := eD ε) (cl := vwCl) C.1.1 C.1.2.1 E.1 hV.1 o 0 (cA := eA ε 0) (n := n) (f := μ.1 o) (wd_at hs) rfl (inb_in hz) hd (kk hf H locs ls hV hl)
theorem g_lald (C : Cf κ cc nL own ret d) (E : En ε lay (kS κ)) {n : Nat} (hs : lay[o]? = some (.inl (1, n))) {i : Int32} {α : Type} {A : Option α} {out : α} (hd : decode cc pc = .ok (.laload, 1)) (hf : (if inb i n = true then A else none) = some out) (kk : A = some out → G κ (Vw κ ε lay μ) nL (pc + 1) L (.long (μ.2 o i.toNatClampNeg) :: st)) : G κ (Vw κ ε lay μ) nL pc L (.int i :: .ref (ea ε o) :: st) := by
  obtain ⟨hz, hf⟩ := ite_some hf
  intro H locs ls hV hl
  exact va_lald (D := eD ε) (cl := vwCl) C.1.1 C.1.2.1 E.1 hV.1 o 1 (cA := eA ε 1) (n := n) (f := μ.2 o) (wd_at hs) rfl (inb_in hz) hd (kk hf H locs ls hV hl)
theorem g_zald (C : Cf κ cc nL own ret d) (E : En ε lay (kS κ)) {n : Nat} (hs : lay[o]? = some (.inl (2, n))) {i : Int32} {α : Type} {A : Option α} {out : α} (hd : decode cc pc = .ok (.baload, 1)) (hf : (if inb i n = true then A else none) = some out) (kk : A = some out → G κ (Vw κ ε lay μ) nL (pc + 1) L (.int (μ.1 o i.toNatClampNeg) :: st)) : G κ (Vw κ ε lay μ) nL pc L (.int i :: .ref (ea ε o) :: st) := by
  obtain ⟨hz, hf⟩ := ite_some hf
  intro H locs ls hV hl
  exact va_zald (D := eD ε) (cl := vwCl) C.1.1 C.1.2.1 E.1 hV.1 o 2 (cA := eA ε 2) (n := n) (f := μ.1 o) (wd_at hs) rfl (inb_in hz) hd (kk hf H locs ls hV hl)
theorem g_iast (C : Cf κ cc nL own ret d) (E : En ε lay (kS κ)) {n : Nat} (hs : lay[o]? = some (.inl (0, n))) {i x : Int32} {α : Type} {A : Option α} {out : α} (hd : decode cc pc = .ok (.iastore, 1)) (hf : (if inb i n = true then A else none) = some out) (kk : A = some out → G κ (Vw κ ε lay (wI μ o i.toNatClampNeg x)) nL (pc + 1) L st) : G κ (Vw κ ε lay μ) nL pc L (.int x :: .int i :: .ref (ea ε o) :: st) := by
  obtain ⟨hz, hf⟩ := ite_some hf
  intro H locs ls hV hl
  refine va_iast (D := eD ε) (cl := vwCl) C.1.1 C.1.2.1 E.1 hV.1 (wd_D E.2.1) hV.2 o 0 (cA := eA ε 0) (n := n) (f := μ.1 o) (wd_at hs) rfl (inb_in hz) hd (fun H1 locs1 hP1 _ hS1 => kk hf H1 locs1 ls ⟨?_, hS1⟩ hl)
  rw [← wd_setA hs (by decide)]
  exact hP1
theorem g_zast (C : Cf κ cc nL own ret d) (E : En ε lay (kS κ)) {n : Nat} (hs : lay[o]? = some (.inl (2, n))) {i x : Int32} {α : Type} {A : Option α} {out : α} (hd : decode cc pc = .ok (.bastore, 1)) (hf : (if inb i n = true then (if rbz x = true then A else none) else none) = some out) (kk : A = some out → G κ (Vw κ ε lay (wI μ o i.toNatClampNeg x)) nL (pc + 1) L st) : G κ (Vw κ ε lay μ) nL pc L (.int x :: .int i :: .ref (ea ε o) :: st) := by
  obtain ⟨hz, hf⟩ := ite_some hf
  obtain ⟨hy, hf⟩ := ite_some hf
  intro H locs ls hV hl
  refine va_zast (D := eD ε) (cl := vwCl) C.1.1 C.1.2.1 E.1 hV.1 (wd_D E.2.1) hV.2 o 2 (cA := eA ε 2) (n := n) (f := μ.1 o) (wd_at hs) rfl (inb_in hz) hd (fun H1 locs1 hP1 _ hS1 => kk hf H1 locs1 ls ⟨?_, hS1⟩ hl)
  rw [rbz_nar hy] at hP1
  rw [← wd_setA hs (by decide)]
  exact hP1
theorem g_last (C : Cf κ cc nL own ret d) (E : En ε lay (kS κ)) {n : Nat} (hs : lay[o]? = some (.inl (1, n))) {i : Int32} {x : Int64} {α : Type} {A : Option α} {out : α} (hd : decode cc pc = .ok (.lastore, 1)) (hf : (if inb i n = true then A else none) = some out) (kk : A = some out → G κ (Vw κ ε lay (wL μ o i.toNatClampNeg x)) nL (pc + 1) L st) : G κ (Vw κ ε lay μ) nL pc L (.long x :: .int i :: .ref (ea ε o) :: st) := by
  obtain ⟨hz, hf⟩ := ite_some hf
  intro H locs ls hV hl
  refine va_last (D := eD ε) (cl := vwCl) C.1.1 C.1.2.1 E.1 hV.1 (wd_D E.2.1) hV.2 o 1 (cA := eA ε 1) (n := n) (f := μ.2 o) (wd_at hs) rfl (inb_in hz) hd (fun H1 locs1 hP1 _ hS1 => kk hf H1 locs1 ls ⟨?_, hS1⟩ hl)
  rw [← wd_setAL hs]
  exact hP1
/-! calls -/
def q_LkV (own : String) (idx : Nat) (y : MethodName) (bytes : ByteArray) (maxL : Nat) (ret : Option FieldType) (n ci : Nat) : Prop :=
  (Cond.code y bytes maxL ret ∈ TT ∧ Cond.methodLink own idx y ∈ TT ∧ Cond.initialized y.cls ∈ TT ∧ (y.cls ≠ "java/lang/invoke/MethodHandle" ∧ y.cls ≠ "java/lang/invoke/VarHandle") ∧ (parseMethodDescriptor y.desc).map (fun d => d.parameters.length) = some n ∧ maxL ≤ 100) ∧ Cond.instanceMethod y ∈ TT ∧ Cond.selects y.cls y y ∈ TT ∧ ∃ T N, vwCl[ci]? = some (y.cls, T, N)
def q_LkS (own : String) (idx : Nat) (y : MethodName) (bytes : ByteArray) (maxL : Nat) (ret : Option FieldType) (n : Nat) : Prop :=
  (Cond.code y bytes maxL ret ∈ TT ∧ Cond.methodLink own idx y ∈ TT ∧ Cond.initialized y.cls ∈ TT ∧ (y.cls ≠ "java/lang/invoke/MethodHandle" ∧ y.cls ≠ "java/lang/invoke/VarHandle") ∧ (parseMethodDescriptor y.desc).map (fun d => d.parameters.length) = some n ∧ maxL ≤ 100) ∧ Cond.static y ∈ TT
def q_LkN (own : String) (idx : Nat) (y : MethodName) (host : String) (bytes : ByteArray) (maxL : Nat) (ret : Option FieldType) (n : Nat) : Prop :=
  (Cond.code y bytes maxL ret ∈ TT ∧ Cond.methodLinkNest own idx y host ∈ nestW ∧ Cond.initialized y.cls ∈ TT ∧ (y.cls ≠ "java/lang/invoke/MethodHandle" ∧ y.cls ≠ "java/lang/invoke/VarHandle") ∧ (parseMethodDescriptor y.desc).map (fun d => d.parameters.length) = some n ∧ maxL ≤ 100) ∧ Cond.static y ∈ TT
theorem q_words {s : State} {args : Array Value} (hts : ∀ w ∈ TT, w.before args s = true) {cw : Cond} (hc : cw ∈ TT) : ∀ w ∈ cw :: TT, ∀ (a' : Array Value) (U : State), s.WarmedH U.vm → w.before a' U = true := by
  intro w hw a' U hW
  have hw' : w ∈ TT := by
    rcases List.mem_cons.mp hw with rfl | h
    · exact hc
    · exact h
  exact word_at hW (TT_good hw') (hts w hw')
theorem q_cb {R : Room} {s : State} {args : Array Value} {y : MethodName} {bytes : ByteArray} {maxL n d d' : Nat} {r' : Option FieldType} (hR : R = rmd d) (hdd : d' + 1 ≤ d) (hts : ∀ w ∈ TT, w.before args s = true)
    (K : Cond.code y bytes maxL r' ∈ TT ∧ Cond.methodLink own idx y ∈ TT ∧ Cond.initialized y.cls ∈ TT ∧ (y.cls ≠ "java/lang/invoke/MethodHandle" ∧ y.cls ≠ "java/lang/invoke/VarHandle") ∧ (parseMethodDescriptor y.desc).map (fun d => d.parameters.length) = some n ∧ maxL ≤ 100) :
    CallB R s args own idx y bytes maxL r' (.code y bytes maxL r' :: TT) (rmd d') 0 0 n := by
  obtain ⟨k1, k2, k3, k4, k5, k6⟩ := K
  subst hR
  refine ⟨rfl, rfl, hdd, ?_, q_words hts k1, List.mem_cons_self, hts _ k1, hts _ k3, k4, fun sig h => ?_, hts _ k2⟩
  · show 8 + (maxL + 11) + 120 * d' ≤ 120 * d
    omega
  · rw [h] at k5
    exact (Option.some.inj k5).symm
theorem Pw_blind {argv : List Value} : FrameBlind (Pw ε lay argv μ) := fun a U g mk h => ⟨h.1, h.2.1.same (u := U) rfl rfl, h.2.2.1.same (u := U) rfl, h.2.2.2⟩
theorem Pp_blind {argv : List Value} : FrameBlind (Pp argv) := fun a U g mk h => ⟨h.1, h.2.same (u := U) rfl⟩
theorem q_after {rv : Option Value} {μ' : Mm} {locs : List Loc} {H : Heap} {g : JFrame} {rest : List Value} {ls : Array Slot} {argv : Array Value} (hS : va_S (Aw lay ε) (kS κ).heap H locs) (hl : lv_has ls nL L)
    (hr : va_Run (kp κ) (kl κ) (ke κ) (kR κ) (kS κ) (km κ) (ka κ) (kb κ) (kt κ) (kc κ) H locs 0 0 0 0 (F0 (km κ) pc ls g.stack) rest (Qw ε lay rv μ' argv) (Aw lay ε)) (kk : G κ (Vw κ ε lay μ') nL (pc + 3) L (rv.toList ++ rest)) : Wk κ H locs (F0 (km κ) pc ls g.stack) := by
  intro T hT X
  obtain ⟨v, st₀, t, T', LL, h0, X', hL, e1, e2, ⟨hv, hP1, hz, hk⟩, st⟩ := hr T hT X
  have hv' : v = rv := by injection hv
  subst hv'
  rw [h0] at hz hk
  have hS' : va_S (Aw lay ε) (kS κ).heap T'.heap (locs ++ LL) := ⟨Nat.le_trans hS.1 (by rw [e1]; exact hz), fun q h1 h2 => by rw [e1, hk q (Nat.lt_of_lt_of_le h1 hS.1) h2]; exact hS.2.1 q h1 h2, fun q hq => by
    rcases List.mem_append.mp hq with h | h
    · exact hS.2.2 q h
    · exact hL q h⟩
  obtain ⟨t2, a1, b1⟩ := kk T'.heap (locs ++ LL) ls ⟨by rw [e1]; exact hP1, hS'⟩ hl T' rfl X'
  exact ⟨t2, st t2 a1, b1⟩
theorem g_callV (C : Cf κ cc nL own ret d) (E : En ε lay (kS κ)) {ks : List Nat} (hs : lay[o]? = some (.inr (ci, ks))) {y : MethodName} {bytes : ByteArray} {maxL n d' : Nat} {r' : Option FieldType} (K : q_LkV own idx y bytes maxL r' n ci) {As st0 : List Value} {rv : Option Value} {μ' : Mm} (hn : As.length = n) (hM : Sp (kl κ) ε lay y bytes maxL r' d' (.ref (ea ε o) :: As) rv μ μ') (hdd : d' + 1 ≤ d) (hst : As.reverse ++ .ref (ea ε o) :: st = st0) (hW : (st.map fun v => v.category).sum ≤ 8) (hd : decode cc pc = .ok (.invokevirtual idx, 3)) (kk : G κ (Vw κ ε lay μ') nL (pc + 3) L (rv.toList ++ st)) : G κ (Vw κ ε lay μ) nL pc L st0 := by
  obtain ⟨K1, k2, k3, T, N, k4⟩ := K
  intro H locs ls hV hl
  refine q_after (g := F0 (km κ) pc ls st0) hV.2 hl (va_runV (n := n) (C := y.cls) (As := As) (b := ea ε o) (rest := st) C.1 hM ⟨q_cb C.2.2.2.2 hdd C.1.2.2.2.2 K1, C.1.2.2.2.2 _ k2, C.1.2.2.2.2 _ k3⟩ ⟨Pw_blind, va_recv (q := (y.cls, T, N)) E.1 hV.1 k4 (wd_at hs), fun U hU hWU => ⟨rfl, E.go hV.2 hU hWU, C.2.2.2.1.warm hWU, by rw [hU]; exact hV.1⟩⟩ rfl hn hl.1 hst.symm (lv_room hW) hd ⟨?_, ?_⟩) kk
  · rw [C.2.2.2.2]; exact Nat.le_refl _
  · rw [C.2.2.2.2]; exact Nat.le_refl _
theorem g_callSw (C : Cf κ cc nL own ret d) (E : En ε lay (kS κ)) {y : MethodName} {bytes : ByteArray} {maxL n d' : Nat} {r' : Option FieldType} (K : q_LkS own idx y bytes maxL r' n) {As st0 : List Value} {rv : Option Value} {μ' : Mm} (hn : As.length = n) (hM : Sp (kl κ) ε lay y bytes maxL r' d' As rv μ μ') (hdd : d' + 1 ≤ d) (hst : As.reverse ++ st = st0) (hW : (st.map fun v => v.category).sum ≤ 8) (hd : decode cc pc = .ok (.invokestatic idx, 3)) (kk : G κ (Vw κ ε lay μ') nL (pc + 3) L (rv.toList ++ st)) : G κ (Vw κ ε lay μ) nL pc L st0 := by
  obtain ⟨K1, k2⟩ := K
  intro H locs ls hV hl
  refine q_after (g := F0 (km κ) pc ls st0) hV.2 hl (va_runS (n := n) (As := As) (rest := st) C.1 hM ⟨q_cb C.2.2.2.2 hdd C.1.2.2.2.2 K1, C.1.2.2.2.2 _ k2⟩ ⟨Pw_blind, fun U hU hWU => ⟨rfl, E.go hV.2 hU hWU, C.2.2.2.1.warm hWU, by rw [hU]; exact hV.1⟩⟩ rfl hn hl.1 hst.symm (lv_room hW) hd ⟨?_, ?_⟩) kk
  · rw [C.2.2.2.2]; exact Nat.le_refl _
  · rw [C.2.2.2.2]; exact Nat.le_refl _
theorem q_afterP {V : Heap → List Loc → Prop} {rv : Option Value} {locs : List Loc} {H : Heap} {g : JFrame} {rest : List Value} {ls : Array Slot} {argv : Array Value} (hV : V H locs) (hl : lv_has ls nL L)
    (hr : va_Run (kp κ) (kl κ) (ke κ) (kR κ) (kS κ) (km κ) (ka κ) (kb κ) (kt κ) (kc κ) H locs 0 0 0 0 (F0 (km κ) pc ls g.stack) rest (Qp rv argv) (fun _ => False)) (kk : G κ V nL (pc + 3) L (rv.toList ++ rest)) : Wk κ H locs (F0 (km κ) pc ls g.stack) := by
  intro T hT X
  obtain ⟨v, st₀, t, T', LL, h0, X', hL, e1, e2, ⟨hv, hh⟩, st⟩ := hr T hT X
  have hv' : v = rv := by injection hv
  subst hv'
  obtain ⟨t2, a1, b1⟩ := kk H locs ls hV hl T' (by rw [e1, hh, h0]) (Stand.forget X' (fun q h => (hL q h).elim))
  exact ⟨t2, st t2 a1, b1⟩
theorem g_callS {V : Heap → List Loc → Prop} (C : Cf κ cc nL own ret d) {y : MethodName} {bytes : ByteArray} {maxL n d' : Nat} {r' : Option FieldType} (K : q_LkS own idx y bytes maxL r' n) {As st0 : List Value} {rv : Option Value} (hn : As.length = n) (hM : Sq (kl κ) y bytes maxL r' d' As rv) (hdd : d' + 1 ≤ d) (hst : As.reverse ++ st = st0) (hW : (st.map fun v => v.category).sum ≤ 8) (hd : decode cc pc = .ok (.invokestatic idx, 3)) (kk : G κ V nL (pc + 3) L (rv.toList ++ st)) : G κ V nL pc L st0 := by
  obtain ⟨K1, k2⟩ := K
  intro H locs ls hV hl
  refine q_afterP (g := F0 (km κ) pc ls st0) hV hl (va_runS (n := n) (As := As) (rest := st) C.1 hM ⟨q_cb C.2.2.2.2 hdd C.1.2.2.2.2 K1, C.1.2.2.2.2 _ k2⟩ ⟨Pp_blind, fun U hU hWU => ⟨rfl, C.2.2.2.1.warm hWU⟩⟩ rfl hn hl.1 hst.symm (lv_room hW) hd ⟨?_, ?_⟩) kk
  · rw [C.2.2.2.2]; exact Nat.le_refl _
  · rw [C.2.2.2.2]; exact Nat.le_refl _
theorem g_callN {V : Heap → List Loc → Prop} (C : Cf κ cc nL own ret d) {y : MethodName} {host : String} {bytes : ByteArray} {maxL n d' : Nat} {r' : Option FieldType} (K : q_LkN own idx y host bytes maxL r' n) {As st0 : List Value} {rv : Option Value} (hn : As.length = n) (hM : Sq (kl κ) y bytes maxL r' d' As rv) (hdd : d' + 1 ≤ d) (hst : As.reverse ++ st = st0) (hW : (st.map fun v => v.category).sum ≤ 8) (hd : decode cc pc = .ok (.invokestatic idx, 3)) (kk : G κ V nL (pc + 3) L (rv.toList ++ st)) : G κ V nL pc L st0 := by
  obtain ⟨⟨k1, k2, k3, k4, k5, k6⟩, k7⟩ := K
  intro H locs ls hV hl
  refine q_afterP (g := F0 (km κ) pc ls st0) hV hl (va_runSN (n := n) (host := host) (As := As) (rest := st) C.1 hM ⟨⟨⟨rfl, rfl, ?_, ?_, q_words C.1.2.2.2.2 k1, List.mem_cons_self⟩, C.1.2.2.2.2 _ k1, C.1.2.2.2.2 _ k3, k4, fun sig h => ?_, va_Nw.use rfl (C.2.2.2.1 _ k2)⟩, C.1.2.2.2.2 _ k7, trivial⟩ ⟨Pp_blind, fun U hU hWU => ⟨rfl, C.2.2.2.1.warm hWU⟩⟩ rfl hn hl.1 hst.symm (lv_room hW) hd ⟨?_, ?_⟩) kk
  · rw [C.2.2.2.2]; exact hdd
  · rw [C.2.2.2.2]; show 8 + (maxL + 11) + 120 * d' ≤ 120 * d; omega
  · rw [h] at k5; exact (Option.some.inj k5).symm
  · rw [C.2.2.2.2]; exact Nat.le_refl _
  · rw [C.2.2.2.2]; exact Nat.le_refl _
/-! returns -/
theorem g_iretw (C : Cf κ cc nL own (some .int) d) {v : Int32} {out : Int32 × Mm} (hQ : Rw κ ε lay (some (.int out.1)) out.2) (hd : decode cc pc = .ok (.ireturn, 1)) (hf : some (v, μ) = some out) : G κ (Vw κ ε lay μ) nL pc L [.int v] := by
  cases hf
  intro H locs ls hV hl
  show W _ _ _ _ _ _ _ _ _ _ _ _ _ _ (kQ κ) _
  rw [hQ]
  exact W.iret C.1.1 C.1.2.1 C.2.1 (fun t ht hW => ⟨rfl, by rw [ht]; exact hV.1, hV.2.F ht⟩) hV.2.2.2 hd C.2.2.1
theorem g_lretw (C : Cf κ cc nL own (some .long) d) {v : Int64} {out : Int64 × Mm} (hQ : Rw κ ε lay (some (.long out.1)) out.2) (hd : decode cc pc = .ok (.lreturn, 1)) (hf : some (v, μ) = some out) : G κ (Vw κ ε lay μ) nL pc L [.long v] := by
  cases hf
  intro H locs ls hV hl
  show W _ _ _ _ _ _ _ _ _ _ _ _ _ _ (kQ κ) _
  rw [hQ]
  exact W.lret C.1.1 C.1.2.1 C.2.1 (fun t ht hW => ⟨rfl, by rw [ht]; exact hV.1, hV.2.F ht⟩) hV.2.2.2 hd C.2.2.1
theorem g_zretw (C : Cf κ cc nL own (some .boolean) d) {v : Int32} {out : Int32 × Mm} (hQ : Rw κ ε lay (some (.int out.1)) out.2) (hd : decode cc pc = .ok (.ireturn, 1)) (hf : (if rbz v = true then some (v, μ) else none) = some out) : G κ (Vw κ ε lay μ) nL pc L [.int v] := by
  obtain ⟨hz, hf⟩ := ite_some hf
  cases hf
  intro H locs ls hV hl
  show W _ _ _ _ _ _ _ _ _ _ _ _ _ _ (kQ κ) _
  rw [hQ]
  exact W.zret C.1.1 C.1.2.1 C.2.1 (rbz_narrow hz) (fun t ht hW => ⟨rfl, by rw [ht]; exact hV.1, hV.2.F ht⟩) hV.2.2.2 hd C.2.2.1
theorem g_vretw (C : Cf κ cc nL own none d) {out : Mm} (hQ : Rw κ ε lay none out) (hd : decode cc pc = .ok (.return_, 1)) (hf : some μ = some out) : G κ (Vw κ ε lay μ) nL pc L [] := by
  cases hf
  intro H locs ls hV hl
  show W _ _ _ _ _ _ _ _ _ _ _ _ _ _ (kQ κ) _
  rw [hQ]
  exact W.vret C.1.1 C.1.2.1 C.2.1 (fun t ht hW => ⟨rfl, by rw [ht]; exact hV.1, hV.2.F ht⟩) hV.2.2.2 hd C.2.2.1
theorem g_iretr (C : Cf κ cc nL own (some .int) d) {v out : Int32} (hQ : Rw κ ε lay (some (.int out)) μ) (hd : decode cc pc = .ok (.ireturn, 1)) (hf : some v = some out) : G κ (Vw κ ε lay μ) nL pc L [.int v] := g_iretw (out := (out, μ)) C hQ hd (by cases hf; rfl)
theorem g_lretr (C : Cf κ cc nL own (some .long) d) {v out : Int64} (hQ : Rw κ ε lay (some (.long out)) μ) (hd : decode cc pc = .ok (.lreturn, 1)) (hf : some v = some out) : G κ (Vw κ ε lay μ) nL pc L [.long v] := g_lretw (out := (out, μ)) C hQ hd (by cases hf; rfl)
theorem g_zretr (C : Cf κ cc nL own (some .boolean) d) {v out : Int32} (hQ : Rw κ ε lay (some (.int out)) μ) (hd : decode cc pc = .ok (.ireturn, 1)) (hf : (if rbz v = true then some v else none) = some out) : G κ (Vw κ ε lay μ) nL pc L [.int v] := g_zretw (out := (out, μ)) C hQ hd (by obtain ⟨hz, hf⟩ := ite_some hf; cases hf; rw [if_pos hz])
theorem g_iretp (C : Cf κ cc nL own (some .int) d) {v out : Int32} (hQ : Rp κ (some (.int out))) (hd : decode cc pc = .ok (.ireturn, 1)) (hf : some v = some out) : G κ (Vp κ) nL pc L [.int v] := by
  cases hf
  intro H locs ls hV hl
  obtain ⟨h1, rfl⟩ := hV
  show W _ _ _ _ _ _ _ _ _ _ _ _ _ _ (kQ κ) _
  rw [hQ]
  exact W.iret C.1.1 C.1.2.1 C.2.1 (fun t ht hW => ⟨rfl, ht.trans h1⟩) (fun q h => by cases h) hd C.2.2.1
theorem g_lretp (C : Cf κ cc nL own (some .long) d) {v out : Int64} (hQ : Rp κ (some (.long out))) (hd : decode cc pc = .ok (.lreturn, 1)) (hf : some v = some out) : G κ (Vp κ) nL pc L [.long v] := by
  cases hf
  intro H locs ls hV hl
  obtain ⟨h1, rfl⟩ := hV
  show W _ _ _ _ _ _ _ _ _ _ _ _ _ _ (kQ κ) _
  rw [hQ]
  exact W.lret C.1.1 C.1.2.1 C.2.1 (fun t ht hW => ⟨rfl, ht.trans h1⟩) (fun q h => by cases h) hd C.2.2.1
theorem g_zretp (C : Cf κ cc nL own (some .boolean) d) {v out : Int32} (hQ : Rp κ (some (.int out))) (hd : decode cc pc = .ok (.ireturn, 1)) (hf : (if rbz v = true then some v else none) = some out) : G κ (Vp κ) nL pc L [.int v] := by
  obtain ⟨hz, hf⟩ := ite_some hf
  cases hf
  intro H locs ls hV hl
  obtain ⟨h1, rfl⟩ := hV
  show W _ _ _ _ _ _ _ _ _ _ _ _ _ _ (kQ κ) _
  rw [hQ]
  exact W.zret C.1.1 C.1.2.1 C.2.1 (rbz_narrow hz) (fun t ht hW => ⟨rfl, ht.trans h1⟩) (fun q h => by cases h) hd C.2.2.1
/-! calls with the function's own bind -/
theorem g_cwi (C : Cf κ cc nL own ret d) (E : En ε lay (kS κ)) {ks : List Nat} (hs : lay[o]? = some (.inr (ci, ks))) {y : MethodName} {bytes : ByteArray} {maxL n d' : Nat} {r' : Option FieldType} (K : q_LkV own idx y bytes maxL r' n ci) {As st0 : List Value} (hn : As.length = n) {f : Option (Int32 × Mm)} (hM : ∀ out, f = some out → Sp (kl κ) ε lay y bytes maxL r' d' (.ref (ea ε o) :: As) (some (.int out.1)) μ out.2) (hdd : d' + 1 ≤ d) (hst : As.reverse ++ .ref (ea ε o) :: st = st0) (hW : (st.map fun v => v.category).sum ≤ 8) (hd : decode cc pc = .ok (.invokevirtual idx, 3)) {α : Type} {g : Int32 → Mm → Option α} {out : α} (hf : bnd f g = some out) (kk : ∀ r μ', f = some (r, μ') → g r μ' = some out → G κ (Vw κ ε lay μ') nL (pc + 3) L (.int r :: st)) : G κ (Vw κ ε lay μ) nL pc L st0 := by
  obtain ⟨r, μ', h1, h2⟩ := bnd_of hf
  exact g_callV C E hs K hn (hM _ h1) hdd hst hW hd (kk r μ' h1 h2)
theorem g_cwl (C : Cf κ cc nL own ret d) (E : En ε lay (kS κ)) {ks : List Nat} (hs : lay[o]? = some (.inr (ci, ks))) {y : MethodName} {bytes : ByteArray} {maxL n d' : Nat} {r' : Option FieldType} (K : q_LkV own idx y bytes maxL r' n ci) {As st0 : List Value} (hn : As.length = n) {f : Option (Int64 × Mm)} (hM : ∀ out, f = some out → Sp (kl κ) ε lay y bytes maxL r' d' (.ref (ea ε o) :: As) (some (.long out.1)) μ out.2) (hdd : d' + 1 ≤ d) (hst : As.reverse ++ .ref (ea ε o) :: st = st0) (hW : (st.map fun v => v.category).sum ≤ 8) (hd : decode cc pc = .ok (.invokevirtual idx, 3)) {α : Type} {g : Int64 → Mm → Option α} {out : α} (hf : bnd f g = some out) (kk : ∀ r μ', f = some (r, μ') → g r μ' = some out → G κ (Vw κ ε lay μ') nL (pc + 3) L (.long r :: st)) : G κ (Vw κ ε lay μ) nL pc L st0 := by
  obtain ⟨r, μ', h1, h2⟩ := bnd_of hf
  exact g_callV C E hs K hn (hM _ h1) hdd hst hW hd (kk r μ' h1 h2)
theorem g_cwv (C : Cf κ cc nL own ret d) (E : En ε lay (kS κ)) {ks : List Nat} (hs : lay[o]? = some (.inr (ci, ks))) {y : MethodName} {bytes : ByteArray} {maxL n d' : Nat} {r' : Option FieldType} (K : q_LkV own idx y bytes maxL r' n ci) {As st0 : List Value} (hn : As.length = n) {f : Option Mm} (hM : ∀ out, f = some out → Sp (kl κ) ε lay y bytes maxL r' d' (.ref (ea ε o) :: As) none μ out) (hdd : d' + 1 ≤ d) (hst : As.reverse ++ .ref (ea ε o) :: st = st0) (hW : (st.map fun v => v.category).sum ≤ 8) (hd : decode cc pc = .ok (.invokevirtual idx, 3)) {α : Type} {g : Mm → Option α} {out : α} (hf : f.bind g = some out) (kk : ∀ μ', f = some μ' → g μ' = some out → G κ (Vw κ ε lay μ') nL (pc + 3) L st) : G κ (Vw κ ε lay μ) nL pc L st0 := by
  obtain ⟨μ', h1, h2⟩ := bind_some hf
  exact g_callV C E hs K hn (hM _ h1) hdd hst hW hd (kk μ' h1 h2)
theorem g_cri (C : Cf κ cc nL own ret d) (E : En ε lay (kS κ)) {ks : List Nat} (hs : lay[o]? = some (.inr (ci, ks))) {y : MethodName} {bytes : ByteArray} {maxL n d' : Nat} {r' : Option FieldType} (K : q_LkV own idx y bytes maxL r' n ci) {As st0 : List Value} (hn : As.length = n) {f : Option Int32} (hM : ∀ out, f = some out → Sp (kl κ) ε lay y bytes maxL r' d' (.ref (ea ε o) :: As) (some (.int out)) μ μ) (hdd : d' + 1 ≤ d) (hst : As.reverse ++ .ref (ea ε o) :: st = st0) (hW : (st.map fun v => v.category).sum ≤ 8) (hd : decode cc pc = .ok (.invokevirtual idx, 3)) {α : Type} {g : Int32 → Option α} {out : α} (hf : f.bind g = some out) (kk : ∀ r, f = some r → g r = some out → G κ (Vw κ ε lay μ) nL (pc + 3) L (.int r :: st)) : G κ (Vw κ ε lay μ) nL pc L st0 := by
  obtain ⟨r, h1, h2⟩ := bind_some hf
  exact g_callV C E hs K hn (hM _ h1) hdd hst hW hd (kk r h1 h2)
theorem g_crl (C : Cf κ cc nL own ret d) (E : En ε lay (kS κ)) {ks : List Nat} (hs : lay[o]? = some (.inr (ci, ks))) {y : MethodName} {bytes : ByteArray} {maxL n d' : Nat} {r' : Option FieldType} (K : q_LkV own idx y bytes maxL r' n ci) {As st0 : List Value} (hn : As.length = n) {f : Option Int64} (hM : ∀ out, f = some out → Sp (kl κ) ε lay y bytes maxL r' d' (.ref (ea ε o) :: As) (some (.long out)) μ μ) (hdd : d' + 1 ≤ d) (hst : As.reverse ++ .ref (ea ε o) :: st = st0) (hW : (st.map fun v => v.category).sum ≤ 8) (hd : decode cc pc = .ok (.invokevirtual idx, 3)) {α : Type} {g : Int64 → Option α} {out : α} (hf : f.bind g = some out) (kk : ∀ r, f = some r → g r = some out → G κ (Vw κ ε lay μ) nL (pc + 3) L (.long r :: st)) : G κ (Vw κ ε lay μ) nL pc L st0 := by
  obtain ⟨r, h1, h2⟩ := bind_some hf
  exact g_callV C E hs K hn (hM _ h1) hdd hst hW hd (kk r h1 h2)
theorem g_cswi (C : Cf κ cc nL own ret d) (E : En ε lay (kS κ)) {y : MethodName} {bytes : ByteArray} {maxL n d' : Nat} {r' : Option FieldType} (K : q_LkS own idx y bytes maxL r' n) {As st0 : List Value} (hn : As.length = n) {f : Option Int32} (hM : ∀ out, f = some out → Sp (kl κ) ε lay y bytes maxL r' d' As (some (.int out)) μ μ) (hdd : d' + 1 ≤ d) (hst : As.reverse ++ st = st0) (hW : (st.map fun v => v.category).sum ≤ 8) (hd : decode cc pc = .ok (.invokestatic idx, 3)) {α : Type} {g : Int32 → Option α} {out : α} (hf : f.bind g = some out) (kk : ∀ r, f = some r → g r = some out → G κ (Vw κ ε lay μ) nL (pc + 3) L (.int r :: st)) : G κ (Vw κ ε lay μ) nL pc L st0 := by
  obtain ⟨r, h1, h2⟩ := bind_some hf
  exact g_callSw C E K hn (hM _ h1) hdd hst hW hd (kk r h1 h2)
theorem g_cpi {V : Heap → List Loc → Prop} (C : Cf κ cc nL own ret d) {y : MethodName} {bytes : ByteArray} {maxL n d' : Nat} {r' : Option FieldType} (K : q_LkS own idx y bytes maxL r' n) {As st0 : List Value} (hn : As.length = n) {f : Option Int32} (hM : ∀ out, f = some out → Sq (kl κ) y bytes maxL r' d' As (some (.int out))) (hdd : d' + 1 ≤ d) (hst : As.reverse ++ st = st0) (hW : (st.map fun v => v.category).sum ≤ 8) (hd : decode cc pc = .ok (.invokestatic idx, 3)) {α : Type} {g : Int32 → Option α} {out : α} (hf : f.bind g = some out) (kk : ∀ r, f = some r → g r = some out → G κ V nL (pc + 3) L (.int r :: st)) : G κ V nL pc L st0 := by
  obtain ⟨r, h1, h2⟩ := bind_some hf
  exact g_callS C K hn (hM _ h1) hdd hst hW hd (kk r h1 h2)
theorem g_cpl {V : Heap → List Loc → Prop} (C : Cf κ cc nL own ret d) {y : MethodName} {bytes : ByteArray} {maxL n d' : Nat} {r' : Option FieldType} (K : q_LkS own idx y bytes maxL r' n) {As st0 : List Value} (hn : As.length = n) {f : Option Int64} (hM : ∀ out, f = some out → Sq (kl κ) y bytes maxL r' d' As (some (.long out))) (hdd : d' + 1 ≤ d) (hst : As.reverse ++ st = st0) (hW : (st.map fun v => v.category).sum ≤ 8) (hd : decode cc pc = .ok (.invokestatic idx, 3)) {α : Type} {g : Int64 → Option α} {out : α} (hf : f.bind g = some out) (kk : ∀ r, f = some r → g r = some out → G κ V nL (pc + 3) L (.long r :: st)) : G κ V nL pc L st0 := by
  obtain ⟨r, h1, h2⟩ := bind_some hf
  exact g_callS C K hn (hM _ h1) hdd hst hW hd (kk r h1 h2)
theorem g_cni {V : Heap → List Loc → Prop} (C : Cf κ cc nL own ret d) {y : MethodName} {host : String} {bytes : ByteArray} {maxL n d' : Nat} {r' : Option FieldType} (K : q_LkN own idx y host bytes maxL r' n) {As st0 : List Value} (hn : As.length = n) {f : Option Int32} (hM : ∀ out, f = some out → Sq (kl κ) y bytes maxL r' d' As (some (.int out))) (hdd : d' + 1 ≤ d) (hst : As.reverse ++ st = st0) (hW : (st.map fun v => v.category).sum ≤ 8) (hd : decode cc pc = .ok (.invokestatic idx, 3)) {α : Type} {g : Int32 → Option α} {out : α} (hf : f.bind g = some out) (kk : ∀ r, f = some r → g r = some out → G κ V nL (pc + 3) L (.int r :: st)) : G κ V nL pc L st0 := by
  obtain ⟨r, h1, h2⟩ := bind_some hf
  exact g_callN C K hn (hM _ h1) hdd hst hW hd (kk r h1 h2)
end R
end
section
theorem none_ne {α : Type} {o : α} {P : Prop} (h : (none : Option α) = some o) : P := by cases h
theorem ite_none {α : Type} {c : Prop} [Decidable c] {a : Option α} {r : α} (h : (if c then none else a) = some r) : ¬ c ∧ a = some r := by
  split at h
  · cases h
  · exact ⟨by assumption, h⟩
theorem g_zret1w {κ : Kx} {nL pc : Nat} {L : List (Nat × Value)} {cc : ByteArray} {own : String} {d : Nat} {ε : Ev} {lay : List Sh} {μ : Mm} (C : Cf κ cc nL own (some .boolean) d) {v : Int32} {out : Int32 × Mm} (hz : rbz v = true) (hQ : Rw κ ε lay (some (.int out.1)) out.2) (hd : decode cc pc = .ok (.ireturn, 1)) (hf : some (v, μ) = some out) : G κ (Vw κ ε lay μ) nL pc L [.int v] := g_zretw C hQ hd (by rw [if_pos hz]; exact hf)
theorem g_zret1r {κ : Kx} {nL pc : Nat} {L : List (Nat × Value)} {cc : ByteArray} {own : String} {d : Nat} {ε : Ev} {lay : List Sh} {μ : Mm} (C : Cf κ cc nL own (some .boolean) d) {v out : Int32} (hz : rbz v = true) (hQ : Rw κ ε lay (some (.int out)) μ) (hd : decode cc pc = .ok (.ireturn, 1)) (hf : some v = some out) : G κ (Vw κ ε lay μ) nL pc L [.int v] := g_zretr C hQ hd (by rw [if_pos hz]; exact hf)
theorem g_zret1p {κ : Kx} {nL pc : Nat} {L : List (Nat × Value)} {cc : ByteArray} {own : String} {d : Nat} (C : Cf κ cc nL own (some .boolean) d) {v out : Int32} (hz : rbz v = true) (hQ : Rp κ (some (.int out))) (hd : decode cc pc = .ok (.ireturn, 1)) (hf : some v = some out) : G κ (Vp κ) nL pc L [.int v] := g_zretp C hQ hd (by rw [if_pos hz]; exact hf)
/-- 0 WidenDesk; 1 WidenDesk$Reader; 2 WidenDesk$Shelf; 3 WidenDesk$Log; 4 WidenDesk$Marks; 5 WidenDesk$Views; 6 WidenDesk.slots[10]; 7 WidenDesk.reasons[6]; 8 WidenDesk$Reader.letters[60]; 9 WidenDesk$Reader.types[6]; 10 WidenDesk$Reader.numbers[6]; 11 WidenDesk$Shelf.things[26]; 12 WidenDesk$Shelf.lengths[26]; 13 WidenDesk$Shelf.types[156]; 14 WidenDesk$Shelf.codes[156]; 15 WidenDesk$Log.sorts[14]; 16 WidenDesk$Log.spots[14]; 17 WidenDesk$Log.rows[14]; 18 WidenDesk$Log.numbers[14]; 19 WidenDesk$Log.types[84]; 20 WidenDesk$Log.codes[84]; 21 WidenDesk$Marks.numbers[20]; 22 WidenDesk$Views.ways[6]; 23 WidenDesk$Views.kinds[6]; 24 WidenDesk$Views.outcomes[6] -/
def layX : List Sh := [.inr (5, [3, 4, 5, 6, 7, 8, 9, 0, 0, 0, 1]), .inr (2, [10, 0, 0, 0, 11, 12, 0]), .inr (3, [13, 14, 15, 16]), .inr (0, [17, 18, 19, 20, 21, 22, 0, 0]), .inr (1, [23, 0]), .inr (4, [24, 25, 26, 0]), .inl (0, 10), .inl (0, 6), .inl (0, 60), .inl (0, 6), .inl (1, 6), .inl (0, 26), .inl (0, 26), .inl (0, 156), .inl (1, 156), .inl (0, 14), .inl (0, 14), .inl (0, 14), .inl (0, 14), .inl (0, 84), .inl (1, 84), .inl (0, 20), .inl (0, 6), .inl (0, 6), .inl (0, 6)]
theorem layX_0 : layX[0]? = some (.inr (5, [3, 4, 5, 6, 7, 8, 9, 0, 0, 0, 1])) := rfl
theorem layX_1 : layX[1]? = some (.inr (2, [10, 0, 0, 0, 11, 12, 0])) := rfl
theorem layX_2 : layX[2]? = some (.inr (3, [13, 14, 15, 16])) := rfl
theorem layX_3 : layX[3]? = some (.inr (0, [17, 18, 19, 20, 21, 22, 0, 0])) := rfl
theorem layX_4 : layX[4]? = some (.inr (1, [23, 0])) := rfl
theorem layX_5 : layX[5]? = some (.inr (4, [24, 25, 26, 0])) := rfl
theorem layX_6 : layX[6]? = some (.inl (0, 10)) := rfl
theorem layX_7 : layX[7]? = some (.inl (0, 6)) := rfl
theorem layX_8 : layX[8]? = some (.inl (0, 60)) := rfl
theorem layX_9 : layX[9]? = some (.inl (0, 6)) := rfl
theorem layX_10 : layX[10]? = some (.inl (1, 6)) := rfl
theorem layX_11 : layX[11]? = some (.inl (0, 26)) := rfl
theorem layX_12 : layX[12]? = some (.inl (0, 26)) := rfl
theorem layX_13 : layX[13]? = some (.inl (0, 156)) := rfl
theorem layX_14 : layX[14]? = some (.inl (1, 156)) := rfl
theorem layX_15 : layX[15]? = some (.inl (0, 14)) := rfl
theorem layX_16 : layX[16]? = some (.inl (0, 14)) := rfl
theorem layX_17 : layX[17]? = some (.inl (0, 14)) := rfl
theorem layX_18 : layX[18]? = some (.inl (0, 14)) := rfl
theorem layX_19 : layX[19]? = some (.inl (0, 84)) := rfl
theorem layX_20 : layX[20]? = some (.inl (1, 84)) := rfl
theorem layX_21 : layX[21]? = some (.inl (0, 20)) := rfl
theorem layX_22 : layX[22]? = some (.inl (0, 6)) := rfl
theorem layX_23 : layX[23]? = some (.inl (0, 6)) := rfl
theorem layX_24 : layX[24]? = some (.inl (0, 6)) := rfl
theorem layX_0_0 : q_lk layX 0 0 = some (5, 3) := rfl
theorem layX_0_1 : q_lk layX 0 1 = some (5, 4) := rfl
theorem layX_0_2 : q_lk layX 0 2 = some (5, 5) := rfl
theorem layX_0_3 : q_lk layX 0 3 = some (5, 6) := rfl
theorem layX_0_4 : q_lk layX 0 4 = some (5, 7) := rfl
theorem layX_0_5 : q_lk layX 0 5 = some (5, 8) := rfl
theorem layX_0_6 : q_lk layX 0 6 = some (5, 9) := rfl
theorem layX_0_7 : q_lk layX 0 7 = some (5, 0) := rfl
theorem layX_0_8 : q_lk layX 0 8 = some (5, 0) := rfl
theorem layX_0_9 : q_lk layX 0 9 = some (5, 0) := rfl
theorem layX_0_10 : q_lk layX 0 10 = some (5, 1) := rfl
theorem layX_1_0 : q_lk layX 1 0 = some (2, 10) := rfl
theorem layX_1_1 : q_lk layX 1 1 = some (2, 0) := rfl
theorem layX_1_2 : q_lk layX 1 2 = some (2, 0) := rfl
theorem layX_1_3 : q_lk layX 1 3 = some (2, 0) := rfl
theorem layX_1_4 : q_lk layX 1 4 = some (2, 11) := rfl
theorem layX_1_5 : q_lk layX 1 5 = some (2, 12) := rfl
theorem layX_1_6 : q_lk layX 1 6 = some (2, 0) := rfl
theorem layX_2_0 : q_lk layX 2 0 = some (3, 13) := rfl
theorem layX_2_1 : q_lk layX 2 1 = some (3, 14) := rfl
theorem layX_2_2 : q_lk layX 2 2 = some (3, 15) := rfl
theorem layX_2_3 : q_lk layX 2 3 = some (3, 16) := rfl
theorem layX_3_0 : q_lk layX 3 0 = some (0, 17) := rfl
theorem layX_3_1 : q_lk layX 3 1 = some (0, 18) := rfl
theorem layX_3_2 : q_lk layX 3 2 = some (0, 19) := rfl
theorem layX_3_3 : q_lk layX 3 3 = some (0, 20) := rfl
theorem layX_3_4 : q_lk layX 3 4 = some (0, 21) := rfl
theorem layX_3_5 : q_lk layX 3 5 = some (0, 22) := rfl
theorem layX_3_6 : q_lk layX 3 6 = some (0, 0) := rfl
theorem layX_3_7 : q_lk layX 3 7 = some (0, 0) := rfl
theorem layX_4_0 : q_lk layX 4 0 = some (1, 23) := rfl
theorem layX_4_1 : q_lk layX 4 1 = some (1, 0) := rfl
theorem layX_5_0 : q_lk layX 5 0 = some (4, 24) := rfl
theorem layX_5_1 : q_lk layX 5 1 = some (4, 25) := rfl
theorem layX_5_2 : q_lk layX 5 2 = some (4, 26) := rfl
theorem layX_5_3 : q_lk layX 5 3 = some (4, 0) := rfl
/-- 0 WidenDeskModel; 1 WidenDeskModel.text[60]; 2 WidenDeskModel.thing[10]; 3 WidenDeskModel.rowOf[10]; 4 WidenDeskModel.kindOf[11]; 5 WidenDeskModel.size[11]; 6 WidenDeskModel.form[66]; 7 WidenDeskModel.kind[66]; 8 WidenDeskModel.value[66]; 9 WidenDeskModel.number[20]; 10 WidenDeskModel.isStar[20]; 11 WidenDeskModel.reports[6]; 12 WidenDeskModel.oldThing[140]; 13 WidenDeskModel.oldRow[140]; 14 WidenDeskModel.oldKindOf[154]; 15 WidenDeskModel.oldSize[154]; 16 WidenDeskModel.oldForm[924]; 17 WidenDeskModel.oldKind[924]; 18 WidenDeskModel.oldValue[924]; 19 WidenDeskModel.oldNumber[280]; 20 WidenDeskModel.oldMarks[14]; 21 WidenDeskModel.seenHow[6]; 22 WidenDeskModel.seenKind[6]; 23 WidenDeskModel.seenReason[6]; 24 WidenDeskModel.newForm[6]; 25 WidenDeskModel.newCellKind[6]; 26 WidenDeskModel.newValue[6]; 27 WidenDeskModel.ends[64]; 28 WidenDeskModel.manyEnds[8] -/
def layM : List Sh := [.inr (6, [3, 0, 4, 5, 6, 7, 8, 9, 10, 11, 12, 0, 0, 0, 1, 13, 0, 14, 15, 16, 17, 18, 19, 20, 21, 22, 0, 0, 23, 24, 25, 0, 0, 0, 26, 27, 28, 0, 0, 1, 29, 30, 1, 0, 0, 1, 0]), .inl (0, 60), .inl (0, 10), .inl (0, 10), .inl (0, 11), .inl (0, 11), .inl (0, 66), .inl (0, 66), .inl (1, 66), .inl (0, 20), .inl (2, 20), .inl (0, 6), .inl (0, 140), .inl (0, 140), .inl (0, 154), .inl (0, 154), .inl (0, 924), .inl (0, 924), .inl (1, 924), .inl (0, 280), .inl (0, 14), .inl (0, 6), .inl (0, 6), .inl (0, 6), .inl (0, 6), .inl (0, 6), .inl (1, 6), .inl (1, 64), .inl (0, 8)]
theorem layM_0 : layM[0]? = some (.inr (6, [3, 0, 4, 5, 6, 7, 8, 9, 10, 11, 12, 0, 0, 0, 1, 13, 0, 14, 15, 16, 17, 18, 19, 20, 21, 22, 0, 0, 23, 24, 25, 0, 0, 0, 26, 27, 28, 0, 0, 1, 29, 30, 1, 0, 0, 1, 0])) := rfl
theorem layM_1 : layM[1]? = some (.inl (0, 60)) := rfl
theorem layM_2 : layM[2]? = some (.inl (0, 10)) := rfl
theorem layM_3 : layM[3]? = some (.inl (0, 10)) := rfl
theorem layM_4 : layM[4]? = some (.inl (0, 11)) := rfl
theorem layM_5 : layM[5]? = some (.inl (0, 11)) := rfl
theorem layM_6 : layM[6]? = some (.inl (0, 66)) := rfl
theorem layM_7 : layM[7]? = some (.inl (0, 66)) := rfl
theorem layM_8 : layM[8]? = some (.inl (1, 66)) := rfl
theorem layM_9 : layM[9]? = some (.inl (0, 20)) := rfl
theorem layM_10 : layM[10]? = some (.inl (2, 20)) := rfl
theorem layM_11 : layM[11]? = some (.inl (0, 6)) := rfl
theorem layM_12 : layM[12]? = some (.inl (0, 140)) := rfl
theorem layM_13 : layM[13]? = some (.inl (0, 140)) := rfl
theorem layM_14 : layM[14]? = some (.inl (0, 154)) := rfl
theorem layM_15 : layM[15]? = some (.inl (0, 154)) := rfl
theorem layM_16 : layM[16]? = some (.inl (0, 924)) := rfl
theorem layM_17 : layM[17]? = some (.inl (0, 924)) := rfl
theorem layM_18 : layM[18]? = some (.inl (1, 924)) := rfl
theorem layM_19 : layM[19]? = some (.inl (0, 280)) := rfl
theorem layM_20 : layM[20]? = some (.inl (0, 14)) := rfl
theorem layM_21 : layM[21]? = some (.inl (0, 6)) := rfl
theorem layM_22 : layM[22]? = some (.inl (0, 6)) := rfl
theorem layM_23 : layM[23]? = some (.inl (0, 6)) := rfl
theorem layM_24 : layM[24]? = some (.inl (0, 6)) := rfl
theorem layM_25 : layM[25]? = some (.inl (0, 6)) := rfl
theorem layM_26 : layM[26]? = some (.inl (1, 6)) := rfl
theorem layM_27 : layM[27]? = some (.inl (1, 64)) := rfl
theorem layM_28 : layM[28]? = some (.inl (0, 8)) := rfl
theorem layM_0_0 : q_lk layM 0 0 = some (6, 3) := rfl
theorem layM_0_1 : q_lk layM 0 1 = some (6, 0) := rfl
theorem layM_0_2 : q_lk layM 0 2 = some (6, 4) := rfl
theorem layM_0_3 : q_lk layM 0 3 = some (6, 5) := rfl
theorem layM_0_4 : q_lk layM 0 4 = some (6, 6) := rfl
theorem layM_0_5 : q_lk layM 0 5 = some (6, 7) := rfl
theorem layM_0_6 : q_lk layM 0 6 = some (6, 8) := rfl
theorem layM_0_7 : q_lk layM 0 7 = some (6, 9) := rfl
theorem layM_0_8 : q_lk layM 0 8 = some (6, 10) := rfl
theorem layM_0_9 : q_lk layM 0 9 = some (6, 11) := rfl
theorem layM_0_10 : q_lk layM 0 10 = some (6, 12) := rfl
theorem layM_0_11 : q_lk layM 0 11 = some (6, 0) := rfl
theorem layM_0_12 : q_lk layM 0 12 = some (6, 0) := rfl
theorem layM_0_13 : q_lk layM 0 13 = some (6, 0) := rfl
theorem layM_0_14 : q_lk layM 0 14 = some (6, 1) := rfl
theorem layM_0_15 : q_lk layM 0 15 = some (6, 13) := rfl
theorem layM_0_16 : q_lk layM 0 16 = some (6, 0) := rfl
theorem layM_0_17 : q_lk layM 0 17 = some (6, 14) := rfl
theorem layM_0_18 : q_lk layM 0 18 = some (6, 15) := rfl
theorem layM_0_19 : q_lk layM 0 19 = some (6, 16) := rfl
theorem layM_0_20 : q_lk layM 0 20 = some (6, 17) := rfl
theorem layM_0_21 : q_lk layM 0 21 = some (6, 18) := rfl
theorem layM_0_22 : q_lk layM 0 22 = some (6, 19) := rfl
theorem layM_0_23 : q_lk layM 0 23 = some (6, 20) := rfl
theorem layM_0_24 : q_lk layM 0 24 = some (6, 21) := rfl
theorem layM_0_25 : q_lk layM 0 25 = some (6, 22) := rfl
theorem layM_0_26 : q_lk layM 0 26 = some (6, 0) := rfl
theorem layM_0_27 : q_lk layM 0 27 = some (6, 0) := rfl
theorem layM_0_28 : q_lk layM 0 28 = some (6, 23) := rfl
theorem layM_0_29 : q_lk layM 0 29 = some (6, 24) := rfl
theorem layM_0_30 : q_lk layM 0 30 = some (6, 25) := rfl
theorem layM_0_31 : q_lk layM 0 31 = some (6, 0) := rfl
theorem layM_0_32 : q_lk layM 0 32 = some (6, 0) := rfl
theorem layM_0_33 : q_lk layM 0 33 = some (6, 0) := rfl
theorem layM_0_34 : q_lk layM 0 34 = some (6, 26) := rfl
theorem layM_0_35 : q_lk layM 0 35 = some (6, 27) := rfl
theorem layM_0_36 : q_lk layM 0 36 = some (6, 28) := rfl
theorem layM_0_37 : q_lk layM 0 37 = some (6, 0) := rfl
theorem layM_0_38 : q_lk layM 0 38 = some (6, 0) := rfl
theorem layM_0_39 : q_lk layM 0 39 = some (6, 1) := rfl
theorem layM_0_40 : q_lk layM 0 40 = some (6, 29) := rfl
theorem layM_0_41 : q_lk layM 0 41 = some (6, 30) := rfl
theorem layM_0_42 : q_lk layM 0 42 = some (6, 1) := rfl
theorem layM_0_43 : q_lk layM 0 43 = some (6, 0) := rfl
theorem layM_0_44 : q_lk layM 0 44 = some (6, 0) := rfl
theorem layM_0_45 : q_lk layM 0 45 = some (6, 1) := rfl
theorem layM_0_46 : q_lk layM 0 46 = some (6, 0) := rfl
theorem cb_m9 : (Int8.ofInt (-9)).toInt32 = (-9) := by decide
theorem cb_m4 : (Int8.ofInt (-4)).toInt32 = (-4) := by decide
theorem cb_m3 : (Int8.ofInt (-3)).toInt32 = (-3) := by decide
theorem cb_m2 : (Int8.ofInt (-2)).toInt32 = (-2) := by decide
theorem cb_6 : (Int8.ofInt 6).toInt32 = 6 := by decide
theorem cb_7 : (Int8.ofInt 7).toInt32 = 7 := by decide
theorem cb_8 : (Int8.ofInt 8).toInt32 = 8 := by decide
theorem cb_9 : (Int8.ofInt 9).toInt32 = 9 := by decide
theorem cb_10 : (Int8.ofInt 10).toInt32 = 10 := by decide
theorem cb_11 : (Int8.ofInt 11).toInt32 = 11 := by decide
theorem cb_12 : (Int8.ofInt 12).toInt32 = 12 := by decide
theorem cb_13 : (Int8.ofInt 13).toInt32 = 13 := by decide
theorem cb_14 : (Int8.ofInt 14).toInt32 = 14 := by decide
theorem cb_15 : (Int8.ofInt 15).toInt32 = 15 := by decide
theorem cb_16 : (Int8.ofInt 16).toInt32 = 16 := by decide
theorem cb_20 : (Int8.ofInt 20).toInt32 = 20 := by decide
theorem cb_23 : (Int8.ofInt 23).toInt32 = 23 := by decide
theorem cb_24 : (Int8.ofInt 24).toInt32 = 24 := by decide
theorem cb_25 : (Int8.ofInt 25).toInt32 = 25 := by decide
theorem cb_29 : (Int8.ofInt 29).toInt32 = 29 := by decide
theorem cb_31 : (Int8.ofInt 31).toInt32 = 31 := by decide
theorem cb_32 : (Int8.ofInt 32).toInt32 = 32 := by decide
theorem cb_42 : (Int8.ofInt 42).toInt32 = 42 := by decide
theorem cb_44 : (Int8.ofInt 44).toInt32 = 44 := by decide
theorem cb_45 : (Int8.ofInt 45).toInt32 = 45 := by decide
theorem cb_48 : (Int8.ofInt 48).toInt32 = 48 := by decide
theorem cb_52 : (Int8.ofInt 52).toInt32 = 52 := by decide
theorem cb_53 : (Int8.ofInt 53).toInt32 = 53 := by decide
theorem cb_57 : (Int8.ofInt 57).toInt32 = 57 := by decide
theorem cb_60 : (Int8.ofInt 60).toInt32 = 60 := by decide
theorem cb_62 : (Int8.ofInt 62).toInt32 = 62 := by decide
theorem cb_63 : (Int8.ofInt 63).toInt32 = 63 := by decide
theorem cb_64 : (Int8.ofInt 64).toInt32 = 64 := by decide
theorem cb_66 : (Int8.ofInt 66).toInt32 = 66 := by decide
theorem cb_99 : (Int8.ofInt 99).toInt32 = 99 := by decide
theorem cb_100 : (Int8.ofInt 100).toInt32 = 100 := by decide
theorem cb_111 : (Int8.ofInt 111).toInt32 = 111 := by decide
theorem cb_116 : (Int8.ofInt 116).toInt32 = 116 := by decide
theorem cb_119 : (Int8.ofInt 119).toInt32 = 119 := by decide
theorem cb_127 : (Int8.ofInt 127).toInt32 = 127 := by decide
theorem ci_m1 : Int32.ofInt (-1) = (-1) := by decide
theorem ci_0 : Int32.ofInt 0 = 0 := by decide
theorem ci_1 : Int32.ofInt 1 = 1 := by decide
theorem ci_2 : Int32.ofInt 2 = 2 := by decide
theorem ci_3 : Int32.ofInt 3 = 3 := by decide
theorem ci_4 : Int32.ofInt 4 = 4 := by decide
theorem ci_5 : Int32.ofInt 5 = 5 := by decide
theorem cx_m16 (x : Int32) : x + Int32.ofInt (-16) = x + (-16) := by rw [show Int32.ofInt (-16) = (-16) by decide]
theorem cx_m8 (x : Int32) : x + Int32.ofInt (-8) = x + (-8) := by rw [show Int32.ofInt (-8) = (-8) by decide]
theorem cx_m4 (x : Int32) : x + Int32.ofInt (-4) = x + (-4) := by rw [show Int32.ofInt (-4) = (-4) by decide]
theorem cx_m2 (x : Int32) : x + Int32.ofInt (-2) = x + (-2) := by rw [show Int32.ofInt (-2) = (-2) by decide]
theorem cx_m1 (x : Int32) : x + Int32.ofInt (-1) = x + (-1) := by rw [show Int32.ofInt (-1) = (-1) by decide]
theorem cx_1 (x : Int32) : x + Int32.ofInt 1 = x + 1 := by rw [show Int32.ofInt 1 = 1 by decide]
theorem cs_255 : (Int16.ofInt 255).toInt32 = 255 := by decide
theorem cs_256 : (Int16.ofInt 256).toInt32 = 256 := by decide
theorem cs_999 : (Int16.ofInt 999).toInt32 = 999 := by decide
theorem cs_1000 : (Int16.ofInt 1000).toInt32 = 1000 := by decide
theorem cs_1023 : (Int16.ofInt 1023).toInt32 = 1023 := by decide
theorem cs_2047 : (Int16.ofInt 2047).toInt32 = 2047 := by decide
theorem cs_9999 : (Int16.ofInt 9999).toInt32 = 9999 := by decide
theorem cl_0 : Int64.ofNat ((0 : Fin 2) : Nat) = 0 := by decide
theorem cl_1 : Int64.ofNat ((1 : Fin 2) : Nat) = 1 := by decide
theorem inTT_X0 : ∀ w ∈ u_ws RX0 TX0 8, w ∈ TT := by
  have h : u_ws RX0 TX0 8 = ([157, 159, 161, 163, 165, 167, 169, 171] : List Nat).filterMap (fun i => lw_tbl[i]?) := by decide +kernel
  have g : ∀ w ∈ u_ws RX0 TX0 8, goodWord w = true := by decide +kernel
  intro w hw
  have hg := g w hw
  rw [h] at hw
  obtain ⟨i, -, hi⟩ := List.mem_filterMap.mp hw
  exact TT_in i hi hg
theorem inTT_X1 : ∀ w ∈ u_ws RX1 TX1 2, w ∈ TT := by
  have h : u_ws RX1 TX1 2 = ([183, 185] : List Nat).filterMap (fun i => lw_tbl[i]?) := by decide +kernel
  have g : ∀ w ∈ u_ws RX1 TX1 2, goodWord w = true := by decide +kernel
  intro w hw
  have hg := g w hw
  rw [h] at hw
  obtain ⟨i, -, hi⟩ := List.mem_filterMap.mp hw
  exact TT_in i hi hg
theorem inTT_X3 : ∀ w ∈ u_ws RX3 TX3 7, w ∈ TT := by
  have h : u_ws RX3 TX3 7 = ([100, 102, 104, 106, 108, 110, 112] : List Nat).filterMap (fun i => lw_tbl[i]?) := by decide +kernel
  have g : ∀ w ∈ u_ws RX3 TX3 7, goodWord w = true := by decide +kernel
  intro w hw
  have hg := g w hw
  rw [h] at hw
  obtain ⟨i, -, hi⟩ := List.mem_filterMap.mp hw
  exact TT_in i hi hg
theorem inTT_X5 : ∀ w ∈ u_ws RX5 TX5 4, w ∈ TT := by
  have h : u_ws RX5 TX5 4 = ([129, 131, 133, 135] : List Nat).filterMap (fun i => lw_tbl[i]?) := by decide +kernel
  have g : ∀ w ∈ u_ws RX5 TX5 4, goodWord w = true := by decide +kernel
  intro w hw
  have hg := g w hw
  rw [h] at hw
  obtain ⟨i, -, hi⟩ := List.mem_filterMap.mp hw
  exact TT_in i hi hg
theorem inTT_X6 : ∀ w ∈ u_ws RX6 TX6 4, w ∈ TT := by
  have h : u_ws RX6 TX6 4 = ([199, 201, 203, 205] : List Nat).filterMap (fun i => lw_tbl[i]?) := by decide +kernel
  have g : ∀ w ∈ u_ws RX6 TX6 4, goodWord w = true := by decide +kernel
  intro w hw
  have hg := g w hw
  rw [h] at hw
  obtain ⟨i, -, hi⟩ := List.mem_filterMap.mp hw
  exact TT_in i hi hg
theorem inTT_X7 : ∀ w ∈ u_ws RX7 TX7 11, w ∈ TT := by
  have h : u_ws RX7 TX7 11 = ([219, 221, 223, 225, 227, 229, 231, 233, 235, 237, 239] : List Nat).filterMap (fun i => lw_tbl[i]?) := by decide +kernel
  have g : ∀ w ∈ u_ws RX7 TX7 11, goodWord w = true := by decide +kernel
  intro w hw
  have hg := g w hw
  rw [h] at hw
  obtain ⟨i, -, hi⟩ := List.mem_filterMap.mp hw
  exact TT_in i hi hg
theorem inTT_X8 : ∀ w ∈ u_ws RX8 TX8 47, w ∈ TT := by
  have h : u_ws RX8 TX8 47 = ([899, 901, 903, 905, 907, 909, 911, 913, 915, 917, 919, 921, 923, 925, 927, 929, 931, 933, 935, 937, 939, 941, 943, 945, 947, 949, 951, 953, 955, 957, 959, 961, 963, 965, 967, 969, 971, 973, 975, 977, 979, 981, 983, 985, 987, 989, 991] : List Nat).filterMap (fun i => lw_tbl[i]?) := by decide +kernel
  have g : ∀ w ∈ u_ws RX8 TX8 47, goodWord w = true := by decide +kernel
  intro w hw
  have hg := g w hw
  rw [h] at hw
  obtain ⟨i, -, hi⟩ := List.mem_filterMap.mp hw
  exact TT_in i hi hg
theorem fdX7_12 : q_Fd RX7 12 5 0 (.object "WidenDesk$Reader") true := ⟨RX7, TX7, 11, tyX7, rfl, by decide, inTT_X7, TT_in 208 (by decide +kernel) rfl, tyX7_ok, nmX7, rfl, rfl⟩
theorem fdX7_19 : q_Fd RX7 19 5 1 (.object "WidenDesk$Shelf") true := ⟨RX7, TX7, 11, tyX7, rfl, by decide, inTT_X7, TT_in 209 (by decide +kernel) rfl, tyX7_ok, nmX7, rfl, rfl⟩
theorem fdX7_26 : q_Fd RX7 26 5 2 (.object "WidenDesk$Log") true := ⟨RX7, TX7, 11, tyX7, rfl, by decide, inTT_X7, TT_in 210 (by decide +kernel) rfl, tyX7_ok, nmX7, rfl, rfl⟩
theorem fdX7_33 : q_Fd RX7 33 5 3 (.object "WidenDesk$Marks") true := ⟨RX7, TX7, 11, tyX7, rfl, by decide, inTT_X7, TT_in 211 (by decide +kernel) rfl, tyX7_ok, nmX7, rfl, rfl⟩
theorem fdX7_40 : q_Fd RX7 40 5 4 (.object "WidenDesk$Views") true := ⟨RX7, TX7, 11, tyX7, rfl, by decide, inTT_X7, TT_in 212 (by decide +kernel) rfl, tyX7_ok, nmX7, rfl, rfl⟩
theorem fdX7_44 : q_Fd RX7 44 5 5 (.array .int) true := ⟨RX7, TX7, 11, tyX7, rfl, by decide, inTT_X7, TT_in 213 (by decide +kernel) rfl, tyX7_ok, nmX7, rfl, rfl⟩
theorem fdX7_48 : q_Fd RX7 48 5 6 (.array .int) true := ⟨RX7, TX7, 11, tyX7, rfl, by decide, inTT_X7, TT_in 214 (by decide +kernel) rfl, tyX7_ok, nmX7, rfl, rfl⟩
theorem fdX7_51 : q_Fd RX7 51 5 7 .int false := ⟨RX7, TX7, 11, tyX7, rfl, by decide, inTT_X7, TT_in 215 (by decide +kernel) rfl, tyX7_ok, nmX7, rfl, rfl⟩
theorem fdX7_55 : q_Fd RX7 55 5 8 .int false := ⟨RX7, TX7, 11, tyX7, rfl, by decide, inTT_X7, TT_in 216 (by decide +kernel) rfl, tyX7_ok, nmX7, rfl, rfl⟩
theorem fdX7_58 : q_Fd RX7 58 5 9 .int false := ⟨RX7, TX7, 11, tyX7, rfl, by decide, inTT_X7, TT_in 217 (by decide +kernel) rfl, tyX7_ok, nmX7, rfl, rfl⟩
theorem fdX7_61 : q_Fd RX7 61 5 10 .long false := ⟨RX7, TX7, 11, tyX7, rfl, by decide, inTT_X7, TT_in 218 (by decide +kernel) rfl, tyX7_ok, nmX7, rfl, rfl⟩
theorem fdX7_69 : q_Fd RX7 69 2 1 .int false := ⟨RX3, TX3, 7, tyX3, rfl, by decide, inTT_X3, TT_in 90 (by decide +kernel) rfl, tyX3_ok, nmX3, rfl, rfl⟩
theorem fdX7_79 : q_Fd RX7 79 2 2 .int false := ⟨RX3, TX3, 7, tyX3, rfl, by decide, inTT_X3, TT_in 92 (by decide +kernel) rfl, tyX3_ok, nmX3, rfl, rfl⟩
theorem fdX7_82 : q_Fd RX7 82 2 3 .int false := ⟨RX3, TX3, 7, tyX3, rfl, by decide, inTT_X3, TT_in 94 (by decide +kernel) rfl, tyX3_ok, nmX3, rfl, rfl⟩
theorem fdX7_89 : q_Fd RX7 89 2 4 (.array .int) true := ⟨RX3, TX3, 7, tyX3, rfl, by decide, inTT_X3, TT_in 96 (by decide +kernel) rfl, tyX3_ok, nmX3, rfl, rfl⟩
theorem fdX7_92 : q_Fd RX7 92 2 5 (.array .long) true := ⟨RX3, TX3, 7, tyX3, rfl, by decide, inTT_X3, TT_in 98 (by decide +kernel) rfl, tyX3_ok, nmX3, rfl, rfl⟩
theorem fdX7_110 : q_Fd RX7 110 1 1 .int false := ⟨RX1, TX1, 2, tyX1, rfl, by decide, inTT_X1, TT_in 182 (by decide +kernel) rfl, tyX1_ok, nmX1, rfl, rfl⟩
theorem fdX7_111 : q_Fd RX7 111 0 7 .int false := ⟨RX0, TX0, 8, tyX0, rfl, by decide, inTT_X0, TT_in 156 (by decide +kernel) rfl, tyX0_ok, nmX0, rfl, rfl⟩
theorem fdX7_114 : q_Fd RX7 114 4 3 .int false := ⟨RX6, TX6, 4, tyX6, rfl, by decide, inTT_X6, TT_in 198 (by decide +kernel) rfl, tyX6_ok, nmX6, rfl, rfl⟩
theorem fdX7_132 : q_Fd RX7 132 3 1 (.array .int) true := ⟨RX5, TX5, 4, tyX5, rfl, by decide, inTT_X5, TT_in 126 (by decide +kernel) rfl, tyX5_ok, nmX5, rfl, rfl⟩
theorem fdX7_277 : q_Fd RX7 277 0 0 (.array .int) true := ⟨RX0, TX0, 8, tyX0, rfl, by decide, inTT_X0, TT_in 145 (by decide +kernel) rfl, tyX0_ok, nmX0, rfl, rfl⟩
theorem fdX7_280 : q_Fd RX7 280 0 1 (.array .int) true := ⟨RX0, TX0, 8, tyX0, rfl, by decide, inTT_X0, TT_in 147 (by decide +kernel) rfl, tyX0_ok, nmX0, rfl, rfl⟩
theorem fdX7_283 : q_Fd RX7 283 0 2 (.array .int) true := ⟨RX0, TX0, 8, tyX0, rfl, by decide, inTT_X0, TT_in 149 (by decide +kernel) rfl, tyX0_ok, nmX0, rfl, rfl⟩
theorem fdX7_289 : q_Fd RX7 289 0 3 (.array .int) true := ⟨RX0, TX0, 8, tyX0, rfl, by decide, inTT_X0, TT_in 151 (by decide +kernel) rfl, tyX0_ok, nmX0, rfl, rfl⟩
theorem fdX7_292 : q_Fd RX7 292 3 0 (.array .int) true := ⟨RX5, TX5, 4, tyX5, rfl, by decide, inTT_X5, TT_in 124 (by decide +kernel) rfl, tyX5_ok, nmX5, rfl, rfl⟩
theorem fdX0_11 : q_Fd RX0 11 0 0 (.array .int) true := ⟨RX0, TX0, 8, tyX0, rfl, by decide, inTT_X0, TT_in 144 (by decide +kernel) rfl, tyX0_ok, nmX0, rfl, rfl⟩
theorem fdX0_15 : q_Fd RX0 15 0 1 (.array .int) true := ⟨RX0, TX0, 8, tyX0, rfl, by decide, inTT_X0, TT_in 146 (by decide +kernel) rfl, tyX0_ok, nmX0, rfl, rfl⟩
theorem fdX0_18 : q_Fd RX0 18 0 2 (.array .int) true := ⟨RX0, TX0, 8, tyX0, rfl, by decide, inTT_X0, TT_in 148 (by decide +kernel) rfl, tyX0_ok, nmX0, rfl, rfl⟩
theorem fdX0_21 : q_Fd RX0 21 0 3 (.array .int) true := ⟨RX0, TX0, 8, tyX0, rfl, by decide, inTT_X0, TT_in 150 (by decide +kernel) rfl, tyX0_ok, nmX0, rfl, rfl⟩
theorem fdX0_24 : q_Fd RX0 24 0 4 (.array .int) true := ⟨RX0, TX0, 8, tyX0, rfl, by decide, inTT_X0, TT_in 152 (by decide +kernel) rfl, tyX0_ok, nmX0, rfl, rfl⟩
theorem fdX0_27 : q_Fd RX0 27 0 5 (.array .long) true := ⟨RX0, TX0, 8, tyX0, rfl, by decide, inTT_X0, TT_in 153 (by decide +kernel) rfl, tyX0_ok, nmX0, rfl, rfl⟩
theorem fdX0_31 : q_Fd RX0 31 0 6 .int false := ⟨RX0, TX0, 8, tyX0, rfl, by decide, inTT_X0, TT_in 154 (by decide +kernel) rfl, tyX0_ok, nmX0, rfl, rfl⟩
theorem fdX0_35 : q_Fd RX0 35 0 7 .int false := ⟨RX0, TX0, 8, tyX0, rfl, by decide, inTT_X0, TT_in 155 (by decide +kernel) rfl, tyX0_ok, nmX0, rfl, rfl⟩
theorem fdX1_9 : q_Fd RX1 9 1 0 (.array .int) true := ⟨RX1, TX1, 2, tyX1, rfl, by decide, inTT_X1, TT_in 180 (by decide +kernel) rfl, tyX1_ok, nmX1, rfl, rfl⟩
theorem fdX1_13 : q_Fd RX1 13 1 1 .int false := ⟨RX1, TX1, 2, tyX1, rfl, by decide, inTT_X1, TT_in 181 (by decide +kernel) rfl, tyX1_ok, nmX1, rfl, rfl⟩
theorem fdX3_11 : q_Fd RX3 11 2 0 (.array .int) true := ⟨RX3, TX3, 7, tyX3, rfl, by decide, inTT_X3, TT_in 88 (by decide +kernel) rfl, tyX3_ok, nmX3, rfl, rfl⟩
theorem fdX3_15 : q_Fd RX3 15 2 1 .int false := ⟨RX3, TX3, 7, tyX3, rfl, by decide, inTT_X3, TT_in 89 (by decide +kernel) rfl, tyX3_ok, nmX3, rfl, rfl⟩
theorem fdX3_19 : q_Fd RX3 19 2 2 .int false := ⟨RX3, TX3, 7, tyX3, rfl, by decide, inTT_X3, TT_in 91 (by decide +kernel) rfl, tyX3_ok, nmX3, rfl, rfl⟩
theorem fdX3_22 : q_Fd RX3 22 2 3 .int false := ⟨RX3, TX3, 7, tyX3, rfl, by decide, inTT_X3, TT_in 93 (by decide +kernel) rfl, tyX3_ok, nmX3, rfl, rfl⟩
theorem fdX3_25 : q_Fd RX3 25 2 4 (.array .int) true := ⟨RX3, TX3, 7, tyX3, rfl, by decide, inTT_X3, TT_in 95 (by decide +kernel) rfl, tyX3_ok, nmX3, rfl, rfl⟩
theorem fdX3_28 : q_Fd RX3 28 2 5 (.array .long) true := ⟨RX3, TX3, 7, tyX3, rfl, by decide, inTT_X3, TT_in 97 (by decide +kernel) rfl, tyX3_ok, nmX3, rfl, rfl⟩
theorem fdX3_32 : q_Fd RX3 32 2 6 .int false := ⟨RX3, TX3, 7, tyX3, rfl, by decide, inTT_X3, TT_in 99 (by decide +kernel) rfl, tyX3_ok, nmX3, rfl, rfl⟩
theorem fdX5_13 : q_Fd RX5 13 3 0 (.array .int) true := ⟨RX5, TX5, 4, tyX5, rfl, by decide, inTT_X5, TT_in 123 (by decide +kernel) rfl, tyX5_ok, nmX5, rfl, rfl⟩
theorem fdX5_17 : q_Fd RX5 17 3 1 (.array .int) true := ⟨RX5, TX5, 4, tyX5, rfl, by decide, inTT_X5, TT_in 125 (by decide +kernel) rfl, tyX5_ok, nmX5, rfl, rfl⟩
theorem fdX5_20 : q_Fd RX5 20 3 2 (.array .int) true := ⟨RX5, TX5, 4, tyX5, rfl, by decide, inTT_X5, TT_in 127 (by decide +kernel) rfl, tyX5_ok, nmX5, rfl, rfl⟩
theorem fdX5_23 : q_Fd RX5 23 3 3 (.array .long) true := ⟨RX5, TX5, 4, tyX5, rfl, by decide, inTT_X5, TT_in 128 (by decide +kernel) rfl, tyX5_ok, nmX5, rfl, rfl⟩
theorem fdX6_11 : q_Fd RX6 11 4 0 (.array .int) true := ⟨RX6, TX6, 4, tyX6, rfl, by decide, inTT_X6, TT_in 194 (by decide +kernel) rfl, tyX6_ok, nmX6, rfl, rfl⟩
theorem fdX6_15 : q_Fd RX6 15 4 1 (.array .int) true := ⟨RX6, TX6, 4, tyX6, rfl, by decide, inTT_X6, TT_in 195 (by decide +kernel) rfl, tyX6_ok, nmX6, rfl, rfl⟩
theorem fdX6_18 : q_Fd RX6 18 4 2 (.array .int) true := ⟨RX6, TX6, 4, tyX6, rfl, by decide, inTT_X6, TT_in 196 (by decide +kernel) rfl, tyX6_ok, nmX6, rfl, rfl⟩
theorem fdX6_21 : q_Fd RX6 21 4 3 .int false := ⟨RX6, TX6, 4, tyX6, rfl, by decide, inTT_X6, TT_in 197 (by decide +kernel) rfl, tyX6_ok, nmX6, rfl, rfl⟩
theorem fdX8_7 : q_Fd RX8 7 6 0 (.array .int) true := ⟨RX8, TX8, 47, tyX8, rfl, by decide, inTT_X8, TT_in 852 (by decide +kernel) rfl, tyX8_ok, nmX8, rfl, rfl⟩
theorem fdX8_13 : q_Fd RX8 13 6 2 (.array .int) true := ⟨RX8, TX8, 47, tyX8, rfl, by decide, inTT_X8, TT_in 854 (by decide +kernel) rfl, tyX8_ok, nmX8, rfl, rfl⟩
theorem fdX8_16 : q_Fd RX8 16 6 3 (.array .int) true := ⟨RX8, TX8, 47, tyX8, rfl, by decide, inTT_X8, TT_in 855 (by decide +kernel) rfl, tyX8_ok, nmX8, rfl, rfl⟩
theorem fdX8_19 : q_Fd RX8 19 6 4 (.array .int) true := ⟨RX8, TX8, 47, tyX8, rfl, by decide, inTT_X8, TT_in 856 (by decide +kernel) rfl, tyX8_ok, nmX8, rfl, rfl⟩
theorem fdX8_22 : q_Fd RX8 22 6 5 (.array .int) true := ⟨RX8, TX8, 47, tyX8, rfl, by decide, inTT_X8, TT_in 857 (by decide +kernel) rfl, tyX8_ok, nmX8, rfl, rfl⟩
theorem fdX8_25 : q_Fd RX8 25 6 6 (.array .int) true := ⟨RX8, TX8, 47, tyX8, rfl, by decide, inTT_X8, TT_in 858 (by decide +kernel) rfl, tyX8_ok, nmX8, rfl, rfl⟩
theorem fdX8_28 : q_Fd RX8 28 6 7 (.array .int) true := ⟨RX8, TX8, 47, tyX8, rfl, by decide, inTT_X8, TT_in 859 (by decide +kernel) rfl, tyX8_ok, nmX8, rfl, rfl⟩
theorem fdX8_31 : q_Fd RX8 31 6 8 (.array .long) true := ⟨RX8, TX8, 47, tyX8, rfl, by decide, inTT_X8, TT_in 860 (by decide +kernel) rfl, tyX8_ok, nmX8, rfl, rfl⟩
theorem fdX8_35 : q_Fd RX8 35 6 9 (.array .int) true := ⟨RX8, TX8, 47, tyX8, rfl, by decide, inTT_X8, TT_in 861 (by decide +kernel) rfl, tyX8_ok, nmX8, rfl, rfl⟩
theorem fdX8_38 : q_Fd RX8 38 6 10 (.array .boolean) true := ⟨RX8, TX8, 47, tyX8, rfl, by decide, inTT_X8, TT_in 862 (by decide +kernel) rfl, tyX8_ok, nmX8, rfl, rfl⟩
theorem fdX8_42 : q_Fd RX8 42 6 15 (.array .int) true := ⟨RX8, TX8, 47, tyX8, rfl, by decide, inTT_X8, TT_in 867 (by decide +kernel) rfl, tyX8_ok, nmX8, rfl, rfl⟩
theorem fdX8_45 : q_Fd RX8 45 6 17 (.array .int) true := ⟨RX8, TX8, 47, tyX8, rfl, by decide, inTT_X8, TT_in 869 (by decide +kernel) rfl, tyX8_ok, nmX8, rfl, rfl⟩
theorem fdX8_48 : q_Fd RX8 48 6 18 (.array .int) true := ⟨RX8, TX8, 47, tyX8, rfl, by decide, inTT_X8, TT_in 870 (by decide +kernel) rfl, tyX8_ok, nmX8, rfl, rfl⟩
theorem fdX8_51 : q_Fd RX8 51 6 19 (.array .int) true := ⟨RX8, TX8, 47, tyX8, rfl, by decide, inTT_X8, TT_in 871 (by decide +kernel) rfl, tyX8_ok, nmX8, rfl, rfl⟩
theorem fdX8_54 : q_Fd RX8 54 6 20 (.array .int) true := ⟨RX8, TX8, 47, tyX8, rfl, by decide, inTT_X8, TT_in 872 (by decide +kernel) rfl, tyX8_ok, nmX8, rfl, rfl⟩
theorem fdX8_57 : q_Fd RX8 57 6 21 (.array .int) true := ⟨RX8, TX8, 47, tyX8, rfl, by decide, inTT_X8, TT_in 873 (by decide +kernel) rfl, tyX8_ok, nmX8, rfl, rfl⟩
theorem fdX8_60 : q_Fd RX8 60 6 22 (.array .int) true := ⟨RX8, TX8, 47, tyX8, rfl, by decide, inTT_X8, TT_in 874 (by decide +kernel) rfl, tyX8_ok, nmX8, rfl, rfl⟩
theorem fdX8_63 : q_Fd RX8 63 6 23 (.array .long) true := ⟨RX8, TX8, 47, tyX8, rfl, by decide, inTT_X8, TT_in 875 (by decide +kernel) rfl, tyX8_ok, nmX8, rfl, rfl⟩
theorem fdX8_66 : q_Fd RX8 66 6 24 (.array .int) true := ⟨RX8, TX8, 47, tyX8, rfl, by decide, inTT_X8, TT_in 876 (by decide +kernel) rfl, tyX8_ok, nmX8, rfl, rfl⟩
theorem fdX8_69 : q_Fd RX8 69 6 25 (.array .int) true := ⟨RX8, TX8, 47, tyX8, rfl, by decide, inTT_X8, TT_in 877 (by decide +kernel) rfl, tyX8_ok, nmX8, rfl, rfl⟩
theorem fdX8_72 : q_Fd RX8 72 6 28 (.array .int) true := ⟨RX8, TX8, 47, tyX8, rfl, by decide, inTT_X8, TT_in 880 (by decide +kernel) rfl, tyX8_ok, nmX8, rfl, rfl⟩
theorem fdX8_75 : q_Fd RX8 75 6 29 (.array .int) true := ⟨RX8, TX8, 47, tyX8, rfl, by decide, inTT_X8, TT_in 881 (by decide +kernel) rfl, tyX8_ok, nmX8, rfl, rfl⟩
theorem fdX8_78 : q_Fd RX8 78 6 30 (.array .int) true := ⟨RX8, TX8, 47, tyX8, rfl, by decide, inTT_X8, TT_in 882 (by decide +kernel) rfl, tyX8_ok, nmX8, rfl, rfl⟩
theorem fdX8_81 : q_Fd RX8 81 6 34 (.array .int) true := ⟨RX8, TX8, 47, tyX8, rfl, by decide, inTT_X8, TT_in 886 (by decide +kernel) rfl, tyX8_ok, nmX8, rfl, rfl⟩
theorem fdX8_84 : q_Fd RX8 84 6 35 (.array .int) true := ⟨RX8, TX8, 47, tyX8, rfl, by decide, inTT_X8, TT_in 887 (by decide +kernel) rfl, tyX8_ok, nmX8, rfl, rfl⟩
theorem fdX8_87 : q_Fd RX8 87 6 36 (.array .long) true := ⟨RX8, TX8, 47, tyX8, rfl, by decide, inTT_X8, TT_in 888 (by decide +kernel) rfl, tyX8_ok, nmX8, rfl, rfl⟩
theorem fdX8_90 : q_Fd RX8 90 6 40 (.array .long) true := ⟨RX8, TX8, 47, tyX8, rfl, by decide, inTT_X8, TT_in 892 (by decide +kernel) rfl, tyX8_ok, nmX8, rfl, rfl⟩
theorem fdX8_93 : q_Fd RX8 93 6 41 (.array .int) true := ⟨RX8, TX8, 47, tyX8, rfl, by decide, inTT_X8, TT_in 893 (by decide +kernel) rfl, tyX8_ok, nmX8, rfl, rfl⟩
theorem fdX8_102 : q_Fd RX8 102 6 42 .long false := ⟨RX8, TX8, 47, tyX8, rfl, by decide, inTT_X8, TT_in 894 (by decide +kernel) rfl, tyX8_ok, nmX8, rfl, rfl⟩
theorem fdX8_106 : q_Fd RX8 106 6 43 .int false := ⟨RX8, TX8, 47, tyX8, rfl, by decide, inTT_X8, TT_in 895 (by decide +kernel) rfl, tyX8_ok, nmX8, rfl, rfl⟩
theorem fdX8_162 : q_Fd RX8 162 6 1 .int false := ⟨RX8, TX8, 47, tyX8, rfl, by decide, inTT_X8, TT_in 853 (by decide +kernel) rfl, tyX8_ok, nmX8, rfl, rfl⟩
theorem fdX8_169 : q_Fd RX8 169 6 44 .int false := ⟨RX8, TX8, 47, tyX8, rfl, by decide, inTT_X8, TT_in 896 (by decide +kernel) rfl, tyX8_ok, nmX8, rfl, rfl⟩
theorem fdX8_183 : q_Fd RX8 183 6 45 .long false := ⟨RX8, TX8, 47, tyX8, rfl, by decide, inTT_X8, TT_in 897 (by decide +kernel) rfl, tyX8_ok, nmX8, rfl, rfl⟩
theorem fdX8_186 : q_Fd RX8 186 6 46 .boolean false := ⟨RX8, TX8, 47, tyX8, rfl, by decide, inTT_X8, TT_in 898 (by decide +kernel) rfl, tyX8_ok, nmX8, rfl, rfl⟩
theorem fdX8_192 : q_Fd RX8 192 6 33 .int false := ⟨RX8, TX8, 47, tyX8, rfl, by decide, inTT_X8, TT_in 885 (by decide +kernel) rfl, tyX8_ok, nmX8, rfl, rfl⟩
theorem fdX8_195 : q_Fd RX8 195 6 32 .int false := ⟨RX8, TX8, 47, tyX8, rfl, by decide, inTT_X8, TT_in 884 (by decide +kernel) rfl, tyX8_ok, nmX8, rfl, rfl⟩
theorem fdX8_227 : q_Fd RX8 227 6 27 .int false := ⟨RX8, TX8, 47, tyX8, rfl, by decide, inTT_X8, TT_in 879 (by decide +kernel) rfl, tyX8_ok, nmX8, rfl, rfl⟩
theorem fdX8_230 : q_Fd RX8 230 6 11 .int false := ⟨RX8, TX8, 47, tyX8, rfl, by decide, inTT_X8, TT_in 863 (by decide +kernel) rfl, tyX8_ok, nmX8, rfl, rfl⟩
theorem fdX8_233 : q_Fd RX8 233 6 26 .int false := ⟨RX8, TX8, 47, tyX8, rfl, by decide, inTT_X8, TT_in 878 (by decide +kernel) rfl, tyX8_ok, nmX8, rfl, rfl⟩
theorem fdX8_248 : q_Fd RX8 248 6 16 .int false := ⟨RX8, TX8, 47, tyX8, rfl, by decide, inTT_X8, TT_in 868 (by decide +kernel) rfl, tyX8_ok, nmX8, rfl, rfl⟩
theorem fdX8_251 : q_Fd RX8 251 6 31 .int false := ⟨RX8, TX8, 47, tyX8, rfl, by decide, inTT_X8, TT_in 883 (by decide +kernel) rfl, tyX8_ok, nmX8, rfl, rfl⟩
theorem fdX8_270 : q_Fd RX8 270 6 37 .int false := ⟨RX8, TX8, 47, tyX8, rfl, by decide, inTT_X8, TT_in 889 (by decide +kernel) rfl, tyX8_ok, nmX8, rfl, rfl⟩
theorem fdX8_273 : q_Fd RX8 273 6 38 .int false := ⟨RX8, TX8, 47, tyX8, rfl, by decide, inTT_X8, TT_in 890 (by decide +kernel) rfl, tyX8_ok, nmX8, rfl, rfl⟩
theorem fdX8_276 : q_Fd RX8 276 6 39 .long false := ⟨RX8, TX8, 47, tyX8, rfl, by decide, inTT_X8, TT_in 891 (by decide +kernel) rfl, tyX8_ok, nmX8, rfl, rfl⟩
theorem fdX8_296 : q_Fd RX8 296 6 12 .int false := ⟨RX8, TX8, 47, tyX8, rfl, by decide, inTT_X8, TT_in 864 (by decide +kernel) rfl, tyX8_ok, nmX8, rfl, rfl⟩
theorem fdX8_299 : q_Fd RX8 299 6 13 .int false := ⟨RX8, TX8, 47, tyX8, rfl, by decide, inTT_X8, TT_in 865 (by decide +kernel) rfl, tyX8_ok, nmX8, rfl, rfl⟩
theorem fdX8_302 : q_Fd RX8 302 6 14 .long false := ⟨RX8, TX8, 47, tyX8, rfl, by decide, inTT_X8, TT_in 866 (by decide +kernel) rfl, tyX8_ok, nmX8, rfl, rfl⟩
theorem lkX7_65 : q_LkV RX7 65 yX3_append cX3_append 2 (some .boolean) 1 2 := ⟨⟨TT_in 249 (by decide +kernel) rfl, TT_in 246 (by decide +kernel) rfl, TT_in 58 (by decide +kernel) rfl, ⟨by decide, by decide⟩, by decide +kernel, by decide⟩, TT_in 247 (by decide +kernel) rfl, TT_in 248 (by decide +kernel) rfl, ⟨_, _, rfl⟩⟩
theorem lkX7_72 : q_LkV RX7 72 yX3_scan cX3_scan 1 (some .int) 0 2 := ⟨⟨TT_in 261 (by decide +kernel) rfl, TT_in 258 (by decide +kernel) rfl, TT_in 58 (by decide +kernel) rfl, ⟨by decide, by decide⟩, by decide +kernel, by decide⟩, TT_in 259 (by decide +kernel) rfl, TT_in 260 (by decide +kernel) rfl, ⟨_, _, rfl⟩⟩
theorem lkX7_76 : q_LkS RX7 76 yX7_isSlot cX7_isSlot 1 (some .boolean) 1 := ⟨⟨TT_in 409 (by decide +kernel) rfl, TT_in 407 (by decide +kernel) rfl, TT_in 57 (by decide +kernel) rfl, ⟨by decide, by decide⟩, by decide +kernel, by decide⟩, TT_in 408 (by decide +kernel) rfl⟩
theorem lkX7_85 : q_LkV RX7 85 yX7_newRow cX7_newRow 4 (some .int) 2 5 := ⟨⟨TT_in 413 (by decide +kernel) rfl, TT_in 410 (by decide +kernel) rfl, TT_in 57 (by decide +kernel) rfl, ⟨by decide, by decide⟩, by decide +kernel, by decide⟩, TT_in 412 (by decide +kernel) rfl, TT_in 5 (by decide +kernel) rfl, ⟨_, _, rfl⟩⟩
theorem lkX7_96 : q_LkS RX7 96 yX2_ofWhole cX2_ofWhole 3 (some .long) 2 := ⟨⟨TT_in 444 (by decide +kernel) rfl, TT_in 442 (by decide +kernel) rfl, TT_in 70 (by decide +kernel) rfl, ⟨by decide, by decide⟩, by decide +kernel, by decide⟩, TT_in 443 (by decide +kernel) rfl⟩
theorem lkX7_102 : q_LkV RX7 102 yX5_set cX5_set 6 none 4 3 := ⟨⟨TT_in 441 (by decide +kernel) rfl, TT_in 465 (by decide +kernel) rfl, TT_in 59 (by decide +kernel) rfl, ⟨by decide, by decide⟩, by decide +kernel, by decide⟩, TT_in 439 (by decide +kernel) rfl, TT_in 440 (by decide +kernel) rfl, ⟨_, _, rfl⟩⟩
theorem lkX7_106 : q_LkV RX7 106 yX7_replace cX7_replace 3 none 2 5 := ⟨⟨TT_in 469 (by decide +kernel) rfl, TT_in 466 (by decide +kernel) rfl, TT_in 57 (by decide +kernel) rfl, ⟨by decide, by decide⟩, by decide +kernel, by decide⟩, TT_in 468 (by decide +kernel) rfl, TT_in 9 (by decide +kernel) rfl, ⟨_, _, rfl⟩⟩
theorem lkX7_115 : q_LkV RX7 115 yX7_countArrays cX7_countArrays 5 (some .int) 1 5 := ⟨⟨TT_in 486 (by decide +kernel) rfl, TT_in 483 (by decide +kernel) rfl, TT_in 57 (by decide +kernel) rfl, ⟨by decide, by decide⟩, by decide +kernel, by decide⟩, TT_in 485 (by decide +kernel) rfl, TT_in 11 (by decide +kernel) rfl, ⟨_, _, rfl⟩⟩
theorem lkX7_119 : q_LkV RX7 119 yX7_countEmptySlots cX7_countEmptySlots 3 (some .int) 0 5 := ⟨⟨TT_in 498 (by decide +kernel) rfl, TT_in 495 (by decide +kernel) rfl, TT_in 57 (by decide +kernel) rfl, ⟨by decide, by decide⟩, by decide +kernel, by decide⟩, TT_in 497 (by decide +kernel) rfl, TT_in 14 (by decide +kernel) rfl, ⟨_, _, rfl⟩⟩
theorem lkX7_122 : q_LkV RX7 122 yX7_countFine cX7_countFine 3 (some .int) 0 5 := ⟨⟨TT_in 502 (by decide +kernel) rfl, TT_in 499 (by decide +kernel) rfl, TT_in 57 (by decide +kernel) rfl, ⟨by decide, by decide⟩, by decide +kernel, by decide⟩, TT_in 501 (by decide +kernel) rfl, TT_in 15 (by decide +kernel) rfl, ⟨_, _, rfl⟩⟩
theorem lkX7_125 : q_LkV RX7 125 yX7_thingIn cX7_thingIn 2 (some .int) 1 5 := ⟨⟨TT_in 494 (by decide +kernel) rfl, TT_in 491 (by decide +kernel) rfl, TT_in 57 (by decide +kernel) rfl, ⟨by decide, by decide⟩, by decide +kernel, by decide⟩, TT_in 493 (by decide +kernel) rfl, TT_in 13 (by decide +kernel) rfl, ⟨_, _, rfl⟩⟩
theorem lkX7_129 : q_LkV RX7 129 yX7_holdsArray cX7_holdsArray 2 (some .boolean) 1 5 := ⟨⟨TT_in 490 (by decide +kernel) rfl, TT_in 487 (by decide +kernel) rfl, TT_in 57 (by decide +kernel) rfl, ⟨by decide, by decide⟩, by decide +kernel, by decide⟩, TT_in 489 (by decide +kernel) rfl, TT_in 12 (by decide +kernel) rfl, ⟨_, _, rfl⟩⟩
theorem lkX7_139 : q_LkV RX7 139 yX5_has cX5_has 3 (some .boolean) 2 3 := ⟨⟨TT_in 528 (by decide +kernel) rfl, TT_in 525 (by decide +kernel) rfl, TT_in 59 (by decide +kernel) rfl, ⟨by decide, by decide⟩, by decide +kernel, by decide⟩, TT_in 526 (by decide +kernel) rfl, TT_in 527 (by decide +kernel) rfl, ⟨_, _, rfl⟩⟩
theorem lkX7_145 : q_LkV RX7 145 yX5_typeAt cX5_typeAt 3 (some .int) 2 3 := ⟨⟨TT_in 533 (by decide +kernel) rfl, TT_in 530 (by decide +kernel) rfl, TT_in 59 (by decide +kernel) rfl, ⟨by decide, by decide⟩, by decide +kernel, by decide⟩, TT_in 531 (by decide +kernel) rfl, TT_in 532 (by decide +kernel) rfl, ⟨_, _, rfl⟩⟩
theorem lkX7_148 : q_LkV RX7 148 yX5_codeAt cX5_codeAt 3 (some .long) 2 3 := ⟨⟨TT_in 537 (by decide +kernel) rfl, TT_in 534 (by decide +kernel) rfl, TT_in 59 (by decide +kernel) rfl, ⟨by decide, by decide⟩, by decide +kernel, by decide⟩, TT_in 535 (by decide +kernel) rfl, TT_in 536 (by decide +kernel) rfl, ⟨_, _, rfl⟩⟩
theorem lkX7_152 : q_LkV RX7 152 yX7_shownCode cX7_shownCode 4 (some .long) 2 5 := ⟨⟨TT_in 541 (by decide +kernel) rfl, TT_in 538 (by decide +kernel) rfl, TT_in 57 (by decide +kernel) rfl, ⟨by decide, by decide⟩, by decide +kernel, by decide⟩, TT_in 540 (by decide +kernel) rfl, TT_in 16 (by decide +kernel) rfl, ⟨_, _, rfl⟩⟩
theorem lkX7_155 : q_LkS RX7 155 yX7_markIndex cX7_markIndex 3 (some .long) 2 := ⟨⟨TT_in 551 (by decide +kernel) rfl, TT_in 549 (by decide +kernel) rfl, TT_in 57 (by decide +kernel) rfl, ⟨by decide, by decide⟩, by decide +kernel, by decide⟩, TT_in 550 (by decide +kernel) rfl⟩
theorem lkX7_158 : q_LkS RX7 158 yX7_isPrimitive cX7_isPrimitive 1 (some .boolean) 1 := ⟨⟨TT_in 369 (by decide +kernel) rfl, TT_in 557 (by decide +kernel) rfl, TT_in 57 (by decide +kernel) rfl, ⟨by decide, by decide⟩, by decide +kernel, by decide⟩, TT_in 368 (by decide +kernel) rfl⟩
theorem lkX7_161 : q_LkS RX7 161 yX2_made cX2_made 3 (some .long) 2 := ⟨⟨TT_in 560 (by decide +kernel) rfl, TT_in 558 (by decide +kernel) rfl, TT_in 70 (by decide +kernel) rfl, ⟨by decide, by decide⟩, by decide +kernel, by decide⟩, TT_in 559 (by decide +kernel) rfl⟩
theorem lkX7_164 : q_LkV RX7 164 yX7_hold cX7_hold 5 none 3 5 := ⟨⟨TT_in 564 (by decide +kernel) rfl, TT_in 561 (by decide +kernel) rfl, TT_in 57 (by decide +kernel) rfl, ⟨by decide, by decide⟩, by decide +kernel, by decide⟩, TT_in 563 (by decide +kernel) rfl, TT_in 17 (by decide +kernel) rfl, ⟨_, _, rfl⟩⟩
theorem lkX7_168 : q_LkS RX7 168 yX7_isMarkNumber cX7_isMarkNumber 1 (some .boolean) 1 := ⟨⟨TT_in 571 (by decide +kernel) rfl, TT_in 569 (by decide +kernel) rfl, TT_in 57 (by decide +kernel) rfl, ⟨by decide, by decide⟩, by decide +kernel, by decide⟩, TT_in 570 (by decide +kernel) rfl⟩
theorem lkX7_171 : q_LkV RX7 171 yX1_isFull cX1_isFull 1 (some .boolean) 0 1 := ⟨⟨TT_in 575 (by decide +kernel) rfl, TT_in 572 (by decide +kernel) rfl, TT_in 61 (by decide +kernel) rfl, ⟨by decide, by decide⟩, by decide +kernel, by decide⟩, TT_in 573 (by decide +kernel) rfl, TT_in 574 (by decide +kernel) rfl, ⟨_, _, rfl⟩⟩
theorem lkX7_175 : q_LkV RX7 175 yX1_create cX1_create 2 (some .int) 1 1 := ⟨⟨TT_in 579 (by decide +kernel) rfl, TT_in 576 (by decide +kernel) rfl, TT_in 61 (by decide +kernel) rfl, ⟨by decide, by decide⟩, by decide +kernel, by decide⟩, TT_in 577 (by decide +kernel) rfl, TT_in 578 (by decide +kernel) rfl, ⟨_, _, rfl⟩⟩
theorem lkX7_178 : q_LkV RX7 178 yX1_numberOf cX1_numberOf 2 (some .int) 1 1 := ⟨⟨TT_in 548 (by decide +kernel) rfl, TT_in 545 (by decide +kernel) rfl, TT_in 61 (by decide +kernel) rfl, ⟨by decide, by decide⟩, by decide +kernel, by decide⟩, TT_in 546 (by decide +kernel) rfl, TT_in 547 (by decide +kernel) rfl, ⟨_, _, rfl⟩⟩
theorem lkX7_181 : q_LkV RX7 181 yX0_keepNumber cX0_keepNumber 3 none 2 0 := ⟨⟨TT_in 599 (by decide +kernel) rfl, TT_in 596 (by decide +kernel) rfl, TT_in 60 (by decide +kernel) rfl, ⟨by decide, by decide⟩, by decide +kernel, by decide⟩, TT_in 597 (by decide +kernel) rfl, TT_in 598 (by decide +kernel) rfl, ⟨_, _, rfl⟩⟩
theorem lkX7_184 : q_LkV RX7 184 yX1_setNumber cX1_setNumber 3 none 2 1 := ⟨⟨TT_in 603 (by decide +kernel) rfl, TT_in 600 (by decide +kernel) rfl, TT_in 61 (by decide +kernel) rfl, ⟨by decide, by decide⟩, by decide +kernel, by decide⟩, TT_in 601 (by decide +kernel) rfl, TT_in 602 (by decide +kernel) rfl, ⟨_, _, rfl⟩⟩
theorem lkX7_187 : q_LkS RX7 187 yX4_getFit cX4_getFit 3 (some .int) 2 := ⟨⟨TT_in 610 (by decide +kernel) rfl, TT_in 608 (by decide +kernel) rfl, TT_in 73 (by decide +kernel) rfl, ⟨by decide, by decide⟩, by decide +kernel, by decide⟩, TT_in 609 (by decide +kernel) rfl⟩
theorem lkX7_192 : q_LkS RX7 192 yX4_placed cX4_placed 2 (some .int) 2 := ⟨⟨TT_in 620 (by decide +kernel) rfl, TT_in 618 (by decide +kernel) rfl, TT_in 73 (by decide +kernel) rfl, ⟨by decide, by decide⟩, by decide +kernel, by decide⟩, TT_in 619 (by decide +kernel) rfl⟩
theorem lkX7_196 : q_LkS RX7 196 yX2_widened cX2_widened 4 (some .long) 3 := ⟨⟨TT_in 623 (by decide +kernel) rfl, TT_in 621 (by decide +kernel) rfl, TT_in 70 (by decide +kernel) rfl, ⟨by decide, by decide⟩, by decide +kernel, by decide⟩, TT_in 622 (by decide +kernel) rfl⟩
theorem lkX7_200 : q_LkV RX7 200 yX7_fetchReason cX7_fetchReason 3 (some .int) 2 5 := ⟨⟨TT_in 637 (by decide +kernel) rfl, TT_in 634 (by decide +kernel) rfl, TT_in 57 (by decide +kernel) rfl, ⟨by decide, by decide⟩, by decide +kernel, by decide⟩, TT_in 636 (by decide +kernel) rfl, TT_in 18 (by decide +kernel) rfl, ⟨_, _, rfl⟩⟩
theorem lkX7_203 : q_LkS RX7 203 yX4_fetchedForm cX4_fetchedForm 1 (some .int) 1 := ⟨⟨TT_in 641 (by decide +kernel) rfl, TT_in 639 (by decide +kernel) rfl, TT_in 73 (by decide +kernel) rfl, ⟨by decide, by decide⟩, by decide +kernel, by decide⟩, TT_in 640 (by decide +kernel) rfl⟩
theorem lkX7_206 : q_LkS RX7 206 yX4_putFit cX4_putFit 4 (some .int) 3 := ⟨⟨TT_in 649 (by decide +kernel) rfl, TT_in 647 (by decide +kernel) rfl, TT_in 73 (by decide +kernel) rfl, ⟨by decide, by decide⟩, by decide +kernel, by decide⟩, TT_in 648 (by decide +kernel) rfl⟩
theorem lkX7_210 : q_LkV RX7 210 yX0_keepCells cX0_keepCells 5 none 2 0 := ⟨⟨TT_in 656 (by decide +kernel) rfl, TT_in 653 (by decide +kernel) rfl, TT_in 60 (by decide +kernel) rfl, ⟨by decide, by decide⟩, by decide +kernel, by decide⟩, TT_in 654 (by decide +kernel) rfl, TT_in 655 (by decide +kernel) rfl, ⟨_, _, rfl⟩⟩
theorem lkX7_214 : q_LkV RX7 214 yX5_put cX5_put 7 none 4 3 := ⟨⟨TT_in 662 (by decide +kernel) rfl, TT_in 659 (by decide +kernel) rfl, TT_in 59 (by decide +kernel) rfl, ⟨by decide, by decide⟩, by decide +kernel, by decide⟩, TT_in 660 (by decide +kernel) rfl, TT_in 661 (by decide +kernel) rfl, ⟨_, _, rfl⟩⟩
theorem lkX7_221 : q_LkS RX7 221 yJ9_min_7cf53 cJ9_min_7cf53 2 (some .int) 2 := ⟨⟨TT_in 306 (by decide +kernel) rfl, TT_in 674 (by decide +kernel) rfl, TT_in 66 (by decide +kernel) rfl, ⟨by decide, by decide⟩, by decide +kernel, by decide⟩, TT_in 305 (by decide +kernel) rfl⟩
theorem lkX7_226 : q_LkV RX7 226 yX7_convertReason cX7_convertReason 11 (some .int) 4 5 := ⟨⟨TT_in 678 (by decide +kernel) rfl, TT_in 675 (by decide +kernel) rfl, TT_in 57 (by decide +kernel) rfl, ⟨by decide, by decide⟩, by decide +kernel, by decide⟩, TT_in 677 (by decide +kernel) rfl, TT_in 19 (by decide +kernel) rfl, ⟨_, _, rfl⟩⟩
theorem lkX7_230 : q_LkV RX7 230 yX7_convertElement cX7_convertElement 9 none 4 5 := ⟨⟨TT_in 713 (by decide +kernel) rfl, TT_in 710 (by decide +kernel) rfl, TT_in 57 (by decide +kernel) rfl, ⟨by decide, by decide⟩, by decide +kernel, by decide⟩, TT_in 712 (by decide +kernel) rfl, TT_in 20 (by decide +kernel) rfl, ⟨_, _, rfl⟩⟩
theorem lkX7_234 : q_LkN RX7 234 yX2_countChains "WidenDesk" cX2_countChains 5 (some .int) 3 := ⟨⟨TT_in 730 (by decide +kernel) rfl, by decide +kernel, TT_in 70 (by decide +kernel) rfl, ⟨by decide, by decide⟩, by decide +kernel, by decide⟩, TT_in 729 (by decide +kernel) rfl⟩
theorem lkX7_237 : q_LkS RX7 237 yX7_isWay cX7_isWay 2 (some .boolean) 1 := ⟨⟨TT_in 739 (by decide +kernel) rfl, TT_in 737 (by decide +kernel) rfl, TT_in 57 (by decide +kernel) rfl, ⟨by decide, by decide⟩, by decide +kernel, by decide⟩, TT_in 738 (by decide +kernel) rfl⟩
theorem lkX7_240 : q_LkV RX7 240 yX7_carryThrough cX7_carryThrough 12 (some .int) 3 5 := ⟨⟨TT_in 744 (by decide +kernel) rfl, TT_in 741 (by decide +kernel) rfl, TT_in 57 (by decide +kernel) rfl, ⟨by decide, by decide⟩, by decide +kernel, by decide⟩, TT_in 743 (by decide +kernel) rfl, TT_in 21 (by decide +kernel) rfl, ⟨_, _, rfl⟩⟩
theorem lkX7_244 : q_LkS RX7 244 yX2_countEnds cX2_countEnds 6 (some .int) 3 := ⟨⟨TT_in 752 (by decide +kernel) rfl, TT_in 750 (by decide +kernel) rfl, TT_in 70 (by decide +kernel) rfl, ⟨by decide, by decide⟩, by decide +kernel, by decide⟩, TT_in 751 (by decide +kernel) rfl⟩
theorem lkX7_248 : q_LkS RX7 248 yX2_targets cX2_targets 3 (some .int) 1 := ⟨⟨TT_in 760 (by decide +kernel) rfl, TT_in 758 (by decide +kernel) rfl, TT_in 70 (by decide +kernel) rfl, ⟨by decide, by decide⟩, by decide +kernel, by decide⟩, TT_in 759 (by decide +kernel) rfl⟩
theorem lkX7_251 : q_LkS RX7 251 yX2_leastOf cX2_leastOf 2 (some .int) 1 := ⟨⟨TT_in 763 (by decide +kernel) rfl, TT_in 761 (by decide +kernel) rfl, TT_in 70 (by decide +kernel) rfl, ⟨by decide, by decide⟩, by decide +kernel, by decide⟩, TT_in 762 (by decide +kernel) rfl⟩
theorem lkX7_254 : q_LkS RX7 254 yX4_joinedType cX4_joinedType 3 (some .int) 2 := ⟨⟨TT_in 771 (by decide +kernel) rfl, TT_in 769 (by decide +kernel) rfl, TT_in 73 (by decide +kernel) rfl, ⟨by decide, by decide⟩, by decide +kernel, by decide⟩, TT_in 770 (by decide +kernel) rfl⟩
theorem lkX7_257 : q_LkV RX7 257 yX5_putAll cX5_putAll 7 none 5 3 := ⟨⟨TT_in 779 (by decide +kernel) rfl, TT_in 776 (by decide +kernel) rfl, TT_in 59 (by decide +kernel) rfl, ⟨by decide, by decide⟩, by decide +kernel, by decide⟩, TT_in 777 (by decide +kernel) rfl, TT_in 778 (by decide +kernel) rfl, ⟨_, _, rfl⟩⟩
theorem lkX7_261 : q_LkV RX7 261 yX5_agree cX5_agree 11 (some .boolean) 3 3 := ⟨⟨TT_in 794 (by decide +kernel) rfl, TT_in 791 (by decide +kernel) rfl, TT_in 59 (by decide +kernel) rfl, ⟨by decide, by decide⟩, by decide +kernel, by decide⟩, TT_in 792 (by decide +kernel) rfl, TT_in 793 (by decide +kernel) rfl, ⟨_, _, rfl⟩⟩
theorem lkX7_265 : q_LkV RX7 265 yX5_stoodBefore cX5_stoodBefore 4 (some .boolean) 2 3 := ⟨⟨TT_in 803 (by decide +kernel) rfl, TT_in 800 (by decide +kernel) rfl, TT_in 59 (by decide +kernel) rfl, ⟨by decide, by decide⟩, by decide +kernel, by decide⟩, TT_in 801 (by decide +kernel) rfl, TT_in 802 (by decide +kernel) rfl, ⟨_, _, rfl⟩⟩
theorem lkX7_268 : q_LkV RX7 268 yX6_add cX6_add 4 (some .boolean) 3 4 := ⟨⟨TT_in 815 (by decide +kernel) rfl, TT_in 812 (by decide +kernel) rfl, TT_in 62 (by decide +kernel) rfl, ⟨by decide, by decide⟩, by decide +kernel, by decide⟩, TT_in 813 (by decide +kernel) rfl, TT_in 814 (by decide +kernel) rfl, ⟨_, _, rfl⟩⟩
theorem lkX7_271 : q_LkV RX7 271 yX6_allow cX6_allow 3 (some .boolean) 1 4 := ⟨⟨TT_in 827 (by decide +kernel) rfl, TT_in 824 (by decide +kernel) rfl, TT_in 62 (by decide +kernel) rfl, ⟨by decide, by decide⟩, by decide +kernel, by decide⟩, TT_in 825 (by decide +kernel) rfl, TT_in 826 (by decide +kernel) rfl, ⟨_, _, rfl⟩⟩
theorem lkX7_274 : q_LkV RX7 274 yX0_removeLatest cX0_removeLatest 1 (some .int) 0 0 := ⟨⟨TT_in 840 (by decide +kernel) rfl, TT_in 837 (by decide +kernel) rfl, TT_in 60 (by decide +kernel) rfl, ⟨by decide, by decide⟩, by decide +kernel, by decide⟩, TT_in 838 (by decide +kernel) rfl, TT_in 839 (by decide +kernel) rfl, ⟨_, _, rfl⟩⟩
theorem lkX7_286 : q_LkV RX7 286 yX0_restoreCells cX0_restoreCells 4 none 2 0 := ⟨⟨TT_in 844 (by decide +kernel) rfl, TT_in 841 (by decide +kernel) rfl, TT_in 60 (by decide +kernel) rfl, ⟨by decide, by decide⟩, by decide +kernel, by decide⟩, TT_in 842 (by decide +kernel) rfl, TT_in 843 (by decide +kernel) rfl, ⟨_, _, rfl⟩⟩
theorem lkX7_295 : q_LkS RX7 295 yX4_isMark cX4_isMark 1 (some .boolean) 1 := ⟨⟨TT_in 544 (by decide +kernel) rfl, TT_in 542 (by decide +kernel) rfl, TT_in 73 (by decide +kernel) rfl, ⟨by decide, by decide⟩, by decide +kernel, by decide⟩, TT_in 543 (by decide +kernel) rfl⟩
theorem lkX7_300 : q_LkS RX7 300 yX4_fetchFit cX4_fetchFit 1 (some .int) 1 := ⟨⟨TT_in 613 (by decide +kernel) rfl, TT_in 638 (by decide +kernel) rfl, TT_in 73 (by decide +kernel) rfl, ⟨by decide, by decide⟩, by decide +kernel, by decide⟩, TT_in 612 (by decide +kernel) rfl⟩
theorem lkX7_303 : q_LkV RX7 303 yX0_keepSlot cX0_keepSlot 3 none 2 0 := ⟨⟨TT_in 473 (by decide +kernel) rfl, TT_in 470 (by decide +kernel) rfl, TT_in 60 (by decide +kernel) rfl, ⟨by decide, by decide⟩, by decide +kernel, by decide⟩, TT_in 471 (by decide +kernel) rfl, TT_in 472 (by decide +kernel) rfl, ⟨_, _, rfl⟩⟩
theorem lkX7_306 : q_LkV RX7 306 yX7_freeRow cX7_freeRow 2 (some .int) 0 5 := ⟨⟨TT_in 417 (by decide +kernel) rfl, TT_in 414 (by decide +kernel) rfl, TT_in 57 (by decide +kernel) rfl, ⟨by decide, by decide⟩, by decide +kernel, by decide⟩, TT_in 416 (by decide +kernel) rfl, TT_in 6 (by decide +kernel) rfl, ⟨_, _, rfl⟩⟩
theorem lkX7_309 : q_LkV RX7 309 yX5_prepare cX5_prepare 5 none 3 3 := ⟨⟨TT_in 436 (by decide +kernel) rfl, TT_in 433 (by decide +kernel) rfl, TT_in 59 (by decide +kernel) rfl, ⟨by decide, by decide⟩, by decide +kernel, by decide⟩, TT_in 434 (by decide +kernel) rfl, TT_in 435 (by decide +kernel) rfl, ⟨_, _, rfl⟩⟩
theorem lkX7_313 : q_LkV RX7 313 yX7_isInSlots cX7_isInSlots 2 (some .boolean) 1 5 := ⟨⟨TT_in 421 (by decide +kernel) rfl, TT_in 418 (by decide +kernel) rfl, TT_in 57 (by decide +kernel) rfl, ⟨by decide, by decide⟩, by decide +kernel, by decide⟩, TT_in 420 (by decide +kernel) rfl, TT_in 7 (by decide +kernel) rfl, ⟨_, _, rfl⟩⟩
theorem lkX7_316 : q_LkV RX7 316 yX0_holds cX0_holds 4 (some .boolean) 1 0 := ⟨⟨TT_in 429 (by decide +kernel) rfl, TT_in 426 (by decide +kernel) rfl, TT_in 60 (by decide +kernel) rfl, ⟨by decide, by decide⟩, by decide +kernel, by decide⟩, TT_in 427 (by decide +kernel) rfl, TT_in 428 (by decide +kernel) rfl, ⟨_, _, rfl⟩⟩
theorem lkX7_319 : q_LkV RX7 319 yX7_firstSlotOf cX7_firstSlotOf 3 (some .int) 1 5 := ⟨⟨TT_in 425 (by decide +kernel) rfl, TT_in 422 (by decide +kernel) rfl, TT_in 57 (by decide +kernel) rfl, ⟨by decide, by decide⟩, by decide +kernel, by decide⟩, TT_in 424 (by decide +kernel) rfl, TT_in 8 (by decide +kernel) rfl, ⟨_, _, rfl⟩⟩
theorem lkX7_322 : q_LkS RX7 322 yX4_isNumeric cX4_isNumeric 1 (some .boolean) 1 := ⟨⟨TT_in 681 (by decide +kernel) rfl, TT_in 679 (by decide +kernel) rfl, TT_in 73 (by decide +kernel) rfl, ⟨by decide, by decide⟩, by decide +kernel, by decide⟩, TT_in 680 (by decide +kernel) rfl⟩
theorem lkX7_325 : q_LkS RX7 325 yX2_hasNumber cX2_hasNumber 6 (some .boolean) 3 := ⟨⟨TT_in 684 (by decide +kernel) rfl, TT_in 682 (by decide +kernel) rfl, TT_in 70 (by decide +kernel) rfl, ⟨by decide, by decide⟩, by decide +kernel, by decide⟩, TT_in 683 (by decide +kernel) rfl⟩
theorem lkX7_329 : q_LkS RX7 329 yX2_sameNumber cX2_sameNumber 6 (some .long) 3 := ⟨⟨TT_in 716 (by decide +kernel) rfl, TT_in 714 (by decide +kernel) rfl, TT_in 70 (by decide +kernel) rfl, ⟨by decide, by decide⟩, by decide +kernel, by decide⟩, TT_in 715 (by decide +kernel) rfl⟩
theorem lkX0_38 : q_LkV RX0 38 yX0_add cX0_add 6 (some .int) 4 0 := ⟨⟨TT_in 477 (by decide +kernel) rfl, TT_in 474 (by decide +kernel) rfl, TT_in 60 (by decide +kernel) rfl, ⟨by decide, by decide⟩, by decide +kernel, by decide⟩, TT_in 476 (by decide +kernel) rfl, TT_in 10 (by decide +kernel) rfl, ⟨_, _, rfl⟩⟩
theorem lkX0_44 : q_LkV RX0 44 yX5_typeAt cX5_typeAt 3 (some .int) 2 3 := ⟨⟨TT_in 533 (by decide +kernel) rfl, TT_in 657 (by decide +kernel) rfl, TT_in 59 (by decide +kernel) rfl, ⟨by decide, by decide⟩, by decide +kernel, by decide⟩, TT_in 531 (by decide +kernel) rfl, TT_in 532 (by decide +kernel) rfl, ⟨_, _, rfl⟩⟩
theorem lkX0_48 : q_LkV RX0 48 yX5_codeAt cX5_codeAt 3 (some .long) 2 3 := ⟨⟨TT_in 537 (by decide +kernel) rfl, TT_in 658 (by decide +kernel) rfl, TT_in 59 (by decide +kernel) rfl, ⟨by decide, by decide⟩, by decide +kernel, by decide⟩, TT_in 535 (by decide +kernel) rfl, TT_in 536 (by decide +kernel) rfl, ⟨_, _, rfl⟩⟩
theorem lkX0_52 : q_LkV RX0 52 yX5_set cX5_set 6 none 4 3 := ⟨⟨TT_in 441 (by decide +kernel) rfl, TT_in 845 (by decide +kernel) rfl, TT_in 59 (by decide +kernel) rfl, ⟨by decide, by decide⟩, by decide +kernel, by decide⟩, TT_in 439 (by decide +kernel) rfl, TT_in 440 (by decide +kernel) rfl, ⟨_, _, rfl⟩⟩
theorem lkX0_56 : q_LkS RX0 56 yX0_before cX0_before 1 (some .int) 1 := ⟨⟨TT_in 432 (by decide +kernel) rfl, TT_in 430 (by decide +kernel) rfl, TT_in 60 (by decide +kernel) rfl, ⟨by decide, by decide⟩, by decide +kernel, by decide⟩, TT_in 431 (by decide +kernel) rfl⟩
theorem lkX0_60 : q_LkS RX0 60 yJ9_min_7cf53 cJ9_min_7cf53 2 (some .int) 2 := ⟨⟨TT_in 306 (by decide +kernel) rfl, TT_in 478 (by decide +kernel) rfl, TT_in 66 (by decide +kernel) rfl, ⟨by decide, by decide⟩, by decide +kernel, by decide⟩, TT_in 305 (by decide +kernel) rfl⟩
theorem lkX2_11 : q_LkS RX2 11 yX2_widens cX2_widens 2 (some .boolean) 2 := ⟨⟨TT_in 617 (by decide +kernel) rfl, TT_in 731 (by decide +kernel) rfl, TT_in 70 (by decide +kernel) rfl, ⟨by decide, by decide⟩, by decide +kernel, by decide⟩, TT_in 616 (by decide +kernel) rfl⟩
theorem lkX2_15 : q_LkS RX2 15 yX2_targets cX2_targets 3 (some .int) 1 := ⟨⟨TT_in 760 (by decide +kernel) rfl, TT_in 764 (by decide +kernel) rfl, TT_in 70 (by decide +kernel) rfl, ⟨by decide, by decide⟩, by decide +kernel, by decide⟩, TT_in 759 (by decide +kernel) rfl⟩
theorem lkX2_19 : q_LkS RX2 19 yX2_leastOf cX2_leastOf 2 (some .int) 1 := ⟨⟨TT_in 763 (by decide +kernel) rfl, TT_in 775 (by decide +kernel) rfl, TT_in 70 (by decide +kernel) rfl, ⟨by decide, by decide⟩, by decide +kernel, by decide⟩, TT_in 762 (by decide +kernel) rfl⟩
theorem lkX2_22 : q_LkS RX2 22 yX2_countChains cX2_countChains 5 (some .int) 3 := ⟨⟨TT_in 730 (by decide +kernel) rfl, TT_in 732 (by decide +kernel) rfl, TT_in 70 (by decide +kernel) rfl, ⟨by decide, by decide⟩, by decide +kernel, by decide⟩, TT_in 729 (by decide +kernel) rfl⟩
theorem lkX2_26 : q_LkS RX2 26 yX2_widened cX2_widened 4 (some .long) 3 := ⟨⟨TT_in 623 (by decide +kernel) rfl, TT_in 753 (by decide +kernel) rfl, TT_in 70 (by decide +kernel) rfl, ⟨by decide, by decide⟩, by decide +kernel, by decide⟩, TT_in 622 (by decide +kernel) rfl⟩
theorem lkX2_30 : q_LkS RX2 30 yX2_nearest cX2_nearest 4 (some .long) 3 := ⟨⟨TT_in 447 (by decide +kernel) rfl, TT_in 445 (by decide +kernel) rfl, TT_in 70 (by decide +kernel) rfl, ⟨by decide, by decide⟩, by decide +kernel, by decide⟩, TT_in 446 (by decide +kernel) rfl⟩
theorem lkX2_34 : q_LkS RX2 34 yX2_doubleOfFloat cX2_doubleOfFloat 6 (some .long) 1 := ⟨⟨TT_in 626 (by decide +kernel) rfl, TT_in 624 (by decide +kernel) rfl, TT_in 70 (by decide +kernel) rfl, ⟨by decide, by decide⟩, by decide +kernel, by decide⟩, TT_in 625 (by decide +kernel) rfl⟩
theorem lkX2_38 : q_LkS RX2 38 yX2_isBetween cX2_isBetween 3 (some .boolean) 2 := ⟨⟨TT_in 391 (by decide +kernel) rfl, TT_in 685 (by decide +kernel) rfl, TT_in 70 (by decide +kernel) rfl, ⟨by decide, by decide⟩, by decide +kernel, by decide⟩, TT_in 390 (by decide +kernel) rfl⟩
theorem lkX2_42 : q_LkS RX2 42 yX2_ofWhole cX2_ofWhole 3 (some .long) 2 := ⟨⟨TT_in 444 (by decide +kernel) rfl, TT_in 686 (by decide +kernel) rfl, TT_in 70 (by decide +kernel) rfl, ⟨by decide, by decide⟩, by decide +kernel, by decide⟩, TT_in 443 (by decide +kernel) rfl⟩
theorem lkX2_46 : q_LkS RX2 46 yX2_isWhole cX2_isWhole 7 (some .boolean) 3 := ⟨⟨TT_in 689 (by decide +kernel) rfl, TT_in 687 (by decide +kernel) rfl, TT_in 70 (by decide +kernel) rfl, ⟨by decide, by decide⟩, by decide +kernel, by decide⟩, TT_in 688 (by decide +kernel) rfl⟩
theorem lkX2_50 : q_LkS RX2 50 yX2_asDouble cX2_asDouble 3 (some .long) 2 := ⟨⟨TT_in 692 (by decide +kernel) rfl, TT_in 690 (by decide +kernel) rfl, TT_in 70 (by decide +kernel) rfl, ⟨by decide, by decide⟩, by decide +kernel, by decide⟩, TT_in 691 (by decide +kernel) rfl⟩
theorem lkX2_54 : q_LkS RX2 54 yX2_hasWhole cX2_hasWhole 3 (some .boolean) 1 := ⟨⟨TT_in 695 (by decide +kernel) rfl, TT_in 693 (by decide +kernel) rfl, TT_in 70 (by decide +kernel) rfl, ⟨by decide, by decide⟩, by decide +kernel, by decide⟩, TT_in 694 (by decide +kernel) rfl⟩
theorem lkX2_58 : q_LkS RX2 58 yX2_wholeOf cX2_wholeOf 7 (some .long) 1 := ⟨⟨TT_in 708 (by decide +kernel) rfl, TT_in 706 (by decide +kernel) rfl, TT_in 70 (by decide +kernel) rfl, ⟨by decide, by decide⟩, by decide +kernel, by decide⟩, TT_in 707 (by decide +kernel) rfl⟩
theorem lkX2_63 : q_LkS RX2 63 yX2_floatOfDouble cX2_floatOfDouble 6 (some .long) 1 := ⟨⟨TT_in 719 (by decide +kernel) rfl, TT_in 717 (by decide +kernel) rfl, TT_in 70 (by decide +kernel) rfl, ⟨by decide, by decide⟩, by decide +kernel, by decide⟩, TT_in 718 (by decide +kernel) rfl⟩
theorem lkX2_86 : q_LkS RX2 86 yX2_lowest cX2_lowest 1 (some .long) 1 := ⟨⟨TT_in 380 (by decide +kernel) rfl, TT_in 392 (by decide +kernel) rfl, TT_in 70 (by decide +kernel) rfl, ⟨by decide, by decide⟩, by decide +kernel, by decide⟩, TT_in 379 (by decide +kernel) rfl⟩
theorem lkX2_90 : q_LkS RX2 90 yX2_highest cX2_highest 1 (some .long) 1 := ⟨⟨TT_in 395 (by decide +kernel) rfl, TT_in 393 (by decide +kernel) rfl, TT_in 70 (by decide +kernel) rfl, ⟨by decide, by decide⟩, by decide +kernel, by decide⟩, TT_in 394 (by decide +kernel) rfl⟩
theorem lkX2_93 : q_LkS RX2 93 yX2_rounded cX2_rounded 15 (some .long) 4 := ⟨⟨TT_in 450 (by decide +kernel) rfl, TT_in 448 (by decide +kernel) rfl, TT_in 70 (by decide +kernel) rfl, ⟨by decide, by decide⟩, by decide +kernel, by decide⟩, TT_in 449 (by decide +kernel) rfl⟩
theorem lkX2_97 : q_LkS RX2 97 yX2_signedFloat cX2_signedFloat 3 (some .long) 2 := ⟨⟨TT_in 460 (by decide +kernel) rfl, TT_in 458 (by decide +kernel) rfl, TT_in 70 (by decide +kernel) rfl, ⟨by decide, by decide⟩, by decide +kernel, by decide⟩, TT_in 459 (by decide +kernel) rfl⟩
theorem lkX2_101 : q_LkS RX2 101 yX2_signedDouble cX2_signedDouble 3 (some .long) 2 := ⟨⟨TT_in 464 (by decide +kernel) rfl, TT_in 462 (by decide +kernel) rfl, TT_in 70 (by decide +kernel) rfl, ⟨by decide, by decide⟩, by decide +kernel, by decide⟩, TT_in 463 (by decide +kernel) rfl⟩
theorem lkX2_106 : q_LkS RX2 106 yJ13_numberOfLeadingZeros_95d88 cJ13_numberOfLeadingZeros_95d88 3 (some .int) 1 := ⟨⟨TT_in 453 (by decide +kernel) rfl, TT_in 451 (by decide +kernel) rfl, TT_in 71 (by decide +kernel) rfl, ⟨by decide, by decide⟩, by decide +kernel, by decide⟩, TT_in 452 (by decide +kernel) rfl⟩
theorem lkX2_122 : q_LkS RX2 122 yX2_exponentOf cX2_exponentOf 2 (some .int) 1 := ⟨⟨TT_in 698 (by decide +kernel) rfl, TT_in 696 (by decide +kernel) rfl, TT_in 70 (by decide +kernel) rfl, ⟨by decide, by decide⟩, by decide +kernel, by decide⟩, TT_in 697 (by decide +kernel) rfl⟩
theorem lkX2_127 : q_LkS RX2 127 yX2_significand cX2_significand 2 (some .long) 1 := ⟨⟨TT_in 703 (by decide +kernel) rfl, TT_in 701 (by decide +kernel) rfl, TT_in 70 (by decide +kernel) rfl, ⟨by decide, by decide⟩, by decide +kernel, by decide⟩, TT_in 702 (by decide +kernel) rfl⟩
theorem lkX3_35 : q_LkV RX3 35 yX3_letter cX3_letter 1 (some .int) 0 2 := ⟨⟨TT_in 265 (by decide +kernel) rfl, TT_in 262 (by decide +kernel) rfl, TT_in 58 (by decide +kernel) rfl, ⟨by decide, by decide⟩, by decide +kernel, by decide⟩, TT_in 264 (by decide +kernel) rfl, TT_in 0 (by decide +kernel) rfl, ⟨_, _, rfl⟩⟩
theorem lkX3_39 : q_LkS RX3 39 yX3_arrayTypeOf cX3_arrayTypeOf 1 (some .int) 1 := ⟨⟨TT_in 268 (by decide +kernel) rfl, TT_in 266 (by decide +kernel) rfl, TT_in 58 (by decide +kernel) rfl, ⟨by decide, by decide⟩, by decide +kernel, by decide⟩, TT_in 267 (by decide +kernel) rfl⟩
theorem lkX3_43 : q_LkV RX3 43 yX3_skip cX3_skip 2 (some .boolean) 1 2 := ⟨⟨TT_in 362 (by decide +kernel) rfl, TT_in 359 (by decide +kernel) rfl, TT_in 58 (by decide +kernel) rfl, ⟨by decide, by decide⟩, by decide +kernel, by decide⟩, TT_in 361 (by decide +kernel) rfl, TT_in 1 (by decide +kernel) rfl, ⟨_, _, rfl⟩⟩
theorem lkX3_47 : q_LkV RX3 47 yX3_readElement cX3_readElement 2 (some .boolean) 0 2 := ⟨⟨TT_in 366 (by decide +kernel) rfl, TT_in 363 (by decide +kernel) rfl, TT_in 58 (by decide +kernel) rfl, ⟨by decide, by decide⟩, by decide +kernel, by decide⟩, TT_in 365 (by decide +kernel) rfl, TT_in 2 (by decide +kernel) rfl, ⟨_, _, rfl⟩⟩
theorem lkX3_51 : q_LkS RX3 51 yX3_primitiveOf cX3_primitiveOf 2 (some .int) 1 := ⟨⟨TT_in 271 (by decide +kernel) rfl, TT_in 269 (by decide +kernel) rfl, TT_in 58 (by decide +kernel) rfl, ⟨by decide, by decide⟩, by decide +kernel, by decide⟩, TT_in 270 (by decide +kernel) rfl⟩
theorem lkX3_61 : q_LkN RX3 61 yX7_isPrimitive "WidenDesk" cX7_isPrimitive 1 (some .boolean) 1 := ⟨⟨TT_in 369 (by decide +kernel) rfl, by decide +kernel, TT_in 57 (by decide +kernel) rfl, ⟨by decide, by decide⟩, by decide +kernel, by decide⟩, TT_in 368 (by decide +kernel) rfl⟩
theorem lkX3_65 : q_LkV RX3 65 yX3_keep cX3_keep 4 none 2 2 := ⟨⟨TT_in 373 (by decide +kernel) rfl, TT_in 370 (by decide +kernel) rfl, TT_in 58 (by decide +kernel) rfl, ⟨by decide, by decide⟩, by decide +kernel, by decide⟩, TT_in 372 (by decide +kernel) rfl, TT_in 3 (by decide +kernel) rfl, ⟨_, _, rfl⟩⟩
theorem lkX3_69 : q_LkV RX3 69 yX3_readNumber cX3_readNumber 10 (some .boolean) 1 2 := ⟨⟨TT_in 377 (by decide +kernel) rfl, TT_in 374 (by decide +kernel) rfl, TT_in 58 (by decide +kernel) rfl, ⟨by decide, by decide⟩, by decide +kernel, by decide⟩, TT_in 376 (by decide +kernel) rfl, TT_in 4 (by decide +kernel) rfl, ⟨_, _, rfl⟩⟩
theorem lkX3_72 : q_LkS RX3 72 yX2_lowest cX2_lowest 1 (some .long) 1 := ⟨⟨TT_in 380 (by decide +kernel) rfl, TT_in 378 (by decide +kernel) rfl, TT_in 70 (by decide +kernel) rfl, ⟨by decide, by decide⟩, by decide +kernel, by decide⟩, TT_in 379 (by decide +kernel) rfl⟩
theorem lkX3_78 : q_LkS RX3 78 yX3_isDigit cX3_isDigit 1 (some .boolean) 1 := ⟨⟨TT_in 387 (by decide +kernel) rfl, TT_in 385 (by decide +kernel) rfl, TT_in 58 (by decide +kernel) rfl, ⟨by decide, by decide⟩, by decide +kernel, by decide⟩, TT_in 386 (by decide +kernel) rfl⟩
theorem lkX3_83 : q_LkN RX3 83 yX2_isBetween "WidenDesk" cX2_isBetween 3 (some .boolean) 2 := ⟨⟨TT_in 391 (by decide +kernel) rfl, by decide +kernel, TT_in 70 (by decide +kernel) rfl, ⟨by decide, by decide⟩, by decide +kernel, by decide⟩, TT_in 390 (by decide +kernel) rfl⟩
theorem lkX4_9 : q_LkN RX4 9 yX7_isPrimitive "WidenDesk" cX7_isPrimitive 1 (some .boolean) 1 := ⟨⟨TT_in 369 (by decide +kernel) rfl, by decide +kernel, TT_in 57 (by decide +kernel) rfl, ⟨by decide, by decide⟩, by decide +kernel, by decide⟩, TT_in 368 (by decide +kernel) rfl⟩
theorem lkX4_13 : q_LkS RX4 13 yX4_isMark cX4_isMark 1 (some .boolean) 1 := ⟨⟨TT_in 544 (by decide +kernel) rfl, TT_in 642 (by decide +kernel) rfl, TT_in 73 (by decide +kernel) rfl, ⟨by decide, by decide⟩, by decide +kernel, by decide⟩, TT_in 543 (by decide +kernel) rfl⟩
theorem lkX4_18 : q_LkS RX4 18 yX4_fetchFit cX4_fetchFit 1 (some .int) 1 := ⟨⟨TT_in 613 (by decide +kernel) rfl, TT_in 611 (by decide +kernel) rfl, TT_in 73 (by decide +kernel) rfl, ⟨by decide, by decide⟩, by decide +kernel, by decide⟩, TT_in 612 (by decide +kernel) rfl⟩
theorem lkX4_22 : q_LkS RX4 22 yX2_widens cX2_widens 2 (some .boolean) 2 := ⟨⟨TT_in 617 (by decide +kernel) rfl, TT_in 615 (by decide +kernel) rfl, TT_in 70 (by decide +kernel) rfl, ⟨by decide, by decide⟩, by decide +kernel, by decide⟩, TT_in 616 (by decide +kernel) rfl⟩
theorem lkX4_28 : q_LkS RX4 28 yX4_accepts cX4_accepts 2 (some .boolean) 2 := ⟨⟨TT_in 652 (by decide +kernel) rfl, TT_in 650 (by decide +kernel) rfl, TT_in 73 (by decide +kernel) rfl, ⟨by decide, by decide⟩, by decide +kernel, by decide⟩, TT_in 651 (by decide +kernel) rfl⟩
theorem lkX4_31 : q_LkS RX4 31 yX2_leastOfTwo cX2_leastOfTwo 2 (some .int) 2 := ⟨⟨TT_in 774 (by decide +kernel) rfl, TT_in 772 (by decide +kernel) rfl, TT_in 70 (by decide +kernel) rfl, ⟨by decide, by decide⟩, by decide +kernel, by decide⟩, TT_in 773 (by decide +kernel) rfl⟩
theorem lkX5_27 : q_LkN RX5 27 yX7_isPrimitive "WidenDesk" cX7_isPrimitive 1 (some .boolean) 1 := ⟨⟨TT_in 369 (by decide +kernel) rfl, by decide +kernel, TT_in 57 (by decide +kernel) rfl, ⟨by decide, by decide⟩, by decide +kernel, by decide⟩, TT_in 368 (by decide +kernel) rfl⟩
theorem lkX5_31 : q_LkV RX5 31 yX5_set cX5_set 6 none 4 3 := ⟨⟨TT_in 441 (by decide +kernel) rfl, TT_in 438 (by decide +kernel) rfl, TT_in 59 (by decide +kernel) rfl, ⟨by decide, by decide⟩, by decide +kernel, by decide⟩, TT_in 439 (by decide +kernel) rfl, TT_in 440 (by decide +kernel) rfl, ⟨_, _, rfl⟩⟩
theorem lkX5_35 : q_LkS RX5 35 yX2_widened cX2_widened 4 (some .long) 3 := ⟨⟨TT_in 623 (by decide +kernel) rfl, TT_in 663 (by decide +kernel) rfl, TT_in 70 (by decide +kernel) rfl, ⟨by decide, by decide⟩, by decide +kernel, by decide⟩, TT_in 622 (by decide +kernel) rfl⟩
theorem lkX5_41 : q_LkV RX5 41 yX5_typeAt cX5_typeAt 3 (some .int) 2 3 := ⟨⟨TT_in 533 (by decide +kernel) rfl, TT_in 780 (by decide +kernel) rfl, TT_in 59 (by decide +kernel) rfl, ⟨by decide, by decide⟩, by decide +kernel, by decide⟩, TT_in 531 (by decide +kernel) rfl, TT_in 532 (by decide +kernel) rfl, ⟨_, _, rfl⟩⟩
theorem lkX5_45 : q_LkV RX5 45 yX5_codeAt cX5_codeAt 3 (some .long) 2 3 := ⟨⟨TT_in 537 (by decide +kernel) rfl, TT_in 781 (by decide +kernel) rfl, TT_in 59 (by decide +kernel) rfl, ⟨by decide, by decide⟩, by decide +kernel, by decide⟩, TT_in 535 (by decide +kernel) rfl, TT_in 536 (by decide +kernel) rfl, ⟨_, _, rfl⟩⟩
theorem lkX5_49 : q_LkV RX5 49 yX5_put cX5_put 7 none 4 3 := ⟨⟨TT_in 662 (by decide +kernel) rfl, TT_in 782 (by decide +kernel) rfl, TT_in 59 (by decide +kernel) rfl, ⟨by decide, by decide⟩, by decide +kernel, by decide⟩, TT_in 660 (by decide +kernel) rfl, TT_in 661 (by decide +kernel) rfl, ⟨_, _, rfl⟩⟩
theorem lkX5_52 : q_LkS RX5 52 yX2_leastOfTwo cX2_leastOfTwo 2 (some .int) 2 := ⟨⟨TT_in 774 (by decide +kernel) rfl, TT_in 795 (by decide +kernel) rfl, TT_in 70 (by decide +kernel) rfl, ⟨by decide, by decide⟩, by decide +kernel, by decide⟩, TT_in 773 (by decide +kernel) rfl⟩
theorem lkX6_25 : q_LkS RX6 25 yX6_expected cX6_expected 3 (some .int) 3 := ⟨⟨TT_in 830 (by decide +kernel) rfl, TT_in 828 (by decide +kernel) rfl, TT_in 62 (by decide +kernel) rfl, ⟨by decide, by decide⟩, by decide +kernel, by decide⟩, TT_in 829 (by decide +kernel) rfl⟩
theorem lkX6_29 : q_LkS RX6 29 yX4_getFit cX4_getFit 3 (some .int) 2 := ⟨⟨TT_in 610 (by decide +kernel) rfl, TT_in 831 (by decide +kernel) rfl, TT_in 73 (by decide +kernel) rfl, ⟨by decide, by decide⟩, by decide +kernel, by decide⟩, TT_in 609 (by decide +kernel) rfl⟩
theorem lkX6_35 : q_LkS RX6 35 yX4_putFit cX4_putFit 4 (some .int) 3 := ⟨⟨TT_in 649 (by decide +kernel) rfl, TT_in 832 (by decide +kernel) rfl, TT_in 73 (by decide +kernel) rfl, ⟨by decide, by decide⟩, by decide +kernel, by decide⟩, TT_in 648 (by decide +kernel) rfl⟩
theorem lkX8_98 : q_LkS RX8 98 yX8_in cX8_in 6 (some .boolean) 3 := ⟨⟨TT_in 1002 (by decide +kernel) rfl, TT_in 1000 (by decide +kernel) rfl, TT_in 63 (by decide +kernel) rfl, ⟨by decide, by decide⟩, by decide +kernel, by decide⟩, TT_in 1001 (by decide +kernel) rfl⟩
theorem lkX8_114 : q_LkS RX8 114 yX8_lengthOf cX8_lengthOf 5 (some .int) 1 := ⟨⟨TT_in 1067 (by decide +kernel) rfl, TT_in 1065 (by decide +kernel) rfl, TT_in 63 (by decide +kernel) rfl, ⟨by decide, by decide⟩, by decide +kernel, by decide⟩, TT_in 1066 (by decide +kernel) rfl⟩
theorem lkX8_132 : q_LkV RX8 132 yX8_takeApart cX8_takeApart 11 none 2 6 := ⟨⟨TT_in 1220 (by decide +kernel) rfl, TT_in 1217 (by decide +kernel) rfl, TT_in 63 (by decide +kernel) rfl, ⟨by decide, by decide⟩, by decide +kernel, by decide⟩, TT_in 1219 (by decide +kernel) rfl, TT_in 42 (by decide +kernel) rfl, ⟨_, _, rfl⟩⟩
theorem lkX8_136 : q_LkS RX8 136 yX8_rounded cX8_rounded 21 (some .long) 3 := ⟨⟨TT_in 1062 (by decide +kernel) rfl, TT_in 1060 (by decide +kernel) rfl, TT_in 63 (by decide +kernel) rfl, ⟨by decide, by decide⟩, by decide +kernel, by decide⟩, TT_in 1061 (by decide +kernel) rfl⟩
theorem lkX8_158 : q_LkS RX8 158 yX8_fits cX8_fits 3 (some .boolean) 2 := ⟨⟨TT_in 1049 (by decide +kernel) rfl, TT_in 1047 (by decide +kernel) rfl, TT_in 63 (by decide +kernel) rfl, ⟨by decide, by decide⟩, by decide +kernel, by decide⟩, TT_in 1048 (by decide +kernel) rfl⟩
theorem lkX8_165 : q_LkS RX8 165 yX8_plainOf cX8_plainOf 1 (some .int) 1 := ⟨⟨TT_in 1024 (by decide +kernel) rfl, TT_in 1022 (by decide +kernel) rfl, TT_in 63 (by decide +kernel) rfl, ⟨by decide, by decide⟩, by decide +kernel, by decide⟩, TT_in 1023 (by decide +kernel) rfl⟩
theorem lkX8_172 : q_LkV RX8 172 yX8_letter cX8_letter 1 (some .int) 0 6 := ⟨⟨TT_in 1018 (by decide +kernel) rfl, TT_in 1015 (by decide +kernel) rfl, TT_in 63 (by decide +kernel) rfl, ⟨by decide, by decide⟩, by decide +kernel, by decide⟩, TT_in 1017 (by decide +kernel) rfl, TT_in 23 (by decide +kernel) rfl, ⟨_, _, rfl⟩⟩
theorem lkX8_180 : q_LkS RX8 180 yX8_isNumber cX8_isNumber 3 (some .boolean) 2 := ⟨⟨TT_in 1045 (by decide +kernel) rfl, TT_in 1043 (by decide +kernel) rfl, TT_in 63 (by decide +kernel) rfl, ⟨by decide, by decide⟩, by decide +kernel, by decide⟩, TT_in 1044 (by decide +kernel) rfl⟩
theorem lkX8_198 : q_LkS RX8 198 yX8_isPlain cX8_isPlain 1 (some .boolean) 1 := ⟨⟨TT_in 1031 (by decide +kernel) rfl, TT_in 1029 (by decide +kernel) rfl, TT_in 63 (by decide +kernel) rfl, ⟨by decide, by decide⟩, by decide +kernel, by decide⟩, TT_in 1030 (by decide +kernel) rfl⟩
theorem lkX8_202 : q_LkV RX8 202 yX8_putTold cX8_putTold 5 none 3 6 := ⟨⟨TT_in 1036 (by decide +kernel) rfl, TT_in 1033 (by decide +kernel) rfl, TT_in 63 (by decide +kernel) rfl, ⟨by decide, by decide⟩, by decide +kernel, by decide⟩, TT_in 1035 (by decide +kernel) rfl, TT_in 25 (by decide +kernel) rfl, ⟨_, _, rfl⟩⟩
theorem lkX8_206 : q_LkV RX8 206 yX8_readNumber cX8_readNumber 12 none 1 6 := ⟨⟨TT_in 1040 (by decide +kernel) rfl, TT_in 1037 (by decide +kernel) rfl, TT_in 63 (by decide +kernel) rfl, ⟨by decide, by decide⟩, by decide +kernel, by decide⟩, TT_in 1039 (by decide +kernel) rfl, TT_in 26 (by decide +kernel) rfl, ⟨_, _, rfl⟩⟩
theorem lkX8_210 : q_LkS RX8 210 yX8_toldOf cX8_toldOf 3 (some .long) 2 := ⟨⟨TT_in 1059 (by decide +kernel) rfl, TT_in 1057 (by decide +kernel) rfl, TT_in 63 (by decide +kernel) rfl, ⟨by decide, by decide⟩, by decide +kernel, by decide⟩, TT_in 1058 (by decide +kernel) rfl⟩
theorem lkX8_214 : q_LkS RX8 214 yX8_rowKindOf cX8_rowKindOf 1 (some .int) 1 := ⟨⟨TT_in 1021 (by decide +kernel) rfl, TT_in 1019 (by decide +kernel) rfl, TT_in 63 (by decide +kernel) rfl, ⟨by decide, by decide⟩, by decide +kernel, by decide⟩, TT_in 1020 (by decide +kernel) rfl⟩
theorem lkX8_217 : q_LkV RX8 217 yX8_readCell cX8_readCell 2 (some .boolean) 0 6 := ⟨⟨TT_in 1028 (by decide +kernel) rfl, TT_in 1025 (by decide +kernel) rfl, TT_in 63 (by decide +kernel) rfl, ⟨by decide, by decide⟩, by decide +kernel, by decide⟩, TT_in 1027 (by decide +kernel) rfl, TT_in 24 (by decide +kernel) rfl, ⟨_, _, rfl⟩⟩
theorem lkX8_221 : q_LkV RX8 221 yX8_readText cX8_readText 2 (some .int) 0 6 := ⟨⟨TT_in 1014 (by decide +kernel) rfl, TT_in 1011 (by decide +kernel) rfl, TT_in 63 (by decide +kernel) rfl, ⟨by decide, by decide⟩, by decide +kernel, by decide⟩, TT_in 1013 (by decide +kernel) rfl, TT_in 22 (by decide +kernel) rfl, ⟨_, _, rfl⟩⟩
theorem lkX8_224 : q_LkV RX8 224 yX8_isHeld cX8_isHeld 4 (some .boolean) 1 6 := ⟨⟨TT_in 1094 (by decide +kernel) rfl, TT_in 1091 (by decide +kernel) rfl, TT_in 63 (by decide +kernel) rfl, ⟨by decide, by decide⟩, by decide +kernel, by decide⟩, TT_in 1093 (by decide +kernel) rfl, TT_in 30 (by decide +kernel) rfl, ⟨_, _, rfl⟩⟩
theorem lkX8_236 : q_LkV RX8 236 yX8_note cX8_note 2 none 0 6 := ⟨⟨TT_in 1086 (by decide +kernel) rfl, TT_in 1083 (by decide +kernel) rfl, TT_in 63 (by decide +kernel) rfl, ⟨by decide, by decide⟩, by decide +kernel, by decide⟩, TT_in 1085 (by decide +kernel) rfl, TT_in 28 (by decide +kernel) rfl, ⟨_, _, rfl⟩⟩
theorem lkX8_239 : q_LkV RX8 239 yX8_freeRow cX8_freeRow 3 (some .int) 0 6 := ⟨⟨TT_in 1090 (by decide +kernel) rfl, TT_in 1087 (by decide +kernel) rfl, TT_in 63 (by decide +kernel) rfl, ⟨by decide, by decide⟩, by decide +kernel, by decide⟩, TT_in 1089 (by decide +kernel) rfl, TT_in 29 (by decide +kernel) rfl, ⟨_, _, rfl⟩⟩
theorem lkX8_242 : q_LkS RX8 242 yX8_isSlot cX8_isSlot 1 (some .boolean) 1 := ⟨⟨TT_in 1078 (by decide +kernel) rfl, TT_in 1076 (by decide +kernel) rfl, TT_in 63 (by decide +kernel) rfl, ⟨by decide, by decide⟩, by decide +kernel, by decide⟩, TT_in 1077 (by decide +kernel) rfl⟩
theorem lkX8_245 : q_LkV RX8 245 yX8_holdNew cX8_holdNew 4 none 1 6 := ⟨⟨TT_in 1082 (by decide +kernel) rfl, TT_in 1079 (by decide +kernel) rfl, TT_in 63 (by decide +kernel) rfl, ⟨by decide, by decide⟩, by decide +kernel, by decide⟩, TT_in 1081 (by decide +kernel) rfl, TT_in 27 (by decide +kernel) rfl, ⟨_, _, rfl⟩⟩
theorem lkX8_254 : q_LkV RX8 254 yX8_rowsHeld cX8_rowsHeld 4 (some .int) 1 6 := ⟨⟨TT_in 1102 (by decide +kernel) rfl, TT_in 1099 (by decide +kernel) rfl, TT_in 63 (by decide +kernel) rfl, ⟨by decide, by decide⟩, by decide +kernel, by decide⟩, TT_in 1101 (by decide +kernel) rfl, TT_in 31 (by decide +kernel) rfl, ⟨_, _, rfl⟩⟩
theorem lkX8_257 : q_LkV RX8 257 yX8_nothings cX8_nothings 3 (some .int) 0 6 := ⟨⟨TT_in 1106 (by decide +kernel) rfl, TT_in 1103 (by decide +kernel) rfl, TT_in 63 (by decide +kernel) rfl, ⟨by decide, by decide⟩, by decide +kernel, by decide⟩, TT_in 1105 (by decide +kernel) rfl, TT_in 32 (by decide +kernel) rfl, ⟨_, _, rfl⟩⟩
theorem lkX8_260 : q_LkV RX8 260 yX8_fineOnes cX8_fineOnes 3 (some .int) 0 6 := ⟨⟨TT_in 1110 (by decide +kernel) rfl, TT_in 1107 (by decide +kernel) rfl, TT_in 63 (by decide +kernel) rfl, ⟨by decide, by decide⟩, by decide +kernel, by decide⟩, TT_in 1109 (by decide +kernel) rfl, TT_in 33 (by decide +kernel) rfl, ⟨_, _, rfl⟩⟩
theorem lkX8_267 : q_LkV RX8 267 yX8_holdsRow cX8_holdsRow 2 (some .boolean) 1 6 := ⟨⟨TT_in 1128 (by decide +kernel) rfl, TT_in 1125 (by decide +kernel) rfl, TT_in 63 (by decide +kernel) rfl, ⟨by decide, by decide⟩, by decide +kernel, by decide⟩, TT_in 1127 (by decide +kernel) rfl, TT_in 34 (by decide +kernel) rfl, ⟨_, _, rfl⟩⟩
theorem lkX8_283 : q_LkV RX8 283 yX8_get cX8_get 4 none 2 6 := ⟨⟨TT_in 1143 (by decide +kernel) rfl, TT_in 1140 (by decide +kernel) rfl, TT_in 63 (by decide +kernel) rfl, ⟨by decide, by decide⟩, by decide +kernel, by decide⟩, TT_in 1142 (by decide +kernel) rfl, TT_in 35 (by decide +kernel) rfl, ⟨_, _, rfl⟩⟩
theorem lkX8_287 : q_LkV RX8 287 yX8_kindTold cX8_kindTold 5 (some .int) 3 6 := ⟨⟨TT_in 1147 (by decide +kernel) rfl, TT_in 1144 (by decide +kernel) rfl, TT_in 63 (by decide +kernel) rfl, ⟨by decide, by decide⟩, by decide +kernel, by decide⟩, TT_in 1146 (by decide +kernel) rfl, TT_in 36 (by decide +kernel) rfl, ⟨_, _, rfl⟩⟩
theorem lkX8_291 : q_LkV RX8 291 yX8_told cX8_told 4 (some .long) 2 6 := ⟨⟨TT_in 1151 (by decide +kernel) rfl, TT_in 1148 (by decide +kernel) rfl, TT_in 63 (by decide +kernel) rfl, ⟨by decide, by decide⟩, by decide +kernel, by decide⟩, TT_in 1150 (by decide +kernel) rfl, TT_in 37 (by decide +kernel) rfl, ⟨_, _, rfl⟩⟩
theorem lkX8_305 : q_LkS RX8 305 yX8_given cX8_given 3 (some .long) 2 := ⟨⟨TT_in 1159 (by decide +kernel) rfl, TT_in 1157 (by decide +kernel) rfl, TT_in 63 (by decide +kernel) rfl, ⟨by decide, by decide⟩, by decide +kernel, by decide⟩, TT_in 1158 (by decide +kernel) rfl⟩
theorem lkX8_308 : q_LkV RX8 308 yX8_hold cX8_hold 5 none 3 6 := ⟨⟨TT_in 1170 (by decide +kernel) rfl, TT_in 1167 (by decide +kernel) rfl, TT_in 63 (by decide +kernel) rfl, ⟨by decide, by decide⟩, by decide +kernel, by decide⟩, TT_in 1169 (by decide +kernel) rfl, TT_in 38 (by decide +kernel) rfl, ⟨_, _, rfl⟩⟩
theorem lkX8_313 : q_LkS RX8 313 yX8_widens cX8_widens 2 (some .boolean) 2 := ⟨⟨TT_in 1209 (by decide +kernel) rfl, TT_in 1207 (by decide +kernel) rfl, TT_in 63 (by decide +kernel) rfl, ⟨by decide, by decide⟩, by decide +kernel, by decide⟩, TT_in 1208 (by decide +kernel) rfl⟩
theorem lkX8_317 : q_LkV RX8 317 yX8_reasonOf cX8_reasonOf 2 (some .int) 1 6 := ⟨⟨TT_in 1203 (by decide +kernel) rfl, TT_in 1200 (by decide +kernel) rfl, TT_in 63 (by decide +kernel) rfl, ⟨by decide, by decide⟩, by decide +kernel, by decide⟩, TT_in 1202 (by decide +kernel) rfl, TT_in 40 (by decide +kernel) rfl, ⟨_, _, rfl⟩⟩
theorem lkX8_320 : q_LkS RX8 320 yX8_takeFrom cX8_takeFrom 2 (some .int) 2 := ⟨⟨TT_in 1206 (by decide +kernel) rfl, TT_in 1204 (by decide +kernel) rfl, TT_in 63 (by decide +kernel) rfl, ⟨by decide, by decide⟩, by decide +kernel, by decide⟩, TT_in 1205 (by decide +kernel) rfl⟩
theorem lkX8_324 : q_LkS RX8 324 yX8_withOut cX8_withOut 2 (some .int) 2 := ⟨⟨TT_in 1212 (by decide +kernel) rfl, TT_in 1210 (by decide +kernel) rfl, TT_in 63 (by decide +kernel) rfl, ⟨by decide, by decide⟩, by decide +kernel, by decide⟩, TT_in 1211 (by decide +kernel) rfl⟩
theorem lkX8_328 : q_LkV RX8 328 yX8_bring cX8_bring 7 (some .int) 4 6 := ⟨⟨TT_in 1240 (by decide +kernel) rfl, TT_in 1237 (by decide +kernel) rfl, TT_in 63 (by decide +kernel) rfl, ⟨by decide, by decide⟩, by decide +kernel, by decide⟩, TT_in 1239 (by decide +kernel) rfl, TT_in 45 (by decide +kernel) rfl, ⟨_, _, rfl⟩⟩
theorem lkX8_332 : q_LkV RX8 332 yX8_widened cX8_widened 5 (some .long) 3 6 := ⟨⟨TT_in 1216 (by decide +kernel) rfl, TT_in 1213 (by decide +kernel) rfl, TT_in 63 (by decide +kernel) rfl, ⟨by decide, by decide⟩, by decide +kernel, by decide⟩, TT_in 1215 (by decide +kernel) rfl, TT_in 41 (by decide +kernel) rfl, ⟨_, _, rfl⟩⟩
theorem lkX8_335 : q_LkV RX8 335 yX8_reasonToTake cX8_reasonToTake 6 (some .int) 3 6 := ⟨⟨TT_in 1199 (by decide +kernel) rfl, TT_in 1196 (by decide +kernel) rfl, TT_in 63 (by decide +kernel) rfl, ⟨by decide, by decide⟩, by decide +kernel, by decide⟩, TT_in 1198 (by decide +kernel) rfl, TT_in 39 (by decide +kernel) rfl, ⟨_, _, rfl⟩⟩
theorem lkX8_339 : q_LkV RX8 339 yX8_reasonToFetch cX8_reasonToFetch 4 (some .int) 2 6 := ⟨⟨TT_in 1228 (by decide +kernel) rfl, TT_in 1225 (by decide +kernel) rfl, TT_in 63 (by decide +kernel) rfl, ⟨by decide, by decide⟩, by decide +kernel, by decide⟩, TT_in 1227 (by decide +kernel) rfl, TT_in 43 (by decide +kernel) rfl, ⟨_, _, rfl⟩⟩
theorem lkX8_342 : q_LkV RX8 342 yX8_reasonToLay cX8_reasonToLay 10 (some .int) 5 6 := ⟨⟨TT_in 1236 (by decide +kernel) rfl, TT_in 1233 (by decide +kernel) rfl, TT_in 63 (by decide +kernel) rfl, ⟨by decide, by decide⟩, by decide +kernel, by decide⟩, TT_in 1235 (by decide +kernel) rfl, TT_in 44 (by decide +kernel) rfl, ⟨_, _, rfl⟩⟩
theorem lkX8_346 : q_LkV RX8 346 yX8_put cX8_put 9 none 5 6 := ⟨⟨TT_in 1244 (by decide +kernel) rfl, TT_in 1241 (by decide +kernel) rfl, TT_in 63 (by decide +kernel) rfl, ⟨by decide, by decide⟩, by decide +kernel, by decide⟩, TT_in 1243 (by decide +kernel) rfl, TT_in 46 (by decide +kernel) rfl, ⟨_, _, rfl⟩⟩
theorem lkX8_350 : q_LkV RX8 350 yX8_holdsPlain cX8_holdsPlain 2 (some .boolean) 1 6 := ⟨⟨TT_in 1252 (by decide +kernel) rfl, TT_in 1249 (by decide +kernel) rfl, TT_in 63 (by decide +kernel) rfl, ⟨by decide, by decide⟩, by decide +kernel, by decide⟩, TT_in 1251 (by decide +kernel) rfl, TT_in 47 (by decide +kernel) rfl, ⟨_, _, rfl⟩⟩
theorem lkX8_357 : q_LkV RX8 357 yX8_isOne cX8_isOne 6 (some .boolean) 3 6 := ⟨⟨TT_in 1267 (by decide +kernel) rfl, TT_in 1264 (by decide +kernel) rfl, TT_in 63 (by decide +kernel) rfl, ⟨by decide, by decide⟩, by decide +kernel, by decide⟩, TT_in 1266 (by decide +kernel) rfl, TT_in 49 (by decide +kernel) rfl, ⟨_, _, rfl⟩⟩
theorem lkX8_361 : q_LkV RX8 361 yX8_asOne cX8_asOne 5 (some .long) 3 6 := ⟨⟨TT_in 1271 (by decide +kernel) rfl, TT_in 1268 (by decide +kernel) rfl, TT_in 63 (by decide +kernel) rfl, ⟨by decide, by decide⟩, by decide +kernel, by decide⟩, TT_in 1270 (by decide +kernel) rfl, TT_in 50 (by decide +kernel) rfl, ⟨_, _, rfl⟩⟩
theorem lkX8_366 : q_LkV RX8 366 yX8_convertCell cX8_convertCell 10 (some .int) 4 6 := ⟨⟨TT_in 1263 (by decide +kernel) rfl, TT_in 1260 (by decide +kernel) rfl, TT_in 63 (by decide +kernel) rfl, ⟨by decide, by decide⟩, by decide +kernel, by decide⟩, TT_in 1262 (by decide +kernel) rfl, TT_in 48 (by decide +kernel) rfl, ⟨_, _, rfl⟩⟩
theorem lkX8_374 : q_LkS RX8 374 yX8_isWay cX8_isWay 3 (some .boolean) 1 := ⟨⟨TT_in 1286 (by decide +kernel) rfl, TT_in 1284 (by decide +kernel) rfl, TT_in 63 (by decide +kernel) rfl, ⟨by decide, by decide⟩, by decide +kernel, by decide⟩, TT_in 1285 (by decide +kernel) rfl⟩
theorem lkX8_378 : q_LkV RX8 378 yX8_addEnd cX8_addEnd 6 none 2 6 := ⟨⟨TT_in 1297 (by decide +kernel) rfl, TT_in 1294 (by decide +kernel) rfl, TT_in 63 (by decide +kernel) rfl, ⟨by decide, by decide⟩, by decide +kernel, by decide⟩, TT_in 1296 (by decide +kernel) rfl, TT_in 51 (by decide +kernel) rfl, ⟨_, _, rfl⟩⟩
theorem lkX8_383 : q_LkS RX8 383 yX8_has cX8_has 2 (some .boolean) 2 := ⟨⟨TT_in 1305 (by decide +kernel) rfl, TT_in 1303 (by decide +kernel) rfl, TT_in 63 (by decide +kernel) rfl, ⟨by decide, by decide⟩, by decide +kernel, by decide⟩, TT_in 1304 (by decide +kernel) rfl⟩
theorem lkX8_386 : q_LkS RX8 386 yX8_leastOf cX8_leastOf 4 (some .int) 2 := ⟨⟨TT_in 1315 (by decide +kernel) rfl, TT_in 1313 (by decide +kernel) rfl, TT_in 63 (by decide +kernel) rfl, ⟨by decide, by decide⟩, by decide +kernel, by decide⟩, TT_in 1314 (by decide +kernel) rfl⟩
theorem lkX8_389 : q_LkS RX8 389 yX8_joinedKind cX8_joinedKind 2 (some .int) 2 := ⟨⟨TT_in 1312 (by decide +kernel) rfl, TT_in 1310 (by decide +kernel) rfl, TT_in 63 (by decide +kernel) rfl, ⟨by decide, by decide⟩, by decide +kernel, by decide⟩, TT_in 1311 (by decide +kernel) rfl⟩
theorem lkX8_392 : q_LkV RX8 392 yX8_joinCells cX8_joinCells 4 none 1 6 := ⟨⟨TT_in 1319 (by decide +kernel) rfl, TT_in 1316 (by decide +kernel) rfl, TT_in 63 (by decide +kernel) rfl, ⟨by decide, by decide⟩, by decide +kernel, by decide⟩, TT_in 1318 (by decide +kernel) rfl, TT_in 52 (by decide +kernel) rfl, ⟨_, _, rfl⟩⟩
theorem lkX8_397 : q_LkV RX8 397 yX8_areAlike cX8_areAlike 5 (some .boolean) 2 6 := ⟨⟨TT_in 1332 (by decide +kernel) rfl, TT_in 1329 (by decide +kernel) rfl, TT_in 63 (by decide +kernel) rfl, ⟨by decide, by decide⟩, by decide +kernel, by decide⟩, TT_in 1331 (by decide +kernel) rfl, TT_in 53 (by decide +kernel) rfl, ⟨_, _, rfl⟩⟩
theorem lkX8_400 : q_LkV RX8 400 yX8_areSame cX8_areSame 3 (some .boolean) 2 6 := ⟨⟨TT_in 1340 (by decide +kernel) rfl, TT_in 1337 (by decide +kernel) rfl, TT_in 63 (by decide +kernel) rfl, ⟨by decide, by decide⟩, by decide +kernel, by decide⟩, TT_in 1339 (by decide +kernel) rfl, TT_in 54 (by decide +kernel) rfl, ⟨_, _, rfl⟩⟩
theorem lkX8_407 : q_LkV RX8 407 yX8_reasonBy cX8_reasonBy 4 (some .int) 3 6 := ⟨⟨TT_in 1362 (by decide +kernel) rfl, TT_in 1359 (by decide +kernel) rfl, TT_in 63 (by decide +kernel) rfl, ⟨by decide, by decide⟩, by decide +kernel, by decide⟩, TT_in 1361 (by decide +kernel) rfl, TT_in 55 (by decide +kernel) rfl, ⟨_, _, rfl⟩⟩
theorem lkJ13_308 : q_LkS RJ13 308 yJ6_numberOfLeadingZeros_0f7a4 cJ6_numberOfLeadingZeros_0f7a4 2 (some .int) 1 := ⟨⟨TT_in 456 (by decide +kernel) rfl, TT_in 454 (by decide +kernel) rfl, TT_in 72 (by decide +kernel) rfl, ⟨by decide, by decide⟩, by decide +kernel, by decide⟩, TT_in 455 (by decide +kernel) rfl⟩
theorem cnX7_135 : Cond.constantLong RX7 135 (-1) ∈ TT := TT_in 523 (by decide +kernel) rfl
theorem cnX7_137 : Cond.constantLong RX7 137 (-3) ∈ TT := TT_in 524 (by decide +kernel) rfl
theorem cnX7_143 : Cond.constantLong RX7 143 (-2) ∈ TT := TT_in 529 (by decide +kernel) rfl
theorem cnX7_217 : Cond.constantLong RX7 217 6364136223846793005 ∈ TT := TT_in 668 (by decide +kernel) rfl
theorem cnX7_219 : Cond.constantLong RX7 219 1442695040888963407 ∈ TT := TT_in 669 (by decide +kernel) rfl
theorem cnX7_291 : Cond.constant RX7 291 888888 ∈ TT := TT_in 740 (by decide +kernel) rfl
theorem cnX7_298 : Cond.constantLong RX7 298 (-9) ∈ TT := TT_in 552 (by decide +kernel) rfl
theorem cnX7_332 : Cond.constant RX7 332 100000 ∈ TT := TT_in 745 (by decide +kernel) rfl
theorem cnX2_61 : Cond.constantLong RX2 61 536870911 ∈ TT := TT_in 709 (by decide +kernel) rfl
theorem cnX2_66 : Cond.constantLong RX2 66 (-128) ∈ TT := TT_in 381 (by decide +kernel) rfl
theorem cnX2_68 : Cond.constantLong RX2 68 (-32768) ∈ TT := TT_in 382 (by decide +kernel) rfl
theorem cnX2_70 : Cond.constantLong RX2 70 (-2147483648) ∈ TT := TT_in 383 (by decide +kernel) rfl
theorem cnX2_72 : Cond.constantLong RX2 72 (-9223372036854775808) ∈ TT := TT_in 384 (by decide +kernel) rfl
theorem cnX2_74 : Cond.constantLong RX2 74 127 ∈ TT := TT_in 396 (by decide +kernel) rfl
theorem cnX2_76 : Cond.constantLong RX2 76 65535 ∈ TT := TT_in 397 (by decide +kernel) rfl
theorem cnX2_78 : Cond.constantLong RX2 78 32767 ∈ TT := TT_in 398 (by decide +kernel) rfl
theorem cnX2_80 : Cond.constantLong RX2 80 2147483647 ∈ TT := TT_in 399 (by decide +kernel) rfl
theorem cnX2_82 : Cond.constantLong RX2 82 9999 ∈ TT := TT_in 400 (by decide +kernel) rfl
theorem cnX2_84 : Cond.constantLong RX2 84 9223372036854775807 ∈ TT := TT_in 401 (by decide +kernel) rfl
theorem cnX2_104 : Cond.constantLong RX2 104 2147483648 ∈ TT := TT_in 461 (by decide +kernel) rfl
theorem cnX2_112 : Cond.constantLong RX2 112 255 ∈ TT := TT_in 627 (by decide +kernel) rfl
theorem cnX2_114 : Cond.constantLong RX2 114 896 ∈ TT := TT_in 628 (by decide +kernel) rfl
theorem cnX2_116 : Cond.constantLong RX2 116 8388607 ∈ TT := TT_in 629 (by decide +kernel) rfl
theorem cnX2_118 : Cond.constantLong RX2 118 2047 ∈ TT := TT_in 699 (by decide +kernel) rfl
theorem cnX2_120 : Cond.constantLong RX2 120 4503599627370495 ∈ TT := TT_in 704 (by decide +kernel) rfl
theorem cnX2_125 : Cond.constantLong RX2 125 (-4332462841530417152) ∈ TT := TT_in 700 (by decide +kernel) rfl
theorem cnX2_130 : Cond.constantLong RX2 130 4503599627370496 ∈ TT := TT_in 705 (by decide +kernel) rfl
theorem cnX3_81 : Cond.constantLong RX3 81 10 ∈ TT := TT_in 388 (by decide +kernel) rfl
theorem cnX8_96 : Cond.constantLong RX8 96 7 ∈ TT := TT_in 1032 (by decide +kernel) rfl
theorem cnX8_110 : Cond.constantLong RX8 110 2 ∈ TT := TT_in 1064 (by decide +kernel) rfl
theorem cnX8_112 : Cond.constantLong RX8 112 (-9223372036854775808) ∈ TT := TT_in 1063 (by decide +kernel) rfl
theorem cnX8_118 : Cond.constantLong RX8 118 (-128) ∈ TT := TT_in 1050 (by decide +kernel) rfl
theorem cnX8_120 : Cond.constantLong RX8 120 127 ∈ TT := TT_in 1051 (by decide +kernel) rfl
theorem cnX8_122 : Cond.constantLong RX8 122 65535 ∈ TT := TT_in 1052 (by decide +kernel) rfl
theorem cnX8_124 : Cond.constantLong RX8 124 (-32768) ∈ TT := TT_in 1053 (by decide +kernel) rfl
theorem cnX8_126 : Cond.constantLong RX8 126 32767 ∈ TT := TT_in 1054 (by decide +kernel) rfl
theorem cnX8_128 : Cond.constantLong RX8 128 (-2147483648) ∈ TT := TT_in 1055 (by decide +kernel) rfl
theorem cnX8_130 : Cond.constantLong RX8 130 2147483647 ∈ TT := TT_in 1056 (by decide +kernel) rfl
theorem cnX8_140 : Cond.constantLong RX8 140 255 ∈ TT := TT_in 999 (by decide +kernel) rfl
theorem cnX8_142 : Cond.constantLong RX8 142 128 ∈ TT := TT_in 1160 (by decide +kernel) rfl
theorem cnX8_144 : Cond.constantLong RX8 144 256 ∈ TT := TT_in 1161 (by decide +kernel) rfl
theorem cnX8_146 : Cond.constantLong RX8 146 32768 ∈ TT := TT_in 1162 (by decide +kernel) rfl
theorem cnX8_148 : Cond.constantLong RX8 148 65536 ∈ TT := TT_in 1163 (by decide +kernel) rfl
theorem cnX8_150 : Cond.constantLong RX8 150 4294967295 ∈ TT := TT_in 1164 (by decide +kernel) rfl
theorem cnX8_152 : Cond.constantLong RX8 152 2147483648 ∈ TT := TT_in 1165 (by decide +kernel) rfl
theorem cnX8_154 : Cond.constantLong RX8 154 4294967296 ∈ TT := TT_in 1166 (by decide +kernel) rfl
theorem cnX8_156 : Cond.constantLong RX8 156 (-1) ∈ TT := TT_in 1137 (by decide +kernel) rfl
theorem cnX8_176 : Cond.constantLong RX8 176 10 ∈ TT := TT_in 1041 (by decide +kernel) rfl
theorem cnX8_178 : Cond.constantLong RX8 178 9 ∈ TT := TT_in 1042 (by decide +kernel) rfl
theorem cnX8_190 : Cond.constantLong RX8 190 9999 ∈ TT := TT_in 1046 (by decide +kernel) rfl
theorem cnX8_263 : Cond.constantLong RX8 263 15 ∈ TT := TT_in 1115 (by decide +kernel) rfl
theorem cnX8_265 : Cond.constantLong RX8 265 6 ∈ TT := TT_in 1116 (by decide +kernel) rfl
theorem cnX8_279 : Cond.constantLong RX8 279 (-3) ∈ TT := TT_in 1138 (by decide +kernel) rfl
theorem cnX8_281 : Cond.constantLong RX8 281 (-2) ∈ TT := TT_in 1139 (by decide +kernel) rfl
theorem cnX8_294 : Cond.constantLong RX8 294 (-9) ∈ TT := TT_in 1152 (by decide +kernel) rfl
theorem cnX8_311 : Cond.constantLong RX8 311 999 ∈ TT := TT_in 1175 (by decide +kernel) rfl
theorem cnX8_353 : Cond.constantLong RX8 353 6364136223846793005 ∈ TT := TT_in 1253 (by decide +kernel) rfl
theorem cnX8_355 : Cond.constantLong RX8 355 1442695040888963407 ∈ TT := TT_in 1254 (by decide +kernel) rfl
theorem cnX8_364 : Cond.constantLong RX8 364 3 ∈ TT := TT_in 1259 (by decide +kernel) rfl
theorem cnX8_370 : Cond.constantLong RX8 370 888888 ∈ TT := TT_in 1287 (by decide +kernel) rfl
theorem cnX8_372 : Cond.constantLong RX8 372 8 ∈ TT := TT_in 1288 (by decide +kernel) rfl
theorem cnX8_377 : Cond.constant RX8 377 100000 ∈ TT := TT_in 1289 (by decide +kernel) rfl
theorem cnX8_381 : Cond.constantLong RX8 381 1023 ∈ TT := TT_in 1302 (by decide +kernel) rfl
theorem cnX8_395 : Cond.constantLong RX8 395 69 ∈ TT := TT_in 1324 (by decide +kernel) rfl
theorem cnX8_403 : Cond.constantLong RX8 403 4 ∈ TT := TT_in 1345 (by decide +kernel) rfl
theorem cnX8_405 : Cond.constantLong RX8 405 5 ∈ TT := TT_in 1346 (by decide +kernel) rfl
theorem cnJ6_264 : Cond.constant RJ6 264 65536 ∈ TT := TT_in 457 (by decide +kernel) rfl
end
section
theorem dX7_isSlot_0 : decode cX7_isSlot 0 = .ok (.iload_n 0, 1) := by decide +kernel
theorem dX7_isSlot_1 : decode cX7_isSlot 1 = .ok (.ifCond .lt 13, 3) := by decide +kernel
theorem dX7_isSlot_4 : decode cX7_isSlot 4 = .ok (.iload_n 0, 1) := by decide +kernel
theorem dX7_isSlot_5 : decode cX7_isSlot 5 = .ok (.bipush 10, 2) := by decide +kernel
theorem dX7_isSlot_7 : decode cX7_isSlot 7 = .ok (.if_icmp .ge 7, 3) := by decide +kernel
theorem dX7_isSlot_10 : decode cX7_isSlot 10 = .ok (.iconst 1, 1) := by decide +kernel
theorem dX7_isSlot_11 : decode cX7_isSlot 11 = .ok (.goto 4, 3) := by decide +kernel
theorem dX7_isSlot_14 : decode cX7_isSlot 14 = .ok (.iconst 0, 1) := by decide +kernel
theorem dX7_isSlot_15 : decode cX7_isSlot 15 = .ok (.ireturn, 1) := by decide +kernel
def fX7_isSlot (p1 : Int32) : Option Int32 := (if p1 < 0 then some (0 : Int32) else (if (10 : Int32) ≤ p1 then some (0 : Int32) else some (1 : Int32)))
set_option maxRecDepth 100000 in
set_option maxHeartbeats 4000000 in
theorem kX7_isSlot (l : Launch) (p1 : Int32) (out : Int32) (hf : fX7_isSlot p1 = some out) : Sq l yX7_isSlot cX7_isSlot 1 (some .boolean) 0 [.int p1] (some (.int out)) := by
  refine Sq.of [(0, .int p1)] rfl (by decide) (Nat.le_of_ble_eq_true rfl) ?_
  intro κ hκ C hQ
  subst hκ
  replace C : Cf κ cX7_isSlot 1 RX7 (some .boolean) 0 := C
  refine g_iload_n (pc := 0) (i := 0) (j := 0) C dX7_isSlot_0 rfl rfl ?_
  refine g_if_lt (pc := 1) (tgt := 14) C dX7_isSlot_1 rfl hf (fun _ hf => ?_) (fun _ hf => ?_)
  · refine g_iconst (pc := 14) C dX7_isSlot_14 ci_0 ?_
    exact g_zret1p (pc := 15) C rfl hQ dX7_isSlot_15 hf
  · refine g_iload_n (pc := 4) (i := 0) (j := 0) C dX7_isSlot_4 rfl rfl ?_
    refine g_bipush (pc := 5) C dX7_isSlot_5 cb_10 ?_
    refine g_icmp_ge (pc := 7) (tgt := 14) C dX7_isSlot_7 rfl hf (fun _ hf => ?_) (fun _ hf => ?_)
    · refine g_iconst (pc := 14) C dX7_isSlot_14 ci_0 ?_
      exact g_zret1p (pc := 15) C rfl hQ dX7_isSlot_15 hf
    · refine g_iconst (pc := 10) C dX7_isSlot_10 ci_1 ?_
      refine g_goto (pc := 11) (tgt := 15) C dX7_isSlot_11 rfl ?_
      exact g_zret1p (pc := 15) C rfl hQ dX7_isSlot_15 hf
theorem dX8_widens_0 : decode cX8_widens 0 = .ok (.iload_n 0, 1) := by decide +kernel
theorem dX8_widens_1 : decode cX8_widens 1 = .ok (.iload_n 1, 1) := by decide +kernel
theorem dX8_widens_2 : decode cX8_widens 2 = .ok (.if_icmp .ne 5, 3) := by decide +kernel
theorem dX8_widens_5 : decode cX8_widens 5 = .ok (.iconst 1, 1) := by decide +kernel
theorem dX8_widens_6 : decode cX8_widens 6 = .ok (.ireturn, 1) := by decide +kernel
theorem dX8_widens_7 : decode cX8_widens 7 = .ok (.iload_n 0, 1) := by decide +kernel
theorem dX8_widens_8 : decode cX8_widens 8 = .ok (.ifCond .eq 8, 3) := by decide +kernel
theorem dX8_widens_11 : decode cX8_widens 11 = .ok (.iload_n 1, 1) := by decide +kernel
theorem dX8_widens_12 : decode cX8_widens 12 = .ok (.iconst 3, 1) := by decide +kernel
theorem dX8_widens_13 : decode cX8_widens 13 = .ok (.if_icmp .ge 5, 3) := by decide +kernel
theorem dX8_widens_16 : decode cX8_widens 16 = .ok (.iconst 0, 1) := by decide +kernel
theorem dX8_widens_17 : decode cX8_widens 17 = .ok (.ireturn, 1) := by decide +kernel
theorem dX8_widens_18 : decode cX8_widens 18 = .ok (.iload_n 0, 1) := by decide +kernel
theorem dX8_widens_19 : decode cX8_widens 19 = .ok (.iconst 2, 1) := by decide +kernel
theorem dX8_widens_20 : decode cX8_widens 20 = .ok (.if_icmp .ne 16, 3) := by decide +kernel
theorem dX8_widens_23 : decode cX8_widens 23 = .ok (.iload_n 1, 1) := by decide +kernel
theorem dX8_widens_24 : decode cX8_widens 24 = .ok (.iconst 3, 1) := by decide +kernel
theorem dX8_widens_25 : decode cX8_widens 25 = .ok (.if_icmp .le 7, 3) := by decide +kernel
theorem dX8_widens_28 : decode cX8_widens 28 = .ok (.iconst 1, 1) := by decide +kernel
theorem dX8_widens_29 : decode cX8_widens 29 = .ok (.goto 17, 3) := by decide +kernel
theorem dX8_widens_32 : decode cX8_widens 32 = .ok (.iconst 0, 1) := by decide +kernel
theorem dX8_widens_33 : decode cX8_widens 33 = .ok (.goto 13, 3) := by decide +kernel
theorem dX8_widens_36 : decode cX8_widens 36 = .ok (.iload_n 0, 1) := by decide +kernel
theorem dX8_widens_37 : decode cX8_widens 37 = .ok (.iload_n 1, 1) := by decide +kernel
theorem dX8_widens_38 : decode cX8_widens 38 = .ok (.if_icmp .ge 7, 3) := by decide +kernel
theorem dX8_widens_41 : decode cX8_widens 41 = .ok (.iconst 1, 1) := by decide +kernel
theorem dX8_widens_42 : decode cX8_widens 42 = .ok (.goto 4, 3) := by decide +kernel
theorem dX8_widens_45 : decode cX8_widens 45 = .ok (.iconst 0, 1) := by decide +kernel
theorem dX8_widens_46 : decode cX8_widens 46 = .ok (.ireturn, 1) := by decide +kernel
def fX8_widens (p1 : Int32) (p2 : Int32) : Option Int32 := (if p1 = p2 then some (1 : Int32) else (if p1 = 0 then some (0 : Int32) else (if (3 : Int32) ≤ p2 then (if p1 = (2 : Int32) then (if p2 ≤ (3 : Int32) then some (0 : Int32) else some (1 : Int32)) else (if p2 ≤ p1 then some (0 : Int32) else some (1 : Int32))) else some (0 : Int32))))
set_option maxRecDepth 100000 in
set_option maxHeartbeats 4000000 in
theorem kX8_widens (l : Launch) (p1 : Int32) (p2 : Int32) (out : Int32) (hf : fX8_widens p1 p2 = some out) : Sq l yX8_widens cX8_widens 2 (some .boolean) 0 [.int p1, .int p2] (some (.int out)) := by
  refine Sq.of [(0, .int p1), (1, .int p2)] rfl (by decide) (Nat.le_of_ble_eq_true rfl) ?_
  intro κ hκ C hQ
  subst hκ
  replace C : Cf κ cX8_widens 2 RX8 (some .boolean) 0 := C
  refine g_iload_n (pc := 0) (i := 0) (j := 0) C dX8_widens_0 rfl rfl ?_
  refine g_iload_n (pc := 1) (i := 1) (j := 1) C dX8_widens_1 rfl rfl ?_
  refine g_icmp_ne (pc := 2) (tgt := 7) C dX8_widens_2 rfl hf (fun _ hf => ?_) (fun _ hf => ?_)
  · refine g_iload_n (pc := 7) (i := 0) (j := 0) C dX8_widens_7 rfl rfl ?_
    refine g_if_eq (pc := 8) (tgt := 16) C dX8_widens_8 rfl hf (fun _ hf => ?_) (fun _ hf => ?_)
    · refine g_iconst (pc := 16) C dX8_widens_16 ci_0 ?_
      exact g_zret1p (pc := 17) C rfl hQ dX8_widens_17 hf
    · refine g_iload_n (pc := 11) (i := 1) (j := 1) C dX8_widens_11 rfl rfl ?_
      refine g_iconst (pc := 12) C dX8_widens_12 ci_3 ?_
      refine g_icmp_ge (pc := 13) (tgt := 18) C dX8_widens_13 rfl hf (fun _ hf => ?_) (fun _ hf => ?_)
      · refine g_iload_n (pc := 18) (i := 0) (j := 0) C dX8_widens_18 rfl rfl ?_
        refine g_iconst (pc := 19) C dX8_widens_19 ci_2 ?_
        refine g_icmp_ne (pc := 20) (tgt := 36) C dX8_widens_20 rfl hf (fun _ hf => ?_) (fun _ hf => ?_)
        · refine g_iload_n (pc := 36) (i := 0) (j := 0) C dX8_widens_36 rfl rfl ?_
          refine g_iload_n (pc := 37) (i := 1) (j := 1) C dX8_widens_37 rfl rfl ?_
          refine g_icmp_ge (pc := 38) (tgt := 45) C dX8_widens_38 rfl hf (fun _ hf => ?_) (fun _ hf => ?_)
          · refine g_iconst (pc := 45) C dX8_widens_45 ci_0 ?_
            exact g_zret1p (pc := 46) C rfl hQ dX8_widens_46 hf
          · refine g_iconst (pc := 41) C dX8_widens_41 ci_1 ?_
            refine g_goto (pc := 42) (tgt := 46) C dX8_widens_42 rfl ?_
            exact g_zret1p (pc := 46) C rfl hQ dX8_widens_46 hf
        · refine g_iload_n (pc := 23) (i := 1) (j := 1) C dX8_widens_23 rfl rfl ?_
          refine g_iconst (pc := 24) C dX8_widens_24 ci_3 ?_
          refine g_icmp_le (pc := 25) (tgt := 32) C dX8_widens_25 rfl hf (fun _ hf => ?_) (fun _ hf => ?_)
          · refine g_iconst (pc := 32) C dX8_widens_32 ci_0 ?_
            refine g_goto (pc := 33) (tgt := 46) C dX8_widens_33 rfl ?_
            exact g_zret1p (pc := 46) C rfl hQ dX8_widens_46 hf
          · refine g_iconst (pc := 28) C dX8_widens_28 ci_1 ?_
            refine g_goto (pc := 29) (tgt := 46) C dX8_widens_29 rfl ?_
            exact g_zret1p (pc := 46) C rfl hQ dX8_widens_46 hf
      · refine g_iconst (pc := 16) C dX8_widens_16 ci_0 ?_
        exact g_zret1p (pc := 17) C rfl hQ dX8_widens_17 hf
  · refine g_iconst (pc := 5) C dX8_widens_5 ci_1 ?_
    exact g_zret1p (pc := 6) C rfl hQ dX8_widens_6 hf
theorem dX8_lengthOf_0 : decode cX8_lengthOf 0 = .ok (.iconst 0, 1) := by decide +kernel
theorem dX8_lengthOf_1 : decode cX8_lengthOf 1 = .ok (.istore_n 2, 1) := by decide +kernel
theorem dX8_lengthOf_2 : decode cX8_lengthOf 2 = .ok (.lload_n 0, 1) := by decide +kernel
theorem dX8_lengthOf_3 : decode cX8_lengthOf 3 = .ok (.lstore_n 3, 1) := by decide +kernel
theorem dX8_lengthOf_4 : decode cX8_lengthOf 4 = .ok (.lload_n 3, 1) := by decide +kernel
theorem dX8_lengthOf_5 : decode cX8_lengthOf 5 = .ok (.lconst 0, 1) := by decide +kernel
theorem dX8_lengthOf_6 : decode cX8_lengthOf 6 = .ok (.lcmp, 1) := by decide +kernel
theorem dX8_lengthOf_7 : decode cX8_lengthOf 7 = .ok (.ifCond .le 13, 3) := by decide +kernel
theorem dX8_lengthOf_10 : decode cX8_lengthOf 10 = .ok (.iinc 2 1, 3) := by decide +kernel
theorem dX8_lengthOf_13 : decode cX8_lengthOf 13 = .ok (.lload_n 3, 1) := by decide +kernel
theorem dX8_lengthOf_14 : decode cX8_lengthOf 14 = .ok (.iconst 1, 1) := by decide +kernel
theorem dX8_lengthOf_15 : decode cX8_lengthOf 15 = .ok (.lshr, 1) := by decide +kernel
theorem dX8_lengthOf_16 : decode cX8_lengthOf 16 = .ok (.lstore_n 3, 1) := by decide +kernel
theorem dX8_lengthOf_17 : decode cX8_lengthOf 17 = .ok (.goto (-13), 3) := by decide +kernel
theorem dX8_lengthOf_20 : decode cX8_lengthOf 20 = .ok (.iload_n 2, 1) := by decide +kernel
theorem dX8_lengthOf_21 : decode cX8_lengthOf 21 = .ok (.ireturn, 1) := by decide +kernel
def fX8_lengthOf_b4 : Nat → Int32 → Int64 → Option Int32
  | 0, _, _ => none
  | n + 1, v2, v3 => (if v3 ≤ (0 : Int64) then some v2 else (fX8_lengthOf_b4 n) (v2 + (1 : Int32)) (jlshr v3 (1 : Int32)))
def fX8_lengthOf (p1 : Int64) : Option Int32 := fX8_lengthOf_b4 100 (0 : Int32) p1
set_option maxRecDepth 100000 in
set_option maxHeartbeats 4000000 in
theorem kX8_lengthOf (l : Launch) (p1 : Int64) (out : Int32) (hf : fX8_lengthOf p1 = some out) : Sq l yX8_lengthOf cX8_lengthOf 5 (some .int) 0 [.long p1] (some (.int out)) := by
  refine Sq.of [(0, .long p1)] rfl (by decide) (Nat.le_of_ble_eq_true rfl) ?_
  intro κ hκ C hQ
  subst hκ
  replace C : Cf κ cX8_lengthOf 5 RX8 (some .int) 0 := C
  have b4 : ∀ (n : Nat) (v2 : Int32) (v3 : Int64) , fX8_lengthOf_b4 n v2 v3 = some out → G κ (Vp κ) 5 4 [(2, .int v2), (3, .long v3)] [] := by
    intro n
    induction n with
    | zero => intro v2 v3 hf; exact none_ne hf
    | succ n ih =>
      intro v2 v3 hf
      refine g_lload_n (pc := 4) (i := 3) (j := 1) C dX8_lengthOf_4 rfl rfl ?_
      refine g_lconst (pc := 5) C dX8_lengthOf_5 cl_0 ?_
      refine g_lcmp_le (pc := 6) (tgt := 20) C dX8_lengthOf_6 dX8_lengthOf_7 rfl hf (fun _ hf => ?_) (fun _ hf => ?_)
      · refine g_iload_n (pc := 20) (i := 2) (j := 0) C dX8_lengthOf_20 rfl rfl ?_
        exact g_iretp (pc := 21) C hQ dX8_lengthOf_21 hf
      · refine g_iinc (pc := 10) (i := 2) (j := 0) (v := (v2 + (1 : Int32))) (L' := [(2, .int (v2 + (1 : Int32))), (3, .long v3)]) C dX8_lengthOf_10 rfl (cx_1 _) (by decide) rfl ?_
        refine g_lload_n (pc := 13) (i := 3) (j := 1) C dX8_lengthOf_13 rfl rfl ?_
        refine g_iconst (pc := 14) C dX8_lengthOf_14 ci_1 ?_
        refine g_lshr (pc := 15) C dX8_lengthOf_15 ?_
        refine g_lstore_n (pc := 16) (i := 3) (L' := [(3, .long (jlshr v3 (1 : Int32))), (2, .int (v2 + (1 : Int32)))]) C dX8_lengthOf_16 rfl (by decide) rfl ?_
        refine g_goto (pc := 17) (tgt := 4) C dX8_lengthOf_17 rfl ?_
        exact g_at [1, 0] rfl (ih (v2 + (1 : Int32)) (jlshr v3 (1 : Int32)) hf)
  refine g_iconst (pc := 0) C dX8_lengthOf_0 ci_0 ?_
  refine g_istore_n (pc := 1) (i := 2) (L' := [(2, .int (0 : Int32)), (0, .long p1)]) C dX8_lengthOf_1 rfl (by decide) rfl ?_
  refine g_lload_n (pc := 2) (i := 0) (j := 1) C dX8_lengthOf_2 rfl rfl ?_
  refine g_lstore_n (pc := 3) (i := 3) (L' := [(3, .long p1), (2, .int (0 : Int32)), (0, .long p1)]) C dX8_lengthOf_3 rfl (by decide) rfl ?_
  exact g_at [1, 0] rfl (b4 100 (0 : Int32) p1 hf)
theorem dX8_rounded_0 : decode cX8_rounded 0 = .ok (.lload_n 1, 1) := by decide +kernel
theorem dX8_rounded_1 : decode cX8_rounded 1 = .ok (.lconst 0, 1) := by decide +kernel
theorem dX8_rounded_2 : decode cX8_rounded 2 = .ok (.lcmp, 1) := by decide +kernel
theorem dX8_rounded_3 : decode cX8_rounded 3 = .ok (.ifCond .ne 5, 3) := by decide +kernel
theorem dX8_rounded_6 : decode cX8_rounded 6 = .ok (.lconst 0, 1) := by decide +kernel
theorem dX8_rounded_7 : decode cX8_rounded 7 = .ok (.lreturn, 1) := by decide +kernel
theorem dX8_rounded_8 : decode cX8_rounded 8 = .ok (.iload_n 0, 1) := by decide +kernel
theorem dX8_rounded_9 : decode cX8_rounded 9 = .ok (.bipush 6, 2) := by decide +kernel
theorem dX8_rounded_11 : decode cX8_rounded 11 = .ok (.if_icmp .ne 8, 3) := by decide +kernel
theorem dX8_rounded_14 : decode cX8_rounded 14 = .ok (.bipush 24, 2) := by decide +kernel
theorem dX8_rounded_16 : decode cX8_rounded 16 = .ok (.goto 5, 3) := by decide +kernel
theorem dX8_rounded_19 : decode cX8_rounded 19 = .ok (.bipush 53, 2) := by decide +kernel
theorem dX8_rounded_21 : decode cX8_rounded 21 = .ok (.istore 4, 2) := by decide +kernel
theorem dX8_rounded_23 : decode cX8_rounded 23 = .ok (.lload_n 1, 1) := by decide +kernel
theorem dX8_rounded_24 : decode cX8_rounded 24 = .ok (.ldc2_w 112, 3) := by decide +kernel
theorem dX8_rounded_27 : decode cX8_rounded 27 = .ok (.lcmp, 1) := by decide +kernel
theorem dX8_rounded_28 : decode cX8_rounded 28 = .ok (.ifCond .ne 7, 3) := by decide +kernel
theorem dX8_rounded_31 : decode cX8_rounded 31 = .ok (.iconst 1, 1) := by decide +kernel
theorem dX8_rounded_32 : decode cX8_rounded 32 = .ok (.goto 4, 3) := by decide +kernel
theorem dX8_rounded_35 : decode cX8_rounded 35 = .ok (.iconst 0, 1) := by decide +kernel
theorem dX8_rounded_36 : decode cX8_rounded 36 = .ok (.istore 5, 2) := by decide +kernel
theorem dX8_rounded_38 : decode cX8_rounded 38 = .ok (.iload 5, 2) := by decide +kernel
theorem dX8_rounded_40 : decode cX8_rounded 40 = .ok (.ifCond .eq 11, 3) := by decide +kernel
theorem dX8_rounded_43 : decode cX8_rounded 43 = .ok (.lload_n 1, 1) := by decide +kernel
theorem dX8_rounded_44 : decode cX8_rounded 44 = .ok (.ldc2_w 110, 3) := by decide +kernel
theorem dX8_rounded_47 : decode cX8_rounded 47 = .ok (.ldiv, 1) := by decide +kernel
theorem dX8_rounded_48 : decode cX8_rounded 48 = .ok (.goto 4, 3) := by decide +kernel
theorem dX8_rounded_51 : decode cX8_rounded 51 = .ok (.lload_n 1, 1) := by decide +kernel
theorem dX8_rounded_52 : decode cX8_rounded 52 = .ok (.lstore 6, 2) := by decide +kernel
theorem dX8_rounded_54 : decode cX8_rounded 54 = .ok (.iload 5, 2) := by decide +kernel
theorem dX8_rounded_56 : decode cX8_rounded 56 = .ok (.ifCond .eq 9, 3) := by decide +kernel
theorem dX8_rounded_59 : decode cX8_rounded 59 = .ok (.iload_n 3, 1) := by decide +kernel
theorem dX8_rounded_60 : decode cX8_rounded 60 = .ok (.iconst 1, 1) := by decide +kernel
theorem dX8_rounded_61 : decode cX8_rounded 61 = .ok (.iadd, 1) := by decide +kernel
theorem dX8_rounded_62 : decode cX8_rounded 62 = .ok (.goto 4, 3) := by decide +kernel
theorem dX8_rounded_65 : decode cX8_rounded 65 = .ok (.iload_n 3, 1) := by decide +kernel
theorem dX8_rounded_66 : decode cX8_rounded 66 = .ok (.istore 8, 2) := by decide +kernel
theorem dX8_rounded_68 : decode cX8_rounded 68 = .ok (.lload 6, 2) := by decide +kernel
theorem dX8_rounded_70 : decode cX8_rounded 70 = .ok (.lconst 0, 1) := by decide +kernel
theorem dX8_rounded_71 : decode cX8_rounded 71 = .ok (.lcmp, 1) := by decide +kernel
theorem dX8_rounded_72 : decode cX8_rounded 72 = .ok (.ifCond .ge 9, 3) := by decide +kernel
theorem dX8_rounded_75 : decode cX8_rounded 75 = .ok (.lload 6, 2) := by decide +kernel
theorem dX8_rounded_77 : decode cX8_rounded 77 = .ok (.lneg, 1) := by decide +kernel
theorem dX8_rounded_78 : decode cX8_rounded 78 = .ok (.goto 5, 3) := by decide +kernel
theorem dX8_rounded_81 : decode cX8_rounded 81 = .ok (.lload 6, 2) := by decide +kernel
theorem dX8_rounded_83 : decode cX8_rounded 83 = .ok (.lstore 9, 2) := by decide +kernel
theorem dX8_rounded_85 : decode cX8_rounded 85 = .ok (.lload 9, 2) := by decide +kernel
theorem dX8_rounded_87 : decode cX8_rounded 87 = .ok (.invokestatic 114, 3) := by decide +kernel
theorem dX8_rounded_90 : decode cX8_rounded 90 = .ok (.iload 4, 2) := by decide +kernel
theorem dX8_rounded_92 : decode cX8_rounded 92 = .ok (.isub, 1) := by decide +kernel
theorem dX8_rounded_93 : decode cX8_rounded 93 = .ok (.istore 11, 2) := by decide +kernel
theorem dX8_rounded_95 : decode cX8_rounded 95 = .ok (.iload 11, 2) := by decide +kernel
theorem dX8_rounded_97 : decode cX8_rounded 97 = .ok (.ifCond .le 73, 3) := by decide +kernel
theorem dX8_rounded_100 : decode cX8_rounded 100 = .ok (.lload 9, 2) := by decide +kernel
theorem dX8_rounded_102 : decode cX8_rounded 102 = .ok (.lconst 1, 1) := by decide +kernel
theorem dX8_rounded_103 : decode cX8_rounded 103 = .ok (.iload 11, 2) := by decide +kernel
theorem dX8_rounded_105 : decode cX8_rounded 105 = .ok (.lshl, 1) := by decide +kernel
theorem dX8_rounded_106 : decode cX8_rounded 106 = .ok (.lconst 1, 1) := by decide +kernel
theorem dX8_rounded_107 : decode cX8_rounded 107 = .ok (.lsub, 1) := by decide +kernel
theorem dX8_rounded_108 : decode cX8_rounded 108 = .ok (.land, 1) := by decide +kernel
theorem dX8_rounded_109 : decode cX8_rounded 109 = .ok (.lstore 12, 2) := by decide +kernel
theorem dX8_rounded_111 : decode cX8_rounded 111 = .ok (.lconst 1, 1) := by decide +kernel
theorem dX8_rounded_112 : decode cX8_rounded 112 = .ok (.iload 11, 2) := by decide +kernel
theorem dX8_rounded_114 : decode cX8_rounded 114 = .ok (.iconst 1, 1) := by decide +kernel
theorem dX8_rounded_115 : decode cX8_rounded 115 = .ok (.isub, 1) := by decide +kernel
theorem dX8_rounded_116 : decode cX8_rounded 116 = .ok (.lshl, 1) := by decide +kernel
theorem dX8_rounded_117 : decode cX8_rounded 117 = .ok (.lstore 14, 2) := by decide +kernel
theorem dX8_rounded_119 : decode cX8_rounded 119 = .ok (.lload 9, 2) := by decide +kernel
theorem dX8_rounded_121 : decode cX8_rounded 121 = .ok (.iload 11, 2) := by decide +kernel
theorem dX8_rounded_123 : decode cX8_rounded 123 = .ok (.lshr, 1) := by decide +kernel
theorem dX8_rounded_124 : decode cX8_rounded 124 = .ok (.lstore 9, 2) := by decide +kernel
theorem dX8_rounded_126 : decode cX8_rounded 126 = .ok (.iload 8, 2) := by decide +kernel
theorem dX8_rounded_128 : decode cX8_rounded 128 = .ok (.iload 11, 2) := by decide +kernel
theorem dX8_rounded_130 : decode cX8_rounded 130 = .ok (.iadd, 1) := by decide +kernel
theorem dX8_rounded_131 : decode cX8_rounded 131 = .ok (.istore 8, 2) := by decide +kernel
theorem dX8_rounded_133 : decode cX8_rounded 133 = .ok (.lload 9, 2) := by decide +kernel
theorem dX8_rounded_135 : decode cX8_rounded 135 = .ok (.lload 12, 2) := by decide +kernel
theorem dX8_rounded_137 : decode cX8_rounded 137 = .ok (.lload 14, 2) := by decide +kernel
theorem dX8_rounded_139 : decode cX8_rounded 139 = .ok (.lcmp, 1) := by decide +kernel
theorem dX8_rounded_140 : decode cX8_rounded 140 = .ok (.ifCond .gt 22, 3) := by decide +kernel
theorem dX8_rounded_143 : decode cX8_rounded 143 = .ok (.lload 12, 2) := by decide +kernel
theorem dX8_rounded_145 : decode cX8_rounded 145 = .ok (.lload 14, 2) := by decide +kernel
theorem dX8_rounded_147 : decode cX8_rounded 147 = .ok (.lcmp, 1) := by decide +kernel
theorem dX8_rounded_148 : decode cX8_rounded 148 = .ok (.ifCond .ne 18, 3) := by decide +kernel
theorem dX8_rounded_151 : decode cX8_rounded 151 = .ok (.lload 9, 2) := by decide +kernel
theorem dX8_rounded_153 : decode cX8_rounded 153 = .ok (.ldc2_w 110, 3) := by decide +kernel
theorem dX8_rounded_156 : decode cX8_rounded 156 = .ok (.lrem, 1) := by decide +kernel
theorem dX8_rounded_157 : decode cX8_rounded 157 = .ok (.lconst 1, 1) := by decide +kernel
theorem dX8_rounded_158 : decode cX8_rounded 158 = .ok (.lcmp, 1) := by decide +kernel
theorem dX8_rounded_159 : decode cX8_rounded 159 = .ok (.ifCond .ne 7, 3) := by decide +kernel
theorem dX8_rounded_162 : decode cX8_rounded 162 = .ok (.lconst 1, 1) := by decide +kernel
theorem dX8_rounded_163 : decode cX8_rounded 163 = .ok (.goto 4, 3) := by decide +kernel
theorem dX8_rounded_166 : decode cX8_rounded 166 = .ok (.lconst 0, 1) := by decide +kernel
theorem dX8_rounded_167 : decode cX8_rounded 167 = .ok (.ladd, 1) := by decide +kernel
theorem dX8_rounded_168 : decode cX8_rounded 168 = .ok (.lstore 9, 2) := by decide +kernel
theorem dX8_rounded_170 : decode cX8_rounded 170 = .ok (.lload 9, 2) := by decide +kernel
theorem dX8_rounded_172 : decode cX8_rounded 172 = .ok (.invokestatic 114, 3) := by decide +kernel
theorem dX8_rounded_175 : decode cX8_rounded 175 = .ok (.istore 12, 2) := by decide +kernel
theorem dX8_rounded_177 : decode cX8_rounded 177 = .ok (.iload 12, 2) := by decide +kernel
theorem dX8_rounded_179 : decode cX8_rounded 179 = .ok (.iload 4, 2) := by decide +kernel
theorem dX8_rounded_181 : decode cX8_rounded 181 = .ok (.if_icmp .le 14, 3) := by decide +kernel
theorem dX8_rounded_184 : decode cX8_rounded 184 = .ok (.lload 9, 2) := by decide +kernel
theorem dX8_rounded_186 : decode cX8_rounded 186 = .ok (.iload 12, 2) := by decide +kernel
theorem dX8_rounded_188 : decode cX8_rounded 188 = .ok (.iload 4, 2) := by decide +kernel
theorem dX8_rounded_190 : decode cX8_rounded 190 = .ok (.isub, 1) := by decide +kernel
theorem dX8_rounded_191 : decode cX8_rounded 191 = .ok (.lshr, 1) := by decide +kernel
theorem dX8_rounded_192 : decode cX8_rounded 192 = .ok (.goto 11, 3) := by decide +kernel
theorem dX8_rounded_195 : decode cX8_rounded 195 = .ok (.lload 9, 2) := by decide +kernel
theorem dX8_rounded_197 : decode cX8_rounded 197 = .ok (.iload 4, 2) := by decide +kernel
theorem dX8_rounded_199 : decode cX8_rounded 199 = .ok (.iload 12, 2) := by decide +kernel
theorem dX8_rounded_201 : decode cX8_rounded 201 = .ok (.isub, 1) := by decide +kernel
theorem dX8_rounded_202 : decode cX8_rounded 202 = .ok (.lshl, 1) := by decide +kernel
theorem dX8_rounded_203 : decode cX8_rounded 203 = .ok (.lstore 13, 2) := by decide +kernel
theorem dX8_rounded_205 : decode cX8_rounded 205 = .ok (.iload 8, 2) := by decide +kernel
theorem dX8_rounded_207 : decode cX8_rounded 207 = .ok (.iload 12, 2) := by decide +kernel
theorem dX8_rounded_209 : decode cX8_rounded 209 = .ok (.iadd, 1) := by decide +kernel
theorem dX8_rounded_210 : decode cX8_rounded 210 = .ok (.iconst 1, 1) := by decide +kernel
theorem dX8_rounded_211 : decode cX8_rounded 211 = .ok (.isub, 1) := by decide +kernel
theorem dX8_rounded_212 : decode cX8_rounded 212 = .ok (.iload_n 0, 1) := by decide +kernel
theorem dX8_rounded_213 : decode cX8_rounded 213 = .ok (.bipush 6, 2) := by decide +kernel
theorem dX8_rounded_215 : decode cX8_rounded 215 = .ok (.if_icmp .ne 8, 3) := by decide +kernel
theorem dX8_rounded_218 : decode cX8_rounded 218 = .ok (.bipush 127, 2) := by decide +kernel
theorem dX8_rounded_220 : decode cX8_rounded 220 = .ok (.goto 6, 3) := by decide +kernel
theorem dX8_rounded_223 : decode cX8_rounded 223 = .ok (.sipush 1023, 3) := by decide +kernel
theorem dX8_rounded_226 : decode cX8_rounded 226 = .ok (.iadd, 1) := by decide +kernel
theorem dX8_rounded_227 : decode cX8_rounded 227 = .ok (.i2l, 1) := by decide +kernel
theorem dX8_rounded_228 : decode cX8_rounded 228 = .ok (.lstore 15, 2) := by decide +kernel
theorem dX8_rounded_230 : decode cX8_rounded 230 = .ok (.lload 13, 2) := by decide +kernel
theorem dX8_rounded_232 : decode cX8_rounded 232 = .ok (.lconst 1, 1) := by decide +kernel
theorem dX8_rounded_233 : decode cX8_rounded 233 = .ok (.iload 4, 2) := by decide +kernel
theorem dX8_rounded_235 : decode cX8_rounded 235 = .ok (.iconst 1, 1) := by decide +kernel
theorem dX8_rounded_236 : decode cX8_rounded 236 = .ok (.isub, 1) := by decide +kernel
theorem dX8_rounded_237 : decode cX8_rounded 237 = .ok (.lshl, 1) := by decide +kernel
theorem dX8_rounded_238 : decode cX8_rounded 238 = .ok (.lconst 1, 1) := by decide +kernel
theorem dX8_rounded_239 : decode cX8_rounded 239 = .ok (.lsub, 1) := by decide +kernel
theorem dX8_rounded_240 : decode cX8_rounded 240 = .ok (.land, 1) := by decide +kernel
theorem dX8_rounded_241 : decode cX8_rounded 241 = .ok (.lload 15, 2) := by decide +kernel
theorem dX8_rounded_243 : decode cX8_rounded 243 = .ok (.iload 4, 2) := by decide +kernel
theorem dX8_rounded_245 : decode cX8_rounded 245 = .ok (.iconst 1, 1) := by decide +kernel
theorem dX8_rounded_246 : decode cX8_rounded 246 = .ok (.isub, 1) := by decide +kernel
theorem dX8_rounded_247 : decode cX8_rounded 247 = .ok (.lshl, 1) := by decide +kernel
theorem dX8_rounded_248 : decode cX8_rounded 248 = .ok (.lor, 1) := by decide +kernel
theorem dX8_rounded_249 : decode cX8_rounded 249 = .ok (.lstore 17, 2) := by decide +kernel
theorem dX8_rounded_251 : decode cX8_rounded 251 = .ok (.lload 6, 2) := by decide +kernel
theorem dX8_rounded_253 : decode cX8_rounded 253 = .ok (.lconst 0, 1) := by decide +kernel
theorem dX8_rounded_254 : decode cX8_rounded 254 = .ok (.lcmp, 1) := by decide +kernel
theorem dX8_rounded_255 : decode cX8_rounded 255 = .ok (.ifCond .ge 24, 3) := by decide +kernel
theorem dX8_rounded_258 : decode cX8_rounded 258 = .ok (.lload 17, 2) := by decide +kernel
theorem dX8_rounded_260 : decode cX8_rounded 260 = .ok (.lconst 1, 1) := by decide +kernel
theorem dX8_rounded_261 : decode cX8_rounded 261 = .ok (.iload_n 0, 1) := by decide +kernel
theorem dX8_rounded_262 : decode cX8_rounded 262 = .ok (.bipush 6, 2) := by decide +kernel
theorem dX8_rounded_264 : decode cX8_rounded 264 = .ok (.if_icmp .ne 8, 3) := by decide +kernel
theorem dX8_rounded_267 : decode cX8_rounded 267 = .ok (.bipush 31, 2) := by decide +kernel
theorem dX8_rounded_269 : decode cX8_rounded 269 = .ok (.goto 5, 3) := by decide +kernel
theorem dX8_rounded_272 : decode cX8_rounded 272 = .ok (.bipush 63, 2) := by decide +kernel
theorem dX8_rounded_274 : decode cX8_rounded 274 = .ok (.lshl, 1) := by decide +kernel
theorem dX8_rounded_275 : decode cX8_rounded 275 = .ok (.lor, 1) := by decide +kernel
theorem dX8_rounded_276 : decode cX8_rounded 276 = .ok (.goto 5, 3) := by decide +kernel
theorem dX8_rounded_279 : decode cX8_rounded 279 = .ok (.lload 17, 2) := by decide +kernel
theorem dX8_rounded_281 : decode cX8_rounded 281 = .ok (.lstore 19, 2) := by decide +kernel
theorem dX8_rounded_283 : decode cX8_rounded 283 = .ok (.iload_n 0, 1) := by decide +kernel
theorem dX8_rounded_284 : decode cX8_rounded 284 = .ok (.bipush 6, 2) := by decide +kernel
theorem dX8_rounded_286 : decode cX8_rounded 286 = .ok (.if_icmp .ne 10, 3) := by decide +kernel
theorem dX8_rounded_289 : decode cX8_rounded 289 = .ok (.lload 19, 2) := by decide +kernel
theorem dX8_rounded_291 : decode cX8_rounded 291 = .ok (.l2i, 1) := by decide +kernel
theorem dX8_rounded_292 : decode cX8_rounded 292 = .ok (.i2l, 1) := by decide +kernel
theorem dX8_rounded_293 : decode cX8_rounded 293 = .ok (.goto 5, 3) := by decide +kernel
theorem dX8_rounded_296 : decode cX8_rounded 296 = .ok (.lload 19, 2) := by decide +kernel
theorem dX8_rounded_298 : decode cX8_rounded 298 = .ok (.lreturn, 1) := by decide +kernel
def fX8_rounded_b281 (v0 : Int32) (s0 : Int64) : Option Int64 := (if v0 = (6 : Int32) then some (Int32.toInt64 (Int64.toInt32 s0)) else some s0)
def fX8_rounded_b274 (v0 : Int32) (s0 : Int32) (s1 : Int64) (s2 : Int64) : Option Int64 := fX8_rounded_b281 v0 (s2 ||| (jlshl s1 s0))
def fX8_rounded_b226 (v0 : Int32) (v4 : Int32) (v6 : Int64) (v13 : Int64) (s0 : Int32) (s1 : Int32) : Option Int64 := (if (0 : Int64) ≤ v6 then fX8_rounded_b281 v0 ((v13 &&& ((jlshl (1 : Int64) (v4 - (1 : Int32))) - (1 : Int64))) ||| (jlshl (Int32.toInt64 (s1 + s0)) (v4 - (1 : Int32)))) else (if v0 = (6 : Int32) then fX8_rounded_b274 v0 (31 : Int32) (1 : Int64) ((v13 &&& ((jlshl (1 : Int64) (v4 - (1 : Int32))) - (1 : Int64))) ||| (jlshl (Int32.toInt64 (s1 + s0)) (v4 - (1 : Int32)))) else fX8_rounded_b274 v0 (63 : Int32) (1 : Int64) ((v13 &&& ((jlshl (1 : Int64) (v4 - (1 : Int32))) - (1 : Int64))) ||| (jlshl (Int32.toInt64 (s1 + s0)) (v4 - (1 : Int32))))))
def fX8_rounded_b203 (v0 : Int32) (v4 : Int32) (v6 : Int64) (v8 : Int32) (v12 : Int32) (s0 : Int64) : Option Int64 := (if v0 = (6 : Int32) then fX8_rounded_b226 v0 v4 v6 s0 (127 : Int32) ((v8 + v12) - (1 : Int32)) else fX8_rounded_b226 v0 v4 v6 s0 (1023 : Int32) ((v8 + v12) - (1 : Int32)))
def fX8_rounded_b170 (v0 : Int32) (v4 : Int32) (v6 : Int64) (v8 : Int32) (v9 : Int64) : Option Int64 := ((fX8_lengthOf v9).bind fun r172 => (if r172 ≤ v4 then fX8_rounded_b203 v0 v4 v6 v8 r172 (jlshl v9 (v4 - r172)) else fX8_rounded_b203 v0 v4 v6 v8 r172 (jlshr v9 (r172 - v4))))
def fX8_rounded_b167 (v0 : Int32) (v4 : Int32) (v6 : Int64) (v8 : Int32) (s0 : Int64) (s1 : Int64) : Option Int64 := fX8_rounded_b170 v0 v4 v6 v8 (s1 + s0)
def fX8_rounded_b162 (v0 : Int32) (v4 : Int32) (v6 : Int64) (v8 : Int32) (s0 : Int64) : Option Int64 := fX8_rounded_b167 v0 v4 v6 v8 (1 : Int64) s0
def fX8_rounded_b166 (v0 : Int32) (v4 : Int32) (v6 : Int64) (v8 : Int32) (s0 : Int64) : Option Int64 := fX8_rounded_b167 v0 v4 v6 v8 (0 : Int64) s0
def fX8_rounded_b83 (v0 : Int32) (v4 : Int32) (v6 : Int64) (v8 : Int32) (s0 : Int64) : Option Int64 := ((fX8_lengthOf s0).bind fun r87 => (if (r87 - v4) ≤ 0 then fX8_rounded_b170 v0 v4 v6 v8 s0 else (if (jlshl (1 : Int64) ((r87 - v4) - (1 : Int32))) < (s0 &&& ((jlshl (1 : Int64) (r87 - v4)) - (1 : Int64))) then fX8_rounded_b162 v0 v4 v6 (v8 + (r87 - v4)) (jlshr s0 (r87 - v4)) else (if (s0 &&& ((jlshl (1 : Int64) (r87 - v4)) - (1 : Int64))) = (jlshl (1 : Int64) ((r87 - v4) - (1 : Int32))) then (if (jlrem (jlshr s0 (r87 - v4)) (2 : Int64)) = (1 : Int64) then fX8_rounded_b162 v0 v4 v6 (v8 + (r87 - v4)) (jlshr s0 (r87 - v4)) else fX8_rounded_b166 v0 v4 v6 (v8 + (r87 - v4)) (jlshr s0 (r87 - v4))) else fX8_rounded_b166 v0 v4 v6 (v8 + (r87 - v4)) (jlshr s0 (r87 - v4))))))
def fX8_rounded_b66 (v0 : Int32) (v4 : Int32) (v6 : Int64) (s0 : Int32) : Option Int64 := (if (0 : Int64) ≤ v6 then fX8_rounded_b83 v0 v4 v6 s0 v6 else fX8_rounded_b83 v0 v4 v6 s0 (-v6))
def fX8_rounded_b52 (v0 : Int32) (v3 : Int32) (v4 : Int32) (v5 : Int32) (s0 : Int64) : Option Int64 := (if v5 = 0 then fX8_rounded_b66 v0 v4 s0 v3 else fX8_rounded_b66 v0 v4 s0 (v3 + (1 : Int32)))
def fX8_rounded_b36 (v0 : Int32) (v1 : Int64) (v3 : Int32) (v4 : Int32) (s0 : Int32) : Option Int64 := (if s0 = 0 then fX8_rounded_b52 v0 v3 v4 s0 v1 else fX8_rounded_b52 v0 v3 v4 s0 (jldiv v1 (2 : Int64)))
def fX8_rounded_b21 (v0 : Int32) (v1 : Int64) (v3 : Int32) (s0 : Int32) : Option Int64 := (if v1 = (-9223372036854775808 : Int64) then fX8_rounded_b36 v0 v1 v3 s0 (1 : Int32) else fX8_rounded_b36 v0 v1 v3 s0 (0 : Int32))
def fX8_rounded (p1 : Int32) (p2 : Int64) (p3 : Int32) : Option Int64 := (if p2 = (0 : Int64) then some (0 : Int64) else (if p1 = (6 : Int32) then fX8_rounded_b21 p1 p2 p3 (24 : Int32) else fX8_rounded_b21 p1 p2 p3 (53 : Int32)))
set_option maxRecDepth 100000 in
set_option maxHeartbeats 4000000 in
theorem kX8_rounded (l : Launch) (p1 : Int32) (p2 : Int64) (p3 : Int32) (out : Int64) (hf : fX8_rounded p1 p2 p3 = some out) : Sq l yX8_rounded cX8_rounded 21 (some .long) 1 [.int p1, .long p2, .int p3] (some (.long out)) := by
  refine Sq.of [(0, .int p1), (1, .long p2), (3, .int p3)] rfl (by decide) (Nat.le_of_ble_eq_true rfl) ?_
  intro κ hκ C hQ
  subst hκ
  replace C : Cf κ cX8_rounded 21 RX8 (some .long) 1 := C
  have b281 : ∀ (v0 : Int32) (s0 : Int64) , fX8_rounded_b281 v0 s0 = some out → G κ (Vp κ) 21 281 [(0, .int v0)] [.long s0] := by
    intro v0 s0 hf
    refine g_lstore (pc := 281) (i := 19) (L' := [(19, .long s0), (0, .int v0)]) C dX8_rounded_281 (by decide) rfl ?_
    refine g_iload_n (pc := 283) (i := 0) (j := 1) C dX8_rounded_283 rfl rfl ?_
    refine g_bipush (pc := 284) C dX8_rounded_284 cb_6 ?_
    refine g_icmp_ne (pc := 286) (tgt := 296) C dX8_rounded_286 rfl hf (fun _ hf => ?_) (fun _ hf => ?_)
    · refine g_lload (pc := 296) (i := 19) (j := 0) C dX8_rounded_296 rfl ?_
      exact g_lretp (pc := 298) C hQ dX8_rounded_298 hf
    · refine g_lload (pc := 289) (i := 19) (j := 0) C dX8_rounded_289 rfl ?_
      refine g_l2i (pc := 291) C dX8_rounded_291 ?_
      refine g_i2l (pc := 292) C dX8_rounded_292 ?_
      refine g_goto (pc := 293) (tgt := 298) C dX8_rounded_293 rfl ?_
      exact g_lretp (pc := 298) C hQ dX8_rounded_298 hf
  have b274 : ∀ (v0 : Int32) (s0 : Int32) (s1 : Int64) (s2 : Int64) , fX8_rounded_b274 v0 s0 s1 s2 = some out → G κ (Vp κ) 21 274 [(0, .int v0)] [.int s0, .long s1, .long s2] := by
    intro v0 s0 s1 s2 hf
    refine g_lshl (pc := 274) C dX8_rounded_274 ?_
    refine g_lor (pc := 275) C dX8_rounded_275 ?_
    refine g_goto (pc := 276) (tgt := 281) C dX8_rounded_276 rfl ?_
    exact b281 v0 (s2 ||| (jlshl s1 s0)) hf
  have b226 : ∀ (v0 : Int32) (v4 : Int32) (v6 : Int64) (v13 : Int64) (s0 : Int32) (s1 : Int32) , fX8_rounded_b226 v0 v4 v6 v13 s0 s1 = some out → G κ (Vp κ) 21 226 [(0, .int v0), (4, .int v4), (6, .long v6), (13, .long v13)] [.int s0, .int s1] := by
    intro v0 v4 v6 v13 s0 s1 hf
    refine g_iadd (pc := 226) C dX8_rounded_226 ?_
    refine g_i2l (pc := 227) C dX8_rounded_227 ?_
    refine g_lstore (pc := 228) (i := 15) (L' := [(15, .long (Int32.toInt64 (s1 + s0))), (0, .int v0), (4, .int v4), (6, .long v6), (13, .long v13)]) C dX8_rounded_228 (by decide) rfl ?_
    refine g_lload (pc := 230) (i := 13) (j := 4) C dX8_rounded_230 rfl ?_
    refine g_lconst (pc := 232) C dX8_rounded_232 cl_1 ?_
    refine g_iload (pc := 233) (i := 4) (j := 2) C dX8_rounded_233 rfl ?_
    refine g_iconst (pc := 235) C dX8_rounded_235 ci_1 ?_
    refine g_isub (pc := 236) C dX8_rounded_236 ?_
    refine g_lshl (pc := 237) C dX8_rounded_237 ?_
    refine g_lconst (pc := 238) C dX8_rounded_238 cl_1 ?_
    refine g_lsub (pc := 239) C dX8_rounded_239 ?_
    refine g_land (pc := 240) C dX8_rounded_240 ?_
    refine g_lload (pc := 241) (i := 15) (j := 0) C dX8_rounded_241 rfl ?_
    refine g_iload (pc := 243) (i := 4) (j := 2) C dX8_rounded_243 rfl ?_
    refine g_iconst (pc := 245) C dX8_rounded_245 ci_1 ?_
    refine g_isub (pc := 246) C dX8_rounded_246 ?_
    refine g_lshl (pc := 247) C dX8_rounded_247 ?_
    refine g_lor (pc := 248) C dX8_rounded_248 ?_
    refine g_lstore (pc := 249) (i := 17) (L' := [(17, .long ((v13 &&& ((jlshl (1 : Int64) (v4 - (1 : Int32))) - (1 : Int64))) ||| (jlshl (Int32.toInt64 (s1 + s0)) (v4 - (1 : Int32))))), (15, .long (Int32.toInt64 (s1 + s0))), (0, .int v0), (4, .int v4), (6, .long v6), (13, .long v13)]) C dX8_rounded_249 (by decide) rfl ?_
    refine g_lload (pc := 251) (i := 6) (j := 4) C dX8_rounded_251 rfl ?_
    refine g_lconst (pc := 253) C dX8_rounded_253 cl_0 ?_
    refine g_lcmp_ge (pc := 254) (tgt := 279) C dX8_rounded_254 dX8_rounded_255 rfl hf (fun _ hf => ?_) (fun _ hf => ?_)
    · refine g_lload (pc := 279) (i := 17) (j := 0) C dX8_rounded_279 rfl ?_
      exact g_at [2] rfl (b281 v0 ((v13 &&& ((jlshl (1 : Int64) (v4 - (1 : Int32))) - (1 : Int64))) ||| (jlshl (Int32.toInt64 (s1 + s0)) (v4 - (1 : Int32)))) hf)
    · refine g_lload (pc := 258) (i := 17) (j := 0) C dX8_rounded_258 rfl ?_
      refine g_lconst (pc := 260) C dX8_rounded_260 cl_1 ?_
      refine g_iload_n (pc := 261) (i := 0) (j := 2) C dX8_rounded_261 rfl rfl ?_
      refine g_bipush (pc := 262) C dX8_rounded_262 cb_6 ?_
      refine g_icmp_ne (pc := 264) (tgt := 272) C dX8_rounded_264 rfl hf (fun _ hf => ?_) (fun _ hf => ?_)
      · refine g_bipush (pc := 272) C dX8_rounded_272 cb_63 ?_
        exact g_at [2] rfl (b274 v0 (63 : Int32) (1 : Int64) ((v13 &&& ((jlshl (1 : Int64) (v4 - (1 : Int32))) - (1 : Int64))) ||| (jlshl (Int32.toInt64 (s1 + s0)) (v4 - (1 : Int32)))) hf)
      · refine g_bipush (pc := 267) C dX8_rounded_267 cb_31 ?_
        refine g_goto (pc := 269) (tgt := 274) C dX8_rounded_269 rfl ?_
        exact g_at [2] rfl (b274 v0 (31 : Int32) (1 : Int64) ((v13 &&& ((jlshl (1 : Int64) (v4 - (1 : Int32))) - (1 : Int64))) ||| (jlshl (Int32.toInt64 (s1 + s0)) (v4 - (1 : Int32)))) hf)
  have b203 : ∀ (v0 : Int32) (v4 : Int32) (v6 : Int64) (v8 : Int32) (v12 : Int32) (s0 : Int64) , fX8_rounded_b203 v0 v4 v6 v8 v12 s0 = some out → G κ (Vp κ) 21 203 [(0, .int v0), (4, .int v4), (6, .long v6), (8, .int v8), (12, .int v12)] [.long s0] := by
    intro v0 v4 v6 v8 v12 s0 hf
    refine g_lstore (pc := 203) (i := 13) (L' := [(13, .long s0), (0, .int v0), (4, .int v4), (6, .long v6), (8, .int v8), (12, .int v12)]) C dX8_rounded_203 (by decide) rfl ?_
    refine g_iload (pc := 205) (i := 8) (j := 4) C dX8_rounded_205 rfl ?_
    refine g_iload (pc := 207) (i := 12) (j := 5) C dX8_rounded_207 rfl ?_
    refine g_iadd (pc := 209) C dX8_rounded_209 ?_
    refine g_iconst (pc := 210) C dX8_rounded_210 ci_1 ?_
    refine g_isub (pc := 211) C dX8_rounded_211 ?_
    refine g_iload_n (pc := 212) (i := 0) (j := 1) C dX8_rounded_212 rfl rfl ?_
    refine g_bipush (pc := 213) C dX8_rounded_213 cb_6 ?_
    refine g_icmp_ne (pc := 215) (tgt := 223) C dX8_rounded_215 rfl hf (fun _ hf => ?_) (fun _ hf => ?_)
    · refine g_sipush (pc := 223) C dX8_rounded_223 cs_1023 ?_
      exact g_at [1, 2, 3, 0] rfl (b226 v0 v4 v6 s0 (1023 : Int32) ((v8 + v12) - (1 : Int32)) hf)
    · refine g_bipush (pc := 218) C dX8_rounded_218 cb_127 ?_
      refine g_goto (pc := 220) (tgt := 226) C dX8_rounded_220 rfl ?_
      exact g_at [1, 2, 3, 0] rfl (b226 v0 v4 v6 s0 (127 : Int32) ((v8 + v12) - (1 : Int32)) hf)
  have b170 : ∀ (v0 : Int32) (v4 : Int32) (v6 : Int64) (v8 : Int32) (v9 : Int64) , fX8_rounded_b170 v0 v4 v6 v8 v9 = some out → G κ (Vp κ) 21 170 [(0, .int v0), (4, .int v4), (6, .long v6), (8, .int v8), (9, .long v9)] [] := by
    intro v0 v4 v6 v8 v9 hf
    refine g_lload (pc := 170) (i := 9) (j := 4) C dX8_rounded_170 rfl ?_
    refine g_cpi (pc := 172) (st := []) C lkX8_114 (As := [.long v9]) rfl (fun out h => kX8_lengthOf (kl κ) v9 out h) (by decide) rfl (Nat.le_of_ble_eq_true rfl) dX8_rounded_172 hf (fun r172 _ hf => ?_)
    refine g_istore (pc := 175) (i := 12) (L' := [(12, .int r172), (0, .int v0), (4, .int v4), (6, .long v6), (8, .int v8), (9, .long v9)]) C dX8_rounded_175 (by decide) rfl ?_
    refine g_iload (pc := 177) (i := 12) (j := 0) C dX8_rounded_177 rfl ?_
    refine g_iload (pc := 179) (i := 4) (j := 2) C dX8_rounded_179 rfl ?_
    refine g_icmp_le (pc := 181) (tgt := 195) C dX8_rounded_181 rfl hf (fun _ hf => ?_) (fun _ hf => ?_)
    · refine g_lload (pc := 195) (i := 9) (j := 5) C dX8_rounded_195 rfl ?_
      refine g_iload (pc := 197) (i := 4) (j := 2) C dX8_rounded_197 rfl ?_
      refine g_iload (pc := 199) (i := 12) (j := 0) C dX8_rounded_199 rfl ?_
      refine g_isub (pc := 201) C dX8_rounded_201 ?_
      refine g_lshl (pc := 202) C dX8_rounded_202 ?_
      exact g_at [1, 2, 3, 4, 0] rfl (b203 v0 v4 v6 v8 r172 (jlshl v9 (v4 - r172)) hf)
    · refine g_lload (pc := 184) (i := 9) (j := 5) C dX8_rounded_184 rfl ?_
      refine g_iload (pc := 186) (i := 12) (j := 0) C dX8_rounded_186 rfl ?_
      refine g_iload (pc := 188) (i := 4) (j := 2) C dX8_rounded_188 rfl ?_
      refine g_isub (pc := 190) C dX8_rounded_190 ?_
      refine g_lshr (pc := 191) C dX8_rounded_191 ?_
      refine g_goto (pc := 192) (tgt := 203) C dX8_rounded_192 rfl ?_
      exact g_at [1, 2, 3, 4, 0] rfl (b203 v0 v4 v6 v8 r172 (jlshr v9 (r172 - v4)) hf)
  have b167 : ∀ (v0 : Int32) (v4 : Int32) (v6 : Int64) (v8 : Int32) (s0 : Int64) (s1 : Int64) , fX8_rounded_b167 v0 v4 v6 v8 s0 s1 = some out → G κ (Vp κ) 21 167 [(0, .int v0), (4, .int v4), (6, .long v6), (8, .int v8)] [.long s0, .long s1] := by
    intro v0 v4 v6 v8 s0 s1 hf
    refine g_ladd (pc := 167) C dX8_rounded_167 ?_
    refine g_lstore (pc := 168) (i := 9) (L' := [(9, .long (s1 + s0)), (0, .int v0), (4, .int v4), (6, .long v6), (8, .int v8)]) C dX8_rounded_168 (by decide) rfl ?_
    exact g_at [1, 2, 3, 4, 0] rfl (b170 v0 v4 v6 v8 (s1 + s0) hf)
  have b162 : ∀ (v0 : Int32) (v4 : Int32) (v6 : Int64) (v8 : Int32) (s0 : Int64) , fX8_rounded_b162 v0 v4 v6 v8 s0 = some out → G κ (Vp κ) 21 162 [(0, .int v0), (4, .int v4), (6, .long v6), (8, .int v8)] [.long s0] := by
    intro v0 v4 v6 v8 s0 hf
    refine g_lconst (pc := 162) C dX8_rounded_162 cl_1 ?_
    refine g_goto (pc := 163) (tgt := 167) C dX8_rounded_163 rfl ?_
    exact b167 v0 v4 v6 v8 (1 : Int64) s0 hf
  have b166 : ∀ (v0 : Int32) (v4 : Int32) (v6 : Int64) (v8 : Int32) (s0 : Int64) , fX8_rounded_b166 v0 v4 v6 v8 s0 = some out → G κ (Vp κ) 21 166 [(0, .int v0), (4, .int v4), (6, .long v6), (8, .int v8)] [.long s0] := by
    intro v0 v4 v6 v8 s0 hf
    refine g_lconst (pc := 166) C dX8_rounded_166 cl_0 ?_
    exact b167 v0 v4 v6 v8 (0 : Int64) s0 hf
  have b83 : ∀ (v0 : Int32) (v4 : Int32) (v6 : Int64) (v8 : Int32) (s0 : Int64) , fX8_rounded_b83 v0 v4 v6 v8 s0 = some out → G κ (Vp κ) 21 83 [(0, .int v0), (4, .int v4), (6, .long v6), (8, .int v8)] [.long s0] := by
    intro v0 v4 v6 v8 s0 hf
    refine g_lstore (pc := 83) (i := 9) (L' := [(9, .long s0), (0, .int v0), (4, .int v4), (6, .long v6), (8, .int v8)]) C dX8_rounded_83 (by decide) rfl ?_
    refine g_lload (pc := 85) (i := 9) (j := 0) C dX8_rounded_85 rfl ?_
    refine g_cpi (pc := 87) (st := []) C lkX8_114 (As := [.long s0]) rfl (fun out h => kX8_lengthOf (kl κ) s0 out h) (by decide) rfl (Nat.le_of_ble_eq_true rfl) dX8_rounded_87 hf (fun r87 _ hf => ?_)
    refine g_iload (pc := 90) (i := 4) (j := 2) C dX8_rounded_90 rfl ?_
    refine g_isub (pc := 92) C dX8_rounded_92 ?_
    refine g_istore (pc := 93) (i := 11) (L' := [(11, .int (r87 - v4)), (9, .long s0), (0, .int v0), (4, .int v4), (6, .long v6), (8, .int v8)]) C dX8_rounded_93 (by decide) rfl ?_
    refine g_iload (pc := 95) (i := 11) (j := 0) C dX8_rounded_95 rfl ?_
    refine g_if_le (pc := 97) (tgt := 170) C dX8_rounded_97 rfl hf (fun _ hf => ?_) (fun _ hf => ?_)
    · exact g_at [2, 3, 4, 5, 1] rfl (b170 v0 v4 v6 v8 s0 hf)
    · refine g_lload (pc := 100) (i := 9) (j := 1) C dX8_rounded_100 rfl ?_
      refine g_lconst (pc := 102) C dX8_rounded_102 cl_1 ?_
      refine g_iload (pc := 103) (i := 11) (j := 0) C dX8_rounded_103 rfl ?_
      refine g_lshl (pc := 105) C dX8_rounded_105 ?_
      refine g_lconst (pc := 106) C dX8_rounded_106 cl_1 ?_
      refine g_lsub (pc := 107) C dX8_rounded_107 ?_
      refine g_land (pc := 108) C dX8_rounded_108 ?_
      refine g_lstore (pc := 109) (i := 12) (L' := [(12, .long (s0 &&& ((jlshl (1 : Int64) (r87 - v4)) - (1 : Int64)))), (11, .int (r87 - v4)), (9, .long s0), (0, .int v0), (4, .int v4), (6, .long v6), (8, .int v8)]) C dX8_rounded_109 (by decide) rfl ?_
      refine g_lconst (pc := 111) C dX8_rounded_111 cl_1 ?_
      refine g_iload (pc := 112) (i := 11) (j := 1) C dX8_rounded_112 rfl ?_
      refine g_iconst (pc := 114) C dX8_rounded_114 ci_1 ?_
      refine g_isub (pc := 115) C dX8_rounded_115 ?_
      refine g_lshl (pc := 116) C dX8_rounded_116 ?_
      refine g_lstore (pc := 117) (i := 14) (L' := [(14, .long (jlshl (1 : Int64) ((r87 - v4) - (1 : Int32)))), (12, .long (s0 &&& ((jlshl (1 : Int64) (r87 - v4)) - (1 : Int64)))), (11, .int (r87 - v4)), (9, .long s0), (0, .int v0), (4, .int v4), (6, .long v6), (8, .int v8)]) C dX8_rounded_117 (by decide) rfl ?_
      refine g_lload (pc := 119) (i := 9) (j := 3) C dX8_rounded_119 rfl ?_
      refine g_iload (pc := 121) (i := 11) (j := 2) C dX8_rounded_121 rfl ?_
      refine g_lshr (pc := 123) C dX8_rounded_123 ?_
      refine g_lstore (pc := 124) (i := 9) (L' := [(9, .long (jlshr s0 (r87 - v4))), (14, .long (jlshl (1 : Int64) ((r87 - v4) - (1 : Int32)))), (12, .long (s0 &&& ((jlshl (1 : Int64) (r87 - v4)) - (1 : Int64)))), (11, .int (r87 - v4)), (0, .int v0), (4, .int v4), (6, .long v6), (8, .int v8)]) C dX8_rounded_124 (by decide) rfl ?_
      refine g_iload (pc := 126) (i := 8) (j := 7) C dX8_rounded_126 rfl ?_
      refine g_iload (pc := 128) (i := 11) (j := 3) C dX8_rounded_128 rfl ?_
      refine g_iadd (pc := 130) C dX8_rounded_130 ?_
      refine g_istore (pc := 131) (i := 8) (L' := [(8, .int (v8 + (r87 - v4))), (9, .long (jlshr s0 (r87 - v4))), (14, .long (jlshl (1 : Int64) ((r87 - v4) - (1 : Int32)))), (12, .long (s0 &&& ((jlshl (1 : Int64) (r87 - v4)) - (1 : Int64)))), (11, .int (r87 - v4)), (0, .int v0), (4, .int v4), (6, .long v6)]) C dX8_rounded_131 (by decide) rfl ?_
      refine g_lload (pc := 133) (i := 9) (j := 1) C dX8_rounded_133 rfl ?_
      refine g_lload (pc := 135) (i := 12) (j := 3) C dX8_rounded_135 rfl ?_
      refine g_lload (pc := 137) (i := 14) (j := 2) C dX8_rounded_137 rfl ?_
      refine g_lcmp_gt (pc := 139) (tgt := 162) C dX8_rounded_139 dX8_rounded_140 rfl hf (fun _ hf => ?_) (fun _ hf => ?_)
      · exact g_at [5, 6, 7, 0] rfl (b162 v0 v4 v6 (v8 + (r87 - v4)) (jlshr s0 (r87 - v4)) hf)
      · refine g_lload (pc := 143) (i := 12) (j := 3) C dX8_rounded_143 rfl ?_
        refine g_lload (pc := 145) (i := 14) (j := 2) C dX8_rounded_145 rfl ?_
        refine g_lcmp_ne (pc := 147) (tgt := 166) C dX8_rounded_147 dX8_rounded_148 rfl hf (fun _ hf => ?_) (fun _ hf => ?_)
        · exact g_at [5, 6, 7, 0] rfl (b166 v0 v4 v6 (v8 + (r87 - v4)) (jlshr s0 (r87 - v4)) hf)
        · refine g_lload (pc := 151) (i := 9) (j := 1) C dX8_rounded_151 rfl ?_
          refine g_ldc2 (pc := 153) C cnX8_110 dX8_rounded_153 ?_
          refine g_lrem (pc := 156) C dX8_rounded_156 (by decide) ?_
          refine g_lconst (pc := 157) C dX8_rounded_157 cl_1 ?_
          refine g_lcmp_ne (pc := 158) (tgt := 166) C dX8_rounded_158 dX8_rounded_159 rfl hf (fun _ hf => ?_) (fun _ hf => ?_)
          · exact g_at [5, 6, 7, 0] rfl (b166 v0 v4 v6 (v8 + (r87 - v4)) (jlshr s0 (r87 - v4)) hf)
          · exact g_at [5, 6, 7, 0] rfl (b162 v0 v4 v6 (v8 + (r87 - v4)) (jlshr s0 (r87 - v4)) hf)
  have b66 : ∀ (v0 : Int32) (v4 : Int32) (v6 : Int64) (s0 : Int32) , fX8_rounded_b66 v0 v4 v6 s0 = some out → G κ (Vp κ) 21 66 [(0, .int v0), (4, .int v4), (6, .long v6)] [.int s0] := by
    intro v0 v4 v6 s0 hf
    refine g_istore (pc := 66) (i := 8) (L' := [(8, .int s0), (0, .int v0), (4, .int v4), (6, .long v6)]) C dX8_rounded_66 (by decide) rfl ?_
    refine g_lload (pc := 68) (i := 6) (j := 3) C dX8_rounded_68 rfl ?_
    refine g_lconst (pc := 70) C dX8_rounded_70 cl_0 ?_
    refine g_lcmp_ge (pc := 71) (tgt := 81) C dX8_rounded_71 dX8_rounded_72 rfl hf (fun _ hf => ?_) (fun _ hf => ?_)
    · refine g_lload (pc := 81) (i := 6) (j := 3) C dX8_rounded_81 rfl ?_
      exact g_at [1, 2, 3, 0] rfl (b83 v0 v4 v6 s0 v6 hf)
    · refine g_lload (pc := 75) (i := 6) (j := 3) C dX8_rounded_75 rfl ?_
      refine g_lneg (pc := 77) C dX8_rounded_77 ?_
      refine g_goto (pc := 78) (tgt := 83) C dX8_rounded_78 rfl ?_
      exact g_at [1, 2, 3, 0] rfl (b83 v0 v4 v6 s0 (-v6) hf)
  have b52 : ∀ (v0 : Int32) (v3 : Int32) (v4 : Int32) (v5 : Int32) (s0 : Int64) , fX8_rounded_b52 v0 v3 v4 v5 s0 = some out → G κ (Vp κ) 21 52 [(0, .int v0), (3, .int v3), (4, .int v4), (5, .int v5)] [.long s0] := by
    intro v0 v3 v4 v5 s0 hf
    refine g_lstore (pc := 52) (i := 6) (L' := [(6, .long s0), (0, .int v0), (3, .int v3), (4, .int v4), (5, .int v5)]) C dX8_rounded_52 (by decide) rfl ?_
    refine g_iload (pc := 54) (i := 5) (j := 4) C dX8_rounded_54 rfl ?_
    refine g_if_eq (pc := 56) (tgt := 65) C dX8_rounded_56 rfl hf (fun _ hf => ?_) (fun _ hf => ?_)
    · refine g_iload_n (pc := 65) (i := 3) (j := 2) C dX8_rounded_65 rfl rfl ?_
      exact g_at [1, 3, 0] rfl (b66 v0 v4 s0 v3 hf)
    · refine g_iload_n (pc := 59) (i := 3) (j := 2) C dX8_rounded_59 rfl rfl ?_
      refine g_iconst (pc := 60) C dX8_rounded_60 ci_1 ?_
      refine g_iadd (pc := 61) C dX8_rounded_61 ?_
      refine g_goto (pc := 62) (tgt := 66) C dX8_rounded_62 rfl ?_
      exact g_at [1, 3, 0] rfl (b66 v0 v4 s0 (v3 + (1 : Int32)) hf)
  have b36 : ∀ (v0 : Int32) (v1 : Int64) (v3 : Int32) (v4 : Int32) (s0 : Int32) , fX8_rounded_b36 v0 v1 v3 v4 s0 = some out → G κ (Vp κ) 21 36 [(0, .int v0), (1, .long v1), (3, .int v3), (4, .int v4)] [.int s0] := by
    intro v0 v1 v3 v4 s0 hf
    refine g_istore (pc := 36) (i := 5) (L' := [(5, .int s0), (0, .int v0), (1, .long v1), (3, .int v3), (4, .int v4)]) C dX8_rounded_36 (by decide) rfl ?_
    refine g_iload (pc := 38) (i := 5) (j := 0) C dX8_rounded_38 rfl ?_
    refine g_if_eq (pc := 40) (tgt := 51) C dX8_rounded_40 rfl hf (fun _ hf => ?_) (fun _ hf => ?_)
    · refine g_lload_n (pc := 51) (i := 1) (j := 2) C dX8_rounded_51 rfl rfl ?_
      exact g_at [1, 3, 4, 0] rfl (b52 v0 v3 v4 s0 v1 hf)
    · refine g_lload_n (pc := 43) (i := 1) (j := 2) C dX8_rounded_43 rfl rfl ?_
      refine g_ldc2 (pc := 44) C cnX8_110 dX8_rounded_44 ?_
      refine g_ldiv (pc := 47) C dX8_rounded_47 (by decide) ?_
      refine g_goto (pc := 48) (tgt := 52) C dX8_rounded_48 rfl ?_
      exact g_at [1, 3, 4, 0] rfl (b52 v0 v3 v4 s0 (jldiv v1 (2 : Int64)) hf)
  have b21 : ∀ (v0 : Int32) (v1 : Int64) (v3 : Int32) (s0 : Int32) , fX8_rounded_b21 v0 v1 v3 s0 = some out → G κ (Vp κ) 21 21 [(0, .int v0), (1, .long v1), (3, .int v3)] [.int s0] := by
    intro v0 v1 v3 s0 hf
    refine g_istore (pc := 21) (i := 4) (L' := [(4, .int s0), (0, .int v0), (1, .long v1), (3, .int v3)]) C dX8_rounded_21 (by decide) rfl ?_
    refine g_lload_n (pc := 23) (i := 1) (j := 2) C dX8_rounded_23 rfl rfl ?_
    refine g_ldc2 (pc := 24) C cnX8_112 dX8_rounded_24 ?_
    refine g_lcmp_ne (pc := 27) (tgt := 35) C dX8_rounded_27 dX8_rounded_28 rfl hf (fun _ hf => ?_) (fun _ hf => ?_)
    · refine g_iconst (pc := 35) C dX8_rounded_35 ci_0 ?_
      exact g_at [1, 2, 3, 0] rfl (b36 v0 v1 v3 s0 (0 : Int32) hf)
    · refine g_iconst (pc := 31) C dX8_rounded_31 ci_1 ?_
      refine g_goto (pc := 32) (tgt := 36) C dX8_rounded_32 rfl ?_
      exact g_at [1, 2, 3, 0] rfl (b36 v0 v1 v3 s0 (1 : Int32) hf)
  refine g_lload_n (pc := 0) (i := 1) (j := 1) C dX8_rounded_0 rfl rfl ?_
  refine g_lconst (pc := 1) C dX8_rounded_1 cl_0 ?_
  refine g_lcmp_ne (pc := 2) (tgt := 8) C dX8_rounded_2 dX8_rounded_3 rfl hf (fun _ hf => ?_) (fun _ hf => ?_)
  · refine g_iload_n (pc := 8) (i := 0) (j := 0) C dX8_rounded_8 rfl rfl ?_
    refine g_bipush (pc := 9) C dX8_rounded_9 cb_6 ?_
    refine g_icmp_ne (pc := 11) (tgt := 19) C dX8_rounded_11 rfl hf (fun _ hf => ?_) (fun _ hf => ?_)
    · refine g_bipush (pc := 19) C dX8_rounded_19 cb_53 ?_
      exact b21 p1 p2 p3 (53 : Int32) hf
    · refine g_bipush (pc := 14) C dX8_rounded_14 cb_24 ?_
      refine g_goto (pc := 16) (tgt := 21) C dX8_rounded_16 rfl ?_
      exact b21 p1 p2 p3 (24 : Int32) hf
  · refine g_lconst (pc := 6) C dX8_rounded_6 cl_0 ?_
    exact g_lretp (pc := 7) C hQ dX8_rounded_7 hf
theorem dX8_in_0 : decode cX8_in 0 = .ok (.lload_n 0, 1) := by decide +kernel
theorem dX8_in_1 : decode cX8_in 1 = .ok (.lload_n 2, 1) := by decide +kernel
theorem dX8_in_2 : decode cX8_in 2 = .ok (.lcmp, 1) := by decide +kernel
theorem dX8_in_3 : decode cX8_in 3 = .ok (.ifCond .lt 14, 3) := by decide +kernel
theorem dX8_in_6 : decode cX8_in 6 = .ok (.lload_n 0, 1) := by decide +kernel
theorem dX8_in_7 : decode cX8_in 7 = .ok (.lload 4, 2) := by decide +kernel
theorem dX8_in_9 : decode cX8_in 9 = .ok (.lcmp, 1) := by decide +kernel
theorem dX8_in_10 : decode cX8_in 10 = .ok (.ifCond .gt 7, 3) := by decide +kernel
theorem dX8_in_13 : decode cX8_in 13 = .ok (.iconst 1, 1) := by decide +kernel
theorem dX8_in_14 : decode cX8_in 14 = .ok (.goto 4, 3) := by decide +kernel
theorem dX8_in_17 : decode cX8_in 17 = .ok (.iconst 0, 1) := by decide +kernel
theorem dX8_in_18 : decode cX8_in 18 = .ok (.ireturn, 1) := by decide +kernel
def fX8_in (p1 : Int64) (p2 : Int64) (p3 : Int64) : Option Int32 := (if p1 < p2 then some (0 : Int32) else (if p3 < p1 then some (0 : Int32) else some (1 : Int32)))
set_option maxRecDepth 100000 in
set_option maxHeartbeats 4000000 in
theorem kX8_in (l : Launch) (p1 : Int64) (p2 : Int64) (p3 : Int64) (out : Int32) (hf : fX8_in p1 p2 p3 = some out) : Sq l yX8_in cX8_in 6 (some .boolean) 0 [.long p1, .long p2, .long p3] (some (.int out)) := by
  refine Sq.of [(0, .long p1), (2, .long p2), (4, .long p3)] rfl (by decide) (Nat.le_of_ble_eq_true rfl) ?_
  intro κ hκ C hQ
  subst hκ
  replace C : Cf κ cX8_in 6 RX8 (some .boolean) 0 := C
  refine g_lload_n (pc := 0) (i := 0) (j := 0) C dX8_in_0 rfl rfl ?_
  refine g_lload_n (pc := 1) (i := 2) (j := 1) C dX8_in_1 rfl rfl ?_
  refine g_lcmp_lt (pc := 2) (tgt := 17) C dX8_in_2 dX8_in_3 rfl hf (fun _ hf => ?_) (fun _ hf => ?_)
  · refine g_iconst (pc := 17) C dX8_in_17 ci_0 ?_
    exact g_zret1p (pc := 18) C rfl hQ dX8_in_18 hf
  · refine g_lload_n (pc := 6) (i := 0) (j := 0) C dX8_in_6 rfl rfl ?_
    refine g_lload (pc := 7) (i := 4) (j := 2) C dX8_in_7 rfl ?_
    refine g_lcmp_gt (pc := 9) (tgt := 17) C dX8_in_9 dX8_in_10 rfl hf (fun _ hf => ?_) (fun _ hf => ?_)
    · refine g_iconst (pc := 17) C dX8_in_17 ci_0 ?_
      exact g_zret1p (pc := 18) C rfl hQ dX8_in_18 hf
    · refine g_iconst (pc := 13) C dX8_in_13 ci_1 ?_
      refine g_goto (pc := 14) (tgt := 18) C dX8_in_14 rfl ?_
      exact g_zret1p (pc := 18) C rfl hQ dX8_in_18 hf
end
section
theorem dX8_isHeld_0 : decode cX8_isHeld 0 = .ok (.iconst 0, 1) := by decide +kernel
theorem dX8_isHeld_1 : decode cX8_isHeld 1 = .ok (.istore_n 2, 1) := by decide +kernel
theorem dX8_isHeld_2 : decode cX8_isHeld 2 = .ok (.iconst 0, 1) := by decide +kernel
theorem dX8_isHeld_3 : decode cX8_isHeld 3 = .ok (.istore_n 3, 1) := by decide +kernel
theorem dX8_isHeld_4 : decode cX8_isHeld 4 = .ok (.iload_n 3, 1) := by decide +kernel
theorem dX8_isHeld_5 : decode cX8_isHeld 5 = .ok (.bipush 10, 2) := by decide +kernel
theorem dX8_isHeld_7 : decode cX8_isHeld 7 = .ok (.if_icmp .ge 29, 3) := by decide +kernel
theorem dX8_isHeld_10 : decode cX8_isHeld 10 = .ok (.iload_n 2, 1) := by decide +kernel
theorem dX8_isHeld_11 : decode cX8_isHeld 11 = .ok (.ifCond .ne 13, 3) := by decide +kernel
theorem dX8_isHeld_14 : decode cX8_isHeld 14 = .ok (.aload_n 0, 1) := by decide +kernel
theorem dX8_isHeld_15 : decode cX8_isHeld 15 = .ok (.getfield 16, 3) := by decide +kernel
theorem dX8_isHeld_18 : decode cX8_isHeld 18 = .ok (.iload_n 3, 1) := by decide +kernel
theorem dX8_isHeld_19 : decode cX8_isHeld 19 = .ok (.iaload, 1) := by decide +kernel
theorem dX8_isHeld_20 : decode cX8_isHeld 20 = .ok (.iload_n 1, 1) := by decide +kernel
theorem dX8_isHeld_21 : decode cX8_isHeld 21 = .ok (.if_icmp .ne 7, 3) := by decide +kernel
theorem dX8_isHeld_24 : decode cX8_isHeld 24 = .ok (.iconst 1, 1) := by decide +kernel
theorem dX8_isHeld_25 : decode cX8_isHeld 25 = .ok (.goto 4, 3) := by decide +kernel
theorem dX8_isHeld_28 : decode cX8_isHeld 28 = .ok (.iconst 0, 1) := by decide +kernel
theorem dX8_isHeld_29 : decode cX8_isHeld 29 = .ok (.istore_n 2, 1) := by decide +kernel
theorem dX8_isHeld_30 : decode cX8_isHeld 30 = .ok (.iinc 3 1, 3) := by decide +kernel
theorem dX8_isHeld_33 : decode cX8_isHeld 33 = .ok (.goto (-29), 3) := by decide +kernel
theorem dX8_isHeld_36 : decode cX8_isHeld 36 = .ok (.iload_n 2, 1) := by decide +kernel
theorem dX8_isHeld_37 : decode cX8_isHeld 37 = .ok (.ireturn, 1) := by decide +kernel
def fX8_isHeld_b29 (k4 : Int32 → Int32 → Int32 → Mm → Option Int32) (v1 : Int32) (v3 : Int32) (s0 : Int32) (μ : Mm) : Option Int32 := k4 v1 s0 (v3 + (1 : Int32)) μ
def fX8_isHeld_b24 (k4 : Int32 → Int32 → Int32 → Mm → Option Int32) (v1 : Int32) (v3 : Int32) (μ : Mm) : Option Int32 := fX8_isHeld_b29 k4 v1 v3 (1 : Int32) μ
def fX8_isHeld_b4 : Nat → Int32 → Int32 → Int32 → Mm → Option Int32
  | 0, _, _, _, _ => none
  | n + 1, v1, v2, v3, μ => (if (10 : Int32) ≤ v3 then (if rbz v2 = true then some v2 else none) else (if v2 = 0 then (if inb v3 10 = true then (if (μ.1 3 (Int32.toNatClampNeg v3)) = v1 then fX8_isHeld_b24 (fX8_isHeld_b4 n) v1 v3 μ else fX8_isHeld_b29 (fX8_isHeld_b4 n) v1 v3 (0 : Int32) μ) else none) else fX8_isHeld_b24 (fX8_isHeld_b4 n) v1 v3 μ))
def fX8_isHeld (p1 : Int32) (μ : Mm) : Option Int32 := fX8_isHeld_b4 100 p1 (0 : Int32) (0 : Int32) μ
set_option maxRecDepth 100000 in
set_option maxHeartbeats 4000000 in
theorem kX8_isHeld (l : Launch) (ε : Ev) (p1 : Int32) (μ : Mm) (out : Int32) (hf : fX8_isHeld p1 μ = some out) : Sp l ε layM yX8_isHeld cX8_isHeld 4 (some .boolean) 0 [.ref (ea ε 0), .int p1] (some (.int out)) μ μ := by
  refine Sp.of [(0, .ref (ea ε 0)), (1, .int p1)] rfl (by decide) (Nat.le_of_ble_eq_true rfl) ?_
  intro κ hκ C E hQ
  subst hκ
  replace C : Cf κ cX8_isHeld 4 RX8 (some .boolean) 0 := C
  have b29 : ∀ (k4 : Int32 → Int32 → Int32 → Mm → Option Int32) (hk4 : ∀ (v1 : Int32) (v2 : Int32) (v3 : Int32) (μ : Mm) , k4 v1 v2 v3 μ = some out → G κ (Vw κ ε layM μ) 4 4 [(0, .ref (ea ε 0)), (1, .int v1), (2, .int v2), (3, .int v3)] []) (v1 : Int32) (v3 : Int32) (s0 : Int32) (μ : Mm) , fX8_isHeld_b29 k4 v1 v3 s0 μ = some out → G κ (Vw κ ε layM μ) 4 29 [(0, .ref (ea ε 0)), (1, .int v1), (3, .int v3)] [.int s0] := by
    intro k4 hk4 v1 v3 s0 μ hf
    refine g_istore_n (pc := 29) (i := 2) (L' := [(2, .int s0), (0, .ref (ea ε 0)), (1, .int v1), (3, .int v3)]) C dX8_isHeld_29 rfl (by decide) rfl ?_
    refine g_iinc (pc := 30) (i := 3) (j := 3) (v := (v3 + (1 : Int32))) (L' := [(3, .int (v3 + (1 : Int32))), (2, .int s0), (0, .ref (ea ε 0)), (1, .int v1)]) C dX8_isHeld_30 rfl (cx_1 _) (by decide) rfl ?_
    refine g_goto (pc := 33) (tgt := 4) C dX8_isHeld_33 rfl ?_
    exact g_at [2, 3, 1, 0] rfl (hk4 v1 s0 (v3 + (1 : Int32)) μ hf)
  have b24 : ∀ (k4 : Int32 → Int32 → Int32 → Mm → Option Int32) (hk4 : ∀ (v1 : Int32) (v2 : Int32) (v3 : Int32) (μ : Mm) , k4 v1 v2 v3 μ = some out → G κ (Vw κ ε layM μ) 4 4 [(0, .ref (ea ε 0)), (1, .int v1), (2, .int v2), (3, .int v3)] []) (v1 : Int32) (v3 : Int32) (μ : Mm) , fX8_isHeld_b24 k4 v1 v3 μ = some out → G κ (Vw κ ε layM μ) 4 24 [(0, .ref (ea ε 0)), (1, .int v1), (3, .int v3)] [] := by
    intro k4 hk4 v1 v3 μ hf
    refine g_iconst (pc := 24) C dX8_isHeld_24 ci_1 ?_
    refine g_goto (pc := 25) (tgt := 29) C dX8_isHeld_25 rfl ?_
    exact b29 k4 hk4 v1 v3 (1 : Int32) μ hf
  have b4 : ∀ (n : Nat) (v1 : Int32) (v2 : Int32) (v3 : Int32) (μ : Mm) , fX8_isHeld_b4 n v1 v2 v3 μ = some out → G κ (Vw κ ε layM μ) 4 4 [(0, .ref (ea ε 0)), (1, .int v1), (2, .int v2), (3, .int v3)] [] := by
    intro n
    induction n with
    | zero => intro v1 v2 v3 μ hf; exact none_ne hf
    | succ n ih =>
      intro v1 v2 v3 μ hf
      refine g_iload_n (pc := 4) (i := 3) (j := 3) C dX8_isHeld_4 rfl rfl ?_
      refine g_bipush (pc := 5) C dX8_isHeld_5 cb_10 ?_
      refine g_icmp_ge (pc := 7) (tgt := 36) C dX8_isHeld_7 rfl hf (fun _ hf => ?_) (fun _ hf => ?_)
      · refine g_iload_n (pc := 36) (i := 2) (j := 2) C dX8_isHeld_36 rfl rfl ?_
        exact g_zretr (pc := 37) C hQ dX8_isHeld_37 hf
      · refine g_iload_n (pc := 10) (i := 2) (j := 2) C dX8_isHeld_10 rfl rfl ?_
        refine g_if_ne (pc := 11) (tgt := 24) C dX8_isHeld_11 rfl hf (fun _ hf => ?_) (fun _ hf => ?_)
        · exact g_at [0, 1, 3] rfl (b24 (fX8_isHeld_b4 n) ih v1 v3 μ hf)
        · refine g_aload_n (pc := 14) (i := 0) (j := 0) C dX8_isHeld_14 rfl rfl ?_
          refine g_getr (pc := 15) (j := 3) C E fdX8_16 layM_0_3 dX8_isHeld_15 ?_
          refine g_iload_n (pc := 18) (i := 3) (j := 3) C dX8_isHeld_18 rfl rfl ?_
          refine g_iald (pc := 19) C E layM_3 dX8_isHeld_19 hf (fun hf => ?_)
          refine g_iload_n (pc := 20) (i := 1) (j := 1) C dX8_isHeld_20 rfl rfl ?_
          refine g_icmp_ne (pc := 21) (tgt := 28) C dX8_isHeld_21 rfl hf (fun _ hf => ?_) (fun _ hf => ?_)
          · refine g_iconst (pc := 28) C dX8_isHeld_28 ci_0 ?_
            exact g_at [0, 1, 3] rfl (b29 (fX8_isHeld_b4 n) ih v1 v3 (0 : Int32) μ hf)
          · exact g_at [0, 1, 3] rfl (b24 (fX8_isHeld_b4 n) ih v1 v3 μ hf)
  refine g_iconst (pc := 0) C dX8_isHeld_0 ci_0 ?_
  refine g_istore_n (pc := 1) (i := 2) (L' := [(2, .int (0 : Int32)), (0, .ref (ea ε 0)), (1, .int p1)]) C dX8_isHeld_1 rfl (by decide) rfl ?_
  refine g_iconst (pc := 2) C dX8_isHeld_2 ci_0 ?_
  refine g_istore_n (pc := 3) (i := 3) (L' := [(3, .int (0 : Int32)), (2, .int (0 : Int32)), (0, .ref (ea ε 0)), (1, .int p1)]) C dX8_isHeld_3 rfl (by decide) rfl ?_
  exact g_at [2, 3, 1, 0] rfl (b4 100 p1 (0 : Int32) (0 : Int32) μ hf)
theorem dX8_write_0 : decode cX8_write 0 = .ok (.iload_n 1, 1) := by decide +kernel
theorem dX8_write_1 : decode cX8_write 1 = .ok (.i2l, 1) := by decide +kernel
theorem dX8_write_2 : decode cX8_write 2 = .ok (.lconst 0, 1) := by decide +kernel
theorem dX8_write_3 : decode cX8_write 3 = .ok (.ldc2_w 140, 3) := by decide +kernel
theorem dX8_write_6 : decode cX8_write 6 = .ok (.invokestatic 98, 3) := by decide +kernel
theorem dX8_write_9 : decode cX8_write 9 = .ok (.ifCond .ne 6, 3) := by decide +kernel
theorem dX8_write_12 : decode cX8_write 12 = .ok (.bipush (-2), 2) := by decide +kernel
theorem dX8_write_14 : decode cX8_write 14 = .ok (.ireturn, 1) := by decide +kernel
theorem dX8_write_15 : decode cX8_write 15 = .ok (.aload_n 0, 1) := by decide +kernel
theorem dX8_write_16 : decode cX8_write 16 = .ok (.getfield 162, 3) := by decide +kernel
theorem dX8_write_19 : decode cX8_write 19 = .ok (.bipush 60, 2) := by decide +kernel
theorem dX8_write_21 : decode cX8_write 21 = .ok (.if_icmp .ne 6, 3) := by decide +kernel
theorem dX8_write_24 : decode cX8_write 24 = .ok (.bipush (-4), 2) := by decide +kernel
theorem dX8_write_26 : decode cX8_write 26 = .ok (.ireturn, 1) := by decide +kernel
theorem dX8_write_27 : decode cX8_write 27 = .ok (.aload_n 0, 1) := by decide +kernel
theorem dX8_write_28 : decode cX8_write 28 = .ok (.getfield 7, 3) := by decide +kernel
theorem dX8_write_31 : decode cX8_write 31 = .ok (.aload_n 0, 1) := by decide +kernel
theorem dX8_write_32 : decode cX8_write 32 = .ok (.getfield 162, 3) := by decide +kernel
theorem dX8_write_35 : decode cX8_write 35 = .ok (.iload_n 1, 1) := by decide +kernel
theorem dX8_write_36 : decode cX8_write 36 = .ok (.iastore, 1) := by decide +kernel
theorem dX8_write_37 : decode cX8_write 37 = .ok (.aload_n 0, 1) := by decide +kernel
theorem dX8_write_38 : decode cX8_write 38 = .ok (.dup, 1) := by decide +kernel
theorem dX8_write_39 : decode cX8_write 39 = .ok (.getfield 162, 3) := by decide +kernel
theorem dX8_write_42 : decode cX8_write 42 = .ok (.iconst 1, 1) := by decide +kernel
theorem dX8_write_43 : decode cX8_write 43 = .ok (.iadd, 1) := by decide +kernel
theorem dX8_write_44 : decode cX8_write 44 = .ok (.putfield 162, 3) := by decide +kernel
theorem dX8_write_47 : decode cX8_write 47 = .ok (.aload_n 0, 1) := by decide +kernel
theorem dX8_write_48 : decode cX8_write 48 = .ok (.getfield 162, 3) := by decide +kernel
theorem dX8_write_51 : decode cX8_write 51 = .ok (.ireturn, 1) := by decide +kernel
def fX8_write (p1 : Int32) (μ : Mm) : Option (Int32 × Mm) := ((fX8_in (Int32.toInt64 p1) (0 : Int64) (255 : Int64)).bind fun r6 => (if r6 = 0 then some ((-2 : Int32), μ) else (if (μ.1 0 1) = (60 : Int32) then some ((-4 : Int32), μ) else (if inb (μ.1 0 1) 60 = true then some (((wI (wI μ 1 (Int32.toNatClampNeg (μ.1 0 1)) p1) 0 1 (((wI μ 1 (Int32.toNatClampNeg (μ.1 0 1)) p1).1 0 1) + (1 : Int32))).1 0 1), (wI (wI μ 1 (Int32.toNatClampNeg (μ.1 0 1)) p1) 0 1 (((wI μ 1 (Int32.toNatClampNeg (μ.1 0 1)) p1).1 0 1) + (1 : Int32)))) else none))))
set_option maxRecDepth 100000 in
set_option maxHeartbeats 4000000 in
theorem kX8_write (l : Launch) (ε : Ev) (p1 : Int32) (μ : Mm) (out : (Int32 × Mm)) (hf : fX8_write p1 μ = some out) : Sp l ε layM yX8_write cX8_write 2 (some .int) 1 [.ref (ea ε 0), .int p1] (some (.int out.1)) μ out.2 := by
  refine Sp.of [(0, .ref (ea ε 0)), (1, .int p1)] rfl (by decide) (Nat.le_of_ble_eq_true rfl) ?_
  intro κ hκ C E hQ
  subst hκ
  replace C : Cf κ cX8_write 2 RX8 (some .int) 1 := C
  refine g_iload_n (pc := 0) (i := 1) (j := 1) C dX8_write_0 rfl rfl ?_
  refine g_i2l (pc := 1) C dX8_write_1 ?_
  refine g_lconst (pc := 2) C dX8_write_2 cl_0 ?_
  refine g_ldc2 (pc := 3) C cnX8_140 dX8_write_3 ?_
  refine g_cpi (pc := 6) (st := []) C lkX8_98 (As := [.long (Int32.toInt64 p1), .long (0 : Int64), .long (255 : Int64)]) rfl (fun out h => kX8_in (kl κ) (Int32.toInt64 p1) (0 : Int64) (255 : Int64) out h) (by decide) rfl (Nat.le_of_ble_eq_true rfl) dX8_write_6 hf (fun r6 _ hf => ?_)
  refine g_if_ne (pc := 9) (tgt := 15) C dX8_write_9 rfl hf (fun _ hf => ?_) (fun _ hf => ?_)
  · refine g_aload_n (pc := 15) (i := 0) (j := 0) C dX8_write_15 rfl rfl ?_
    refine g_geti (pc := 16) C E fdX8_162 layM_0_1 dX8_write_16 ?_
    refine g_bipush (pc := 19) C dX8_write_19 cb_60 ?_
    refine g_icmp_ne (pc := 21) (tgt := 27) C dX8_write_21 rfl hf (fun _ hf => ?_) (fun _ hf => ?_)
    · refine g_aload_n (pc := 27) (i := 0) (j := 0) C dX8_write_27 rfl rfl ?_
      refine g_getr (pc := 28) (j := 1) C E fdX8_7 layM_0_0 dX8_write_28 ?_
      refine g_aload_n (pc := 31) (i := 0) (j := 0) C dX8_write_31 rfl rfl ?_
      refine g_geti (pc := 32) C E fdX8_162 layM_0_1 dX8_write_32 ?_
      refine g_iload_n (pc := 35) (i := 1) (j := 1) C dX8_write_35 rfl rfl ?_
      refine g_iast (pc := 36) C E layM_1 dX8_write_36 hf (fun hf => ?_)
      refine g_aload_n (pc := 37) (i := 0) (j := 0) C dX8_write_37 rfl rfl ?_
      refine g_dup (pc := 38) C dX8_write_38 rfl ?_
      refine g_geti (pc := 39) C E fdX8_162 layM_0_1 dX8_write_39 ?_
      refine g_iconst (pc := 42) C dX8_write_42 ci_1 ?_
      refine g_iadd (pc := 43) C dX8_write_43 ?_
      refine g_puti (pc := 44) C E fdX8_162 layM_0_1 dX8_write_44 ?_
      refine g_aload_n (pc := 47) (i := 0) (j := 0) C dX8_write_47 rfl rfl ?_
      refine g_geti (pc := 48) C E fdX8_162 layM_0_1 dX8_write_48 ?_
      exact g_iretw (pc := 51) C hQ dX8_write_51 hf
    · refine g_bipush (pc := 24) C dX8_write_24 cb_m4 ?_
      exact g_iretw (pc := 26) C hQ dX8_write_26 hf
  · refine g_bipush (pc := 12) C dX8_write_12 cb_m2 ?_
    exact g_iretw (pc := 14) C hQ dX8_write_14 hf
end
