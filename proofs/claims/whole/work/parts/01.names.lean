-- ===== PART A: goes FIRST, ahead of the names: the tables' words, and 'selects' of the private methods out of them =====
/-- a private method of a class that the tables say can be made, by its rows of tables_1 -/
def lw_okq (q : MethodName × Nat) : Prop := (q.1.cls ≠ "java/lang/invoke/MethodHandle" ∧ q.1.cls ≠ "java/lang/invoke/VarHandle") ∧ Cond.instantiable q.1.cls q.2 ∈ tables_1 ∧ Cond.privateMethod q.1 ∈ tables_1 ∧ Cond.instanceMethod q.1 ∈ tables_1
theorem lw_p0 : lw_okq (⟨"WidenDesk$Reader", "letter", "()I"⟩, 7) := ⟨⟨by decide +kernel, by decide +kernel⟩, List.mem_of_getElem? (i := 27) (by decide +kernel), List.mem_of_getElem? (i := 207) (by decide +kernel), List.mem_of_getElem? (i := 208) (by decide +kernel)⟩
theorem lw_p1 : lw_okq (⟨"WidenDesk$Reader", "skip", "(C)Z"⟩, 7) := ⟨⟨by decide +kernel, by decide +kernel⟩, List.mem_of_getElem? (i := 27) (by decide +kernel), List.mem_of_getElem? (i := 304) (by decide +kernel), List.mem_of_getElem? (i := 305) (by decide +kernel)⟩
theorem lw_p2 : lw_okq (⟨"WidenDesk$Reader", "readElement", "()Z"⟩, 7) := ⟨⟨by decide +kernel, by decide +kernel⟩, List.mem_of_getElem? (i := 27) (by decide +kernel), List.mem_of_getElem? (i := 308) (by decide +kernel), List.mem_of_getElem? (i := 309) (by decide +kernel)⟩
theorem lw_p3 : lw_okq (⟨"WidenDesk$Reader", "keep", "(IJ)V"⟩, 7) := ⟨⟨by decide +kernel, by decide +kernel⟩, List.mem_of_getElem? (i := 27) (by decide +kernel), List.mem_of_getElem? (i := 315) (by decide +kernel), List.mem_of_getElem? (i := 316) (by decide +kernel)⟩
theorem lw_p4 : lw_okq (⟨"WidenDesk$Reader", "readNumber", "(I)Z"⟩, 7) := ⟨⟨by decide +kernel, by decide +kernel⟩, List.mem_of_getElem? (i := 27) (by decide +kernel), List.mem_of_getElem? (i := 319) (by decide +kernel), List.mem_of_getElem? (i := 320) (by decide +kernel)⟩
theorem lw_p5 : lw_okq (⟨"WidenDesk", "newRow", "(II)I"⟩, 11) := ⟨⟨by decide +kernel, by decide +kernel⟩, List.mem_of_getElem? (i := 19) (by decide +kernel), List.mem_of_getElem? (i := 355) (by decide +kernel), List.mem_of_getElem? (i := 356) (by decide +kernel)⟩
theorem lw_p6 : lw_okq (⟨"WidenDesk", "freeRow", "()I"⟩, 11) := ⟨⟨by decide +kernel, by decide +kernel⟩, List.mem_of_getElem? (i := 19) (by decide +kernel), List.mem_of_getElem? (i := 359) (by decide +kernel), List.mem_of_getElem? (i := 360) (by decide +kernel)⟩
theorem lw_p7 : lw_okq (⟨"WidenDesk", "isInSlots", "(I)Z"⟩, 11) := ⟨⟨by decide +kernel, by decide +kernel⟩, List.mem_of_getElem? (i := 19) (by decide +kernel), List.mem_of_getElem? (i := 363) (by decide +kernel), List.mem_of_getElem? (i := 364) (by decide +kernel)⟩
theorem lw_p8 : lw_okq (⟨"WidenDesk", "firstSlotOf", "(I)I"⟩, 11) := ⟨⟨by decide +kernel, by decide +kernel⟩, List.mem_of_getElem? (i := 19) (by decide +kernel), List.mem_of_getElem? (i := 367) (by decide +kernel), List.mem_of_getElem? (i := 368) (by decide +kernel)⟩
theorem lw_p9 : lw_okq (⟨"WidenDesk", "replace", "(II)V"⟩, 11) := ⟨⟨by decide +kernel, by decide +kernel⟩, List.mem_of_getElem? (i := 19) (by decide +kernel), List.mem_of_getElem? (i := 411) (by decide +kernel), List.mem_of_getElem? (i := 412) (by decide +kernel)⟩
theorem lw_p10 : lw_okq (⟨"WidenDesk$Log", "add", "(IIII)I"⟩, 8) := ⟨⟨by decide +kernel, by decide +kernel⟩, List.mem_of_getElem? (i := 83) (by decide +kernel), List.mem_of_getElem? (i := 419) (by decide +kernel), List.mem_of_getElem? (i := 420) (by decide +kernel)⟩
theorem lw_p11 : lw_okq (⟨"WidenDesk", "countArrays", "(Z)I"⟩, 11) := ⟨⟨by decide +kernel, by decide +kernel⟩, List.mem_of_getElem? (i := 19) (by decide +kernel), List.mem_of_getElem? (i := 428) (by decide +kernel), List.mem_of_getElem? (i := 429) (by decide +kernel)⟩
theorem lw_p12 : lw_okq (⟨"WidenDesk", "holdsArray", "(I)Z"⟩, 11) := ⟨⟨by decide +kernel, by decide +kernel⟩, List.mem_of_getElem? (i := 19) (by decide +kernel), List.mem_of_getElem? (i := 432) (by decide +kernel), List.mem_of_getElem? (i := 433) (by decide +kernel)⟩
theorem lw_p13 : lw_okq (⟨"WidenDesk", "thingIn", "(I)I"⟩, 11) := ⟨⟨by decide +kernel, by decide +kernel⟩, List.mem_of_getElem? (i := 19) (by decide +kernel), List.mem_of_getElem? (i := 436) (by decide +kernel), List.mem_of_getElem? (i := 437) (by decide +kernel)⟩
theorem lw_p14 : lw_okq (⟨"WidenDesk", "countEmptySlots", "()I"⟩, 11) := ⟨⟨by decide +kernel, by decide +kernel⟩, List.mem_of_getElem? (i := 19) (by decide +kernel), List.mem_of_getElem? (i := 440) (by decide +kernel), List.mem_of_getElem? (i := 441) (by decide +kernel)⟩
theorem lw_p15 : lw_okq (⟨"WidenDesk", "countFine", "()I"⟩, 11) := ⟨⟨by decide +kernel, by decide +kernel⟩, List.mem_of_getElem? (i := 19) (by decide +kernel), List.mem_of_getElem? (i := 444) (by decide +kernel), List.mem_of_getElem? (i := 445) (by decide +kernel)⟩
def lw_privs_1 : List (MethodName × Nat) := [(⟨"WidenDesk$Reader", "letter", "()I"⟩, 7), (⟨"WidenDesk$Reader", "skip", "(C)Z"⟩, 7), (⟨"WidenDesk$Reader", "readElement", "()Z"⟩, 7), (⟨"WidenDesk$Reader", "keep", "(IJ)V"⟩, 7), (⟨"WidenDesk$Reader", "readNumber", "(I)Z"⟩, 7), (⟨"WidenDesk", "newRow", "(II)I"⟩, 11), (⟨"WidenDesk", "freeRow", "()I"⟩, 11), (⟨"WidenDesk", "isInSlots", "(I)Z"⟩, 11), (⟨"WidenDesk", "firstSlotOf", "(I)I"⟩, 11), (⟨"WidenDesk", "replace", "(II)V"⟩, 11), (⟨"WidenDesk$Log", "add", "(IIII)I"⟩, 8), (⟨"WidenDesk", "countArrays", "(Z)I"⟩, 11), (⟨"WidenDesk", "holdsArray", "(I)Z"⟩, 11), (⟨"WidenDesk", "thingIn", "(I)I"⟩, 11), (⟨"WidenDesk", "countEmptySlots", "()I"⟩, 11), (⟨"WidenDesk", "countFine", "()I"⟩, 11)]
theorem lw_r1 : ∀ q ∈ lw_privs_1, lw_okq q := List.forall_mem_cons.mpr ⟨lw_p0, List.forall_mem_cons.mpr ⟨lw_p1, List.forall_mem_cons.mpr ⟨lw_p2, List.forall_mem_cons.mpr ⟨lw_p3, List.forall_mem_cons.mpr ⟨lw_p4, List.forall_mem_cons.mpr ⟨lw_p5, List.forall_mem_cons.mpr ⟨lw_p6, List.forall_mem_cons.mpr ⟨lw_p7, List.forall_mem_cons.mpr ⟨lw_p8, List.forall_mem_cons.mpr ⟨lw_p9, List.forall_mem_cons.mpr ⟨lw_p10, List.forall_mem_cons.mpr ⟨lw_p11, List.forall_mem_cons.mpr ⟨lw_p12, List.forall_mem_cons.mpr ⟨lw_p13, List.forall_mem_cons.mpr ⟨lw_p14, List.forall_mem_cons.mpr ⟨lw_p15, fun _ h => absurd h List.not_mem_nil⟩⟩⟩⟩⟩⟩⟩⟩⟩⟩⟩⟩⟩⟩⟩⟩
theorem lw_p16 : lw_okq (⟨"WidenDesk", "shownCode", "(IJ)J"⟩, 11) := ⟨⟨by decide +kernel, by decide +kernel⟩, List.mem_of_getElem? (i := 19) (by decide +kernel), List.mem_of_getElem? (i := 483) (by decide +kernel), List.mem_of_getElem? (i := 484) (by decide +kernel)⟩
theorem lw_p17 : lw_okq (⟨"WidenDesk", "hold", "(IIJ)V"⟩, 11) := ⟨⟨by decide +kernel, by decide +kernel⟩, List.mem_of_getElem? (i := 19) (by decide +kernel), List.mem_of_getElem? (i := 506) (by decide +kernel), List.mem_of_getElem? (i := 507) (by decide +kernel)⟩
theorem lw_p18 : lw_okq (⟨"WidenDesk", "fetchReason", "(II)I"⟩, 11) := ⟨⟨by decide +kernel, by decide +kernel⟩, List.mem_of_getElem? (i := 19) (by decide +kernel), List.mem_of_getElem? (i := 579) (by decide +kernel), List.mem_of_getElem? (i := 580) (by decide +kernel)⟩
theorem lw_p19 : lw_okq (⟨"WidenDesk", "convertReason", "(IIII)I"⟩, 11) := ⟨⟨by decide +kernel, by decide +kernel⟩, List.mem_of_getElem? (i := 19) (by decide +kernel), List.mem_of_getElem? (i := 620) (by decide +kernel), List.mem_of_getElem? (i := 621) (by decide +kernel)⟩
theorem lw_p20 : lw_okq (⟨"WidenDesk", "convertElement", "(IIII)V"⟩, 11) := ⟨⟨by decide +kernel, by decide +kernel⟩, List.mem_of_getElem? (i := 19) (by decide +kernel), List.mem_of_getElem? (i := 655) (by decide +kernel), List.mem_of_getElem? (i := 656) (by decide +kernel)⟩
theorem lw_p21 : lw_okq (⟨"WidenDesk", "carryThrough", "(IJI)I"⟩, 11) := ⟨⟨by decide +kernel, by decide +kernel⟩, List.mem_of_getElem? (i := 19) (by decide +kernel), List.mem_of_getElem? (i := 686) (by decide +kernel), List.mem_of_getElem? (i := 687) (by decide +kernel)⟩
theorem lw_p22 : lw_okq (⟨"WidenDeskModel", "readText", "()I"⟩, 47) := ⟨⟨by decide +kernel, by decide +kernel⟩, List.mem_of_getElem? (i := 791) (by decide +kernel), List.mem_of_getElem? (i := 956) (by decide +kernel), List.mem_of_getElem? (i := 957) (by decide +kernel)⟩
theorem lw_p23 : lw_okq (⟨"WidenDeskModel", "letter", "()I"⟩, 47) := ⟨⟨by decide +kernel, by decide +kernel⟩, List.mem_of_getElem? (i := 791) (by decide +kernel), List.mem_of_getElem? (i := 960) (by decide +kernel), List.mem_of_getElem? (i := 961) (by decide +kernel)⟩
theorem lw_p24 : lw_okq (⟨"WidenDeskModel", "readCell", "()Z"⟩, 47) := ⟨⟨by decide +kernel, by decide +kernel⟩, List.mem_of_getElem? (i := 791) (by decide +kernel), List.mem_of_getElem? (i := 970) (by decide +kernel), List.mem_of_getElem? (i := 971) (by decide +kernel)⟩
theorem lw_p25 : lw_okq (⟨"WidenDeskModel", "putTold", "(IIJ)V"⟩, 47) := ⟨⟨by decide +kernel, by decide +kernel⟩, List.mem_of_getElem? (i := 791) (by decide +kernel), List.mem_of_getElem? (i := 978) (by decide +kernel), List.mem_of_getElem? (i := 979) (by decide +kernel)⟩
theorem lw_p26 : lw_okq (⟨"WidenDeskModel", "readNumber", "(I)V"⟩, 47) := ⟨⟨by decide +kernel, by decide +kernel⟩, List.mem_of_getElem? (i := 791) (by decide +kernel), List.mem_of_getElem? (i := 982) (by decide +kernel), List.mem_of_getElem? (i := 983) (by decide +kernel)⟩
theorem lw_p27 : lw_okq (⟨"WidenDeskModel", "holdNew", "(I)V"⟩, 47) := ⟨⟨by decide +kernel, by decide +kernel⟩, List.mem_of_getElem? (i := 791) (by decide +kernel), List.mem_of_getElem? (i := 1024) (by decide +kernel), List.mem_of_getElem? (i := 1025) (by decide +kernel)⟩
theorem lw_p28 : lw_okq (⟨"WidenDeskModel", "note", "()V"⟩, 47) := ⟨⟨by decide +kernel, by decide +kernel⟩, List.mem_of_getElem? (i := 791) (by decide +kernel), List.mem_of_getElem? (i := 1028) (by decide +kernel), List.mem_of_getElem? (i := 1029) (by decide +kernel)⟩
theorem lw_p29 : lw_okq (⟨"WidenDeskModel", "freeRow", "()I"⟩, 47) := ⟨⟨by decide +kernel, by decide +kernel⟩, List.mem_of_getElem? (i := 791) (by decide +kernel), List.mem_of_getElem? (i := 1032) (by decide +kernel), List.mem_of_getElem? (i := 1033) (by decide +kernel)⟩
theorem lw_p30 : lw_okq (⟨"WidenDeskModel", "isHeld", "(I)Z"⟩, 47) := ⟨⟨by decide +kernel, by decide +kernel⟩, List.mem_of_getElem? (i := 791) (by decide +kernel), List.mem_of_getElem? (i := 1036) (by decide +kernel), List.mem_of_getElem? (i := 1037) (by decide +kernel)⟩
theorem lw_p31 : lw_okq (⟨"WidenDeskModel", "rowsHeld", "(I)I"⟩, 47) := ⟨⟨by decide +kernel, by decide +kernel⟩, List.mem_of_getElem? (i := 791) (by decide +kernel), List.mem_of_getElem? (i := 1044) (by decide +kernel), List.mem_of_getElem? (i := 1045) (by decide +kernel)⟩
def lw_privs_2 : List (MethodName × Nat) := [(⟨"WidenDesk", "shownCode", "(IJ)J"⟩, 11), (⟨"WidenDesk", "hold", "(IIJ)V"⟩, 11), (⟨"WidenDesk", "fetchReason", "(II)I"⟩, 11), (⟨"WidenDesk", "convertReason", "(IIII)I"⟩, 11), (⟨"WidenDesk", "convertElement", "(IIII)V"⟩, 11), (⟨"WidenDesk", "carryThrough", "(IJI)I"⟩, 11), (⟨"WidenDeskModel", "readText", "()I"⟩, 47), (⟨"WidenDeskModel", "letter", "()I"⟩, 47), (⟨"WidenDeskModel", "readCell", "()Z"⟩, 47), (⟨"WidenDeskModel", "putTold", "(IIJ)V"⟩, 47), (⟨"WidenDeskModel", "readNumber", "(I)V"⟩, 47), (⟨"WidenDeskModel", "holdNew", "(I)V"⟩, 47), (⟨"WidenDeskModel", "note", "()V"⟩, 47), (⟨"WidenDeskModel", "freeRow", "()I"⟩, 47), (⟨"WidenDeskModel", "isHeld", "(I)Z"⟩, 47), (⟨"WidenDeskModel", "rowsHeld", "(I)I"⟩, 47)]
theorem lw_r2 : ∀ q ∈ lw_privs_2, lw_okq q := List.forall_mem_cons.mpr ⟨lw_p16, List.forall_mem_cons.mpr ⟨lw_p17, List.forall_mem_cons.mpr ⟨lw_p18, List.forall_mem_cons.mpr ⟨lw_p19, List.forall_mem_cons.mpr ⟨lw_p20, List.forall_mem_cons.mpr ⟨lw_p21, List.forall_mem_cons.mpr ⟨lw_p22, List.forall_mem_cons.mpr ⟨lw_p23, List.forall_mem_cons.mpr ⟨lw_p24, List.forall_mem_cons.mpr ⟨lw_p25, List.forall_mem_cons.mpr ⟨lw_p26, List.forall_mem_cons.mpr ⟨lw_p27, List.forall_mem_cons.mpr ⟨lw_p28, List.forall_mem_cons.mpr ⟨lw_p29, List.forall_mem_cons.mpr ⟨lw_p30, List.forall_mem_cons.mpr ⟨lw_p31, fun _ h => absurd h List.not_mem_nil⟩⟩⟩⟩⟩⟩⟩⟩⟩⟩⟩⟩⟩⟩⟩⟩
theorem lw_p32 : lw_okq (⟨"WidenDeskModel", "nothings", "()I"⟩, 47) := ⟨⟨by decide +kernel, by decide +kernel⟩, List.mem_of_getElem? (i := 791) (by decide +kernel), List.mem_of_getElem? (i := 1048) (by decide +kernel), List.mem_of_getElem? (i := 1049) (by decide +kernel)⟩
theorem lw_p33 : lw_okq (⟨"WidenDeskModel", "fineOnes", "()I"⟩, 47) := ⟨⟨by decide +kernel, by decide +kernel⟩, List.mem_of_getElem? (i := 791) (by decide +kernel), List.mem_of_getElem? (i := 1052) (by decide +kernel), List.mem_of_getElem? (i := 1053) (by decide +kernel)⟩
theorem lw_p34 : lw_okq (⟨"WidenDeskModel", "holdsRow", "(I)Z"⟩, 47) := ⟨⟨by decide +kernel, by decide +kernel⟩, List.mem_of_getElem? (i := 791) (by decide +kernel), List.mem_of_getElem? (i := 1070) (by decide +kernel), List.mem_of_getElem? (i := 1071) (by decide +kernel)⟩
theorem lw_p35 : lw_okq (⟨"WidenDeskModel", "get", "(II)V"⟩, 47) := ⟨⟨by decide +kernel, by decide +kernel⟩, List.mem_of_getElem? (i := 791) (by decide +kernel), List.mem_of_getElem? (i := 1085) (by decide +kernel), List.mem_of_getElem? (i := 1086) (by decide +kernel)⟩
theorem lw_p36 : lw_okq (⟨"WidenDeskModel", "kindTold", "(IIJ)I"⟩, 47) := ⟨⟨by decide +kernel, by decide +kernel⟩, List.mem_of_getElem? (i := 791) (by decide +kernel), List.mem_of_getElem? (i := 1089) (by decide +kernel), List.mem_of_getElem? (i := 1090) (by decide +kernel)⟩
theorem lw_p37 : lw_okq (⟨"WidenDeskModel", "told", "(IJ)J"⟩, 47) := ⟨⟨by decide +kernel, by decide +kernel⟩, List.mem_of_getElem? (i := 791) (by decide +kernel), List.mem_of_getElem? (i := 1093) (by decide +kernel), List.mem_of_getElem? (i := 1094) (by decide +kernel)⟩
theorem lw_p38 : lw_okq (⟨"WidenDeskModel", "hold", "(IIJ)V"⟩, 47) := ⟨⟨by decide +kernel, by decide +kernel⟩, List.mem_of_getElem? (i := 791) (by decide +kernel), List.mem_of_getElem? (i := 1112) (by decide +kernel), List.mem_of_getElem? (i := 1113) (by decide +kernel)⟩
theorem lw_p39 : lw_okq (⟨"WidenDeskModel", "reasonToTake", "(III)I"⟩, 47) := ⟨⟨by decide +kernel, by decide +kernel⟩, List.mem_of_getElem? (i := 791) (by decide +kernel), List.mem_of_getElem? (i := 1141) (by decide +kernel), List.mem_of_getElem? (i := 1142) (by decide +kernel)⟩
theorem lw_p40 : lw_okq (⟨"WidenDeskModel", "reasonOf", "(I)I"⟩, 47) := ⟨⟨by decide +kernel, by decide +kernel⟩, List.mem_of_getElem? (i := 791) (by decide +kernel), List.mem_of_getElem? (i := 1145) (by decide +kernel), List.mem_of_getElem? (i := 1146) (by decide +kernel)⟩
theorem lw_p41 : lw_okq (⟨"WidenDeskModel", "widened", "(IJI)J"⟩, 47) := ⟨⟨by decide +kernel, by decide +kernel⟩, List.mem_of_getElem? (i := 791) (by decide +kernel), List.mem_of_getElem? (i := 1158) (by decide +kernel), List.mem_of_getElem? (i := 1159) (by decide +kernel)⟩
theorem lw_p42 : lw_okq (⟨"WidenDeskModel", "takeApart", "(IJ)V"⟩, 47) := ⟨⟨by decide +kernel, by decide +kernel⟩, List.mem_of_getElem? (i := 791) (by decide +kernel), List.mem_of_getElem? (i := 1162) (by decide +kernel), List.mem_of_getElem? (i := 1163) (by decide +kernel)⟩
theorem lw_p43 : lw_okq (⟨"WidenDeskModel", "reasonToFetch", "(II)I"⟩, 47) := ⟨⟨by decide +kernel, by decide +kernel⟩, List.mem_of_getElem? (i := 791) (by decide +kernel), List.mem_of_getElem? (i := 1170) (by decide +kernel), List.mem_of_getElem? (i := 1171) (by decide +kernel)⟩
theorem lw_p44 : lw_okq (⟨"WidenDeskModel", "reasonToLay", "(IIIIJ)I"⟩, 47) := ⟨⟨by decide +kernel, by decide +kernel⟩, List.mem_of_getElem? (i := 791) (by decide +kernel), List.mem_of_getElem? (i := 1178) (by decide +kernel), List.mem_of_getElem? (i := 1179) (by decide +kernel)⟩
theorem lw_p45 : lw_okq (⟨"WidenDeskModel", "bring", "(IIIJ)I"⟩, 47) := ⟨⟨by decide +kernel, by decide +kernel⟩, List.mem_of_getElem? (i := 791) (by decide +kernel), List.mem_of_getElem? (i := 1182) (by decide +kernel), List.mem_of_getElem? (i := 1183) (by decide +kernel)⟩
theorem lw_p46 : lw_okq (⟨"WidenDeskModel", "put", "(IIIIJ)V"⟩, 47) := ⟨⟨by decide +kernel, by decide +kernel⟩, List.mem_of_getElem? (i := 791) (by decide +kernel), List.mem_of_getElem? (i := 1186) (by decide +kernel), List.mem_of_getElem? (i := 1187) (by decide +kernel)⟩
theorem lw_p47 : lw_okq (⟨"WidenDeskModel", "holdsPlain", "(I)Z"⟩, 47) := ⟨⟨by decide +kernel, by decide +kernel⟩, List.mem_of_getElem? (i := 791) (by decide +kernel), List.mem_of_getElem? (i := 1194) (by decide +kernel), List.mem_of_getElem? (i := 1195) (by decide +kernel)⟩
def lw_privs_3 : List (MethodName × Nat) := [(⟨"WidenDeskModel", "nothings", "()I"⟩, 47), (⟨"WidenDeskModel", "fineOnes", "()I"⟩, 47), (⟨"WidenDeskModel", "holdsRow", "(I)Z"⟩, 47), (⟨"WidenDeskModel", "get", "(II)V"⟩, 47), (⟨"WidenDeskModel", "kindTold", "(IIJ)I"⟩, 47), (⟨"WidenDeskModel", "told", "(IJ)J"⟩, 47), (⟨"WidenDeskModel", "hold", "(IIJ)V"⟩, 47), (⟨"WidenDeskModel", "reasonToTake", "(III)I"⟩, 47), (⟨"WidenDeskModel", "reasonOf", "(I)I"⟩, 47), (⟨"WidenDeskModel", "widened", "(IJI)J"⟩, 47), (⟨"WidenDeskModel", "takeApart", "(IJ)V"⟩, 47), (⟨"WidenDeskModel", "reasonToFetch", "(II)I"⟩, 47), (⟨"WidenDeskModel", "reasonToLay", "(IIIIJ)I"⟩, 47), (⟨"WidenDeskModel", "bring", "(IIIJ)I"⟩, 47), (⟨"WidenDeskModel", "put", "(IIIIJ)V"⟩, 47), (⟨"WidenDeskModel", "holdsPlain", "(I)Z"⟩, 47)]
theorem lw_r3 : ∀ q ∈ lw_privs_3, lw_okq q := List.forall_mem_cons.mpr ⟨lw_p32, List.forall_mem_cons.mpr ⟨lw_p33, List.forall_mem_cons.mpr ⟨lw_p34, List.forall_mem_cons.mpr ⟨lw_p35, List.forall_mem_cons.mpr ⟨lw_p36, List.forall_mem_cons.mpr ⟨lw_p37, List.forall_mem_cons.mpr ⟨lw_p38, List.forall_mem_cons.mpr ⟨lw_p39, List.forall_mem_cons.mpr ⟨lw_p40, List.forall_mem_cons.mpr ⟨lw_p41, List.forall_mem_cons.mpr ⟨lw_p42, List.forall_mem_cons.mpr ⟨lw_p43, List.forall_mem_cons.mpr ⟨lw_p44, List.forall_mem_cons.mpr ⟨lw_p45, List.forall_mem_cons.mpr ⟨lw_p46, List.forall_mem_cons.mpr ⟨lw_p47, fun _ h => absurd h List.not_mem_nil⟩⟩⟩⟩⟩⟩⟩⟩⟩⟩⟩⟩⟩⟩⟩⟩
theorem lw_p48 : lw_okq (⟨"WidenDeskModel", "convertCell", "(IIII)I"⟩, 47) := ⟨⟨by decide +kernel, by decide +kernel⟩, List.mem_of_getElem? (i := 791) (by decide +kernel), List.mem_of_getElem? (i := 1205) (by decide +kernel), List.mem_of_getElem? (i := 1206) (by decide +kernel)⟩
theorem lw_p49 : lw_okq (⟨"WidenDeskModel", "isOne", "(IJI)Z"⟩, 47) := ⟨⟨by decide +kernel, by decide +kernel⟩, List.mem_of_getElem? (i := 791) (by decide +kernel), List.mem_of_getElem? (i := 1209) (by decide +kernel), List.mem_of_getElem? (i := 1210) (by decide +kernel)⟩
theorem lw_p50 : lw_okq (⟨"WidenDeskModel", "asOne", "(IJI)J"⟩, 47) := ⟨⟨by decide +kernel, by decide +kernel⟩, List.mem_of_getElem? (i := 791) (by decide +kernel), List.mem_of_getElem? (i := 1213) (by decide +kernel), List.mem_of_getElem? (i := 1214) (by decide +kernel)⟩
theorem lw_p51 : lw_okq (⟨"WidenDeskModel", "addEnd", "(IJ)V"⟩, 47) := ⟨⟨by decide +kernel, by decide +kernel⟩, List.mem_of_getElem? (i := 791) (by decide +kernel), List.mem_of_getElem? (i := 1239) (by decide +kernel), List.mem_of_getElem? (i := 1240) (by decide +kernel)⟩
theorem lw_p52 : lw_okq (⟨"WidenDeskModel", "joinCells", "(I)V"⟩, 47) := ⟨⟨by decide +kernel, by decide +kernel⟩, List.mem_of_getElem? (i := 791) (by decide +kernel), List.mem_of_getElem? (i := 1261) (by decide +kernel), List.mem_of_getElem? (i := 1262) (by decide +kernel)⟩
theorem lw_p53 : lw_okq (⟨"WidenDeskModel", "areAlike", "(II)Z"⟩, 47) := ⟨⟨by decide +kernel, by decide +kernel⟩, List.mem_of_getElem? (i := 791) (by decide +kernel), List.mem_of_getElem? (i := 1274) (by decide +kernel), List.mem_of_getElem? (i := 1275) (by decide +kernel)⟩
theorem lw_p54 : lw_okq (⟨"WidenDeskModel", "areSame", "(II)Z"⟩, 47) := ⟨⟨by decide +kernel, by decide +kernel⟩, List.mem_of_getElem? (i := 791) (by decide +kernel), List.mem_of_getElem? (i := 1282) (by decide +kernel), List.mem_of_getElem? (i := 1283) (by decide +kernel)⟩
theorem lw_p55 : lw_okq (⟨"WidenDeskModel", "reasonBy", "(III)I"⟩, 47) := ⟨⟨by decide +kernel, by decide +kernel⟩, List.mem_of_getElem? (i := 791) (by decide +kernel), List.mem_of_getElem? (i := 1304) (by decide +kernel), List.mem_of_getElem? (i := 1305) (by decide +kernel)⟩
def lw_privs_4 : List (MethodName × Nat) := [(⟨"WidenDeskModel", "convertCell", "(IIII)I"⟩, 47), (⟨"WidenDeskModel", "isOne", "(IJI)Z"⟩, 47), (⟨"WidenDeskModel", "asOne", "(IJI)J"⟩, 47), (⟨"WidenDeskModel", "addEnd", "(IJ)V"⟩, 47), (⟨"WidenDeskModel", "joinCells", "(I)V"⟩, 47), (⟨"WidenDeskModel", "areAlike", "(II)Z"⟩, 47), (⟨"WidenDeskModel", "areSame", "(II)Z"⟩, 47), (⟨"WidenDeskModel", "reasonBy", "(III)I"⟩, 47)]
theorem lw_r4 : ∀ q ∈ lw_privs_4, lw_okq q := List.forall_mem_cons.mpr ⟨lw_p48, List.forall_mem_cons.mpr ⟨lw_p49, List.forall_mem_cons.mpr ⟨lw_p50, List.forall_mem_cons.mpr ⟨lw_p51, List.forall_mem_cons.mpr ⟨lw_p52, List.forall_mem_cons.mpr ⟨lw_p53, List.forall_mem_cons.mpr ⟨lw_p54, List.forall_mem_cons.mpr ⟨lw_p55, fun _ h => absurd h List.not_mem_nil⟩⟩⟩⟩⟩⟩⟩⟩
def lw_privs : List (MethodName × Nat) := lw_privs_1 ++ (lw_privs_2 ++ (lw_privs_3 ++ (lw_privs_4)))
def lw_tbl : List Cond := k2_sels lw_privs ++ tables_1
theorem lw_privs_ok : ∀ q ∈ lw_privs, lw_okq q := by
  show ∀ q ∈ lw_privs_1 ++ (lw_privs_2 ++ (lw_privs_3 ++ (lw_privs_4))), lw_okq q
  exact List.forall_mem_append.mpr ⟨lw_r1, List.forall_mem_append.mpr ⟨lw_r2, List.forall_mem_append.mpr ⟨lw_r3, lw_r4⟩⟩⟩

def RX0 : String := "WidenDesk$Log"
def TX0 : u_T := fun k => match k with
  | 0 => ("WidenDesk$Log", "sorts", "[I", true)
  | 1 => ("WidenDesk$Log", "spots", "[I", true)
  | 2 => ("WidenDesk$Log", "rows", "[I", true)
  | 3 => ("WidenDesk$Log", "numbers", "[I", true)
  | 4 => ("WidenDesk$Log", "types", "[I", true)
  | 5 => ("WidenDesk$Log", "codes", "[J", true)
  | 6 => ("WidenDesk$Log", "next", "I", false)
  | _ => ("WidenDesk$Log", "kept", "I", false)
def tyX0 : Nat → FieldType := fun k => match k with
  | 0 => .array .int
  | 1 => .array .int
  | 2 => .array .int
  | 3 => .array .int
  | 4 => .array .int
  | 5 => .array .long
  | 6 => .int
  | _ => .int
abbrev wsX00 : List Cond := u_ws RX0 TX0 8
theorem nmX0 : ∀ a, a < 8 → ∀ b, b < 8 → a ≠ b → (TX0 a).2.1 ≠ (TX0 b).2.1 := by decide +kernel
theorem tyX0_ok : ∀ k, k < 8 → parseFieldDescriptor (TX0 k).2.2.1 = some (tyX0 k) := by decide +kernel
abbrev cX0_init : ByteArray := prog_2_method_1_code
def yX0_init : MethodName := ⟨RX0, "<init>", "()V"⟩
abbrev cX0_keepSlot : ByteArray := prog_2_method_2_code
def yX0_keepSlot : MethodName := ⟨RX0, "keepSlot", "(II)V"⟩
abbrev cX0_keepNumber : ByteArray := prog_2_method_3_code
def yX0_keepNumber : MethodName := ⟨RX0, "keepNumber", "(II)V"⟩
abbrev cX0_keepCells : ByteArray := prog_2_method_4_code
def yX0_keepCells : MethodName := ⟨RX0, "keepCells", "(ILWidenDesk$Shelf;)V"⟩
abbrev cX0_restoreCells : ByteArray := prog_2_method_5_code
def yX0_restoreCells : MethodName := ⟨RX0, "restoreCells", "(ILWidenDesk$Shelf;)V"⟩
abbrev cX0_removeLatest : ByteArray := prog_2_method_6_code
def yX0_removeLatest : MethodName := ⟨RX0, "removeLatest", "()I"⟩
abbrev cX0_holds : ByteArray := prog_2_method_7_code
def yX0_holds : MethodName := ⟨RX0, "holds", "(I)Z"⟩
abbrev cX0_add : ByteArray := prog_2_method_8_code
def yX0_add : MethodName := ⟨RX0, "add", "(IIII)I"⟩
abbrev cX0_before : ByteArray := prog_2_method_9_code
def yX0_before : MethodName := ⟨RX0, "before", "(I)I"⟩
def RX1 : String := "WidenDesk$Marks"
def TX1 : u_T := fun k => match k with
  | 0 => ("WidenDesk$Marks", "numbers", "[I", true)
  | _ => ("WidenDesk$Marks", "count", "I", false)
def tyX1 : Nat → FieldType := fun k => match k with
  | 0 => .array .int
  | _ => .int
abbrev wsX10 : List Cond := u_ws RX1 TX1 2
theorem nmX1 : ∀ a, a < 2 → ∀ b, b < 2 → a ≠ b → (TX1 a).2.1 ≠ (TX1 b).2.1 := by decide +kernel
theorem tyX1_ok : ∀ k, k < 2 → parseFieldDescriptor (TX1 k).2.2.1 = some (tyX1 k) := by decide +kernel
abbrev cX1_init : ByteArray := prog_3_method_1_code
def yX1_init : MethodName := ⟨RX1, "<init>", "()V"⟩
abbrev cX1_isFull : ByteArray := prog_3_method_2_code
def yX1_isFull : MethodName := ⟨RX1, "isFull", "()Z"⟩
abbrev cX1_create : ByteArray := prog_3_method_3_code
def yX1_create : MethodName := ⟨RX1, "create", "(I)I"⟩
abbrev cX1_numberOf : ByteArray := prog_3_method_4_code
def yX1_numberOf : MethodName := ⟨RX1, "numberOf", "(I)I"⟩
abbrev cX1_setNumber : ByteArray := prog_3_method_5_code
def yX1_setNumber : MethodName := ⟨RX1, "setNumber", "(II)V"⟩
def RX2 : String := "WidenDesk$Numbers"
def TX2 : u_T := fun k => match k with
  | _ => ("", "", "", false)
def tyX2 : Nat → FieldType := fun k => match k with
  | _ => .int
abbrev wsX20 : List Cond := u_ws RX2 TX2 0
theorem nmX2 : ∀ a, a < 0 → ∀ b, b < 0 → a ≠ b → (TX2 a).2.1 ≠ (TX2 b).2.1 := by decide +kernel
theorem tyX2_ok : ∀ k, k < 0 → parseFieldDescriptor (TX2 k).2.2.1 = some (tyX2 k) := by decide +kernel
abbrev cX2_widens : ByteArray := prog_4_method_2_code
def yX2_widens : MethodName := ⟨RX2, "widens", "(II)Z"⟩
abbrev cX2_targets : ByteArray := prog_4_method_3_code
def yX2_targets : MethodName := ⟨RX2, "targets", "(I)I"⟩
abbrev cX2_leastOf : ByteArray := prog_4_method_4_code
def yX2_leastOf : MethodName := ⟨RX2, "leastOf", "(I)I"⟩
abbrev cX2_leastOfTwo : ByteArray := prog_4_method_5_code
def yX2_leastOfTwo : MethodName := ⟨RX2, "leastOfTwo", "(II)I"⟩
abbrev cX2_countChains : ByteArray := prog_4_method_6_code
def yX2_countChains : MethodName := ⟨RX2, "countChains", "(III)I"⟩
abbrev cX2_countEnds : ByteArray := prog_4_method_7_code
def yX2_countEnds : MethodName := ⟨RX2, "countEnds", "(JII)I"⟩
abbrev cX2_made : ByteArray := prog_4_method_8_code
def yX2_made : MethodName := ⟨RX2, "made", "(IJ)J"⟩
abbrev cX2_ofWhole : ByteArray := prog_4_method_9_code
def yX2_ofWhole : MethodName := ⟨RX2, "ofWhole", "(IJ)J"⟩
abbrev cX2_widened : ByteArray := prog_4_method_10_code
def yX2_widened : MethodName := ⟨RX2, "widened", "(JII)J"⟩
abbrev cX2_hasNumber : ByteArray := prog_4_method_11_code
def yX2_hasNumber : MethodName := ⟨RX2, "hasNumber", "(JII)Z"⟩
abbrev cX2_sameNumber : ByteArray := prog_4_method_12_code
def yX2_sameNumber : MethodName := ⟨RX2, "sameNumber", "(JII)J"⟩
abbrev cX2_lowest : ByteArray := prog_4_method_13_code
def yX2_lowest : MethodName := ⟨RX2, "lowest", "(I)J"⟩
abbrev cX2_highest : ByteArray := prog_4_method_14_code
def yX2_highest : MethodName := ⟨RX2, "highest", "(I)J"⟩
abbrev cX2_isBetween : ByteArray := prog_4_method_15_code
def yX2_isBetween : MethodName := ⟨RX2, "isBetween", "(JI)Z"⟩
abbrev cX2_isWhole : ByteArray := prog_4_method_16_code
def yX2_isWhole : MethodName := ⟨RX2, "isWhole", "(JIJ)Z"⟩
abbrev cX2_asDouble : ByteArray := prog_4_method_17_code
def yX2_asDouble : MethodName := ⟨RX2, "asDouble", "(JI)J"⟩
abbrev cX2_nearest : ByteArray := prog_4_method_18_code
def yX2_nearest : MethodName := ⟨RX2, "nearest", "(IJI)J"⟩
abbrev cX2_signedFloat : ByteArray := prog_4_method_19_code
def yX2_signedFloat : MethodName := ⟨RX2, "signedFloat", "(ZJ)J"⟩
abbrev cX2_signedDouble : ByteArray := prog_4_method_20_code
def yX2_signedDouble : MethodName := ⟨RX2, "signedDouble", "(ZJ)J"⟩
abbrev cX2_rounded : ByteArray := prog_4_method_21_code
def yX2_rounded : MethodName := ⟨RX2, "rounded", "(JIII)J"⟩
abbrev cX2_doubleOfFloat : ByteArray := prog_4_method_22_code
def yX2_doubleOfFloat : MethodName := ⟨RX2, "doubleOfFloat", "(J)J"⟩
abbrev cX2_floatOfDouble : ByteArray := prog_4_method_23_code
def yX2_floatOfDouble : MethodName := ⟨RX2, "floatOfDouble", "(J)J"⟩
abbrev cX2_hasWhole : ByteArray := prog_4_method_24_code
def yX2_hasWhole : MethodName := ⟨RX2, "hasWhole", "(J)Z"⟩
abbrev cX2_wholeOf : ByteArray := prog_4_method_25_code
def yX2_wholeOf : MethodName := ⟨RX2, "wholeOf", "(J)J"⟩
abbrev cX2_exponentOf : ByteArray := prog_4_method_26_code
def yX2_exponentOf : MethodName := ⟨RX2, "exponentOf", "(J)I"⟩
abbrev cX2_significand : ByteArray := prog_4_method_27_code
def yX2_significand : MethodName := ⟨RX2, "significand", "(J)J"⟩
def RX3 : String := "WidenDesk$Reader"
def TX3 : u_T := fun k => match k with
  | 0 => ("WidenDesk$Reader", "letters", "[I", true)
  | 1 => ("WidenDesk$Reader", "length", "I", false)
  | 2 => ("WidenDesk$Reader", "arrayType", "I", false)
  | 3 => ("WidenDesk$Reader", "count", "I", false)
  | 4 => ("WidenDesk$Reader", "types", "[I", true)
  | 5 => ("WidenDesk$Reader", "numbers", "[J", true)
  | _ => ("WidenDesk$Reader", "next", "I", false)
def tyX3 : Nat → FieldType := fun k => match k with
  | 0 => .array .int
  | 1 => .int
  | 2 => .int
  | 3 => .int
  | 4 => .array .int
  | 5 => .array .long
  | _ => .int
abbrev wsX30 : List Cond := u_ws RX3 TX3 7
theorem nmX3 : ∀ a, a < 7 → ∀ b, b < 7 → a ≠ b → (TX3 a).2.1 ≠ (TX3 b).2.1 := by decide +kernel
theorem tyX3_ok : ∀ k, k < 7 → parseFieldDescriptor (TX3 k).2.2.1 = some (tyX3 k) := by decide +kernel
abbrev cX3_init : ByteArray := prog_5_method_1_code
def yX3_init : MethodName := ⟨RX3, "<init>", "()V"⟩
abbrev cX3_append : ByteArray := prog_5_method_2_code
def yX3_append : MethodName := ⟨RX3, "append", "(I)Z"⟩
abbrev cX3_scan : ByteArray := prog_5_method_3_code
def yX3_scan : MethodName := ⟨RX3, "scan", "()I"⟩
abbrev cX3_letter : ByteArray := prog_5_method_4_code
def yX3_letter : MethodName := ⟨RX3, "letter", "()I"⟩
abbrev cX3_skip : ByteArray := prog_5_method_5_code
def yX3_skip : MethodName := ⟨RX3, "skip", "(C)Z"⟩
abbrev cX3_arrayTypeOf : ByteArray := prog_5_method_6_code
def yX3_arrayTypeOf : MethodName := ⟨RX3, "arrayTypeOf", "(I)I"⟩
abbrev cX3_primitiveOf : ByteArray := prog_5_method_7_code
def yX3_primitiveOf : MethodName := ⟨RX3, "primitiveOf", "(I)I"⟩
abbrev cX3_readElement : ByteArray := prog_5_method_8_code
def yX3_readElement : MethodName := ⟨RX3, "readElement", "()Z"⟩
abbrev cX3_readNumber : ByteArray := prog_5_method_9_code
def yX3_readNumber : MethodName := ⟨RX3, "readNumber", "(I)Z"⟩
abbrev cX3_isDigit : ByteArray := prog_5_method_10_code
def yX3_isDigit : MethodName := ⟨RX3, "isDigit", "(I)Z"⟩
abbrev cX3_keep : ByteArray := prog_5_method_11_code
def yX3_keep : MethodName := ⟨RX3, "keep", "(IJ)V"⟩
def RX4 : String := "WidenDesk$Rules"
def TX4 : u_T := fun k => match k with
  | _ => ("", "", "", false)
def tyX4 : Nat → FieldType := fun k => match k with
  | _ => .int
abbrev wsX40 : List Cond := u_ws RX4 TX4 0
theorem nmX4 : ∀ a, a < 0 → ∀ b, b < 0 → a ≠ b → (TX4 a).2.1 ≠ (TX4 b).2.1 := by decide +kernel
theorem tyX4_ok : ∀ k, k < 0 → parseFieldDescriptor (TX4 k).2.2.1 = some (tyX4 k) := by decide +kernel
abbrev cX4_isMark : ByteArray := prog_6_method_2_code
def yX4_isMark : MethodName := ⟨RX4, "isMark", "(I)Z"⟩
abbrev cX4_isNumeric : ByteArray := prog_6_method_3_code
def yX4_isNumeric : MethodName := ⟨RX4, "isNumeric", "(I)Z"⟩
abbrev cX4_fetchedForm : ByteArray := prog_6_method_4_code
def yX4_fetchedForm : MethodName := ⟨RX4, "fetchedForm", "(I)I"⟩
abbrev cX4_fetchFit : ByteArray := prog_6_method_5_code
def yX4_fetchFit : MethodName := ⟨RX4, "fetchFit", "(I)I"⟩
abbrev cX4_getFit : ByteArray := prog_6_method_6_code
def yX4_getFit : MethodName := ⟨RX4, "getFit", "(II)I"⟩
abbrev cX4_putFit : ByteArray := prog_6_method_7_code
def yX4_putFit : MethodName := ⟨RX4, "putFit", "(III)I"⟩
abbrev cX4_accepts : ByteArray := prog_6_method_8_code
def yX4_accepts : MethodName := ⟨RX4, "accepts", "(II)Z"⟩
abbrev cX4_placed : ByteArray := prog_6_method_9_code
def yX4_placed : MethodName := ⟨RX4, "placed", "(IZ)I"⟩
abbrev cX4_joinedType : ByteArray := prog_6_method_10_code
def yX4_joinedType : MethodName := ⟨RX4, "joinedType", "(II)I"⟩
def RX5 : String := "WidenDesk$Shelf"
def TX5 : u_T := fun k => match k with
  | 0 => ("WidenDesk$Shelf", "things", "[I", true)
  | 1 => ("WidenDesk$Shelf", "lengths", "[I", true)
  | 2 => ("WidenDesk$Shelf", "types", "[I", true)
  | _ => ("WidenDesk$Shelf", "codes", "[J", true)
def tyX5 : Nat → FieldType := fun k => match k with
  | 0 => .array .int
  | 1 => .array .int
  | 2 => .array .int
  | _ => .array .long
abbrev wsX50 : List Cond := u_ws RX5 TX5 4
theorem nmX5 : ∀ a, a < 4 → ∀ b, b < 4 → a ≠ b → (TX5 a).2.1 ≠ (TX5 b).2.1 := by decide +kernel
theorem tyX5_ok : ∀ k, k < 4 → parseFieldDescriptor (TX5 k).2.2.1 = some (tyX5 k) := by decide +kernel
abbrev cX5_init : ByteArray := prog_7_method_1_code
def yX5_init : MethodName := ⟨RX5, "<init>", "()V"⟩
abbrev cX5_prepare : ByteArray := prog_7_method_2_code
def yX5_prepare : MethodName := ⟨RX5, "prepare", "(III)V"⟩
abbrev cX5_has : ByteArray := prog_7_method_3_code
def yX5_has : MethodName := ⟨RX5, "has", "(II)Z"⟩
abbrev cX5_typeAt : ByteArray := prog_7_method_4_code
def yX5_typeAt : MethodName := ⟨RX5, "typeAt", "(II)I"⟩
abbrev cX5_codeAt : ByteArray := prog_7_method_5_code
def yX5_codeAt : MethodName := ⟨RX5, "codeAt", "(II)J"⟩
abbrev cX5_set : ByteArray := prog_7_method_6_code
def yX5_set : MethodName := ⟨RX5, "set", "(IIIJ)V"⟩
abbrev cX5_put : ByteArray := prog_7_method_7_code
def yX5_put : MethodName := ⟨RX5, "put", "(IIIJ)V"⟩
abbrev cX5_putAll : ByteArray := prog_7_method_8_code
def yX5_putAll : MethodName := ⟨RX5, "putAll", "(IIIII)V"⟩
abbrev cX5_agree : ByteArray := prog_7_method_9_code
def yX5_agree : MethodName := ⟨RX5, "agree", "(III)Z"⟩
abbrev cX5_stoodBefore : ByteArray := prog_7_method_10_code
def yX5_stoodBefore : MethodName := ⟨RX5, "stoodBefore", "(II)Z"⟩
def RX6 : String := "WidenDesk$Views"
def TX6 : u_T := fun k => match k with
  | 0 => ("WidenDesk$Views", "ways", "[I", true)
  | 1 => ("WidenDesk$Views", "kinds", "[I", true)
  | 2 => ("WidenDesk$Views", "outcomes", "[I", true)
  | _ => ("WidenDesk$Views", "count", "I", false)
def tyX6 : Nat → FieldType := fun k => match k with
  | 0 => .array .int
  | 1 => .array .int
  | 2 => .array .int
  | _ => .int
abbrev wsX60 : List Cond := u_ws RX6 TX6 4
theorem nmX6 : ∀ a, a < 4 → ∀ b, b < 4 → a ≠ b → (TX6 a).2.1 ≠ (TX6 b).2.1 := by decide +kernel
theorem tyX6_ok : ∀ k, k < 4 → parseFieldDescriptor (TX6 k).2.2.1 = some (tyX6 k) := by decide +kernel
abbrev cX6_init : ByteArray := prog_8_method_1_code
def yX6_init : MethodName := ⟨RX6, "<init>", "()V"⟩
abbrev cX6_add : ByteArray := prog_8_method_2_code
def yX6_add : MethodName := ⟨RX6, "add", "(III)Z"⟩
abbrev cX6_allow : ByteArray := prog_8_method_3_code
def yX6_allow : MethodName := ⟨RX6, "allow", "(I)Z"⟩
abbrev cX6_expected : ByteArray := prog_8_method_4_code
def yX6_expected : MethodName := ⟨RX6, "expected", "(III)I"⟩
def RX7 : String := "WidenDesk"
def TX7 : u_T := fun k => match k with
  | 0 => ("WidenDesk", "reader", "LWidenDesk$Reader;", true)
  | 1 => ("WidenDesk", "shelf", "LWidenDesk$Shelf;", true)
  | 2 => ("WidenDesk", "log", "LWidenDesk$Log;", true)
  | 3 => ("WidenDesk", "marks", "LWidenDesk$Marks;", true)
  | 4 => ("WidenDesk", "views", "LWidenDesk$Views;", true)
  | 5 => ("WidenDesk", "rowOf", "[I", true)
  | 6 => ("WidenDesk", "reasons", "[I", true)
  | 7 => ("WidenDesk", "reasonCount", "I", false)
  | 8 => ("WidenDesk", "handForm", "I", false)
  | 9 => ("WidenDesk", "handType", "I", false)
  | _ => ("WidenDesk", "handCode", "J", false)
def tyX7 : Nat → FieldType := fun k => match k with
  | 0 => .object "WidenDesk$Reader"
  | 1 => .object "WidenDesk$Shelf"
  | 2 => .object "WidenDesk$Log"
  | 3 => .object "WidenDesk$Marks"
  | 4 => .object "WidenDesk$Views"
  | 5 => .array .int
  | 6 => .array .int
  | 7 => .int
  | 8 => .int
  | 9 => .int
  | _ => .long
abbrev wsX70 : List Cond := u_ws RX7 TX7 11
theorem nmX7 : ∀ a, a < 11 → ∀ b, b < 11 → a ≠ b → (TX7 a).2.1 ≠ (TX7 b).2.1 := by decide +kernel
theorem tyX7_ok : ∀ k, k < 11 → parseFieldDescriptor (TX7 k).2.2.1 = some (tyX7 k) := by decide +kernel
abbrev cX7_init : ByteArray := prog_1_method_1_code
def yX7_init : MethodName := ⟨RX7, "<init>", "()V"⟩
abbrev cX7_write : ByteArray := prog_1_method_2_code
def yX7_write : MethodName := ⟨RX7, "write", "(I)I"⟩
abbrev cX7_wipe : ByteArray := prog_1_method_3_code
def yX7_wipe : MethodName := ⟨RX7, "wipe", "()I"⟩
abbrev cX7_fault : ByteArray := prog_1_method_4_code
def yX7_fault : MethodName := ⟨RX7, "fault", "()I"⟩
abbrev cX7_tell : ByteArray := prog_1_method_5_code
def yX7_tell : MethodName := ⟨RX7, "tell", "(I)I"⟩
abbrev cX7_about : ByteArray := prog_1_method_6_code
def yX7_about : MethodName := ⟨RX7, "about", "(I)I"⟩
abbrev cX7_make : ByteArray := prog_1_method_7_code
def yX7_make : MethodName := ⟨RX7, "make", "(III)I"⟩
abbrev cX7_share : ByteArray := prog_1_method_8_code
def yX7_share : MethodName := ⟨RX7, "share", "(II)I"⟩
abbrev cX7_thing : ByteArray := prog_1_method_9_code
def yX7_thing : MethodName := ⟨RX7, "thing", "(II)I"⟩
abbrev cX7_same : ByteArray := prog_1_method_10_code
def yX7_same : MethodName := ⟨RX7, "same", "(II)I"⟩
abbrev cX7_cell : ByteArray := prog_1_method_11_code
def yX7_cell : MethodName := ⟨RX7, "cell", "(III)J"⟩
abbrev cX7_give : ByteArray := prog_1_method_12_code
def yX7_give : MethodName := ⟨RX7, "give", "(IJ)I"⟩
abbrev cX7_mark : ByteArray := prog_1_method_13_code
def yX7_mark : MethodName := ⟨RX7, "mark", "(II)I"⟩
abbrev cX7_text : ByteArray := prog_1_method_14_code
def yX7_text : MethodName := ⟨RX7, "text", "(I)I"⟩
abbrev cX7_turn : ByteArray := prog_1_method_15_code
def yX7_turn : MethodName := ⟨RX7, "turn", "()I"⟩
abbrev cX7_hand : ByteArray := prog_1_method_16_code
def yX7_hand : MethodName := ⟨RX7, "hand", "(I)J"⟩
abbrev cX7_grow : ByteArray := prog_1_method_17_code
def yX7_grow : MethodName := ⟨RX7, "grow", "(I)I"⟩
abbrev cX7_take : ByteArray := prog_1_method_18_code
def yX7_take : MethodName := ⟨RX7, "take", "(III)I"⟩
abbrev cX7_fetch : ByteArray := prog_1_method_19_code
def yX7_fetch : MethodName := ⟨RX7, "fetch", "(II)I"⟩
abbrev cX7_lay : ByteArray := prog_1_method_20_code
def yX7_lay : MethodName := ⟨RX7, "lay", "(II)I"⟩
abbrev cX7_scatter : ByteArray := prog_1_method_21_code
def yX7_scatter : MethodName := ⟨RX7, "scatter", "(IJ)I"⟩
abbrev cX7_convert : ByteArray := prog_1_method_22_code
def yX7_convert : MethodName := ⟨RX7, "convert", "(III)I"⟩
abbrev cX7_report : ByteArray := prog_1_method_23_code
def yX7_report : MethodName := ⟨RX7, "report", "(I)I"⟩
abbrev cX7_chains : ByteArray := prog_1_method_24_code
def yX7_chains : MethodName := ⟨RX7, "chains", "(II)I"⟩
abbrev cX7_carry : ByteArray := prog_1_method_25_code
def yX7_carry : MethodName := ⟨RX7, "carry", "(III)I"⟩
abbrev cX7_ends : ByteArray := prog_1_method_26_code
def yX7_ends : MethodName := ⟨RX7, "ends", "(III)I"⟩
abbrev cX7_least : ByteArray := prog_1_method_27_code
def yX7_least : MethodName := ⟨RX7, "least", "(I)I"⟩
abbrev cX7_join : ByteArray := prog_1_method_28_code
def yX7_join : MethodName := ⟨RX7, "join", "(III)I"⟩
abbrev cX7_cut : ByteArray := prog_1_method_29_code
def yX7_cut : MethodName := ⟨RX7, "cut", "(III)I"⟩
abbrev cX7_alike : ByteArray := prog_1_method_30_code
def yX7_alike : MethodName := ⟨RX7, "alike", "(II)I"⟩
abbrev cX7_unlike : ByteArray := prog_1_method_31_code
def yX7_unlike : MethodName := ⟨RX7, "unlike", "(I)I"⟩
abbrev cX7_total : ByteArray := prog_1_method_32_code
def yX7_total : MethodName := ⟨RX7, "total", "(II)I"⟩
abbrev cX7_see : ByteArray := prog_1_method_33_code
def yX7_see : MethodName := ⟨RX7, "see", "(III)I"⟩
abbrev cX7_unsee : ByteArray := prog_1_method_34_code
def yX7_unsee : MethodName := ⟨RX7, "unsee", "()I"⟩
abbrev cX7_which : ByteArray := prog_1_method_35_code
def yX7_which : MethodName := ⟨RX7, "which", "()I"⟩
abbrev cX7_undo : ByteArray := prog_1_method_36_code
def yX7_undo : MethodName := ⟨RX7, "undo", "()I"⟩
abbrev cX7_isSlot : ByteArray := prog_1_method_37_code
def yX7_isSlot : MethodName := ⟨RX7, "isSlot", "(I)Z"⟩
abbrev cX7_isPrimitive : ByteArray := prog_1_method_38_code
def yX7_isPrimitive : MethodName := ⟨RX7, "isPrimitive", "(I)Z"⟩
abbrev cX7_isMarkNumber : ByteArray := prog_1_method_39_code
def yX7_isMarkNumber : MethodName := ⟨RX7, "isMarkNumber", "(I)Z"⟩
abbrev cX7_isWay : ByteArray := prog_1_method_40_code
def yX7_isWay : MethodName := ⟨RX7, "isWay", "(I)Z"⟩
abbrev cX7_thingIn : ByteArray := prog_1_method_41_code
def yX7_thingIn : MethodName := ⟨RX7, "thingIn", "(I)I"⟩
abbrev cX7_holdsArray : ByteArray := prog_1_method_42_code
def yX7_holdsArray : MethodName := ⟨RX7, "holdsArray", "(I)Z"⟩
abbrev cX7_hold : ByteArray := prog_1_method_43_code
def yX7_hold : MethodName := ⟨RX7, "hold", "(IIJ)V"⟩
abbrev cX7_shownCode : ByteArray := prog_1_method_44_code
def yX7_shownCode : MethodName := ⟨RX7, "shownCode", "(IJ)J"⟩
abbrev cX7_markIndex : ByteArray := prog_1_method_45_code
def yX7_markIndex : MethodName := ⟨RX7, "markIndex", "(IJ)J"⟩
abbrev cX7_fetchReason : ByteArray := prog_1_method_46_code
def yX7_fetchReason : MethodName := ⟨RX7, "fetchReason", "(II)I"⟩
abbrev cX7_replace : ByteArray := prog_1_method_47_code
def yX7_replace : MethodName := ⟨RX7, "replace", "(II)V"⟩
abbrev cX7_newRow : ByteArray := prog_1_method_48_code
def yX7_newRow : MethodName := ⟨RX7, "newRow", "(II)I"⟩
abbrev cX7_freeRow : ByteArray := prog_1_method_49_code
def yX7_freeRow : MethodName := ⟨RX7, "freeRow", "()I"⟩
abbrev cX7_isInSlots : ByteArray := prog_1_method_50_code
def yX7_isInSlots : MethodName := ⟨RX7, "isInSlots", "(I)Z"⟩
abbrev cX7_firstSlotOf : ByteArray := prog_1_method_51_code
def yX7_firstSlotOf : MethodName := ⟨RX7, "firstSlotOf", "(I)I"⟩
abbrev cX7_countArrays : ByteArray := prog_1_method_52_code
def yX7_countArrays : MethodName := ⟨RX7, "countArrays", "(Z)I"⟩
abbrev cX7_countEmptySlots : ByteArray := prog_1_method_53_code
def yX7_countEmptySlots : MethodName := ⟨RX7, "countEmptySlots", "()I"⟩
abbrev cX7_countFine : ByteArray := prog_1_method_54_code
def yX7_countFine : MethodName := ⟨RX7, "countFine", "()I"⟩
abbrev cX7_convertReason : ByteArray := prog_1_method_55_code
def yX7_convertReason : MethodName := ⟨RX7, "convertReason", "(IIII)I"⟩
abbrev cX7_convertElement : ByteArray := prog_1_method_56_code
def yX7_convertElement : MethodName := ⟨RX7, "convertElement", "(IIII)V"⟩
abbrev cX7_carryThrough : ByteArray := prog_1_method_57_code
def yX7_carryThrough : MethodName := ⟨RX7, "carryThrough", "(IJI)I"⟩
def RX8 : String := "WidenDeskModel"
def TX8 : u_T := fun k => match k with
  | 0 => ("WidenDeskModel", "text", "[I", true)
  | 1 => ("WidenDeskModel", "length", "I", false)
  | 2 => ("WidenDeskModel", "thing", "[I", true)
  | 3 => ("WidenDeskModel", "rowOf", "[I", true)
  | 4 => ("WidenDeskModel", "kindOf", "[I", true)
  | 5 => ("WidenDeskModel", "size", "[I", true)
  | 6 => ("WidenDeskModel", "form", "[I", true)
  | 7 => ("WidenDeskModel", "kind", "[I", true)
  | 8 => ("WidenDeskModel", "value", "[J", true)
  | 9 => ("WidenDeskModel", "number", "[I", true)
  | 10 => ("WidenDeskModel", "isStar", "[Z", true)
  | 11 => ("WidenDeskModel", "marks", "I", false)
  | 12 => ("WidenDeskModel", "handForm", "I", false)
  | 13 => ("WidenDeskModel", "handKind", "I", false)
  | 14 => ("WidenDeskModel", "handValue", "J", false)
  | 15 => ("WidenDeskModel", "reports", "[I", true)
  | 16 => ("WidenDeskModel", "reported", "I", false)
  | 17 => ("WidenDeskModel", "oldThing", "[I", true)
  | 18 => ("WidenDeskModel", "oldRow", "[I", true)
  | 19 => ("WidenDeskModel", "oldKindOf", "[I", true)
  | 20 => ("WidenDeskModel", "oldSize", "[I", true)
  | 21 => ("WidenDeskModel", "oldForm", "[I", true)
  | 22 => ("WidenDeskModel", "oldKind", "[I", true)
  | 23 => ("WidenDeskModel", "oldValue", "[J", true)
  | 24 => ("WidenDeskModel", "oldNumber", "[I", true)
  | 25 => ("WidenDeskModel", "oldMarks", "[I", true)
  | 26 => ("WidenDeskModel", "doings", "I", false)
  | 27 => ("WidenDeskModel", "next", "I", false)
  | 28 => ("WidenDeskModel", "seenHow", "[I", true)
  | 29 => ("WidenDeskModel", "seenKind", "[I", true)
  | 30 => ("WidenDeskModel", "seenReason", "[I", true)
  | 31 => ("WidenDeskModel", "seen", "I", false)
  | 32 => ("WidenDeskModel", "newKind", "I", false)
  | 33 => ("WidenDeskModel", "newSize", "I", false)
  | 34 => ("WidenDeskModel", "newForm", "[I", true)
  | 35 => ("WidenDeskModel", "newCellKind", "[I", true)
  | 36 => ("WidenDeskModel", "newValue", "[J", true)
  | 37 => ("WidenDeskModel", "gotForm", "I", false)
  | 38 => ("WidenDeskModel", "gotKind", "I", false)
  | 39 => ("WidenDeskModel", "gotValue", "J", false)
  | 40 => ("WidenDeskModel", "ends", "[J", true)
  | 41 => ("WidenDeskModel", "manyEnds", "[I", true)
  | 42 => ("WidenDeskModel", "whole", "J", false)
  | 43 => ("WidenDeskModel", "power", "I", false)
  | 44 => ("WidenDeskModel", "at", "I", false)
  | 45 => ("WidenDeskModel", "read", "J", false)
  | _ => ("WidenDeskModel", "isWhole", "Z", false)
def tyX8 : Nat → FieldType := fun k => match k with
  | 0 => .array .int
  | 1 => .int
  | 2 => .array .int
  | 3 => .array .int
  | 4 => .array .int
  | 5 => .array .int
  | 6 => .array .int
  | 7 => .array .int
  | 8 => .array .long
  | 9 => .array .int
  | 10 => .array .boolean
  | 11 => .int
  | 12 => .int
  | 13 => .int
  | 14 => .long
  | 15 => .array .int
  | 16 => .int
  | 17 => .array .int
  | 18 => .array .int
  | 19 => .array .int
  | 20 => .array .int
  | 21 => .array .int
  | 22 => .array .int
  | 23 => .array .long
  | 24 => .array .int
  | 25 => .array .int
  | 26 => .int
  | 27 => .int
  | 28 => .array .int
  | 29 => .array .int
  | 30 => .array .int
  | 31 => .int
  | 32 => .int
  | 33 => .int
  | 34 => .array .int
  | 35 => .array .int
  | 36 => .array .long
  | 37 => .int
  | 38 => .int
  | 39 => .long
  | 40 => .array .long
  | 41 => .array .int
  | 42 => .long
  | 43 => .int
  | 44 => .int
  | 45 => .long
  | _ => .boolean
abbrev wsX80 : List Cond := u_ws RX8 TX8 47
theorem nmX8 : ∀ a, a < 47 → ∀ b, b < 47 → a ≠ b → (TX8 a).2.1 ≠ (TX8 b).2.1 := by decide +kernel
theorem tyX8_ok : ∀ k, k < 47 → parseFieldDescriptor (TX8 k).2.2.1 = some (tyX8 k) := by decide +kernel
abbrev cX8_init : ByteArray := prog_10_method_1_code
def yX8_init : MethodName := ⟨RX8, "<init>", "()V"⟩
abbrev cX8_in : ByteArray := prog_10_method_3_code
def yX8_in : MethodName := ⟨RX8, "in", "(JJJ)Z"⟩
abbrev cX8_has : ByteArray := prog_10_method_4_code
def yX8_has : MethodName := ⟨RX8, "has", "(II)Z"⟩
abbrev cX8_isPlain : ByteArray := prog_10_method_5_code
def yX8_isPlain : MethodName := ⟨RX8, "isPlain", "(I)Z"⟩
abbrev cX8_lengthOf : ByteArray := prog_10_method_6_code
def yX8_lengthOf : MethodName := ⟨RX8, "lengthOf", "(J)I"⟩
abbrev cX8_takeApart : ByteArray := prog_10_method_7_code
def yX8_takeApart : MethodName := ⟨RX8, "takeApart", "(IJ)V"⟩
abbrev cX8_rounded : ByteArray := prog_10_method_8_code
def yX8_rounded : MethodName := ⟨RX8, "rounded", "(IJI)J"⟩
abbrev cX8_fits : ByteArray := prog_10_method_9_code
def yX8_fits : MethodName := ⟨RX8, "fits", "(IJ)Z"⟩
abbrev cX8_widens : ByteArray := prog_10_method_10_code
def yX8_widens : MethodName := ⟨RX8, "widens", "(II)Z"⟩
abbrev cX8_widened : ByteArray := prog_10_method_11_code
def yX8_widened : MethodName := ⟨RX8, "widened", "(IJI)J"⟩
abbrev cX8_given : ByteArray := prog_10_method_12_code
def yX8_given : MethodName := ⟨RX8, "given", "(IJ)J"⟩
abbrev cX8_isOne : ByteArray := prog_10_method_13_code
def yX8_isOne : MethodName := ⟨RX8, "isOne", "(IJI)Z"⟩
abbrev cX8_asOne : ByteArray := prog_10_method_14_code
def yX8_asOne : MethodName := ⟨RX8, "asOne", "(IJI)J"⟩
abbrev cX8_write : ByteArray := prog_10_method_15_code
def yX8_write : MethodName := ⟨RX8, "write", "(I)I"⟩
abbrev cX8_wipe : ByteArray := prog_10_method_16_code
def yX8_wipe : MethodName := ⟨RX8, "wipe", "()I"⟩
abbrev cX8_plainOf : ByteArray := prog_10_method_17_code
def yX8_plainOf : MethodName := ⟨RX8, "plainOf", "(I)I"⟩
abbrev cX8_rowKindOf : ByteArray := prog_10_method_18_code
def yX8_rowKindOf : MethodName := ⟨RX8, "rowKindOf", "(I)I"⟩
abbrev cX8_letter : ByteArray := prog_10_method_19_code
def yX8_letter : MethodName := ⟨RX8, "letter", "()I"⟩
abbrev cX8_readNumber : ByteArray := prog_10_method_20_code
def yX8_readNumber : MethodName := ⟨RX8, "readNumber", "(I)V"⟩
abbrev cX8_isNumber : ByteArray := prog_10_method_21_code
def yX8_isNumber : MethodName := ⟨RX8, "isNumber", "(IJ)Z"⟩
abbrev cX8_putTold : ByteArray := prog_10_method_22_code
def yX8_putTold : MethodName := ⟨RX8, "putTold", "(IIJ)V"⟩
abbrev cX8_toldOf : ByteArray := prog_10_method_23_code
def yX8_toldOf : MethodName := ⟨RX8, "toldOf", "(IJ)J"⟩
abbrev cX8_readCell : ByteArray := prog_10_method_24_code
def yX8_readCell : MethodName := ⟨RX8, "readCell", "()Z"⟩
abbrev cX8_readText : ByteArray := prog_10_method_25_code
def yX8_readText : MethodName := ⟨RX8, "readText", "()I"⟩
abbrev cX8_fault : ByteArray := prog_10_method_26_code
def yX8_fault : MethodName := ⟨RX8, "fault", "()I"⟩
abbrev cX8_isSlot : ByteArray := prog_10_method_27_code
def yX8_isSlot : MethodName := ⟨RX8, "isSlot", "(I)Z"⟩
abbrev cX8_holdsRow : ByteArray := prog_10_method_28_code
def yX8_holdsRow : MethodName := ⟨RX8, "holdsRow", "(I)Z"⟩
abbrev cX8_holdsPlain : ByteArray := prog_10_method_29_code
def yX8_holdsPlain : MethodName := ⟨RX8, "holdsPlain", "(I)Z"⟩
abbrev cX8_isHeld : ByteArray := prog_10_method_30_code
def yX8_isHeld : MethodName := ⟨RX8, "isHeld", "(I)Z"⟩
abbrev cX8_freeRow : ByteArray := prog_10_method_31_code
def yX8_freeRow : MethodName := ⟨RX8, "freeRow", "()I"⟩
abbrev cX8_note : ByteArray := prog_10_method_32_code
def yX8_note : MethodName := ⟨RX8, "note", "()V"⟩
abbrev cX8_undo : ByteArray := prog_10_method_33_code
def yX8_undo : MethodName := ⟨RX8, "undo", "()I"⟩
abbrev cX8_holdNew : ByteArray := prog_10_method_34_code
def yX8_holdNew : MethodName := ⟨RX8, "holdNew", "(I)V"⟩
abbrev cX8_tell : ByteArray := prog_10_method_35_code
def yX8_tell : MethodName := ⟨RX8, "tell", "(I)I"⟩
abbrev cX8_rowsHeld : ByteArray := prog_10_method_36_code
def yX8_rowsHeld : MethodName := ⟨RX8, "rowsHeld", "(I)I"⟩
abbrev cX8_nothings : ByteArray := prog_10_method_37_code
def yX8_nothings : MethodName := ⟨RX8, "nothings", "()I"⟩
abbrev cX8_fineOnes : ByteArray := prog_10_method_38_code
def yX8_fineOnes : MethodName := ⟨RX8, "fineOnes", "()I"⟩
abbrev cX8_about : ByteArray := prog_10_method_39_code
def yX8_about : MethodName := ⟨RX8, "about", "(I)I"⟩
abbrev cX8_make : ByteArray := prog_10_method_40_code
def yX8_make : MethodName := ⟨RX8, "make", "(III)I"⟩
abbrev cX8_share : ByteArray := prog_10_method_41_code
def yX8_share : MethodName := ⟨RX8, "share", "(II)I"⟩
abbrev cX8_thing : ByteArray := prog_10_method_42_code
def yX8_thing : MethodName := ⟨RX8, "thing", "(II)I"⟩
abbrev cX8_same : ByteArray := prog_10_method_43_code
def yX8_same : MethodName := ⟨RX8, "same", "(II)I"⟩
abbrev cX8_get : ByteArray := prog_10_method_44_code
def yX8_get : MethodName := ⟨RX8, "get", "(II)V"⟩
abbrev cX8_kindTold : ByteArray := prog_10_method_45_code
def yX8_kindTold : MethodName := ⟨RX8, "kindTold", "(IIJ)I"⟩
abbrev cX8_told : ByteArray := prog_10_method_46_code
def yX8_told : MethodName := ⟨RX8, "told", "(IJ)J"⟩
abbrev cX8_cell : ByteArray := prog_10_method_47_code
def yX8_cell : MethodName := ⟨RX8, "cell", "(III)J"⟩
abbrev cX8_hold : ByteArray := prog_10_method_48_code
def yX8_hold : MethodName := ⟨RX8, "hold", "(IIJ)V"⟩
abbrev cX8_give : ByteArray := prog_10_method_49_code
def yX8_give : MethodName := ⟨RX8, "give", "(IJ)I"⟩
abbrev cX8_mark : ByteArray := prog_10_method_50_code
def yX8_mark : MethodName := ⟨RX8, "mark", "(II)I"⟩
abbrev cX8_text : ByteArray := prog_10_method_51_code
def yX8_text : MethodName := ⟨RX8, "text", "(I)I"⟩
abbrev cX8_turn : ByteArray := prog_10_method_52_code
def yX8_turn : MethodName := ⟨RX8, "turn", "()I"⟩
abbrev cX8_hand : ByteArray := prog_10_method_53_code
def yX8_hand : MethodName := ⟨RX8, "hand", "(I)J"⟩
abbrev cX8_grow : ByteArray := prog_10_method_54_code
def yX8_grow : MethodName := ⟨RX8, "grow", "(I)I"⟩
abbrev cX8_withOut : ByteArray := prog_10_method_55_code
def yX8_withOut : MethodName := ⟨RX8, "withOut", "(IZ)I"⟩
abbrev cX8_reasonOf : ByteArray := prog_10_method_56_code
def yX8_reasonOf : MethodName := ⟨RX8, "reasonOf", "(I)I"⟩
abbrev cX8_takeFrom : ByteArray := prog_10_method_57_code
def yX8_takeFrom : MethodName := ⟨RX8, "takeFrom", "(II)I"⟩
abbrev cX8_bring : ByteArray := prog_10_method_58_code
def yX8_bring : MethodName := ⟨RX8, "bring", "(IIIJ)I"⟩
abbrev cX8_reasonToTake : ByteArray := prog_10_method_59_code
def yX8_reasonToTake : MethodName := ⟨RX8, "reasonToTake", "(III)I"⟩
abbrev cX8_reasonToFetch : ByteArray := prog_10_method_60_code
def yX8_reasonToFetch : MethodName := ⟨RX8, "reasonToFetch", "(II)I"⟩
abbrev cX8_reasonToLay : ByteArray := prog_10_method_61_code
def yX8_reasonToLay : MethodName := ⟨RX8, "reasonToLay", "(IIIIJ)I"⟩
abbrev cX8_put : ByteArray := prog_10_method_62_code
def yX8_put : MethodName := ⟨RX8, "put", "(IIIIJ)V"⟩
abbrev cX8_take : ByteArray := prog_10_method_63_code
def yX8_take : MethodName := ⟨RX8, "take", "(III)I"⟩
abbrev cX8_fetch : ByteArray := prog_10_method_64_code
def yX8_fetch : MethodName := ⟨RX8, "fetch", "(II)I"⟩
abbrev cX8_lay : ByteArray := prog_10_method_65_code
def yX8_lay : MethodName := ⟨RX8, "lay", "(II)I"⟩
abbrev cX8_scatter : ByteArray := prog_10_method_66_code
def yX8_scatter : MethodName := ⟨RX8, "scatter", "(IJ)I"⟩
abbrev cX8_convertCell : ByteArray := prog_10_method_67_code
def yX8_convertCell : MethodName := ⟨RX8, "convertCell", "(IIII)I"⟩
abbrev cX8_convert : ByteArray := prog_10_method_68_code
def yX8_convert : MethodName := ⟨RX8, "convert", "(III)I"⟩
abbrev cX8_report : ByteArray := prog_10_method_69_code
def yX8_report : MethodName := ⟨RX8, "report", "(I)I"⟩
abbrev cX8_chains : ByteArray := prog_10_method_70_code
def yX8_chains : MethodName := ⟨RX8, "chains", "(II)I"⟩
abbrev cX8_isWay : ByteArray := prog_10_method_71_code
def yX8_isWay : MethodName := ⟨RX8, "isWay", "(I)Z"⟩
abbrev cX8_carry : ByteArray := prog_10_method_72_code
def yX8_carry : MethodName := ⟨RX8, "carry", "(III)I"⟩
abbrev cX8_addEnd : ByteArray := prog_10_method_73_code
def yX8_addEnd : MethodName := ⟨RX8, "addEnd", "(IJ)V"⟩
abbrev cX8_ends : ByteArray := prog_10_method_74_code
def yX8_ends : MethodName := ⟨RX8, "ends", "(III)I"⟩
abbrev cX8_leastOf : ByteArray := prog_10_method_75_code
def yX8_leastOf : MethodName := ⟨RX8, "leastOf", "(II)I"⟩
abbrev cX8_least : ByteArray := prog_10_method_76_code
def yX8_least : MethodName := ⟨RX8, "least", "(I)I"⟩
abbrev cX8_joinedKind : ByteArray := prog_10_method_77_code
def yX8_joinedKind : MethodName := ⟨RX8, "joinedKind", "(II)I"⟩
abbrev cX8_joinCells : ByteArray := prog_10_method_78_code
def yX8_joinCells : MethodName := ⟨RX8, "joinCells", "(I)V"⟩
abbrev cX8_join : ByteArray := prog_10_method_79_code
def yX8_join : MethodName := ⟨RX8, "join", "(III)I"⟩
abbrev cX8_cut : ByteArray := prog_10_method_80_code
def yX8_cut : MethodName := ⟨RX8, "cut", "(III)I"⟩
abbrev cX8_areAlike : ByteArray := prog_10_method_81_code
def yX8_areAlike : MethodName := ⟨RX8, "areAlike", "(II)Z"⟩
abbrev cX8_alike : ByteArray := prog_10_method_82_code
def yX8_alike : MethodName := ⟨RX8, "alike", "(II)I"⟩
abbrev cX8_areSame : ByteArray := prog_10_method_83_code
def yX8_areSame : MethodName := ⟨RX8, "areSame", "(II)Z"⟩
abbrev cX8_unlike : ByteArray := prog_10_method_84_code
def yX8_unlike : MethodName := ⟨RX8, "unlike", "(I)I"⟩
abbrev cX8_total : ByteArray := prog_10_method_85_code
def yX8_total : MethodName := ⟨RX8, "total", "(II)I"⟩
abbrev cX8_see : ByteArray := prog_10_method_86_code
def yX8_see : MethodName := ⟨RX8, "see", "(III)I"⟩
abbrev cX8_unsee : ByteArray := prog_10_method_87_code
def yX8_unsee : MethodName := ⟨RX8, "unsee", "()I"⟩
abbrev cX8_reasonBy : ByteArray := prog_10_method_88_code
def yX8_reasonBy : MethodName := ⟨RX8, "reasonBy", "(III)I"⟩
abbrev cX8_which : ByteArray := prog_10_method_89_code
def yX8_which : MethodName := ⟨RX8, "which", "()I"⟩
def RJ11 : String := "java/lang/Character"
abbrev cJ11_isValidCodePoint_9a6ad : ByteArray := prog_11_method_11_code
def yJ11_isValidCodePoint_9a6ad : MethodName := ⟨RJ11, "isValidCodePoint", "(I)Z"⟩
abbrev cJ11_highSurrogate_5068e : ByteArray := prog_11_method_28_code
def yJ11_highSurrogate_5068e : MethodName := ⟨RJ11, "highSurrogate", "(I)C"⟩
abbrev cJ11_lowSurrogate_5068e : ByteArray := prog_11_method_29_code
def yJ11_lowSurrogate_5068e : MethodName := ⟨RJ11, "lowSurrogate", "(I)C"⟩
def RJ6 : String := "java/lang/Integer"
abbrev cJ6_numberOfLeadingZeros_0f7a4 : ByteArray := prog_12_method_47_code
def yJ6_numberOfLeadingZeros_0f7a4 : MethodName := ⟨RJ6, "numberOfLeadingZeros", "(I)I"⟩
def RJ13 : String := "java/lang/Long"
abbrev cJ13_numberOfLeadingZeros_95d88 : ByteArray := prog_13_method_48_code
def yJ13_numberOfLeadingZeros_95d88 : MethodName := ⟨RJ13, "numberOfLeadingZeros", "(J)I"⟩
def RJ9 : String := "java/lang/Math"
abbrev cJ9_max_7cf53 : ByteArray := prog_14_method_65_code
def yJ9_max_7cf53 : MethodName := ⟨RJ9, "max", "(II)I"⟩
abbrev cJ9_min_7cf53 : ByteArray := prog_14_method_69_code
def yJ9_min_7cf53 : MethodName := ⟨RJ9, "min", "(II)I"⟩
def RJ0 : String := "java/lang/String"
abbrev cJ0_length_8abf5 : ByteArray := prog_15_method_54_code
def yJ0_length_8abf5 : MethodName := ⟨RJ0, "length", "()I"⟩
abbrev cJ0_indexOf_0f7a4 : ByteArray := prog_15_method_79_code
def yJ0_indexOf_0f7a4 : MethodName := ⟨RJ0, "indexOf", "(I)I"⟩
abbrev cJ0_indexOf_7cf53 : ByteArray := prog_15_method_80_code
def yJ0_indexOf_7cf53 : MethodName := ⟨RJ0, "indexOf", "(II)I"⟩
abbrev cJ0_coder_7d493 : ByteArray := prog_15_method_152_code
def yJ0_coder_7d493 : MethodName := ⟨RJ0, "coder", "()B"⟩
abbrev cJ0_isLatin1_aae02 : ByteArray := prog_15_method_154_code
def yJ0_isLatin1_aae02 : MethodName := ⟨RJ0, "isLatin1", "()Z"⟩
abbrev cJ0_checkBoundsBeginEnd_23922 : ByteArray := prog_15_method_158_code
def yJ0_checkBoundsBeginEnd_23922 : MethodName := ⟨RJ0, "checkBoundsBeginEnd", "(III)V"⟩
def RJ1 : String := "java/lang/StringLatin1"
abbrev cJ1_canEncode_9a6ad : ByteArray := prog_16_method_4_code
def yJ1_canEncode_9a6ad : MethodName := ⟨RJ1, "canEncode", "(I)Z"⟩
abbrev cJ1_indexOf_4cfef : ByteArray := prog_16_method_22_code
def yJ1_indexOf_4cfef : MethodName := ⟨RJ1, "indexOf", "([BIII)I"⟩
abbrev cJ1_indexOfChar_4cfef : ByteArray := prog_16_method_23_code
def yJ1_indexOfChar_4cfef : MethodName := ⟨RJ1, "indexOfChar", "([BIII)I"⟩
def RJ2 : String := "java/lang/StringUTF16"
abbrev cJ2_getChar_3b067 : ByteArray := prog_17_method_5_code
def yJ2_getChar_3b067 : MethodName := ⟨RJ2, "getChar", "([BI)C"⟩
abbrev cJ2_length_9d52b : ByteArray := prog_17_method_6_code
def yJ2_length_9d52b : MethodName := ⟨RJ2, "length", "([B)I"⟩
abbrev cJ2_indexOf_4cfef : ByteArray := prog_17_method_40_code
def yJ2_indexOf_4cfef : MethodName := ⟨RJ2, "indexOf", "([BIII)I"⟩
abbrev cJ2_indexOfChar_4cfef : ByteArray := prog_17_method_47_code
def yJ2_indexOfChar_4cfef : MethodName := ⟨RJ2, "indexOfChar", "([BIII)I"⟩
abbrev cJ2_indexOfCharUnsafe_4cfef : ByteArray := prog_17_method_48_code
def yJ2_indexOfCharUnsafe_4cfef : MethodName := ⟨RJ2, "indexOfCharUnsafe", "([BIII)I"⟩
abbrev cJ2_indexOfSupplementary_4cfef : ByteArray := prog_17_method_49_code
def yJ2_indexOfSupplementary_4cfef : MethodName := ⟨RJ2, "indexOfSupplementary", "([BIII)I"⟩
abbrev cJ2_checkBoundsBeginEnd_d044e : ByteArray := prog_17_method_93_code
def yJ2_checkBoundsBeginEnd_d044e : MethodName := ⟨RJ2, "checkBoundsBeginEnd", "(II[B)V"⟩
def RJ3 : String := "jdk/internal/util/Preconditions"
abbrev cJ3_checkFromToIndex_8c36e : ByteArray := prog_18_method_12_code
def yJ3_checkFromToIndex_8c36e : MethodName := ⟨RJ3, "checkFromToIndex", "(IIILjava/util/function/BiFunction;)I"⟩
def RL : String := "WidenDeskLaw"
abbrev cL_law : ByteArray := code
def yL_law : MethodName := ⟨RL, "law", "([I)Z"⟩
abbrev vwCl : List vw_C := [(RX0, TX0, 8), (RX1, TX1, 2), (RX3, TX3, 7), (RX5, TX5, 4), (RX6, TX6, 4), (RX7, TX7, 11), (RX8, TX8, 47)]
