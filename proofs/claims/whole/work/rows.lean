section
-- ===== PART A: goes FIRST, ahead of the names: the tables' words, and 'selects' of the private methods out of them =====
/-- a private method of a class that the tables say can be made, by its rows of tables_1 -/
def lw_okq (q : MethodName × Nat) : Prop := (q.1.cls ≠ "java/lang/invoke/MethodHandle" ∧ q.1.cls ≠ "java/lang/invoke/VarHandle") ∧ Cond.instantiable q.1.cls q.2 ∈ tables_1 ∧ Cond.privateMethod q.1 ∈ tables_1 ∧ Cond.instanceMethod q.1 ∈ tables_1
theorem lw_p0 : lw_okq (⟨"WidenDesk$Reader", "letter", "()I"⟩, 7) := ⟨⟨by decide +kernel, by decide +kernel⟩, List.mem_of_getElem? (i := 27) (by decide +kernel), List.mem_of_getElem? (i := 207) (by decide +kernel), List.mem_of_getElem? (i := 208) (by decide +kernel)⟩
theorem lw_p1 : lw_okq (⟨"WidenDesk$Reader", "skip", "(C)Z"⟩, 7) := ⟨⟨by decide +kernel, by decide +kernel⟩, List.mem_of_getElem? (i := 27) (by decide +kernel), List.mem_of_getElem? (i := 304) (by decide +kernel), List.mem_of_getElem? (i := 305) (by decide +kernel)⟩
theorem lw_p2 : lw_okq (⟨"WidenDesk$Reader", "readElement", "()Z"⟩, 7) := ⟨⟨by decide +kernel, by decide +kernel⟩, List.mem_of_getElem? (i := 27) (by decide +kernel), List.mem_of_getElem? (i := 308) (by decide +kernel), List.mem_of_getElem? (i := 309) (by decide +kernel)⟩
theorem lw_p3 : lw_okq (⟨"WidenDesk$Reader", "keep", "(IJ)V"⟩, 7) := ⟨⟨by decide +kernel, by decide +kernel⟩, List.mem_of_getElem? (i := 27) (by decide +kernel), List.mem_of_getElem? (i := 315) (by decide +kernel), List.mem_of_getElem? (i := 316) (by decide +kernel)⟩
theorem lw_p4 : lw_okq (⟨"WidenDesk$Reader", "readNumber", "(I)Z"⟩, 7) := ⟨⟨by decide +kernel, by decide +kernel⟩, List.mem_of_getElem? (i := 27) (by decide +kernel), List.mem_of_getElem? (i := 319) (by decide +kernel), List.mem_of_getElem? (i := 320) (by decide +kernel)⟩
theorem lw_p5 : lw_okq (⟨"WidenDesk", "newRow", "(II)I"⟩, 11) := ⟨⟨by decide +kernel, by decide +kernel⟩, List.mem_of_getElem? (i := 19) (by decide +kernel), List.mem_of_getElem? (i := 355) (by decide +kernel), List.mem_of_getElem? (i := 356) (by decide +kernel)⟩
theorem lw_p6 : lw_okq (⟨"WidenDesk", "freeRow", "()I"⟩, 11) := ⟨⟨by decide +kernel, by decide +kernel⟩, List.mem_of_getElem? (i := 19) (by decide +kernel), List.mem_of_getElem? (i := 359) (by decide +kernel), List.mem_of_getElem? (i := 360) (by decide +kernel)⟩
theorem lw_p7 : lw_okq (⟨"WidenDesk", "isInSlots", "(I)Z"⟩, 11) := ⟨⟨by decide +kernel, by decide +kernel⟩, List.mem_of_getElem? (i := 19) (by decide +kernel), List.mem_of_getElem? (i := 363) (by decide +kernel), List.mem_of_getElem? (i := 364) (by decide +kernel)⟩
theorem lw_p8 : lw_okq (⟨"WidenDesk", "firstSlotOf", "(I)I"⟩, 11) := ⟨⟨by decide +kernel, by decide +kernel⟩, List.mem_of_getElem? (i := 19) (by decide +kernel), List.mem_of_getElem? (i := 367) (by decide +kernel), List.mem_of_getElem? (i := 368) (by decide +kernel)⟩
theorem lw_p9 : lw_okq (⟨"WidenDesk", "replace", "(II)V"⟩, 11) := ⟨⟨by decide +kernel, by decide +kernel⟩, List.mem_of_getElem? (i := 19) (by decide +kernel), List.mem_of_getElem? (i := 411) (by decide +kernel), List.mem_of_getElem? (i := 412) (by decide +kernel)⟩
theorem lw_p10 : lw_okq (⟨"WidenDesk$Log", "add", "(IIII)I"⟩, 8) := ⟨⟨by decide +kernel, by decide +kernel⟩, List.mem_of_getElem? (i := 83) (by decide +kernel), List.mem_of_getElem? (i := 419) (by decide +kernel), List.mem_of_getElem? (i := 420) (by decide +kernel)⟩
theorem lw_p11 : lw_okq (⟨"WidenDesk", "countArrays", "(Z)I"⟩, 11) := ⟨⟨by decide +kernel, by decide +kernel⟩, List.mem_of_getElem? (i := 19) (by decide +kernel), List.mem_of_getElem? (i := 428) (by decide +kernel), List.mem_of_getElem? (i := 429) (by decide +kernel)⟩
theorem lw_p12 : lw_okq (⟨"WidenDesk", "holdsArray", "(I)Z"⟩, 11) := ⟨⟨by decide +kernel, by decide +kernel⟩, List.mem_of_getElem? (i := 19) (by decide +kernel), List.mem_of_getElem? (i := 432) (by decide +kernel), List.mem_of_getElem? (i := 433) (by decide +kernel)⟩
theorem lw_p13 : lw_okq (⟨"WidenDesk", "thingIn", "(I)I"⟩, 11) := ⟨⟨by decide +kernel, by decide +kernel⟩, List.mem_of_getElem? (i := 19) (by decide +kernel), List.mem_of_getElem? (i := 436) (by decide +kernel), List.mem_of_getElem? (i := 437) (by decide +kernel)⟩
theorem lw_p14 : lw_okq (⟨"WidenDesk", "countEmptySlots", "()I"⟩, 11) := ⟨⟨by decide +kernel, by decide +kernel⟩, List.mem_of_getElem? (i := 19) (by decide +kernel), List.mem_of_getElem? (i := 440) (by decide +kernel), List.mem_of_getElem? (i := 441) (by decide +kernel)⟩
theorem lw_p15 : lw_okq (⟨"WidenDesk", "countFine", "()I"⟩, 11) := ⟨⟨by decide +kernel, by decide +kernel⟩, List.mem_of_getElem? (i := 19) (by decide +kernel), List.mem_of_getElem? (i := 444) (by decide +kernel), List.mem_of_getElem? (i := 445) (by decide +kernel)⟩
def lw_privs_1 : List (MethodName × Nat) := [(⟨"WidenDesk$Reader", "letter", "()I"⟩, 7), (⟨"WidenDesk$Reader", "skip", "(C)Z"⟩, 7), (⟨"WidenDesk$Reader", "readElement", "()Z"⟩, 7), (⟨"WidenDesk$Reader", "keep", "(IJ)V"⟩, 7), (⟨"WidenDesk$Reader", "readNumber", "(I)Z"⟩, 7), (⟨"WidenDesk", "newRow", "(II)I"⟩, 11), (⟨"WidenDesk", "freeRow", "()I"⟩, 11), (⟨"WidenDesk", "isInSlots", "(I)Z"⟩, 11), (⟨"WidenDesk", "firstSlotOf", "(I)I"⟩, 11), (⟨"WidenDesk", "replace", "(II)V"⟩, 11), (⟨"WidenDesk$Log", "add", "(IIII)I"⟩, 8), (⟨"WidenDesk", "countArrays", "(Z)I"⟩, 11), (⟨"WidenDesk", "holdsArray", "(I)Z"⟩, 11), (⟨"WidenDesk", "thingIn", "(I)I"⟩, 11), (⟨"WidenDesk", "countEmptySlots", "()I"⟩, 11), (⟨"WidenDesk", "countFine", "()I"⟩, 11)]
theorem lw_r1 : ∀ q ∈ lw_privs_1, lw_okq q := List.forall_mem_cons.mpr ⟨lw_p0, List.forall_mem_cons.mpr ⟨lw_p1, List.forall_mem_cons.mpr ⟨lw_p2, List.forall_mem_cons.mpr ⟨lw_p3, List.forall_mem_cons.mpr ⟨lw_p4, List.forall_mem_cons.mpr ⟨lw_p5, List.forall_mem_cons.mpr ⟨lw_p6, List.forall_mem_cons.mpr ⟨lw_p7, List.forall_mem_cons.mpr ⟨lw_p8, List.forall_mem_cons.mpr ⟨lw_p9, List.forall_mem_cons.mpr ⟨lw_p10, List.forall_mem_cons.mpr ⟨lw_p11, List.forall_mem_cons.mpr ⟨lw_p12, List.forall_mem_cons.mpr ⟨lw_p13, List.forall_mem_cons.mpr ⟨lw_p14, List.forall_mem_cons.mpr ⟨lw_p15, fun _ h => absurd h List.not_mem_nil⟩⟩⟩⟩⟩⟩⟩⟩⟩⟩⟩⟩⟩⟩⟩⟩
theorem lw_p16 : lw_okq (⟨"WidenDesk", "shownCode", "(IJ)J"⟩, 11) := ⟨⟨by decide +kernel, by decide +kernel⟩, List.mem_of_getElem? (i := 19) (by decide +kernel), List.mem_of_getElem? (i := 483) (by decide +kernel), List.mem_of_getElem? (i := 484) (by decide +kernel)⟩
theorem lw_p17 : lw_okq (⟨"WidenDesk", "hold", "(IIJ)V"⟩, 11) := ⟨⟨by decide +kernel, by decide +kernel⟩, List.mem_of_getElem? (i := 19) (by decide +kernel), List.mem_of_getElem? (i := 506) (by decide +kernel), List.mem_of_getElem? (i := 507) (by decide +kernel)⟩
theorem lw_p18 : lw_okq (⟨"WidenDesk", "fetchReason", "(II)I"⟩, 11) := ⟨⟨by decide +kernel, by decide +kernel⟩, List.mem_of_getElem? (i := 19) (by decide +kernel), List.mem_of_getElem? (i := 579) (by decide +kernel), List.mem_of_getElem? (i := 580) (by decide +kernel)⟩
theorem lw_p19 : lw_okq (⟨"WidenDesk", "convertReason", "(IIII)I"⟩, 11) := ⟨⟨by decide +kernel, by decide +kernel⟩, List.mem_of_getElem? (i := 19) (by decide +kernel), List.mem_of_getElem? (i := 620) (by decide +kernel), List.mem_of_getElem? (i := 621) (by decide +kernel)⟩
theorem lw_p20 : lw_okq (⟨"WidenDesk", "convertElement", "(IIII)V"⟩, 11) := ⟨⟨by decide +kernel, by decide +kernel⟩, List.mem_of_getElem? (i := 19) (by decide +kernel), List.mem_of_getElem? (i := 655) (by decide +kernel), List.mem_of_getElem? (i := 656) (by decide +kernel)⟩
theorem lw_p21 : lw_okq (⟨"WidenDesk", "carryThrough", "(IJI)I"⟩, 11) := ⟨⟨by decide +kernel, by decide +kernel⟩, List.mem_of_getElem? (i := 19) (by decide +kernel), List.mem_of_getElem? (i := 686) (by decide +kernel), List.mem_of_getElem? (i := 687) (by decide +kernel)⟩
theorem lw_p22 : lw_okq (⟨"WidenDeskModel", "readText", "()I"⟩, 47) := ⟨⟨by decide +kernel, by decide +kernel⟩, List.mem_of_getElem? (i := 791) (by decide +kernel), List.mem_of_getElem? (i := 956) (by decide +kernel), List.mem_of_getElem? (i := 957) (by decide +kernel)⟩
theorem lw_p23 : lw_okq (⟨"WidenDeskModel", "letter", "()I"⟩, 47) := ⟨⟨by decide +kernel, by decide +kernel⟩, List.mem_of_getElem? (i := 791) (by decide +kernel), List.mem_of_getElem? (i := 960) (by decide +kernel), List.mem_of_getElem? (i := 961) (by decide +kernel)⟩
theorem lw_p24 : lw_okq (⟨"WidenDeskModel", "readCell", "()Z"⟩, 47) := ⟨⟨by decide +kernel, by decide +kernel⟩, List.mem_of_getElem? (i := 791) (by decide +kernel), List.mem_of_getElem? (i := 970) (by decide +kernel), List.mem_of_getElem? (i := 971) (by decide +kernel)⟩
theorem lw_p25 : lw_okq (⟨"WidenDeskModel", "putTold", "(IIJ)V"⟩, 47) := ⟨⟨by decide +kernel, by decide +kernel⟩, List.mem_of_getElem? (i := 791) (by decide +kernel), List.mem_of_getElem? (i := 978) (by decide +kernel), List.mem_of_getElem? (i := 979) (by decide +kernel)⟩
theorem lw_p26 : lw_okq (⟨"WidenDeskModel", "readNumber", "(I)V"⟩, 47) := ⟨⟨by decide +kernel, by decide +kernel⟩, List.mem_of_getElem? (i := 791) (by decide +kernel), List.mem_of_getElem? (i := 982) (by decide +kernel), List.mem_of_getElem? (i := 983) (by decide +kernel)⟩
theorem lw_p27 : lw_okq (⟨"WidenDeskModel", "holdNew", "(I)V"⟩, 47) := ⟨⟨by decide +kernel, by decide +kernel⟩, List.mem_of_getElem? (i := 791) (by decide +kernel), List.mem_of_getElem? (i := 1024) (by decide +kernel), List.mem_of_getElem? (i := 1025) (by decide +kernel)⟩
theorem lw_p28 : lw_okq (⟨"WidenDeskModel", "note", "()V"⟩, 47) := ⟨⟨by decide +kernel, by decide +kernel⟩, List.mem_of_getElem? (i := 791) (by decide +kernel), List.mem_of_getElem? (i := 1028) (by decide +kernel), List.mem_of_getElem? (i := 1029) (by decide +kernel)⟩
theorem lw_p29 : lw_okq (⟨"WidenDeskModel", "freeRow", "()I"⟩, 47) := ⟨⟨by decide +kernel, by decide +kernel⟩, List.mem_of_getElem? (i := 791) (by decide +kernel), List.mem_of_getElem? (i := 1032) (by decide +kernel), List.mem_of_getElem? (i := 1033) (by decide +kernel)⟩
theorem lw_p30 : lw_okq (⟨"WidenDeskModel", "isHeld", "(I)Z"⟩, 47) := ⟨⟨by decide +kernel, by decide +kernel⟩, List.mem_of_getElem? (i := 791) (by decide +kernel), List.mem_of_getElem? (i := 1036) (by decide +kernel), List.mem_of_getElem? (i := 1037) (by decide +kernel)⟩
theorem lw_p31 : lw_okq (⟨"WidenDeskModel", "rowsHeld", "(I)I"⟩, 47) := ⟨⟨by decide +kernel, by decide +kernel⟩, List.mem_of_getElem? (i := 791) (by decide +kernel), List.mem_of_getElem? (i := 1044) (by decide +kernel), List.mem_of_getElem? (i := 1045) (by decide +kernel)⟩
def lw_privs_2 : List (MethodName × Nat) := [(⟨"WidenDesk", "shownCode", "(IJ)J"⟩, 11), (⟨"WidenDesk", "hold", "(IIJ)V"⟩, 11), (⟨"WidenDesk", "fetchReason", "(II)I"⟩, 11), (⟨"WidenDesk", "convertReason", "(IIII)I"⟩, 11), (⟨"WidenDesk", "convertElement", "(IIII)V"⟩, 11), (⟨"WidenDesk", "carryThrough", "(IJI)I"⟩, 11), (⟨"WidenDeskModel", "readText", "()I"⟩, 47), (⟨"WidenDeskModel", "letter", "()I"⟩, 47), (⟨"WidenDeskModel", "readCell", "()Z"⟩, 47), (⟨"WidenDeskModel", "putTold", "(IIJ)V"⟩, 47), (⟨"WidenDeskModel", "readNumber", "(I)V"⟩, 47), (⟨"WidenDeskModel", "holdNew", "(I)V"⟩, 47), (⟨"WidenDeskModel", "note", "()V"⟩, 47), (⟨"WidenDeskModel", "freeRow", "()I"⟩, 47), (⟨"WidenDeskModel", "isHeld", "(I)Z"⟩, 47), (⟨"WidenDeskModel", "rowsHeld", "(I)I"⟩, 47)]
theorem lw_r2 : ∀ q ∈ lw_privs_2, lw_okq q := List.forall_mem_cons.mpr ⟨lw_p16, List.forall_mem_cons.mpr ⟨lw_p17, List.forall_mem_cons.mpr ⟨lw_p18, List.forall_mem_cons.mpr ⟨lw_p19, List.forall_mem_cons.mpr ⟨lw_p20, List.forall_mem_cons.mpr ⟨lw_p21, List.forall_mem_cons.mpr ⟨lw_p22, List.forall_mem_cons.mpr ⟨lw_p23, List.forall_mem_cons.mpr ⟨lw_p24, List.forall_mem_cons.mpr ⟨lw_p25, List.forall_mem_cons.mpr ⟨lw_p26, List.forall_mem_cons.mpr ⟨lw_p27, List.forall_mem_cons.mpr ⟨lw_p28, List.forall_mem_cons.mpr ⟨lw_p29, List.forall_mem_cons.mpr ⟨lw_p30, List.forall_mem_cons.mpr ⟨lw_p31, fun _ h => absurd h List.not_mem_nil⟩⟩⟩⟩⟩⟩⟩⟩⟩⟩⟩⟩⟩⟩⟩⟩
theorem lw_p32 : lw_okq (⟨"WidenDeskModel", "nothings", "()I"⟩, 47) := ⟨⟨by decide +kernel, by decide +kernel⟩, List.mem_of_getElem? (i := 791) (by decide +kernel), List.mem_of_getElem? (i := 1048) (by decide +kernel), List.mem_of_getElem? (i := 1049) (by decide +kernel)⟩
theorem lw_p33 : lw_okq (⟨"WidenDeskModel", "fineOnes", "()I"⟩, 47) := ⟨⟨by decide +kernel, by decide +kernel⟩, List.mem_of_getElem? (i := 791) (by decide +kernel), List.mem_of_getElem? (i := 1052) (by decide +kernel), List.mem_of_getElem? (i := 1053) (by decide +kernel)⟩
theorem lw_p34 : lw_okq (⟨"WidenDeskModel", "holdsRow", "(I)Z"⟩, 47) := ⟨⟨by decide +kernel, by decide +kernel⟩, List.mem_of_getElem? (i := 791) (by decide +kernel), List.mem_of_getElem? (i := 1070) (by decide +kernel), List.mem_of_getElem? (i := 1071) (by decide +kernel)⟩
theorem lw_p35 : lw_okq (⟨"WidenDeskModel", "get", "(II)V"⟩, 47) := ⟨⟨by decide +kernel, by decide +kernel⟩, List.mem_of_getElem? (i := 791) (by decide +kernel), List.mem_of_getElem? (i := 1085) (by decide +kernel), List.mem_of_getElem? (i := 1086) (by decide +kernel)⟩
theorem lw_p36 : lw_okq (⟨"WidenDeskModel", "kindTold", "(IIJ)I"⟩, 47) := ⟨⟨by decide +kernel, by decide +kernel⟩, List.mem_of_getElem? (i := 791) (by decide +kernel), List.mem_of_getElem? (i := 1089) (by decide +kernel), List.mem_of_getElem? (i := 1090) (by decide +kernel)⟩
theorem lw_p37 : lw_okq (⟨"WidenDeskModel", "told", "(IJ)J"⟩, 47) := ⟨⟨by decide +kernel, by decide +kernel⟩, List.mem_of_getElem? (i := 791) (by decide +kernel), List.mem_of_getElem? (i := 1093) (by decide +kernel), List.mem_of_getElem? (i := 1094) (by decide +kernel)⟩
theorem lw_p38 : lw_okq (⟨"WidenDeskModel", "hold", "(IIJ)V"⟩, 47) := ⟨⟨by decide +kernel, by decide +kernel⟩, List.mem_of_getElem? (i := 791) (by decide +kernel), List.mem_of_getElem? (i := 1112) (by decide +kernel), List.mem_of_getElem? (i := 1113) (by decide +kernel)⟩
theorem lw_p39 : lw_okq (⟨"WidenDeskModel", "reasonToTake", "(III)I"⟩, 47) := ⟨⟨by decide +kernel, by decide +kernel⟩, List.mem_of_getElem? (i := 791) (by decide +kernel), List.mem_of_getElem? (i := 1141) (by decide +kernel), List.mem_of_getElem? (i := 1142) (by decide +kernel)⟩
theorem lw_p40 : lw_okq (⟨"WidenDeskModel", "reasonOf", "(I)I"⟩, 47) := ⟨⟨by decide +kernel, by decide +kernel⟩, List.mem_of_getElem? (i := 791) (by decide +kernel), List.mem_of_getElem? (i := 1145) (by decide +kernel), List.mem_of_getElem? (i := 1146) (by decide +kernel)⟩
theorem lw_p41 : lw_okq (⟨"WidenDeskModel", "widened", "(IJI)J"⟩, 47) := ⟨⟨by decide +kernel, by decide +kernel⟩, List.mem_of_getElem? (i := 791) (by decide +kernel), List.mem_of_getElem? (i := 1158) (by decide +kernel), List.mem_of_getElem? (i := 1159) (by decide +kernel)⟩
theorem lw_p42 : lw_okq (⟨"WidenDeskModel", "takeApart", "(IJ)V"⟩, 47) := ⟨⟨by decide +kernel, by decide +kernel⟩, List.mem_of_getElem? (i := 791) (by decide +kernel), List.mem_of_getElem? (i := 1162) (by decide +kernel), List.mem_of_getElem? (i := 1163) (by decide +kernel)⟩
theorem lw_p43 : lw_okq (⟨"WidenDeskModel", "reasonToFetch", "(II)I"⟩, 47) := ⟨⟨by decide +kernel, by decide +kernel⟩, List.mem_of_getElem? (i := 791) (by decide +kernel), List.mem_of_getElem? (i := 1170) (by decide +kernel), List.mem_of_getElem? (i := 1171) (by decide +kernel)⟩
theorem lw_p44 : lw_okq (⟨"WidenDeskModel", "reasonToLay", "(IIIIJ)I"⟩, 47) := ⟨⟨by decide +kernel, by decide +kernel⟩, List.mem_of_getElem? (i := 791) (by decide +kernel), List.mem_of_getElem? (i := 1178) (by decide +kernel), List.mem_of_getElem? (i := 1179) (by decide +kernel)⟩
theorem lw_p45 : lw_okq (⟨"WidenDeskModel", "bring", "(IIIJ)I"⟩, 47) := ⟨⟨by decide +kernel, by decide +kernel⟩, List.mem_of_getElem? (i := 791) (by decide +kernel), List.mem_of_getElem? (i := 1182) (by decide +kernel), List.mem_of_getElem? (i := 1183) (by decide +kernel)⟩
theorem lw_p46 : lw_okq (⟨"WidenDeskModel", "put", "(IIIIJ)V"⟩, 47) := ⟨⟨by decide +kernel, by decide +kernel⟩, List.mem_of_getElem? (i := 791) (by decide +kernel), List.mem_of_getElem? (i := 1186) (by decide +kernel), List.mem_of_getElem? (i := 1187) (by decide +kernel)⟩
theorem lw_p47 : lw_okq (⟨"WidenDeskModel", "holdsPlain", "(I)Z"⟩, 47) := ⟨⟨by decide +kernel, by decide +kernel⟩, List.mem_of_getElem? (i := 791) (by decide +kernel), List.mem_of_getElem? (i := 1194) (by decide +kernel), List.mem_of_getElem? (i := 1195) (by decide +kernel)⟩
def lw_privs_3 : List (MethodName × Nat) := [(⟨"WidenDeskModel", "nothings", "()I"⟩, 47), (⟨"WidenDeskModel", "fineOnes", "()I"⟩, 47), (⟨"WidenDeskModel", "holdsRow", "(I)Z"⟩, 47), (⟨"WidenDeskModel", "get", "(II)V"⟩, 47), (⟨"WidenDeskModel", "kindTold", "(IIJ)I"⟩, 47), (⟨"WidenDeskModel", "told", "(IJ)J"⟩, 47), (⟨"WidenDeskModel", "hold", "(IIJ)V"⟩, 47), (⟨"WidenDeskModel", "reasonToTake", "(III)I"⟩, 47), (⟨"WidenDeskModel", "reasonOf", "(I)I"⟩, 47), (⟨"WidenDeskModel", "widened", "(IJI)J"⟩, 47), (⟨"WidenDeskModel", "takeApart", "(IJ)V"⟩, 47), (⟨"WidenDeskModel", "reasonToFetch", "(II)I"⟩, 47), (⟨"WidenDeskModel", "reasonToLay", "(IIIIJ)I"⟩, 47), (⟨"WidenDeskModel", "bring", "(IIIJ)I"⟩, 47), (⟨"WidenDeskModel", "put", "(IIIIJ)V"⟩, 47), (⟨"WidenDeskModel", "holdsPlain", "(I)Z"⟩, 47)]
theorem lw_r3 : ∀ q ∈ lw_privs_3, lw_okq q := List.forall_mem_cons.mpr ⟨lw_p32, List.forall_mem_cons.mpr ⟨lw_p33, List.forall_mem_cons.mpr ⟨lw_p34, List.forall_mem_cons.mpr ⟨lw_p35, List.forall_mem_cons.mpr ⟨lw_p36, List.forall_mem_cons.mpr ⟨lw_p37, List.forall_mem_cons.mpr ⟨lw_p38, List.forall_mem_cons.mpr ⟨lw_p39, List.forall_mem_cons.mpr ⟨lw_p40, List.forall_mem_cons.mpr ⟨lw_p41, List.forall_mem_cons.mpr ⟨lw_p42, List.forall_mem_cons.mpr ⟨lw_p43, List.forall_mem_cons.mpr ⟨lw_p44, List.forall_mem_cons.mpr ⟨lw_p45, List.forall_mem_cons.mpr ⟨lw_p46, List.forall_mem_cons.mpr ⟨lw_p47, fun _ h => absurd h List.not_mem_nil⟩⟩⟩⟩⟩⟩⟩⟩⟩⟩⟩⟩⟩⟩⟩⟩
theorem lw_p48 : lw_okq (⟨"WidenDeskModel", "convertCell", "(IIII)I"⟩, 47) := ⟨⟨by decide +kernel, by decide +kernel⟩, List.mem_of_getElem? (i := 791) (by decide +kernel), List.mem_of_getElem? (i := 1205) (by decide +kernel), List.mem_of_getElem? (i := 1206) (by decide +kernel)⟩
theorem lw_p49 : lw_okq (⟨"WidenDeskModel", "isOne", "(IJI)Z"⟩, 47) := ⟨⟨by decide +kernel, by decide +kernel⟩, List.mem_of_getElem? (i := 791) (by decide +kernel), List.mem_of_getElem? (i := 1209) (by decide +kernel), List.mem_of_getElem? (i := 1210) (by decide +kernel)⟩
theorem lw_p50 : lw_okq (⟨"WidenDeskModel", "asOne", "(IJI)J"⟩, 47) := ⟨⟨by decide +kernel, by decide +kernel⟩, List.mem_of_getElem? (i := 791) (by decide +kernel), List.mem_of_getElem? (i := 1213) (by decide +kernel), List.mem_of_getElem? (i := 1214) (by decide +kernel)⟩
theorem lw_p51 : lw_okq (⟨"WidenDeskModel", "addEnd", "(IJ)V"⟩, 47) := ⟨⟨by decide +kernel, by decide +kernel⟩, List.mem_of_getElem? (i := 791) (by decide +kernel), List.mem_of_getElem? (i := 1239) (by decide +kernel), List.mem_of_getElem? (i := 1240) (by decide +kernel)⟩
theorem lw_p52 : lw_okq (⟨"WidenDeskModel", "joinCells", "(I)V"⟩, 47) := ⟨⟨by decide +kernel, by decide +kernel⟩, List.mem_of_getElem? (i := 791) (by decide +kernel), List.mem_of_getElem? (i := 1261) (by decide +kernel), List.mem_of_getElem? (i := 1262) (by decide +kernel)⟩
theorem lw_p53 : lw_okq (⟨"WidenDeskModel", "areAlike", "(II)Z"⟩, 47) := ⟨⟨by decide +kernel, by decide +kernel⟩, List.mem_of_getElem? (i := 791) (by decide +kernel), List.mem_of_getElem? (i := 1274) (by decide +kernel), List.mem_of_getElem? (i := 1275) (by decide +kernel)⟩
theorem lw_p54 : lw_okq (⟨"WidenDeskModel", "areSame", "(II)Z"⟩, 47) := ⟨⟨by decide +kernel, by decide +kernel⟩, List.mem_of_getElem? (i := 791) (by decide +kernel), List.mem_of_getElem? (i := 1282) (by decide +kernel), List.mem_of_getElem? (i := 1283) (by decide +kernel)⟩
theorem lw_p55 : lw_okq (⟨"WidenDeskModel", "reasonBy", "(III)I"⟩, 47) := ⟨⟨by decide +kernel, by decide +kernel⟩, List.mem_of_getElem? (i := 791) (by decide +kernel), List.mem_of_getElem? (i := 1304) (by decide +kernel), List.mem_of_getElem? (i := 1305) (by decide +kernel)⟩
def lw_privs_4 : List (MethodName × Nat) := [(⟨"WidenDeskModel", "convertCell", "(IIII)I"⟩, 47), (⟨"WidenDeskModel", "isOne", "(IJI)Z"⟩, 47), (⟨"WidenDeskModel", "asOne", "(IJI)J"⟩, 47), (⟨"WidenDeskModel", "addEnd", "(IJ)V"⟩, 47), (⟨"WidenDeskModel", "joinCells", "(I)V"⟩, 47), (⟨"WidenDeskModel", "areAlike", "(II)Z"⟩, 47), (⟨"WidenDeskModel", "areSame", "(II)Z"⟩, 47), (⟨"WidenDeskModel", "reasonBy", "(III)I"⟩, 47)]
theorem lw_r4 : ∀ q ∈ lw_privs_4, lw_okq q := List.forall_mem_cons.mpr ⟨lw_p48, List.forall_mem_cons.mpr ⟨lw_p49, List.forall_mem_cons.mpr ⟨lw_p50, List.forall_mem_cons.mpr ⟨lw_p51, List.forall_mem_cons.mpr ⟨lw_p52, List.forall_mem_cons.mpr ⟨lw_p53, List.forall_mem_cons.mpr ⟨lw_p54, List.forall_mem_cons.mpr ⟨lw_p55, fun _ h => absurd h List.not_mem_nil⟩⟩⟩⟩⟩⟩⟩⟩
def lw_privs : List (MethodName × Nat) := lw_privs_1 ++ (lw_privs_2 ++ (lw_privs_3 ++ (lw_privs_4)))
def lw_tbl : List Cond := k2_sels lw_privs ++ tables_1
theorem lw_privs_ok : ∀ q ∈ lw_privs, lw_okq q := by
  show ∀ q ∈ lw_privs_1 ++ (lw_privs_2 ++ (lw_privs_3 ++ (lw_privs_4))), lw_okq q
  exact List.forall_mem_append.mpr ⟨lw_r1, List.forall_mem_append.mpr ⟨lw_r2, List.forall_mem_append.mpr ⟨lw_r3, lw_r4⟩⟩⟩

def RX0 : String := "WidenDesk$Log"
def TX0 : u_T := fun k => match k with
  | 0 => ("WidenDesk$Log", "sorts", "[I", true)
  | 1 => ("WidenDesk$Log", "spots", "[I", true)
  | 2 => ("WidenDesk$Log", "rows", "[I", true)
  | 3 => ("WidenDesk$Log", "numbers", "[I", true)
  | 4 => ("WidenDesk$Log", "types", "[I", true)
  | 5 => ("WidenDesk$Log", "codes", "[J", true)
  | 6 => ("WidenDesk$Log", "next", "I", false)
  | _ => ("WidenDesk$Log", "kept", "I", false)
def tyX0 : Nat → FieldType := fun k => match k with
  | 0 => .array .int
  | 1 => .array .int
  | 2 => .array .int
  | 3 => .array .int
  | 4 => .array .int
  | 5 => .array .long
  | 6 => .int
  | _ => .int
abbrev wsX00 : List Cond := u_ws RX0 TX0 8
theorem nmX0 : ∀ a, a < 8 → ∀ b, b < 8 → a ≠ b → (TX0 a).2.1 ≠ (TX0 b).2.1 := by decide +kernel
theorem tyX0_ok : ∀ k, k < 8 → parseFieldDescriptor (TX0 k).2.2.1 = some (tyX0 k) := by decide +kernel
abbrev cX0_init : ByteArray := prog_2_method_1_code
def yX0_init : MethodName := ⟨RX0, "<init>", "()V"⟩
abbrev cX0_keepSlot : ByteArray := prog_2_method_2_code
def yX0_keepSlot : MethodName := ⟨RX0, "keepSlot", "(II)V"⟩
abbrev cX0_keepNumber : ByteArray := prog_2_method_3_code
def yX0_keepNumber : MethodName := ⟨RX0, "keepNumber", "(II)V"⟩
abbrev cX0_keepCells : ByteArray := prog_2_method_4_code
def yX0_keepCells : MethodName := ⟨RX0, "keepCells", "(ILWidenDesk$Shelf;)V"⟩
abbrev cX0_restoreCells : ByteArray := prog_2_method_5_code
def yX0_restoreCells : MethodName := ⟨RX0, "restoreCells", "(ILWidenDesk$Shelf;)V"⟩
abbrev cX0_removeLatest : ByteArray := prog_2_method_6_code
def yX0_removeLatest : MethodName := ⟨RX0, "removeLatest", "()I"⟩
abbrev cX0_holds : ByteArray := prog_2_method_7_code
def yX0_holds : MethodName := ⟨RX0, "holds", "(I)Z"⟩
abbrev cX0_add : ByteArray := prog_2_method_8_code
def yX0_add : MethodName := ⟨RX0, "add", "(IIII)I"⟩
abbrev cX0_before : ByteArray := prog_2_method_9_code
def yX0_before : MethodName := ⟨RX0, "before", "(I)I"⟩
def RX1 : String := "WidenDesk$Marks"
def TX1 : u_T := fun k => match k with
  | 0 => ("WidenDesk$Marks", "numbers", "[I", true)
  | _ => ("WidenDesk$Marks", "count", "I", false)
def tyX1 : Nat → FieldType := fun k => match k with
  | 0 => .array .int
  | _ => .int
abbrev wsX10 : List Cond := u_ws RX1 TX1 2
theorem nmX1 : ∀ a, a < 2 → ∀ b, b < 2 → a ≠ b → (TX1 a).2.1 ≠ (TX1 b).2.1 := by decide +kernel
theorem tyX1_ok : ∀ k, k < 2 → parseFieldDescriptor (TX1 k).2.2.1 = some (tyX1 k) := by decide +kernel
abbrev cX1_init : ByteArray := prog_3_method_1_code
def yX1_init : MethodName := ⟨RX1, "<init>", "()V"⟩
abbrev cX1_isFull : ByteArray := prog_3_method_2_code
def yX1_isFull : MethodName := ⟨RX1, "isFull", "()Z"⟩
abbrev cX1_create : ByteArray := prog_3_method_3_code
def yX1_create : MethodName := ⟨RX1, "create", "(I)I"⟩
abbrev cX1_numberOf : ByteArray := prog_3_method_4_code
def yX1_numberOf : MethodName := ⟨RX1, "numberOf", "(I)I"⟩
abbrev cX1_setNumber : ByteArray := prog_3_method_5_code
def yX1_setNumber : MethodName := ⟨RX1, "setNumber", "(II)V"⟩
def RX2 : String := "WidenDesk$Numbers"
def TX2 : u_T := fun k => match k with
  | _ => ("", "", "", false)
def tyX2 : Nat → FieldType := fun k => match k with
  | _ => .int
abbrev wsX20 : List Cond := u_ws RX2 TX2 0
theorem nmX2 : ∀ a, a < 0 → ∀ b, b < 0 → a ≠ b → (TX2 a).2.1 ≠ (TX2 b).2.1 := by decide +kernel
theorem tyX2_ok : ∀ k, k < 0 → parseFieldDescriptor (TX2 k).2.2.1 = some (tyX2 k) := by decide +kernel
abbrev cX2_widens : ByteArray := prog_4_method_2_code
def yX2_widens : MethodName := ⟨RX2, "widens", "(II)Z"⟩
abbrev cX2_targets : ByteArray := prog_4_method_3_code
def yX2_targets : MethodName := ⟨RX2, "targets", "(I)I"⟩
abbrev cX2_leastOf : ByteArray := prog_4_method_4_code
def yX2_leastOf : MethodName := ⟨RX2, "leastOf", "(I)I"⟩
abbrev cX2_leastOfTwo : ByteArray := prog_4_method_5_code
def yX2_leastOfTwo : MethodName := ⟨RX2, "leastOfTwo", "(II)I"⟩
abbrev cX2_countChains : ByteArray := prog_4_method_6_code
def yX2_countChains : MethodName := ⟨RX2, "countChains", "(III)I"⟩
abbrev cX2_countEnds : ByteArray := prog_4_method_7_code
def yX2_countEnds : MethodName := ⟨RX2, "countEnds", "(JII)I"⟩
abbrev cX2_made : ByteArray := prog_4_method_8_code
def yX2_made : MethodName := ⟨RX2, "made", "(IJ)J"⟩
abbrev cX2_ofWhole : ByteArray := prog_4_method_9_code
def yX2_ofWhole : MethodName := ⟨RX2, "ofWhole", "(IJ)J"⟩
abbrev cX2_widened : ByteArray := prog_4_method_10_code
def yX2_widened : MethodName := ⟨RX2, "widened", "(JII)J"⟩
abbrev cX2_hasNumber : ByteArray := prog_4_method_11_code
def yX2_hasNumber : MethodName := ⟨RX2, "hasNumber", "(JII)Z"⟩
abbrev cX2_sameNumber : ByteArray := prog_4_method_12_code
def yX2_sameNumber : MethodName := ⟨RX2, "sameNumber", "(JII)J"⟩
abbrev cX2_lowest : ByteArray := prog_4_method_13_code
def yX2_lowest : MethodName := ⟨RX2, "lowest", "(I)J"⟩
abbrev cX2_highest : ByteArray := prog_4_method_14_code
def yX2_highest : MethodName := ⟨RX2, "highest", "(I)J"⟩
abbrev cX2_isBetween : ByteArray := prog_4_method_15_code
def yX2_isBetween : MethodName := ⟨RX2, "isBetween", "(JI)Z"⟩
abbrev cX2_isWhole : ByteArray := prog_4_method_16_code
def yX2_isWhole : MethodName := ⟨RX2, "isWhole", "(JIJ)Z"⟩
abbrev cX2_asDouble : ByteArray := prog_4_method_17_code
def yX2_asDouble : MethodName := ⟨RX2, "asDouble", "(JI)J"⟩
abbrev cX2_nearest : ByteArray := prog_4_method_18_code
def yX2_nearest : MethodName := ⟨RX2, "nearest", "(IJI)J"⟩
abbrev cX2_signedFloat : ByteArray := prog_4_method_19_code
def yX2_signedFloat : MethodName := ⟨RX2, "signedFloat", "(ZJ)J"⟩
abbrev cX2_signedDouble : ByteArray := prog_4_method_20_code
def yX2_signedDouble : MethodName := ⟨RX2, "signedDouble", "(ZJ)J"⟩
abbrev cX2_rounded : ByteArray := prog_4_method_21_code
def yX2_rounded : MethodName := ⟨RX2, "rounded", "(JIII)J"⟩
abbrev cX2_doubleOfFloat : ByteArray := prog_4_method_22_code
def yX2_doubleOfFloat : MethodName := ⟨RX2, "doubleOfFloat", "(J)J"⟩
abbrev cX2_floatOfDouble : ByteArray := prog_4_method_23_code
def yX2_floatOfDouble : MethodName := ⟨RX2, "floatOfDouble", "(J)J"⟩
abbrev cX2_hasWhole : ByteArray := prog_4_method_24_code
def yX2_hasWhole : MethodName := ⟨RX2, "hasWhole", "(J)Z"⟩
abbrev cX2_wholeOf : ByteArray := prog_4_method_25_code
def yX2_wholeOf : MethodName := ⟨RX2, "wholeOf", "(J)J"⟩
abbrev cX2_exponentOf : ByteArray := prog_4_method_26_code
def yX2_exponentOf : MethodName := ⟨RX2, "exponentOf", "(J)I"⟩
abbrev cX2_significand : ByteArray := prog_4_method_27_code
def yX2_significand : MethodName := ⟨RX2, "significand", "(J)J"⟩
def RX3 : String := "WidenDesk$Reader"
def TX3 : u_T := fun k => match k with
  | 0 => ("WidenDesk$Reader", "letters", "[I", true)
  | 1 => ("WidenDesk$Reader", "length", "I", false)
  | 2 => ("WidenDesk$Reader", "arrayType", "I", false)
  | 3 => ("WidenDesk$Reader", "count", "I", false)
  | 4 => ("WidenDesk$Reader", "types", "[I", true)
  | 5 => ("WidenDesk$Reader", "numbers", "[J", true)
  | _ => ("WidenDesk$Reader", "next", "I", false)
def tyX3 : Nat → FieldType := fun k => match k with
  | 0 => .array .int
  | 1 => .int
  | 2 => .int
  | 3 => .int
  | 4 => .array .int
  | 5 => .array .long
  | _ => .int
abbrev wsX30 : List Cond := u_ws RX3 TX3 7
theorem nmX3 : ∀ a, a < 7 → ∀ b, b < 7 → a ≠ b → (TX3 a).2.1 ≠ (TX3 b).2.1 := by decide +kernel
theorem tyX3_ok : ∀ k, k < 7 → parseFieldDescriptor (TX3 k).2.2.1 = some (tyX3 k) := by decide +kernel
abbrev cX3_init : ByteArray := prog_5_method_1_code
def yX3_init : MethodName := ⟨RX3, "<init>", "()V"⟩
abbrev cX3_append : ByteArray := prog_5_method_2_code
def yX3_append : MethodName := ⟨RX3, "append", "(I)Z"⟩
abbrev cX3_scan : ByteArray := prog_5_method_3_code
def yX3_scan : MethodName := ⟨RX3, "scan", "()I"⟩
abbrev cX3_letter : ByteArray := prog_5_method_4_code
def yX3_letter : MethodName := ⟨RX3, "letter", "()I"⟩
abbrev cX3_skip : ByteArray := prog_5_method_5_code
def yX3_skip : MethodName := ⟨RX3, "skip", "(C)Z"⟩
abbrev cX3_arrayTypeOf : ByteArray := prog_5_method_6_code
def yX3_arrayTypeOf : MethodName := ⟨RX3, "arrayTypeOf", "(I)I"⟩
abbrev cX3_primitiveOf : ByteArray := prog_5_method_7_code
def yX3_primitiveOf : MethodName := ⟨RX3, "primitiveOf", "(I)I"⟩
abbrev cX3_readElement : ByteArray := prog_5_method_8_code
def yX3_readElement : MethodName := ⟨RX3, "readElement", "()Z"⟩
abbrev cX3_readNumber : ByteArray := prog_5_method_9_code
def yX3_readNumber : MethodName := ⟨RX3, "readNumber", "(I)Z"⟩
abbrev cX3_isDigit : ByteArray := prog_5_method_10_code
def yX3_isDigit : MethodName := ⟨RX3, "isDigit", "(I)Z"⟩
abbrev cX3_keep : ByteArray := prog_5_method_11_code
def yX3_keep : MethodName := ⟨RX3, "keep", "(IJ)V"⟩
def RX4 : String := "WidenDesk$Rules"
def TX4 : u_T := fun k => match k with
  | _ => ("", "", "", false)
def tyX4 : Nat → FieldType := fun k => match k with
  | _ => .int
abbrev wsX40 : List Cond := u_ws RX4 TX4 0
theorem nmX4 : ∀ a, a < 0 → ∀ b, b < 0 → a ≠ b → (TX4 a).2.1 ≠ (TX4 b).2.1 := by decide +kernel
theorem tyX4_ok : ∀ k, k < 0 → parseFieldDescriptor (TX4 k).2.2.1 = some (tyX4 k) := by decide +kernel
abbrev cX4_isMark : ByteArray := prog_6_method_2_code
def yX4_isMark : MethodName := ⟨RX4, "isMark", "(I)Z"⟩
abbrev cX4_isNumeric : ByteArray := prog_6_method_3_code
def yX4_isNumeric : MethodName := ⟨RX4, "isNumeric", "(I)Z"⟩
abbrev cX4_fetchedForm : ByteArray := prog_6_method_4_code
def yX4_fetchedForm : MethodName := ⟨RX4, "fetchedForm", "(I)I"⟩
abbrev cX4_fetchFit : ByteArray := prog_6_method_5_code
def yX4_fetchFit : MethodName := ⟨RX4, "fetchFit", "(I)I"⟩
abbrev cX4_getFit : ByteArray := prog_6_method_6_code
def yX4_getFit : MethodName := ⟨RX4, "getFit", "(II)I"⟩
abbrev cX4_putFit : ByteArray := prog_6_method_7_code
def yX4_putFit : MethodName := ⟨RX4, "putFit", "(III)I"⟩
abbrev cX4_accepts : ByteArray := prog_6_method_8_code
def yX4_accepts : MethodName := ⟨RX4, "accepts", "(II)Z"⟩
abbrev cX4_placed : ByteArray := prog_6_method_9_code
def yX4_placed : MethodName := ⟨RX4, "placed", "(IZ)I"⟩
abbrev cX4_joinedType : ByteArray := prog_6_method_10_code
def yX4_joinedType : MethodName := ⟨RX4, "joinedType", "(II)I"⟩
def RX5 : String := "WidenDesk$Shelf"
def TX5 : u_T := fun k => match k with
  | 0 => ("WidenDesk$Shelf", "things", "[I", true)
  | 1 => ("WidenDesk$Shelf", "lengths", "[I", true)
  | 2 => ("WidenDesk$Shelf", "types", "[I", true)
  | _ => ("WidenDesk$Shelf", "codes", "[J", true)
def tyX5 : Nat → FieldType := fun k => match k with
  | 0 => .array .int
  | 1 => .array .int
  | 2 => .array .int
  | _ => .array .long
abbrev wsX50 : List Cond := u_ws RX5 TX5 4
theorem nmX5 : ∀ a, a < 4 → ∀ b, b < 4 → a ≠ b → (TX5 a).2.1 ≠ (TX5 b).2.1 := by decide +kernel
theorem tyX5_ok : ∀ k, k < 4 → parseFieldDescriptor (TX5 k).2.2.1 = some (tyX5 k) := by decide +kernel
abbrev cX5_init : ByteArray := prog_7_method_1_code
def yX5_init : MethodName := ⟨RX5, "<init>", "()V"⟩
abbrev cX5_prepare : ByteArray := prog_7_method_2_code
def yX5_prepare : MethodName := ⟨RX5, "prepare", "(III)V"⟩
abbrev cX5_has : ByteArray := prog_7_method_3_code
def yX5_has : MethodName := ⟨RX5, "has", "(II)Z"⟩
abbrev cX5_typeAt : ByteArray := prog_7_method_4_code
def yX5_typeAt : MethodName := ⟨RX5, "typeAt", "(II)I"⟩
abbrev cX5_codeAt : ByteArray := prog_7_method_5_code
def yX5_codeAt : MethodName := ⟨RX5, "codeAt", "(II)J"⟩
abbrev cX5_set : ByteArray := prog_7_method_6_code
def yX5_set : MethodName := ⟨RX5, "set", "(IIIJ)V"⟩
abbrev cX5_put : ByteArray := prog_7_method_7_code
def yX5_put : MethodName := ⟨RX5, "put", "(IIIJ)V"⟩
abbrev cX5_putAll : ByteArray := prog_7_method_8_code
def yX5_putAll : MethodName := ⟨RX5, "putAll", "(IIIII)V"⟩
abbrev cX5_agree : ByteArray := prog_7_method_9_code
def yX5_agree : MethodName := ⟨RX5, "agree", "(III)Z"⟩
abbrev cX5_stoodBefore : ByteArray := prog_7_method_10_code
def yX5_stoodBefore : MethodName := ⟨RX5, "stoodBefore", "(II)Z"⟩
def RX6 : String := "WidenDesk$Views"
def TX6 : u_T := fun k => match k with
  | 0 => ("WidenDesk$Views", "ways", "[I", true)
  | 1 => ("WidenDesk$Views", "kinds", "[I", true)
  | 2 => ("WidenDesk$Views", "outcomes", "[I", true)
  | _ => ("WidenDesk$Views", "count", "I", false)
def tyX6 : Nat → FieldType := fun k => match k with
  | 0 => .array .int
  | 1 => .array .int
  | 2 => .array .int
  | _ => .int
abbrev wsX60 : List Cond := u_ws RX6 TX6 4
theorem nmX6 : ∀ a, a < 4 → ∀ b, b < 4 → a ≠ b → (TX6 a).2.1 ≠ (TX6 b).2.1 := by decide +kernel
theorem tyX6_ok : ∀ k, k < 4 → parseFieldDescriptor (TX6 k).2.2.1 = some (tyX6 k) := by decide +kernel
abbrev cX6_init : ByteArray := prog_8_method_1_code
def yX6_init : MethodName := ⟨RX6, "<init>", "()V"⟩
abbrev cX6_add : ByteArray := prog_8_method_2_code
def yX6_add : MethodName := ⟨RX6, "add", "(III)Z"⟩
abbrev cX6_allow : ByteArray := prog_8_method_3_code
def yX6_allow : MethodName := ⟨RX6, "allow", "(I)Z"⟩
abbrev cX6_expected : ByteArray := prog_8_method_4_code
def yX6_expected : MethodName := ⟨RX6, "expected", "(III)I"⟩
def RX7 : String := "WidenDesk"
def TX7 : u_T := fun k => match k with
  | 0 => ("WidenDesk", "reader", "LWidenDesk$Reader;", true)
  | 1 => ("WidenDesk", "shelf", "LWidenDesk$Shelf;", true)
  | 2 => ("WidenDesk", "log", "LWidenDesk$Log;", true)
  | 3 => ("WidenDesk", "marks", "LWidenDesk$Marks;", true)
  | 4 => ("WidenDesk", "views", "LWidenDesk$Views;", true)
  | 5 => ("WidenDesk", "slots", "[I", true)
  | 6 => ("WidenDesk", "reasons", "[I", true)
  | 7 => ("WidenDesk", "reasonCount", "I", false)
  | 8 => ("WidenDesk", "handForm", "I", false)
  | 9 => ("WidenDesk", "handType", "I", false)
  | _ => ("WidenDesk", "handCode", "J", false)
def tyX7 : Nat → FieldType := fun k => match k with
  | 0 => .object "WidenDesk$Reader"
  | 1 => .object "WidenDesk$Shelf"
  | 2 => .object "WidenDesk$Log"
  | 3 => .object "WidenDesk$Marks"
  | 4 => .object "WidenDesk$Views"
  | 5 => .array .int
  | 6 => .array .int
  | 7 => .int
  | 8 => .int
  | 9 => .int
  | _ => .long
abbrev wsX70 : List Cond := u_ws RX7 TX7 11
theorem nmX7 : ∀ a, a < 11 → ∀ b, b < 11 → a ≠ b → (TX7 a).2.1 ≠ (TX7 b).2.1 := by decide +kernel
theorem tyX7_ok : ∀ k, k < 11 → parseFieldDescriptor (TX7 k).2.2.1 = some (tyX7 k) := by decide +kernel
abbrev cX7_init : ByteArray := prog_1_method_1_code
def yX7_init : MethodName := ⟨RX7, "<init>", "()V"⟩
abbrev cX7_write : ByteArray := prog_1_method_2_code
def yX7_write : MethodName := ⟨RX7, "write", "(I)I"⟩
abbrev cX7_wipe : ByteArray := prog_1_method_3_code
def yX7_wipe : MethodName := ⟨RX7, "wipe", "()I"⟩
abbrev cX7_fault : ByteArray := prog_1_method_4_code
def yX7_fault : MethodName := ⟨RX7, "fault", "()I"⟩
abbrev cX7_tell : ByteArray := prog_1_method_5_code
def yX7_tell : MethodName := ⟨RX7, "tell", "(I)I"⟩
abbrev cX7_about : ByteArray := prog_1_method_6_code
def yX7_about : MethodName := ⟨RX7, "about", "(I)I"⟩
abbrev cX7_make : ByteArray := prog_1_method_7_code
def yX7_make : MethodName := ⟨RX7, "make", "(III)I"⟩
abbrev cX7_share : ByteArray := prog_1_method_8_code
def yX7_share : MethodName := ⟨RX7, "share", "(II)I"⟩
abbrev cX7_thing : ByteArray := prog_1_method_9_code
def yX7_thing : MethodName := ⟨RX7, "thing", "(II)I"⟩
abbrev cX7_same : ByteArray := prog_1_method_10_code
def yX7_same : MethodName := ⟨RX7, "same", "(II)I"⟩
abbrev cX7_cell : ByteArray := prog_1_method_11_code
def yX7_cell : MethodName := ⟨RX7, "cell", "(III)J"⟩
abbrev cX7_give : ByteArray := prog_1_method_12_code
def yX7_give : MethodName := ⟨RX7, "give", "(IJ)I"⟩
abbrev cX7_mark : ByteArray := prog_1_method_13_code
def yX7_mark : MethodName := ⟨RX7, "mark", "(II)I"⟩
abbrev cX7_text : ByteArray := prog_1_method_14_code
def yX7_text : MethodName := ⟨RX7, "text", "(I)I"⟩
abbrev cX7_turn : ByteArray := prog_1_method_15_code
def yX7_turn : MethodName := ⟨RX7, "turn", "()I"⟩
abbrev cX7_hand : ByteArray := prog_1_method_16_code
def yX7_hand : MethodName := ⟨RX7, "hand", "(I)J"⟩
abbrev cX7_grow : ByteArray := prog_1_method_17_code
def yX7_grow : MethodName := ⟨RX7, "grow", "(I)I"⟩
abbrev cX7_take : ByteArray := prog_1_method_18_code
def yX7_take : MethodName := ⟨RX7, "take", "(III)I"⟩
abbrev cX7_fetch : ByteArray := prog_1_method_19_code
def yX7_fetch : MethodName := ⟨RX7, "fetch", "(II)I"⟩
abbrev cX7_lay : ByteArray := prog_1_method_20_code
def yX7_lay : MethodName := ⟨RX7, "lay", "(II)I"⟩
abbrev cX7_scatter : ByteArray := prog_1_method_21_code
def yX7_scatter : MethodName := ⟨RX7, "scatter", "(IJ)I"⟩
abbrev cX7_convert : ByteArray := prog_1_method_22_code
def yX7_convert : MethodName := ⟨RX7, "convert", "(III)I"⟩
abbrev cX7_report : ByteArray := prog_1_method_23_code
def yX7_report : MethodName := ⟨RX7, "report", "(I)I"⟩
abbrev cX7_chains : ByteArray := prog_1_method_24_code
def yX7_chains : MethodName := ⟨RX7, "chains", "(II)I"⟩
abbrev cX7_carry : ByteArray := prog_1_method_25_code
def yX7_carry : MethodName := ⟨RX7, "carry", "(III)I"⟩
abbrev cX7_ends : ByteArray := prog_1_method_26_code
def yX7_ends : MethodName := ⟨RX7, "ends", "(III)I"⟩
abbrev cX7_least : ByteArray := prog_1_method_27_code
def yX7_least : MethodName := ⟨RX7, "least", "(I)I"⟩
abbrev cX7_join : ByteArray := prog_1_method_28_code
def yX7_join : MethodName := ⟨RX7, "join", "(III)I"⟩
abbrev cX7_cut : ByteArray := prog_1_method_29_code
def yX7_cut : MethodName := ⟨RX7, "cut", "(III)I"⟩
abbrev cX7_alike : ByteArray := prog_1_method_30_code
def yX7_alike : MethodName := ⟨RX7, "alike", "(II)I"⟩
abbrev cX7_unlike : ByteArray := prog_1_method_31_code
def yX7_unlike : MethodName := ⟨RX7, "unlike", "(I)I"⟩
abbrev cX7_total : ByteArray := prog_1_method_32_code
def yX7_total : MethodName := ⟨RX7, "total", "(II)I"⟩
abbrev cX7_see : ByteArray := prog_1_method_33_code
def yX7_see : MethodName := ⟨RX7, "see", "(III)I"⟩
abbrev cX7_unsee : ByteArray := prog_1_method_34_code
def yX7_unsee : MethodName := ⟨RX7, "unsee", "()I"⟩
abbrev cX7_which : ByteArray := prog_1_method_35_code
def yX7_which : MethodName := ⟨RX7, "which", "()I"⟩
abbrev cX7_undo : ByteArray := prog_1_method_36_code
def yX7_undo : MethodName := ⟨RX7, "undo", "()I"⟩
abbrev cX7_isSlot : ByteArray := prog_1_method_37_code
def yX7_isSlot : MethodName := ⟨RX7, "isSlot", "(I)Z"⟩
abbrev cX7_isPrimitive : ByteArray := prog_1_method_38_code
def yX7_isPrimitive : MethodName := ⟨RX7, "isPrimitive", "(I)Z"⟩
abbrev cX7_isMarkNumber : ByteArray := prog_1_method_39_code
def yX7_isMarkNumber : MethodName := ⟨RX7, "isMarkNumber", "(I)Z"⟩
abbrev cX7_isWay : ByteArray := prog_1_method_40_code
def yX7_isWay : MethodName := ⟨RX7, "isWay", "(I)Z"⟩
abbrev cX7_thingIn : ByteArray := prog_1_method_41_code
def yX7_thingIn : MethodName := ⟨RX7, "thingIn", "(I)I"⟩
abbrev cX7_holdsArray : ByteArray := prog_1_method_42_code
def yX7_holdsArray : MethodName := ⟨RX7, "holdsArray", "(I)Z"⟩
abbrev cX7_hold : ByteArray := prog_1_method_43_code
def yX7_hold : MethodName := ⟨RX7, "hold", "(IIJ)V"⟩
abbrev cX7_shownCode : ByteArray := prog_1_method_44_code
def yX7_shownCode : MethodName := ⟨RX7, "shownCode", "(IJ)J"⟩
abbrev cX7_markIndex : ByteArray := prog_1_method_45_code
def yX7_markIndex : MethodName := ⟨RX7, "markIndex", "(IJ)J"⟩
abbrev cX7_fetchReason : ByteArray := prog_1_method_46_code
def yX7_fetchReason : MethodName := ⟨RX7, "fetchReason", "(II)I"⟩
abbrev cX7_replace : ByteArray := prog_1_method_47_code
def yX7_replace : MethodName := ⟨RX7, "replace", "(II)V"⟩
abbrev cX7_newRow : ByteArray := prog_1_method_48_code
def yX7_newRow : MethodName := ⟨RX7, "newRow", "(II)I"⟩
abbrev cX7_freeRow : ByteArray := prog_1_method_49_code
def yX7_freeRow : MethodName := ⟨RX7, "freeRow", "()I"⟩
abbrev cX7_isInSlots : ByteArray := prog_1_method_50_code
def yX7_isInSlots : MethodName := ⟨RX7, "isInSlots", "(I)Z"⟩
abbrev cX7_firstSlotOf : ByteArray := prog_1_method_51_code
def yX7_firstSlotOf : MethodName := ⟨RX7, "firstSlotOf", "(I)I"⟩
abbrev cX7_countArrays : ByteArray := prog_1_method_52_code
def yX7_countArrays : MethodName := ⟨RX7, "countArrays", "(Z)I"⟩
abbrev cX7_countEmptySlots : ByteArray := prog_1_method_53_code
def yX7_countEmptySlots : MethodName := ⟨RX7, "countEmptySlots", "()I"⟩
abbrev cX7_countFine : ByteArray := prog_1_method_54_code
def yX7_countFine : MethodName := ⟨RX7, "countFine", "()I"⟩
abbrev cX7_convertReason : ByteArray := prog_1_method_55_code
def yX7_convertReason : MethodName := ⟨RX7, "convertReason", "(IIII)I"⟩
abbrev cX7_convertElement : ByteArray := prog_1_method_56_code
def yX7_convertElement : MethodName := ⟨RX7, "convertElement", "(IIII)V"⟩
abbrev cX7_carryThrough : ByteArray := prog_1_method_57_code
def yX7_carryThrough : MethodName := ⟨RX7, "carryThrough", "(IJI)I"⟩
def RX8 : String := "WidenDeskModel"
def TX8 : u_T := fun k => match k with
  | 0 => ("WidenDeskModel", "text", "[I", true)
  | 1 => ("WidenDeskModel", "length", "I", false)
  | 2 => ("WidenDeskModel", "thing", "[I", true)
  | 3 => ("WidenDeskModel", "rowOf", "[I", true)
  | 4 => ("WidenDeskModel", "kindOf", "[I", true)
  | 5 => ("WidenDeskModel", "size", "[I", true)
  | 6 => ("WidenDeskModel", "form", "[I", true)
  | 7 => ("WidenDeskModel", "kind", "[I", true)
  | 8 => ("WidenDeskModel", "value", "[J", true)
  | 9 => ("WidenDeskModel", "number", "[I", true)
  | 10 => ("WidenDeskModel", "isStar", "[Z", true)
  | 11 => ("WidenDeskModel", "marks", "I", false)
  | 12 => ("WidenDeskModel", "handForm", "I", false)
  | 13 => ("WidenDeskModel", "handKind", "I", false)
  | 14 => ("WidenDeskModel", "handValue", "J", false)
  | 15 => ("WidenDeskModel", "reports", "[I", true)
  | 16 => ("WidenDeskModel", "reported", "I", false)
  | 17 => ("WidenDeskModel", "oldThing", "[I", true)
  | 18 => ("WidenDeskModel", "oldRow", "[I", true)
  | 19 => ("WidenDeskModel", "oldKindOf", "[I", true)
  | 20 => ("WidenDeskModel", "oldSize", "[I", true)
  | 21 => ("WidenDeskModel", "oldForm", "[I", true)
  | 22 => ("WidenDeskModel", "oldKind", "[I", true)
  | 23 => ("WidenDeskModel", "oldValue", "[J", true)
  | 24 => ("WidenDeskModel", "oldNumber", "[I", true)
  | 25 => ("WidenDeskModel", "oldMarks", "[I", true)
  | 26 => ("WidenDeskModel", "doings", "I", false)
  | 27 => ("WidenDeskModel", "next", "I", false)
  | 28 => ("WidenDeskModel", "seenHow", "[I", true)
  | 29 => ("WidenDeskModel", "seenKind", "[I", true)
  | 30 => ("WidenDeskModel", "seenReason", "[I", true)
  | 31 => ("WidenDeskModel", "seen", "I", false)
  | 32 => ("WidenDeskModel", "newKind", "I", false)
  | 33 => ("WidenDeskModel", "newSize", "I", false)
  | 34 => ("WidenDeskModel", "newForm", "[I", true)
  | 35 => ("WidenDeskModel", "newCellKind", "[I", true)
  | 36 => ("WidenDeskModel", "newValue", "[J", true)
  | 37 => ("WidenDeskModel", "gotForm", "I", false)
  | 38 => ("WidenDeskModel", "gotKind", "I", false)
  | 39 => ("WidenDeskModel", "gotValue", "J", false)
  | 40 => ("WidenDeskModel", "ends", "[J", true)
  | 41 => ("WidenDeskModel", "manyEnds", "[I", true)
  | 42 => ("WidenDeskModel", "whole", "J", false)
  | 43 => ("WidenDeskModel", "power", "I", false)
  | 44 => ("WidenDeskModel", "at", "I", false)
  | 45 => ("WidenDeskModel", "read", "J", false)
  | _ => ("WidenDeskModel", "isWhole", "Z", false)
def tyX8 : Nat → FieldType := fun k => match k with
  | 0 => .array .int
  | 1 => .int
  | 2 => .array .int
  | 3 => .array .int
  | 4 => .array .int
  | 5 => .array .int
  | 6 => .array .int
  | 7 => .array .int
  | 8 => .array .long
  | 9 => .array .int
  | 10 => .array .boolean
  | 11 => .int
  | 12 => .int
  | 13 => .int
  | 14 => .long
  | 15 => .array .int
  | 16 => .int
  | 17 => .array .int
  | 18 => .array .int
  | 19 => .array .int
  | 20 => .array .int
  | 21 => .array .int
  | 22 => .array .int
  | 23 => .array .long
  | 24 => .array .int
  | 25 => .array .int
  | 26 => .int
  | 27 => .int
  | 28 => .array .int
  | 29 => .array .int
  | 30 => .array .int
  | 31 => .int
  | 32 => .int
  | 33 => .int
  | 34 => .array .int
  | 35 => .array .int
  | 36 => .array .long
  | 37 => .int
  | 38 => .int
  | 39 => .long
  | 40 => .array .long
  | 41 => .array .int
  | 42 => .long
  | 43 => .int
  | 44 => .int
  | 45 => .long
  | _ => .boolean
abbrev wsX80 : List Cond := u_ws RX8 TX8 47
theorem nmX8 : ∀ a, a < 47 → ∀ b, b < 47 → a ≠ b → (TX8 a).2.1 ≠ (TX8 b).2.1 := by decide +kernel
theorem tyX8_ok : ∀ k, k < 47 → parseFieldDescriptor (TX8 k).2.2.1 = some (tyX8 k) := by decide +kernel
abbrev cX8_init : ByteArray := prog_10_method_1_code
def yX8_init : MethodName := ⟨RX8, "<init>", "()V"⟩
abbrev cX8_in : ByteArray := prog_10_method_3_code
def yX8_in : MethodName := ⟨RX8, "in", "(JJJ)Z"⟩
abbrev cX8_has : ByteArray := prog_10_method_4_code
def yX8_has : MethodName := ⟨RX8, "has", "(II)Z"⟩
abbrev cX8_isPlain : ByteArray := prog_10_method_5_code
def yX8_isPlain : MethodName := ⟨RX8, "isPlain", "(I)Z"⟩
abbrev cX8_lengthOf : ByteArray := prog_10_method_6_code
def yX8_lengthOf : MethodName := ⟨RX8, "lengthOf", "(J)I"⟩
abbrev cX8_takeApart : ByteArray := prog_10_method_7_code
def yX8_takeApart : MethodName := ⟨RX8, "takeApart", "(IJ)V"⟩
abbrev cX8_rounded : ByteArray := prog_10_method_8_code
def yX8_rounded : MethodName := ⟨RX8, "rounded", "(IJI)J"⟩
abbrev cX8_fits : ByteArray := prog_10_method_9_code
def yX8_fits : MethodName := ⟨RX8, "fits", "(IJ)Z"⟩
abbrev cX8_widens : ByteArray := prog_10_method_10_code
def yX8_widens : MethodName := ⟨RX8, "widens", "(II)Z"⟩
abbrev cX8_widened : ByteArray := prog_10_method_11_code
def yX8_widened : MethodName := ⟨RX8, "widened", "(IJI)J"⟩
abbrev cX8_given : ByteArray := prog_10_method_12_code
def yX8_given : MethodName := ⟨RX8, "given", "(IJ)J"⟩
abbrev cX8_isOne : ByteArray := prog_10_method_13_code
def yX8_isOne : MethodName := ⟨RX8, "isOne", "(IJI)Z"⟩
abbrev cX8_asOne : ByteArray := prog_10_method_14_code
def yX8_asOne : MethodName := ⟨RX8, "asOne", "(IJI)J"⟩
abbrev cX8_write : ByteArray := prog_10_method_15_code
def yX8_write : MethodName := ⟨RX8, "write", "(I)I"⟩
abbrev cX8_wipe : ByteArray := prog_10_method_16_code
def yX8_wipe : MethodName := ⟨RX8, "wipe", "()I"⟩
abbrev cX8_plainOf : ByteArray := prog_10_method_17_code
def yX8_plainOf : MethodName := ⟨RX8, "plainOf", "(I)I"⟩
abbrev cX8_rowKindOf : ByteArray := prog_10_method_18_code
def yX8_rowKindOf : MethodName := ⟨RX8, "rowKindOf", "(I)I"⟩
abbrev cX8_letter : ByteArray := prog_10_method_19_code
def yX8_letter : MethodName := ⟨RX8, "letter", "()I"⟩
abbrev cX8_readNumber : ByteArray := prog_10_method_20_code
def yX8_readNumber : MethodName := ⟨RX8, "readNumber", "(I)V"⟩
abbrev cX8_isNumber : ByteArray := prog_10_method_21_code
def yX8_isNumber : MethodName := ⟨RX8, "isNumber", "(IJ)Z"⟩
abbrev cX8_putTold : ByteArray := prog_10_method_22_code
def yX8_putTold : MethodName := ⟨RX8, "putTold", "(IIJ)V"⟩
abbrev cX8_toldOf : ByteArray := prog_10_method_23_code
def yX8_toldOf : MethodName := ⟨RX8, "toldOf", "(IJ)J"⟩
abbrev cX8_readCell : ByteArray := prog_10_method_24_code
def yX8_readCell : MethodName := ⟨RX8, "readCell", "()Z"⟩
abbrev cX8_readText : ByteArray := prog_10_method_25_code
def yX8_readText : MethodName := ⟨RX8, "readText", "()I"⟩
abbrev cX8_fault : ByteArray := prog_10_method_26_code
def yX8_fault : MethodName := ⟨RX8, "fault", "()I"⟩
abbrev cX8_isSlot : ByteArray := prog_10_method_27_code
def yX8_isSlot : MethodName := ⟨RX8, "isSlot", "(I)Z"⟩
abbrev cX8_holdsRow : ByteArray := prog_10_method_28_code
def yX8_holdsRow : MethodName := ⟨RX8, "holdsRow", "(I)Z"⟩
abbrev cX8_holdsPlain : ByteArray := prog_10_method_29_code
def yX8_holdsPlain : MethodName := ⟨RX8, "holdsPlain", "(I)Z"⟩
abbrev cX8_isHeld : ByteArray := prog_10_method_30_code
def yX8_isHeld : MethodName := ⟨RX8, "isHeld", "(I)Z"⟩
abbrev cX8_freeRow : ByteArray := prog_10_method_31_code
def yX8_freeRow : MethodName := ⟨RX8, "freeRow", "()I"⟩
abbrev cX8_note : ByteArray := prog_10_method_32_code
def yX8_note : MethodName := ⟨RX8, "note", "()V"⟩
abbrev cX8_undo : ByteArray := prog_10_method_33_code
def yX8_undo : MethodName := ⟨RX8, "undo", "()I"⟩
abbrev cX8_holdNew : ByteArray := prog_10_method_34_code
def yX8_holdNew : MethodName := ⟨RX8, "holdNew", "(I)V"⟩
abbrev cX8_tell : ByteArray := prog_10_method_35_code
def yX8_tell : MethodName := ⟨RX8, "tell", "(I)I"⟩
abbrev cX8_rowsHeld : ByteArray := prog_10_method_36_code
def yX8_rowsHeld : MethodName := ⟨RX8, "rowsHeld", "(I)I"⟩
abbrev cX8_nothings : ByteArray := prog_10_method_37_code
def yX8_nothings : MethodName := ⟨RX8, "nothings", "()I"⟩
abbrev cX8_fineOnes : ByteArray := prog_10_method_38_code
def yX8_fineOnes : MethodName := ⟨RX8, "fineOnes", "()I"⟩
abbrev cX8_about : ByteArray := prog_10_method_39_code
def yX8_about : MethodName := ⟨RX8, "about", "(I)I"⟩
abbrev cX8_make : ByteArray := prog_10_method_40_code
def yX8_make : MethodName := ⟨RX8, "make", "(III)I"⟩
abbrev cX8_share : ByteArray := prog_10_method_41_code
def yX8_share : MethodName := ⟨RX8, "share", "(II)I"⟩
abbrev cX8_thing : ByteArray := prog_10_method_42_code
def yX8_thing : MethodName := ⟨RX8, "thing", "(II)I"⟩
abbrev cX8_same : ByteArray := prog_10_method_43_code
def yX8_same : MethodName := ⟨RX8, "same", "(II)I"⟩
abbrev cX8_get : ByteArray := prog_10_method_44_code
def yX8_get : MethodName := ⟨RX8, "get", "(II)V"⟩
abbrev cX8_kindTold : ByteArray := prog_10_method_45_code
def yX8_kindTold : MethodName := ⟨RX8, "kindTold", "(IIJ)I"⟩
abbrev cX8_told : ByteArray := prog_10_method_46_code
def yX8_told : MethodName := ⟨RX8, "told", "(IJ)J"⟩
abbrev cX8_cell : ByteArray := prog_10_method_47_code
def yX8_cell : MethodName := ⟨RX8, "cell", "(III)J"⟩
abbrev cX8_hold : ByteArray := prog_10_method_48_code
def yX8_hold : MethodName := ⟨RX8, "hold", "(IIJ)V"⟩
abbrev cX8_give : ByteArray := prog_10_method_49_code
def yX8_give : MethodName := ⟨RX8, "give", "(IJ)I"⟩
abbrev cX8_mark : ByteArray := prog_10_method_50_code
def yX8_mark : MethodName := ⟨RX8, "mark", "(II)I"⟩
abbrev cX8_text : ByteArray := prog_10_method_51_code
def yX8_text : MethodName := ⟨RX8, "text", "(I)I"⟩
abbrev cX8_turn : ByteArray := prog_10_method_52_code
def yX8_turn : MethodName := ⟨RX8, "turn", "()I"⟩
abbrev cX8_hand : ByteArray := prog_10_method_53_code
def yX8_hand : MethodName := ⟨RX8, "hand", "(I)J"⟩
abbrev cX8_grow : ByteArray := prog_10_method_54_code
def yX8_grow : MethodName := ⟨RX8, "grow", "(I)I"⟩
abbrev cX8_withOut : ByteArray := prog_10_method_55_code
def yX8_withOut : MethodName := ⟨RX8, "withOut", "(IZ)I"⟩
abbrev cX8_reasonOf : ByteArray := prog_10_method_56_code
def yX8_reasonOf : MethodName := ⟨RX8, "reasonOf", "(I)I"⟩
abbrev cX8_takeFrom : ByteArray := prog_10_method_57_code
def yX8_takeFrom : MethodName := ⟨RX8, "takeFrom", "(II)I"⟩
abbrev cX8_bring : ByteArray := prog_10_method_58_code
def yX8_bring : MethodName := ⟨RX8, "bring", "(IIIJ)I"⟩
abbrev cX8_reasonToTake : ByteArray := prog_10_method_59_code
def yX8_reasonToTake : MethodName := ⟨RX8, "reasonToTake", "(III)I"⟩
abbrev cX8_reasonToFetch : ByteArray := prog_10_method_60_code
def yX8_reasonToFetch : MethodName := ⟨RX8, "reasonToFetch", "(II)I"⟩
abbrev cX8_reasonToLay : ByteArray := prog_10_method_61_code
def yX8_reasonToLay : MethodName := ⟨RX8, "reasonToLay", "(IIIIJ)I"⟩
abbrev cX8_put : ByteArray := prog_10_method_62_code
def yX8_put : MethodName := ⟨RX8, "put", "(IIIIJ)V"⟩
abbrev cX8_take : ByteArray := prog_10_method_63_code
def yX8_take : MethodName := ⟨RX8, "take", "(III)I"⟩
abbrev cX8_fetch : ByteArray := prog_10_method_64_code
def yX8_fetch : MethodName := ⟨RX8, "fetch", "(II)I"⟩
abbrev cX8_lay : ByteArray := prog_10_method_65_code
def yX8_lay : MethodName := ⟨RX8, "lay", "(II)I"⟩
abbrev cX8_scatter : ByteArray := prog_10_method_66_code
def yX8_scatter : MethodName := ⟨RX8, "scatter", "(IJ)I"⟩
abbrev cX8_convertCell : ByteArray := prog_10_method_67_code
def yX8_convertCell : MethodName := ⟨RX8, "convertCell", "(IIII)I"⟩
abbrev cX8_convert : ByteArray := prog_10_method_68_code
def yX8_convert : MethodName := ⟨RX8, "convert", "(III)I"⟩
abbrev cX8_report : ByteArray := prog_10_method_69_code
def yX8_report : MethodName := ⟨RX8, "report", "(I)I"⟩
abbrev cX8_chains : ByteArray := prog_10_method_70_code
def yX8_chains : MethodName := ⟨RX8, "chains", "(II)I"⟩
abbrev cX8_isWay : ByteArray := prog_10_method_71_code
def yX8_isWay : MethodName := ⟨RX8, "isWay", "(I)Z"⟩
abbrev cX8_carry : ByteArray := prog_10_method_72_code
def yX8_carry : MethodName := ⟨RX8, "carry", "(III)I"⟩
abbrev cX8_addEnd : ByteArray := prog_10_method_73_code
def yX8_addEnd : MethodName := ⟨RX8, "addEnd", "(IJ)V"⟩
abbrev cX8_ends : ByteArray := prog_10_method_74_code
def yX8_ends : MethodName := ⟨RX8, "ends", "(III)I"⟩
abbrev cX8_leastOf : ByteArray := prog_10_method_75_code
def yX8_leastOf : MethodName := ⟨RX8, "leastOf", "(II)I"⟩
abbrev cX8_least : ByteArray := prog_10_method_76_code
def yX8_least : MethodName := ⟨RX8, "least", "(I)I"⟩
abbrev cX8_joinedKind : ByteArray := prog_10_method_77_code
def yX8_joinedKind : MethodName := ⟨RX8, "joinedKind", "(II)I"⟩
abbrev cX8_joinCells : ByteArray := prog_10_method_78_code
def yX8_joinCells : MethodName := ⟨RX8, "joinCells", "(I)V"⟩
abbrev cX8_join : ByteArray := prog_10_method_79_code
def yX8_join : MethodName := ⟨RX8, "join", "(III)I"⟩
abbrev cX8_cut : ByteArray := prog_10_method_80_code
def yX8_cut : MethodName := ⟨RX8, "cut", "(III)I"⟩
abbrev cX8_areAlike : ByteArray := prog_10_method_81_code
def yX8_areAlike : MethodName := ⟨RX8, "areAlike", "(II)Z"⟩
abbrev cX8_alike : ByteArray := prog_10_method_82_code
def yX8_alike : MethodName := ⟨RX8, "alike", "(II)I"⟩
abbrev cX8_areSame : ByteArray := prog_10_method_83_code
def yX8_areSame : MethodName := ⟨RX8, "areSame", "(II)Z"⟩
abbrev cX8_unlike : ByteArray := prog_10_method_84_code
def yX8_unlike : MethodName := ⟨RX8, "unlike", "(I)I"⟩
abbrev cX8_total : ByteArray := prog_10_method_85_code
def yX8_total : MethodName := ⟨RX8, "total", "(II)I"⟩
abbrev cX8_see : ByteArray := prog_10_method_86_code
def yX8_see : MethodName := ⟨RX8, "see", "(III)I"⟩
abbrev cX8_unsee : ByteArray := prog_10_method_87_code
def yX8_unsee : MethodName := ⟨RX8, "unsee", "()I"⟩
abbrev cX8_reasonBy : ByteArray := prog_10_method_88_code
def yX8_reasonBy : MethodName := ⟨RX8, "reasonBy", "(III)I"⟩
abbrev cX8_which : ByteArray := prog_10_method_89_code
def yX8_which : MethodName := ⟨RX8, "which", "()I"⟩
def RJ11 : String := "java/lang/Character"
abbrev cJ11_isValidCodePoint_9a6ad : ByteArray := prog_11_method_11_code
def yJ11_isValidCodePoint_9a6ad : MethodName := ⟨RJ11, "isValidCodePoint", "(I)Z"⟩
abbrev cJ11_highSurrogate_5068e : ByteArray := prog_11_method_28_code
def yJ11_highSurrogate_5068e : MethodName := ⟨RJ11, "highSurrogate", "(I)C"⟩
abbrev cJ11_lowSurrogate_5068e : ByteArray := prog_11_method_29_code
def yJ11_lowSurrogate_5068e : MethodName := ⟨RJ11, "lowSurrogate", "(I)C"⟩
def RJ6 : String := "java/lang/Integer"
abbrev cJ6_numberOfLeadingZeros_0f7a4 : ByteArray := prog_12_method_47_code
def yJ6_numberOfLeadingZeros_0f7a4 : MethodName := ⟨RJ6, "numberOfLeadingZeros", "(I)I"⟩
def RJ13 : String := "java/lang/Long"
abbrev cJ13_numberOfLeadingZeros_95d88 : ByteArray := prog_13_method_48_code
def yJ13_numberOfLeadingZeros_95d88 : MethodName := ⟨RJ13, "numberOfLeadingZeros", "(J)I"⟩
def RJ9 : String := "java/lang/Math"
abbrev cJ9_max_7cf53 : ByteArray := prog_14_method_65_code
def yJ9_max_7cf53 : MethodName := ⟨RJ9, "max", "(II)I"⟩
abbrev cJ9_min_7cf53 : ByteArray := prog_14_method_69_code
def yJ9_min_7cf53 : MethodName := ⟨RJ9, "min", "(II)I"⟩
def RJ0 : String := "java/lang/String"
abbrev cJ0_length_8abf5 : ByteArray := prog_15_method_54_code
def yJ0_length_8abf5 : MethodName := ⟨RJ0, "length", "()I"⟩
abbrev cJ0_indexOf_0f7a4 : ByteArray := prog_15_method_79_code
def yJ0_indexOf_0f7a4 : MethodName := ⟨RJ0, "indexOf", "(I)I"⟩
abbrev cJ0_indexOf_7cf53 : ByteArray := prog_15_method_80_code
def yJ0_indexOf_7cf53 : MethodName := ⟨RJ0, "indexOf", "(II)I"⟩
abbrev cJ0_coder_7d493 : ByteArray := prog_15_method_152_code
def yJ0_coder_7d493 : MethodName := ⟨RJ0, "coder", "()B"⟩
abbrev cJ0_isLatin1_aae02 : ByteArray := prog_15_method_154_code
def yJ0_isLatin1_aae02 : MethodName := ⟨RJ0, "isLatin1", "()Z"⟩
abbrev cJ0_checkBoundsBeginEnd_23922 : ByteArray := prog_15_method_158_code
def yJ0_checkBoundsBeginEnd_23922 : MethodName := ⟨RJ0, "checkBoundsBeginEnd", "(III)V"⟩
def RJ1 : String := "java/lang/StringLatin1"
abbrev cJ1_canEncode_9a6ad : ByteArray := prog_16_method_4_code
def yJ1_canEncode_9a6ad : MethodName := ⟨RJ1, "canEncode", "(I)Z"⟩
abbrev cJ1_indexOf_4cfef : ByteArray := prog_16_method_22_code
def yJ1_indexOf_4cfef : MethodName := ⟨RJ1, "indexOf", "([BIII)I"⟩
abbrev cJ1_indexOfChar_4cfef : ByteArray := prog_16_method_23_code
def yJ1_indexOfChar_4cfef : MethodName := ⟨RJ1, "indexOfChar", "([BIII)I"⟩
def RJ2 : String := "java/lang/StringUTF16"
abbrev cJ2_getChar_3b067 : ByteArray := prog_17_method_5_code
def yJ2_getChar_3b067 : MethodName := ⟨RJ2, "getChar", "([BI)C"⟩
abbrev cJ2_length_9d52b : ByteArray := prog_17_method_6_code
def yJ2_length_9d52b : MethodName := ⟨RJ2, "length", "([B)I"⟩
abbrev cJ2_indexOf_4cfef : ByteArray := prog_17_method_40_code
def yJ2_indexOf_4cfef : MethodName := ⟨RJ2, "indexOf", "([BIII)I"⟩
abbrev cJ2_indexOfChar_4cfef : ByteArray := prog_17_method_47_code
def yJ2_indexOfChar_4cfef : MethodName := ⟨RJ2, "indexOfChar", "([BIII)I"⟩
abbrev cJ2_indexOfCharUnsafe_4cfef : ByteArray := prog_17_method_48_code
def yJ2_indexOfCharUnsafe_4cfef : MethodName := ⟨RJ2, "indexOfCharUnsafe", "([BIII)I"⟩
abbrev cJ2_indexOfSupplementary_4cfef : ByteArray := prog_17_method_49_code
def yJ2_indexOfSupplementary_4cfef : MethodName := ⟨RJ2, "indexOfSupplementary", "([BIII)I"⟩
abbrev cJ2_checkBoundsBeginEnd_d044e : ByteArray := prog_17_method_93_code
def yJ2_checkBoundsBeginEnd_d044e : MethodName := ⟨RJ2, "checkBoundsBeginEnd", "(II[B)V"⟩
def RJ3 : String := "jdk/internal/util/Preconditions"
abbrev cJ3_checkFromToIndex_8c36e : ByteArray := prog_18_method_12_code
def yJ3_checkFromToIndex_8c36e : MethodName := ⟨RJ3, "checkFromToIndex", "(IIILjava/util/function/BiFunction;)I"⟩
def RL : String := "WidenDeskLaw"
abbrev cL_law : ByteArray := code
def yL_law : MethodName := ⟨RL, "law", "([I)Z"⟩
abbrev vwCl : List vw_C := [(RX0, TX0, 8), (RX1, TX1, 2), (RX3, TX3, 7), (RX5, TX5, 4), (RX6, TX6, 4), (RX7, TX7, 11), (RX8, TX8, 47)]
end
section
/-! MY KIT, 1: the words, the world as a memory, the judgement G -/
/-- the tables' good words: what every contract here asks for, beside its own code -/
def TT : List Cond := lw_tbl.filter goodWord
theorem TT_in {w : Cond} (i : Nat) (h : lw_tbl[i]? = some w) (hg : goodWord w = true) : w ∈ TT := List.mem_filter.mpr ⟨List.mem_of_getElem? h, hg⟩
theorem TT_good {w : Cond} (h : w ∈ TT) : (w.onTables && w.keeps) = true ∨ ∃ ty, w = .arrayClass ty := good_of_word (List.mem_filter.mp h).2
/-- a memory: ints and longs, by object and slot (or index) -/
abbrev Mm : Type := (Nat → Nat → Int32) × (Nat → Nat → Int64)
def wI (μ : Mm) (o k : Nat) (v : Int32) : Mm := (fun a b => if a = o ∧ b = k then v else μ.1 a b, μ.2)
def wL (μ : Mm) (o k : Nat) (v : Int64) : Mm := (μ.1, fun a b => if a = o ∧ b = k then v else μ.2 a b)
/-- a shape: an array (kind 0 int, 1 long, 2 boolean; its length), or an object (its class, its slots: 0 int, 1 long, j+2 the object j) -/
abbrev Sh : Type := (Nat × Nat) ⊕ (Nat × List Nat)
/-- an environment: class numbers and slots, array classes, the objects' addresses, the text constant's two addresses -/
abbrev Ev : Type := va_G × (Nat → ClassId) × (Nat → Nat) × (Nat → Nat) × (Nat → Nat)
abbrev eD (ε : Ev) : va_G := ε.1
abbrev eA (ε : Ev) : Nat → ClassId := ε.2.1
abbrev ea (ε : Ev) : Nat → Nat := ε.2.2.1
def shv (ad : Nat → Nat) (μ : Mm) (o k : Nat) : Nat → Value
  | 0 => .int (μ.1 o k)
  | 1 => .long (μ.2 o k)
  | j + 2 => .ref (ad j)
def mkE (ε : Ev) (μ : Mm) (o : Nat) : Sh → va_E
  | .inl q => .inl (eA ε q.1, q.2, if q.1 = 1 then .inr (.inl (μ.2 o)) else .inl (μ.1 o))
  | .inr q => .inr (q.1, q.2.mapIdx (fun k kd => shv (ea ε) μ o k kd))
def wd (lay : List Sh) (ε : Ev) (μ : Mm) : va_W := lay.mapIdx (fun o sh => (ea ε o, mkE ε μ o sh))
def Aw (lay : List Sh) (ε : Ev) : Nat → Prop := fun q => ∃ o, o < lay.length ∧ q = ea ε o
def tysOf (ε : Ev) : List (ClassId × FieldType) := [(eA ε 0, .int), (eA ε 1, .long), (eA ε 2, .boolean)]
theorem wd_at {lay : List Sh} {ε : Ev} {μ : Mm} {o : Nat} {sh : Sh} (h : lay[o]? = some sh) : (wd lay ε μ)[o]? = some (ea ε o, mkE ε μ o sh) := by
  simp [wd, List.getElem?_mapIdx, h]
theorem wd_of {lay : List Sh} {ε : Ev} {μ : Mm} {o : Nat} {q : Nat × va_E} (h : (wd lay ε μ)[o]? = some q) : o < lay.length ∧ q.1 = ea ε o := by
  have hl : o < (wd lay ε μ).length := (List.getElem?_eq_some_iff.mp h).1
  have hl' : o < lay.length := by simpa [wd] using hl
  rw [wd_at (List.getElem?_eq_getElem hl')] at h
  cases h
  exact ⟨hl', rfl⟩
def Apart (lay : List Sh) (ε : Ev) : Prop := ∀ i j, i < lay.length → j < lay.length → ea ε i = ea ε j → i = j
theorem wd_D {lay : List Sh} {ε : Ev} {μ : Mm} (h : Apart lay ε) : va_D (Aw lay ε) (wd lay ε μ) := by
  refine ⟨fun i j p q hi hj e => ?_, fun k q hk => ?_⟩
  · obtain ⟨a1, a2⟩ := wd_of hi
    obtain ⟨b1, b2⟩ := wd_of hj
    exact h i j a1 b1 (by rw [← a2, ← b2]; exact e)
  · obtain ⟨a1, a2⟩ := wd_of hk
    exact ⟨k, a1, a2⟩
theorem shv_wI_ne {ad : Nat → Nat} {μ : Mm} {o k v o' k' : Nat} {x : Int32} (h : ¬ (o' = o ∧ k' = k)) : shv ad (wI μ o k x) o' k' v = shv ad μ o' k' v := by
  match v with
  | 0 => simp [shv, wI, h]
  | 1 => rfl
  | j + 2 => rfl
theorem shv_wL_ne {ad : Nat → Nat} {μ : Mm} {o k v o' k' : Nat} {x : Int64} (h : ¬ (o' = o ∧ k' = k)) : shv ad (wL μ o k x) o' k' v = shv ad μ o' k' v := by
  match v with
  | 0 => rfl
  | 1 => simp [shv, wL, h]
  | j + 2 => rfl
theorem mkE_wI_ne {ε : Ev} {μ : Mm} {o k o' : Nat} {x : Int32} (h : o' ≠ o) (sh : Sh) : mkE ε (wI μ o k x) o' sh = mkE ε μ o' sh := by
  rcases sh with q | q
  · have e : (wI μ o k x).1 o' = μ.1 o' := by funext b; simp [wI, h]
    simp only [mkE, e]
    rfl
  · simp only [mkE]
    congr 2
    congr 1
    funext a b
    exact shv_wI_ne (fun z => h z.1)
theorem mkE_wL_ne {ε : Ev} {μ : Mm} {o k o' : Nat} {x : Int64} (h : o' ≠ o) (sh : Sh) : mkE ε (wL μ o k x) o' sh = mkE ε μ o' sh := by
  rcases sh with q | q
  · have e : (wL μ o k x).2 o' = μ.2 o' := by funext b; simp [wL, h]
    simp only [mkE, e]
    rfl
  · simp only [mkE]
    congr 2
    congr 1
    funext a b
    exact shv_wL_ne (fun z => h z.1)
theorem wd_set {lay : List Sh} {ε : Ev} {μ μ' : Mm} {o : Nat} {sh : Sh} {en : va_E} (h : lay[o]? = some sh) (he : mkE ε μ' o sh = en) (hn : ∀ o' sh', o' ≠ o → mkE ε μ' o' sh' = mkE ε μ o' sh') : (wd lay ε μ).set o (ea ε o, en) = wd lay ε μ' := by
  apply List.ext_getElem?
  intro i
  by_cases hi : i = o
  · subst hi
    have hl : i < (wd lay ε μ).length := by simpa [wd] using (List.getElem?_eq_some_iff.mp h).1
    rw [List.getElem?_set_self hl, wd_at h, he]
  · rw [List.getElem?_set_ne (Ne.symm hi)]
    simp only [wd, List.getElem?_mapIdx]
    cases lay[i]? with
    | none => rfl
    | some sh' => simp only [Option.map]; rw [hn i sh' hi]
theorem wd_setI {lay : List Sh} {ε : Ev} {μ : Mm} {o k ci : Nat} {ks : List Nat} {x : Int32} (h : lay[o]? = some (.inr (ci, ks))) (hk : ks[k]? = some 0) : (wd lay ε μ).set o (ea ε o, .inr (ci, (ks.mapIdx (fun k kd => shv (ea ε) μ o k kd)).set k (.int x))) = wd lay ε (wI μ o k x) := by
  refine wd_set h ?_ (fun o' sh' ho => mkE_wI_ne ho sh')
  simp only [mkE]
  congr 2
  apply List.ext_getElem?
  intro i
  by_cases hi : i = k
  · subst hi
    have hl : i < (ks.mapIdx (fun k kd => shv (ea ε) μ o k kd)).length := by simpa using (List.getElem?_eq_some_iff.mp hk).1
    rw [List.getElem?_set_self hl, List.getElem?_mapIdx, hk]
    simp [shv, wI]
  · rw [List.getElem?_set_ne (Ne.symm hi), List.getElem?_mapIdx, List.getElem?_mapIdx]
    cases ks[i]? with
    | none => rfl
    | some z => simp only [Option.map]; rw [shv_wI_ne (fun q => hi q.2)]
theorem wd_setL {lay : List Sh} {ε : Ev} {μ : Mm} {o k ci : Nat} {ks : List Nat} {x : Int64} (h : lay[o]? = some (.inr (ci, ks))) (hk : ks[k]? = some 1) : (wd lay ε μ).set o (ea ε o, .inr (ci, (ks.mapIdx (fun k kd => shv (ea ε) μ o k kd)).set k (.long x))) = wd lay ε (wL μ o k x) := by
  refine wd_set h ?_ (fun o' sh' ho => mkE_wL_ne ho sh')
  simp only [mkE]
  congr 2
  apply List.ext_getElem?
  intro i
  by_cases hi : i = k
  · subst hi
    have hl : i < (ks.mapIdx (fun k kd => shv (ea ε) μ o k kd)).length := by simpa using (List.getElem?_eq_some_iff.mp hk).1
    rw [List.getElem?_set_self hl, List.getElem?_mapIdx, hk]
    simp [shv, wL]
  · rw [List.getElem?_set_ne (Ne.symm hi), List.getElem?_mapIdx, List.getElem?_mapIdx]
    cases ks[i]? with
    | none => rfl
    | some z => simp only [Option.map]; rw [shv_wL_ne (fun q => hi q.2)]
theorem wd_setA {lay : List Sh} {ε : Ev} {μ : Mm} {o t n i : Nat} {x : Int32} (h : lay[o]? = some (.inl (t, n))) (ht : t ≠ 1) : (wd lay ε μ).set o (ea ε o, .inl (eA ε t, n, .inl (upd (μ.1 o) i x))) = wd lay ε (wI μ o i x) := by
  refine wd_set h ?_ (fun o' sh' ho => mkE_wI_ne ho sh')
  have e : (wI μ o i x).1 o = upd (μ.1 o) i x := by funext b; simp [wI, upd]
  simp [mkE, ht, e]
theorem wd_setAL {lay : List Sh} {ε : Ev} {μ : Mm} {o n i : Nat} {x : Int64} (h : lay[o]? = some (.inl (1, n))) : (wd lay ε μ).set o (ea ε o, .inl (eA ε 1, n, .inr (.inl (vp_updL (μ.2 o) i x)))) = wd lay ε (wL μ o i x) := by
  refine wd_set h ?_ (fun o' sh' ho => mkE_wL_ne ho sh')
  have e : (wL μ o i x).2 o = vp_updL (μ.2 o) i x := by funext b; simp [wL, vp_updL]
  simp [mkE, e]
def inb (i : Int32) (n : Nat) : Bool := !(decide (i < 0) || decide (n ≤ i.toNatClampNeg))
theorem inb_in {i : Int32} {n : Nat} (h : inb i n = true) : vp_in i n := by
  simp only [inb, Bool.not_eq_true', Bool.or_eq_false_iff, decide_eq_false_iff_not] at h
  exact fun z => z.elim h.1 h.2
theorem ite_some {α : Type} {c : Prop} [Decidable c] {a : Option α} {r : α} (h : (if c then a else none) = some r) : c ∧ a = some r := by
  split at h
  · exact ⟨by assumption, h⟩
  · cases h
theorem bind_some {α β : Type} {a : Option α} {f : α → Option β} {r : β} (h : a.bind f = some r) : ∃ q, a = some q ∧ f q = some r := by
  cases a with
  | none => cases h
  | some q => exact ⟨q, rfl, h⟩
/-! the judgement -/
abbrev Kx : Type := Program × Launch × Env × Room × State × MethodId × Array Value × List Frame × Method × Code × (State → Prop)
abbrev kp (κ : Kx) : Program := κ.1
abbrev kl (κ : Kx) : Launch := κ.2.1
abbrev ke (κ : Kx) : Env := κ.2.2.1
abbrev kR (κ : Kx) : Room := κ.2.2.2.1
abbrev kS (κ : Kx) : State := κ.2.2.2.2.1
abbrev km (κ : Kx) : MethodId := κ.2.2.2.2.2.1
abbrev ka (κ : Kx) : Array Value := κ.2.2.2.2.2.2.1
abbrev kb (κ : Kx) : List Frame := κ.2.2.2.2.2.2.2.1
abbrev kt (κ : Kx) : Method := κ.2.2.2.2.2.2.2.2.1
abbrev kc (κ : Kx) : Code := κ.2.2.2.2.2.2.2.2.2.1
abbrev kQ (κ : Kx) : State → Prop := κ.2.2.2.2.2.2.2.2.2.2
abbrev Wk (κ : Kx) (H : Heap) (locs : List Loc) (g : JFrame) : Prop := W (kp κ) (kl κ) (ke κ) (kR κ) (kS κ) (km κ) (ka κ) (kb κ) (kt κ) (kc κ) H locs 0 0 (kQ κ) g
/-- from every heap with V and locals with L, the machine at pc with stack st comes to the end -/
def G (κ : Kx) (V : Heap → List Loc → Prop) (nL pc : Nat) (L : List (Nat × Value)) (st : List Value) : Prop :=
  ∀ (H : Heap) (locs : List Loc) (ls : Array Slot), V H locs → lv_has ls nL L → Wk κ H locs (F0 (km κ) pc ls st)
def rmd (d : Nat) : Room := { frames := d, cells := 0, slots := 0, locals := 120 * d }
def nestW : List Cond := [.methodLinkNest "WidenDesk$Reader" 61 ⟨"WidenDesk", "isPrimitive", "(I)Z"⟩ "WidenDesk", .methodLinkNest "WidenDesk$Reader" 83 ⟨"WidenDesk$Numbers", "isBetween", "(JI)Z"⟩ "WidenDesk", .methodLinkNest "WidenDesk$Shelf" 27 ⟨"WidenDesk", "isPrimitive", "(I)Z"⟩ "WidenDesk", .methodLinkNest "WidenDesk$Rules" 9 ⟨"WidenDesk", "isPrimitive", "(I)Z"⟩ "WidenDesk", .methodLinkNest "WidenDesk" 234 ⟨"WidenDesk$Numbers", "countChains", "(III)I"⟩ "WidenDesk"]
def Nst (U : State) : Prop := ∀ w ∈ nestW, va_Nw w U
theorem Nst.warm {s U : State} (hW : s.WarmedH U.vm) (h : Nst s) : Nst U := by
  intro w hw
  have h1 := h w hw
  simp only [nestW, List.mem_cons, List.not_mem_nil, or_false] at hw
  rcases hw with rfl | rfl | rfl | rfl | rfl <;> exact va_Nw.warmM hW h1
theorem Nst.same {u U : State} (hv : u.vm = U.vm) (h : Nst u) : Nst U := by
  intro w hw
  have h1 := h w hw
  simp only [nestW, List.mem_cons, List.not_mem_nil, or_false] at hw
  rcases hw with rfl | rfl | rfl | rfl | rfl <;> exact va_Nw.same rfl hv h1
/-- what a walk stands on: the machine, the code, the class, the words, the room, the return type -/
def Cf (κ : Kx) (cc : ByteArray) (nL : Nat) (own : String) (ret : Option FieldType) (d : Nat) : Prop :=
  CallFix (kp κ) (km κ) (kc κ) cc nL (kS κ) (ka κ) TT own ∧ (kt κ).sig.returnType = ret ∧ (kt κ).locks = false ∧ Nst (kS κ) ∧ kR κ = rmd d
/-- the text constant of the reader, and String's COMPACT_STRINGS -/
def Sx (ε : Ev) (A : Nat → Prop) (U : State) (H : Heap) : Prop :=
  vk_R "WidenDesk$Reader" 54 "zbcsijfd" (ε.2.2.2.1 0) U ∧ vk_S 1 [8] [[122, 98, 99, 115, 105, 106, 102, 100]] ε.2.2.2.1 ε.2.2.2.2 A U H ∧ va_Z "java/lang/String" "COMPACT_STRINGS" "Z" (.int 1) A U H
theorem Sx.same {ε : Ev} {A : Nat → Prop} {u U : State} {H : Heap} (hv : u.vm = U.vm) (h : Sx ε A u H) : Sx ε A U H :=
  ⟨vk_R.same hv.symm h.1, vk_S.moved (by rw [hv]; exact Vm.Alike.refl _) h.2.1, va_Z.moved (by rw [hv]; exact Vm.Alike.refl _) h.2.2⟩
theorem Sx.warm {ε : Ev} {A : Nat → Prop} {s U : State} {H : Heap} (hW : s.WarmedH U.vm) (h : Sx ε A s H) : Sx ε A U H :=
  ⟨vk_R.warm hW h.1, vk_S.moved hW.alike h.2.1, va_Z.moved hW.alike h.2.2⟩
theorem Sx.kept {ε : Ev} {A : Nat → Prop} {U : State} {H H1 : Heap} (h : Sx ε A U H) (hq : ∀ a : Nat, a < H.size → ¬ A a → H1[a]? = H[a]?) : Sx ε A U H1 :=
  ⟨h.1, vk_S.kept h.2.1 hq, va_Z.kept h.2.2 hq⟩
/-- the fixed part of a world at a state -/
def En (ε : Ev) (lay : List Sh) (U : State) : Prop := va_K (eD ε) vwCl (tysOf ε) U ∧ Apart lay ε ∧ Sx ε (Aw lay ε) U U.heap
theorem En.same {ε : Ev} {lay : List Sh} {u U : State} (hv : u.vm = U.vm) (hh : u.heap = U.heap) (h : En ε lay u) : En ε lay U :=
  ⟨va_K.moved (by rw [hv]; exact Vm.Alike.refl _) h.1, h.2.1, by rw [← hh]; exact h.2.2.same hv⟩
theorem En.go {ε : Ev} {lay : List Sh} {s U : State} {H : Heap} {locs : List Loc} (h : En ε lay s) (hS : va_S (Aw lay ε) s.heap H locs) (hU : U.heap = H) (hW : s.WarmedH U.vm) : En ε lay U :=
  ⟨va_K.moved hW.alike h.1, h.2.1, by rw [hU]; exact (h.2.2.warm hW).kept hS.2.1⟩
def Vw (κ : Kx) (ε : Ev) (lay : List Sh) (μ : Mm) : Heap → List Loc → Prop := fun H locs => va_P (eD ε) vwCl (wd lay ε μ) H ∧ va_S (Aw lay ε) (kS κ).heap H locs
def Vp (κ : Kx) : Heap → List Loc → Prop := fun H locs => H = (kS κ).heap ∧ locs = []
/-- a contract over a world: its start, its end -/
def Pw (ε : Ev) (lay : List Sh) (argv : List Value) (μ : Mm) : Array Value → State → Prop := fun a U => a = argv.toArray ∧ En ε lay U ∧ Nst U ∧ va_P (eD ε) vwCl (wd lay ε μ) U.heap
def Qw (ε : Ev) (lay : List Sh) (rv : Option Value) (μ : Mm) : Array Value → State → Outcome → State → Prop := fun _ st o t => o = .returned rv ∧ va_P (eD ε) vwCl (wd lay ε μ) t.heap ∧ va_F (Aw lay ε) st t
def Pp (argv : List Value) : Array Value → State → Prop := fun a U => a = argv.toArray ∧ Nst U
def Qp (rv : Option Value) : Array Value → State → Outcome → State → Prop := fun _ st o t => o = .returned rv ∧ t.heap = st.heap
def Sp (l : Launch) (ε : Ev) (lay : List Sh) (y : MethodName) (cc : ByteArray) (nL : Nat) (ret : Option FieldType) (d : Nat) (argv : List Value) (rv : Option Value) (μ μ' : Mm) : Prop :=
  Met l y (.code y cc nL ret :: TT) (rmd d) (Pw ε lay argv μ) (Qw ε lay rv μ') 0 0 (Aw lay ε)
def Sq (l : Launch) (y : MethodName) (cc : ByteArray) (nL : Nat) (ret : Option FieldType) (d : Nat) (argv : List Value) (rv : Option Value) : Prop :=
  Met l y (.code y cc nL ret :: TT) (rmd d) (Pp argv) (Qp rv) 0 0 (fun _ => False)
def Rw (κ : Kx) (ε : Ev) (lay : List Sh) (rv : Option Value) (μ : Mm) : Prop := kQ κ = MQ (kb κ) (Qw ε lay rv μ) (ka κ) (kS κ) 0 0 (Aw lay ε)
def Rp (κ : Kx) (rv : Option Value) : Prop := kQ κ = MQ (kb κ) (Qp rv) (ka κ) (kS κ) 0 0 (fun _ => False)
theorem Sp.of {l : Launch} {ε : Ev} {lay : List Sh} {y : MethodName} {cc : ByteArray} {nL : Nat} {ret : Option FieldType} {d : Nat} {argv : List Value} {rv : Option Value} {μ μ' : Mm} (L : List (Nat × Value)) (hL : lv_args 0 argv = L) (hy : plainName y.cls = true) (hn : (lg_sl argv).length ≤ nL)
    (body : ∀ κ : Kx, kl κ = l → Cf κ cc nL y.cls ret d → En ε lay (kS κ) → Rw κ ε lay rv μ' → G κ (Vw κ ε lay μ) nL 0 L []) : Sp l ε lay y cc nL ret d argv rv μ μ' := by
  refine Met.ofW (cc := cc) (maxL := nL) (ret := ret) hy rfl ?_
  intro p e s m args below meth c s₁ B hml hv
  obtain ⟨rfl, hE, hN, hP⟩ := hv
  have hts := atoms_spec (ws := .code y cc nL ret :: TT) B.pre
  have hl := lv_entry argv (n := nL) hn
  rw [lg_entry_eq]
  rw [hL] at hl
  exact body (p, l, e, rmd d, s, m, argv.toArray, below, meth, c, MQ below (Qw ε lay rv μ') argv.toArray s 0 0 (Aw lay ε)) rfl ⟨⟨B.exec, B.bytes, hml, findClass_of_methodNamed B.named, fun w h => hts w (List.mem_cons_of_mem _ h)⟩, B.returns, B.notSynchronized, hN, rfl⟩ hE rfl s.heap [] _ ⟨hP, va_S.rf⟩ hl
theorem Sq.of {l : Launch} {y : MethodName} {cc : ByteArray} {nL : Nat} {ret : Option FieldType} {d : Nat} {argv : List Value} {rv : Option Value} (L : List (Nat × Value)) (hL : lv_args 0 argv = L) (hy : plainName y.cls = true) (hn : (lg_sl argv).length ≤ nL)
    (body : ∀ κ : Kx, kl κ = l → Cf κ cc nL y.cls ret d → Rp κ rv → G κ (Vp κ) nL 0 L []) : Sq l y cc nL ret d argv rv := by
  refine Met.ofW (cc := cc) (maxL := nL) (ret := ret) hy rfl ?_
  intro p e s m args below meth c s₁ B hml hv
  obtain ⟨rfl, hN⟩ := hv
  have hts := atoms_spec (ws := .code y cc nL ret :: TT) B.pre
  have hl := lv_entry argv (n := nL) hn
  rw [lg_entry_eq]
  rw [hL] at hl
  exact body (p, l, e, rmd d, s, m, argv.toArray, below, meth, c, MQ below (Qp rv) argv.toArray s 0 0 (fun _ => False)) rfl ⟨⟨B.exec, B.bytes, hml, findClass_of_methodNamed B.named, fun w h => hts w (List.mem_cons_of_mem _ h)⟩, B.returns, B.notSynchronized, hN, rfl⟩ rfl s.heap [] _ ⟨rfl, rfl⟩ hl
end
section
def jdiv (x y : Int32) : Int32 := x / y
def jrem (x y : Int32) : Int32 := x - x / y * y
def jldiv (x y : Int64) : Int64 := x / y
def jlrem (x y : Int64) : Int64 := x - x / y * y
def jshl (x y : Int32) : Int32 := x <<< (y &&& 31)
def jshr (x y : Int32) : Int32 := x >>> (y &&& 31)
def jushr (x y : Int32) : Int32 := (x.toUInt32 >>> (y.toUInt32 &&& Int32.toUInt32 31)).toInt32
def jlshl (x : Int64) (y : Int32) : Int64 := x <<< (y.toInt64 &&& 63)
def jlshr (x : Int64) (y : Int32) : Int64 := x >>> (y.toInt64 &&& 63)
def jlushr (x : Int64) (y : Int32) : Int64 := (x.toUInt64 >>> (y.toInt64.toUInt64 &&& Int64.toUInt64 63)).toInt64
def ji2b (x : Int32) : Int32 := x.toInt8.toInt32
def ji2s (x : Int32) : Int32 := x.toInt16.toInt32
def ji2c (x : Int32) : Int32 := (x.toUInt32 % 65536).toInt32
def bnd {α β γ : Type} (a : Option (α × β)) (f : α → β → Option γ) : Option γ := match a with
  | none => none
  | some q => f q.1 q.2
theorem bnd_of {α β γ : Type} {a : Option (α × β)} {f : α → β → Option γ} {r : γ} (h : bnd a f = some r) : ∃ x y, a = some (x, y) ∧ f x y = some r := by
  cases a with
  | none => cases h
  | some q => exact ⟨q.1, q.2, rfl, h⟩
/-- a boolean answer: 0 or 1 -/
def rbz (v : Int32) : Bool := decide (v = 0) || decide (v = 1)
theorem rbz_of {v : Int32} (h : rbz v = true) : v = 0 ∨ v = 1 := by simpa [rbz] using h
theorem rbz_narrow {v : Int32} (h : rbz v = true) : narrow .boolean (.int v) = .int v := by
  rcases rbz_of h with rfl | rfl <;> rfl
theorem rbz_nar {v : Int32} (h : rbz v = true) : vp_nar .boolean v = v := by
  rcases rbz_of h with rfl | rfl <;> rfl
theorem g_iconst {κ : Kx} {V : Heap → List Loc → Prop} {nL pc : Nat} {L : List (Nat × Value)} {st : List Value} {cc : ByteArray} {own : String} {ret : Option FieldType} {d : Nat} (C : Cf κ cc nL own ret d) {n : Int} {v : Int32} (hd : decode cc pc = .ok (.iconst n, 1)) (hv : Int32.ofInt n = v) (k : G κ V nL (pc + 1) L (.int v :: st)) : G κ V nL pc L (st) :=
  fun H locs ls hV hl => lv_iconst C.1.1 C.1.2.1 hd hv (k H locs ls hV hl)
theorem g_bipush {κ : Kx} {V : Heap → List Loc → Prop} {nL pc : Nat} {L : List (Nat × Value)} {st : List Value} {cc : ByteArray} {own : String} {ret : Option FieldType} {d : Nat} (C : Cf κ cc nL own ret d) {n : Int} {v : Int32} (hd : decode cc pc = .ok (.bipush n, 2)) (hv : (Int8.ofInt n).toInt32 = v) (k : G κ V nL (pc + 2) L (.int v :: st)) : G κ V nL pc L (st) :=
  fun H locs ls hV hl => lv_bipush C.1.1 C.1.2.1 hd hv (k H locs ls hV hl)
theorem g_sipush {κ : Kx} {V : Heap → List Loc → Prop} {nL pc : Nat} {L : List (Nat × Value)} {st : List Value} {cc : ByteArray} {own : String} {ret : Option FieldType} {d : Nat} (C : Cf κ cc nL own ret d) {n : Int} {v : Int32} (hd : decode cc pc = .ok (.sipush n, 3)) (hv : (Int16.ofInt n).toInt32 = v) (k : G κ V nL (pc + 3) L (.int v :: st)) : G κ V nL pc L (st) :=
  fun H locs ls hV hl => lv_sipush C.1.1 C.1.2.1 hd hv (k H locs ls hV hl)
theorem g_lconst {κ : Kx} {V : Heap → List Loc → Prop} {nL pc : Nat} {L : List (Nat × Value)} {st : List Value} {cc : ByteArray} {own : String} {ret : Option FieldType} {d : Nat} (C : Cf κ cc nL own ret d) {n : Fin 2} {v : Int64} (hd : decode cc pc = .ok (.lconst n, 1)) (hv : Int64.ofNat (n : Nat) = v) (k : G κ V nL (pc + 1) L (.long v :: st)) : G κ V nL pc L (st) :=
  fun H locs ls hV hl => lv_lconst C.1.1 C.1.2.1 hd hv (k H locs ls hV hl)
theorem g_iload_n {κ : Kx} {V : Heap → List Loc → Prop} {nL pc : Nat} {L : List (Nat × Value)} {st : List Value} {cc : ByteArray} {own : String} {ret : Option FieldType} {d : Nat} (C : Cf κ cc nL own ret d) {k : Fin 4} {i j : Nat} {x : Int32} (hd : decode cc pc = .ok (.iload_n k, 1)) (hi : (k : Nat) = i) (hj : L[j]? = some (i, .int x)) (kk : G κ V nL (pc + 1) L (.int x :: st)) : G κ V nL pc L st :=
  fun H locs ls hV hl => lv_iload_n C.1.1 C.1.2.1 hd hi (lv_at hl j hj) (kk H locs ls hV hl)
theorem g_iload {κ : Kx} {V : Heap → List Loc → Prop} {nL pc : Nat} {L : List (Nat × Value)} {st : List Value} {cc : ByteArray} {own : String} {ret : Option FieldType} {d : Nat} (C : Cf κ cc nL own ret d) {i j : Nat} {x : Int32} (hd : decode cc pc = .ok (.iload i, 2)) (hj : L[j]? = some (i, .int x)) (kk : G κ V nL (pc + 2) L (.int x :: st)) : G κ V nL pc L st :=
  fun H locs ls hV hl => lv_iload C.1.1 C.1.2.1 hd (lv_at hl j hj) (kk H locs ls hV hl)
theorem g_lload_n {κ : Kx} {V : Heap → List Loc → Prop} {nL pc : Nat} {L : List (Nat × Value)} {st : List Value} {cc : ByteArray} {own : String} {ret : Option FieldType} {d : Nat} (C : Cf κ cc nL own ret d) {k : Fin 4} {i j : Nat} {x : Int64} (hd : decode cc pc = .ok (.lload_n k, 1)) (hi : (k : Nat) = i) (hj : L[j]? = some (i, .long x)) (kk : G κ V nL (pc + 1) L (.long x :: st)) : G κ V nL pc L st :=
  fun H locs ls hV hl => lv_lload_n C.1.1 C.1.2.1 hd hi (lv_at hl j hj) (kk H locs ls hV hl)
theorem g_lload {κ : Kx} {V : Heap → List Loc → Prop} {nL pc : Nat} {L : List (Nat × Value)} {st : List Value} {cc : ByteArray} {own : String} {ret : Option FieldType} {d : Nat} (C : Cf κ cc nL own ret d) {i j : Nat} {x : Int64} (hd : decode cc pc = .ok (.lload i, 2)) (hj : L[j]? = some (i, .long x)) (kk : G κ V nL (pc + 2) L (.long x :: st)) : G κ V nL pc L st :=
  fun H locs ls hV hl => lv_lload C.1.1 C.1.2.1 hd (lv_at hl j hj) (kk H locs ls hV hl)
theorem g_aload_n {κ : Kx} {V : Heap → List Loc → Prop} {nL pc : Nat} {L : List (Nat × Value)} {st : List Value} {cc : ByteArray} {own : String} {ret : Option FieldType} {d : Nat} (C : Cf κ cc nL own ret d) {k : Fin 4} {i j : Nat} {x : Nat} (hd : decode cc pc = .ok (.aload_n k, 1)) (hi : (k : Nat) = i) (hj : L[j]? = some (i, .ref x)) (kk : G κ V nL (pc + 1) L (.ref x :: st)) : G κ V nL pc L st :=
  fun H locs ls hV hl => lv_aload_n C.1.1 C.1.2.1 hd hi (lv_at hl j hj) (kk H locs ls hV hl)
theorem g_aload {κ : Kx} {V : Heap → List Loc → Prop} {nL pc : Nat} {L : List (Nat × Value)} {st : List Value} {cc : ByteArray} {own : String} {ret : Option FieldType} {d : Nat} (C : Cf κ cc nL own ret d) {i j : Nat} {x : Nat} (hd : decode cc pc = .ok (.aload i, 2)) (hj : L[j]? = some (i, .ref x)) (kk : G κ V nL (pc + 2) L (.ref x :: st)) : G κ V nL pc L st :=
  fun H locs ls hV hl => lv_aload C.1.1 C.1.2.1 hd (lv_at hl j hj) (kk H locs ls hV hl)
theorem g_istore_n {κ : Kx} {V : Heap → List Loc → Prop} {nL pc : Nat} {L : List (Nat × Value)} {st : List Value} {cc : ByteArray} {own : String} {ret : Option FieldType} {d : Nat} (C : Cf κ cc nL own ret d) {k : Fin 4} {i : Nat} {x : Int32} {L' : List (Nat × Value)} (hd : decode cc pc = .ok (.istore_n k, 1)) (hi : (k : Nat) = i) (hn : i < nL) (hL : (i, Value.int x) :: L.filter (fun q => !(q.1 == i) && !(q.1 + 1 == i && q.2.category == 2)) = L') (kk : G κ V nL (pc + 1) L' st) : G κ V nL pc L (.int x :: st) :=
  fun H locs ls hV hl => lv_istore_n C.1.1 C.1.2.1 hd hi hl hn hL (fun ls' hl' => kk H locs ls' hV hl')
theorem g_istore {κ : Kx} {V : Heap → List Loc → Prop} {nL pc : Nat} {L : List (Nat × Value)} {st : List Value} {cc : ByteArray} {own : String} {ret : Option FieldType} {d : Nat} (C : Cf κ cc nL own ret d) {i : Nat} {x : Int32} {L' : List (Nat × Value)} (hd : decode cc pc = .ok (.istore i, 2)) (hn : i < nL) (hL : (i, Value.int x) :: L.filter (fun q => !(q.1 == i) && !(q.1 + 1 == i && q.2.category == 2)) = L') (kk : G κ V nL (pc + 2) L' st) : G κ V nL pc L (.int x :: st) :=
  fun H locs ls hV hl => lv_istore C.1.1 C.1.2.1 hd hl hn hL (fun ls' hl' => kk H locs ls' hV hl')
theorem g_lstore_n {κ : Kx} {V : Heap → List Loc → Prop} {nL pc : Nat} {L : List (Nat × Value)} {st : List Value} {cc : ByteArray} {own : String} {ret : Option FieldType} {d : Nat} (C : Cf κ cc nL own ret d) {k : Fin 4} {i : Nat} {x : Int64} {L' : List (Nat × Value)} (hd : decode cc pc = .ok (.lstore_n k, 1)) (hi : (k : Nat) = i) (hn : i + 1 < nL) (hL : (i, Value.long x) :: L.filter (fun q => !(q.1 == i) && (!(q.1 == i + 1) && !(q.1 + 1 == i && q.2.category == 2))) = L') (kk : G κ V nL (pc + 1) L' st) : G κ V nL pc L (.long x :: st) :=
  fun H locs ls hV hl => lv_lstore_n C.1.1 C.1.2.1 hd hi hl hn hL (fun ls' hl' => kk H locs ls' hV hl')
theorem g_lstore {κ : Kx} {V : Heap → List Loc → Prop} {nL pc : Nat} {L : List (Nat × Value)} {st : List Value} {cc : ByteArray} {own : String} {ret : Option FieldType} {d : Nat} (C : Cf κ cc nL own ret d) {i : Nat} {x : Int64} {L' : List (Nat × Value)} (hd : decode cc pc = .ok (.lstore i, 2)) (hn : i + 1 < nL) (hL : (i, Value.long x) :: L.filter (fun q => !(q.1 == i) && (!(q.1 == i + 1) && !(q.1 + 1 == i && q.2.category == 2))) = L') (kk : G κ V nL (pc + 2) L' st) : G κ V nL pc L (.long x :: st) :=
  fun H locs ls hV hl => lv_lstore C.1.1 C.1.2.1 hd hl hn hL (fun ls' hl' => kk H locs ls' hV hl')
theorem g_iinc {κ : Kx} {V : Heap → List Loc → Prop} {nL pc : Nat} {L : List (Nat × Value)} {st : List Value} {cc : ByteArray} {own : String} {ret : Option FieldType} {d : Nat} (C : Cf κ cc nL own ret d) {i j : Nat} {n : Int} {x v : Int32} {L' : List (Nat × Value)} (hd : decode cc pc = .ok (.iinc i n, 3)) (hj : L[j]? = some (i, .int x)) (hv : x + Int32.ofInt n = v) (hn : i < nL) (hL : (i, Value.int v) :: L.filter (fun q => !(q.1 == i) && !(q.1 + 1 == i && q.2.category == 2)) = L') (kk : G κ V nL (pc + 3) L' st) : G κ V nL pc L st :=
  fun H locs ls hV hl => lv_iinc C.1.1 C.1.2.1 hd hl hj hv hn hL (fun ls' hl' => kk H locs ls' hV hl')
theorem g_iadd {κ : Kx} {V : Heap → List Loc → Prop} {nL pc : Nat} {L : List (Nat × Value)} {st : List Value} {cc : ByteArray} {own : String} {ret : Option FieldType} {d : Nat} (C : Cf κ cc nL own ret d) {x y : Int32} (hd : decode cc pc = .ok (.iadd, 1)) (k : G κ V nL (pc + 1) L (.int (x + y) :: st)) : G κ V nL pc L (.int y :: .int x :: st) :=
  fun H locs ls hV hl => lv_iadd C.1.1 C.1.2.1 hd (k H locs ls hV hl)
theorem g_isub {κ : Kx} {V : Heap → List Loc → Prop} {nL pc : Nat} {L : List (Nat × Value)} {st : List Value} {cc : ByteArray} {own : String} {ret : Option FieldType} {d : Nat} (C : Cf κ cc nL own ret d) {x y : Int32} (hd : decode cc pc = .ok (.isub, 1)) (k : G κ V nL (pc + 1) L (.int (x - y) :: st)) : G κ V nL pc L (.int y :: .int x :: st) :=
  fun H locs ls hV hl => lv_isub C.1.1 C.1.2.1 hd (k H locs ls hV hl)
theorem g_imul {κ : Kx} {V : Heap → List Loc → Prop} {nL pc : Nat} {L : List (Nat × Value)} {st : List Value} {cc : ByteArray} {own : String} {ret : Option FieldType} {d : Nat} (C : Cf κ cc nL own ret d) {x y : Int32} (hd : decode cc pc = .ok (.imul, 1)) (k : G κ V nL (pc + 1) L (.int (x * y) :: st)) : G κ V nL pc L (.int y :: .int x :: st) :=
  fun H locs ls hV hl => lv_imul C.1.1 C.1.2.1 hd (k H locs ls hV hl)
theorem g_iand {κ : Kx} {V : Heap → List Loc → Prop} {nL pc : Nat} {L : List (Nat × Value)} {st : List Value} {cc : ByteArray} {own : String} {ret : Option FieldType} {d : Nat} (C : Cf κ cc nL own ret d) {x y : Int32} (hd : decode cc pc = .ok (.iand, 1)) (k : G κ V nL (pc + 1) L (.int (x &&& y) :: st)) : G κ V nL pc L (.int y :: .int x :: st) :=
  fun H locs ls hV hl => lv_iand C.1.1 C.1.2.1 hd (k H locs ls hV hl)
theorem g_ior {κ : Kx} {V : Heap → List Loc → Prop} {nL pc : Nat} {L : List (Nat × Value)} {st : List Value} {cc : ByteArray} {own : String} {ret : Option FieldType} {d : Nat} (C : Cf κ cc nL own ret d) {x y : Int32} (hd : decode cc pc = .ok (.ior, 1)) (k : G κ V nL (pc + 1) L (.int (x ||| y) :: st)) : G κ V nL pc L (.int y :: .int x :: st) :=
  fun H locs ls hV hl => lv_ior C.1.1 C.1.2.1 hd (k H locs ls hV hl)
theorem g_ixor {κ : Kx} {V : Heap → List Loc → Prop} {nL pc : Nat} {L : List (Nat × Value)} {st : List Value} {cc : ByteArray} {own : String} {ret : Option FieldType} {d : Nat} (C : Cf κ cc nL own ret d) {x y : Int32} (hd : decode cc pc = .ok (.ixor, 1)) (k : G κ V nL (pc + 1) L (.int (x ^^^ y) :: st)) : G κ V nL pc L (.int y :: .int x :: st) :=
  fun H locs ls hV hl => lv_ixor C.1.1 C.1.2.1 hd (k H locs ls hV hl)
theorem g_ladd {κ : Kx} {V : Heap → List Loc → Prop} {nL pc : Nat} {L : List (Nat × Value)} {st : List Value} {cc : ByteArray} {own : String} {ret : Option FieldType} {d : Nat} (C : Cf κ cc nL own ret d) {x y : Int64} (hd : decode cc pc = .ok (.ladd, 1)) (k : G κ V nL (pc + 1) L (.long (x + y) :: st)) : G κ V nL pc L (.long y :: .long x :: st) :=
  fun H locs ls hV hl => lv_ladd C.1.1 C.1.2.1 hd (k H locs ls hV hl)
theorem g_lsub {κ : Kx} {V : Heap → List Loc → Prop} {nL pc : Nat} {L : List (Nat × Value)} {st : List Value} {cc : ByteArray} {own : String} {ret : Option FieldType} {d : Nat} (C : Cf κ cc nL own ret d) {x y : Int64} (hd : decode cc pc = .ok (.lsub, 1)) (k : G κ V nL (pc + 1) L (.long (x - y) :: st)) : G κ V nL pc L (.long y :: .long x :: st) :=
  fun H locs ls hV hl => lv_lsub C.1.1 C.1.2.1 hd (k H locs ls hV hl)
theorem g_lmul {κ : Kx} {V : Heap → List Loc → Prop} {nL pc : Nat} {L : List (Nat × Value)} {st : List Value} {cc : ByteArray} {own : String} {ret : Option FieldType} {d : Nat} (C : Cf κ cc nL own ret d) {x y : Int64} (hd : decode cc pc = .ok (.lmul, 1)) (k : G κ V nL (pc + 1) L (.long (x * y) :: st)) : G κ V nL pc L (.long y :: .long x :: st) :=
  fun H locs ls hV hl => lv_lmul C.1.1 C.1.2.1 hd (k H locs ls hV hl)
theorem g_land {κ : Kx} {V : Heap → List Loc → Prop} {nL pc : Nat} {L : List (Nat × Value)} {st : List Value} {cc : ByteArray} {own : String} {ret : Option FieldType} {d : Nat} (C : Cf κ cc nL own ret d) {x y : Int64} (hd : decode cc pc = .ok (.land, 1)) (k : G κ V nL (pc + 1) L (.long (x &&& y) :: st)) : G κ V nL pc L (.long y :: .long x :: st) :=
  fun H locs ls hV hl => lv_land C.1.1 C.1.2.1 hd (k H locs ls hV hl)
theorem g_lor {κ : Kx} {V : Heap → List Loc → Prop} {nL pc : Nat} {L : List (Nat × Value)} {st : List Value} {cc : ByteArray} {own : String} {ret : Option FieldType} {d : Nat} (C : Cf κ cc nL own ret d) {x y : Int64} (hd : decode cc pc = .ok (.lor, 1)) (k : G κ V nL (pc + 1) L (.long (x ||| y) :: st)) : G κ V nL pc L (.long y :: .long x :: st) :=
  fun H locs ls hV hl => lv_lor C.1.1 C.1.2.1 hd (k H locs ls hV hl)
theorem g_idiv {κ : Kx} {V : Heap → List Loc → Prop} {nL pc : Nat} {L : List (Nat × Value)} {st : List Value} {cc : ByteArray} {own : String} {ret : Option FieldType} {d : Nat} (C : Cf κ cc nL own ret d) {x y : Int32} (hd : decode cc pc = .ok (.idiv, 1)) (hne : ¬ y = 0) (k : G κ V nL (pc + 1) L (.int (jdiv x y) :: st)) : G κ V nL pc L (.int y :: .int x :: st) :=
  fun H locs ls hV hl => lv_idiv C.1.1 C.1.2.1 hd hne (k H locs ls hV hl)
theorem g_irem {κ : Kx} {V : Heap → List Loc → Prop} {nL pc : Nat} {L : List (Nat × Value)} {st : List Value} {cc : ByteArray} {own : String} {ret : Option FieldType} {d : Nat} (C : Cf κ cc nL own ret d) {x y : Int32} (hd : decode cc pc = .ok (.irem, 1)) (hne : ¬ y = 0) (k : G κ V nL (pc + 1) L (.int (jrem x y) :: st)) : G κ V nL pc L (.int y :: .int x :: st) :=
  fun H locs ls hV hl => lv_irem C.1.1 C.1.2.1 hd hne (k H locs ls hV hl)
theorem g_ldiv {κ : Kx} {V : Heap → List Loc → Prop} {nL pc : Nat} {L : List (Nat × Value)} {st : List Value} {cc : ByteArray} {own : String} {ret : Option FieldType} {d : Nat} (C : Cf κ cc nL own ret d) {x y : Int64} (hd : decode cc pc = .ok (.ldiv, 1)) (hne : ¬ y = 0) (k : G κ V nL (pc + 1) L (.long (jldiv x y) :: st)) : G κ V nL pc L (.long y :: .long x :: st) :=
  fun H locs ls hV hl => lv_ldiv C.1.1 C.1.2.1 hd hne (k H locs ls hV hl)
theorem g_lrem {κ : Kx} {V : Heap → List Loc → Prop} {nL pc : Nat} {L : List (Nat × Value)} {st : List Value} {cc : ByteArray} {own : String} {ret : Option FieldType} {d : Nat} (C : Cf κ cc nL own ret d) {x y : Int64} (hd : decode cc pc = .ok (.lrem, 1)) (hne : ¬ y = 0) (k : G κ V nL (pc + 1) L (.long (jlrem x y) :: st)) : G κ V nL pc L (.long y :: .long x :: st) :=
  fun H locs ls hV hl => lv_lrem C.1.1 C.1.2.1 hd hne (k H locs ls hV hl)
theorem g_ineg {κ : Kx} {V : Heap → List Loc → Prop} {nL pc : Nat} {L : List (Nat × Value)} {st : List Value} {cc : ByteArray} {own : String} {ret : Option FieldType} {d : Nat} (C : Cf κ cc nL own ret d) {x : Int32} (hd : decode cc pc = .ok (.ineg, 1)) (k : G κ V nL (pc + 1) L (.int (-x) :: st)) : G κ V nL pc L (.int x :: st) :=
  fun H locs ls hV hl => lv_ineg C.1.1 C.1.2.1 hd (k H locs ls hV hl)
theorem g_lneg {κ : Kx} {V : Heap → List Loc → Prop} {nL pc : Nat} {L : List (Nat × Value)} {st : List Value} {cc : ByteArray} {own : String} {ret : Option FieldType} {d : Nat} (C : Cf κ cc nL own ret d) {x : Int64} (hd : decode cc pc = .ok (.lneg, 1)) (k : G κ V nL (pc + 1) L (.long (-x) :: st)) : G κ V nL pc L (.long x :: st) :=
  fun H locs ls hV hl => lv_lneg C.1.1 C.1.2.1 hd (k H locs ls hV hl)
theorem g_ishl {κ : Kx} {V : Heap → List Loc → Prop} {nL pc : Nat} {L : List (Nat × Value)} {st : List Value} {cc : ByteArray} {own : String} {ret : Option FieldType} {d : Nat} (C : Cf κ cc nL own ret d) {x y : Int32} (hd : decode cc pc = .ok (.ishl, 1)) (k : G κ V nL (pc + 1) L (.int (jshl x y) :: st)) : G κ V nL pc L (.int y :: .int x :: st) :=
  fun H locs ls hV hl => lv_ishl C.1.1 C.1.2.1 hd (k H locs ls hV hl)
theorem g_ishr {κ : Kx} {V : Heap → List Loc → Prop} {nL pc : Nat} {L : List (Nat × Value)} {st : List Value} {cc : ByteArray} {own : String} {ret : Option FieldType} {d : Nat} (C : Cf κ cc nL own ret d) {x y : Int32} (hd : decode cc pc = .ok (.ishr, 1)) (k : G κ V nL (pc + 1) L (.int (jshr x y) :: st)) : G κ V nL pc L (.int y :: .int x :: st) :=
  fun H locs ls hV hl => lv_ishr C.1.1 C.1.2.1 hd (k H locs ls hV hl)
theorem g_iushr {κ : Kx} {V : Heap → List Loc → Prop} {nL pc : Nat} {L : List (Nat × Value)} {st : List Value} {cc : ByteArray} {own : String} {ret : Option FieldType} {d : Nat} (C : Cf κ cc nL own ret d) {x y : Int32} (hd : decode cc pc = .ok (.iushr, 1)) (k : G κ V nL (pc + 1) L (.int (jushr x y) :: st)) : G κ V nL pc L (.int y :: .int x :: st) :=
  fun H locs ls hV hl => lv_iushr C.1.1 C.1.2.1 hd rfl (k H locs ls hV hl)
theorem g_lshl {κ : Kx} {V : Heap → List Loc → Prop} {nL pc : Nat} {L : List (Nat × Value)} {st : List Value} {cc : ByteArray} {own : String} {ret : Option FieldType} {d : Nat} (C : Cf κ cc nL own ret d) {x : Int64} {y : Int32} (hd : decode cc pc = .ok (.lshl, 1)) (k : G κ V nL (pc + 1) L (.long (jlshl x y) :: st)) : G κ V nL pc L (.int y :: .long x :: st) :=
  fun H locs ls hV hl => lv_lshl C.1.1 C.1.2.1 hd rfl (k H locs ls hV hl)
theorem g_lshr {κ : Kx} {V : Heap → List Loc → Prop} {nL pc : Nat} {L : List (Nat × Value)} {st : List Value} {cc : ByteArray} {own : String} {ret : Option FieldType} {d : Nat} (C : Cf κ cc nL own ret d) {x : Int64} {y : Int32} (hd : decode cc pc = .ok (.lshr, 1)) (k : G κ V nL (pc + 1) L (.long (jlshr x y) :: st)) : G κ V nL pc L (.int y :: .long x :: st) :=
  fun H locs ls hV hl => lv_lshr C.1.1 C.1.2.1 hd rfl (k H locs ls hV hl)
theorem g_lushr {κ : Kx} {V : Heap → List Loc → Prop} {nL pc : Nat} {L : List (Nat × Value)} {st : List Value} {cc : ByteArray} {own : String} {ret : Option FieldType} {d : Nat} (C : Cf κ cc nL own ret d) {x : Int64} {y : Int32} (hd : decode cc pc = .ok (.lushr, 1)) (k : G κ V nL (pc + 1) L (.long (jlushr x y) :: st)) : G κ V nL pc L (.int y :: .long x :: st) :=
  fun H locs ls hV hl => lv_lushr C.1.1 C.1.2.1 hd rfl (k H locs ls hV hl)
theorem g_i2l {κ : Kx} {V : Heap → List Loc → Prop} {nL pc : Nat} {L : List (Nat × Value)} {st : List Value} {cc : ByteArray} {own : String} {ret : Option FieldType} {d : Nat} (C : Cf κ cc nL own ret d) {x : Int32} (hd : decode cc pc = .ok (.i2l, 1)) (k : G κ V nL (pc + 1) L (.long (x.toInt64) :: st)) : G κ V nL pc L (.int x :: st) :=
  fun H locs ls hV hl => lv_i2l C.1.1 C.1.2.1 hd rfl (k H locs ls hV hl)
theorem g_l2i {κ : Kx} {V : Heap → List Loc → Prop} {nL pc : Nat} {L : List (Nat × Value)} {st : List Value} {cc : ByteArray} {own : String} {ret : Option FieldType} {d : Nat} (C : Cf κ cc nL own ret d) {x : Int64} (hd : decode cc pc = .ok (.l2i, 1)) (k : G κ V nL (pc + 1) L (.int (x.toInt32) :: st)) : G κ V nL pc L (.long x :: st) :=
  fun H locs ls hV hl => lv_l2i C.1.1 C.1.2.1 hd rfl (k H locs ls hV hl)
theorem g_i2b {κ : Kx} {V : Heap → List Loc → Prop} {nL pc : Nat} {L : List (Nat × Value)} {st : List Value} {cc : ByteArray} {own : String} {ret : Option FieldType} {d : Nat} (C : Cf κ cc nL own ret d) {x : Int32} (hd : decode cc pc = .ok (.i2b, 1)) (k : G κ V nL (pc + 1) L (.int (ji2b x) :: st)) : G κ V nL pc L (.int x :: st) :=
  fun H locs ls hV hl => lv_i2b C.1.1 C.1.2.1 hd rfl (k H locs ls hV hl)
theorem g_i2s {κ : Kx} {V : Heap → List Loc → Prop} {nL pc : Nat} {L : List (Nat × Value)} {st : List Value} {cc : ByteArray} {own : String} {ret : Option FieldType} {d : Nat} (C : Cf κ cc nL own ret d) {x : Int32} (hd : decode cc pc = .ok (.i2s, 1)) (k : G κ V nL (pc + 1) L (.int (ji2s x) :: st)) : G κ V nL pc L (.int x :: st) :=
  fun H locs ls hV hl => lv_i2s C.1.1 C.1.2.1 hd rfl (k H locs ls hV hl)
theorem g_i2c {κ : Kx} {V : Heap → List Loc → Prop} {nL pc : Nat} {L : List (Nat × Value)} {st : List Value} {cc : ByteArray} {own : String} {ret : Option FieldType} {d : Nat} (C : Cf κ cc nL own ret d) {x : Int32} (hd : decode cc pc = .ok (.i2c, 1)) (k : G κ V nL (pc + 1) L (.int (ji2c x) :: st)) : G κ V nL pc L (.int x :: st) :=
  fun H locs ls hV hl => lv_i2c C.1.1 C.1.2.1 hd rfl (k H locs ls hV hl)
theorem g_dup {κ : Kx} {V : Heap → List Loc → Prop} {nL pc : Nat} {L : List (Nat × Value)} {st : List Value} {cc : ByteArray} {own : String} {ret : Option FieldType} {d : Nat} (C : Cf κ cc nL own ret d) {a : Value} (hd : decode cc pc = .ok (.dup, 1)) (hc : a.category = 1) (k : G κ V nL (pc + 1) L (a :: a :: st)) : G κ V nL pc L (a :: st) :=
  fun H locs ls hV hl => lv_dup C.1.1 C.1.2.1 hd hc (k H locs ls hV hl)
theorem g_dup2 {κ : Kx} {V : Heap → List Loc → Prop} {nL pc : Nat} {L : List (Nat × Value)} {st : List Value} {cc : ByteArray} {own : String} {ret : Option FieldType} {d : Nat} (C : Cf κ cc nL own ret d) {a b : Value} (hd : decode cc pc = .ok (.dup2, 1)) (ha : a.category = 1) (hb : b.category = 1) (k : G κ V nL (pc + 1) L (a :: b :: a :: b :: st)) : G κ V nL pc L (a :: b :: st) :=
  fun H locs ls hV hl => lv_dup2_11 C.1.1 C.1.2.1 hd ha hb (k H locs ls hV hl)
theorem g_pop {κ : Kx} {V : Heap → List Loc → Prop} {nL pc : Nat} {L : List (Nat × Value)} {st : List Value} {cc : ByteArray} {own : String} {ret : Option FieldType} {d : Nat} (C : Cf κ cc nL own ret d) {a : Value} (hd : decode cc pc = .ok (.pop, 1)) (hc : a.category = 1) (k : G κ V nL (pc + 1) L (st)) : G κ V nL pc L (a :: st) :=
  fun H locs ls hV hl => lv_pop C.1.1 C.1.2.1 hd hc (k H locs ls hV hl)
theorem g_if_eq {κ : Kx} {V : Heap → List Loc → Prop} {nL pc : Nat} {L : List (Nat × Value)} {st : List Value} {cc : ByteArray} {own : String} {ret : Option FieldType} {d : Nat} (C : Cf κ cc nL own ret d) {α : Type} {A B : Option α} {out : α} {x : Int32} {off : Int} {tgt : Nat} (hd : decode cc pc = .ok (.ifCond .eq off, 3)) (ht : (pc : Int) + off = (tgt : Int)) (hf : (if x = 0 then A else B) = some out) (kt : x = 0 → A = some out → G κ V nL tgt L st) (kf : ¬ x = 0 → B = some out → G κ V nL (pc + 3) L st) : G κ V nL pc L (.int x :: st) :=
  fun H locs ls hV hl => lv_if_eq C.1.1 C.1.2.1 hd ht (fun h => kt h (by rw [if_pos h] at hf; exact hf) H locs ls hV hl) (fun h => kf h (by rw [if_neg h] at hf; exact hf) H locs ls hV hl)
theorem g_icmp_eq {κ : Kx} {V : Heap → List Loc → Prop} {nL pc : Nat} {L : List (Nat × Value)} {st : List Value} {cc : ByteArray} {own : String} {ret : Option FieldType} {d : Nat} (C : Cf κ cc nL own ret d) {α : Type} {A B : Option α} {out : α} {x y : Int32} {off : Int} {tgt : Nat} (hd : decode cc pc = .ok (.if_icmp .eq off, 3)) (ht : (pc : Int) + off = (tgt : Int)) (hf : (if x = y then A else B) = some out) (kt : x = y → A = some out → G κ V nL tgt L st) (kf : ¬ x = y → B = some out → G κ V nL (pc + 3) L st) : G κ V nL pc L (.int y :: .int x :: st) :=
  fun H locs ls hV hl => lv_icmp_eq C.1.1 C.1.2.1 hd ht (fun h => kt h (by rw [if_pos h] at hf; exact hf) H locs ls hV hl) (fun h => kf h (by rw [if_neg h] at hf; exact hf) H locs ls hV hl)
theorem g_if_lt {κ : Kx} {V : Heap → List Loc → Prop} {nL pc : Nat} {L : List (Nat × Value)} {st : List Value} {cc : ByteArray} {own : String} {ret : Option FieldType} {d : Nat} (C : Cf κ cc nL own ret d) {α : Type} {A B : Option α} {out : α} {x : Int32} {off : Int} {tgt : Nat} (hd : decode cc pc = .ok (.ifCond .lt off, 3)) (ht : (pc : Int) + off = (tgt : Int)) (hf : (if x < 0 then A else B) = some out) (kt : x < 0 → A = some out → G κ V nL tgt L st) (kf : ¬ x < 0 → B = some out → G κ V nL (pc + 3) L st) : G κ V nL pc L (.int x :: st) :=
  fun H locs ls hV hl => lv_if_lt C.1.1 C.1.2.1 hd ht (fun h => kt h (by rw [if_pos h] at hf; exact hf) H locs ls hV hl) (fun h => kf h (by rw [if_neg h] at hf; exact hf) H locs ls hV hl)
theorem g_icmp_lt {κ : Kx} {V : Heap → List Loc → Prop} {nL pc : Nat} {L : List (Nat × Value)} {st : List Value} {cc : ByteArray} {own : String} {ret : Option FieldType} {d : Nat} (C : Cf κ cc nL own ret d) {α : Type} {A B : Option α} {out : α} {x y : Int32} {off : Int} {tgt : Nat} (hd : decode cc pc = .ok (.if_icmp .lt off, 3)) (ht : (pc : Int) + off = (tgt : Int)) (hf : (if x < y then A else B) = some out) (kt : x < y → A = some out → G κ V nL tgt L st) (kf : ¬ x < y → B = some out → G κ V nL (pc + 3) L st) : G κ V nL pc L (.int y :: .int x :: st) :=
  fun H locs ls hV hl => lv_icmp_lt C.1.1 C.1.2.1 hd ht (fun h => kt h (by rw [if_pos h] at hf; exact hf) H locs ls hV hl) (fun h => kf h (by rw [if_neg h] at hf; exact hf) H locs ls hV hl)
theorem g_if_ge {κ : Kx} {V : Heap → List Loc → Prop} {nL pc : Nat} {L : List (Nat × Value)} {st : List Value} {cc : ByteArray} {own : String} {ret : Option FieldType} {d : Nat} (C : Cf κ cc nL own ret d) {α : Type} {A B : Option α} {out : α} {x : Int32} {off : Int} {tgt : Nat} (hd : decode cc pc = .ok (.ifCond .ge off, 3)) (ht : (pc : Int) + off = (tgt : Int)) (hf : (if 0 ≤ x then A else B) = some out) (kt : 0 ≤ x → A = some out → G κ V nL tgt L st) (kf : ¬ 0 ≤ x → B = some out → G κ V nL (pc + 3) L st) : G κ V nL pc L (.int x :: st) :=
  fun H locs ls hV hl => lv_if_ge C.1.1 C.1.2.1 hd ht (fun h => kt h (by rw [if_pos h] at hf; exact hf) H locs ls hV hl) (fun h => kf h (by rw [if_neg h] at hf; exact hf) H locs ls hV hl)
theorem g_icmp_ge {κ : Kx} {V : Heap → List Loc → Prop} {nL pc : Nat} {L : List (Nat × Value)} {st : List Value} {cc : ByteArray} {own : String} {ret : Option FieldType} {d : Nat} (C : Cf κ cc nL own ret d) {α : Type} {A B : Option α} {out : α} {x y : Int32} {off : Int} {tgt : Nat} (hd : decode cc pc = .ok (.if_icmp .ge off, 3)) (ht : (pc : Int) + off = (tgt : Int)) (hf : (if y ≤ x then A else B) = some out) (kt : y ≤ x → A = some out → G κ V nL tgt L st) (kf : ¬ y ≤ x → B = some out → G κ V nL (pc + 3) L st) : G κ V nL pc L (.int y :: .int x :: st) :=
  fun H locs ls hV hl => lv_icmp_ge C.1.1 C.1.2.1 hd ht (fun h => kt h (by rw [if_pos h] at hf; exact hf) H locs ls hV hl) (fun h => kf h (by rw [if_neg h] at hf; exact hf) H locs ls hV hl)
theorem g_if_gt {κ : Kx} {V : Heap → List Loc → Prop} {nL pc : Nat} {L : List (Nat × Value)} {st : List Value} {cc : ByteArray} {own : String} {ret : Option FieldType} {d : Nat} (C : Cf κ cc nL own ret d) {α : Type} {A B : Option α} {out : α} {x : Int32} {off : Int} {tgt : Nat} (hd : decode cc pc = .ok (.ifCond .gt off, 3)) (ht : (pc : Int) + off = (tgt : Int)) (hf : (if 0 < x then A else B) = some out) (kt : 0 < x → A = some out → G κ V nL tgt L st) (kf : ¬ 0 < x → B = some out → G κ V nL (pc + 3) L st) : G κ V nL pc L (.int x :: st) :=
  fun H locs ls hV hl => lv_if_gt C.1.1 C.1.2.1 hd ht (fun h => kt h (by rw [if_pos h] at hf; exact hf) H locs ls hV hl) (fun h => kf h (by rw [if_neg h] at hf; exact hf) H locs ls hV hl)
theorem g_icmp_gt {κ : Kx} {V : Heap → List Loc → Prop} {nL pc : Nat} {L : List (Nat × Value)} {st : List Value} {cc : ByteArray} {own : String} {ret : Option FieldType} {d : Nat} (C : Cf κ cc nL own ret d) {α : Type} {A B : Option α} {out : α} {x y : Int32} {off : Int} {tgt : Nat} (hd : decode cc pc = .ok (.if_icmp .gt off, 3)) (ht : (pc : Int) + off = (tgt : Int)) (hf : (if y < x then A else B) = some out) (kt : y < x → A = some out → G κ V nL tgt L st) (kf : ¬ y < x → B = some out → G κ V nL (pc + 3) L st) : G κ V nL pc L (.int y :: .int x :: st) :=
  fun H locs ls hV hl => lv_icmp_gt C.1.1 C.1.2.1 hd ht (fun h => kt h (by rw [if_pos h] at hf; exact hf) H locs ls hV hl) (fun h => kf h (by rw [if_neg h] at hf; exact hf) H locs ls hV hl)
theorem g_if_le {κ : Kx} {V : Heap → List Loc → Prop} {nL pc : Nat} {L : List (Nat × Value)} {st : List Value} {cc : ByteArray} {own : String} {ret : Option FieldType} {d : Nat} (C : Cf κ cc nL own ret d) {α : Type} {A B : Option α} {out : α} {x : Int32} {off : Int} {tgt : Nat} (hd : decode cc pc = .ok (.ifCond .le off, 3)) (ht : (pc : Int) + off = (tgt : Int)) (hf : (if x ≤ 0 then A else B) = some out) (kt : x ≤ 0 → A = some out → G κ V nL tgt L st) (kf : ¬ x ≤ 0 → B = some out → G κ V nL (pc + 3) L st) : G κ V nL pc L (.int x :: st) :=
  fun H locs ls hV hl => lv_if_le C.1.1 C.1.2.1 hd ht (fun h => kt h (by rw [if_pos h] at hf; exact hf) H locs ls hV hl) (fun h => kf h (by rw [if_neg h] at hf; exact hf) H locs ls hV hl)
theorem g_icmp_le {κ : Kx} {V : Heap → List Loc → Prop} {nL pc : Nat} {L : List (Nat × Value)} {st : List Value} {cc : ByteArray} {own : String} {ret : Option FieldType} {d : Nat} (C : Cf κ cc nL own ret d) {α : Type} {A B : Option α} {out : α} {x y : Int32} {off : Int} {tgt : Nat} (hd : decode cc pc = .ok (.if_icmp .le off, 3)) (ht : (pc : Int) + off = (tgt : Int)) (hf : (if x ≤ y then A else B) = some out) (kt : x ≤ y → A = some out → G κ V nL tgt L st) (kf : ¬ x ≤ y → B = some out → G κ V nL (pc + 3) L st) : G κ V nL pc L (.int y :: .int x :: st) :=
  fun H locs ls hV hl => lv_icmp_le C.1.1 C.1.2.1 hd ht (fun h => kt h (by rw [if_pos h] at hf; exact hf) H locs ls hV hl) (fun h => kf h (by rw [if_neg h] at hf; exact hf) H locs ls hV hl)
theorem g_if_ne {κ : Kx} {V : Heap → List Loc → Prop} {nL pc : Nat} {L : List (Nat × Value)} {st : List Value} {cc : ByteArray} {own : String} {ret : Option FieldType} {d : Nat} (C : Cf κ cc nL own ret d) {α : Type} {A B : Option α} {out : α} {x : Int32} {off : Int} {tgt : Nat} (hd : decode cc pc = .ok (.ifCond .ne off, 3)) (ht : (pc : Int) + off = (tgt : Int)) (hf : (if x = 0 then B else A) = some out) (kt : ¬ x = 0 → A = some out → G κ V nL tgt L st) (kf : x = 0 → B = some out → G κ V nL (pc + 3) L st) : G κ V nL pc L (.int x :: st) :=
  fun H locs ls hV hl => lv_if_ne C.1.1 C.1.2.1 hd ht (fun h => kt h (by rw [if_neg h] at hf; exact hf) H locs ls hV hl) (fun h => kf h (by rw [if_pos h] at hf; exact hf) H locs ls hV hl)
theorem g_icmp_ne {κ : Kx} {V : Heap → List Loc → Prop} {nL pc : Nat} {L : List (Nat × Value)} {st : List Value} {cc : ByteArray} {own : String} {ret : Option FieldType} {d : Nat} (C : Cf κ cc nL own ret d) {α : Type} {A B : Option α} {out : α} {x y : Int32} {off : Int} {tgt : Nat} (hd : decode cc pc = .ok (.if_icmp .ne off, 3)) (ht : (pc : Int) + off = (tgt : Int)) (hf : (if x = y then B else A) = some out) (kt : ¬ x = y → A = some out → G κ V nL tgt L st) (kf : x = y → B = some out → G κ V nL (pc + 3) L st) : G κ V nL pc L (.int y :: .int x :: st) :=
  fun H locs ls hV hl => lv_icmp_ne C.1.1 C.1.2.1 hd ht (fun h => kt h (by rw [if_neg h] at hf; exact hf) H locs ls hV hl) (fun h => kf h (by rw [if_pos h] at hf; exact hf) H locs ls hV hl)
theorem lgc_lt {x y : Int64} : lg_cmp x y < 0 ↔ x < y := by
  unfold lg_cmp
  by_cases h1 : x > y
  · rw [if_pos h1]; exact ⟨fun h => absurd h (by decide), fun h => absurd (Int64.lt_trans h h1) (Int64.lt_irrefl)⟩
  · rw [if_neg h1]
    by_cases h2 : x = y
    · rw [if_pos h2]; subst h2; exact ⟨fun h => absurd h (by decide), fun h => absurd h (Int64.lt_irrefl)⟩
    · rw [if_neg h2]; refine ⟨fun _ => ?_, fun _ => by decide⟩
      exact Int64.lt_of_le_of_ne (Int64.not_lt.mp h1) h2
theorem lgc_eq {x y : Int64} : lg_cmp x y = 0 ↔ x = y := by
  unfold lg_cmp
  by_cases h1 : x > y
  · rw [if_pos h1]; exact ⟨fun h => absurd h (by decide), fun h => absurd (h ▸ h1 : y > y) (Int64.lt_irrefl)⟩
  · rw [if_neg h1]
    by_cases h2 : x = y
    · rw [if_pos h2]; exact ⟨fun _ => h2, fun _ => rfl⟩
    · rw [if_neg h2]; exact ⟨fun h => absurd h (by decide), fun h => absurd h h2⟩
theorem lgc_gt {x y : Int64} : 0 < lg_cmp x y ↔ y < x := by
  unfold lg_cmp
  by_cases h1 : x > y
  · rw [if_pos h1]; exact ⟨fun _ => h1, fun _ => by decide⟩
  · rw [if_neg h1]
    by_cases h2 : x = y
    · rw [if_pos h2]; exact ⟨fun h => absurd h (by decide), fun h => absurd h h1⟩
    · rw [if_neg h2]; exact ⟨fun h => absurd h (by decide), fun h => absurd h h1⟩
theorem lgc_ge {x y : Int64} : 0 ≤ lg_cmp x y ↔ y ≤ x := by
  rw [← Int32.not_lt, lgc_lt, Int64.not_lt]
theorem lgc_le {x y : Int64} : lg_cmp x y ≤ 0 ↔ x ≤ y := by
  rw [← Int32.not_lt, lgc_gt, Int64.not_lt]
theorem g_lcmp_eq {κ : Kx} {V : Heap → List Loc → Prop} {nL pc : Nat} {L : List (Nat × Value)} {st : List Value} {cc : ByteArray} {own : String} {ret : Option FieldType} {d : Nat} (C : Cf κ cc nL own ret d) {α : Type} {A B : Option α} {out : α} {x y : Int64} {off : Int} {tgt : Nat} (hd0 : decode cc pc = .ok (.lcmp, 1)) (hd : decode cc (pc + 1) = .ok (.ifCond .eq off, 3)) (ht : ((pc + 1 : Nat) : Int) + off = (tgt : Int)) (hf : (if x = y then A else B) = some out) (kt : x = y → A = some out → G κ V nL tgt L st) (kf : ¬ x = y → B = some out → G κ V nL (pc + 1 + 3) L st) : G κ V nL pc L (.long y :: .long x :: st) :=
  fun H locs ls hV hl => W.lcmp C.1.1 C.1.2.1 hd0 (lv_if_eq C.1.1 C.1.2.1 hd ht (fun h => kt (lgc_eq.mp h) (by rw [if_pos (lgc_eq.mp h)] at hf; exact hf) H locs ls hV hl) (fun h => kf (fun z => h (lgc_eq.mpr z)) (by rw [if_neg (fun z => h (lgc_eq.mpr z))] at hf; exact hf) H locs ls hV hl))
theorem g_lcmp_lt {κ : Kx} {V : Heap → List Loc → Prop} {nL pc : Nat} {L : List (Nat × Value)} {st : List Value} {cc : ByteArray} {own : String} {ret : Option FieldType} {d : Nat} (C : Cf κ cc nL own ret d) {α : Type} {A B : Option α} {out : α} {x y : Int64} {off : Int} {tgt : Nat} (hd0 : decode cc pc = .ok (.lcmp, 1)) (hd : decode cc (pc + 1) = .ok (.ifCond .lt off, 3)) (ht : ((pc + 1 : Nat) : Int) + off = (tgt : Int)) (hf : (if x < y then A else B) = some out) (kt : x < y → A = some out → G κ V nL tgt L st) (kf : ¬ x < y → B = some out → G κ V nL (pc + 1 + 3) L st) : G κ V nL pc L (.long y :: .long x :: st) :=
  fun H locs ls hV hl => W.lcmp C.1.1 C.1.2.1 hd0 (lv_if_lt C.1.1 C.1.2.1 hd ht (fun h => kt (lgc_lt.mp h) (by rw [if_pos (lgc_lt.mp h)] at hf; exact hf) H locs ls hV hl) (fun h => kf (fun z => h (lgc_lt.mpr z)) (by rw [if_neg (fun z => h (lgc_lt.mpr z))] at hf; exact hf) H locs ls hV hl))
theorem g_lcmp_ge {κ : Kx} {V : Heap → List Loc → Prop} {nL pc : Nat} {L : List (Nat × Value)} {st : List Value} {cc : ByteArray} {own : String} {ret : Option FieldType} {d : Nat} (C : Cf κ cc nL own ret d) {α : Type} {A B : Option α} {out : α} {x y : Int64} {off : Int} {tgt : Nat} (hd0 : decode cc pc = .ok (.lcmp, 1)) (hd : decode cc (pc + 1) = .ok (.ifCond .ge off, 3)) (ht : ((pc + 1 : Nat) : Int) + off = (tgt : Int)) (hf : (if y ≤ x then A else B) = some out) (kt : y ≤ x → A = some out → G κ V nL tgt L st) (kf : ¬ y ≤ x → B = some out → G κ V nL (pc + 1 + 3) L st) : G κ V nL pc L (.long y :: .long x :: st) :=
  fun H locs ls hV hl => W.lcmp C.1.1 C.1.2.1 hd0 (lv_if_ge C.1.1 C.1.2.1 hd ht (fun h => kt (lgc_ge.mp h) (by rw [if_pos (lgc_ge.mp h)] at hf; exact hf) H locs ls hV hl) (fun h => kf (fun z => h (lgc_ge.mpr z)) (by rw [if_neg (fun z => h (lgc_ge.mpr z))] at hf; exact hf) H locs ls hV hl))
theorem g_lcmp_gt {κ : Kx} {V : Heap → List Loc → Prop} {nL pc : Nat} {L : List (Nat × Value)} {st : List Value} {cc : ByteArray} {own : String} {ret : Option FieldType} {d : Nat} (C : Cf κ cc nL own ret d) {α : Type} {A B : Option α} {out : α} {x y : Int64} {off : Int} {tgt : Nat} (hd0 : decode cc pc = .ok (.lcmp, 1)) (hd : decode cc (pc + 1) = .ok (.ifCond .gt off, 3)) (ht : ((pc + 1 : Nat) : Int) + off = (tgt : Int)) (hf : (if y < x then A else B) = some out) (kt : y < x → A = some out → G κ V nL tgt L st) (kf : ¬ y < x → B = some out → G κ V nL (pc + 1 + 3) L st) : G κ V nL pc L (.long y :: .long x :: st) :=
  fun H locs ls hV hl => W.lcmp C.1.1 C.1.2.1 hd0 (lv_if_gt C.1.1 C.1.2.1 hd ht (fun h => kt (lgc_gt.mp h) (by rw [if_pos (lgc_gt.mp h)] at hf; exact hf) H locs ls hV hl) (fun h => kf (fun z => h (lgc_gt.mpr z)) (by rw [if_neg (fun z => h (lgc_gt.mpr z))] at hf; exact hf) H locs ls hV hl))
theorem g_lcmp_le {κ : Kx} {V : Heap → List Loc → Prop} {nL pc : Nat} {L : List (Nat × Value)} {st : List Value} {cc : ByteArray} {own : String} {ret : Option FieldType} {d : Nat} (C : Cf κ cc nL own ret d) {α : Type} {A B : Option α} {out : α} {x y : Int64} {off : Int} {tgt : Nat} (hd0 : decode cc pc = .ok (.lcmp, 1)) (hd : decode cc (pc + 1) = .ok (.ifCond .le off, 3)) (ht : ((pc + 1 : Nat) : Int) + off = (tgt : Int)) (hf : (if x ≤ y then A else B) = some out) (kt : x ≤ y → A = some out → G κ V nL tgt L st) (kf : ¬ x ≤ y → B = some out → G κ V nL (pc + 1 + 3) L st) : G κ V nL pc L (.long y :: .long x :: st) :=
  fun H locs ls hV hl => W.lcmp C.1.1 C.1.2.1 hd0 (lv_if_le C.1.1 C.1.2.1 hd ht (fun h => kt (lgc_le.mp h) (by rw [if_pos (lgc_le.mp h)] at hf; exact hf) H locs ls hV hl) (fun h => kf (fun z => h (lgc_le.mpr z)) (by rw [if_neg (fun z => h (lgc_le.mpr z))] at hf; exact hf) H locs ls hV hl))
theorem g_lcmp_ne {κ : Kx} {V : Heap → List Loc → Prop} {nL pc : Nat} {L : List (Nat × Value)} {st : List Value} {cc : ByteArray} {own : String} {ret : Option FieldType} {d : Nat} (C : Cf κ cc nL own ret d) {α : Type} {A B : Option α} {out : α} {x y : Int64} {off : Int} {tgt : Nat} (hd0 : decode cc pc = .ok (.lcmp, 1)) (hd : decode cc (pc + 1) = .ok (.ifCond .ne off, 3)) (ht : ((pc + 1 : Nat) : Int) + off = (tgt : Int)) (hf : (if x = y then B else A) = some out) (kt : ¬ x = y → A = some out → G κ V nL tgt L st) (kf : x = y → B = some out → G κ V nL (pc + 1 + 3) L st) : G κ V nL pc L (.long y :: .long x :: st) :=
  fun H locs ls hV hl => W.lcmp C.1.1 C.1.2.1 hd0 (lv_if_ne C.1.1 C.1.2.1 hd ht (fun h => kt (fun z => h (lgc_eq.mpr z)) (by rw [if_neg (fun z => h (lgc_eq.mpr z))] at hf; exact hf) H locs ls hV hl) (fun h => kf (lgc_eq.mp h) (by rw [if_pos (lgc_eq.mp h)] at hf; exact hf) H locs ls hV hl))
theorem g_goto {κ : Kx} {V : Heap → List Loc → Prop} {nL pc : Nat} {L : List (Nat × Value)} {st : List Value} {cc : ByteArray} {own : String} {ret : Option FieldType} {d : Nat} (C : Cf κ cc nL own ret d) {off : Int} {tgt : Nat} (hd : decode cc pc = .ok (.goto off, 3)) (ht : (pc : Int) + off = (tgt : Int)) (k : G κ V nL tgt L st) : G κ V nL pc L st :=
  fun H locs ls hV hl => lv_goto C.1.1 C.1.2.1 hd ht (k H locs ls hV hl)
theorem g_at {κ : Kx} {V : Heap → List Loc → Prop} {nL pc : Nat} {L L' : List (Nat × Value)} {st : List Value} (ks : List Nat) (hL : lv_pick L ks = L') (k : G κ V nL pc L' st) : G κ V nL pc L st :=
  fun H locs ls hV hl => k H locs ls hV (lv_sub hl ks hL)
theorem g_tabIn {κ : Kx} {V : Heap → List Loc → Prop} {nL pc : Nat} {L : List (Nat × Value)} {st : List Value} {cc : ByteArray} {own : String} {ret : Option FieldType} {d : Nat} (C : Cf κ cc nL own ret d) {x v : Int32} {dflt lo hi : Int} {offs : Array Int} {len : Nat} {off : Int} {tgt : Nat} (hd : decode cc pc = .ok (.tableswitch dflt lo hi offs, len)) (hx : x = v) (hc : (decide (lo ≤ v.toInt) && decide (v.toInt ≤ hi) && decide (offs[(v.toInt - lo).toNat]? = some off)) = true) (ht : (pc : Int) + off = (tgt : Int)) (k : G κ V nL tgt L st) : G κ V nL pc L (.int x :: st) := by
  subst hx
  simp only [Bool.and_eq_true, decide_eq_true_eq] at hc
  exact fun H locs ls hV hl => lv_tableIn C.1.1 C.1.2.1 hd (by omega) (by omega) hc.2 ht (k H locs ls hV hl)
theorem g_tabOut {κ : Kx} {V : Heap → List Loc → Prop} {nL pc : Nat} {L : List (Nat × Value)} {st : List Value} {cc : ByteArray} {own : String} {ret : Option FieldType} {d : Nat} (C : Cf κ cc nL own ret d) {x : Int32} {dflt lo hi : Int} {offs : Array Int} {len : Nat} {tgt : Nat} (hd : decode cc pc = .ok (.tableswitch dflt lo hi offs, len)) (hx : x.toInt < lo ∨ hi < x.toInt) (ht : (pc : Int) + dflt = (tgt : Int)) (k : G κ V nL tgt L st) : G κ V nL pc L (.int x :: st) :=
  fun H locs ls hV hl => lv_tableOut C.1.1 C.1.2.1 hd hx ht (k H locs ls hV hl)
theorem g_look {κ : Kx} {V : Heap → List Loc → Prop} {nL pc : Nat} {L : List (Nat × Value)} {st : List Value} {cc : ByteArray} {own : String} {ret : Option FieldType} {d : Nat} (C : Cf κ cc nL own ret d) {x : Int32} {dflt : Int} {ps : Array (Int × Int)} {len : Nat} {off : Int} {tgt : Nat} (hd : decode cc pc = .ok (.lookupswitch dflt ps, len)) (hp : (ps.toList.zip (ps.toList.drop 1)).all (fun (a, next) => a.1 < next.1) = true) (ho : Op.lookupswitch.offset ps.toList dflt x.toInt = off) (ht : (pc : Int) + off = (tgt : Int)) (k : G κ V nL tgt L st) : G κ V nL pc L (.int x :: st) :=
  fun H locs ls hV hl => lv_lookup C.1.1 C.1.2.1 hd hp ho ht (k H locs ls hV hl)
theorem i32_ne {x v : Int32} {n : Int} (h : ¬ x = v) (hv : v.toInt = n) : x.toInt ≠ n := fun z => h (Int32.toInt_inj.mp (z.trans hv.symm))
theorem ite_t {α : Type} {c : Prop} [Decidable c] {A B : Option α} {o : α} (h : c) (hf : (if c then A else B) = some o) : A = some o := by rw [if_pos h] at hf; exact hf
theorem ite_f {α : Type} {c : Prop} [Decidable c] {A B : Option α} {o : α} (h : ¬ c) (hf : (if c then A else B) = some o) : B = some o := by rw [if_neg h] at hf; exact hf
theorem g_ldc2 {κ : Kx} {V : Heap → List Loc → Prop} {nL pc : Nat} {L : List (Nat × Value)} {st : List Value} {cc : ByteArray} {own : String} {ret : Option FieldType} {d : Nat} (C : Cf κ cc nL own ret d) {index : Nat} {v : Int64} (hw : Cond.constantLong own index v ∈ TT) (hd : decode cc pc = .ok (.ldc2_w index, 3)) (k : G κ V nL (pc + 3) L (.long v :: st)) : G κ V nL pc L st :=
  fun H locs ls hV hl => lv_ldc2 C.1.1 C.1.2.1 C.1.2.2.2.1 (C.1.2.2.2.2 _ hw) hd (k H locs ls hV hl)
theorem g_ldc {κ : Kx} {V : Heap → List Loc → Prop} {nL pc : Nat} {L : List (Nat × Value)} {st : List Value} {cc : ByteArray} {own : String} {ret : Option FieldType} {d : Nat} (C : Cf κ cc nL own ret d) {index : Nat} {v : Int32} (hw : Cond.constant own index v ∈ TT) (hd : decode cc pc = .ok (.ldc index, 2)) (k : G κ V nL (pc + 2) L (.int v :: st)) : G κ V nL pc L st :=
  fun H locs ls hV hl => lv_ldc C.1.1 C.1.2.1 C.1.2.2.2.1 (C.1.2.2.2.2 _ hw) hd (k H locs ls hV hl)
theorem g_ldcw {κ : Kx} {V : Heap → List Loc → Prop} {nL pc : Nat} {L : List (Nat × Value)} {st : List Value} {cc : ByteArray} {own : String} {ret : Option FieldType} {d : Nat} (C : Cf κ cc nL own ret d) {index : Nat} {v : Int32} (hw : Cond.constant own index v ∈ TT) (hd : decode cc pc = .ok (.ldc_w index, 3)) (k : G κ V nL (pc + 3) L (.int v :: st)) : G κ V nL pc L st :=
  fun H locs ls hV hl => lv_ldcw C.1.1 C.1.2.1 C.1.2.2.2.1 (C.1.2.2.2.2 _ hw) hd (k H locs ls hV hl)
end
section
/-! MY KIT, 3: fields, arrays, calls, returns over a memory's world -/
def q_Fd (own : String) (idx ci k : Nat) (ty : FieldType) (fin : Bool) : Prop := ∃ (C : String) (T : u_T) (N : Nat) (ty0 : Nat → FieldType), vwCl[ci]? = some (C, T, N) ∧ k < N ∧ (∀ w ∈ u_ws C T N, w ∈ TT) ∧ Cond.fieldLink own idx (T k).1 (T k).2.1 (T k).2.2.1 ∈ TT ∧ (∀ k, k < N → parseFieldDescriptor (T k).2.2.1 = some (ty0 k)) ∧ (∀ a, a < N → ∀ b, b < N → a ≠ b → (T a).2.1 ≠ (T b).2.1) ∧ ty0 k = ty ∧ (T k).2.2.2 = fin
/-- the class and the kind of a slot -/
def q_lk (lay : List Sh) (o k : Nat) : Option (Nat × Nat) := match lay[o]? with
  | some (.inr q) => match q.2[k]? with
    | some kd => some (q.1, kd)
    | none => none
  | _ => none
theorem q_lk_of {lay : List Sh} {o k ci kd : Nat} (h : q_lk lay o k = some (ci, kd)) : ∃ ks, lay[o]? = some (.inr (ci, ks)) ∧ ks[k]? = some kd := by
  unfold q_lk at h
  split at h
  · rename_i q hq
    split at h
    · rename_i z hz
      cases h
      exact ⟨q.2, hq, hz⟩
    · cases h
  · cases h
section R
variable {κ : Kx} {nL pc : Nat} {L : List (Nat × Value)} {st : List Value} {cc : ByteArray} {own : String} {ret : Option FieldType} {d : Nat} {ε : Ev} {lay : List Sh} {μ : Mm} {idx ci k o : Nat} {ty : FieldType} {fin : Bool}
theorem g_getv (C : Cf κ cc nL own ret d) (E : En ε lay (kS κ)) (F : q_Fd own idx ci k ty fin) {kd : Nat} (hs : q_lk lay o k = some (ci, kd)) {v : Value} (hv : shv (ea ε) μ o k kd = v) (hd : decode cc pc = .ok (.getfield idx, 3)) (kk : G κ (Vw κ ε lay μ) nL (pc + 3) L (v :: st)) : G κ (Vw κ ε lay μ) nL pc L (.ref (ea ε o) :: st) := by
  obtain ⟨CC, T, N, ty0, h1, h2, h3, h4, h5, h6, h7, h8⟩ := F
  obtain ⟨ks, e1, e2⟩ := q_lk_of hs
  intro H locs ls hV hl
  refine va_get (D := eD ε) (cl := vwCl) (ci := ci) (C := CC) (T := T) (N := N) C.1.1 C.1.2.1 C.1.2.2.2.2 h3 C.1.2.2.2.1 E.1 hV.1 o (wd_at e1) h1 k h2 (C.1.2.2.2.2 _ h4) (fun _ h => h) (v := v) ?_ hd (kk H locs ls hV hl)
  rw [List.getElem?_mapIdx, e2, ← hv]
  rfl
theorem g_geti (C : Cf κ cc nL own ret d) (E : En ε lay (kS κ)) (F : q_Fd own idx ci k ty fin) (hs : q_lk lay o k = some (ci, 0)) (hd : decode cc pc = .ok (.getfield idx, 3)) (kk : G κ (Vw κ ε lay μ) nL (pc + 3) L (.int (μ.1 o k) :: st)) : G κ (Vw κ ε lay μ) nL pc L (.ref (ea ε o) :: st) := g_getv C E F hs rfl hd kk
theorem g_getl (C : Cf κ cc nL own ret d) (E : En ε lay (kS κ)) (F : q_Fd own idx ci k ty fin) (hs : q_lk lay o k = some (ci, 1)) (hd : decode cc pc = .ok (.getfield idx, 3)) (kk : G κ (Vw κ ε lay μ) nL (pc + 3) L (.long (μ.2 o k) :: st)) : G κ (Vw κ ε lay μ) nL pc L (.ref (ea ε o) :: st) := g_getv C E F hs rfl hd kk
theorem g_getr (C : Cf κ cc nL own ret d) (E : En ε lay (kS κ)) (F : q_Fd own idx ci k ty fin) {j : Nat} (hs : q_lk lay o k = some (ci, j + 2)) (hd : decode cc pc = .ok (.getfield idx, 3)) (kk : G κ (Vw κ ε lay μ) nL (pc + 3) L (.ref (ea ε j) :: st)) : G κ (Vw κ ε lay μ) nL pc L (.ref (ea ε o) :: st) := g_getv C E F hs rfl hd kk
theorem g_puti (C : Cf κ cc nL own ret d) (E : En ε lay (kS κ)) (F : q_Fd own idx ci k .int false) (hs : q_lk lay o k = some (ci, 0)) {x : Int32} (hd : decode cc pc = .ok (.putfield idx, 3)) (kk : G κ (Vw κ ε lay (wI μ o k x)) nL (pc + 3) L st) : G κ (Vw κ ε lay μ) nL pc L (.int x :: .ref (ea ε o) :: st) := by
  obtain ⟨CC, T, N, ty0, h1, h2, h3, h4, h5, h6, h7, h8⟩ := F
  obtain ⟨ks, e1, e2⟩ := q_lk_of hs
  intro H locs ls hV hl
  refine va_put (D := eD ε) (cl := vwCl) (ci := ci) (C := CC) (T := T) (N := N) C.1.1 C.1.2.1 C.1.2.2.2.2 h3 ty0 h5 h6 C.1.2.2.2.1 E.1 hV.1 (wd_D E.2.1) hV.2 o (wd_at e1) h1 k h2 (C.1.2.2.2.2 _ h4) (fun _ h => h) h8 (ty := .int) (v := .int x) (by rw [h5 k h2, h7]) rfl rfl (by simpa using (List.getElem?_eq_some_iff.mp e2).1) hd (fun H1 locs1 hP1 _ hS1 => kk H1 locs1 ls ⟨?_, hS1⟩ hl)
  rw [← wd_setI e1 e2]
  exact hP1
theorem g_putl (C : Cf κ cc nL own ret d) (E : En ε lay (kS κ)) (F : q_Fd own idx ci k .long false) (hs : q_lk lay o k = some (ci, 1)) {x : Int64} (hd : decode cc pc = .ok (.putfield idx, 3)) (kk : G κ (Vw κ ε lay (wL μ o k x)) nL (pc + 3) L st) : G κ (Vw κ ε lay μ) nL pc L (.long x :: .ref (ea ε o) :: st) := by
  obtain ⟨CC, T, N, ty0, h1, h2, h3, h4, h5, h6, h7, h8⟩ := F
  obtain ⟨ks, e1, e2⟩ := q_lk_of hs
  intro H locs ls hV hl
  refine va_put (D := eD ε) (cl := vwCl) (ci := ci) (C := CC) (T := T) (N := N) C.1.1 C.1.2.1 C.1.2.2.2.2 h3 ty0 h5 h6 C.1.2.2.2.1 E.1 hV.1 (wd_D E.2.1) hV.2 o (wd_at e1) h1 k h2 (C.1.2.2.2.2 _ h4) (fun _ h => h) h8 (ty := .long) (v := .long x) (by rw [h5 k h2, h7]) rfl rfl (by simpa using (List.getElem?_eq_some_iff.mp e2).1) hd (fun H1 locs1 hP1 _ hS1 => kk H1 locs1 ls ⟨?_, hS1⟩ hl)
  rw [← wd_setL e1 e2]
  exact hP1
theorem g_putz (C : Cf κ cc nL own ret d) (E : En ε lay (kS κ)) (F : q_Fd own idx ci k .boolean false) (hs : q_lk lay o k = some (ci, 0)) {x : Int32} {α : Type} {A : Option α} {out : α} (hd : decode cc pc = .ok (.putfield idx, 3)) (hf : (if rbz x = true then A else none) = some out) (kk : A = some out → G κ (Vw κ ε lay (wI μ o k x)) nL (pc + 3) L st) : G κ (Vw κ ε lay μ) nL pc L (.int x :: .ref (ea ε o) :: st) := by
  obtain ⟨CC, T, N, ty0, h1, h2, h3, h4, h5, h6, h7, h8⟩ := F
  obtain ⟨ks, e1, e2⟩ := q_lk_of hs
  obtain ⟨hz, hf⟩ := ite_some hf
  intro H locs ls hV hl
  refine va_put (D := eD ε) (cl := vwCl) (ci := ci) (C := CC) (T := T) (N := N) C.1.1 C.1.2.1 C.1.2.2.2.2 h3 ty0 h5 h6 C.1.2.2.2.1 E.1 hV.1 (wd_D E.2.1) hV.2 o (wd_at e1) h1 k h2 (C.1.2.2.2.2 _ h4) (fun _ h => h) h8 (ty := .boolean) (v := .int x) (by rw [h5 k h2, h7]) (rbz_narrow hz) (by rcases rbz_of hz with rfl | rfl <;> rfl) (by simpa using (List.getElem?_eq_some_iff.mp e2).1) hd (fun H1 locs1 hP1 _ hS1 => kk hf H1 locs1 ls ⟨?_, hS1⟩ hl)
  rw [← wd_setI e1 e2]
  exact hP1
theorem g_iald (C : Cf κ cc nL own ret d) (E : En ε lay (kS κ)) {n : Nat} (hs : lay[o]? = some (.inl (0, n))) {i : Int32} {α : Type} {A : Option α} {out : α} (hd : decode cc pc = .ok (.iaload, 1)) (hf : (if inb i n = true then A else none) = some out) (kk : A = some out → G κ (Vw κ ε lay μ) nL (pc + 1) L (.int (μ.1 o i.toNatClampNeg) :: st)) : G κ (Vw κ ε lay μ) nL pc L (.int i :: .ref (ea ε o) :: st) := by
  obtain ⟨hz, hf⟩ := ite_some hf
  intro H locs ls hV hl
  exact va_iald (D := eD ε) (cl := vwCl) C.1.1 C.1.2.1 E.1 hV.1 o 0 (cA := eA ε 0) (n := n) (f := μ.1 o) (wd_at hs) rfl (inb_in hz) hd (kk hf H locs ls hV hl)
theorem g_lald (C : Cf κ cc nL own ret d) (E : En ε lay (kS κ)) {n : Nat} (hs : lay[o]? = some (.inl (1, n))) {i : Int32} {α : Type} {A : Option α} {out : α} (hd : decode cc pc = .ok (.laload, 1)) (hf : (if inb i n = true then A else none) = some out) (kk : A = some out → G κ (Vw κ ε lay μ) nL (pc + 1) L (.long (μ.2 o i.toNatClampNeg) :: st)) : G κ (Vw κ ε lay μ) nL pc L (.int i :: .ref (ea ε o) :: st) := by
  obtain ⟨hz, hf⟩ := ite_some hf
  intro H locs ls hV hl
  exact va_lald (D := eD ε) (cl := vwCl) C.1.1 C.1.2.1 E.1 hV.1 o 1 (cA := eA ε 1) (n := n) (f := μ.2 o) (wd_at hs) rfl (inb_in hz) hd (kk hf H locs ls hV hl)
theorem g_zald (C : Cf κ cc nL own ret d) (E : En ε lay (kS κ)) {n : Nat} (hs : lay[o]? = some (.inl (2, n))) {i : Int32} {α : Type} {A : Option α} {out : α} (hd : decode cc pc = .ok (.baload, 1)) (hf : (if inb i n = true then A else none) = some out) (kk : A = some out → G κ (Vw κ ε lay μ) nL (pc + 1) L (.int (μ.1 o i.toNatClampNeg) :: st)) : G κ (Vw κ ε lay μ) nL pc L (.int i :: .ref (ea ε o) :: st) := by
  obtain ⟨hz, hf⟩ := ite_some hf
  intro H locs ls hV hl
  exact va_zald (D := eD ε) (cl := vwCl) C.1.1 C.1.2.1 E.1 hV.1 o 2 (cA := eA ε 2) (n := n) (f := μ.1 o) (wd_at hs) rfl (inb_in hz) hd (kk hf H locs ls hV hl)
theorem g_iast (C : Cf κ cc nL own ret d) (E : En ε lay (kS κ)) {n : Nat} (hs : lay[o]? = some (.inl (0, n))) {i x : Int32} {α : Type} {A : Option α} {out : α} (hd : decode cc pc = .ok (.iastore, 1)) (hf : (if inb i n = true then A else none) = some out) (kk : A = some out → G κ (Vw κ ε lay (wI μ o i.toNatClampNeg x)) nL (pc + 1) L st) : G κ (Vw κ ε lay μ) nL pc L (.int x :: .int i :: .ref (ea ε o) :: st) := by
  obtain ⟨hz, hf⟩ := ite_some hf
  intro H locs ls hV hl
  refine va_iast (D := eD ε) (cl := vwCl) C.1.1 C.1.2.1 E.1 hV.1 (wd_D E.2.1) hV.2 o 0 (cA := eA ε 0) (n := n) (f := μ.1 o) (wd_at hs) rfl (inb_in hz) hd (fun H1 locs1 hP1 _ hS1 => kk hf H1 locs1 ls ⟨?_, hS1⟩ hl)
  rw [← wd_setA hs (by decide)]
  exact hP1
theorem g_zast (C : Cf κ cc nL own ret d) (E : En ε lay (kS κ)) {n : Nat} (hs : lay[o]? = some (.inl (2, n))) {i x : Int32} {α : Type} {A : Option α} {out : α} (hd : decode cc pc = .ok (.bastore, 1)) (hf : (if inb i n = true then (if rbz x = true then A else none) else none) = some out) (kk : A = some out → G κ (Vw κ ε lay (wI μ o i.toNatClampNeg x)) nL (pc + 1) L st) : G κ (Vw κ ε lay μ) nL pc L (.int x :: .int i :: .ref (ea ε o) :: st) := by
  obtain ⟨hz, hf⟩ := ite_some hf
  obtain ⟨hy, hf⟩ := ite_some hf
  intro H locs ls hV hl
  refine va_zast (D := eD ε) (cl := vwCl) C.1.1 C.1.2.1 E.1 hV.1 (wd_D E.2.1) hV.2 o 2 (cA := eA ε 2) (n := n) (f := μ.1 o) (wd_at hs) rfl (inb_in hz) hd (fun H1 locs1 hP1 _ hS1 => kk hf H1 locs1 ls ⟨?_, hS1⟩ hl)
  rw [rbz_nar hy] at hP1
  rw [← wd_setA hs (by decide)]
  exact hP1
theorem g_last (C : Cf κ cc nL own ret d) (E : En ε lay (kS κ)) {n : Nat} (hs : lay[o]? = some (.inl (1, n))) {i : Int32} {x : Int64} {α : Type} {A : Option α} {out : α} (hd : decode cc pc = .ok (.lastore, 1)) (hf : (if inb i n = true then A else none) = some out) (kk : A = some out → G κ (Vw κ ε lay (wL μ o i.toNatClampNeg x)) nL (pc + 1) L st) : G κ (Vw κ ε lay μ) nL pc L (.long x :: .int i :: .ref (ea ε o) :: st) := by
  obtain ⟨hz, hf⟩ := ite_some hf
  intro H locs ls hV hl
  refine va_last (D := eD ε) (cl := vwCl) C.1.1 C.1.2.1 E.1 hV.1 (wd_D E.2.1) hV.2 o 1 (cA := eA ε 1) (n := n) (f := μ.2 o) (wd_at hs) rfl (inb_in hz) hd (fun H1 locs1 hP1 _ hS1 => kk hf H1 locs1 ls ⟨?_, hS1⟩ hl)
  rw [← wd_setAL hs]
  exact hP1
/-! calls -/
def q_LkV (own : String) (idx : Nat) (y : MethodName) (bytes : ByteArray) (maxL : Nat) (ret : Option FieldType) (n ci : Nat) : Prop :=
  (Cond.code y bytes maxL ret ∈ TT ∧ Cond.methodLink own idx y ∈ TT ∧ Cond.initialized y.cls ∈ TT ∧ (y.cls ≠ "java/lang/invoke/MethodHandle" ∧ y.cls ≠ "java/lang/invoke/VarHandle") ∧ (parseMethodDescriptor y.desc).map (fun d => d.parameters.length) = some n ∧ maxL ≤ 100) ∧ Cond.instanceMethod y ∈ TT ∧ Cond.selects y.cls y y ∈ TT ∧ ∃ T N, vwCl[ci]? = some (y.cls, T, N)
def q_LkS (own : String) (idx : Nat) (y : MethodName) (bytes : ByteArray) (maxL : Nat) (ret : Option FieldType) (n : Nat) : Prop :=
  (Cond.code y bytes maxL ret ∈ TT ∧ Cond.methodLink own idx y ∈ TT ∧ Cond.initialized y.cls ∈ TT ∧ (y.cls ≠ "java/lang/invoke/MethodHandle" ∧ y.cls ≠ "java/lang/invoke/VarHandle") ∧ (parseMethodDescriptor y.desc).map (fun d => d.parameters.length) = some n ∧ maxL ≤ 100) ∧ Cond.static y ∈ TT
def q_LkN (own : String) (idx : Nat) (y : MethodName) (host : String) (bytes : ByteArray) (maxL : Nat) (ret : Option FieldType) (n : Nat) : Prop :=
  (Cond.code y bytes maxL ret ∈ TT ∧ Cond.methodLinkNest own idx y host ∈ nestW ∧ Cond.initialized y.cls ∈ TT ∧ (y.cls ≠ "java/lang/invoke/MethodHandle" ∧ y.cls ≠ "java/lang/invoke/VarHandle") ∧ (parseMethodDescriptor y.desc).map (fun d => d.parameters.length) = some n ∧ maxL ≤ 100) ∧ Cond.static y ∈ TT
theorem q_words {s : State} {args : Array Value} (hts : ∀ w ∈ TT, w.before args s = true) {cw : Cond} (hc : cw ∈ TT) : ∀ w ∈ cw :: TT, ∀ (a' : Array Value) (U : State), s.WarmedH U.vm → w.before a' U = true := by
  intro w hw a' U hW
  have hw' : w ∈ TT := by
    rcases List.mem_cons.mp hw with rfl | h
    · exact hc
    · exact h
  exact word_at hW (TT_good hw') (hts w hw')
theorem q_cb {R : Room} {s : State} {args : Array Value} {y : MethodName} {bytes : ByteArray} {maxL n d d' : Nat} {r' : Option FieldType} (hR : R = rmd d) (hdd : d' + 1 ≤ d) (hts : ∀ w ∈ TT, w.before args s = true)
    (K : Cond.code y bytes maxL r' ∈ TT ∧ Cond.methodLink own idx y ∈ TT ∧ Cond.initialized y.cls ∈ TT ∧ (y.cls ≠ "java/lang/invoke/MethodHandle" ∧ y.cls ≠ "java/lang/invoke/VarHandle") ∧ (parseMethodDescriptor y.desc).map (fun d => d.parameters.length) = some n ∧ maxL ≤ 100) :
    CallB R s args own idx y bytes maxL r' (.code y bytes maxL r' :: TT) (rmd d') 0 0 n := by
  obtain ⟨k1, k2, k3, k4, k5, k6⟩ := K
  subst hR
  refine ⟨rfl, rfl, hdd, ?_, q_words hts k1, List.mem_cons_self, hts _ k1, hts _ k3, k4, fun sig h => ?_, hts _ k2⟩
  · show 8 + (maxL + 11) + 120 * d' ≤ 120 * d
    omega
  · rw [h] at k5
    exact (Option.some.inj k5).symm
theorem Pw_blind {argv : List Value} : FrameBlind (Pw ε lay argv μ) := fun a U g mk h => ⟨h.1, h.2.1.same (u := U) rfl rfl, h.2.2.1.same (u := U) rfl, h.2.2.2⟩
theorem Pp_blind {argv : List Value} : FrameBlind (Pp argv) := fun a U g mk h => ⟨h.1, h.2.same (u := U) rfl⟩
theorem q_after {rv : Option Value} {μ' : Mm} {locs : List Loc} {H : Heap} {g : JFrame} {rest : List Value} {ls : Array Slot} {argv : Array Value} (hS : va_S (Aw lay ε) (kS κ).heap H locs) (hl : lv_has ls nL L)
    (hr : va_Run (kp κ) (kl κ) (ke κ) (kR κ) (kS κ) (km κ) (ka κ) (kb κ) (kt κ) (kc κ) H locs 0 0 0 0 (F0 (km κ) pc ls g.stack) rest (Qw ε lay rv μ' argv) (Aw lay ε)) (kk : G κ (Vw κ ε lay μ') nL (pc + 3) L (rv.toList ++ rest)) : Wk κ H locs (F0 (km κ) pc ls g.stack) := by
  intro T hT X
  obtain ⟨v, st₀, t, T', LL, h0, X', hL, e1, e2, ⟨hv, hP1, hz, hk⟩, st⟩ := hr T hT X
  have hv' : v = rv := by injection hv
  subst hv'
  rw [h0] at hz hk
  have hS' : va_S (Aw lay ε) (kS κ).heap T'.heap (locs ++ LL) := ⟨Nat.le_trans hS.1 (by rw [e1]; exact hz), fun q h1 h2 => by rw [e1, hk q (Nat.lt_of_lt_of_le h1 hS.1) h2]; exact hS.2.1 q h1 h2, fun q hq => by
    rcases List.mem_append.mp hq with h | h
    · exact hS.2.2 q h
    · exact hL q h⟩
  obtain ⟨t2, a1, b1⟩ := kk T'.heap (locs ++ LL) ls ⟨by rw [e1]; exact hP1, hS'⟩ hl T' rfl X'
  exact ⟨t2, st t2 a1, b1⟩
theorem g_callV (C : Cf κ cc nL own ret d) (E : En ε lay (kS κ)) {ks : List Nat} (hs : lay[o]? = some (.inr (ci, ks))) {y : MethodName} {bytes : ByteArray} {maxL n d' : Nat} {r' : Option FieldType} (K : q_LkV own idx y bytes maxL r' n ci) {As st0 : List Value} {rv : Option Value} {μ' : Mm} (hn : As.length = n) (hM : Sp (kl κ) ε lay y bytes maxL r' d' (.ref (ea ε o) :: As) rv μ μ') (hdd : d' + 1 ≤ d) (hst : As.reverse ++ .ref (ea ε o) :: st = st0) (hW : (st.map fun v => v.category).sum ≤ 8) (hd : decode cc pc = .ok (.invokevirtual idx, 3)) (kk : G κ (Vw κ ε lay μ') nL (pc + 3) L (rv.toList ++ st)) : G κ (Vw κ ε lay μ) nL pc L st0 := by
  obtain ⟨K1, k2, k3, T, N, k4⟩ := K
  intro H locs ls hV hl
  refine q_after (g := F0 (km κ) pc ls st0) hV.2 hl (va_runV (n := n) (C := y.cls) (As := As) (b := ea ε o) (rest := st) C.1 hM ⟨q_cb C.2.2.2.2 hdd C.1.2.2.2.2 K1, C.1.2.2.2.2 _ k2, C.1.2.2.2.2 _ k3⟩ ⟨Pw_blind, va_recv (q := (y.cls, T, N)) E.1 hV.1 k4 (wd_at hs), fun U hU hWU => ⟨rfl, E.go hV.2 hU hWU, C.2.2.2.1.warm hWU, by rw [hU]; exact hV.1⟩⟩ rfl hn hl.1 hst.symm (lv_room hW) hd ⟨?_, ?_⟩) kk
  · rw [C.2.2.2.2]; exact Nat.le_refl _
  · rw [C.2.2.2.2]; exact Nat.le_refl _
theorem g_callSw (C : Cf κ cc nL own ret d) (E : En ε lay (kS κ)) {y : MethodName} {bytes : ByteArray} {maxL n d' : Nat} {r' : Option FieldType} (K : q_LkS own idx y bytes maxL r' n) {As st0 : List Value} {rv : Option Value} {μ' : Mm} (hn : As.length = n) (hM : Sp (kl κ) ε lay y bytes maxL r' d' As rv μ μ') (hdd : d' + 1 ≤ d) (hst : As.reverse ++ st = st0) (hW : (st.map fun v => v.category).sum ≤ 8) (hd : decode cc pc = .ok (.invokestatic idx, 3)) (kk : G κ (Vw κ ε lay μ') nL (pc + 3) L (rv.toList ++ st)) : G κ (Vw κ ε lay μ) nL pc L st0 := by
  obtain ⟨K1, k2⟩ := K
  intro H locs ls hV hl
  refine q_after (g := F0 (km κ) pc ls st0) hV.2 hl (va_runS (n := n) (As := As) (rest := st) C.1 hM ⟨q_cb C.2.2.2.2 hdd C.1.2.2.2.2 K1, C.1.2.2.2.2 _ k2⟩ ⟨Pw_blind, fun U hU hWU => ⟨rfl, E.go hV.2 hU hWU, C.2.2.2.1.warm hWU, by rw [hU]; exact hV.1⟩⟩ rfl hn hl.1 hst.symm (lv_room hW) hd ⟨?_, ?_⟩) kk
  · rw [C.2.2.2.2]; exact Nat.le_refl _
  · rw [C.2.2.2.2]; exact Nat.le_refl _
theorem q_afterP {V : Heap → List Loc → Prop} {rv : Option Value} {locs : List Loc} {H : Heap} {g : JFrame} {rest : List Value} {ls : Array Slot} {argv : Array Value} (hV : V H locs) (hl : lv_has ls nL L)
    (hr : va_Run (kp κ) (kl κ) (ke κ) (kR κ) (kS κ) (km κ) (ka κ) (kb κ) (kt κ) (kc κ) H locs 0 0 0 0 (F0 (km κ) pc ls g.stack) rest (Qp rv argv) (fun _ => False)) (kk : G κ V nL (pc + 3) L (rv.toList ++ rest)) : Wk κ H locs (F0 (km κ) pc ls g.stack) := by
  intro T hT X
  obtain ⟨v, st₀, t, T', LL, h0, X', hL, e1, e2, ⟨hv, hh⟩, st⟩ := hr T hT X
  have hv' : v = rv := by injection hv
  subst hv'
  obtain ⟨t2, a1, b1⟩ := kk H locs ls hV hl T' (by rw [e1, hh, h0]) (Stand.forget X' (fun q h => (hL q h).elim))
  exact ⟨t2, st t2 a1, b1⟩
theorem g_callS {V : Heap → List Loc → Prop} (C : Cf κ cc nL own ret d) {y : MethodName} {bytes : ByteArray} {maxL n d' : Nat} {r' : Option FieldType} (K : q_LkS own idx y bytes maxL r' n) {As st0 : List Value} {rv : Option Value} (hn : As.length = n) (hM : Sq (kl κ) y bytes maxL r' d' As rv) (hdd : d' + 1 ≤ d) (hst : As.reverse ++ st = st0) (hW : (st.map fun v => v.category).sum ≤ 8) (hd : decode cc pc = .ok (.invokestatic idx, 3)) (kk : G κ V nL (pc + 3) L (rv.toList ++ st)) : G κ V nL pc L st0 := by
  obtain ⟨K1, k2⟩ := K
  intro H locs ls hV hl
  refine q_afterP (g := F0 (km κ) pc ls st0) hV hl (va_runS (n := n) (As := As) (rest := st) C.1 hM ⟨q_cb C.2.2.2.2 hdd C.1.2.2.2.2 K1, C.1.2.2.2.2 _ k2⟩ ⟨Pp_blind, fun U hU hWU => ⟨rfl, C.2.2.2.1.warm hWU⟩⟩ rfl hn hl.1 hst.symm (lv_room hW) hd ⟨?_, ?_⟩) kk
  · rw [C.2.2.2.2]; exact Nat.le_refl _
  · rw [C.2.2.2.2]; exact Nat.le_refl _
theorem g_callN {V : Heap → List Loc → Prop} (C : Cf κ cc nL own ret d) {y : MethodName} {host : String} {bytes : ByteArray} {maxL n d' : Nat} {r' : Option FieldType} (K : q_LkN own idx y host bytes maxL r' n) {As st0 : List Value} {rv : Option Value} (hn : As.length = n) (hM : Sq (kl κ) y bytes maxL r' d' As rv) (hdd : d' + 1 ≤ d) (hst : As.reverse ++ st = st0) (hW : (st.map fun v => v.category).sum ≤ 8) (hd : decode cc pc = .ok (.invokestatic idx, 3)) (kk : G κ V nL (pc + 3) L (rv.toList ++ st)) : G κ V nL pc L st0 := by
  obtain ⟨⟨k1, k2, k3, k4, k5, k6⟩, k7⟩ := K
  intro H locs ls hV hl
  refine q_afterP (g := F0 (km κ) pc ls st0) hV hl (va_runSN (n := n) (host := host) (As := As) (rest := st) C.1 hM ⟨⟨⟨rfl, rfl, ?_, ?_, q_words C.1.2.2.2.2 k1, List.mem_cons_self⟩, C.1.2.2.2.2 _ k1, C.1.2.2.2.2 _ k3, k4, fun sig h => ?_, va_Nw.use rfl (C.2.2.2.1 _ k2)⟩, C.1.2.2.2.2 _ k7, trivial⟩ ⟨Pp_blind, fun U hU hWU => ⟨rfl, C.2.2.2.1.warm hWU⟩⟩ rfl hn hl.1 hst.symm (lv_room hW) hd ⟨?_, ?_⟩) kk
  · rw [C.2.2.2.2]; exact hdd
  · rw [C.2.2.2.2]; show 8 + (maxL + 11) + 120 * d' ≤ 120 * d; omega
  · rw [h] at k5; exact (Option.some.inj k5).symm
  · rw [C.2.2.2.2]; exact Nat.le_refl _
  · rw [C.2.2.2.2]; exact Nat.le_refl _
/-! returns -/
theorem g_iretw (C : Cf κ cc nL own (some .int) d) {v : Int32} {out : Int32 × Mm} (hQ : Rw κ ε lay (some (.int out.1)) out.2) (hd : decode cc pc = .ok (.ireturn, 1)) (hf : some (v, μ) = some out) : G κ (Vw κ ε lay μ) nL pc L [.int v] := by
  cases hf
  intro H locs ls hV hl
  show W _ _ _ _ _ _ _ _ _ _ _ _ _ _ (kQ κ) _
  rw [hQ]
  exact W.iret C.1.1 C.1.2.1 C.2.1 (fun t ht hW => ⟨rfl, by rw [ht]; exact hV.1, hV.2.F ht⟩) hV.2.2.2 hd C.2.2.1
theorem g_lretw (C : Cf κ cc nL own (some .long) d) {v : Int64} {out : Int64 × Mm} (hQ : Rw κ ε lay (some (.long out.1)) out.2) (hd : decode cc pc = .ok (.lreturn, 1)) (hf : some (v, μ) = some out) : G κ (Vw κ ε lay μ) nL pc L [.long v] := by
  cases hf
  intro H locs ls hV hl
  show W _ _ _ _ _ _ _ _ _ _ _ _ _ _ (kQ κ) _
  rw [hQ]
  exact W.lret C.1.1 C.1.2.1 C.2.1 (fun t ht hW => ⟨rfl, by rw [ht]; exact hV.1, hV.2.F ht⟩) hV.2.2.2 hd C.2.2.1
theorem g_zretw (C : Cf κ cc nL own (some .boolean) d) {v : Int32} {out : Int32 × Mm} (hQ : Rw κ ε lay (some (.int out.1)) out.2) (hd : decode cc pc = .ok (.ireturn, 1)) (hf : (if rbz v = true then some (v, μ) else none) = some out) : G κ (Vw κ ε lay μ) nL pc L [.int v] := by
  obtain ⟨hz, hf⟩ := ite_some hf
  cases hf
  intro H locs ls hV hl
  show W _ _ _ _ _ _ _ _ _ _ _ _ _ _ (kQ κ) _
  rw [hQ]
  exact W.zret C.1.1 C.1.2.1 C.2.1 (rbz_narrow hz) (fun t ht hW => ⟨rfl, by rw [ht]; exact hV.1, hV.2.F ht⟩) hV.2.2.2 hd C.2.2.1
theorem g_vretw (C : Cf κ cc nL own none d) {out : Mm} (hQ : Rw κ ε lay none out) (hd : decode cc pc = .ok (.return_, 1)) (hf : some μ = some out) : G κ (Vw κ ε lay μ) nL pc L [] := by
  cases hf
  intro H locs ls hV hl
  show W _ _ _ _ _ _ _ _ _ _ _ _ _ _ (kQ κ) _
  rw [hQ]
  exact W.vret C.1.1 C.1.2.1 C.2.1 (fun t ht hW => ⟨rfl, by rw [ht]; exact hV.1, hV.2.F ht⟩) hV.2.2.2 hd C.2.2.1
theorem g_iretr (C : Cf κ cc nL own (some .int) d) {v out : Int32} (hQ : Rw κ ε lay (some (.int out)) μ) (hd : decode cc pc = .ok (.ireturn, 1)) (hf : some v = some out) : G κ (Vw κ ε lay μ) nL pc L [.int v] := g_iretw (out := (out, μ)) C hQ hd (by cases hf; rfl)
theorem g_lretr (C : Cf κ cc nL own (some .long) d) {v out : Int64} (hQ : Rw κ ε lay (some (.long out)) μ) (hd : decode cc pc = .ok (.lreturn, 1)) (hf : some v = some out) : G κ (Vw κ ε lay μ) nL pc L [.long v] := g_lretw (out := (out, μ)) C hQ hd (by cases hf; rfl)
theorem g_zretr (C : Cf κ cc nL own (some .boolean) d) {v out : Int32} (hQ : Rw κ ε lay (some (.int out)) μ) (hd : decode cc pc = .ok (.ireturn, 1)) (hf : (if rbz v = true then some v else none) = some out) : G κ (Vw κ ε lay μ) nL pc L [.int v] := g_zretw (out := (out, μ)) C hQ hd (by obtain ⟨hz, hf⟩ := ite_some hf; cases hf; rw [if_pos hz])
theorem g_iretp (C : Cf κ cc nL own (some .int) d) {v out : Int32} (hQ : Rp κ (some (.int out))) (hd : decode cc pc = .ok (.ireturn, 1)) (hf : some v = some out) : G κ (Vp κ) nL pc L [.int v] := by
  cases hf
  intro H locs ls hV hl
  obtain ⟨h1, rfl⟩ := hV
  show W _ _ _ _ _ _ _ _ _ _ _ _ _ _ (kQ κ) _
  rw [hQ]
  exact W.iret C.1.1 C.1.2.1 C.2.1 (fun t ht hW => ⟨rfl, ht.trans h1⟩) (fun q h => by cases h) hd C.2.2.1
theorem g_lretp (C : Cf κ cc nL own (some .long) d) {v out : Int64} (hQ : Rp κ (some (.long out))) (hd : decode cc pc = .ok (.lreturn, 1)) (hf : some v = some out) : G κ (Vp κ) nL pc L [.long v] := by
  cases hf
  intro H locs ls hV hl
  obtain ⟨h1, rfl⟩ := hV
  show W _ _ _ _ _ _ _ _ _ _ _ _ _ _ (kQ κ) _
  rw [hQ]
  exact W.lret C.1.1 C.1.2.1 C.2.1 (fun t ht hW => ⟨rfl, ht.trans h1⟩) (fun q h => by cases h) hd C.2.2.1
theorem g_zretp (C : Cf κ cc nL own (some .boolean) d) {v out : Int32} (hQ : Rp κ (some (.int out))) (hd : decode cc pc = .ok (.ireturn, 1)) (hf : (if rbz v = true then some v else none) = some out) : G κ (Vp κ) nL pc L [.int v] := by
  obtain ⟨hz, hf⟩ := ite_some hf
  cases hf
  intro H locs ls hV hl
  obtain ⟨h1, rfl⟩ := hV
  show W _ _ _ _ _ _ _ _ _ _ _ _ _ _ (kQ κ) _
  rw [hQ]
  exact W.zret C.1.1 C.1.2.1 C.2.1 (rbz_narrow hz) (fun t ht hW => ⟨rfl, ht.trans h1⟩) (fun q h => by cases h) hd C.2.2.1
/-! calls with the function's own bind -/
theorem g_cwi (C : Cf κ cc nL own ret d) (E : En ε lay (kS κ)) {ks : List Nat} (hs : lay[o]? = some (.inr (ci, ks))) {y : MethodName} {bytes : ByteArray} {maxL n d' : Nat} {r' : Option FieldType} (K : q_LkV own idx y bytes maxL r' n ci) {As st0 : List Value} (hn : As.length = n) {f : Option (Int32 × Mm)} (hM : ∀ out, f = some out → Sp (kl κ) ε lay y bytes maxL r' d' (.ref (ea ε o) :: As) (some (.int out.1)) μ out.2) (hdd : d' + 1 ≤ d) (hst : As.reverse ++ .ref (ea ε o) :: st = st0) (hW : (st.map fun v => v.category).sum ≤ 8) (hd : decode cc pc = .ok (.invokevirtual idx, 3)) {α : Type} {g : Int32 → Mm → Option α} {out : α} (hf : bnd f g = some out) (kk : ∀ r μ', f = some (r, μ') → g r μ' = some out → G κ (Vw κ ε lay μ') nL (pc + 3) L (.int r :: st)) : G κ (Vw κ ε lay μ) nL pc L st0 := by
  obtain ⟨r, μ', h1, h2⟩ := bnd_of hf
  exact g_callV C E hs K hn (hM _ h1) hdd hst hW hd (kk r μ' h1 h2)
theorem g_cwl (C : Cf κ cc nL own ret d) (E : En ε lay (kS κ)) {ks : List Nat} (hs : lay[o]? = some (.inr (ci, ks))) {y : MethodName} {bytes : ByteArray} {maxL n d' : Nat} {r' : Option FieldType} (K : q_LkV own idx y bytes maxL r' n ci) {As st0 : List Value} (hn : As.length = n) {f : Option (Int64 × Mm)} (hM : ∀ out, f = some out → Sp (kl κ) ε lay y bytes maxL r' d' (.ref (ea ε o) :: As) (some (.long out.1)) μ out.2) (hdd : d' + 1 ≤ d) (hst : As.reverse ++ .ref (ea ε o) :: st = st0) (hW : (st.map fun v => v.category).sum ≤ 8) (hd : decode cc pc = .ok (.invokevirtual idx, 3)) {α : Type} {g : Int64 → Mm → Option α} {out : α} (hf : bnd f g = some out) (kk : ∀ r μ', f = some (r, μ') → g r μ' = some out → G κ (Vw κ ε lay μ') nL (pc + 3) L (.long r :: st)) : G κ (Vw κ ε lay μ) nL pc L st0 := by
  obtain ⟨r, μ', h1, h2⟩ := bnd_of hf
  exact g_callV C E hs K hn (hM _ h1) hdd hst hW hd (kk r μ' h1 h2)
theorem g_cwv (C : Cf κ cc nL own ret d) (E : En ε lay (kS κ)) {ks : List Nat} (hs : lay[o]? = some (.inr (ci, ks))) {y : MethodName} {bytes : ByteArray} {maxL n d' : Nat} {r' : Option FieldType} (K : q_LkV own idx y bytes maxL r' n ci) {As st0 : List Value} (hn : As.length = n) {f : Option Mm} (hM : ∀ out, f = some out → Sp (kl κ) ε lay y bytes maxL r' d' (.ref (ea ε o) :: As) none μ out) (hdd : d' + 1 ≤ d) (hst : As.reverse ++ .ref (ea ε o) :: st = st0) (hW : (st.map fun v => v.category).sum ≤ 8) (hd : decode cc pc = .ok (.invokevirtual idx, 3)) {α : Type} {g : Mm → Option α} {out : α} (hf : f.bind g = some out) (kk : ∀ μ', f = some μ' → g μ' = some out → G κ (Vw κ ε lay μ') nL (pc + 3) L st) : G κ (Vw κ ε lay μ) nL pc L st0 := by
  obtain ⟨μ', h1, h2⟩ := bind_some hf
  exact g_callV C E hs K hn (hM _ h1) hdd hst hW hd (kk μ' h1 h2)
theorem g_cri (C : Cf κ cc nL own ret d) (E : En ε lay (kS κ)) {ks : List Nat} (hs : lay[o]? = some (.inr (ci, ks))) {y : MethodName} {bytes : ByteArray} {maxL n d' : Nat} {r' : Option FieldType} (K : q_LkV own idx y bytes maxL r' n ci) {As st0 : List Value} (hn : As.length = n) {f : Option Int32} (hM : ∀ out, f = some out → Sp (kl κ) ε lay y bytes maxL r' d' (.ref (ea ε o) :: As) (some (.int out)) μ μ) (hdd : d' + 1 ≤ d) (hst : As.reverse ++ .ref (ea ε o) :: st = st0) (hW : (st.map fun v => v.category).sum ≤ 8) (hd : decode cc pc = .ok (.invokevirtual idx, 3)) {α : Type} {g : Int32 → Option α} {out : α} (hf : f.bind g = some out) (kk : ∀ r, f = some r → g r = some out → G κ (Vw κ ε lay μ) nL (pc + 3) L (.int r :: st)) : G κ (Vw κ ε lay μ) nL pc L st0 := by
  obtain ⟨r, h1, h2⟩ := bind_some hf
  exact g_callV C E hs K hn (hM _ h1) hdd hst hW hd (kk r h1 h2)
theorem g_crl (C : Cf κ cc nL own ret d) (E : En ε lay (kS κ)) {ks : List Nat} (hs : lay[o]? = some (.inr (ci, ks))) {y : MethodName} {bytes : ByteArray} {maxL n d' : Nat} {r' : Option FieldType} (K : q_LkV own idx y bytes maxL r' n ci) {As st0 : List Value} (hn : As.length = n) {f : Option Int64} (hM : ∀ out, f = some out → Sp (kl κ) ε lay y bytes maxL r' d' (.ref (ea ε o) :: As) (some (.long out)) μ μ) (hdd : d' + 1 ≤ d) (hst : As.reverse ++ .ref (ea ε o) :: st = st0) (hW : (st.map fun v => v.category).sum ≤ 8) (hd : decode cc pc = .ok (.invokevirtual idx, 3)) {α : Type} {g : Int64 → Option α} {out : α} (hf : f.bind g = some out) (kk : ∀ r, f = some r → g r = some out → G κ (Vw κ ε lay μ) nL (pc + 3) L (.long r :: st)) : G κ (Vw κ ε lay μ) nL pc L st0 := by
  obtain ⟨r, h1, h2⟩ := bind_some hf
  exact g_callV C E hs K hn (hM _ h1) hdd hst hW hd (kk r h1 h2)
theorem g_cswi (C : Cf κ cc nL own ret d) (E : En ε lay (kS κ)) {y : MethodName} {bytes : ByteArray} {maxL n d' : Nat} {r' : Option FieldType} (K : q_LkS own idx y bytes maxL r' n) {As st0 : List Value} (hn : As.length = n) {f : Option Int32} (hM : ∀ out, f = some out → Sp (kl κ) ε lay y bytes maxL r' d' As (some (.int out)) μ μ) (hdd : d' + 1 ≤ d) (hst : As.reverse ++ st = st0) (hW : (st.map fun v => v.category).sum ≤ 8) (hd : decode cc pc = .ok (.invokestatic idx, 3)) {α : Type} {g : Int32 → Option α} {out : α} (hf : f.bind g = some out) (kk : ∀ r, f = some r → g r = some out → G κ (Vw κ ε lay μ) nL (pc + 3) L (.int r :: st)) : G κ (Vw κ ε lay μ) nL pc L st0 := by
  obtain ⟨r, h1, h2⟩ := bind_some hf
  exact g_callSw C E K hn (hM _ h1) hdd hst hW hd (kk r h1 h2)
theorem g_cpi {V : Heap → List Loc → Prop} (C : Cf κ cc nL own ret d) {y : MethodName} {bytes : ByteArray} {maxL n d' : Nat} {r' : Option FieldType} (K : q_LkS own idx y bytes maxL r' n) {As st0 : List Value} (hn : As.length = n) {f : Option Int32} (hM : ∀ out, f = some out → Sq (kl κ) y bytes maxL r' d' As (some (.int out))) (hdd : d' + 1 ≤ d) (hst : As.reverse ++ st = st0) (hW : (st.map fun v => v.category).sum ≤ 8) (hd : decode cc pc = .ok (.invokestatic idx, 3)) {α : Type} {g : Int32 → Option α} {out : α} (hf : f.bind g = some out) (kk : ∀ r, f = some r → g r = some out → G κ V nL (pc + 3) L (.int r :: st)) : G κ V nL pc L st0 := by
  obtain ⟨r, h1, h2⟩ := bind_some hf
  exact g_callS C K hn (hM _ h1) hdd hst hW hd (kk r h1 h2)
theorem g_cpl {V : Heap → List Loc → Prop} (C : Cf κ cc nL own ret d) {y : MethodName} {bytes : ByteArray} {maxL n d' : Nat} {r' : Option FieldType} (K : q_LkS own idx y bytes maxL r' n) {As st0 : List Value} (hn : As.length = n) {f : Option Int64} (hM : ∀ out, f = some out → Sq (kl κ) y bytes maxL r' d' As (some (.long out))) (hdd : d' + 1 ≤ d) (hst : As.reverse ++ st = st0) (hW : (st.map fun v => v.category).sum ≤ 8) (hd : decode cc pc = .ok (.invokestatic idx, 3)) {α : Type} {g : Int64 → Option α} {out : α} (hf : f.bind g = some out) (kk : ∀ r, f = some r → g r = some out → G κ V nL (pc + 3) L (.long r :: st)) : G κ V nL pc L st0 := by
  obtain ⟨r, h1, h2⟩ := bind_some hf
  exact g_callS C K hn (hM _ h1) hdd hst hW hd (kk r h1 h2)
theorem g_cni {V : Heap → List Loc → Prop} (C : Cf κ cc nL own ret d) {y : MethodName} {host : String} {bytes : ByteArray} {maxL n d' : Nat} {r' : Option FieldType} (K : q_LkN own idx y host bytes maxL r' n) {As st0 : List Value} (hn : As.length = n) {f : Option Int32} (hM : ∀ out, f = some out → Sq (kl κ) y bytes maxL r' d' As (some (.int out))) (hdd : d' + 1 ≤ d) (hst : As.reverse ++ st = st0) (hW : (st.map fun v => v.category).sum ≤ 8) (hd : decode cc pc = .ok (.invokestatic idx, 3)) {α : Type} {g : Int32 → Option α} {out : α} (hf : f.bind g = some out) (kk : ∀ r, f = some r → g r = some out → G κ V nL (pc + 3) L (.int r :: st)) : G κ V nL pc L st0 := by
  obtain ⟨r, h1, h2⟩ := bind_some hf
  exact g_callN C K hn (hM _ h1) hdd hst hW hd (kk r h1 h2)
end R
end
