section
-- ===== PART A: goes FIRST, ahead of the names: the tables' words, and 'selects' of the private methods out of them =====
/-- a private method of a class that the tables say can be made, by its rows of tables_1 -/
def lw_okq (q : MethodName × Nat) : Prop := (q.1.cls ≠ "java/lang/invoke/MethodHandle" ∧ q.1.cls ≠ "java/lang/invoke/VarHandle") ∧ Cond.instantiable q.1.cls q.2 ∈ tables_1 ∧ Cond.privateMethod q.1 ∈ tables_1 ∧ Cond.instanceMethod q.1 ∈ tables_1
theorem lw_p0 : lw_okq (⟨"WidenDesk$Reader", "letter", "()I"⟩, 7) := ⟨⟨by decide +kernel, by decide +kernel⟩, List.mem_of_getElem? (i := 27) (by decide +kernel), List.mem_of_getElem? (i := 207) (by decide +kernel), List.mem_of_getElem? (i := 208) (by decide +kernel)⟩
theorem lw_p1 : lw_okq (⟨"WidenDesk$Reader", "skip", "(C)Z"⟩, 7) := ⟨⟨by decide +kernel, by decide +kernel⟩, List.mem_of_getElem? (i := 27) (by decide +kernel), List.mem_of_getElem? (i := 304) (by decide +kernel), List.mem_of_getElem? (i := 305) (by decide +kernel)⟩
theorem lw_p2 : lw_okq (⟨"WidenDesk$Reader", "readElement", "()Z"⟩, 7) := ⟨⟨by decide +kernel, by decide +kernel⟩, List.mem_of_getElem? (i := 27) (by decide +kernel), List.mem_of_getElem? (i := 308) (by decide +kernel), List.mem_of_getElem? (i := 309) (by decide +kernel)⟩
theorem lw_p3 : lw_okq (⟨"WidenDesk$Reader", "keep", "(IJ)V"⟩, 7) := ⟨⟨by decide +kernel, by decide +kernel⟩, List.mem_of_getElem? (i := 27) (by decide +kernel), List.mem_of_getElem? (i := 315) (by decide +kernel), List.mem_of_getElem? (i := 316) (by decide +kernel)⟩
theorem lw_p4 : lw_okq (⟨"WidenDesk$Reader", "readNumber", "(I)Z"⟩, 7) := ⟨⟨by decide +kernel, by decide +kernel⟩, List.mem_of_getElem? (i := 27) (by decide +kernel), List.mem_of_getElem? (i := 319) (by decide +kernel), List.mem_of_getElem? (i := 320) (by decide +kernel)⟩
theorem lw_p5 : lw_okq (⟨"WidenDesk", "newRow", "(II)I"⟩, 11) := ⟨⟨by decide +kernel, by decide +kernel⟩, List.mem_of_getElem? (i := 19) (by decide +kernel), List.mem_of_getElem? (i := 355) (by decide +kernel), List.mem_of_getElem? (i := 356) (by decide +kernel)⟩
theorem lw_p6 : lw_okq (⟨"WidenDesk", "freeRow", "()I"⟩, 11) := ⟨⟨by decide +kernel, by decide +kernel⟩, List.mem_of_getElem? (i := 19) (by decide +kernel), List.mem_of_getElem? (i := 359) (by decide +kernel), List.mem_of_getElem? (i := 360) (by decide +kernel)⟩
theorem lw_p7 : lw_okq (⟨"WidenDesk", "isInSlots", "(I)Z"⟩, 11) := ⟨⟨by decide +kernel, by decide +kernel⟩, List.mem_of_getElem? (i := 19) (by decide +kernel), List.mem_of_getElem? (i := 363) (by decide +kernel), List.mem_of_getElem? (i := 364) (by decide +kernel)⟩
theorem lw_p8 : lw_okq (⟨"WidenDesk", "firstSlotOf", "(I)I"⟩, 11) := ⟨⟨by decide +kernel, by decide +kernel⟩, List.mem_of_getElem? (i := 19) (by decide +kernel), List.mem_of_getElem? (i := 367) (by decide +kernel), List.mem_of_getElem? (i := 368) (by decide +kernel)⟩
theorem lw_p9 : lw_okq (⟨"WidenDesk", "replace", "(II)V"⟩, 11) := ⟨⟨by decide +kernel, by decide +kernel⟩, List.mem_of_getElem? (i := 19) (by decide +kernel), List.mem_of_getElem? (i := 411) (by decide +kernel), List.mem_of_getElem? (i := 412) (by decide +kernel)⟩
theorem lw_p10 : lw_okq (⟨"WidenDesk$Log", "add", "(IIII)I"⟩, 8) := ⟨⟨by decide +kernel, by decide +kernel⟩, List.mem_of_getElem? (i := 83) (by decide +kernel), List.mem_of_getElem? (i := 419) (by decide +kernel), List.mem_of_getElem? (i := 420) (by decide +kernel)⟩
theorem lw_p11 : lw_okq (⟨"WidenDesk", "countArrays", "(Z)I"⟩, 11) := ⟨⟨by decide +kernel, by decide +kernel⟩, List.mem_of_getElem? (i := 19) (by decide +kernel), List.mem_of_getElem? (i := 428) (by decide +kernel), List.mem_of_getElem? (i := 429) (by decide +kernel)⟩
theorem lw_p12 : lw_okq (⟨"WidenDesk", "holdsArray", "(I)Z"⟩, 11) := ⟨⟨by decide +kernel, by decide +kernel⟩, List.mem_of_getElem? (i := 19) (by decide +kernel), List.mem_of_getElem? (i := 432) (by decide +kernel), List.mem_of_getElem? (i := 433) (by decide +kernel)⟩
theorem lw_p13 : lw_okq (⟨"WidenDesk", "thingIn", "(I)I"⟩, 11) := ⟨⟨by decide +kernel, by decide +kernel⟩, List.mem_of_getElem? (i := 19) (by decide +kernel), List.mem_of_getElem? (i := 436) (by decide +kernel), List.mem_of_getElem? (i := 437) (by decide +kernel)⟩
theorem lw_p14 : lw_okq (⟨"WidenDesk", "countEmptySlots", "()I"⟩, 11) := ⟨⟨by decide +kernel, by decide +kernel⟩, List.mem_of_getElem? (i := 19) (by decide +kernel), List.mem_of_getElem? (i := 440) (by decide +kernel), List.mem_of_getElem? (i := 441) (by decide +kernel)⟩
theorem lw_p15 : lw_okq (⟨"WidenDesk", "countFine", "()I"⟩, 11) := ⟨⟨by decide +kernel, by decide +kernel⟩, List.mem_of_getElem? (i := 19) (by decide +kernel), List.mem_of_getElem? (i := 444) (by decide +kernel), List.mem_of_getElem? (i := 445) (by decide +kernel)⟩
def lw_privs_1 : List (MethodName × Nat) := [(⟨"WidenDesk$Reader", "letter", "()I"⟩, 7), (⟨"WidenDesk$Reader", "skip", "(C)Z"⟩, 7), (⟨"WidenDesk$Reader", "readElement", "()Z"⟩, 7), (⟨"WidenDesk$Reader", "keep", "(IJ)V"⟩, 7), (⟨"WidenDesk$Reader", "readNumber", "(I)Z"⟩, 7), (⟨"WidenDesk", "newRow", "(II)I"⟩, 11), (⟨"WidenDesk", "freeRow", "()I"⟩, 11), (⟨"WidenDesk", "isInSlots", "(I)Z"⟩, 11), (⟨"WidenDesk", "firstSlotOf", "(I)I"⟩, 11), (⟨"WidenDesk", "replace", "(II)V"⟩, 11), (⟨"WidenDesk$Log", "add", "(IIII)I"⟩, 8), (⟨"WidenDesk", "countArrays", "(Z)I"⟩, 11), (⟨"WidenDesk", "holdsArray", "(I)Z"⟩, 11), (⟨"WidenDesk", "thingIn", "(I)I"⟩, 11), (⟨"WidenDesk", "countEmptySlots", "()I"⟩, 11), (⟨"WidenDesk", "countFine", "()I"⟩, 11)]
theorem lw_r1 : ∀ q ∈ lw_privs_1, lw_okq q := List.forall_mem_cons.mpr ⟨lw_p0, List.forall_mem_cons.mpr ⟨lw_p1, List.forall_mem_cons.mpr ⟨lw_p2, List.forall_mem_cons.mpr ⟨lw_p3, List.forall_mem_cons.mpr ⟨lw_p4, List.forall_mem_cons.mpr ⟨lw_p5, List.forall_mem_cons.mpr ⟨lw_p6, List.forall_mem_cons.mpr ⟨lw_p7, List.forall_mem_cons.mpr ⟨lw_p8, List.forall_mem_cons.mpr ⟨lw_p9, List.forall_mem_cons.mpr ⟨lw_p10, List.forall_mem_cons.mpr ⟨lw_p11, List.forall_mem_cons.mpr ⟨lw_p12, List.forall_mem_cons.mpr ⟨lw_p13, List.forall_mem_cons.mpr ⟨lw_p14, List.forall_mem_cons.mpr ⟨lw_p15, fun _ h => absurd h List.not_mem_nil⟩⟩⟩⟩⟩⟩⟩⟩⟩⟩⟩⟩⟩⟩⟩⟩
theorem lw_p16 : lw_okq (⟨"WidenDesk", "shownCode", "(IJ)J"⟩, 11) := ⟨⟨by decide +kernel, by decide +kernel⟩, List.mem_of_getElem? (i := 19) (by decide +kernel), List.mem_of_getElem? (i := 483) (by decide +kernel), List.mem_of_getElem? (i := 484) (by decide +kernel)⟩
theorem lw_p17 : lw_okq (⟨"WidenDesk", "hold", "(IIJ)V"⟩, 11) := ⟨⟨by decide +kernel, by decide +kernel⟩, List.mem_of_getElem? (i := 19) (by decide +kernel), List.mem_of_getElem? (i := 506) (by decide +kernel), List.mem_of_getElem? (i := 507) (by decide +kernel)⟩
theorem lw_p18 : lw_okq (⟨"WidenDesk", "fetchReason", "(II)I"⟩, 11) := ⟨⟨by decide +kernel, by decide +kernel⟩, List.mem_of_getElem? (i := 19) (by decide +kernel), List.mem_of_getElem? (i := 579) (by decide +kernel), List.mem_of_getElem? (i := 580) (by decide +kernel)⟩
theorem lw_p19 : lw_okq (⟨"WidenDesk", "convertReason", "(IIII)I"⟩, 11) := ⟨⟨by decide +kernel, by decide +kernel⟩, List.mem_of_getElem? (i := 19) (by decide +kernel), List.mem_of_getElem? (i := 620) (by decide +kernel), List.mem_of_getElem? (i := 621) (by decide +kernel)⟩
theorem lw_p20 : lw_okq (⟨"WidenDesk", "convertElement", "(IIII)V"⟩, 11) := ⟨⟨by decide +kernel, by decide +kernel⟩, List.mem_of_getElem? (i := 19) (by decide +kernel), List.mem_of_getElem? (i := 655) (by decide +kernel), List.mem_of_getElem? (i := 656) (by decide +kernel)⟩
theorem lw_p21 : lw_okq (⟨"WidenDesk", "carryThrough", "(IJI)I"⟩, 11) := ⟨⟨by decide +kernel, by decide +kernel⟩, List.mem_of_getElem? (i := 19) (by decide +kernel), List.mem_of_getElem? (i := 686) (by decide +kernel), List.mem_of_getElem? (i := 687) (by decide +kernel)⟩
theorem lw_p22 : lw_okq (⟨"WidenDeskModel", "readText", "()I"⟩, 47) := ⟨⟨by decide +kernel, by decide +kernel⟩, List.mem_of_getElem? (i := 791) (by decide +kernel), List.mem_of_getElem? (i := 956) (by decide +kernel), List.mem_of_getElem? (i := 957) (by decide +kernel)⟩
theorem lw_p23 : lw_okq (⟨"WidenDeskModel", "letter", "()I"⟩, 47) := ⟨⟨by decide +kernel, by decide +kernel⟩, List.mem_of_getElem? (i := 791) (by decide +kernel), List.mem_of_getElem? (i := 960) (by decide +kernel), List.mem_of_getElem? (i := 961) (by decide +kernel)⟩
theorem lw_p24 : lw_okq (⟨"WidenDeskModel", "readCell", "()Z"⟩, 47) := ⟨⟨by decide +kernel, by decide +kernel⟩, List.mem_of_getElem? (i := 791) (by decide +kernel), List.mem_of_getElem? (i := 970) (by decide +kernel), List.mem_of_getElem? (i := 971) (by decide +kernel)⟩
theorem lw_p25 : lw_okq (⟨"WidenDeskModel", "putTold", "(IIJ)V"⟩, 47) := ⟨⟨by decide +kernel, by decide +kernel⟩, List.mem_of_getElem? (i := 791) (by decide +kernel), List.mem_of_getElem? (i := 978) (by decide +kernel), List.mem_of_getElem? (i := 979) (by decide +kernel)⟩
theorem lw_p26 : lw_okq (⟨"WidenDeskModel", "readNumber", "(I)V"⟩, 47) := ⟨⟨by decide +kernel, by decide +kernel⟩, List.mem_of_getElem? (i := 791) (by decide +kernel), List.mem_of_getElem? (i := 982) (by decide +kernel), List.mem_of_getElem? (i := 983) (by decide +kernel)⟩
theorem lw_p27 : lw_okq (⟨"WidenDeskModel", "holdNew", "(I)V"⟩, 47) := ⟨⟨by decide +kernel, by decide +kernel⟩, List.mem_of_getElem? (i := 791) (by decide +kernel), List.mem_of_getElem? (i := 1024) (by decide +kernel), List.mem_of_getElem? (i := 1025) (by decide +kernel)⟩
theorem lw_p28 : lw_okq (⟨"WidenDeskModel", "note", "()V"⟩, 47) := ⟨⟨by decide +kernel, by decide +kernel⟩, List.mem_of_getElem? (i := 791) (by decide +kernel), List.mem_of_getElem? (i := 1028) (by decide +kernel), List.mem_of_getElem? (i := 1029) (by decide +kernel)⟩
theorem lw_p29 : lw_okq (⟨"WidenDeskModel", "freeRow", "()I"⟩, 47) := ⟨⟨by decide +kernel, by decide +kernel⟩, List.mem_of_getElem? (i := 791) (by decide +kernel), List.mem_of_getElem? (i := 1032) (by decide +kernel), List.mem_of_getElem? (i := 1033) (by decide +kernel)⟩
theorem lw_p30 : lw_okq (⟨"WidenDeskModel", "isHeld", "(I)Z"⟩, 47) := ⟨⟨by decide +kernel, by decide +kernel⟩, List.mem_of_getElem? (i := 791) (by decide +kernel), List.mem_of_getElem? (i := 1036) (by decide +kernel), List.mem_of_getElem? (i := 1037) (by decide +kernel)⟩
theorem lw_p31 : lw_okq (⟨"WidenDeskModel", "rowsHeld", "(I)I"⟩, 47) := ⟨⟨by decide +kernel, by decide +kernel⟩, List.mem_of_getElem? (i := 791) (by decide +kernel), List.mem_of_getElem? (i := 1044) (by decide +kernel), List.mem_of_getElem? (i := 1045) (by decide +kernel)⟩
def lw_privs_2 : List (MethodName × Nat) := [(⟨"WidenDesk", "shownCode", "(IJ)J"⟩, 11), (⟨"WidenDesk", "hold", "(IIJ)V"⟩, 11), (⟨"WidenDesk", "fetchReason", "(II)I"⟩, 11), (⟨"WidenDesk", "convertReason", "(IIII)I"⟩, 11), (⟨"WidenDesk", "convertElement", "(IIII)V"⟩, 11), (⟨"WidenDesk", "carryThrough", "(IJI)I"⟩, 11), (⟨"WidenDeskModel", "readText", "()I"⟩, 47), (⟨"WidenDeskModel", "letter", "()I"⟩, 47), (⟨"WidenDeskModel", "readCell", "()Z"⟩, 47), (⟨"WidenDeskModel", "putTold", "(IIJ)V"⟩, 47), (⟨"WidenDeskModel", "readNumber", "(I)V"⟩, 47), (⟨"WidenDeskModel", "holdNew", "(I)V"⟩, 47), (⟨"WidenDeskModel", "note", "()V"⟩, 47), (⟨"WidenDeskModel", "freeRow", "()I"⟩, 47), (⟨"WidenDeskModel", "isHeld", "(I)Z"⟩, 47), (⟨"WidenDeskModel", "rowsHeld", "(I)I"⟩, 47)]
theorem lw_r2 : ∀ q ∈ lw_privs_2, lw_okq q := List.forall_mem_cons.mpr ⟨lw_p16, List.forall_mem_cons.mpr ⟨lw_p17, List.forall_mem_cons.mpr ⟨lw_p18, List.forall_mem_cons.mpr ⟨lw_p19, List.forall_mem_cons.mpr ⟨lw_p20, List.forall_mem_cons.mpr ⟨lw_p21, List.forall_mem_cons.mpr ⟨lw_p22, List.forall_mem_cons.mpr ⟨lw_p23, List.forall_mem_cons.mpr ⟨lw_p24, List.forall_mem_cons.mpr ⟨lw_p25, List.forall_mem_cons.mpr ⟨lw_p26, List.forall_mem_cons.mpr ⟨lw_p27, List.forall_mem_cons.mpr ⟨lw_p28, List.forall_mem_cons.mpr ⟨lw_p29, List.forall_mem_cons.mpr ⟨lw_p30, List.forall_mem_cons.mpr ⟨lw_p31, fun _ h => absurd h List.not_mem_nil⟩⟩⟩⟩⟩⟩⟩⟩⟩⟩⟩⟩⟩⟩⟩⟩
theorem lw_p32 : lw_okq (⟨"WidenDeskModel", "nothings", "()I"⟩, 47) := ⟨⟨by decide +kernel, by decide +kernel⟩, List.mem_of_getElem? (i := 791) (by decide +kernel), List.mem_of_getElem? (i := 1048) (by decide +kernel), List.mem_of_getElem? (i := 1049) (by decide +kernel)⟩
theorem lw_p33 : lw_okq (⟨"WidenDeskModel", "fineOnes", "()I"⟩, 47) := ⟨⟨by decide +kernel, by decide +kernel⟩, List.mem_of_getElem? (i := 791) (by decide +kernel), List.mem_of_getElem? (i := 1052) (by decide +kernel), List.mem_of_getElem? (i := 1053) (by decide +kernel)⟩
theorem lw_p34 : lw_okq (⟨"WidenDeskModel", "holdsRow", "(I)Z"⟩, 47) := ⟨⟨by decide +kernel, by decide +kernel⟩, List.mem_of_getElem? (i := 791) (by decide +kernel), List.mem_of_getElem? (i := 1070) (by decide +kernel), List.mem_of_getElem? (i := 1071) (by decide +kernel)⟩
theorem lw_p35 : lw_okq (⟨"WidenDeskModel", "get", "(II)V"⟩, 47) := ⟨⟨by decide +kernel, by decide +kernel⟩, List.mem_of_getElem? (i := 791) (by decide +kernel), List.mem_of_getElem? (i := 1085) (by decide +kernel), List.mem_of_getElem? (i := 1086) (by decide +kernel)⟩
theorem lw_p36 : lw_okq (⟨"WidenDeskModel", "kindTold", "(IIJ)I"⟩, 47) := ⟨⟨by decide +kernel, by decide +kernel⟩, List.mem_of_getElem? (i := 791) (by decide +kernel), List.mem_of_getElem? (i := 1089) (by decide +kernel), List.mem_of_getElem? (i := 1090) (by decide +kernel)⟩
theorem lw_p37 : lw_okq (⟨"WidenDeskModel", "told", "(IJ)J"⟩, 47) := ⟨⟨by decide +kernel, by decide +kernel⟩, List.mem_of_getElem? (i := 791) (by decide +kernel), List.mem_of_getElem? (i := 1093) (by decide +kernel), List.mem_of_getElem? (i := 1094) (by decide +kernel)⟩
theorem lw_p38 : lw_okq (⟨"WidenDeskModel", "hold", "(IIJ)V"⟩, 47) := ⟨⟨by decide +kernel, by decide +kernel⟩, List.mem_of_getElem? (i := 791) (by decide +kernel), List.mem_of_getElem? (i := 1112) (by decide +kernel), List.mem_of_getElem? (i := 1113) (by decide +kernel)⟩
theorem lw_p39 : lw_okq (⟨"WidenDeskModel", "reasonToTake", "(III)I"⟩, 47) := ⟨⟨by decide +kernel, by decide +kernel⟩, List.mem_of_getElem? (i := 791) (by decide +kernel), List.mem_of_getElem? (i := 1141) (by decide +kernel), List.mem_of_getElem? (i := 1142) (by decide +kernel)⟩
theorem lw_p40 : lw_okq (⟨"WidenDeskModel", "reasonOf", "(I)I"⟩, 47) := ⟨⟨by decide +kernel, by decide +kernel⟩, List.mem_of_getElem? (i := 791) (by decide +kernel), List.mem_of_getElem? (i := 1145) (by decide +kernel), List.mem_of_getElem? (i := 1146) (by decide +kernel)⟩
theorem lw_p41 : lw_okq (⟨"WidenDeskModel", "widened", "(IJI)J"⟩, 47) := ⟨⟨by decide +kernel, by decide +kernel⟩, List.mem_of_getElem? (i := 791) (by decide +kernel), List.mem_of_getElem? (i := 1158) (by decide +kernel), List.mem_of_getElem? (i := 1159) (by decide +kernel)⟩
theorem lw_p42 : lw_okq (⟨"WidenDeskModel", "takeApart", "(IJ)V"⟩, 47) := ⟨⟨by decide +kernel, by decide +kernel⟩, List.mem_of_getElem? (i := 791) (by decide +kernel), List.mem_of_getElem? (i := 1162) (by decide +kernel), List.mem_of_getElem? (i := 1163) (by decide +kernel)⟩
theorem lw_p43 : lw_okq (⟨"WidenDeskModel", "reasonToFetch", "(II)I"⟩, 47) := ⟨⟨by decide +kernel, by decide +kernel⟩, List.mem_of_getElem? (i := 791) (by decide +kernel), List.mem_of_getElem? (i := 1170) (by decide +kernel), List.mem_of_getElem? (i := 1171) (by decide +kernel)⟩
theorem lw_p44 : lw_okq (⟨"WidenDeskModel", "reasonToLay", "(IIIIJ)I"⟩, 47) := ⟨⟨by decide +kernel, by decide +kernel⟩, List.mem_of_getElem? (i := 791) (by decide +kernel), List.mem_of_getElem? (i := 1178) (by decide +kernel), List.mem_of_getElem? (i := 1179) (by decide +kernel)⟩
theorem lw_p45 : lw_okq (⟨"WidenDeskModel", "bring", "(IIIJ)I"⟩, 47) := ⟨⟨by decide +kernel, by decide +kernel⟩, List.mem_of_getElem? (i := 791) (by decide +kernel), List.mem_of_getElem? (i := 1182) (by decide +kernel), List.mem_of_getElem? (i := 1183) (by decide +kernel)⟩
theorem lw_p46 : lw_okq (⟨"WidenDeskModel", "put", "(IIIIJ)V"⟩, 47) := ⟨⟨by decide +kernel, by decide +kernel⟩, List.mem_of_getElem? (i := 791) (by decide +kernel), List.mem_of_getElem? (i := 1186) (by decide +kernel), List.mem_of_getElem? (i := 1187) (by decide +kernel)⟩
theorem lw_p47 : lw_okq (⟨"WidenDeskModel", "holdsPlain", "(I)Z"⟩, 47) := ⟨⟨by decide +kernel, by decide +kernel⟩, List.mem_of_getElem? (i := 791) (by decide +kernel), List.mem_of_getElem? (i := 1194) (by decide +kernel), List.mem_of_getElem? (i := 1195) (by decide +kernel)⟩
def lw_privs_3 : List (MethodName × Nat) := [(⟨"WidenDeskModel", "nothings", "()I"⟩, 47), (⟨"WidenDeskModel", "fineOnes", "()I"⟩, 47), (⟨"WidenDeskModel", "holdsRow", "(I)Z"⟩, 47), (⟨"WidenDeskModel", "get", "(II)V"⟩, 47), (⟨"WidenDeskModel", "kindTold", "(IIJ)I"⟩, 47), (⟨"WidenDeskModel", "told", "(IJ)J"⟩, 47), (⟨"WidenDeskModel", "hold", "(IIJ)V"⟩, 47), (⟨"WidenDeskModel", "reasonToTake", "(III)I"⟩, 47), (⟨"WidenDeskModel", "reasonOf", "(I)I"⟩, 47), (⟨"WidenDeskModel", "widened", "(IJI)J"⟩, 47), (⟨"WidenDeskModel", "takeApart", "(IJ)V"⟩, 47), (⟨"WidenDeskModel", "reasonToFetch", "(II)I"⟩, 47), (⟨"WidenDeskModel", "reasonToLay", "(IIIIJ)I"⟩, 47), (⟨"WidenDeskModel", "bring", "(IIIJ)I"⟩, 47), (⟨"WidenDeskModel", "put", "(IIIIJ)V"⟩, 47), (⟨"WidenDeskModel", "holdsPlain", "(I)Z"⟩, 47)]
theorem lw_r3 : ∀ q ∈ lw_privs_3, lw_okq q := List.forall_mem_cons.mpr ⟨lw_p32, List.forall_mem_cons.mpr ⟨lw_p33, List.forall_mem_cons.mpr ⟨lw_p34, List.forall_mem_cons.mpr ⟨lw_p35, List.forall_mem_cons.mpr ⟨lw_p36, List.forall_mem_cons.mpr ⟨lw_p37, List.forall_mem_cons.mpr ⟨lw_p38, List.forall_mem_cons.mpr ⟨lw_p39, List.forall_mem_cons.mpr ⟨lw_p40, List.forall_mem_cons.mpr ⟨lw_p41, List.forall_mem_cons.mpr ⟨lw_p42, List.forall_mem_cons.mpr ⟨lw_p43, List.forall_mem_cons.mpr ⟨lw_p44, List.forall_mem_cons.mpr ⟨lw_p45, List.forall_mem_cons.mpr ⟨lw_p46, List.forall_mem_cons.mpr ⟨lw_p47, fun _ h => absurd h List.not_mem_nil⟩⟩⟩⟩⟩⟩⟩⟩⟩⟩⟩⟩⟩⟩⟩⟩
theorem lw_p48 : lw_okq (⟨"WidenDeskModel", "convertCell", "(IIII)I"⟩, 47) := ⟨⟨by decide +kernel, by decide +kernel⟩, List.mem_of_getElem? (i := 791) (by decide +kernel), List.mem_of_getElem? (i := 1205) (by decide +kernel), List.mem_of_getElem? (i := 1206) (by decide +kernel)⟩
theorem lw_p49 : lw_okq (⟨"WidenDeskModel", "isOne", "(IJI)Z"⟩, 47) := ⟨⟨by decide +kernel, by decide +kernel⟩, List.mem_of_getElem? (i := 791) (by decide +kernel), List.mem_of_getElem? (i := 1209) (by decide +kernel), List.mem_of_getElem? (i := 1210) (by decide +kernel)⟩
theorem lw_p50 : lw_okq (⟨"WidenDeskModel", "asOne", "(IJI)J"⟩, 47) := ⟨⟨by decide +kernel, by decide +kernel⟩, List.mem_of_getElem? (i := 791) (by decide +kernel), List.mem_of_getElem? (i := 1213) (by decide +kernel), List.mem_of_getElem? (i := 1214) (by decide +kernel)⟩
theorem lw_p51 : lw_okq (⟨"WidenDeskModel", "addEnd", "(IJ)V"⟩, 47) := ⟨⟨by decide +kernel, by decide +kernel⟩, List.mem_of_getElem? (i := 791) (by decide +kernel), List.mem_of_getElem? (i := 1239) (by decide +kernel), List.mem_of_getElem? (i := 1240) (by decide +kernel)⟩
theorem lw_p52 : lw_okq (⟨"WidenDeskModel", "joinCells", "(I)V"⟩, 47) := ⟨⟨by decide +kernel, by decide +kernel⟩, List.mem_of_getElem? (i := 791) (by decide +kernel), List.mem_of_getElem? (i := 1261) (by decide +kernel), List.mem_of_getElem? (i := 1262) (by decide +kernel)⟩
theorem lw_p53 : lw_okq (⟨"WidenDeskModel", "areAlike", "(II)Z"⟩, 47) := ⟨⟨by decide +kernel, by decide +kernel⟩, List.mem_of_getElem? (i := 791) (by decide +kernel), List.mem_of_getElem? (i := 1274) (by decide +kernel), List.mem_of_getElem? (i := 1275) (by decide +kernel)⟩
theorem lw_p54 : lw_okq (⟨"WidenDeskModel", "areSame", "(II)Z"⟩, 47) := ⟨⟨by decide +kernel, by decide +kernel⟩, List.mem_of_getElem? (i := 791) (by decide +kernel), List.mem_of_getElem? (i := 1282) (by decide +kernel), List.mem_of_getElem? (i := 1283) (by decide +kernel)⟩
theorem lw_p55 : lw_okq (⟨"WidenDeskModel", "reasonBy", "(III)I"⟩, 47) := ⟨⟨by decide +kernel, by decide +kernel⟩, List.mem_of_getElem? (i := 791) (by decide +kernel), List.mem_of_getElem? (i := 1304) (by decide +kernel), List.mem_of_getElem? (i := 1305) (by decide +kernel)⟩
def lw_privs_4 : List (MethodName × Nat) := [(⟨"WidenDeskModel", "convertCell", "(IIII)I"⟩, 47), (⟨"WidenDeskModel", "isOne", "(IJI)Z"⟩, 47), (⟨"WidenDeskModel", "asOne", "(IJI)J"⟩, 47), (⟨"WidenDeskModel", "addEnd", "(IJ)V"⟩, 47), (⟨"WidenDeskModel", "joinCells", "(I)V"⟩, 47), (⟨"WidenDeskModel", "areAlike", "(II)Z"⟩, 47), (⟨"WidenDeskModel", "areSame", "(II)Z"⟩, 47), (⟨"WidenDeskModel", "reasonBy", "(III)I"⟩, 47)]
theorem lw_r4 : ∀ q ∈ lw_privs_4, lw_okq q := List.forall_mem_cons.mpr ⟨lw_p48, List.forall_mem_cons.mpr ⟨lw_p49, List.forall_mem_cons.mpr ⟨lw_p50, List.forall_mem_cons.mpr ⟨lw_p51, List.forall_mem_cons.mpr ⟨lw_p52, List.forall_mem_cons.mpr ⟨lw_p53, List.forall_mem_cons.mpr ⟨lw_p54, List.forall_mem_cons.mpr ⟨lw_p55, fun _ h => absurd h List.not_mem_nil⟩⟩⟩⟩⟩⟩⟩⟩
def lw_privs : List (MethodName × Nat) := lw_privs_1 ++ (lw_privs_2 ++ (lw_privs_3 ++ (lw_privs_4)))
def lw_tbl : List Cond := k2_sels lw_privs ++ tables_1
theorem lw_privs_ok : ∀ q ∈ lw_privs, lw_okq q := by
  show ∀ q ∈ lw_privs_1 ++ (lw_privs_2 ++ (lw_privs_3 ++ (lw_privs_4))), lw_okq q
  exact List.forall_mem_append.mpr ⟨lw_r1, List.forall_mem_append.mpr ⟨lw_r2, List.forall_mem_append.mpr ⟨lw_r3, lw_r4⟩⟩⟩

def RX0 : String := "WidenDesk$Log"
def TX0 : u_T := fun k => match k with
  | 0 => ("WidenDesk$Log", "sorts", "[I", true)
  | 1 => ("WidenDesk$Log", "spots", "[I", true)
  | 2 => ("WidenDesk$Log", "rows", "[I", true)
  | 3 => ("WidenDesk$Log", "numbers", "[I", true)
  | 4 => ("WidenDesk$Log", "types", "[I", true)
  | 5 => ("WidenDesk$Log", "codes", "[J", true)
  | 6 => ("WidenDesk$Log", "next", "I", false)
  | _ => ("WidenDesk$Log", "kept", "I", false)
def tyX0 : Nat → FieldType := fun k => match k with
  | 0 => .array .int
  | 1 => .array .int
  | 2 => .array .int
  | 3 => .array .int
  | 4 => .array .int
  | 5 => .array .long
  | 6 => .int
  | _ => .int
abbrev wsX00 : List Cond := u_ws RX0 TX0 8
theorem nmX0 : ∀ a, a < 8 → ∀ b, b < 8 → a ≠ b → (TX0 a).2.1 ≠ (TX0 b).2.1 := by decide +kernel
theorem tyX0_ok : ∀ k, k < 8 → parseFieldDescriptor (TX0 k).2.2.1 = some (tyX0 k) := by decide +kernel
abbrev cX0_init : ByteArray := prog_2_method_1_code
def yX0_init : MethodName := ⟨RX0, "<init>", "()V"⟩
abbrev cX0_keepSlot : ByteArray := prog_2_method_2_code
def yX0_keepSlot : MethodName := ⟨RX0, "keepSlot", "(II)V"⟩
abbrev cX0_keepNumber : ByteArray := prog_2_method_3_code
def yX0_keepNumber : MethodName := ⟨RX0, "keepNumber", "(II)V"⟩
abbrev cX0_keepCells : ByteArray := prog_2_method_4_code
def yX0_keepCells : MethodName := ⟨RX0, "keepCells", "(ILWidenDesk$Shelf;)V"⟩
abbrev cX0_restoreCells : ByteArray := prog_2_method_5_code
def yX0_restoreCells : MethodName := ⟨RX0, "restoreCells", "(ILWidenDesk$Shelf;)V"⟩
abbrev cX0_removeLatest : ByteArray := prog_2_method_6_code
def yX0_removeLatest : MethodName := ⟨RX0, "removeLatest", "()I"⟩
abbrev cX0_holds : ByteArray := prog_2_method_7_code
def yX0_holds : MethodName := ⟨RX0, "holds", "(I)Z"⟩
abbrev cX0_add : ByteArray := prog_2_method_8_code
def yX0_add : MethodName := ⟨RX0, "add", "(IIII)I"⟩
abbrev cX0_before : ByteArray := prog_2_method_9_code
def yX0_before : MethodName := ⟨RX0, "before", "(I)I"⟩
def RX1 : String := "WidenDesk$Marks"
def TX1 : u_T := fun k => match k with
  | 0 => ("WidenDesk$Marks", "numbers", "[I", true)
  | _ => ("WidenDesk$Marks", "count", "I", false)
def tyX1 : Nat → FieldType := fun k => match k with
  | 0 => .array .int
  | _ => .int
abbrev wsX10 : List Cond := u_ws RX1 TX1 2
theorem nmX1 : ∀ a, a < 2 → ∀ b, b < 2 → a ≠ b → (TX1 a).2.1 ≠ (TX1 b).2.1 := by decide +kernel
theorem tyX1_ok : ∀ k, k < 2 → parseFieldDescriptor (TX1 k).2.2.1 = some (tyX1 k) := by decide +kernel
abbrev cX1_init : ByteArray := prog_3_method_1_code
def yX1_init : MethodName := ⟨RX1, "<init>", "()V"⟩
abbrev cX1_isFull : ByteArray := prog_3_method_2_code
def yX1_isFull : MethodName := ⟨RX1, "isFull", "()Z"⟩
abbrev cX1_create : ByteArray := prog_3_method_3_code
def yX1_create : MethodName := ⟨RX1, "create", "(I)I"⟩
abbrev cX1_numberOf : ByteArray := prog_3_method_4_code
def yX1_numberOf : MethodName := ⟨RX1, "numberOf", "(I)I"⟩
abbrev cX1_setNumber : ByteArray := prog_3_method_5_code
def yX1_setNumber : MethodName := ⟨RX1, "setNumber", "(II)V"⟩
def RX2 : String := "WidenDesk$Numbers"
def TX2 : u_T := fun k => match k with
  | _ => ("", "", "", false)
def tyX2 : Nat → FieldType := fun k => match k with
  | _ => .int
abbrev wsX20 : List Cond := u_ws RX2 TX2 0
theorem nmX2 : ∀ a, a < 0 → ∀ b, b < 0 → a ≠ b → (TX2 a).2.1 ≠ (TX2 b).2.1 := by decide +kernel
theorem tyX2_ok : ∀ k, k < 0 → parseFieldDescriptor (TX2 k).2.2.1 = some (tyX2 k) := by decide +kernel
abbrev cX2_widens : ByteArray := prog_4_method_2_code
def yX2_widens : MethodName := ⟨RX2, "widens", "(II)Z"⟩
abbrev cX2_targets : ByteArray := prog_4_method_3_code
def yX2_targets : MethodName := ⟨RX2, "targets", "(I)I"⟩
abbrev cX2_leastOf : ByteArray := prog_4_method_4_code
def yX2_leastOf : MethodName := ⟨RX2, "leastOf", "(I)I"⟩
abbrev cX2_leastOfTwo : ByteArray := prog_4_method_5_code
def yX2_leastOfTwo : MethodName := ⟨RX2, "leastOfTwo", "(II)I"⟩
abbrev cX2_countChains : ByteArray := prog_4_method_6_code
def yX2_countChains : MethodName := ⟨RX2, "countChains", "(III)I"⟩
abbrev cX2_countEnds : ByteArray := prog_4_method_7_code
def yX2_countEnds : MethodName := ⟨RX2, "countEnds", "(JII)I"⟩
abbrev cX2_made : ByteArray := prog_4_method_8_code
def yX2_made : MethodName := ⟨RX2, "made", "(IJ)J"⟩
abbrev cX2_ofWhole : ByteArray := prog_4_method_9_code
def yX2_ofWhole : MethodName := ⟨RX2, "ofWhole", "(IJ)J"⟩
abbrev cX2_widened : ByteArray := prog_4_method_10_code
def yX2_widened : MethodName := ⟨RX2, "widened", "(JII)J"⟩
abbrev cX2_hasNumber : ByteArray := prog_4_method_11_code
def yX2_hasNumber : MethodName := ⟨RX2, "hasNumber", "(JII)Z"⟩
abbrev cX2_sameNumber : ByteArray := prog_4_method_12_code
def yX2_sameNumber : MethodName := ⟨RX2, "sameNumber", "(JII)J"⟩
abbrev cX2_lowest : ByteArray := prog_4_method_13_code
def yX2_lowest : MethodName := ⟨RX2, "lowest", "(I)J"⟩
abbrev cX2_highest : ByteArray := prog_4_method_14_code
def yX2_highest : MethodName := ⟨RX2, "highest", "(I)J"⟩
abbrev cX2_isBetween : ByteArray := prog_4_method_15_code
def yX2_isBetween : MethodName := ⟨RX2, "isBetween", "(JI)Z"⟩
abbrev cX2_isWhole : ByteArray := prog_4_method_16_code
def yX2_isWhole : MethodName := ⟨RX2, "isWhole", "(JIJ)Z"⟩
abbrev cX2_asDouble : ByteArray := prog_4_method_17_code
def yX2_asDouble : MethodName := ⟨RX2, "asDouble", "(JI)J"⟩
abbrev cX2_nearest : ByteArray := prog_4_method_18_code
def yX2_nearest : MethodName := ⟨RX2, "nearest", "(IJI)J"⟩
abbrev cX2_signedFloat : ByteArray := prog_4_method_19_code
def yX2_signedFloat : MethodName := ⟨RX2, "signedFloat", "(ZJ)J"⟩
abbrev cX2_signedDouble : ByteArray := prog_4_method_20_code
def yX2_signedDouble : MethodName := ⟨RX2, "signedDouble", "(ZJ)J"⟩
abbrev cX2_rounded : ByteArray := prog_4_method_21_code
def yX2_rounded : MethodName := ⟨RX2, "rounded", "(JIII)J"⟩
abbrev cX2_doubleOfFloat : ByteArray := prog_4_method_22_code
def yX2_doubleOfFloat : MethodName := ⟨RX2, "doubleOfFloat", "(J)J"⟩
abbrev cX2_floatOfDouble : ByteArray := prog_4_method_23_code
def yX2_floatOfDouble : MethodName := ⟨RX2, "floatOfDouble", "(J)J"⟩
abbrev cX2_hasWhole : ByteArray := prog_4_method_24_code
def yX2_hasWhole : MethodName := ⟨RX2, "hasWhole", "(J)Z"⟩
abbrev cX2_wholeOf : ByteArray := prog_4_method_25_code
def yX2_wholeOf : MethodName := ⟨RX2, "wholeOf", "(J)J"⟩
abbrev cX2_exponentOf : ByteArray := prog_4_method_26_code
def yX2_exponentOf : MethodName := ⟨RX2, "exponentOf", "(J)I"⟩
abbrev cX2_significand : ByteArray := prog_4_method_27_code
def yX2_significand : MethodName := ⟨RX2, "significand", "(J)J"⟩
def RX3 : String := "WidenDesk$Reader"
def TX3 : u_T := fun k => match k with
  | 0 => ("WidenDesk$Reader", "letters", "[I", true)
  | 1 => ("WidenDesk$Reader", "length", "I", false)
  | 2 => ("WidenDesk$Reader", "arrayType", "I", false)
  | 3 => ("WidenDesk$Reader", "count", "I", false)
  | 4 => ("WidenDesk$Reader", "types", "[I", true)
  | 5 => ("WidenDesk$Reader", "numbers", "[J", true)
  | _ => ("WidenDesk$Reader", "next", "I", false)
def tyX3 : Nat → FieldType := fun k => match k with
  | 0 => .array .int
  | 1 => .int
  | 2 => .int
  | 3 => .int
  | 4 => .array .int
  | 5 => .array .long
  | _ => .int
abbrev wsX30 : List Cond := u_ws RX3 TX3 7
theorem nmX3 : ∀ a, a < 7 → ∀ b, b < 7 → a ≠ b → (TX3 a).2.1 ≠ (TX3 b).2.1 := by decide +kernel
theorem tyX3_ok : ∀ k, k < 7 → parseFieldDescriptor (TX3 k).2.2.1 = some (tyX3 k) := by decide +kernel
abbrev cX3_init : ByteArray := prog_5_method_1_code
def yX3_init : MethodName := ⟨RX3, "<init>", "()V"⟩
abbrev cX3_append : ByteArray := prog_5_method_2_code
def yX3_append : MethodName := ⟨RX3, "append", "(I)Z"⟩
abbrev cX3_scan : ByteArray := prog_5_method_3_code
def yX3_scan : MethodName := ⟨RX3, "scan", "()I"⟩
abbrev cX3_letter : ByteArray := prog_5_method_4_code
def yX3_letter : MethodName := ⟨RX3, "letter", "()I"⟩
abbrev cX3_skip : ByteArray := prog_5_method_5_code
def yX3_skip : MethodName := ⟨RX3, "skip", "(C)Z"⟩
abbrev cX3_arrayTypeOf : ByteArray := prog_5_method_6_code
def yX3_arrayTypeOf : MethodName := ⟨RX3, "arrayTypeOf", "(I)I"⟩
abbrev cX3_primitiveOf : ByteArray := prog_5_method_7_code
def yX3_primitiveOf : MethodName := ⟨RX3, "primitiveOf", "(I)I"⟩
abbrev cX3_readElement : ByteArray := prog_5_method_8_code
def yX3_readElement : MethodName := ⟨RX3, "readElement", "()Z"⟩
abbrev cX3_readNumber : ByteArray := prog_5_method_9_code
def yX3_readNumber : MethodName := ⟨RX3, "readNumber", "(I)Z"⟩
abbrev cX3_isDigit : ByteArray := prog_5_method_10_code
def yX3_isDigit : MethodName := ⟨RX3, "isDigit", "(I)Z"⟩
abbrev cX3_keep : ByteArray := prog_5_method_11_code
def yX3_keep : MethodName := ⟨RX3, "keep", "(IJ)V"⟩
def RX4 : String := "WidenDesk$Rules"
def TX4 : u_T := fun k => match k with
  | _ => ("", "", "", false)
def tyX4 : Nat → FieldType := fun k => match k with
  | _ => .int
abbrev wsX40 : List Cond := u_ws RX4 TX4 0
theorem nmX4 : ∀ a, a < 0 → ∀ b, b < 0 → a ≠ b → (TX4 a).2.1 ≠ (TX4 b).2.1 := by decide +kernel
theorem tyX4_ok : ∀ k, k < 0 → parseFieldDescriptor (TX4 k).2.2.1 = some (tyX4 k) := by decide +kernel
abbrev cX4_isMark : ByteArray := prog_6_method_2_code
def yX4_isMark : MethodName := ⟨RX4, "isMark", "(I)Z"⟩
abbrev cX4_isNumeric : ByteArray := prog_6_method_3_code
def yX4_isNumeric : MethodName := ⟨RX4, "isNumeric", "(I)Z"⟩
abbrev cX4_fetchedForm : ByteArray := prog_6_method_4_code
def yX4_fetchedForm : MethodName := ⟨RX4, "fetchedForm", "(I)I"⟩
abbrev cX4_fetchFit : ByteArray := prog_6_method_5_code
def yX4_fetchFit : MethodName := ⟨RX4, "fetchFit", "(I)I"⟩
abbrev cX4_getFit : ByteArray := prog_6_method_6_code
def yX4_getFit : MethodName := ⟨RX4, "getFit", "(II)I"⟩
abbrev cX4_putFit : ByteArray := prog_6_method_7_code
def yX4_putFit : MethodName := ⟨RX4, "putFit", "(III)I"⟩
abbrev cX4_accepts : ByteArray := prog_6_method_8_code
def yX4_accepts : MethodName := ⟨RX4, "accepts", "(II)Z"⟩
abbrev cX4_placed : ByteArray := prog_6_method_9_code
def yX4_placed : MethodName := ⟨RX4, "placed", "(IZ)I"⟩
abbrev cX4_joinedType : ByteArray := prog_6_method_10_code
def yX4_joinedType : MethodName := ⟨RX4, "joinedType", "(II)I"⟩
def RX5 : String := "WidenDesk$Shelf"
def TX5 : u_T := fun k => match k with
  | 0 => ("WidenDesk$Shelf", "things", "[I", true)
  | 1 => ("WidenDesk$Shelf", "lengths", "[I", true)
  | 2 => ("WidenDesk$Shelf", "types", "[I", true)
  | _ => ("WidenDesk$Shelf", "codes", "[J", true)
def tyX5 : Nat → FieldType := fun k => match k with
  | 0 => .array .int
  | 1 => .array .int
  | 2 => .array .int
  | _ => .array .long
abbrev wsX50 : List Cond := u_ws RX5 TX5 4
theorem nmX5 : ∀ a, a < 4 → ∀ b, b < 4 → a ≠ b → (TX5 a).2.1 ≠ (TX5 b).2.1 := by decide +kernel
theorem tyX5_ok : ∀ k, k < 4 → parseFieldDescriptor (TX5 k).2.2.1 = some (tyX5 k) := by decide +kernel
abbrev cX5_init : ByteArray := prog_7_method_1_code
def yX5_init : MethodName := ⟨RX5, "<init>", "()V"⟩
abbrev cX5_prepare : ByteArray := prog_7_method_2_code
def yX5_prepare : MethodName := ⟨RX5, "prepare", "(III)V"⟩
abbrev cX5_has : ByteArray := prog_7_method_3_code
def yX5_has : MethodName := ⟨RX5, "has", "(II)Z"⟩
abbrev cX5_typeAt : ByteArray := prog_7_method_4_code
def yX5_typeAt : MethodName := ⟨RX5, "typeAt", "(II)I"⟩
abbrev cX5_codeAt : ByteArray := prog_7_method_5_code
def yX5_codeAt : MethodName := ⟨RX5, "codeAt", "(II)J"⟩
abbrev cX5_set : ByteArray := prog_7_method_6_code
def yX5_set : MethodName := ⟨RX5, "set", "(IIIJ)V"⟩
abbrev cX5_put : ByteArray := prog_7_method_7_code
def yX5_put : MethodName := ⟨RX5, "put", "(IIIJ)V"⟩
abbrev cX5_putAll : ByteArray := prog_7_method_8_code
def yX5_putAll : MethodName := ⟨RX5, "putAll", "(IIIII)V"⟩
abbrev cX5_agree : ByteArray := prog_7_method_9_code
def yX5_agree : MethodName := ⟨RX5, "agree", "(III)Z"⟩
abbrev cX5_stoodBefore : ByteArray := prog_7_method_10_code
def yX5_stoodBefore : MethodName := ⟨RX5, "stoodBefore", "(II)Z"⟩
def RX6 : String := "WidenDesk$Views"
def TX6 : u_T := fun k => match k with
  | 0 => ("WidenDesk$Views", "ways", "[I", true)
  | 1 => ("WidenDesk$Views", "kinds", "[I", true)
  | 2 => ("WidenDesk$Views", "outcomes", "[I", true)
  | _ => ("WidenDesk$Views", "count", "I", false)
def tyX6 : Nat → FieldType := fun k => match k with
  | 0 => .array .int
  | 1 => .array .int
  | 2 => .array .int
  | _ => .int
abbrev wsX60 : List Cond := u_ws RX6 TX6 4
theorem nmX6 : ∀ a, a < 4 → ∀ b, b < 4 → a ≠ b → (TX6 a).2.1 ≠ (TX6 b).2.1 := by decide +kernel
theorem tyX6_ok : ∀ k, k < 4 → parseFieldDescriptor (TX6 k).2.2.1 = some (tyX6 k) := by decide +kernel
abbrev cX6_init : ByteArray := prog_8_method_1_code
def yX6_init : MethodName := ⟨RX6, "<init>", "()V"⟩
abbrev cX6_add : ByteArray := prog_8_method_2_code
def yX6_add : MethodName := ⟨RX6, "add", "(III)Z"⟩
abbrev cX6_allow : ByteArray := prog_8_method_3_code
def yX6_allow : MethodName := ⟨RX6, "allow", "(I)Z"⟩
abbrev cX6_expected : ByteArray := prog_8_method_4_code
def yX6_expected : MethodName := ⟨RX6, "expected", "(III)I"⟩
def RX7 : String := "WidenDesk"
def TX7 : u_T := fun k => match k with
  | 0 => ("WidenDesk", "reader", "LWidenDesk$Reader;", true)
  | 1 => ("WidenDesk", "shelf", "LWidenDesk$Shelf;", true)
  | 2 => ("WidenDesk", "log", "LWidenDesk$Log;", true)
  | 3 => ("WidenDesk", "marks", "LWidenDesk$Marks;", true)
  | 4 => ("WidenDesk", "views", "LWidenDesk$Views;", true)
  | 5 => ("WidenDesk", "slots", "[I", true)
  | 6 => ("WidenDesk", "reasons", "[I", true)
  | 7 => ("WidenDesk", "reasonCount", "I", false)
  | 8 => ("WidenDesk", "handForm", "I", false)
  | 9 => ("WidenDesk", "handType", "I", false)
  | _ => ("WidenDesk", "handCode", "J", false)
def tyX7 : Nat → FieldType := fun k => match k with
  | 0 => .object "WidenDesk$Reader"
  | 1 => .object "WidenDesk$Shelf"
  | 2 => .object "WidenDesk$Log"
  | 3 => .object "WidenDesk$Marks"
  | 4 => .object "WidenDesk$Views"
  | 5 => .array .int
  | 6 => .array .int
  | 7 => .int
  | 8 => .int
  | 9 => .int
  | _ => .long
abbrev wsX70 : List Cond := u_ws RX7 TX7 11
theorem nmX7 : ∀ a, a < 11 → ∀ b, b < 11 → a ≠ b → (TX7 a).2.1 ≠ (TX7 b).2.1 := by decide +kernel
theorem tyX7_ok : ∀ k, k < 11 → parseFieldDescriptor (TX7 k).2.2.1 = some (tyX7 k) := by decide +kernel
abbrev cX7_init : ByteArray := prog_1_method_1_code
def yX7_init : MethodName := ⟨RX7, "<init>", "()V"⟩
abbrev cX7_write : ByteArray := prog_1_method_2_code
def yX7_write : MethodName := ⟨RX7, "write", "(I)I"⟩
abbrev cX7_wipe : ByteArray := prog_1_method_3_code
def yX7_wipe : MethodName := ⟨RX7, "wipe", "()I"⟩
abbrev cX7_fault : ByteArray := prog_1_method_4_code
def yX7_fault : MethodName := ⟨RX7, "fault", "()I"⟩
abbrev cX7_tell : ByteArray := prog_1_method_5_code
def yX7_tell : MethodName := ⟨RX7, "tell", "(I)I"⟩
abbrev cX7_about : ByteArray := prog_1_method_6_code
def yX7_about : MethodName := ⟨RX7, "about", "(I)I"⟩
abbrev cX7_make : ByteArray := prog_1_method_7_code
def yX7_make : MethodName := ⟨RX7, "make", "(III)I"⟩
abbrev cX7_share : ByteArray := prog_1_method_8_code
def yX7_share : MethodName := ⟨RX7, "share", "(II)I"⟩
abbrev cX7_thing : ByteArray := prog_1_method_9_code
def yX7_thing : MethodName := ⟨RX7, "thing", "(II)I"⟩
abbrev cX7_same : ByteArray := prog_1_method_10_code
def yX7_same : MethodName := ⟨RX7, "same", "(II)I"⟩
abbrev cX7_cell : ByteArray := prog_1_method_11_code
def yX7_cell : MethodName := ⟨RX7, "cell", "(III)J"⟩
abbrev cX7_give : ByteArray := prog_1_method_12_code
def yX7_give : MethodName := ⟨RX7, "give", "(IJ)I"⟩
abbrev cX7_mark : ByteArray := prog_1_method_13_code
def yX7_mark : MethodName := ⟨RX7, "mark", "(II)I"⟩
abbrev cX7_text : ByteArray := prog_1_method_14_code
def yX7_text : MethodName := ⟨RX7, "text", "(I)I"⟩
abbrev cX7_turn : ByteArray := prog_1_method_15_code
def yX7_turn : MethodName := ⟨RX7, "turn", "()I"⟩
abbrev cX7_hand : ByteArray := prog_1_method_16_code
def yX7_hand : MethodName := ⟨RX7, "hand", "(I)J"⟩
abbrev cX7_grow : ByteArray := prog_1_method_17_code
def yX7_grow : MethodName := ⟨RX7, "grow", "(I)I"⟩
abbrev cX7_take : ByteArray := prog_1_method_18_code
def yX7_take : MethodName := ⟨RX7, "take", "(III)I"⟩
abbrev cX7_fetch : ByteArray := prog_1_method_19_code
def yX7_fetch : MethodName := ⟨RX7, "fetch", "(II)I"⟩
abbrev cX7_lay : ByteArray := prog_1_method_20_code
def yX7_lay : MethodName := ⟨RX7, "lay", "(II)I"⟩
abbrev cX7_scatter : ByteArray := prog_1_method_21_code
def yX7_scatter : MethodName := ⟨RX7, "scatter", "(IJ)I"⟩
abbrev cX7_convert : ByteArray := prog_1_method_22_code
def yX7_convert : MethodName := ⟨RX7, "convert", "(III)I"⟩
abbrev cX7_report : ByteArray := prog_1_method_23_code
def yX7_report : MethodName := ⟨RX7, "report", "(I)I"⟩
abbrev cX7_chains : ByteArray := prog_1_method_24_code
def yX7_chains : MethodName := ⟨RX7, "chains", "(II)I"⟩
abbrev cX7_carry : ByteArray := prog_1_method_25_code
def yX7_carry : MethodName := ⟨RX7, "carry", "(III)I"⟩
abbrev cX7_ends : ByteArray := prog_1_method_26_code
def yX7_ends : MethodName := ⟨RX7, "ends", "(III)I"⟩
abbrev cX7_least : ByteArray := prog_1_method_27_code
def yX7_least : MethodName := ⟨RX7, "least", "(I)I"⟩
abbrev cX7_join : ByteArray := prog_1_method_28_code
def yX7_join : MethodName := ⟨RX7, "join", "(III)I"⟩
abbrev cX7_cut : ByteArray := prog_1_method_29_code
def yX7_cut : MethodName := ⟨RX7, "cut", "(III)I"⟩
abbrev cX7_alike : ByteArray := prog_1_method_30_code
def yX7_alike : MethodName := ⟨RX7, "alike", "(II)I"⟩
abbrev cX7_unlike : ByteArray := prog_1_method_31_code
def yX7_unlike : MethodName := ⟨RX7, "unlike", "(I)I"⟩
abbrev cX7_total : ByteArray := prog_1_method_32_code
def yX7_total : MethodName := ⟨RX7, "total", "(II)I"⟩
abbrev cX7_see : ByteArray := prog_1_method_33_code
def yX7_see : MethodName := ⟨RX7, "see", "(III)I"⟩
abbrev cX7_unsee : ByteArray := prog_1_method_34_code
def yX7_unsee : MethodName := ⟨RX7, "unsee", "()I"⟩
abbrev cX7_which : ByteArray := prog_1_method_35_code
def yX7_which : MethodName := ⟨RX7, "which", "()I"⟩
abbrev cX7_undo : ByteArray := prog_1_method_36_code
def yX7_undo : MethodName := ⟨RX7, "undo", "()I"⟩
abbrev cX7_isSlot : ByteArray := prog_1_method_37_code
def yX7_isSlot : MethodName := ⟨RX7, "isSlot", "(I)Z"⟩
abbrev cX7_isPrimitive : ByteArray := prog_1_method_38_code
def yX7_isPrimitive : MethodName := ⟨RX7, "isPrimitive", "(I)Z"⟩
abbrev cX7_isMarkNumber : ByteArray := prog_1_method_39_code
def yX7_isMarkNumber : MethodName := ⟨RX7, "isMarkNumber", "(I)Z"⟩
abbrev cX7_isWay : ByteArray := prog_1_method_40_code
def yX7_isWay : MethodName := ⟨RX7, "isWay", "(I)Z"⟩
abbrev cX7_thingIn : ByteArray := prog_1_method_41_code
def yX7_thingIn : MethodName := ⟨RX7, "thingIn", "(I)I"⟩
abbrev cX7_holdsArray : ByteArray := prog_1_method_42_code
def yX7_holdsArray : MethodName := ⟨RX7, "holdsArray", "(I)Z"⟩
abbrev cX7_hold : ByteArray := prog_1_method_43_code
def yX7_hold : MethodName := ⟨RX7, "hold", "(IIJ)V"⟩
abbrev cX7_shownCode : ByteArray := prog_1_method_44_code
def yX7_shownCode : MethodName := ⟨RX7, "shownCode", "(IJ)J"⟩
abbrev cX7_markIndex : ByteArray := prog_1_method_45_code
def yX7_markIndex : MethodName := ⟨RX7, "markIndex", "(IJ)J"⟩
abbrev cX7_fetchReason : ByteArray := prog_1_method_46_code
def yX7_fetchReason : MethodName := ⟨RX7, "fetchReason", "(II)I"⟩
abbrev cX7_replace : ByteArray := prog_1_method_47_code
def yX7_replace : MethodName := ⟨RX7, "replace", "(II)V"⟩
abbrev cX7_newRow : ByteArray := prog_1_method_48_code
def yX7_newRow : MethodName := ⟨RX7, "newRow", "(II)I"⟩
abbrev cX7_freeRow : ByteArray := prog_1_method_49_code
def yX7_freeRow : MethodName := ⟨RX7, "freeRow", "()I"⟩
abbrev cX7_isInSlots : ByteArray := prog_1_method_50_code
def yX7_isInSlots : MethodName := ⟨RX7, "isInSlots", "(I)Z"⟩
abbrev cX7_firstSlotOf : ByteArray := prog_1_method_51_code
def yX7_firstSlotOf : MethodName := ⟨RX7, "firstSlotOf", "(I)I"⟩
abbrev cX7_countArrays : ByteArray := prog_1_method_52_code
def yX7_countArrays : MethodName := ⟨RX7, "countArrays", "(Z)I"⟩
abbrev cX7_countEmptySlots : ByteArray := prog_1_method_53_code
def yX7_countEmptySlots : MethodName := ⟨RX7, "countEmptySlots", "()I"⟩
abbrev cX7_countFine : ByteArray := prog_1_method_54_code
def yX7_countFine : MethodName := ⟨RX7, "countFine", "()I"⟩
abbrev cX7_convertReason : ByteArray := prog_1_method_55_code
def yX7_convertReason : MethodName := ⟨RX7, "convertReason", "(IIII)I"⟩
abbrev cX7_convertElement : ByteArray := prog_1_method_56_code
def yX7_convertElement : MethodName := ⟨RX7, "convertElement", "(IIII)V"⟩
abbrev cX7_carryThrough : ByteArray := prog_1_method_57_code
def yX7_carryThrough : MethodName := ⟨RX7, "carryThrough", "(IJI)I"⟩
def RX8 : String := "WidenDeskModel"
def TX8 : u_T := fun k => match k with
  | 0 => ("WidenDeskModel", "text", "[I", true)
  | 1 => ("WidenDeskModel", "length", "I", false)
  | 2 => ("WidenDeskModel", "thing", "[I", true)
  | 3 => ("WidenDeskModel", "rowOf", "[I", true)
  | 4 => ("WidenDeskModel", "kindOf", "[I", true)
  | 5 => ("WidenDeskModel", "size", "[I", true)
  | 6 => ("WidenDeskModel", "form", "[I", true)
  | 7 => ("WidenDeskModel", "kind", "[I", true)
  | 8 => ("WidenDeskModel", "value", "[J", true)
  | 9 => ("WidenDeskModel", "number", "[I", true)
  | 10 => ("WidenDeskModel", "isStar", "[Z", true)
  | 11 => ("WidenDeskModel", "marks", "I", false)
  | 12 => ("WidenDeskModel", "handForm", "I", false)
  | 13 => ("WidenDeskModel", "handKind", "I", false)
  | 14 => ("WidenDeskModel", "handValue", "J", false)
  | 15 => ("WidenDeskModel", "reports", "[I", true)
  | 16 => ("WidenDeskModel", "reported", "I", false)
  | 17 => ("WidenDeskModel", "oldThing", "[I", true)
  | 18 => ("WidenDeskModel", "oldRow", "[I", true)
  | 19 => ("WidenDeskModel", "oldKindOf", "[I", true)
  | 20 => ("WidenDeskModel", "oldSize", "[I", true)
  | 21 => ("WidenDeskModel", "oldForm", "[I", true)
  | 22 => ("WidenDeskModel", "oldKind", "[I", true)
  | 23 => ("WidenDeskModel", "oldValue", "[J", true)
  | 24 => ("WidenDeskModel", "oldNumber", "[I", true)
  | 25 => ("WidenDeskModel", "oldMarks", "[I", true)
  | 26 => ("WidenDeskModel", "doings", "I", false)
  | 27 => ("WidenDeskModel", "next", "I", false)
  | 28 => ("WidenDeskModel", "seenHow", "[I", true)
  | 29 => ("WidenDeskModel", "seenKind", "[I", true)
  | 30 => ("WidenDeskModel", "seenReason", "[I", true)
  | 31 => ("WidenDeskModel", "seen", "I", false)
  | 32 => ("WidenDeskModel", "newKind", "I", false)
  | 33 => ("WidenDeskModel", "newSize", "I", false)
  | 34 => ("WidenDeskModel", "newForm", "[I", true)
  | 35 => ("WidenDeskModel", "newCellKind", "[I", true)
  | 36 => ("WidenDeskModel", "newValue", "[J", true)
  | 37 => ("WidenDeskModel", "gotForm", "I", false)
  | 38 => ("WidenDeskModel", "gotKind", "I", false)
  | 39 => ("WidenDeskModel", "gotValue", "J", false)
  | 40 => ("WidenDeskModel", "ends", "[J", true)
  | 41 => ("WidenDeskModel", "manyEnds", "[I", true)
  | 42 => ("WidenDeskModel", "whole", "J", false)
  | 43 => ("WidenDeskModel", "power", "I", false)
  | 44 => ("WidenDeskModel", "at", "I", false)
  | 45 => ("WidenDeskModel", "read", "J", false)
  | _ => ("WidenDeskModel", "isWhole", "Z", false)
def tyX8 : Nat → FieldType := fun k => match k with
  | 0 => .array .int
  | 1 => .int
  | 2 => .array .int
  | 3 => .array .int
  | 4 => .array .int
  | 5 => .array .int
  | 6 => .array .int
  | 7 => .array .int
  | 8 => .array .long
  | 9 => .array .int
  | 10 => .array .boolean
  | 11 => .int
  | 12 => .int
  | 13 => .int
  | 14 => .long
  | 15 => .array .int
  | 16 => .int
  | 17 => .array .int
  | 18 => .array .int
  | 19 => .array .int
  | 20 => .array .int
  | 21 => .array .int
  | 22 => .array .int
  | 23 => .array .long
  | 24 => .array .int
  | 25 => .array .int
  | 26 => .int
  | 27 => .int
  | 28 => .array .int
  | 29 => .array .int
  | 30 => .array .int
  | 31 => .int
  | 32 => .int
  | 33 => .int
  | 34 => .array .int
  | 35 => .array .int
  | 36 => .array .long
  | 37 => .int
  | 38 => .int
  | 39 => .long
  | 40 => .array .long
  | 41 => .array .int
  | 42 => .long
  | 43 => .int
  | 44 => .int
  | 45 => .long
  | _ => .boolean
abbrev wsX80 : List Cond := u_ws RX8 TX8 47
theorem nmX8 : ∀ a, a < 47 → ∀ b, b < 47 → a ≠ b → (TX8 a).2.1 ≠ (TX8 b).2.1 := by decide +kernel
theorem tyX8_ok : ∀ k, k < 47 → parseFieldDescriptor (TX8 k).2.2.1 = some (tyX8 k) := by decide +kernel
abbrev cX8_init : ByteArray := prog_10_method_1_code
def yX8_init : MethodName := ⟨RX8, "<init>", "()V"⟩
abbrev cX8_in : ByteArray := prog_10_method_3_code
def yX8_in : MethodName := ⟨RX8, "in", "(JJJ)Z"⟩
abbrev cX8_has : ByteArray := prog_10_method_4_code
def yX8_has : MethodName := ⟨RX8, "has", "(II)Z"⟩
abbrev cX8_isPlain : ByteArray := prog_10_method_5_code
def yX8_isPlain : MethodName := ⟨RX8, "isPlain", "(I)Z"⟩
abbrev cX8_lengthOf : ByteArray := prog_10_method_6_code
def yX8_lengthOf : MethodName := ⟨RX8, "lengthOf", "(J)I"⟩
abbrev cX8_takeApart : ByteArray := prog_10_method_7_code
def yX8_takeApart : MethodName := ⟨RX8, "takeApart", "(IJ)V"⟩
abbrev cX8_rounded : ByteArray := prog_10_method_8_code
def yX8_rounded : MethodName := ⟨RX8, "rounded", "(IJI)J"⟩
abbrev cX8_fits : ByteArray := prog_10_method_9_code
def yX8_fits : MethodName := ⟨RX8, "fits", "(IJ)Z"⟩
abbrev cX8_widens : ByteArray := prog_10_method_10_code
def yX8_widens : MethodName := ⟨RX8, "widens", "(II)Z"⟩
abbrev cX8_widened : ByteArray := prog_10_method_11_code
def yX8_widened : MethodName := ⟨RX8, "widened", "(IJI)J"⟩
abbrev cX8_given : ByteArray := prog_10_method_12_code
def yX8_given : MethodName := ⟨RX8, "given", "(IJ)J"⟩
abbrev cX8_isOne : ByteArray := prog_10_method_13_code
def yX8_isOne : MethodName := ⟨RX8, "isOne", "(IJI)Z"⟩
abbrev cX8_asOne : ByteArray := prog_10_method_14_code
def yX8_asOne : MethodName := ⟨RX8, "asOne", "(IJI)J"⟩
abbrev cX8_write : ByteArray := prog_10_method_15_code
def yX8_write : MethodName := ⟨RX8, "write", "(I)I"⟩
abbrev cX8_wipe : ByteArray := prog_10_method_16_code
def yX8_wipe : MethodName := ⟨RX8, "wipe", "()I"⟩
abbrev cX8_plainOf : ByteArray := prog_10_method_17_code
def yX8_plainOf : MethodName := ⟨RX8, "plainOf", "(I)I"⟩
abbrev cX8_rowKindOf : ByteArray := prog_10_method_18_code
def yX8_rowKindOf : MethodName := ⟨RX8, "rowKindOf", "(I)I"⟩
abbrev cX8_letter : ByteArray := prog_10_method_19_code
def yX8_letter : MethodName := ⟨RX8, "letter", "()I"⟩
abbrev cX8_readNumber : ByteArray := prog_10_method_20_code
def yX8_readNumber : MethodName := ⟨RX8, "readNumber", "(I)V"⟩
abbrev cX8_isNumber : ByteArray := prog_10_method_21_code
def yX8_isNumber : MethodName := ⟨RX8, "isNumber", "(IJ)Z"⟩
abbrev cX8_putTold : ByteArray := prog_10_method_22_code
def yX8_putTold : MethodName := ⟨RX8, "putTold", "(IIJ)V"⟩
abbrev cX8_toldOf : ByteArray := prog_10_method_23_code
def yX8_toldOf : MethodName := ⟨RX8, "toldOf", "(IJ)J"⟩
abbrev cX8_readCell : ByteArray := prog_10_method_24_code
def yX8_readCell : MethodName := ⟨RX8, "readCell", "()Z"⟩
abbrev cX8_readText : ByteArray := prog_10_method_25_code
def yX8_readText : MethodName := ⟨RX8, "readText", "()I"⟩
abbrev cX8_fault : ByteArray := prog_10_method_26_code
def yX8_fault : MethodName := ⟨RX8, "fault", "()I"⟩
abbrev cX8_isSlot : ByteArray := prog_10_method_27_code
def yX8_isSlot : MethodName := ⟨RX8, "isSlot", "(I)Z"⟩
abbrev cX8_holdsRow : ByteArray := prog_10_method_28_code
def yX8_holdsRow : MethodName := ⟨RX8, "holdsRow", "(I)Z"⟩
abbrev cX8_holdsPlain : ByteArray := prog_10_method_29_code
def yX8_holdsPlain : MethodName := ⟨RX8, "holdsPlain", "(I)Z"⟩
abbrev cX8_isHeld : ByteArray := prog_10_method_30_code
def yX8_isHeld : MethodName := ⟨RX8, "isHeld", "(I)Z"⟩
abbrev cX8_freeRow : ByteArray := prog_10_method_31_code
def yX8_freeRow : MethodName := ⟨RX8, "freeRow", "()I"⟩
abbrev cX8_note : ByteArray := prog_10_method_32_code
def yX8_note : MethodName := ⟨RX8, "note", "()V"⟩
abbrev cX8_undo : ByteArray := prog_10_method_33_code
def yX8_undo : MethodName := ⟨RX8, "undo", "()I"⟩
abbrev cX8_holdNew : ByteArray := prog_10_method_34_code
def yX8_holdNew : MethodName := ⟨RX8, "holdNew", "(I)V"⟩
abbrev cX8_tell : ByteArray := prog_10_method_35_code
def yX8_tell : MethodName := ⟨RX8, "tell", "(I)I"⟩
abbrev cX8_rowsHeld : ByteArray := prog_10_method_36_code
def yX8_rowsHeld : MethodName := ⟨RX8, "rowsHeld", "(I)I"⟩
abbrev cX8_nothings : ByteArray := prog_10_method_37_code
def yX8_nothings : MethodName := ⟨RX8, "nothings", "()I"⟩
abbrev cX8_fineOnes : ByteArray := prog_10_method_38_code
def yX8_fineOnes : MethodName := ⟨RX8, "fineOnes", "()I"⟩
abbrev cX8_about : ByteArray := prog_10_method_39_code
def yX8_about : MethodName := ⟨RX8, "about", "(I)I"⟩
abbrev cX8_make : ByteArray := prog_10_method_40_code
def yX8_make : MethodName := ⟨RX8, "make", "(III)I"⟩
abbrev cX8_share : ByteArray := prog_10_method_41_code
def yX8_share : MethodName := ⟨RX8, "share", "(II)I"⟩
abbrev cX8_thing : ByteArray := prog_10_method_42_code
def yX8_thing : MethodName := ⟨RX8, "thing", "(II)I"⟩
abbrev cX8_same : ByteArray := prog_10_method_43_code
def yX8_same : MethodName := ⟨RX8, "same", "(II)I"⟩
abbrev cX8_get : ByteArray := prog_10_method_44_code
def yX8_get : MethodName := ⟨RX8, "get", "(II)V"⟩
abbrev cX8_kindTold : ByteArray := prog_10_method_45_code
def yX8_kindTold : MethodName := ⟨RX8, "kindTold", "(IIJ)I"⟩
abbrev cX8_told : ByteArray := prog_10_method_46_code
def yX8_told : MethodName := ⟨RX8, "told", "(IJ)J"⟩
abbrev cX8_cell : ByteArray := prog_10_method_47_code
def yX8_cell : MethodName := ⟨RX8, "cell", "(III)J"⟩
abbrev cX8_hold : ByteArray := prog_10_method_48_code
def yX8_hold : MethodName := ⟨RX8, "hold", "(IIJ)V"⟩
abbrev cX8_give : ByteArray := prog_10_method_49_code
def yX8_give : MethodName := ⟨RX8, "give", "(IJ)I"⟩
abbrev cX8_mark : ByteArray := prog_10_method_50_code
def yX8_mark : MethodName := ⟨RX8, "mark", "(II)I"⟩
abbrev cX8_text : ByteArray := prog_10_method_51_code
def yX8_text : MethodName := ⟨RX8, "text", "(I)I"⟩
abbrev cX8_turn : ByteArray := prog_10_method_52_code
def yX8_turn : MethodName := ⟨RX8, "turn", "()I"⟩
abbrev cX8_hand : ByteArray := prog_10_method_53_code
def yX8_hand : MethodName := ⟨RX8, "hand", "(I)J"⟩
abbrev cX8_grow : ByteArray := prog_10_method_54_code
def yX8_grow : MethodName := ⟨RX8, "grow", "(I)I"⟩
abbrev cX8_withOut : ByteArray := prog_10_method_55_code
def yX8_withOut : MethodName := ⟨RX8, "withOut", "(IZ)I"⟩
abbrev cX8_reasonOf : ByteArray := prog_10_method_56_code
def yX8_reasonOf : MethodName := ⟨RX8, "reasonOf", "(I)I"⟩
abbrev cX8_takeFrom : ByteArray := prog_10_method_57_code
def yX8_takeFrom : MethodName := ⟨RX8, "takeFrom", "(II)I"⟩
abbrev cX8_bring : ByteArray := prog_10_method_58_code
def yX8_bring : MethodName := ⟨RX8, "bring", "(IIIJ)I"⟩
abbrev cX8_reasonToTake : ByteArray := prog_10_method_59_code
def yX8_reasonToTake : MethodName := ⟨RX8, "reasonToTake", "(III)I"⟩
abbrev cX8_reasonToFetch : ByteArray := prog_10_method_60_code
def yX8_reasonToFetch : MethodName := ⟨RX8, "reasonToFetch", "(II)I"⟩
abbrev cX8_reasonToLay : ByteArray := prog_10_method_61_code
def yX8_reasonToLay : MethodName := ⟨RX8, "reasonToLay", "(IIIIJ)I"⟩
abbrev cX8_put : ByteArray := prog_10_method_62_code
def yX8_put : MethodName := ⟨RX8, "put", "(IIIIJ)V"⟩
abbrev cX8_take : ByteArray := prog_10_method_63_code
def yX8_take : MethodName := ⟨RX8, "take", "(III)I"⟩
abbrev cX8_fetch : ByteArray := prog_10_method_64_code
def yX8_fetch : MethodName := ⟨RX8, "fetch", "(II)I"⟩
abbrev cX8_lay : ByteArray := prog_10_method_65_code
def yX8_lay : MethodName := ⟨RX8, "lay", "(II)I"⟩
abbrev cX8_scatter : ByteArray := prog_10_method_66_code
def yX8_scatter : MethodName := ⟨RX8, "scatter", "(IJ)I"⟩
abbrev cX8_convertCell : ByteArray := prog_10_method_67_code
def yX8_convertCell : MethodName := ⟨RX8, "convertCell", "(IIII)I"⟩
abbrev cX8_convert : ByteArray := prog_10_method_68_code
def yX8_convert : MethodName := ⟨RX8, "convert", "(III)I"⟩
abbrev cX8_report : ByteArray := prog_10_method_69_code
def yX8_report : MethodName := ⟨RX8, "report", "(I)I"⟩
abbrev cX8_chains : ByteArray := prog_10_method_70_code
def yX8_chains : MethodName := ⟨RX8, "chains", "(II)I"⟩
abbrev cX8_isWay : ByteArray := prog_10_method_71_code
def yX8_isWay : MethodName := ⟨RX8, "isWay", "(I)Z"⟩
abbrev cX8_carry : ByteArray := prog_10_method_72_code
def yX8_carry : MethodName := ⟨RX8, "carry", "(III)I"⟩
abbrev cX8_addEnd : ByteArray := prog_10_method_73_code
def yX8_addEnd : MethodName := ⟨RX8, "addEnd", "(IJ)V"⟩
abbrev cX8_ends : ByteArray := prog_10_method_74_code
def yX8_ends : MethodName := ⟨RX8, "ends", "(III)I"⟩
abbrev cX8_leastOf : ByteArray := prog_10_method_75_code
def yX8_leastOf : MethodName := ⟨RX8, "leastOf", "(II)I"⟩
abbrev cX8_least : ByteArray := prog_10_method_76_code
def yX8_least : MethodName := ⟨RX8, "least", "(I)I"⟩
abbrev cX8_joinedKind : ByteArray := prog_10_method_77_code
def yX8_joinedKind : MethodName := ⟨RX8, "joinedKind", "(II)I"⟩
abbrev cX8_joinCells : ByteArray := prog_10_method_78_code
def yX8_joinCells : MethodName := ⟨RX8, "joinCells", "(I)V"⟩
abbrev cX8_join : ByteArray := prog_10_method_79_code
def yX8_join : MethodName := ⟨RX8, "join", "(III)I"⟩
abbrev cX8_cut : ByteArray := prog_10_method_80_code
def yX8_cut : MethodName := ⟨RX8, "cut", "(III)I"⟩
abbrev cX8_areAlike : ByteArray := prog_10_method_81_code
def yX8_areAlike : MethodName := ⟨RX8, "areAlike", "(II)Z"⟩
abbrev cX8_alike : ByteArray := prog_10_method_82_code
def yX8_alike : MethodName := ⟨RX8, "alike", "(II)I"⟩
abbrev cX8_areSame : ByteArray := prog_10_method_83_code
def yX8_areSame : MethodName := ⟨RX8, "areSame", "(II)Z"⟩
abbrev cX8_unlike : ByteArray := prog_10_method_84_code
def yX8_unlike : MethodName := ⟨RX8, "unlike", "(I)I"⟩
abbrev cX8_total : ByteArray := prog_10_method_85_code
def yX8_total : MethodName := ⟨RX8, "total", "(II)I"⟩
abbrev cX8_see : ByteArray := prog_10_method_86_code
def yX8_see : MethodName := ⟨RX8, "see", "(III)I"⟩
abbrev cX8_unsee : ByteArray := prog_10_method_87_code
def yX8_unsee : MethodName := ⟨RX8, "unsee", "()I"⟩
abbrev cX8_reasonBy : ByteArray := prog_10_method_88_code
def yX8_reasonBy : MethodName := ⟨RX8, "reasonBy", "(III)I"⟩
abbrev cX8_which : ByteArray := prog_10_method_89_code
def yX8_which : MethodName := ⟨RX8, "which", "()I"⟩
def RJ11 : String := "java/lang/Character"
abbrev cJ11_isValidCodePoint_9a6ad : ByteArray := prog_11_method_11_code
def yJ11_isValidCodePoint_9a6ad : MethodName := ⟨RJ11, "isValidCodePoint", "(I)Z"⟩
abbrev cJ11_highSurrogate_5068e : ByteArray := prog_11_method_28_code
def yJ11_highSurrogate_5068e : MethodName := ⟨RJ11, "highSurrogate", "(I)C"⟩
abbrev cJ11_lowSurrogate_5068e : ByteArray := prog_11_method_29_code
def yJ11_lowSurrogate_5068e : MethodName := ⟨RJ11, "lowSurrogate", "(I)C"⟩
def RJ6 : String := "java/lang/Integer"
abbrev cJ6_numberOfLeadingZeros_0f7a4 : ByteArray := prog_12_method_47_code
def yJ6_numberOfLeadingZeros_0f7a4 : MethodName := ⟨RJ6, "numberOfLeadingZeros", "(I)I"⟩
def RJ13 : String := "java/lang/Long"
abbrev cJ13_numberOfLeadingZeros_95d88 : ByteArray := prog_13_method_48_code
def yJ13_numberOfLeadingZeros_95d88 : MethodName := ⟨RJ13, "numberOfLeadingZeros", "(J)I"⟩
def RJ9 : String := "java/lang/Math"
abbrev cJ9_max_7cf53 : ByteArray := prog_14_method_65_code
def yJ9_max_7cf53 : MethodName := ⟨RJ9, "max", "(II)I"⟩
abbrev cJ9_min_7cf53 : ByteArray := prog_14_method_69_code
def yJ9_min_7cf53 : MethodName := ⟨RJ9, "min", "(II)I"⟩
def RJ0 : String := "java/lang/String"
abbrev cJ0_length_8abf5 : ByteArray := prog_15_method_54_code
def yJ0_length_8abf5 : MethodName := ⟨RJ0, "length", "()I"⟩
abbrev cJ0_indexOf_0f7a4 : ByteArray := prog_15_method_79_code
def yJ0_indexOf_0f7a4 : MethodName := ⟨RJ0, "indexOf", "(I)I"⟩
abbrev cJ0_indexOf_7cf53 : ByteArray := prog_15_method_80_code
def yJ0_indexOf_7cf53 : MethodName := ⟨RJ0, "indexOf", "(II)I"⟩
abbrev cJ0_coder_7d493 : ByteArray := prog_15_method_152_code
def yJ0_coder_7d493 : MethodName := ⟨RJ0, "coder", "()B"⟩
abbrev cJ0_isLatin1_aae02 : ByteArray := prog_15_method_154_code
def yJ0_isLatin1_aae02 : MethodName := ⟨RJ0, "isLatin1", "()Z"⟩
abbrev cJ0_checkBoundsBeginEnd_23922 : ByteArray := prog_15_method_158_code
def yJ0_checkBoundsBeginEnd_23922 : MethodName := ⟨RJ0, "checkBoundsBeginEnd", "(III)V"⟩
def RJ1 : String := "java/lang/StringLatin1"
abbrev cJ1_canEncode_9a6ad : ByteArray := prog_16_method_4_code
def yJ1_canEncode_9a6ad : MethodName := ⟨RJ1, "canEncode", "(I)Z"⟩
abbrev cJ1_indexOf_4cfef : ByteArray := prog_16_method_22_code
def yJ1_indexOf_4cfef : MethodName := ⟨RJ1, "indexOf", "([BIII)I"⟩
abbrev cJ1_indexOfChar_4cfef : ByteArray := prog_16_method_23_code
def yJ1_indexOfChar_4cfef : MethodName := ⟨RJ1, "indexOfChar", "([BIII)I"⟩
def RJ2 : String := "java/lang/StringUTF16"
abbrev cJ2_getChar_3b067 : ByteArray := prog_17_method_5_code
def yJ2_getChar_3b067 : MethodName := ⟨RJ2, "getChar", "([BI)C"⟩
abbrev cJ2_length_9d52b : ByteArray := prog_17_method_6_code
def yJ2_length_9d52b : MethodName := ⟨RJ2, "length", "([B)I"⟩
abbrev cJ2_indexOf_4cfef : ByteArray := prog_17_method_40_code
def yJ2_indexOf_4cfef : MethodName := ⟨RJ2, "indexOf", "([BIII)I"⟩
abbrev cJ2_indexOfChar_4cfef : ByteArray := prog_17_method_47_code
def yJ2_indexOfChar_4cfef : MethodName := ⟨RJ2, "indexOfChar", "([BIII)I"⟩
abbrev cJ2_indexOfCharUnsafe_4cfef : ByteArray := prog_17_method_48_code
def yJ2_indexOfCharUnsafe_4cfef : MethodName := ⟨RJ2, "indexOfCharUnsafe", "([BIII)I"⟩
abbrev cJ2_indexOfSupplementary_4cfef : ByteArray := prog_17_method_49_code
def yJ2_indexOfSupplementary_4cfef : MethodName := ⟨RJ2, "indexOfSupplementary", "([BIII)I"⟩
abbrev cJ2_checkBoundsBeginEnd_d044e : ByteArray := prog_17_method_93_code
def yJ2_checkBoundsBeginEnd_d044e : MethodName := ⟨RJ2, "checkBoundsBeginEnd", "(II[B)V"⟩
def RJ3 : String := "jdk/internal/util/Preconditions"
abbrev cJ3_checkFromToIndex_8c36e : ByteArray := prog_18_method_12_code
def yJ3_checkFromToIndex_8c36e : MethodName := ⟨RJ3, "checkFromToIndex", "(IIILjava/util/function/BiFunction;)I"⟩
def RL : String := "WidenDeskLaw"
abbrev cL_law : ByteArray := code
def yL_law : MethodName := ⟨RL, "law", "([I)Z"⟩
abbrev vwCl : List vw_C := [(RX0, TX0, 8), (RX1, TX1, 2), (RX3, TX3, 7), (RX5, TX5, 4), (RX6, TX6, 4), (RX7, TX7, 11), (RX8, TX8, 47)]
end
section
/-! MY KIT, 1: the words, the world as a memory, the judgement G -/
/-- the tables' good words: what every contract here asks for, beside its own code -/
def TT : List Cond := lw_tbl.filter goodWord
theorem TT_in {w : Cond} (i : Nat) (h : lw_tbl[i]? = some w) (hg : goodWord w = true) : w ∈ TT := List.mem_filter.mpr ⟨List.mem_of_getElem? h, hg⟩
theorem TT_good {w : Cond} (h : w ∈ TT) : (w.onTables && w.keeps) = true ∨ ∃ ty, w = .arrayClass ty := good_of_word (List.mem_filter.mp h).2
/-- a memory: ints and longs, by object and slot (or index) -/
abbrev Mm : Type := (Nat → Nat → Int32) × (Nat → Nat → Int64)
def wI (μ : Mm) (o k : Nat) (v : Int32) : Mm := (fun a b => if a = o ∧ b = k then v else μ.1 a b, μ.2)
def wL (μ : Mm) (o k : Nat) (v : Int64) : Mm := (μ.1, fun a b => if a = o ∧ b = k then v else μ.2 a b)
/-- a shape: an array (kind 0 int, 1 long, 2 boolean; its length), or an object (its class, its slots: 0 int, 1 long, j+2 the object j) -/
abbrev Sh : Type := (Nat × Nat) ⊕ (Nat × List Nat)
/-- an environment: class numbers and slots, array classes, the objects' addresses, the text constant's two addresses -/
abbrev Ev : Type := va_G × (Nat → ClassId) × (Nat → Nat) × (Nat → Nat) × (Nat → Nat)
abbrev eD (ε : Ev) : va_G := ε.1
abbrev eA (ε : Ev) : Nat → ClassId := ε.2.1
abbrev ea (ε : Ev) : Nat → Nat := ε.2.2.1
def shv (ad : Nat → Nat) (μ : Mm) (o k : Nat) : Nat → Value
  | 0 => .int (μ.1 o k)
  | 1 => .long (μ.2 o k)
  | j + 2 => .ref (ad j)
def mkE (ε : Ev) (μ : Mm) (o : Nat) : Sh → va_E
  | .inl q => .inl (eA ε q.1, q.2, if q.1 = 1 then .inr (.inl (μ.2 o)) else .inl (μ.1 o))
  | .inr q => .inr (q.1, q.2.mapIdx (fun k kd => shv (ea ε) μ o k kd))
def wd (lay : List Sh) (ε : Ev) (μ : Mm) : va_W := lay.mapIdx (fun o sh => (ea ε o, mkE ε μ o sh))
def Aw (lay : List Sh) (ε : Ev) : Nat → Prop := fun q => ∃ o, o < lay.length ∧ q = ea ε o
def tysOf (ε : Ev) : List (ClassId × FieldType) := [(eA ε 0, .int), (eA ε 1, .long), (eA ε 2, .boolean)]
theorem wd_at {lay : List Sh} {ε : Ev} {μ : Mm} {o : Nat} {sh : Sh} (h : lay[o]? = some sh) : (wd lay ε μ)[o]? = some (ea ε o, mkE ε μ o sh) := by
  simp [wd, List.getElem?_mapIdx, h]
theorem wd_of {lay : List Sh} {ε : Ev} {μ : Mm} {o : Nat} {q : Nat × va_E} (h : (wd lay ε μ)[o]? = some q) : o < lay.length ∧ q.1 = ea ε o := by
  have hl : o < (wd lay ε μ).length := (List.getElem?_eq_some_iff.mp h).1
  have hl' : o < lay.length := by simpa [wd] using hl
  rw [wd_at (List.getElem?_eq_getElem hl')] at h
  cases h
  exact ⟨hl', rfl⟩
def Apart (lay : List Sh) (ε : Ev) : Prop := ∀ i j, i < lay.length → j < lay.length → ea ε i = ea ε j → i = j
theorem wd_D {lay : List Sh} {ε : Ev} {μ : Mm} (h : Apart lay ε) : va_D (Aw lay ε) (wd lay ε μ) := by
  refine ⟨fun i j p q hi hj e => ?_, fun k q hk => ?_⟩
  · obtain ⟨a1, a2⟩ := wd_of hi
    obtain ⟨b1, b2⟩ := wd_of hj
    exact h i j a1 b1 (by rw [← a2, ← b2]; exact e)
  · obtain ⟨a1, a2⟩ := wd_of hk
    exact ⟨k, a1, a2⟩
theorem shv_wI_ne {ad : Nat → Nat} {μ : Mm} {o k v o' k' : Nat} {x : Int32} (h : ¬ (o' = o ∧ k' = k)) : shv ad (wI μ o k x) o' k' v = shv ad μ o' k' v := by
  match v with
  | 0 => simp [shv, wI, h]
  | 1 => rfl
  | j + 2 => rfl
theorem shv_wL_ne {ad : Nat → Nat} {μ : Mm} {o k v o' k' : Nat} {x : Int64} (h : ¬ (o' = o ∧ k' = k)) : shv ad (wL μ o k x) o' k' v = shv ad μ o' k' v := by
  match v with
  | 0 => rfl
  | 1 => simp [shv, wL, h]
  | j + 2 => rfl
theorem mkE_wI_ne {ε : Ev} {μ : Mm} {o k o' : Nat} {x : Int32} (h : o' ≠ o) (sh : Sh) : mkE ε (wI μ o k x) o' sh = mkE ε μ o' sh := by
  rcases sh with q | q
  · have e : (wI μ o k x).1 o' = μ.1 o' := by funext b; simp [wI, h]
    simp only [mkE, e]
    rfl
  · simp only [mkE]
    congr 2
    congr 1
    funext a b
    exact shv_wI_ne (fun z => h z.1)
theorem mkE_wL_ne {ε : Ev} {μ : Mm} {o k o' : Nat} {x : Int64} (h : o' ≠ o) (sh : Sh) : mkE ε (wL μ o k x) o' sh = mkE ε μ o' sh := by
  rcases sh with q | q
  · have e : (wL μ o k x).2 o' = μ.2 o' := by funext b; simp [wL, h]
    simp only [mkE, e]
    rfl
  · simp only [mkE]
    congr 2
    congr 1
    funext a b
    exact shv_wL_ne (fun z => h z.1)
theorem wd_set {lay : List Sh} {ε : Ev} {μ μ' : Mm} {o : Nat} {sh : Sh} {en : va_E} (h : lay[o]? = some sh) (he : mkE ε μ' o sh = en) (hn : ∀ o' sh', o' ≠ o → mkE ε μ' o' sh' = mkE ε μ o' sh') : (wd lay ε μ).set o (ea ε o, en) = wd lay ε μ' := by
  apply List.ext_getElem?
  intro i
  by_cases hi : i = o
  · subst hi
    have hl : i < (wd lay ε μ).length := by simpa [wd] using (List.getElem?_eq_some_iff.mp h).1
    rw [List.getElem?_set_self hl, wd_at h, he]
  · rw [List.getElem?_set_ne (Ne.symm hi)]
    simp only [wd, List.getElem?_mapIdx]
    cases lay[i]? with
    | none => rfl
    | some sh' => simp only [Option.map]; rw [hn i sh' hi]
theorem wd_setI {lay : List Sh} {ε : Ev} {μ : Mm} {o k ci : Nat} {ks : List Nat} {x : Int32} (h : lay[o]? = some (.inr (ci, ks))) (hk : ks[k]? = some 0) : (wd lay ε μ).set o (ea ε o, .inr (ci, (ks.mapIdx (fun k kd => shv (ea ε) μ o k kd)).set k (.int x))) = wd lay ε (wI μ o k x) := by
  refine wd_set h ?_ (fun o' sh' ho => mkE_wI_ne ho sh')
  simp only [mkE]
  congr 2
  apply List.ext_getElem?
  intro i
  by_cases hi : i = k
  · subst hi
    have hl : i < (ks.mapIdx (fun k kd => shv (ea ε) μ o k kd)).length := by simpa using (List.getElem?_eq_some_iff.mp hk).1
    rw [List.getElem?_set_self hl, List.getElem?_mapIdx, hk]
    simp [shv, wI]
  · rw [List.getElem?_set_ne (Ne.symm hi), List.getElem?_mapIdx, List.getElem?_mapIdx]
    cases ks[i]? with
    | none => rfl
    | some z => simp only [Option.map]; rw [shv_wI_ne (fun q => hi q.2)]
theorem wd_setL {lay : List Sh} {ε : Ev} {μ : Mm} {o k ci : Nat} {ks : List Nat} {x : Int64} (h : lay[o]? = some (.inr (ci, ks))) (hk : ks[k]? = some 1) : (wd lay ε μ).set o (ea ε o, .inr (ci, (ks.mapIdx (fun k kd => shv (ea ε) μ o k kd)).set k (.long x))) = wd lay ε (wL μ o k x) := by
  refine wd_set h ?_ (fun o' sh' ho => mkE_wL_ne ho sh')
  simp only [mkE]
  congr 2
  apply List.ext_getElem?
  intro i
  by_cases hi : i = k
  · subst hi
    have hl : i < (ks.mapIdx (fun k kd => shv (ea ε) μ o k kd)).length := by simpa using (List.getElem?_eq_some_iff.mp hk).1
    rw [List.getElem?_set_self hl, List.getElem?_mapIdx, hk]
    simp [shv, wL]
  · rw [List.getElem?_set_ne (Ne.symm hi), List.getElem?_mapIdx, List.getElem?_mapIdx]
    cases ks[i]? with
    | none => rfl
    | some z => simp only [Option.map]; rw [shv_wL_ne (fun q => hi q.2)]
theorem wd_setA {lay : List Sh} {ε : Ev} {μ : Mm} {o t n i : Nat} {x : Int32} (h : lay[o]? = some (.inl (t, n))) (ht : t ≠ 1) : (wd lay ε μ).set o (ea ε o, .inl (eA ε t, n, .inl (upd (μ.1 o) i x))) = wd lay ε (wI μ o i x) := by
  refine wd_set h ?_ (fun o' sh' ho => mkE_wI_ne ho sh')
  have e : (wI μ o i x).1 o = upd (μ.1 o) i x := by funext b; simp [wI, upd]
  simp [mkE, ht, e]
theorem wd_setAL {lay : List Sh} {ε : Ev} {μ : Mm} {o n i : Nat} {x : Int64} (h : lay[o]? = some (.inl (1, n))) : (wd lay ε μ).set o (ea ε o, .inl (eA ε 1, n, .inr (.inl (vp_updL (μ.2 o) i x)))) = wd lay ε (wL μ o i x) := by
  refine wd_set h ?_ (fun o' sh' ho => mkE_wL_ne ho sh')
  have e : (wL μ o i x).2 o = vp_updL (μ.2 o) i x := by funext b; simp [wL, vp_updL]
  simp [mkE, e]
def inb (i : Int32) (n : Nat) : Bool := !(decide (i < 0) || decide (n ≤ i.toNatClampNeg))
theorem inb_in {i : Int32} {n : Nat} (h : inb i n = true) : vp_in i n := by
  simp only [inb, Bool.not_eq_true', Bool.or_eq_false_iff, decide_eq_false_iff_not] at h
  exact fun z => z.elim h.1 h.2
theorem ite_some {α : Type} {c : Prop} [Decidable c] {a : Option α} {r : α} (h : (if c then a else none) = some r) : c ∧ a = some r := by
  split at h
  · exact ⟨by assumption, h⟩
  · cases h
theorem bind_some {α β : Type} {a : Option α} {f : α → Option β} {r : β} (h : a.bind f = some r) : ∃ q, a = some q ∧ f q = some r := by
  cases a with
  | none => cases h
  | some q => exact ⟨q, rfl, h⟩
/-! the judgement -/
abbrev Kx : Type := Program × Launch × Env × Room × State × MethodId × Array Value × List Frame × Method × Code × (State → Prop) × Nat × Nat
abbrev kp (κ : Kx) : Program := κ.1
abbrev kl (κ : Kx) : Launch := κ.2.1
abbrev ke (κ : Kx) : Env := κ.2.2.1
abbrev kR (κ : Kx) : Room := κ.2.2.2.1
abbrev kS (κ : Kx) : State := κ.2.2.2.2.1
abbrev km (κ : Kx) : MethodId := κ.2.2.2.2.2.1
abbrev ka (κ : Kx) : Array Value := κ.2.2.2.2.2.2.1
abbrev kb (κ : Kx) : List Frame := κ.2.2.2.2.2.2.2.1
abbrev kt (κ : Kx) : Method := κ.2.2.2.2.2.2.2.2.1
abbrev kc (κ : Kx) : Code := κ.2.2.2.2.2.2.2.2.2.1
abbrev kQ (κ : Kx) : State → Prop := κ.2.2.2.2.2.2.2.2.2.2.1
abbrev kn (κ : Kx) : Nat := κ.2.2.2.2.2.2.2.2.2.2.2.1
abbrev ko (κ : Kx) : Nat := κ.2.2.2.2.2.2.2.2.2.2.2.2
abbrev Wk (κ : Kx) (H : Heap) (locs : List Loc) (g : JFrame) : Prop := W (kp κ) (kl κ) (ke κ) (kR κ) (kS κ) (km κ) (ka κ) (kb κ) (kt κ) (kc κ) H locs (kn κ) (ko κ) (kQ κ) g
/-- from every heap with V and locals with L, the machine at pc with stack st comes to the end -/
def G (κ : Kx) (V : Heap → List Loc → Prop) (nL pc : Nat) (L : List (Nat × Value)) (st : List Value) : Prop :=
  ∀ (H : Heap) (locs : List Loc) (ls : Array Slot), V H locs → lv_has ls nL L → Wk κ H locs (F0 (km κ) pc ls st)
def rmd (d : Nat) : Room := { frames := d, cells := 0, slots := 0, locals := 120 * d }
def nestW : List Cond := [.methodLinkNest "WidenDesk$Reader" 61 ⟨"WidenDesk", "isPrimitive", "(I)Z"⟩ "WidenDesk", .methodLinkNest "WidenDesk$Reader" 83 ⟨"WidenDesk$Numbers", "isBetween", "(JI)Z"⟩ "WidenDesk", .methodLinkNest "WidenDesk$Shelf" 27 ⟨"WidenDesk", "isPrimitive", "(I)Z"⟩ "WidenDesk", .methodLinkNest "WidenDesk$Rules" 9 ⟨"WidenDesk", "isPrimitive", "(I)Z"⟩ "WidenDesk", .methodLinkNest "WidenDesk" 234 ⟨"WidenDesk$Numbers", "countChains", "(III)I"⟩ "WidenDesk"]
def Nst (U : State) : Prop := ∀ w ∈ nestW, va_Nw w U
theorem Nst.warm {s U : State} (hW : s.WarmedH U.vm) (h : Nst s) : Nst U := by
  intro w hw
  have h1 := h w hw
  simp only [nestW, List.mem_cons, List.not_mem_nil, or_false] at hw
  rcases hw with rfl | rfl | rfl | rfl | rfl <;> exact va_Nw.warmM hW h1
theorem Nst.same {u U : State} (hv : u.vm = U.vm) (h : Nst u) : Nst U := by
  intro w hw
  have h1 := h w hw
  simp only [nestW, List.mem_cons, List.not_mem_nil, or_false] at hw
  rcases hw with rfl | rfl | rfl | rfl | rfl <;> exact va_Nw.same rfl hv h1
/-- what a walk stands on: the machine, the code, the class, the words, the room, the return type -/
def Cf (κ : Kx) (cc : ByteArray) (nL : Nat) (own : String) (ret : Option FieldType) (d : Nat) : Prop :=
  CallFix (kp κ) (km κ) (kc κ) cc nL (kS κ) (ka κ) TT own ∧ (kt κ).sig.returnType = ret ∧ (kt κ).locks = false ∧ Nst (kS κ) ∧ (d ≤ (kR κ).frames ∧ 120 * d ≤ (kR κ).locals ∧ kn κ ≤ (kR κ).cells ∧ ko κ ≤ (kR κ).slots)
/-- the text constant of the reader, and String's COMPACT_STRINGS -/
def Sx (ε : Ev) (A : Nat → Prop) (U : State) (H : Heap) : Prop :=
  vk_R "WidenDesk$Reader" 54 "zbcsijfd" (ε.2.2.2.1 0) U ∧ vk_S 1 [8] [[122, 98, 99, 115, 105, 106, 102, 100]] ε.2.2.2.1 ε.2.2.2.2 A U H ∧ va_Z "java/lang/String" "COMPACT_STRINGS" "Z" (.int 1) A U H
theorem Sx.same {ε : Ev} {A : Nat → Prop} {u U : State} {H : Heap} (hv : u.vm = U.vm) (h : Sx ε A u H) : Sx ε A U H :=
  ⟨vk_R.same hv.symm h.1, vk_S.moved (by rw [hv]; exact Vm.Alike.refl _) h.2.1, va_Z.moved (by rw [hv]; exact Vm.Alike.refl _) h.2.2⟩
theorem Sx.warm {ε : Ev} {A : Nat → Prop} {s U : State} {H : Heap} (hW : s.WarmedH U.vm) (h : Sx ε A s H) : Sx ε A U H :=
  ⟨vk_R.warm hW h.1, vk_S.moved hW.alike h.2.1, va_Z.moved hW.alike h.2.2⟩
theorem Sx.kept {ε : Ev} {A : Nat → Prop} {U : State} {H H1 : Heap} (h : Sx ε A U H) (hq : ∀ a : Nat, a < H.size → ¬ A a → H1[a]? = H[a]?) : Sx ε A U H1 :=
  ⟨h.1, vk_S.kept h.2.1 hq, va_Z.kept h.2.2 hq⟩
/-- the fixed part of a world at a state -/
def En (ε : Ev) (lay : List Sh) (U : State) : Prop := va_K (eD ε) vwCl (tysOf ε) U ∧ Apart lay ε ∧ Sx ε (Aw lay ε) U U.heap
theorem En.same {ε : Ev} {lay : List Sh} {u U : State} (hv : u.vm = U.vm) (hh : u.heap = U.heap) (h : En ε lay u) : En ε lay U :=
  ⟨va_K.moved (by rw [hv]; exact Vm.Alike.refl _) h.1, h.2.1, by rw [← hh]; exact h.2.2.same hv⟩
theorem En.go {ε : Ev} {lay : List Sh} {s U : State} {H : Heap} {locs : List Loc} (h : En ε lay s) (hS : va_S (Aw lay ε) s.heap H locs) (hU : U.heap = H) (hW : s.WarmedH U.vm) : En ε lay U :=
  ⟨va_K.moved hW.alike h.1, h.2.1, by rw [hU]; exact (h.2.2.warm hW).kept hS.2.1⟩
def Vw (κ : Kx) (ε : Ev) (lay : List Sh) (μ : Mm) : Heap → List Loc → Prop := fun H locs => va_P (eD ε) vwCl (wd lay ε μ) H ∧ va_S (Aw lay ε) (kS κ).heap H locs
def Vp (κ : Kx) : Heap → List Loc → Prop := fun H locs => H = (kS κ).heap ∧ locs = []
/-- a contract over a world: its start, its end -/
def Pw (ε : Ev) (lay : List Sh) (argv : List Value) (μ : Mm) : Array Value → State → Prop := fun a U => a = argv.toArray ∧ En ε lay U ∧ Nst U ∧ va_P (eD ε) vwCl (wd lay ε μ) U.heap
def Qw (ε : Ev) (lay : List Sh) (rv : Option Value) (μ : Mm) : Array Value → State → Outcome → State → Prop := fun _ st o t => o = .returned rv ∧ va_P (eD ε) vwCl (wd lay ε μ) t.heap ∧ va_F (Aw lay ε) st t
def Pp (argv : List Value) : Array Value → State → Prop := fun a U => a = argv.toArray ∧ Nst U
def Qp (rv : Option Value) : Array Value → State → Outcome → State → Prop := fun _ st o t => o = .returned rv ∧ t.heap = st.heap
def Sp (l : Launch) (ε : Ev) (lay : List Sh) (y : MethodName) (cc : ByteArray) (nL : Nat) (ret : Option FieldType) (d : Nat) (argv : List Value) (rv : Option Value) (μ μ' : Mm) : Prop :=
  Met l y (.code y cc nL ret :: TT) (rmd d) (Pw ε lay argv μ) (Qw ε lay rv μ') 0 0 (Aw lay ε)
def Sq (l : Launch) (y : MethodName) (cc : ByteArray) (nL : Nat) (ret : Option FieldType) (d : Nat) (argv : List Value) (rv : Option Value) : Prop :=
  Met l y (.code y cc nL ret :: TT) (rmd d) (Pp argv) (Qp rv) 0 0 (fun _ => False)
def Rw (κ : Kx) (ε : Ev) (lay : List Sh) (rv : Option Value) (μ : Mm) : Prop := kQ κ = MQ (kb κ) (Qw ε lay rv μ) (ka κ) (kS κ) (kn κ) (ko κ) (Aw lay ε)
def Rp (κ : Kx) (rv : Option Value) : Prop := kQ κ = MQ (kb κ) (Qp rv) (ka κ) (kS κ) (kn κ) (ko κ) (fun _ => False)
/-- Met.ofW, for a method of any class that no native row runs instead of -/
theorem Met.ofWF {l : Launch} {y : MethodName} {ws ws' : List Cond} {rm : Room} {Pc : Array Value → State → Prop} {Qc : Array Value → State → Outcome → State → Prop} {mc ms : Nat} {free : Addr → Prop} {cc : ByteArray} {maxL : Nat} {ret : Option FieldType}
    (hy : plainFor y = true) (hw : ws = Cond.code y cc maxL ret :: ws')
    (body : ∀ p e s m args below meth c s₁, BodyLoose p l y (headSpec ws rm) cc maxL ret e s m args below meth c s₁ → c.maxLocals = maxL → Pc args s →
      W p l e (headSpec ws rm).room s m args below meth c s.heap [] 0 0 (MQ below Qc args s mc ms free) (entryFrame m args maxL)) : Met l y ws rm Pc Qc mc ms free := by
  refine MetFree.of_bodySF (code := cc) (maxLocals := maxL) (ret := ret) hy ?_ ?_
  · intro args s m h hn
    obtain ⟨meth, c, h1, h2, h3, h4, h5, h6, -, -⟩ := Cond.code_spec hn (atoms_spec (ws := ws) h _ (by rw [hw]; exact List.mem_cons_self))
    exact ⟨meth, c, h1, h2, h3, h4, h5, h6⟩
  · intro p e s m args below meth c s₁ B hml hP _
    have hh0 : s₁.heap = s.heap := by rw [B.state]; rfl
    obtain ⟨t, a1, o, b1, b2, b3⟩ := body p e s m args below meth c s₁ B hml hP s₁ hh0 (Stand.of_body B)
    exact ⟨t, o, a1, b1, b2, ⟨b3.1, b3.2⟩⟩
theorem Sp.of {l : Launch} {ε : Ev} {lay : List Sh} {y : MethodName} {cc : ByteArray} {nL : Nat} {ret : Option FieldType} {d : Nat} {argv : List Value} {rv : Option Value} {μ μ' : Mm} (L : List (Nat × Value)) (hL : lv_args 0 argv = L) (hy : plainFor y = true) (hn : (lg_sl argv).length ≤ nL)
    (body : ∀ κ : Kx, kl κ = l → Cf κ cc nL y.cls ret d → En ε lay (kS κ) → Rw κ ε lay rv μ' → G κ (Vw κ ε lay μ) nL 0 L []) : Sp l ε lay y cc nL ret d argv rv μ μ' := by
  refine Met.ofWF (cc := cc) (maxL := nL) (ret := ret) hy rfl ?_
  intro p e s m args below meth c s₁ B hml hv
  obtain ⟨rfl, hE, hN, hP⟩ := hv
  have hts := atoms_spec (ws := .code y cc nL ret :: TT) B.pre
  have hl := lv_entry argv (n := nL) hn
  rw [lg_entry_eq]
  rw [hL] at hl
  exact body (p, l, e, rmd d, s, m, argv.toArray, below, meth, c, MQ below (Qw ε lay rv μ') argv.toArray s 0 0 (Aw lay ε), 0, 0) rfl ⟨⟨B.exec, B.bytes, hml, findClass_of_methodNamed B.named, fun w h => hts w (List.mem_cons_of_mem _ h)⟩, B.returns, B.notSynchronized, hN, Nat.le_refl _, Nat.le_refl _, Nat.zero_le _, Nat.zero_le _⟩ hE rfl s.heap [] _ ⟨hP, va_S.rf⟩ hl
theorem Sq.of {l : Launch} {y : MethodName} {cc : ByteArray} {nL : Nat} {ret : Option FieldType} {d : Nat} {argv : List Value} {rv : Option Value} (L : List (Nat × Value)) (hL : lv_args 0 argv = L) (hy : plainFor y = true) (hn : (lg_sl argv).length ≤ nL)
    (body : ∀ κ : Kx, kl κ = l → Cf κ cc nL y.cls ret d → Rp κ rv → G κ (Vp κ) nL 0 L []) : Sq l y cc nL ret d argv rv := by
  refine Met.ofWF (cc := cc) (maxL := nL) (ret := ret) hy rfl ?_
  intro p e s m args below meth c s₁ B hml hv
  obtain ⟨rfl, hN⟩ := hv
  have hts := atoms_spec (ws := .code y cc nL ret :: TT) B.pre
  have hl := lv_entry argv (n := nL) hn
  rw [lg_entry_eq]
  rw [hL] at hl
  exact body (p, l, e, rmd d, s, m, argv.toArray, below, meth, c, MQ below (Qp rv) argv.toArray s 0 0 (fun _ => False), 0, 0) rfl ⟨⟨B.exec, B.bytes, hml, findClass_of_methodNamed B.named, fun w h => hts w (List.mem_cons_of_mem _ h)⟩, B.returns, B.notSynchronized, hN, Nat.le_refl _, Nat.le_refl _, Nat.zero_le _, Nat.zero_le _⟩ rfl s.heap [] _ ⟨rfl, rfl⟩ hl
end
section
def jdiv (x y : Int32) : Int32 := x / y
def jrem (x y : Int32) : Int32 := x - x / y * y
def jldiv (x y : Int64) : Int64 := x / y
def jlrem (x y : Int64) : Int64 := x - x / y * y
def jshl (x y : Int32) : Int32 := x <<< (y &&& 31)
def jshr (x y : Int32) : Int32 := x >>> (y &&& 31)
def jushr (x y : Int32) : Int32 := (x.toUInt32 >>> (y.toUInt32 &&& Int32.toUInt32 31)).toInt32
def jlshl (x : Int64) (y : Int32) : Int64 := x <<< (y.toInt64 &&& 63)
def jlshr (x : Int64) (y : Int32) : Int64 := x >>> (y.toInt64 &&& 63)
def jlushr (x : Int64) (y : Int32) : Int64 := (x.toUInt64 >>> (y.toInt64.toUInt64 &&& Int64.toUInt64 63)).toInt64
def ji2b (x : Int32) : Int32 := x.toInt8.toInt32
def ji2s (x : Int32) : Int32 := x.toInt16.toInt32
def ji2c (x : Int32) : Int32 := (x.toUInt32 % 65536).toInt32
def bnd {α β γ : Type} (a : Option (α × β)) (f : α → β → Option γ) : Option γ := match a with
  | none => none
  | some q => f q.1 q.2
theorem bnd_of {α β γ : Type} {a : Option (α × β)} {f : α → β → Option γ} {r : γ} (h : bnd a f = some r) : ∃ x y, a = some (x, y) ∧ f x y = some r := by
  cases a with
  | none => cases h
  | some q => exact ⟨q.1, q.2, rfl, h⟩
/-- a boolean answer: 0 or 1 -/
def rbz (v : Int32) : Bool := decide (v = 0) || decide (v = 1)
theorem rbz_of {v : Int32} (h : rbz v = true) : v = 0 ∨ v = 1 := by simpa [rbz] using h
theorem rbz_narrow {v : Int32} (h : rbz v = true) : narrow .boolean (.int v) = .int v := by
  rcases rbz_of h with rfl | rfl <;> rfl
theorem rbz_nar {v : Int32} (h : rbz v = true) : vp_nar .boolean v = v := by
  rcases rbz_of h with rfl | rfl <;> rfl
theorem g_iconst {κ : Kx} {V : Heap → List Loc → Prop} {nL pc : Nat} {L : List (Nat × Value)} {st : List Value} {cc : ByteArray} {own : String} {ret : Option FieldType} {d : Nat} (C : Cf κ cc nL own ret d) {n : Int} {v : Int32} (hd : decode cc pc = .ok (.iconst n, 1)) (hv : Int32.ofInt n = v) (k : G κ V nL (pc + 1) L (.int v :: st)) : G κ V nL pc L (st) :=
  fun H locs ls hV hl => lv_iconst C.1.1 C.1.2.1 hd hv (k H locs ls hV hl)
theorem g_bipush {κ : Kx} {V : Heap → List Loc → Prop} {nL pc : Nat} {L : List (Nat × Value)} {st : List Value} {cc : ByteArray} {own : String} {ret : Option FieldType} {d : Nat} (C : Cf κ cc nL own ret d) {n : Int} {v : Int32} (hd : decode cc pc = .ok (.bipush n, 2)) (hv : (Int8.ofInt n).toInt32 = v) (k : G κ V nL (pc + 2) L (.int v :: st)) : G κ V nL pc L (st) :=
  fun H locs ls hV hl => lv_bipush C.1.1 C.1.2.1 hd hv (k H locs ls hV hl)
theorem g_sipush {κ : Kx} {V : Heap → List Loc → Prop} {nL pc : Nat} {L : List (Nat × Value)} {st : List Value} {cc : ByteArray} {own : String} {ret : Option FieldType} {d : Nat} (C : Cf κ cc nL own ret d) {n : Int} {v : Int32} (hd : decode cc pc = .ok (.sipush n, 3)) (hv : (Int16.ofInt n).toInt32 = v) (k : G κ V nL (pc + 3) L (.int v :: st)) : G κ V nL pc L (st) :=
  fun H locs ls hV hl => lv_sipush C.1.1 C.1.2.1 hd hv (k H locs ls hV hl)
theorem g_lconst {κ : Kx} {V : Heap → List Loc → Prop} {nL pc : Nat} {L : List (Nat × Value)} {st : List Value} {cc : ByteArray} {own : String} {ret : Option FieldType} {d : Nat} (C : Cf κ cc nL own ret d) {n : Fin 2} {v : Int64} (hd : decode cc pc = .ok (.lconst n, 1)) (hv : Int64.ofNat (n : Nat) = v) (k : G κ V nL (pc + 1) L (.long v :: st)) : G κ V nL pc L (st) :=
  fun H locs ls hV hl => lv_lconst C.1.1 C.1.2.1 hd hv (k H locs ls hV hl)
theorem g_iload_n {κ : Kx} {V : Heap → List Loc → Prop} {nL pc : Nat} {L : List (Nat × Value)} {st : List Value} {cc : ByteArray} {own : String} {ret : Option FieldType} {d : Nat} (C : Cf κ cc nL own ret d) {k : Fin 4} {i j : Nat} {x : Int32} (hd : decode cc pc = .ok (.iload_n k, 1)) (hi : (k : Nat) = i) (hj : L[j]? = some (i, .int x)) (kk : G κ V nL (pc + 1) L (.int x :: st)) : G κ V nL pc L st :=
  fun H locs ls hV hl => lv_iload_n C.1.1 C.1.2.1 hd hi (lv_at hl j hj) (kk H locs ls hV hl)
theorem g_iload {κ : Kx} {V : Heap → List Loc → Prop} {nL pc : Nat} {L : List (Nat × Value)} {st : List Value} {cc : ByteArray} {own : String} {ret : Option FieldType} {d : Nat} (C : Cf κ cc nL own ret d) {i j : Nat} {x : Int32} (hd : decode cc pc = .ok (.iload i, 2)) (hj : L[j]? = some (i, .int x)) (kk : G κ V nL (pc + 2) L (.int x :: st)) : G κ V nL pc L st :=
  fun H locs ls hV hl => lv_iload C.1.1 C.1.2.1 hd (lv_at hl j hj) (kk H locs ls hV hl)
theorem g_lload_n {κ : Kx} {V : Heap → List Loc → Prop} {nL pc : Nat} {L : List (Nat × Value)} {st : List Value} {cc : ByteArray} {own : String} {ret : Option FieldType} {d : Nat} (C : Cf κ cc nL own ret d) {k : Fin 4} {i j : Nat} {x : Int64} (hd : decode cc pc = .ok (.lload_n k, 1)) (hi : (k : Nat) = i) (hj : L[j]? = some (i, .long x)) (kk : G κ V nL (pc + 1) L (.long x :: st)) : G κ V nL pc L st :=
  fun H locs ls hV hl => lv_lload_n C.1.1 C.1.2.1 hd hi (lv_at hl j hj) (kk H locs ls hV hl)
theorem g_lload {κ : Kx} {V : Heap → List Loc → Prop} {nL pc : Nat} {L : List (Nat × Value)} {st : List Value} {cc : ByteArray} {own : String} {ret : Option FieldType} {d : Nat} (C : Cf κ cc nL own ret d) {i j : Nat} {x : Int64} (hd : decode cc pc = .ok (.lload i, 2)) (hj : L[j]? = some (i, .long x)) (kk : G κ V nL (pc + 2) L (.long x :: st)) : G κ V nL pc L st :=
  fun H locs ls hV hl => lv_lload C.1.1 C.1.2.1 hd (lv_at hl j hj) (kk H locs ls hV hl)
theorem g_aload_n {κ : Kx} {V : Heap → List Loc → Prop} {nL pc : Nat} {L : List (Nat × Value)} {st : List Value} {cc : ByteArray} {own : String} {ret : Option FieldType} {d : Nat} (C : Cf κ cc nL own ret d) {k : Fin 4} {i j : Nat} {x : Nat} (hd : decode cc pc = .ok (.aload_n k, 1)) (hi : (k : Nat) = i) (hj : L[j]? = some (i, .ref x)) (kk : G κ V nL (pc + 1) L (.ref x :: st)) : G κ V nL pc L st :=
  fun H locs ls hV hl => lv_aload_n C.1.1 C.1.2.1 hd hi (lv_at hl j hj) (kk H locs ls hV hl)
theorem g_aload {κ : Kx} {V : Heap → List Loc → Prop} {nL pc : Nat} {L : List (Nat × Value)} {st : List Value} {cc : ByteArray} {own : String} {ret : Option FieldType} {d : Nat} (C : Cf κ cc nL own ret d) {i j : Nat} {x : Nat} (hd : decode cc pc = .ok (.aload i, 2)) (hj : L[j]? = some (i, .ref x)) (kk : G κ V nL (pc + 2) L (.ref x :: st)) : G κ V nL pc L st :=
  fun H locs ls hV hl => lv_aload C.1.1 C.1.2.1 hd (lv_at hl j hj) (kk H locs ls hV hl)
theorem g_istore_n {κ : Kx} {V : Heap → List Loc → Prop} {nL pc : Nat} {L : List (Nat × Value)} {st : List Value} {cc : ByteArray} {own : String} {ret : Option FieldType} {d : Nat} (C : Cf κ cc nL own ret d) {k : Fin 4} {i : Nat} {x : Int32} {L' : List (Nat × Value)} (hd : decode cc pc = .ok (.istore_n k, 1)) (hi : (k : Nat) = i) (hn : i < nL) (hL : (i, Value.int x) :: L.filter (fun q => !(q.1 == i) && !(q.1 + 1 == i && q.2.category == 2)) = L') (kk : G κ V nL (pc + 1) L' st) : G κ V nL pc L (.int x :: st) :=
  fun H locs ls hV hl => lv_istore_n C.1.1 C.1.2.1 hd hi hl hn hL (fun ls' hl' => kk H locs ls' hV hl')
theorem g_istore {κ : Kx} {V : Heap → List Loc → Prop} {nL pc : Nat} {L : List (Nat × Value)} {st : List Value} {cc : ByteArray} {own : String} {ret : Option FieldType} {d : Nat} (C : Cf κ cc nL own ret d) {i : Nat} {x : Int32} {L' : List (Nat × Value)} (hd : decode cc pc = .ok (.istore i, 2)) (hn : i < nL) (hL : (i, Value.int x) :: L.filter (fun q => !(q.1 == i) && !(q.1 + 1 == i && q.2.category == 2)) = L') (kk : G κ V nL (pc + 2) L' st) : G κ V nL pc L (.int x :: st) :=
  fun H locs ls hV hl => lv_istore C.1.1 C.1.2.1 hd hl hn hL (fun ls' hl' => kk H locs ls' hV hl')
theorem g_lstore_n {κ : Kx} {V : Heap → List Loc → Prop} {nL pc : Nat} {L : List (Nat × Value)} {st : List Value} {cc : ByteArray} {own : String} {ret : Option FieldType} {d : Nat} (C : Cf κ cc nL own ret d) {k : Fin 4} {i : Nat} {x : Int64} {L' : List (Nat × Value)} (hd : decode cc pc = .ok (.lstore_n k, 1)) (hi : (k : Nat) = i) (hn : i + 1 < nL) (hL : (i, Value.long x) :: L.filter (fun q => !(q.1 == i) && (!(q.1 == i + 1) && !(q.1 + 1 == i && q.2.category == 2))) = L') (kk : G κ V nL (pc + 1) L' st) : G κ V nL pc L (.long x :: st) :=
  fun H locs ls hV hl => lv_lstore_n C.1.1 C.1.2.1 hd hi hl hn hL (fun ls' hl' => kk H locs ls' hV hl')
theorem g_lstore {κ : Kx} {V : Heap → List Loc → Prop} {nL pc : Nat} {L : List (Nat × Value)} {st : List Value} {cc : ByteArray} {own : String} {ret : Option FieldType} {d : Nat} (C : Cf κ cc nL own ret d) {i : Nat} {x : Int64} {L' : List (Nat × Value)} (hd : decode cc pc = .ok (.lstore i, 2)) (hn : i + 1 < nL) (hL : (i, Value.long x) :: L.filter (fun q => !(q.1 == i) && (!(q.1 == i + 1) && !(q.1 + 1 == i && q.2.category == 2))) = L') (kk : G κ V nL (pc + 2) L' st) : G κ V nL pc L (.long x :: st) :=
  fun H locs ls hV hl => lv_lstore C.1.1 C.1.2.1 hd hl hn hL (fun ls' hl' => kk H locs ls' hV hl')
theorem g_iinc {κ : Kx} {V : Heap → List Loc → Prop} {nL pc : Nat} {L : List (Nat × Value)} {st : List Value} {cc : ByteArray} {own : String} {ret : Option FieldType} {d : Nat} (C : Cf κ cc nL own ret d) {i j : Nat} {n : Int} {x v : Int32} {L' : List (Nat × Value)} (hd : decode cc pc = .ok (.iinc i n, 3)) (hj : L[j]? = some (i, .int x)) (hv : x + Int32.ofInt n = v) (hn : i < nL) (hL : (i, Value.int v) :: L.filter (fun q => !(q.1 == i) && !(q.1 + 1 == i && q.2.category == 2)) = L') (kk : G κ V nL (pc + 3) L' st) : G κ V nL pc L st :=
  fun H locs ls hV hl => lv_iinc C.1.1 C.1.2.1 hd hl hj hv hn hL (fun ls' hl' => kk H locs ls' hV hl')
theorem g_iadd {κ : Kx} {V : Heap → List Loc → Prop} {nL pc : Nat} {L : List (Nat × Value)} {st : List Value} {cc : ByteArray} {own : String} {ret : Option FieldType} {d : Nat} (C : Cf κ cc nL own ret d) {x y : Int32} (hd : decode cc pc = .ok (.iadd, 1)) (k : G κ V nL (pc + 1) L (.int (x + y) :: st)) : G κ V nL pc L (.int y :: .int x :: st) :=
  fun H locs ls hV hl => lv_iadd C.1.1 C.1.2.1 hd (k H locs ls hV hl)
theorem g_isub {κ : Kx} {V : Heap → List Loc → Prop} {nL pc : Nat} {L : List (Nat × Value)} {st : List Value} {cc : ByteArray} {own : String} {ret : Option FieldType} {d : Nat} (C : Cf κ cc nL own ret d) {x y : Int32} (hd : decode cc pc = .ok (.isub, 1)) (k : G κ V nL (pc + 1) L (.int (x - y) :: st)) : G κ V nL pc L (.int y :: .int x :: st) :=
  fun H locs ls hV hl => lv_isub C.1.1 C.1.2.1 hd (k H locs ls hV hl)
theorem g_imul {κ : Kx} {V : Heap → List Loc → Prop} {nL pc : Nat} {L : List (Nat × Value)} {st : List Value} {cc : ByteArray} {own : String} {ret : Option FieldType} {d : Nat} (C : Cf κ cc nL own ret d) {x y : Int32} (hd : decode cc pc = .ok (.imul, 1)) (k : G κ V nL (pc + 1) L (.int (x * y) :: st)) : G κ V nL pc L (.int y :: .int x :: st) :=
  fun H locs ls hV hl => lv_imul C.1.1 C.1.2.1 hd (k H locs ls hV hl)
theorem g_iand {κ : Kx} {V : Heap → List Loc → Prop} {nL pc : Nat} {L : List (Nat × Value)} {st : List Value} {cc : ByteArray} {own : String} {ret : Option FieldType} {d : Nat} (C : Cf κ cc nL own ret d) {x y : Int32} (hd : decode cc pc = .ok (.iand, 1)) (k : G κ V nL (pc + 1) L (.int (x &&& y) :: st)) : G κ V nL pc L (.int y :: .int x :: st) :=
  fun H locs ls hV hl => lv_iand C.1.1 C.1.2.1 hd (k H locs ls hV hl)
theorem g_ior {κ : Kx} {V : Heap → List Loc → Prop} {nL pc : Nat} {L : List (Nat × Value)} {st : List Value} {cc : ByteArray} {own : String} {ret : Option FieldType} {d : Nat} (C : Cf κ cc nL own ret d) {x y : Int32} (hd : decode cc pc = .ok (.ior, 1)) (k : G κ V nL (pc + 1) L (.int (x ||| y) :: st)) : G κ V nL pc L (.int y :: .int x :: st) :=
  fun H locs ls hV hl => lv_ior C.1.1 C.1.2.1 hd (k H locs ls hV hl)
theorem g_ixor {κ : Kx} {V : Heap → List Loc → Prop} {nL pc : Nat} {L : List (Nat × Value)} {st : List Value} {cc : ByteArray} {own : String} {ret : Option FieldType} {d : Nat} (C : Cf κ cc nL own ret d) {x y : Int32} (hd : decode cc pc = .ok (.ixor, 1)) (k : G κ V nL (pc + 1) L (.int (x ^^^ y) :: st)) : G κ V nL pc L (.int y :: .int x :: st) :=
  fun H locs ls hV hl => lv_ixor C.1.1 C.1.2.1 hd (k H locs ls hV hl)
theorem g_ladd {κ : Kx} {V : Heap → List Loc → Prop} {nL pc : Nat} {L : List (Nat × Value)} {st : List Value} {cc : ByteArray} {own : String} {ret : Option FieldType} {d : Nat} (C : Cf κ cc nL own ret d) {x y : Int64} (hd : decode cc pc = .ok (.ladd, 1)) (k : G κ V nL (pc + 1) L (.long (x + y) :: st)) : G κ V nL pc L (.long y :: .long x :: st) :=
  fun H locs ls hV hl => lv_ladd C.1.1 C.1.2.1 hd (k H locs ls hV hl)
theorem g_lsub {κ : Kx} {V : Heap → List Loc → Prop} {nL pc : Nat} {L : List (Nat × Value)} {st : List Value} {cc : ByteArray} {own : String} {ret : Option FieldType} {d : Nat} (C : Cf κ cc nL own ret d) {x y : Int64} (hd : decode cc pc = .ok (.lsub, 1)) (k : G κ V nL (pc + 1) L (.long (x - y) :: st)) : G κ V nL pc L (.long y :: .long x :: st) :=
  fun H locs ls hV hl => lv_lsub C.1.1 C.1.2.1 hd (k H locs ls hV hl)
theorem g_lmul {κ : Kx} {V : Heap → List Loc → Prop} {nL pc : Nat} {L : List (Nat × Value)} {st : List Value} {cc : ByteArray} {own : String} {ret : Option FieldType} {d : Nat} (C : Cf κ cc nL own ret d) {x y : Int64} (hd : decode cc pc = .ok (.lmul, 1)) (k : G κ V nL (pc + 1) L (.long (x * y) :: st)) : G κ V nL pc L (.long y :: .long x :: st) :=
  fun H locs ls hV hl => lv_lmul C.1.1 C.1.2.1 hd (k H locs ls hV hl)
theorem g_land {κ : Kx} {V : Heap → List Loc → Prop} {nL pc : Nat} {L : List (Nat × Value)} {st : List Value} {cc : ByteArray} {own : String} {ret : Option FieldType} {d : Nat} (C : Cf κ cc nL own ret d) {x y : Int64} (hd : decode cc pc = .ok (.land, 1)) (k : G κ V nL (pc + 1) L (.long (x &&& y) :: st)) : G κ V nL pc L (.long y :: .long x :: st) :=
  fun H locs ls hV hl => lv_land C.1.1 C.1.2.1 hd (k H locs ls hV hl)
theorem g_lor {κ : Kx} {V : Heap → List Loc → Prop} {nL pc : Nat} {L : List (Nat × Value)} {st : List Value} {cc : ByteArray} {own : String} {ret : Option FieldType} {d : Nat} (C : Cf κ cc nL own ret d) {x y : Int64} (hd : decode cc pc = .ok (.lor, 1)) (k : G κ V nL (pc + 1) L (.long (x ||| y) :: st)) : G κ V nL pc L (.long y :: .long x :: st) :=
  fun H locs ls hV hl => lv_lor C.1.1 C.1.2.1 hd (k H locs ls hV hl)
theorem g_idiv {κ : Kx} {V : Heap → List Loc → Prop} {nL pc : Nat} {L : List (Nat × Value)} {st : List Value} {cc : ByteArray} {own : String} {ret : Option FieldType} {d : Nat} (C : Cf κ cc nL own ret d) {x y : Int32} (hd : decode cc pc = .ok (.idiv, 1)) (hne : ¬ y = 0) (k : G κ V nL (pc + 1) L (.int (jdiv x y) :: st)) : G κ V nL pc L (.int y :: .int x :: st) :=
  fun H locs ls hV hl => lv_idiv C.1.1 C.1.2.1 hd hne (k H locs ls hV hl)
theorem g_irem {κ : Kx} {V : Heap → List Loc → Prop} {nL pc : Nat} {L : List (Nat × Value)} {st : List Value} {cc : ByteArray} {own : String} {ret : Option FieldType} {d : Nat} (C : Cf κ cc nL own ret d) {x y : Int32} (hd : decode cc pc = .ok (.irem, 1)) (hne : ¬ y = 0) (k : G κ V nL (pc + 1) L (.int (jrem x y) :: st)) : G κ V nL pc L (.int y :: .int x :: st) :=
  fun H locs ls hV hl => lv_irem C.1.1 C.1.2.1 hd hne (k H locs ls hV hl)
theorem g_ldiv {κ : Kx} {V : Heap → List Loc → Prop} {nL pc : Nat} {L : List (Nat × Value)} {st : List Value} {cc : ByteArray} {own : String} {ret : Option FieldType} {d : Nat} (C : Cf κ cc nL own ret d) {x y : Int64} (hd : decode cc pc = .ok (.ldiv, 1)) (hne : ¬ y = 0) (k : G κ V nL (pc + 1) L (.long (jldiv x y) :: st)) : G κ V nL pc L (.long y :: .long x :: st) :=
  fun H locs ls hV hl => lv_ldiv C.1.1 C.1.2.1 hd hne (k H locs ls hV hl)
theorem g_lrem {κ : Kx} {V : Heap → List Loc → Prop} {nL pc : Nat} {L : List (Nat × Value)} {st : List Value} {cc : ByteArray} {own : String} {ret : Option FieldType} {d : Nat} (C : Cf κ cc nL own ret d) {x y : Int64} (hd : decode cc pc = .ok (.lrem, 1)) (hne : ¬ y = 0) (k : G κ V nL (pc + 1) L (.long (jlrem x y) :: st)) : G κ V nL pc L (.long y :: .long x :: st) :=
  fun H locs ls hV hl => lv_lrem C.1.1 C.1.2.1 hd hne (k H locs ls hV hl)
theorem g_ineg {κ : Kx} {V : Heap → List Loc → Prop} {nL pc : Nat} {L : List (Nat × Value)} {st : List Value} {cc : ByteArray} {own : String} {ret : Option FieldType} {d : Nat} (C : Cf κ cc nL own ret d) {x : Int32} (hd : decode cc pc = .ok (.ineg, 1)) (k : G κ V nL (pc + 1) L (.int (-x) :: st)) : G κ V nL pc L (.int x :: st) :=
  fun H locs ls hV hl => lv_ineg C.1.1 C.1.2.1 hd (k H locs ls hV hl)
theorem g_lneg {κ : Kx} {V : Heap → List Loc → Prop} {nL pc : Nat} {L : List (Nat × Value)} {st : List Value} {cc : ByteArray} {own : String} {ret : Option FieldType} {d : Nat} (C : Cf κ cc nL own ret d) {x : Int64} (hd : decode cc pc = .ok (.lneg, 1)) (k : G κ V nL (pc + 1) L (.long (-x) :: st)) : G κ V nL pc L (.long x :: st) :=
  fun H locs ls hV hl => lv_lneg C.1.1 C.1.2.1 hd (k H locs ls hV hl)
theorem g_ishl {κ : Kx} {V : Heap → List Loc → Prop} {nL pc : Nat} {L : List (Nat × Value)} {st : List Value} {cc : ByteArray} {own : String} {ret : Option FieldType} {d : Nat} (C : Cf κ cc nL own ret d) {x y : Int32} (hd : decode cc pc = .ok (.ishl, 1)) (k : G κ V nL (pc + 1) L (.int (jshl x y) :: st)) : G κ V nL pc L (.int y :: .int x :: st) :=
  fun H locs ls hV hl => lv_ishl C.1.1 C.1.2.1 hd (k H locs ls hV hl)
theorem g_ishr {κ : Kx} {V : Heap → List Loc → Prop} {nL pc : Nat} {L : List (Nat × Value)} {st : List Value} {cc : ByteArray} {own : String} {ret : Option FieldType} {d : Nat} (C : Cf κ cc nL own ret d) {x y : Int32} (hd : decode cc pc = .ok (.ishr, 1)) (k : G κ V nL (pc + 1) L (.int (jshr x y) :: st)) : G κ V nL pc L (.int y :: .int x :: st) :=
  fun H locs ls hV hl => lv_ishr C.1.1 C.1.2.1 hd (k H locs ls hV hl)
theorem g_iushr {κ : Kx} {V : Heap → List Loc → Prop} {nL pc : Nat} {L : List (Nat × Value)} {st : List Value} {cc : ByteArray} {own : String} {ret : Option FieldType} {d : Nat} (C : Cf κ cc nL own ret d) {x y : Int32} (hd : decode cc pc = .ok (.iushr, 1)) (k : G κ V nL (pc + 1) L (.int (jushr x y) :: st)) : G κ V nL pc L (.int y :: .int x :: st) :=
  fun H locs ls hV hl => lv_iushr C.1.1 C.1.2.1 hd rfl (k H locs ls hV hl)
theorem g_lshl {κ : Kx} {V : Heap → List Loc → Prop} {nL pc : Nat} {L : List (Nat × Value)} {st : List Value} {cc : ByteArray} {own : String} {ret : Option FieldType} {d : Nat} (C : Cf κ cc nL own ret d) {x : Int64} {y : Int32} (hd : decode cc pc = .ok (.lshl, 1)) (k : G κ V nL (pc + 1) L (.long (jlshl x y) :: st)) : G κ V nL pc L (.int y :: .long x :: st) :=
  fun H locs ls hV hl => lv_lshl C.1.1 C.1.2.1 hd rfl (k H locs ls hV hl)
theorem g_lshr {κ : Kx} {V : Heap → List Loc → Prop} {nL pc : Nat} {L : List (Nat × Value)} {st : List Value} {cc : ByteArray} {own : String} {ret : Option FieldType} {d : Nat} (C : Cf κ cc nL own ret d) {x : Int64} {y : Int32} (hd : decode cc pc = .ok (.lshr, 1)) (k : G κ V nL (pc + 1) L (.long (jlshr x y) :: st)) : G κ V nL pc L (.int y :: .long x :: st) :=
  fun H locs ls hV hl => lv_lshr C.1.1 C.1.2.1 hd rfl (k H locs ls hV hl)
theorem g_lushr {κ : Kx} {V : Heap → List Loc → Prop} {nL pc : Nat} {L : List (Nat × Value)} {st : List Value} {cc : ByteArray} {own : String} {ret : Option FieldType} {d : Nat} (C : Cf κ cc nL own ret d) {x : Int64} {y : Int32} (hd : decode cc pc = .ok (.lushr, 1)) (k : G κ V nL (pc + 1) L (.long (jlushr x y) :: st)) : G κ V nL pc L (.int y :: .long x :: st) :=
  fun H locs ls hV hl => lv_lushr C.1.1 C.1.2.1 hd rfl (k H locs ls hV hl)
theorem g_i2l {κ : Kx} {V : Heap → List Loc → Prop} {nL pc : Nat} {L : List (Nat × Value)} {st : List Value} {cc : ByteArray} {own : String} {ret : Option FieldType} {d : Nat} (C : Cf κ cc nL own ret d) {x : Int32} (hd : decode cc pc = .ok (.i2l, 1)) (k : G κ V nL (pc + 1) L (.long (x.toInt64) :: st)) : G κ V nL pc L (.int x :: st) :=
  fun H locs ls hV hl => lv_i2l C.1.1 C.1.2.1 hd rfl (k H locs ls hV hl)
theorem g_l2i {κ : Kx} {V : Heap → List Loc → Prop} {nL pc : Nat} {L : List (Nat × Value)} {st : List Value} {cc : ByteArray} {own : String} {ret : Option FieldType} {d : Nat} (C : Cf κ cc nL own ret d) {x : Int64} (hd : decode cc pc = .ok (.l2i, 1)) (k : G κ V nL (pc + 1) L (.int (x.toInt32) :: st)) : G κ V nL pc L (.long x :: st) :=
  fun H locs ls hV hl => lv_l2i C.1.1 C.1.2.1 hd rfl (k H locs ls hV hl)
theorem g_i2b {κ : Kx} {V : Heap → List Loc → Prop} {nL pc : Nat} {L : List (Nat × Value)} {st : List Value} {cc : ByteArray} {own : String} {ret : Option FieldType} {d : Nat} (C : Cf κ cc nL own ret d) {x : Int32} (hd : decode cc pc = .ok (.i2b, 1)) (k : G κ V nL (pc + 1) L (.int (ji2b x) :: st)) : G κ V nL pc L (.int x :: st) :=
  fun H locs ls hV hl => lv_i2b C.1.1 C.1.2.1 hd rfl (k H locs ls hV hl)
theorem g_i2s {κ : Kx} {V : Heap → List Loc → Prop} {nL pc : Nat} {L : List (Nat × Value)} {st : List Value} {cc : ByteArray} {own : String} {ret : Option FieldType} {d : Nat} (C : Cf κ cc nL own ret d) {x : Int32} (hd : decode cc pc = .ok (.i2s, 1)) (k : G κ V nL (pc + 1) L (.int (ji2s x) :: st)) : G κ V nL pc L (.int x :: st) :=
  fun H locs ls hV hl => lv_i2s C.1.1 C.1.2.1 hd rfl (k H locs ls hV hl)
theorem g_i2c {κ : Kx} {V : Heap → List Loc → Prop} {nL pc : Nat} {L : List (Nat × Value)} {st : List Value} {cc : ByteArray} {own : String} {ret : Option FieldType} {d : Nat} (C : Cf κ cc nL own ret d) {x : Int32} (hd : decode cc pc = .ok (.i2c, 1)) (k : G κ V nL (pc + 1) L (.int (ji2c x) :: st)) : G κ V nL pc L (.int x :: st) :=
  fun H locs ls hV hl => lv_i2c C.1.1 C.1.2.1 hd rfl (k H locs ls hV hl)
theorem g_dup {κ : Kx} {V : Heap → List Loc → Prop} {nL pc : Nat} {L : List (Nat × Value)} {st : List Value} {cc : ByteArray} {own : String} {ret : Option FieldType} {d : Nat} (C : Cf κ cc nL own ret d) {a : Value} (hd : decode cc pc = .ok (.dup, 1)) (hc : a.category = 1) (k : G κ V nL (pc + 1) L (a :: a :: st)) : G κ V nL pc L (a :: st) :=
  fun H locs ls hV hl => lv_dup C.1.1 C.1.2.1 hd hc (k H locs ls hV hl)
theorem g_dup2 {κ : Kx} {V : Heap → List Loc → Prop} {nL pc : Nat} {L : List (Nat × Value)} {st : List Value} {cc : ByteArray} {own : String} {ret : Option FieldType} {d : Nat} (C : Cf κ cc nL own ret d) {a b : Value} (hd : decode cc pc = .ok (.dup2, 1)) (ha : a.category = 1) (hb : b.category = 1) (k : G κ V nL (pc + 1) L (a :: b :: a :: b :: st)) : G κ V nL pc L (a :: b :: st) :=
  fun H locs ls hV hl => lv_dup2_11 C.1.1 C.1.2.1 hd ha hb (k H locs ls hV hl)
theorem g_pop {κ : Kx} {V : Heap → List Loc → Prop} {nL pc : Nat} {L : List (Nat × Value)} {st : List Value} {cc : ByteArray} {own : String} {ret : Option FieldType} {d : Nat} (C : Cf κ cc nL own ret d) {a : Value} (hd : decode cc pc = .ok (.pop, 1)) (hc : a.category = 1) (k : G κ V nL (pc + 1) L (st)) : G κ V nL pc L (a :: st) :=
  fun H locs ls hV hl => lv_pop C.1.1 C.1.2.1 hd hc (k H locs ls hV hl)
theorem g_if_eq {κ : Kx} {V : Heap → List Loc → Prop} {nL pc : Nat} {L : List (Nat × Value)} {st : List Value} {cc : ByteArray} {own : String} {ret : Option FieldType} {d : Nat} (C : Cf κ cc nL own ret d) {α : Type} {A B : Option α} {out : α} {x : Int32} {off : Int} {tgt : Nat} (hd : decode cc pc = .ok (.ifCond .eq off, 3)) (ht : (pc : Int) + off = (tgt : Int)) (hf : (if x = 0 then A else B) = some out) (kt : x = 0 → A = some out → G κ V nL tgt L st) (kf : ¬ x = 0 → B = some out → G κ V nL (pc + 3) L st) : G κ V nL pc L (.int x :: st) :=
  fun H locs ls hV hl => lv_if_eq C.1.1 C.1.2.1 hd ht (fun h => kt h (by rw [if_pos h] at hf; exact hf) H locs ls hV hl) (fun h => kf h (by rw [if_neg h] at hf; exact hf) H locs ls hV hl)
theorem g_icmp_eq {κ : Kx} {V : Heap → List Loc → Prop} {nL pc : Nat} {L : List (Nat × Value)} {st : List Value} {cc : ByteArray} {own : String} {ret : Option FieldType} {d : Nat} (C : Cf κ cc nL own ret d) {α : Type} {A B : Option α} {out : α} {x y : Int32} {off : Int} {tgt : Nat} (hd : decode cc pc = .ok (.if_icmp .eq off, 3)) (ht : (pc : Int) + off = (tgt : Int)) (hf : (if x = y then A else B) = some out) (kt : x = y → A = some out → G κ V nL tgt L st) (kf : ¬ x = y → B = some out → G κ V nL (pc + 3) L st) : G κ V nL pc L (.int y :: .int x :: st) :=
  fun H locs ls hV hl => lv_icmp_eq C.1.1 C.1.2.1 hd ht (fun h => kt h (by rw [if_pos h] at hf; exact hf) H locs ls hV hl) (fun h => kf h (by rw [if_neg h] at hf; exact hf) H locs ls hV hl)
theorem g_if_lt {κ : Kx} {V : Heap → List Loc → Prop} {nL pc : Nat} {L : List (Nat × Value)} {st : List Value} {cc : ByteArray} {own : String} {ret : Option FieldType} {d : Nat} (C : Cf κ cc nL own ret d) {α : Type} {A B : Option α} {out : α} {x : Int32} {off : Int} {tgt : Nat} (hd : decode cc pc = .ok (.ifCond .lt off, 3)) (ht : (pc : Int) + off = (tgt : Int)) (hf : (if x < 0 then A else B) = some out) (kt : x < 0 → A = some out → G κ V nL tgt L st) (kf : ¬ x < 0 → B = some out → G κ V nL (pc + 3) L st) : G κ V nL pc L (.int x :: st) :=
  fun H locs ls hV hl => lv_if_lt C.1.1 C.1.2.1 hd ht (fun h => kt h (by rw [if_pos h] at hf; exact hf) H locs ls hV hl) (fun h => kf h (by rw [if_neg h] at hf; exact hf) H locs ls hV hl)
theorem g_icmp_lt {κ : Kx} {V : Heap → List Loc → Prop} {nL pc : Nat} {L : List (Nat × Value)} {st : List Value} {cc : ByteArray} {own : String} {ret : Option FieldType} {d : Nat} (C : Cf κ cc nL own ret d) {α : Type} {A B : Option α} {out : α} {x y : Int32} {off : Int} {tgt : Nat} (hd : decode cc pc = .ok (.if_icmp .lt off, 3)) (ht : (pc : Int) + off = (tgt : Int)) (hf : (if x < y then A else B) = some out) (kt : x < y → A = some out → G κ V nL tgt L st) (kf : ¬ x < y → B = some out → G κ V nL (pc + 3) L st) : G κ V nL pc L (.int y :: .int x :: st) :=
  fun H locs ls hV hl => lv_icmp_lt C.1.1 C.1.2.1 hd ht (fun h => kt h (by rw [if_pos h] at hf; exact hf) H locs ls hV hl) (fun h => kf h (by rw [if_neg h] at hf; exact hf) H locs ls hV hl)
theorem g_if_ge {κ : Kx} {V : Heap → List Loc → Prop} {nL pc : Nat} {L : List (Nat × Value)} {st : List Value} {cc : ByteArray} {own : String} {ret : Option FieldType} {d : Nat} (C : Cf κ cc nL own ret d) {α : Type} {A B : Option α} {out : α} {x : Int32} {off : Int} {tgt : Nat} (hd : decode cc pc = .ok (.ifCond .ge off, 3)) (ht : (pc : Int) + off = (tgt : Int)) (hf : (if 0 ≤ x then A else B) = some out) (kt : 0 ≤ x → A = some out → G κ V nL tgt L st) (kf : ¬ 0 ≤ x → B = some out → G κ V nL (pc + 3) L st) : G κ V nL pc L (.int x :: st) :=
  fun H locs ls hV hl => lv_if_ge C.1.1 C.1.2.1 hd ht (fun h => kt h (by rw [if_pos h] at hf; exact hf) H locs ls hV hl) (fun h => kf h (by rw [if_neg h] at hf; exact hf) H locs ls hV hl)
theorem g_icmp_ge {κ : Kx} {V : Heap → List Loc → Prop} {nL pc : Nat} {L : List (Nat × Value)} {st : List Value} {cc : ByteArray} {own : String} {ret : Option FieldType} {d : Nat} (C : Cf κ cc nL own ret d) {α : Type} {A B : Option α} {out : α} {x y : Int32} {off : Int} {tgt : Nat} (hd : decode cc pc = .ok (.if_icmp .ge off, 3)) (ht : (pc : Int) + off = (tgt : Int)) (hf : (if y ≤ x then A else B) = some out) (kt : y ≤ x → A = some out → G κ V nL tgt L st) (kf : ¬ y ≤ x → B = some out → G κ V nL (pc + 3) L st) : G κ V nL pc L (.int y :: .int x :: st) :=
  fun H locs ls hV hl => lv_icmp_ge C.1.1 C.1.2.1 hd ht (fun h => kt h (by rw [if_pos h] at hf; exact hf) H locs ls hV hl) (fun h => kf h (by rw [if_neg h] at hf; exact hf) H locs ls hV hl)
theorem g_if_gt {κ : Kx} {V : Heap → List Loc → Prop} {nL pc : Nat} {L : List (Nat × Value)} {st : List Value} {cc : ByteArray} {own : String} {ret : Option FieldType} {d : Nat} (C : Cf κ cc nL own ret d) {α : Type} {A B : Option α} {out : α} {x : Int32} {off : Int} {tgt : Nat} (hd : decode cc pc = .ok (.ifCond .gt off, 3)) (ht : (pc : Int) + off = (tgt : Int)) (hf : (if 0 < x then A else B) = some out) (kt : 0 < x → A = some out → G κ V nL tgt L st) (kf : ¬ 0 < x → B = some out → G κ V nL (pc + 3) L st) : G κ V nL pc L (.int x :: st) :=
  fun H locs ls hV hl => lv_if_gt C.1.1 C.1.2.1 hd ht (fun h => kt h (by rw [if_pos h] at hf; exact hf) H locs ls hV hl) (fun h => kf h (by rw [if_neg h] at hf; exact hf) H locs ls hV hl)
theorem g_icmp_gt {κ : Kx} {V : Heap → List Loc → Prop} {nL pc : Nat} {L : List (Nat × Value)} {st : List Value} {cc : ByteArray} {own : String} {ret : Option FieldType} {d : Nat} (C : Cf κ cc nL own ret d) {α : Type} {A B : Option α} {out : α} {x y : Int32} {off : Int} {tgt : Nat} (hd : decode cc pc = .ok (.if_icmp .gt off, 3)) (ht : (pc : Int) + off = (tgt : Int)) (hf : (if y < x then A else B) = some out) (kt : y < x → A = some out → G κ V nL tgt L st) (kf : ¬ y < x → B = some out → G κ V nL (pc + 3) L st) : G κ V nL pc L (.int y :: .int x :: st) :=
  fun H locs ls hV hl => lv_icmp_gt C.1.1 C.1.2.1 hd ht (fun h => kt h (by rw [if_pos h] at hf; exact hf) H locs ls hV hl) (fun h => kf h (by rw [if_neg h] at hf; exact hf) H locs ls hV hl)
theorem g_if_le {κ : Kx} {V : Heap → List Loc → Prop} {nL pc : Nat} {L : List (Nat × Value)} {st : List Value} {cc : ByteArray} {own : String} {ret : Option FieldType} {d : Nat} (C : Cf κ cc nL own ret d) {α : Type} {A B : Option α} {out : α} {x : Int32} {off : Int} {tgt : Nat} (hd : decode cc pc = .ok (.ifCond .le off, 3)) (ht : (pc : Int) + off = (tgt : Int)) (hf : (if x ≤ 0 then A else B) = some out) (kt : x ≤ 0 → A = some out → G κ V nL tgt L st) (kf : ¬ x ≤ 0 → B = some out → G κ V nL (pc + 3) L st) : G κ V nL pc L (.int x :: st) :=
  fun H locs ls hV hl => lv_if_le C.1.1 C.1.2.1 hd ht (fun h => kt h (by rw [if_pos h] at hf; exact hf) H locs ls hV hl) (fun h => kf h (by rw [if_neg h] at hf; exact hf) H locs ls hV hl)
theorem g_icmp_le {κ : Kx} {V : Heap → List Loc → Prop} {nL pc : Nat} {L : List (Nat × Value)} {st : List Value} {cc : ByteArray} {own : String} {ret : Option FieldType} {d : Nat} (C : Cf κ cc nL own ret d) {α : Type} {A B : Option α} {out : α} {x y : Int32} {off : Int} {tgt : Nat} (hd : decode cc pc = .ok (.if_icmp .le off, 3)) (ht : (pc : Int) + off = (tgt : Int)) (hf : (if x ≤ y then A else B) = some out) (kt : x ≤ y → A = some out → G κ V nL tgt L st) (kf : ¬ x ≤ y → B = some out → G κ V nL (pc + 3) L st) : G κ V nL pc L (.int y :: .int x :: st) :=
  fun H locs ls hV hl => lv_icmp_le C.1.1 C.1.2.1 hd ht (fun h => kt h (by rw [if_pos h] at hf; exact hf) H locs ls hV hl) (fun h => kf h (by rw [if_neg h] at hf; exact hf) H locs ls hV hl)
theorem g_if_ne {κ : Kx} {V : Heap → List Loc → Prop} {nL pc : Nat} {L : List (Nat × Value)} {st : List Value} {cc : ByteArray} {own : String} {ret : Option FieldType} {d : Nat} (C : Cf κ cc nL own ret d) {α : Type} {A B : Option α} {out : α} {x : Int32} {off : Int} {tgt : Nat} (hd : decode cc pc = .ok (.ifCond .ne off, 3)) (ht : (pc : Int) + off = (tgt : Int)) (hf : (if x = 0 then B else A) = some out) (kt : ¬ x = 0 → A = some out → G κ V nL tgt L st) (kf : x = 0 → B = some out → G κ V nL (pc + 3) L st) : G κ V nL pc L (.int x :: st) :=
  fun H locs ls hV hl => lv_if_ne C.1.1 C.1.2.1 hd ht (fun h => kt h (by rw [if_neg h] at hf; exact hf) H locs ls hV hl) (fun h => kf h (by rw [if_pos h] at hf; exact hf) H locs ls hV hl)
theorem g_icmp_ne {κ : Kx} {V : Heap → List Loc → Prop} {nL pc : Nat} {L : List (Nat × Value)} {st : List Value} {cc : ByteArray} {own : String} {ret : Option FieldType} {d : Nat} (C : Cf κ cc nL own ret d) {α : Type} {A B : Option α} {out : α} {x y : Int32} {off : Int} {tgt : Nat} (hd : decode cc pc = .ok (.if_icmp .ne off, 3)) (ht : (pc : Int) + off = (tgt : Int)) (hf : (if x = y then B else A) = some out) (kt : ¬ x = y → A = some out → G κ V nL tgt L st) (kf : x = y → B = some out → G κ V nL (pc + 3) L st) : G κ V nL pc L (.int y :: .int x :: st) :=
  fun H locs ls hV hl => lv_icmp_ne C.1.1 C.1.2.1 hd ht (fun h => kt h (by rw [if_neg h] at hf; exact hf) H locs ls hV hl) (fun h => kf h (by rw [if_pos h] at hf; exact hf) H locs ls hV hl)
theorem lgc_lt {x y : Int64} : lg_cmp x y < 0 ↔ x < y := by
  unfold lg_cmp
  by_cases h1 : x > y
  · rw [if_pos h1]; exact ⟨fun h => absurd h (by decide), fun h => absurd (Int64.lt_trans h h1) (Int64.lt_irrefl)⟩
  · rw [if_neg h1]
    by_cases h2 : x = y
    · rw [if_pos h2]; subst h2; exact ⟨fun h => absurd h (by decide), fun h => absurd h (Int64.lt_irrefl)⟩
    · rw [if_neg h2]; refine ⟨fun _ => ?_, fun _ => by decide⟩
      exact Int64.lt_of_le_of_ne (Int64.not_lt.mp h1) h2
theorem lgc_eq {x y : Int64} : lg_cmp x y = 0 ↔ x = y := by
  unfold lg_cmp
  by_cases h1 : x > y
  · rw [if_pos h1]; exact ⟨fun h => absurd h (by decide), fun h => absurd (h ▸ h1 : y > y) (Int64.lt_irrefl)⟩
  · rw [if_neg h1]
    by_cases h2 : x = y
    · rw [if_pos h2]; exact ⟨fun _ => h2, fun _ => rfl⟩
    · rw [if_neg h2]; exact ⟨fun h => absurd h (by decide), fun h => absurd h h2⟩
theorem lgc_gt {x y : Int64} : 0 < lg_cmp x y ↔ y < x := by
  unfold lg_cmp
  by_cases h1 : x > y
  · rw [if_pos h1]; exact ⟨fun _ => h1, fun _ => by decide⟩
  · rw [if_neg h1]
    by_cases h2 : x = y
    · rw [if_pos h2]; exact ⟨fun h => absurd h (by decide), fun h => absurd h h1⟩
    · rw [if_neg h2]; exact ⟨fun h => absurd h (by decide), fun h => absurd h h1⟩
theorem lgc_ge {x y : Int64} : 0 ≤ lg_cmp x y ↔ y ≤ x := by
  rw [← Int32.not_lt, lgc_lt, Int64.not_lt]
theorem lgc_le {x y : Int64} : lg_cmp x y ≤ 0 ↔ x ≤ y := by
  rw [← Int32.not_lt, lgc_gt, Int64.not_lt]
theorem g_lcmp_eq {κ : Kx} {V : Heap → List Loc → Prop} {nL pc : Nat} {L : List (Nat × Value)} {st : List Value} {cc : ByteArray} {own : String} {ret : Option FieldType} {d : Nat} (C : Cf κ cc nL own ret d) {α : Type} {A B : Option α} {out : α} {x y : Int64} {off : Int} {tgt : Nat} (hd0 : decode cc pc = .ok (.lcmp, 1)) (hd : decode cc (pc + 1) = .ok (.ifCond .eq off, 3)) (ht : ((pc + 1 : Nat) : Int) + off = (tgt : Int)) (hf : (if x = y then A else B) = some out) (kt : x = y → A = some out → G κ V nL tgt L st) (kf : ¬ x = y → B = some out → G κ V nL (pc + 1 + 3) L st) : G κ V nL pc L (.long y :: .long x :: st) :=
  fun H locs ls hV hl => W.lcmp C.1.1 C.1.2.1 hd0 (lv_if_eq C.1.1 C.1.2.1 hd ht (fun h => kt (lgc_eq.mp h) (by rw [if_pos (lgc_eq.mp h)] at hf; exact hf) H locs ls hV hl) (fun h => kf (fun z => h (lgc_eq.mpr z)) (by rw [if_neg (fun z => h (lgc_eq.mpr z))] at hf; exact hf) H locs ls hV hl))
theorem g_lcmp_lt {κ : Kx} {V : Heap → List Loc → Prop} {nL pc : Nat} {L : List (Nat × Value)} {st : List Value} {cc : ByteArray} {own : String} {ret : Option FieldType} {d : Nat} (C : Cf κ cc nL own ret d) {α : Type} {A B : Option α} {out : α} {x y : Int64} {off : Int} {tgt : Nat} (hd0 : decode cc pc = .ok (.lcmp, 1)) (hd : decode cc (pc + 1) = .ok (.ifCond .lt off, 3)) (ht : ((pc + 1 : Nat) : Int) + off = (tgt : Int)) (hf : (if x < y then A else B) = some out) (kt : x < y → A = some out → G κ V nL tgt L st) (kf : ¬ x < y → B = some out → G κ V nL (pc + 1 + 3) L st) : G κ V nL pc L (.long y :: .long x :: st) :=
  fun H locs ls hV hl => W.lcmp C.1.1 C.1.2.1 hd0 (lv_if_lt C.1.1 C.1.2.1 hd ht (fun h => kt (lgc_lt.mp h) (by rw [if_pos (lgc_lt.mp h)] at hf; exact hf) H locs ls hV hl) (fun h => kf (fun z => h (lgc_lt.mpr z)) (by rw [if_neg (fun z => h (lgc_lt.mpr z))] at hf; exact hf) H locs ls hV hl))
theorem g_lcmp_ge {κ : Kx} {V : Heap → List Loc → Prop} {nL pc : Nat} {L : List (Nat × Value)} {st : List Value} {cc : ByteArray} {own : String} {ret : Option FieldType} {d : Nat} (C : Cf κ cc nL own ret d) {α : Type} {A B : Option α} {out : α} {x y : Int64} {off : Int} {tgt : Nat} (hd0 : decode cc pc = .ok (.lcmp, 1)) (hd : decode cc (pc + 1) = .ok (.ifCond .ge off, 3)) (ht : ((pc + 1 : Nat) : Int) + off = (tgt : Int)) (hf : (if y ≤ x then A else B) = some out) (kt : y ≤ x → A = some out → G κ V nL tgt L st) (kf : ¬ y ≤ x → B = some out → G κ V nL (pc + 1 + 3) L st) : G κ V nL pc L (.long y :: .long x :: st) :=
  fun H locs ls hV hl => W.lcmp C.1.1 C.1.2.1 hd0 (lv_if_ge C.1.1 C.1.2.1 hd ht (fun h => kt (lgc_ge.mp h) (by rw [if_pos (lgc_ge.mp h)] at hf; exact hf) H locs ls hV hl) (fun h => kf (fun z => h (lgc_ge.mpr z)) (by rw [if_neg (fun z => h (lgc_ge.mpr z))] at hf; exact hf) H locs ls hV hl))
theorem g_lcmp_gt {κ : Kx} {V : Heap → List Loc → Prop} {nL pc : Nat} {L : List (Nat × Value)} {st : List Value} {cc : ByteArray} {own : String} {ret : Option FieldType} {d : Nat} (C : Cf κ cc nL own ret d) {α : Type} {A B : Option α} {out : α} {x y : Int64} {off : Int} {tgt : Nat} (hd0 : decode cc pc = .ok (.lcmp, 1)) (hd : decode cc (pc + 1) = .ok (.ifCond .gt off, 3)) (ht : ((pc + 1 : Nat) : Int) + off = (tgt : Int)) (hf : (if y < x then A else B) = some out) (kt : y < x → A = some out → G κ V nL tgt L st) (kf : ¬ y < x → B = some out → G κ V nL (pc + 1 + 3) L st) : G κ V nL pc L (.long y :: .long x :: st) :=
  fun H locs ls hV hl => W.lcmp C.1.1 C.1.2.1 hd0 (lv_if_gt C.1.1 C.1.2.1 hd ht (fun h => kt (lgc_gt.mp h) (by rw [if_pos (lgc_gt.mp h)] at hf; exact hf) H locs ls hV hl) (fun h => kf (fun z => h (lgc_gt.mpr z)) (by rw [if_neg (fun z => h (lgc_gt.mpr z))] at hf; exact hf) H locs ls hV hl))
theorem g_lcmp_le {κ : Kx} {V : Heap → List Loc → Prop} {nL pc : Nat} {L : List (Nat × Value)} {st : List Value} {cc : ByteArray} {own : String} {ret : Option FieldType} {d : Nat} (C : Cf κ cc nL own ret d) {α : Type} {A B : Option α} {out : α} {x y : Int64} {off : Int} {tgt : Nat} (hd0 : decode cc pc = .ok (.lcmp, 1)) (hd : decode cc (pc + 1) = .ok (.ifCond .le off, 3)) (ht : ((pc + 1 : Nat) : Int) + off = (tgt : Int)) (hf : (if x ≤ y then A else B) = some out) (kt : x ≤ y → A = some out → G κ V nL tgt L st) (kf : ¬ x ≤ y → B = some out → G κ V nL (pc + 1 + 3) L st) : G κ V nL pc L (.long y :: .long x :: st) :=
  fun H locs ls hV hl => W.lcmp C.1.1 C.1.2.1 hd0 (lv_if_le C.1.1 C.1.2.1 hd ht (fun h => kt (lgc_le.mp h) (by rw [if_pos (lgc_le.mp h)] at hf; exact hf) H locs ls hV hl) (fun h => kf (fun z => h (lgc_le.mpr z)) (by rw [if_neg (fun z => h (lgc_le.mpr z))] at hf; exact hf) H locs ls hV hl))
theorem g_lcmp_ne {κ : Kx} {V : Heap → List Loc → Prop} {nL pc : Nat} {L : List (Nat × Value)} {st : List Value} {cc : ByteArray} {own : String} {ret : Option FieldType} {d : Nat} (C : Cf κ cc nL own ret d) {α : Type} {A B : Option α} {out : α} {x y : Int64} {off : Int} {tgt : Nat} (hd0 : decode cc pc = .ok (.lcmp, 1)) (hd : decode cc (pc + 1) = .ok (.ifCond .ne off, 3)) (ht : ((pc + 1 : Nat) : Int) + off = (tgt : Int)) (hf : (if x = y then B else A) = some out) (kt : ¬ x = y → A = some out → G κ V nL tgt L st) (kf : x = y → B = some out → G κ V nL (pc + 1 + 3) L st) : G κ V nL pc L (.long y :: .long x :: st) :=
  fun H locs ls hV hl => W.lcmp C.1.1 C.1.2.1 hd0 (lv_if_ne C.1.1 C.1.2.1 hd ht (fun h => kt (fun z => h (lgc_eq.mpr z)) (by rw [if_neg (fun z => h (lgc_eq.mpr z))] at hf; exact hf) H locs ls hV hl) (fun h => kf (lgc_eq.mp h) (by rw [if_pos (lgc_eq.mp h)] at hf; exact hf) H locs ls hV hl))
theorem g_goto {κ : Kx} {V : Heap → List Loc → Prop} {nL pc : Nat} {L : List (Nat × Value)} {st : List Value} {cc : ByteArray} {own : String} {ret : Option FieldType} {d : Nat} (C : Cf κ cc nL own ret d) {off : Int} {tgt : Nat} (hd : decode cc pc = .ok (.goto off, 3)) (ht : (pc : Int) + off = (tgt : Int)) (k : G κ V nL tgt L st) : G κ V nL pc L st :=
  fun H locs ls hV hl => lv_goto C.1.1 C.1.2.1 hd ht (k H locs ls hV hl)
theorem g_at {κ : Kx} {V : Heap → List Loc → Prop} {nL pc : Nat} {L L' : List (Nat × Value)} {st : List Value} (ks : List Nat) (hL : lv_pick L ks = L') (k : G κ V nL pc L' st) : G κ V nL pc L st :=
  fun H locs ls hV hl => k H locs ls hV (lv_sub hl ks hL)
theorem g_tabIn {κ : Kx} {V : Heap → List Loc → Prop} {nL pc : Nat} {L : List (Nat × Value)} {st : List Value} {cc : ByteArray} {own : String} {ret : Option FieldType} {d : Nat} (C : Cf κ cc nL own ret d) {x v : Int32} {dflt lo hi : Int} {offs : Array Int} {len : Nat} {off : Int} {tgt : Nat} (hd : decode cc pc = .ok (.tableswitch dflt lo hi offs, len)) (hx : x = v) (hc : (decide (lo ≤ v.toInt) && decide (v.toInt ≤ hi) && decide (offs[(v.toInt - lo).toNat]? = some off)) = true) (ht : (pc : Int) + off = (tgt : Int)) (k : G κ V nL tgt L st) : G κ V nL pc L (.int x :: st) := by
  subst hx
  simp only [Bool.and_eq_true, decide_eq_true_eq] at hc
  exact fun H locs ls hV hl => lv_tableIn C.1.1 C.1.2.1 hd (by omega) (by omega) hc.2 ht (k H locs ls hV hl)
theorem g_tabOut {κ : Kx} {V : Heap → List Loc → Prop} {nL pc : Nat} {L : List (Nat × Value)} {st : List Value} {cc : ByteArray} {own : String} {ret : Option FieldType} {d : Nat} (C : Cf κ cc nL own ret d) {x : Int32} {dflt lo hi : Int} {offs : Array Int} {len : Nat} {tgt : Nat} (hd : decode cc pc = .ok (.tableswitch dflt lo hi offs, len)) (hx : x.toInt < lo ∨ hi < x.toInt) (ht : (pc : Int) + dflt = (tgt : Int)) (k : G κ V nL tgt L st) : G κ V nL pc L (.int x :: st) :=
  fun H locs ls hV hl => lv_tableOut C.1.1 C.1.2.1 hd hx ht (k H locs ls hV hl)
theorem g_look {κ : Kx} {V : Heap → List Loc → Prop} {nL pc : Nat} {L : List (Nat × Value)} {st : List Value} {cc : ByteArray} {own : String} {ret : Option FieldType} {d : Nat} (C : Cf κ cc nL own ret d) {x : Int32} {dflt : Int} {ps : Array (Int × Int)} {len : Nat} {off : Int} {tgt : Nat} (hd : decode cc pc = .ok (.lookupswitch dflt ps, len)) (hp : (ps.toList.zip (ps.toList.drop 1)).all (fun (a, next) => a.1 < next.1) = true) (ho : Op.lookupswitch.offset ps.toList dflt x.toInt = off) (ht : (pc : Int) + off = (tgt : Int)) (k : G κ V nL tgt L st) : G κ V nL pc L (.int x :: st) :=
  fun H locs ls hV hl => lv_lookup C.1.1 C.1.2.1 hd hp ho ht (k H locs ls hV hl)
theorem i32_ne {x v : Int32} {n : Int} (h : ¬ x = v) (hv : v.toInt = n) : x.toInt ≠ n := fun z => h (Int32.toInt_inj.mp (z.trans hv.symm))
theorem ite_t {α : Type} {c : Prop} [Decidable c] {A B : Option α} {o : α} (h : c) (hf : (if c then A else B) = some o) : A = some o := by rw [if_pos h] at hf; exact hf
theorem ite_f {α : Type} {c : Prop} [Decidable c] {A B : Option α} {o : α} (h : ¬ c) (hf : (if c then A else B) = some o) : B = some o := by rw [if_neg h] at hf; exact hf
theorem g_ldc2 {κ : Kx} {V : Heap → List Loc → Prop} {nL pc : Nat} {L : List (Nat × Value)} {st : List Value} {cc : ByteArray} {own : String} {ret : Option FieldType} {d : Nat} (C : Cf κ cc nL own ret d) {index : Nat} {v : Int64} (hw : Cond.constantLong own index v ∈ TT) (hd : decode cc pc = .ok (.ldc2_w index, 3)) (k : G κ V nL (pc + 3) L (.long v :: st)) : G κ V nL pc L st :=
  fun H locs ls hV hl => lv_ldc2 C.1.1 C.1.2.1 C.1.2.2.2.1 (C.1.2.2.2.2 _ hw) hd (k H locs ls hV hl)
theorem g_ldc {κ : Kx} {V : Heap → List Loc → Prop} {nL pc : Nat} {L : List (Nat × Value)} {st : List Value} {cc : ByteArray} {own : String} {ret : Option FieldType} {d : Nat} (C : Cf κ cc nL own ret d) {index : Nat} {v : Int32} (hw : Cond.constant own index v ∈ TT) (hd : decode cc pc = .ok (.ldc index, 2)) (k : G κ V nL (pc + 2) L (.int v :: st)) : G κ V nL pc L st :=
  fun H locs ls hV hl => lv_ldc C.1.1 C.1.2.1 C.1.2.2.2.1 (C.1.2.2.2.2 _ hw) hd (k H locs ls hV hl)
theorem g_ldcw {κ : Kx} {V : Heap → List Loc → Prop} {nL pc : Nat} {L : List (Nat × Value)} {st : List Value} {cc : ByteArray} {own : String} {ret : Option FieldType} {d : Nat} (C : Cf κ cc nL own ret d) {index : Nat} {v : Int32} (hw : Cond.constant own index v ∈ TT) (hd : decode cc pc = .ok (.ldc_w index, 3)) (k : G κ V nL (pc + 3) L (.int v :: st)) : G κ V nL pc L st :=
  fun H locs ls hV hl => lv_ldcw C.1.1 C.1.2.1 C.1.2.2.2.1 (C.1.2.2.2.2 _ hw) hd (k H locs ls hV hl)
end
section
/-! MY KIT, 3: fields, arrays, calls, returns over a memory's world -/
def q_Fd (own : String) (idx ci k : Nat) (ty : FieldType) (fin : Bool) : Prop := ∃ (C : String) (T : u_T) (N : Nat) (ty0 : Nat → FieldType), vwCl[ci]? = some (C, T, N) ∧ k < N ∧ (∀ w ∈ u_ws C T N, w ∈ TT) ∧ Cond.fieldLink own idx (T k).1 (T k).2.1 (T k).2.2.1 ∈ TT ∧ (∀ k, k < N → parseFieldDescriptor (T k).2.2.1 = some (ty0 k)) ∧ (∀ a, a < N → ∀ b, b < N → a ≠ b → (T a).2.1 ≠ (T b).2.1) ∧ ty0 k = ty ∧ (T k).2.2.2 = fin
/-- the class and the kind of a slot -/
def q_lk (lay : List Sh) (o k : Nat) : Option (Nat × Nat) := match lay[o]? with
  | some (.inr q) => match q.2[k]? with
    | some kd => some (q.1, kd)
    | none => none
  | _ => none
theorem q_lk_of {lay : List Sh} {o k ci kd : Nat} (h : q_lk lay o k = some (ci, kd)) : ∃ ks, lay[o]? = some (.inr (ci, ks)) ∧ ks[k]? = some kd := by
  unfold q_lk at h
  split at h
  · rename_i q hq
    split at h
    · rename_i z hz
      cases h
      exact ⟨q.2, hq, hz⟩
    · cases h
  · cases h
section R
variable {κ : Kx} {nL pc : Nat} {L : List (Nat × Value)} {st : List Value} {cc : ByteArray} {own : String} {ret : Option FieldType} {d : Nat} {ε : Ev} {lay : List Sh} {μ : Mm} {idx ci k o : Nat} {ty : FieldType} {fin : Bool}
theorem g_getv (C : Cf κ cc nL own ret d) (E : En ε lay (kS κ)) (F : q_Fd own idx ci k ty fin) {kd : Nat} (hs : q_lk lay o k = some (ci, kd)) {v : Value} (hv : shv (ea ε) μ o k kd = v) (hd : decode cc pc = .ok (.getfield idx, 3)) (kk : G κ (Vw κ ε lay μ) nL (pc + 3) L (v :: st)) : G κ (Vw κ ε lay μ) nL pc L (.ref (ea ε o) :: st) := by
  obtain ⟨CC, T, N, ty0, h1, h2, h3, h4, h5, h6, h7, h8⟩ := F
  obtain ⟨ks, e1, e2⟩ := q_lk_of hs
  intro H locs ls hV hl
  refine va_get (D := eD ε) (cl := vwCl) (ci := ci) (C := CC) (T := T) (N := N) C.1.1 C.1.2.1 C.1.2.2.2.2 h3 C.1.2.2.2.1 E.1 hV.1 o (wd_at e1) h1 k h2 (C.1.2.2.2.2 _ h4) (fun _ h => h) (v := v) ?_ hd (kk H locs ls hV hl)
  rw [List.getElem?_mapIdx, e2, ← hv]
  rfl
theorem g_geti (C : Cf κ cc nL own ret d) (E : En ε lay (kS κ)) (F : q_Fd own idx ci k ty fin) (hs : q_lk lay o k = some (ci, 0)) (hd : decode cc pc = .ok (.getfield idx, 3)) (kk : G κ (Vw κ ε lay μ) nL (pc + 3) L (.int (μ.1 o k) :: st)) : G κ (Vw κ ε lay μ) nL pc L (.ref (ea ε o) :: st) := g_getv C E F hs rfl hd kk
theorem g_getl (C : Cf κ cc nL own ret d) (E : En ε lay (kS κ)) (F : q_Fd own idx ci k ty fin) (hs : q_lk lay o k = some (ci, 1)) (hd : decode cc pc = .ok (.getfield idx, 3)) (kk : G κ (Vw κ ε lay μ) nL (pc + 3) L (.long (μ.2 o k) :: st)) : G κ (Vw κ ε lay μ) nL pc L (.ref (ea ε o) :: st) := g_getv C E F hs rfl hd kk
theorem g_getr (C : Cf κ cc nL own ret d) (E : En ε lay (kS κ)) (F : q_Fd own idx ci k ty fin) {j : Nat} (hs : q_lk lay o k = some (ci, j + 2)) (hd : decode cc pc = .ok (.getfield idx, 3)) (kk : G κ (Vw κ ε lay μ) nL (pc + 3) L (.ref (ea ε j) :: st)) : G κ (Vw κ ε lay μ) nL pc L (.ref (ea ε o) :: st) := g_getv C E F hs rfl hd kk
theorem g_puti (C : Cf κ cc nL own ret d) (E : En ε lay (kS κ)) (F : q_Fd own idx ci k .int false) (hs : q_lk lay o k = some (ci, 0)) {x : Int32} (hd : decode cc pc = .ok (.putfield idx, 3)) (kk : G κ (Vw κ ε lay (wI μ o k x)) nL (pc + 3) L st) : G κ (Vw κ ε lay μ) nL pc L (.int x :: .ref (ea ε o) :: st) := by
  obtain ⟨CC, T, N, ty0, h1, h2, h3, h4, h5, h6, h7, h8⟩ := F
  obtain ⟨ks, e1, e2⟩ := q_lk_of hs
  intro H locs ls hV hl
  refine va_put (D := eD ε) (cl := vwCl) (ci := ci) (C := CC) (T := T) (N := N) C.1.1 C.1.2.1 C.1.2.2.2.2 h3 ty0 h5 h6 C.1.2.2.2.1 E.1 hV.1 (wd_D E.2.1) hV.2 o (wd_at e1) h1 k h2 (C.1.2.2.2.2 _ h4) (fun _ h => h) h8 (ty := .int) (v := .int x) (by rw [h5 k h2, h7]) rfl rfl (by simpa using (List.getElem?_eq_some_iff.mp e2).1) hd (fun H1 locs1 hP1 _ hS1 => kk H1 locs1 ls ⟨?_, hS1⟩ hl)
  rw [← wd_setI e1 e2]
  exact hP1
theorem g_putl (C : Cf κ cc nL own ret d) (E : En ε lay (kS κ)) (F : q_Fd own idx ci k .long false) (hs : q_lk lay o k = some (ci, 1)) {x : Int64} (hd : decode cc pc = .ok (.putfield idx, 3)) (kk : G κ (Vw κ ε lay (wL μ o k x)) nL (pc + 3) L st) : G κ (Vw κ ε lay μ) nL pc L (.long x :: .ref (ea ε o) :: st) := by
  obtain ⟨CC, T, N, ty0, h1, h2, h3, h4, h5, h6, h7, h8⟩ := F
  obtain ⟨ks, e1, e2⟩ := q_lk_of hs
  intro H locs ls hV hl
  refine va_put (D := eD ε) (cl := vwCl) (ci := ci) (C := CC) (T := T) (N := N) C.1.1 C.1.2.1 C.1.2.2.2.2 h3 ty0 h5 h6 C.1.2.2.2.1 E.1 hV.1 (wd_D E.2.1) hV.2 o (wd_at e1) h1 k h2 (C.1.2.2.2.2 _ h4) (fun _ h => h) h8 (ty := .long) (v := .long x) (by rw [h5 k h2, h7]) rfl rfl (by simpa using (List.getElem?_eq_some_iff.mp e2).1) hd (fun H1 locs1 hP1 _ hS1 => kk H1 locs1 ls ⟨?_, hS1⟩ hl)
  rw [← wd_setL e1 e2]
  exact hP1
theorem g_putz (C : Cf κ cc nL own ret d) (E : En ε lay (kS κ)) (F : q_Fd own idx ci k .boolean false) (hs : q_lk lay o k = some (ci, 0)) {x : Int32} {α : Type} {A : Option α} {out : α} (hd : decode cc pc = .ok (.putfield idx, 3)) (hf : (if rbz x = true then A else none) = some out) (kk : A = some out → G κ (Vw κ ε lay (wI μ o k x)) nL (pc + 3) L st) : G κ (Vw κ ε lay μ) nL pc L (.int x :: .ref (ea ε o) :: st) := by
  obtain ⟨CC, T, N, ty0, h1, h2, h3, h4, h5, h6, h7, h8⟩ := F
  obtain ⟨ks, e1, e2⟩ := q_lk_of hs
  obtain ⟨hz, hf⟩ := ite_some hf
  intro H locs ls hV hl
  refine va_put (D := eD ε) (cl := vwCl) (ci := ci) (C := CC) (T := T) (N := N) C.1.1 C.1.2.1 C.1.2.2.2.2 h3 ty0 h5 h6 C.1.2.2.2.1 E.1 hV.1 (wd_D E.2.1) hV.2 o (wd_at e1) h1 k h2 (C.1.2.2.2.2 _ h4) (fun _ h => h) h8 (ty := .boolean) (v := .int x) (by rw [h5 k h2, h7]) (rbz_narrow hz) (by rcases rbz_of hz with rfl | rfl <;> rfl) (by simpa using (List.getElem?_eq_some_iff.mp e2).1) hd (fun H1 locs1 hP1 _ hS1 => kk hf H1 locs1 ls ⟨?_, hS1⟩ hl)
  rw [← wd_setI e1 e2]
  exact hP1
theorem g_iald (C : Cf κ cc nL own ret d) (E : En ε lay (kS κ)) {n : Nat} (hs : lay[o]? = some (.inl (0, n))) {i : Int32} {α : Type} {A : Option α} {out : α} (hd : decode cc pc = .ok (.iaload, 1)) (hf : (if inb i n = true then A else none) = some out) (kk : A = some out → G κ (Vw κ ε lay μ) nL (pc + 1) L (.int (μ.1 o i.toNatClampNeg) :: st)) : G κ (Vw κ ε lay μ) nL pc L (.int i :: .ref (ea ε o) :: st) := by
  obtain ⟨hz, hf⟩ := ite_some hf
  intro H locs ls hV hl
  exact va_iald (D := eD ε) (cl := vwCl) C.1.1 C.1.2.1 E.1 hV.1 o 0 (cA := eA ε 0) (n := n) (f := μ.1 o) (wd_at hs) rfl (inb_in hz) hd (kk hf H locs ls hV hl)
theorem g_lald (C : Cf κ cc nL own ret d) (E : En ε lay (kS κ)) {n : Nat} (hs : lay[o]? = some (.inl (1, n))) {i : Int32} {α : Type} {A : Option α} {out : α} (hd : decode cc pc = .ok (.laload, 1)) (hf : (if inb i n = true then A else none) = some out) (kk : A = some out → G κ (Vw κ ε lay μ) nL (pc + 1) L (.long (μ.2 o i.toNatClampNeg) :: st)) : G κ (Vw κ ε lay μ) nL pc L (.int i :: .ref (ea ε o) :: st) := by
  obtain ⟨hz, hf⟩ := ite_some hf
  intro H locs ls hV hl
  exact va_lald (D := eD ε) (cl := vwCl) C.1.1 C.1.2.1 E.1 hV.1 o 1 (cA := eA ε 1) (n := n) (f := μ.2 o) (wd_at hs) rfl (inb_in hz) hd (kk hf H locs ls hV hl)
theorem g_zald (C : Cf κ cc nL own ret d) (E : En ε lay (kS κ)) {n : Nat} (hs : lay[o]? = some (.inl (2, n))) {i : Int32} {α : Type} {A : Option α} {out : α} (hd : decode cc pc = .ok (.baload, 1)) (hf : (if inb i n = true then A else none) = some out) (kk : A = some out → G κ (Vw κ ε lay μ) nL (pc + 1) L (.int (μ.1 o i.toNatClampNeg) :: st)) : G κ (Vw κ ε lay μ) nL pc L (.int i :: .ref (ea ε o) :: st) := by
  obtain ⟨hz, hf⟩ := ite_some hf
  intro H locs ls hV hl
  exact va_zald (D := eD ε) (cl := vwCl) C.1.1 C.1.2.1 E.1 hV.1 o 2 (cA := eA ε 2) (n := n) (f := μ.1 o) (wd_at hs) rfl (inb_in hz) hd (kk hf H locs ls hV hl)
theorem g_iast (C : Cf κ cc nL own ret d) (E : En ε lay (kS κ)) {n : Nat} (hs : lay[o]? = some (.inl (0, n))) {i x : Int32} {α : Type} {A : Option α} {out : α} (hd : decode cc pc = .ok (.iastore, 1)) (hf : (if inb i n = true then A else none) = some out) (kk : A = some out → G κ (Vw κ ε lay (wI μ o i.toNatClampNeg x)) nL (pc + 1) L st) : G κ (Vw κ ε lay μ) nL pc L (.int x :: .int i :: .ref (ea ε o) :: st) := by
  obtain ⟨hz, hf⟩ := ite_some hf
  intro H locs ls hV hl
  refine va_iast (D := eD ε) (cl := vwCl) C.1.1 C.1.2.1 E.1 hV.1 (wd_D E.2.1) hV.2 o 0 (cA := eA ε 0) (n := n) (f := μ.1 o) (wd_at hs) rfl (inb_in hz) hd (fun H1 locs1 hP1 _ hS1 => kk hf H1 locs1 ls ⟨?_, hS1⟩ hl)
  rw [← wd_setA hs (by decide)]
  exact hP1
theorem g_zast (C : Cf κ cc nL own ret d) (E : En ε lay (kS κ)) {n : Nat} (hs : lay[o]? = some (.inl (2, n))) {i x : Int32} {α : Type} {A : Option α} {out : α} (hd : decode cc pc = .ok (.bastore, 1)) (hf : (if inb i n = true then (if rbz x = true then A else none) else none) = some out) (kk : A = some out → G κ (Vw κ ε lay (wI μ o i.toNatClampNeg x)) nL (pc + 1) L st) : G κ (Vw κ ε lay μ) nL pc L (.int x :: .int i :: .ref (ea ε o) :: st) := by
  obtain ⟨hz, hf⟩ := ite_some hf
  obtain ⟨hy, hf⟩ := ite_some hf
  intro H locs ls hV hl
  refine va_zast (D := eD ε) (cl := vwCl) C.1.1 C.1.2.1 E.1 hV.1 (wd_D E.2.1) hV.2 o 2 (cA := eA ε 2) (n := n) (f := μ.1 o) (wd_at hs) rfl (inb_in hz) hd (fun H1 locs1 hP1 _ hS1 => kk hf H1 locs1 ls ⟨?_, hS1⟩ hl)
  rw [rbz_nar hy] at hP1
  rw [← wd_setA hs (by decide)]
  exact hP1
theorem g_last (C : Cf κ cc nL own ret d) (E : En ε lay (kS κ)) {n : Nat} (hs : lay[o]? = some (.inl (1, n))) {i : Int32} {x : Int64} {α : Type} {A : Option α} {out : α} (hd : decode cc pc = .ok (.lastore, 1)) (hf : (if inb i n = true then A else none) = some out) (kk : A = some out → G κ (Vw κ ε lay (wL μ o i.toNatClampNeg x)) nL (pc + 1) L st) : G κ (Vw κ ε lay μ) nL pc L (.long x :: .int i :: .ref (ea ε o) :: st) := by
  obtain ⟨hz, hf⟩ := ite_some hf
  intro H locs ls hV hl
  refine va_last (D := eD ε) (cl := vwCl) C.1.1 C.1.2.1 E.1 hV.1 (wd_D E.2.1) hV.2 o 1 (cA := eA ε 1) (n := n) (f := μ.2 o) (wd_at hs) rfl (inb_in hz) hd (fun H1 locs1 hP1 _ hS1 => kk hf H1 locs1 ls ⟨?_, hS1⟩ hl)
  rw [← wd_setAL hs]
  exact hP1
/-! calls -/
def q_LkV (own : String) (idx : Nat) (y : MethodName) (bytes : ByteArray) (maxL : Nat) (ret : Option FieldType) (n ci : Nat) : Prop :=
  (Cond.code y bytes maxL ret ∈ TT ∧ Cond.methodLink own idx y ∈ TT ∧ Cond.initialized y.cls ∈ TT ∧ (y.cls ≠ "java/lang/invoke/MethodHandle" ∧ y.cls ≠ "java/lang/invoke/VarHandle") ∧ (parseMethodDescriptor y.desc).map (fun d => d.parameters.length) = some n ∧ maxL ≤ 100) ∧ Cond.instanceMethod y ∈ TT ∧ Cond.selects y.cls y y ∈ TT ∧ ∃ T N, vwCl[ci]? = some (y.cls, T, N)
def q_LkS (own : String) (idx : Nat) (y : MethodName) (bytes : ByteArray) (maxL : Nat) (ret : Option FieldType) (n : Nat) : Prop :=
  (Cond.code y bytes maxL ret ∈ TT ∧ Cond.methodLink own idx y ∈ TT ∧ Cond.initialized y.cls ∈ TT ∧ (y.cls ≠ "java/lang/invoke/MethodHandle" ∧ y.cls ≠ "java/lang/invoke/VarHandle") ∧ (parseMethodDescriptor y.desc).map (fun d => d.parameters.length) = some n ∧ maxL ≤ 100) ∧ Cond.static y ∈ TT
def q_LkN (own : String) (idx : Nat) (y : MethodName) (host : String) (bytes : ByteArray) (maxL : Nat) (ret : Option FieldType) (n : Nat) : Prop :=
  (Cond.code y bytes maxL ret ∈ TT ∧ Cond.methodLinkNest own idx y host ∈ nestW ∧ Cond.initialized y.cls ∈ TT ∧ (y.cls ≠ "java/lang/invoke/MethodHandle" ∧ y.cls ≠ "java/lang/invoke/VarHandle") ∧ (parseMethodDescriptor y.desc).map (fun d => d.parameters.length) = some n ∧ maxL ≤ 100) ∧ Cond.static y ∈ TT
theorem q_words {s : State} {args : Array Value} (hts : ∀ w ∈ TT, w.before args s = true) {cw : Cond} (hc : cw ∈ TT) : ∀ w ∈ cw :: TT, ∀ (a' : Array Value) (U : State), s.WarmedH U.vm → w.before a' U = true := by
  intro w hw a' U hW
  have hw' : w ∈ TT := by
    rcases List.mem_cons.mp hw with rfl | h
    · exact hc
    · exact h
  exact word_at hW (TT_good hw') (hts w hw')
theorem q_cb {R : Room} {s : State} {args : Array Value} {y : MethodName} {bytes : ByteArray} {maxL n d d' : Nat} {r' : Option FieldType} (hR : d ≤ R.frames ∧ 120 * d ≤ R.locals) (hdd : d' + 1 ≤ d) (hts : ∀ w ∈ TT, w.before args s = true)
    (K : Cond.code y bytes maxL r' ∈ TT ∧ Cond.methodLink own idx y ∈ TT ∧ Cond.initialized y.cls ∈ TT ∧ (y.cls ≠ "java/lang/invoke/MethodHandle" ∧ y.cls ≠ "java/lang/invoke/VarHandle") ∧ (parseMethodDescriptor y.desc).map (fun d => d.parameters.length) = some n ∧ maxL ≤ 100) :
    CallB R s args own idx y bytes maxL r' (.code y bytes maxL r' :: TT) (rmd d') 0 0 n := by
  obtain ⟨k1, k2, k3, k4, k5, k6⟩ := K
  refine ⟨rfl, rfl, Nat.le_trans hdd hR.1, ?_, q_words hts k1, List.mem_cons_self, hts _ k1, hts _ k3, k4, fun sig h => ?_, hts _ k2⟩
  · have := hR.2
    show 8 + (maxL + 11) + 120 * d' ≤ R.locals
    omega
  · rw [h] at k5
    exact (Option.some.inj k5).symm
theorem Pw_blind {argv : List Value} : FrameBlind (Pw ε lay argv μ) := fun a U g mk h => ⟨h.1, h.2.1.same (u := U) rfl rfl, h.2.2.1.same (u := U) rfl, h.2.2.2⟩
theorem Pp_blind {argv : List Value} : FrameBlind (Pp argv) := fun a U g mk h => ⟨h.1, h.2.same (u := U) rfl⟩
theorem q_after {rv : Option Value} {μ' : Mm} {locs : List Loc} {H : Heap} {g : JFrame} {rest : List Value} {ls : Array Slot} {argv : Array Value} (hS : va_S (Aw lay ε) (kS κ).heap H locs) (hl : lv_has ls nL L)
    (hr : va_Run (kp κ) (kl κ) (ke κ) (kR κ) (kS κ) (km κ) (ka κ) (kb κ) (kt κ) (kc κ) H locs (kn κ) (ko κ) 0 0 (F0 (km κ) pc ls g.stack) rest (Qw ε lay rv μ' argv) (Aw lay ε)) (kk : G κ (Vw κ ε lay μ') nL (pc + 3) L (rv.toList ++ rest)) : Wk κ H locs (F0 (km κ) pc ls g.stack) := by
  intro T hT X
  obtain ⟨v, st₀, t, T', LL, h0, X', hL, e1, e2, ⟨hv, hP1, hz, hk⟩, st⟩ := hr T hT X
  have hv' : v = rv := by injection hv
  subst hv'
  rw [h0] at hz hk
  have hS' : va_S (Aw lay ε) (kS κ).heap T'.heap (locs ++ LL) := ⟨Nat.le_trans hS.1 (by rw [e1]; exact hz), fun q h1 h2 => by rw [e1, hk q (Nat.lt_of_lt_of_le h1 hS.1) h2]; exact hS.2.1 q h1 h2, fun q hq => by
    rcases List.mem_append.mp hq with h | h
    · exact hS.2.2 q h
    · exact hL q h⟩
  obtain ⟨t2, a1, b1⟩ := kk T'.heap (locs ++ LL) ls ⟨by rw [e1]; exact hP1, hS'⟩ hl T' rfl X'
  exact ⟨t2, st t2 a1, b1⟩
theorem g_callV (C : Cf κ cc nL own ret d) (E : En ε lay (kS κ)) {ks : List Nat} (hs : lay[o]? = some (.inr (ci, ks))) {y : MethodName} {bytes : ByteArray} {maxL n d' : Nat} {r' : Option FieldType} (K : q_LkV own idx y bytes maxL r' n ci) {As st0 : List Value} {rv : Option Value} {μ' : Mm} (hn : As.length = n) (hM : Sp (kl κ) ε lay y bytes maxL r' d' (.ref (ea ε o) :: As) rv μ μ') (hdd : d' + 1 ≤ d) (hst : As.reverse ++ .ref (ea ε o) :: st = st0) (hW : (st.map fun v => v.category).sum ≤ 8) (hd : decode cc pc = .ok (.invokevirtual idx, 3)) (kk : G κ (Vw κ ε lay μ') nL (pc + 3) L (rv.toList ++ st)) : G κ (Vw κ ε lay μ) nL pc L st0 := by
  obtain ⟨K1, k2, k3, T, N, k4⟩ := K
  intro H locs ls hV hl
  refine q_after (g := F0 (km κ) pc ls st0) hV.2 hl (va_runV (n := n) (C := y.cls) (As := As) (b := ea ε o) (rest := st) C.1 hM ⟨q_cb ⟨C.2.2.2.2.1, C.2.2.2.2.2.1⟩ hdd C.1.2.2.2.2 K1, C.1.2.2.2.2 _ k2, C.1.2.2.2.2 _ k3⟩ ⟨Pw_blind, va_recv (q := (y.cls, T, N)) E.1 hV.1 k4 (wd_at hs), fun U hU hWU => ⟨rfl, E.go hV.2 hU hWU, C.2.2.2.1.warm hWU, by rw [hU]; exact hV.1⟩⟩ rfl hn hl.1 hst.symm (lv_room hW) hd ⟨?_, ?_⟩) kk
  · exact C.2.2.2.2.2.2.1
  · exact C.2.2.2.2.2.2.2
theorem g_callSw (C : Cf κ cc nL own ret d) (E : En ε lay (kS κ)) {y : MethodName} {bytes : ByteArray} {maxL n d' : Nat} {r' : Option FieldType} (K : q_LkS own idx y bytes maxL r' n) {As st0 : List Value} {rv : Option Value} {μ' : Mm} (hn : As.length = n) (hM : Sp (kl κ) ε lay y bytes maxL r' d' As rv μ μ') (hdd : d' + 1 ≤ d) (hst : As.reverse ++ st = st0) (hW : (st.map fun v => v.category).sum ≤ 8) (hd : decode cc pc = .ok (.invokestatic idx, 3)) (kk : G κ (Vw κ ε lay μ') nL (pc + 3) L (rv.toList ++ st)) : G κ (Vw κ ε lay μ) nL pc L st0 := by
  obtain ⟨K1, k2⟩ := K
  intro H locs ls hV hl
  refine q_after (g := F0 (km κ) pc ls st0) hV.2 hl (va_runS (n := n) (As := As) (rest := st) C.1 hM ⟨q_cb ⟨C.2.2.2.2.1, C.2.2.2.2.2.1⟩ hdd C.1.2.2.2.2 K1, C.1.2.2.2.2 _ k2⟩ ⟨Pw_blind, fun U hU hWU => ⟨rfl, E.go hV.2 hU hWU, C.2.2.2.1.warm hWU, by rw [hU]; exact hV.1⟩⟩ rfl hn hl.1 hst.symm (lv_room hW) hd ⟨?_, ?_⟩) kk
  · exact C.2.2.2.2.2.2.1
  · exact C.2.2.2.2.2.2.2
theorem q_afterP {V : Heap → List Loc → Prop} {rv : Option Value} {locs : List Loc} {H : Heap} {g : JFrame} {rest : List Value} {ls : Array Slot} {argv : Array Value} (hV : V H locs) (hl : lv_has ls nL L)
    (hr : va_Run (kp κ) (kl κ) (ke κ) (kR κ) (kS κ) (km κ) (ka κ) (kb κ) (kt κ) (kc κ) H locs (kn κ) (ko κ) 0 0 (F0 (km κ) pc ls g.stack) rest (Qp rv argv) (fun _ => False)) (kk : G κ V nL (pc + 3) L (rv.toList ++ rest)) : Wk κ H locs (F0 (km κ) pc ls g.stack) := by
  intro T hT X
  obtain ⟨v, st₀, t, T', LL, h0, X', hL, e1, e2, ⟨hv, hh⟩, st⟩ := hr T hT X
  have hv' : v = rv := by injection hv
  subst hv'
  obtain ⟨t2, a1, b1⟩ := kk H locs ls hV hl T' (by rw [e1, hh, h0]) (Stand.forget X' (fun q h => (hL q h).elim))
  exact ⟨t2, st t2 a1, b1⟩
theorem g_callS {V : Heap → List Loc → Prop} (C : Cf κ cc nL own ret d) {y : MethodName} {bytes : ByteArray} {maxL n d' : Nat} {r' : Option FieldType} (K : q_LkS own idx y bytes maxL r' n) {As st0 : List Value} {rv : Option Value} (hn : As.length = n) (hM : Sq (kl κ) y bytes maxL r' d' As rv) (hdd : d' + 1 ≤ d) (hst : As.reverse ++ st = st0) (hW : (st.map fun v => v.category).sum ≤ 8) (hd : decode cc pc = .ok (.invokestatic idx, 3)) (kk : G κ V nL (pc + 3) L (rv.toList ++ st)) : G κ V nL pc L st0 := by
  obtain ⟨K1, k2⟩ := K
  intro H locs ls hV hl
  refine q_afterP (g := F0 (km κ) pc ls st0) hV hl (va_runS (n := n) (As := As) (rest := st) C.1 hM ⟨q_cb ⟨C.2.2.2.2.1, C.2.2.2.2.2.1⟩ hdd C.1.2.2.2.2 K1, C.1.2.2.2.2 _ k2⟩ ⟨Pp_blind, fun U hU hWU => ⟨rfl, C.2.2.2.1.warm hWU⟩⟩ rfl hn hl.1 hst.symm (lv_room hW) hd ⟨?_, ?_⟩) kk
  · exact C.2.2.2.2.2.2.1
  · exact C.2.2.2.2.2.2.2
theorem g_callN {V : Heap → List Loc → Prop} (C : Cf κ cc nL own ret d) {y : MethodName} {host : String} {bytes : ByteArray} {maxL n d' : Nat} {r' : Option FieldType} (K : q_LkN own idx y host bytes maxL r' n) {As st0 : List Value} {rv : Option Value} (hn : As.length = n) (hM : Sq (kl κ) y bytes maxL r' d' As rv) (hdd : d' + 1 ≤ d) (hst : As.reverse ++ st = st0) (hW : (st.map fun v => v.category).sum ≤ 8) (hd : decode cc pc = .ok (.invokestatic idx, 3)) (kk : G κ V nL (pc + 3) L (rv.toList ++ st)) : G κ V nL pc L st0 := by
  obtain ⟨⟨k1, k2, k3, k4, k5, k6⟩, k7⟩ := K
  intro H locs ls hV hl
  refine q_afterP (g := F0 (km κ) pc ls st0) hV hl (va_runSN (n := n) (host := host) (As := As) (rest := st) C.1 hM ⟨⟨⟨rfl, rfl, ?_, ?_, q_words C.1.2.2.2.2 k1, List.mem_cons_self⟩, C.1.2.2.2.2 _ k1, C.1.2.2.2.2 _ k3, k4, fun sig h => ?_, va_Nw.use rfl (C.2.2.2.1 _ k2)⟩, C.1.2.2.2.2 _ k7, trivial⟩ ⟨Pp_blind, fun U hU hWU => ⟨rfl, C.2.2.2.1.warm hWU⟩⟩ rfl hn hl.1 hst.symm (lv_room hW) hd ⟨?_, ?_⟩) kk
  · exact Nat.le_trans hdd C.2.2.2.2.1
  · have := C.2.2.2.2.2.1; show 8 + (maxL + 11) + 120 * d' ≤ (kR κ).locals; omega
  · rw [h] at k5; exact (Option.some.inj k5).symm
  · exact C.2.2.2.2.2.2.1
  · exact C.2.2.2.2.2.2.2
/-! returns -/
theorem g_iretw (C : Cf κ cc nL own (some .int) d) {v : Int32} {out : Int32 × Mm} (hQ : Rw κ ε lay (some (.int out.1)) out.2) (hd : decode cc pc = .ok (.ireturn, 1)) (hf : some (v, μ) = some out) : G κ (Vw κ ε lay μ) nL pc L [.int v] := by
  cases hf
  intro H locs ls hV hl
  show W _ _ _ _ _ _ _ _ _ _ _ _ _ _ (kQ κ) _
  rw [hQ]
  exact W.iret C.1.1 C.1.2.1 C.2.1 (fun t ht hW => ⟨rfl, by rw [ht]; exact hV.1, hV.2.F ht⟩) hV.2.2.2 hd C.2.2.1
theorem g_lretw (C : Cf κ cc nL own (some .long) d) {v : Int64} {out : Int64 × Mm} (hQ : Rw κ ε lay (some (.long out.1)) out.2) (hd : decode cc pc = .ok (.lreturn, 1)) (hf : some (v, μ) = some out) : G κ (Vw κ ε lay μ) nL pc L [.long v] := by
  cases hf
  intro H locs ls hV hl
  show W _ _ _ _ _ _ _ _ _ _ _ _ _ _ (kQ κ) _
  rw [hQ]
  exact W.lret C.1.1 C.1.2.1 C.2.1 (fun t ht hW => ⟨rfl, by rw [ht]; exact hV.1, hV.2.F ht⟩) hV.2.2.2 hd C.2.2.1
theorem g_zretw (C : Cf κ cc nL own (some .boolean) d) {v : Int32} {out : Int32 × Mm} (hQ : Rw κ ε lay (some (.int out.1)) out.2) (hd : decode cc pc = .ok (.ireturn, 1)) (hf : (if rbz v = true then some (v, μ) else none) = some out) : G κ (Vw κ ε lay μ) nL pc L [.int v] := by
  obtain ⟨hz, hf⟩ := ite_some hf
  cases hf
  intro H locs ls hV hl
  show W _ _ _ _ _ _ _ _ _ _ _ _ _ _ (kQ κ) _
  rw [hQ]
  exact W.zret C.1.1 C.1.2.1 C.2.1 (rbz_narrow hz) (fun t ht hW => ⟨rfl, by rw [ht]; exact hV.1, hV.2.F ht⟩) hV.2.2.2 hd C.2.2.1
theorem g_vretw (C : Cf κ cc nL own none d) {out : Mm} (hQ : Rw κ ε lay none out) (hd : decode cc pc = .ok (.return_, 1)) (hf : some μ = some out) : G κ (Vw κ ε lay μ) nL pc L [] := by
  cases hf
  intro H locs ls hV hl
  show W _ _ _ _ _ _ _ _ _ _ _ _ _ _ (kQ κ) _
  rw [hQ]
  exact W.vret C.1.1 C.1.2.1 C.2.1 (fun t ht hW => ⟨rfl, by rw [ht]; exact hV.1, hV.2.F ht⟩) hV.2.2.2 hd C.2.2.1
theorem g_iretr (C : Cf κ cc nL own (some .int) d) {v out : Int32} (hQ : Rw κ ε lay (some (.int out)) μ) (hd : decode cc pc = .ok (.ireturn, 1)) (hf : some v = some out) : G κ (Vw κ ε lay μ) nL pc L [.int v] := g_iretw (out := (out, μ)) C hQ hd (by cases hf; rfl)
theorem g_lretr (C : Cf κ cc nL own (some .long) d) {v out : Int64} (hQ : Rw κ ε lay (some (.long out)) μ) (hd : decode cc pc = .ok (.lreturn, 1)) (hf : some v = some out) : G κ (Vw κ ε lay μ) nL pc L [.long v] := g_lretw (out := (out, μ)) C hQ hd (by cases hf; rfl)
theorem g_zretr (C : Cf κ cc nL own (some .boolean) d) {v out : Int32} (hQ : Rw κ ε lay (some (.int out)) μ) (hd : decode cc pc = .ok (.ireturn, 1)) (hf : (if rbz v = true then some v else none) = some out) : G κ (Vw κ ε lay μ) nL pc L [.int v] := g_zretw (out := (out, μ)) C hQ hd (by obtain ⟨hz, hf⟩ := ite_some hf; cases hf; rw [if_pos hz])
theorem g_iretp (C : Cf κ cc nL own (some .int) d) {v out : Int32} (hQ : Rp κ (some (.int out))) (hd : decode cc pc = .ok (.ireturn, 1)) (hf : some v = some out) : G κ (Vp κ) nL pc L [.int v] := by
  cases hf
  intro H locs ls hV hl
  obtain ⟨h1, rfl⟩ := hV
  show W _ _ _ _ _ _ _ _ _ _ _ _ _ _ (kQ κ) _
  rw [hQ]
  exact W.iret C.1.1 C.1.2.1 C.2.1 (fun t ht hW => ⟨rfl, ht.trans h1⟩) (fun q h => by cases h) hd C.2.2.1
theorem g_lretp (C : Cf κ cc nL own (some .long) d) {v out : Int64} (hQ : Rp κ (some (.long out))) (hd : decode cc pc = .ok (.lreturn, 1)) (hf : some v = some out) : G κ (Vp κ) nL pc L [.long v] := by
  cases hf
  intro H locs ls hV hl
  obtain ⟨h1, rfl⟩ := hV
  show W _ _ _ _ _ _ _ _ _ _ _ _ _ _ (kQ κ) _
  rw [hQ]
  exact W.lret C.1.1 C.1.2.1 C.2.1 (fun t ht hW => ⟨rfl, ht.trans h1⟩) (fun q h => by cases h) hd C.2.2.1
theorem g_zretp (C : Cf κ cc nL own (some .boolean) d) {v out : Int32} (hQ : Rp κ (some (.int out))) (hd : decode cc pc = .ok (.ireturn, 1)) (hf : (if rbz v = true then some v else none) = some out) : G κ (Vp κ) nL pc L [.int v] := by
  obtain ⟨hz, hf⟩ := ite_some hf
  cases hf
  intro H locs ls hV hl
  obtain ⟨h1, rfl⟩ := hV
  show W _ _ _ _ _ _ _ _ _ _ _ _ _ _ (kQ κ) _
  rw [hQ]
  exact W.zret C.1.1 C.1.2.1 C.2.1 (rbz_narrow hz) (fun t ht hW => ⟨rfl, ht.trans h1⟩) (fun q h => by cases h) hd C.2.2.1
/-! calls with the function's own bind -/
theorem g_cwi (C : Cf κ cc nL own ret d) (E : En ε lay (kS κ)) {ks : List Nat} (hs : lay[o]? = some (.inr (ci, ks))) {y : MethodName} {bytes : ByteArray} {maxL n d' : Nat} {r' : Option FieldType} (K : q_LkV own idx y bytes maxL r' n ci) {As st0 : List Value} (hn : As.length = n) {f : Option (Int32 × Mm)} (hM : ∀ out, f = some out → Sp (kl κ) ε lay y bytes maxL r' d' (.ref (ea ε o) :: As) (some (.int out.1)) μ out.2) (hdd : d' + 1 ≤ d) (hst : As.reverse ++ .ref (ea ε o) :: st = st0) (hW : (st.map fun v => v.category).sum ≤ 8) (hd : decode cc pc = .ok (.invokevirtual idx, 3)) {α : Type} {g : Int32 → Mm → Option α} {out : α} (hf : bnd f g = some out) (kk : ∀ r μ', f = some (r, μ') → g r μ' = some out → G κ (Vw κ ε lay μ') nL (pc + 3) L (.int r :: st)) : G κ (Vw κ ε lay μ) nL pc L st0 := by
  obtain ⟨r, μ', h1, h2⟩ := bnd_of hf
  exact g_callV C E hs K hn (hM _ h1) hdd hst hW hd (kk r μ' h1 h2)
theorem g_cwl (C : Cf κ cc nL own ret d) (E : En ε lay (kS κ)) {ks : List Nat} (hs : lay[o]? = some (.inr (ci, ks))) {y : MethodName} {bytes : ByteArray} {maxL n d' : Nat} {r' : Option FieldType} (K : q_LkV own idx y bytes maxL r' n ci) {As st0 : List Value} (hn : As.length = n) {f : Option (Int64 × Mm)} (hM : ∀ out, f = some out → Sp (kl κ) ε lay y bytes maxL r' d' (.ref (ea ε o) :: As) (some (.long out.1)) μ out.2) (hdd : d' + 1 ≤ d) (hst : As.reverse ++ .ref (ea ε o) :: st = st0) (hW : (st.map fun v => v.category).sum ≤ 8) (hd : decode cc pc = .ok (.invokevirtual idx, 3)) {α : Type} {g : Int64 → Mm → Option α} {out : α} (hf : bnd f g = some out) (kk : ∀ r μ', f = some (r, μ') → g r μ' = some out → G κ (Vw κ ε lay μ') nL (pc + 3) L (.long r :: st)) : G κ (Vw κ ε lay μ) nL pc L st0 := by
  obtain ⟨r, μ', h1, h2⟩ := bnd_of hf
  exact g_callV C E hs K hn (hM _ h1) hdd hst hW hd (kk r μ' h1 h2)
theorem g_cwv (C : Cf κ cc nL own ret d) (E : En ε lay (kS κ)) {ks : List Nat} (hs : lay[o]? = some (.inr (ci, ks))) {y : MethodName} {bytes : ByteArray} {maxL n d' : Nat} {r' : Option FieldType} (K : q_LkV own idx y bytes maxL r' n ci) {As st0 : List Value} (hn : As.length = n) {f : Option Mm} (hM : ∀ out, f = some out → Sp (kl κ) ε lay y bytes maxL r' d' (.ref (ea ε o) :: As) none μ out) (hdd : d' + 1 ≤ d) (hst : As.reverse ++ .ref (ea ε o) :: st = st0) (hW : (st.map fun v => v.category).sum ≤ 8) (hd : decode cc pc = .ok (.invokevirtual idx, 3)) {α : Type} {g : Mm → Option α} {out : α} (hf : f.bind g = some out) (kk : ∀ μ', f = some μ' → g μ' = some out → G κ (Vw κ ε lay μ') nL (pc + 3) L st) : G κ (Vw κ ε lay μ) nL pc L st0 := by
  obtain ⟨μ', h1, h2⟩ := bind_some hf
  exact g_callV C E hs K hn (hM _ h1) hdd hst hW hd (kk μ' h1 h2)
theorem g_cri (C : Cf κ cc nL own ret d) (E : En ε lay (kS κ)) {ks : List Nat} (hs : lay[o]? = some (.inr (ci, ks))) {y : MethodName} {bytes : ByteArray} {maxL n d' : Nat} {r' : Option FieldType} (K : q_LkV own idx y bytes maxL r' n ci) {As st0 : List Value} (hn : As.length = n) {f : Option Int32} (hM : ∀ out, f = some out → Sp (kl κ) ε lay y bytes maxL r' d' (.ref (ea ε o) :: As) (some (.int out)) μ μ) (hdd : d' + 1 ≤ d) (hst : As.reverse ++ .ref (ea ε o) :: st = st0) (hW : (st.map fun v => v.category).sum ≤ 8) (hd : decode cc pc = .ok (.invokevirtual idx, 3)) {α : Type} {g : Int32 → Option α} {out : α} (hf : f.bind g = some out) (kk : ∀ r, f = some r → g r = some out → G κ (Vw κ ε lay μ) nL (pc + 3) L (.int r :: st)) : G κ (Vw κ ε lay μ) nL pc L st0 := by
  obtain ⟨r, h1, h2⟩ := bind_some hf
  exact g_callV C E hs K hn (hM _ h1) hdd hst hW hd (kk r h1 h2)
theorem g_crl (C : Cf κ cc nL own ret d) (E : En ε lay (kS κ)) {ks : List Nat} (hs : lay[o]? = some (.inr (ci, ks))) {y : MethodName} {bytes : ByteArray} {maxL n d' : Nat} {r' : Option FieldType} (K : q_LkV own idx y bytes maxL r' n ci) {As st0 : List Value} (hn : As.length = n) {f : Option Int64} (hM : ∀ out, f = some out → Sp (kl κ) ε lay y bytes maxL r' d' (.ref (ea ε o) :: As) (some (.long out)) μ μ) (hdd : d' + 1 ≤ d) (hst : As.reverse ++ .ref (ea ε o) :: st = st0) (hW : (st.map fun v => v.category).sum ≤ 8) (hd : decode cc pc = .ok (.invokevirtual idx, 3)) {α : Type} {g : Int64 → Option α} {out : α} (hf : f.bind g = some out) (kk : ∀ r, f = some r → g r = some out → G κ (Vw κ ε lay μ) nL (pc + 3) L (.long r :: st)) : G κ (Vw κ ε lay μ) nL pc L st0 := by
  obtain ⟨r, h1, h2⟩ := bind_some hf
  exact g_callV C E hs K hn (hM _ h1) hdd hst hW hd (kk r h1 h2)
theorem g_cswi (C : Cf κ cc nL own ret d) (E : En ε lay (kS κ)) {y : MethodName} {bytes : ByteArray} {maxL n d' : Nat} {r' : Option FieldType} (K : q_LkS own idx y bytes maxL r' n) {As st0 : List Value} (hn : As.length = n) {f : Option Int32} (hM : ∀ out, f = some out → Sp (kl κ) ε lay y bytes maxL r' d' As (some (.int out)) μ μ) (hdd : d' + 1 ≤ d) (hst : As.reverse ++ st = st0) (hW : (st.map fun v => v.category).sum ≤ 8) (hd : decode cc pc = .ok (.invokestatic idx, 3)) {α : Type} {g : Int32 → Option α} {out : α} (hf : f.bind g = some out) (kk : ∀ r, f = some r → g r = some out → G κ (Vw κ ε lay μ) nL (pc + 3) L (.int r :: st)) : G κ (Vw κ ε lay μ) nL pc L st0 := by
  obtain ⟨r, h1, h2⟩ := bind_some hf
  exact g_callSw C E K hn (hM _ h1) hdd hst hW hd (kk r h1 h2)
theorem g_cpi {V : Heap → List Loc → Prop} (C : Cf κ cc nL own ret d) {y : MethodName} {bytes : ByteArray} {maxL n d' : Nat} {r' : Option FieldType} (K : q_LkS own idx y bytes maxL r' n) {As st0 : List Value} (hn : As.length = n) {f : Option Int32} (hM : ∀ out, f = some out → Sq (kl κ) y bytes maxL r' d' As (some (.int out))) (hdd : d' + 1 ≤ d) (hst : As.reverse ++ st = st0) (hW : (st.map fun v => v.category).sum ≤ 8) (hd : decode cc pc = .ok (.invokestatic idx, 3)) {α : Type} {g : Int32 → Option α} {out : α} (hf : f.bind g = some out) (kk : ∀ r, f = some r → g r = some out → G κ V nL (pc + 3) L (.int r :: st)) : G κ V nL pc L st0 := by
  obtain ⟨r, h1, h2⟩ := bind_some hf
  exact g_callS C K hn (hM _ h1) hdd hst hW hd (kk r h1 h2)
theorem g_cpl {V : Heap → List Loc → Prop} (C : Cf κ cc nL own ret d) {y : MethodName} {bytes : ByteArray} {maxL n d' : Nat} {r' : Option FieldType} (K : q_LkS own idx y bytes maxL r' n) {As st0 : List Value} (hn : As.length = n) {f : Option Int64} (hM : ∀ out, f = some out → Sq (kl κ) y bytes maxL r' d' As (some (.long out))) (hdd : d' + 1 ≤ d) (hst : As.reverse ++ st = st0) (hW : (st.map fun v => v.category).sum ≤ 8) (hd : decode cc pc = .ok (.invokestatic idx, 3)) {α : Type} {g : Int64 → Option α} {out : α} (hf : f.bind g = some out) (kk : ∀ r, f = some r → g r = some out → G κ V nL (pc + 3) L (.long r :: st)) : G κ V nL pc L st0 := by
  obtain ⟨r, h1, h2⟩ := bind_some hf
  exact g_callS C K hn (hM _ h1) hdd hst hW hd (kk r h1 h2)
theorem g_cni {V : Heap → List Loc → Prop} (C : Cf κ cc nL own ret d) {y : MethodName} {host : String} {bytes : ByteArray} {maxL n d' : Nat} {r' : Option FieldType} (K : q_LkN own idx y host bytes maxL r' n) {As st0 : List Value} (hn : As.length = n) {f : Option Int32} (hM : ∀ out, f = some out → Sq (kl κ) y bytes maxL r' d' As (some (.int out))) (hdd : d' + 1 ≤ d) (hst : As.reverse ++ st = st0) (hW : (st.map fun v => v.category).sum ≤ 8) (hd : decode cc pc = .ok (.invokestatic idx, 3)) {α : Type} {g : Int32 → Option α} {out : α} (hf : f.bind g = some out) (kk : ∀ r, f = some r → g r = some out → G κ V nL (pc + 3) L (.int r :: st)) : G κ V nL pc L st0 := by
  obtain ⟨r, h1, h2⟩ := bind_some hf
  exact g_callN C K hn (hM _ h1) hdd hst hW hd (kk r h1 h2)
end R
end
section
theorem none_ne {α : Type} {o : α} {P : Prop} (h : (none : Option α) = some o) : P := by cases h
theorem ite_none {α : Type} {c : Prop} [Decidable c] {a : Option α} {r : α} (h : (if c then none else a) = some r) : ¬ c ∧ a = some r := by
  split at h
  · cases h
  · exact ⟨by assumption, h⟩
theorem g_zret1w {κ : Kx} {nL pc : Nat} {L : List (Nat × Value)} {cc : ByteArray} {own : String} {d : Nat} {ε : Ev} {lay : List Sh} {μ : Mm} (C : Cf κ cc nL own (some .boolean) d) {v : Int32} {out : Int32 × Mm} (hz : rbz v = true) (hQ : Rw κ ε lay (some (.int out.1)) out.2) (hd : decode cc pc = .ok (.ireturn, 1)) (hf : some (v, μ) = some out) : G κ (Vw κ ε lay μ) nL pc L [.int v] := g_zretw C hQ hd (by rw [if_pos hz]; exact hf)
theorem g_zret1r {κ : Kx} {nL pc : Nat} {L : List (Nat × Value)} {cc : ByteArray} {own : String} {d : Nat} {ε : Ev} {lay : List Sh} {μ : Mm} (C : Cf κ cc nL own (some .boolean) d) {v out : Int32} (hz : rbz v = true) (hQ : Rw κ ε lay (some (.int out)) μ) (hd : decode cc pc = .ok (.ireturn, 1)) (hf : some v = some out) : G κ (Vw κ ε lay μ) nL pc L [.int v] := g_zretr C hQ hd (by rw [if_pos hz]; exact hf)
theorem g_zret1p {κ : Kx} {nL pc : Nat} {L : List (Nat × Value)} {cc : ByteArray} {own : String} {d : Nat} (C : Cf κ cc nL own (some .boolean) d) {v out : Int32} (hz : rbz v = true) (hQ : Rp κ (some (.int out))) (hd : decode cc pc = .ok (.ireturn, 1)) (hf : some v = some out) : G κ (Vp κ) nL pc L [.int v] := g_zretp C hQ hd (by rw [if_pos hz]; exact hf)
/-- 0 WidenDesk; 1 WidenDesk$Reader; 2 WidenDesk$Shelf; 3 WidenDesk$Log; 4 WidenDesk$Marks; 5 WidenDesk$Views; 6 WidenDesk.slots[10]; 7 WidenDesk.reasons[6]; 8 WidenDesk$Reader.letters[60]; 9 WidenDesk$Reader.types[6]; 10 WidenDesk$Reader.numbers[6]; 11 WidenDesk$Shelf.things[26]; 12 WidenDesk$Shelf.lengths[26]; 13 WidenDesk$Shelf.types[156]; 14 WidenDesk$Shelf.codes[156]; 15 WidenDesk$Log.sorts[14]; 16 WidenDesk$Log.spots[14]; 17 WidenDesk$Log.rows[14]; 18 WidenDesk$Log.numbers[14]; 19 WidenDesk$Log.types[84]; 20 WidenDesk$Log.codes[84]; 21 WidenDesk$Marks.numbers[20]; 22 WidenDesk$Views.ways[6]; 23 WidenDesk$Views.kinds[6]; 24 WidenDesk$Views.outcomes[6] -/
def layX : List Sh := [.inr (5, [3, 4, 5, 6, 7, 8, 9, 0, 0, 0, 1]), .inr (2, [10, 0, 0, 0, 11, 12, 0]), .inr (3, [13, 14, 15, 16]), .inr (0, [17, 18, 19, 20, 21, 22, 0, 0]), .inr (1, [23, 0]), .inr (4, [24, 25, 26, 0]), .inl (0, 10), .inl (0, 6), .inl (0, 60), .inl (0, 6), .inl (1, 6), .inl (0, 26), .inl (0, 26), .inl (0, 156), .inl (1, 156), .inl (0, 14), .inl (0, 14), .inl (0, 14), .inl (0, 14), .inl (0, 84), .inl (1, 84), .inl (0, 20), .inl (0, 6), .inl (0, 6), .inl (0, 6)]
theorem layX_0 : layX[0]? = some (.inr (5, [3, 4, 5, 6, 7, 8, 9, 0, 0, 0, 1])) := rfl
theorem layX_1 : layX[1]? = some (.inr (2, [10, 0, 0, 0, 11, 12, 0])) := rfl
theorem layX_2 : layX[2]? = some (.inr (3, [13, 14, 15, 16])) := rfl
theorem layX_3 : layX[3]? = some (.inr (0, [17, 18, 19, 20, 21, 22, 0, 0])) := rfl
theorem layX_4 : layX[4]? = some (.inr (1, [23, 0])) := rfl
theorem layX_5 : layX[5]? = some (.inr (4, [24, 25, 26, 0])) := rfl
theorem layX_6 : layX[6]? = some (.inl (0, 10)) := rfl
theorem layX_7 : layX[7]? = some (.inl (0, 6)) := rfl
theorem layX_8 : layX[8]? = some (.inl (0, 60)) := rfl
theorem layX_9 : layX[9]? = some (.inl (0, 6)) := rfl
theorem layX_10 : layX[10]? = some (.inl (1, 6)) := rfl
theorem layX_11 : layX[11]? = some (.inl (0, 26)) := rfl
theorem layX_12 : layX[12]? = some (.inl (0, 26)) := rfl
theorem layX_13 : layX[13]? = some (.inl (0, 156)) := rfl
theorem layX_14 : layX[14]? = some (.inl (1, 156)) := rfl
theorem layX_15 : layX[15]? = some (.inl (0, 14)) := rfl
theorem layX_16 : layX[16]? = some (.inl (0, 14)) := rfl
theorem layX_17 : layX[17]? = some (.inl (0, 14)) := rfl
theorem layX_18 : layX[18]? = some (.inl (0, 14)) := rfl
theorem layX_19 : layX[19]? = some (.inl (0, 84)) := rfl
theorem layX_20 : layX[20]? = some (.inl (1, 84)) := rfl
theorem layX_21 : layX[21]? = some (.inl (0, 20)) := rfl
theorem layX_22 : layX[22]? = some (.inl (0, 6)) := rfl
theorem layX_23 : layX[23]? = some (.inl (0, 6)) := rfl
theorem layX_24 : layX[24]? = some (.inl (0, 6)) := rfl
theorem layX_0_0 : q_lk layX 0 0 = some (5, 3) := rfl
theorem layX_0_1 : q_lk layX 0 1 = some (5, 4) := rfl
theorem layX_0_2 : q_lk layX 0 2 = some (5, 5) := rfl
theorem layX_0_3 : q_lk layX 0 3 = some (5, 6) := rfl
theorem layX_0_4 : q_lk layX 0 4 = some (5, 7) := rfl
theorem layX_0_5 : q_lk layX 0 5 = some (5, 8) := rfl
theorem layX_0_6 : q_lk layX 0 6 = some (5, 9) := rfl
theorem layX_0_7 : q_lk layX 0 7 = some (5, 0) := rfl
theorem layX_0_8 : q_lk layX 0 8 = some (5, 0) := rfl
theorem layX_0_9 : q_lk layX 0 9 = some (5, 0) := rfl
theorem layX_0_10 : q_lk layX 0 10 = some (5, 1) := rfl
theorem layX_1_0 : q_lk layX 1 0 = some (2, 10) := rfl
theorem layX_1_1 : q_lk layX 1 1 = some (2, 0) := rfl
theorem layX_1_2 : q_lk layX 1 2 = some (2, 0) := rfl
theorem layX_1_3 : q_lk layX 1 3 = some (2, 0) := rfl
theorem layX_1_4 : q_lk layX 1 4 = some (2, 11) := rfl
theorem layX_1_5 : q_lk layX 1 5 = some (2, 12) := rfl
theorem layX_1_6 : q_lk layX 1 6 = some (2, 0) := rfl
theorem layX_2_0 : q_lk layX 2 0 = some (3, 13) := rfl
theorem layX_2_1 : q_lk layX 2 1 = some (3, 14) := rfl
theorem layX_2_2 : q_lk layX 2 2 = some (3, 15) := rfl
theorem layX_2_3 : q_lk layX 2 3 = some (3, 16) := rfl
theorem layX_3_0 : q_lk layX 3 0 = some (0, 17) := rfl
theorem layX_3_1 : q_lk layX 3 1 = some (0, 18) := rfl
theorem layX_3_2 : q_lk layX 3 2 = some (0, 19) := rfl
theorem layX_3_3 : q_lk layX 3 3 = some (0, 20) := rfl
theorem layX_3_4 : q_lk layX 3 4 = some (0, 21) := rfl
theorem layX_3_5 : q_lk layX 3 5 = some (0, 22) := rfl
theorem layX_3_6 : q_lk layX 3 6 = some (0, 0) := rfl
theorem layX_3_7 : q_lk layX 3 7 = some (0, 0) := rfl
theorem layX_4_0 : q_lk layX 4 0 = some (1, 23) := rfl
theorem layX_4_1 : q_lk layX 4 1 = some (1, 0) := rfl
theorem layX_5_0 : q_lk layX 5 0 = some (4, 24) := rfl
theorem layX_5_1 : q_lk layX 5 1 = some (4, 25) := rfl
theorem layX_5_2 : q_lk layX 5 2 = some (4, 26) := rfl
theorem layX_5_3 : q_lk layX 5 3 = some (4, 0) := rfl
/-- 0 WidenDeskModel; 1 WidenDeskModel.text[60]; 2 WidenDeskModel.thing[10]; 3 WidenDeskModel.rowOf[10]; 4 WidenDeskModel.kindOf[11]; 5 WidenDeskModel.size[11]; 6 WidenDeskModel.form[66]; 7 WidenDeskModel.kind[66]; 8 WidenDeskModel.value[66]; 9 WidenDeskModel.number[20]; 10 WidenDeskModel.isStar[20]; 11 WidenDeskModel.reports[6]; 12 WidenDeskModel.oldThing[140]; 13 WidenDeskModel.oldRow[140]; 14 WidenDeskModel.oldKindOf[154]; 15 WidenDeskModel.oldSize[154]; 16 WidenDeskModel.oldForm[924]; 17 WidenDeskModel.oldKind[924]; 18 WidenDeskModel.oldValue[924]; 19 WidenDeskModel.oldNumber[280]; 20 WidenDeskModel.oldMarks[14]; 21 WidenDeskModel.seenHow[6]; 22 WidenDeskModel.seenKind[6]; 23 WidenDeskModel.seenReason[6]; 24 WidenDeskModel.newForm[6]; 25 WidenDeskModel.newCellKind[6]; 26 WidenDeskModel.newValue[6]; 27 WidenDeskModel.ends[64]; 28 WidenDeskModel.manyEnds[8] -/
def layM : List Sh := [.inr (6, [3, 0, 4, 5, 6, 7, 8, 9, 10, 11, 12, 0, 0, 0, 1, 13, 0, 14, 15, 16, 17, 18, 19, 20, 21, 22, 0, 0, 23, 24, 25, 0, 0, 0, 26, 27, 28, 0, 0, 1, 29, 30, 1, 0, 0, 1, 0]), .inl (0, 60), .inl (0, 10), .inl (0, 10), .inl (0, 11), .inl (0, 11), .inl (0, 66), .inl (0, 66), .inl (1, 66), .inl (0, 20), .inl (2, 20), .inl (0, 6), .inl (0, 140), .inl (0, 140), .inl (0, 154), .inl (0, 154), .inl (0, 924), .inl (0, 924), .inl (1, 924), .inl (0, 280), .inl (0, 14), .inl (0, 6), .inl (0, 6), .inl (0, 6), .inl (0, 6), .inl (0, 6), .inl (1, 6), .inl (1, 64), .inl (0, 8)]
theorem layM_0 : layM[0]? = some (.inr (6, [3, 0, 4, 5, 6, 7, 8, 9, 10, 11, 12, 0, 0, 0, 1, 13, 0, 14, 15, 16, 17, 18, 19, 20, 21, 22, 0, 0, 23, 24, 25, 0, 0, 0, 26, 27, 28, 0, 0, 1, 29, 30, 1, 0, 0, 1, 0])) := rfl
theorem layM_1 : layM[1]? = some (.inl (0, 60)) := rfl
theorem layM_2 : layM[2]? = some (.inl (0, 10)) := rfl
theorem layM_3 : layM[3]? = some (.inl (0, 10)) := rfl
theorem layM_4 : layM[4]? = some (.inl (0, 11)) := rfl
theorem layM_5 : layM[5]? = some (.inl (0, 11)) := rfl
theorem layM_6 : layM[6]? = some (.inl (0, 66)) := rfl
theorem layM_7 : layM[7]? = some (.inl (0, 66)) := rfl
theorem layM_8 : layM[8]? = some (.inl (1, 66)) := rfl
theorem layM_9 : layM[9]? = some (.inl (0, 20)) := rfl
theorem layM_10 : layM[10]? = some (.inl (2, 20)) := rfl
theorem layM_11 : layM[11]? = some (.inl (0, 6)) := rfl
theorem layM_12 : layM[12]? = some (.inl (0, 140)) := rfl
theorem layM_13 : layM[13]? = some (.inl (0, 140)) := rfl
theorem layM_14 : layM[14]? = some (.inl (0, 154)) := rfl
theorem layM_15 : layM[15]? = some (.inl (0, 154)) := rfl
theorem layM_16 : layM[16]? = some (.inl (0, 924)) := rfl
theorem layM_17 : layM[17]? = some (.inl (0, 924)) := rfl
theorem layM_18 : layM[18]? = some (.inl (1, 924)) := rfl
theorem layM_19 : layM[19]? = some (.inl (0, 280)) := rfl
theorem layM_20 : layM[20]? = some (.inl (0, 14)) := rfl
theorem layM_21 : layM[21]? = some (.inl (0, 6)) := rfl
theorem layM_22 : layM[22]? = some (.inl (0, 6)) := rfl
theorem layM_23 : layM[23]? = some (.inl (0, 6)) := rfl
theorem layM_24 : layM[24]? = some (.inl (0, 6)) := rfl
theorem layM_25 : layM[25]? = some (.inl (0, 6)) := rfl
theorem layM_26 : layM[26]? = some (.inl (1, 6)) := rfl
theorem layM_27 : layM[27]? = some (.inl (1, 64)) := rfl
theorem layM_28 : layM[28]? = some (.inl (0, 8)) := rfl
theorem layM_0_0 : q_lk layM 0 0 = some (6, 3) := rfl
theorem layM_0_1 : q_lk layM 0 1 = some (6, 0) := rfl
theorem layM_0_2 : q_lk layM 0 2 = some (6, 4) := rfl
theorem layM_0_3 : q_lk layM 0 3 = some (6, 5) := rfl
theorem layM_0_4 : q_lk layM 0 4 = some (6, 6) := rfl
theorem layM_0_5 : q_lk layM 0 5 = some (6, 7) := rfl
theorem layM_0_6 : q_lk layM 0 6 = some (6, 8) := rfl
theorem layM_0_7 : q_lk layM 0 7 = some (6, 9) := rfl
theorem layM_0_8 : q_lk layM 0 8 = some (6, 10) := rfl
theorem layM_0_9 : q_lk layM 0 9 = some (6, 11) := rfl
theorem layM_0_10 : q_lk layM 0 10 = some (6, 12) := rfl
theorem layM_0_11 : q_lk layM 0 11 = some (6, 0) := rfl
theorem layM_0_12 : q_lk layM 0 12 = some (6, 0) := rfl
theorem layM_0_13 : q_lk layM 0 13 = some (6, 0) := rfl
theorem layM_0_14 : q_lk layM 0 14 = some (6, 1) := rfl
theorem layM_0_15 : q_lk layM 0 15 = some (6, 13) := rfl
theorem layM_0_16 : q_lk layM 0 16 = some (6, 0) := rfl
theorem layM_0_17 : q_lk layM 0 17 = some (6, 14) := rfl
theorem layM_0_18 : q_lk layM 0 18 = some (6, 15) := rfl
theorem layM_0_19 : q_lk layM 0 19 = some (6, 16) := rfl
theorem layM_0_20 : q_lk layM 0 20 = some (6, 17) := rfl
theorem layM_0_21 : q_lk layM 0 21 = some (6, 18) := rfl
theorem layM_0_22 : q_lk layM 0 22 = some (6, 19) := rfl
theorem layM_0_23 : q_lk layM 0 23 = some (6, 20) := rfl
theorem layM_0_24 : q_lk layM 0 24 = some (6, 21) := rfl
theorem layM_0_25 : q_lk layM 0 25 = some (6, 22) := rfl
theorem layM_0_26 : q_lk layM 0 26 = some (6, 0) := rfl
theorem layM_0_27 : q_lk layM 0 27 = some (6, 0) := rfl
theorem layM_0_28 : q_lk layM 0 28 = some (6, 23) := rfl
theorem layM_0_29 : q_lk layM 0 29 = some (6, 24) := rfl
theorem layM_0_30 : q_lk layM 0 30 = some (6, 25) := rfl
theorem layM_0_31 : q_lk layM 0 31 = some (6, 0) := rfl
theorem layM_0_32 : q_lk layM 0 32 = some (6, 0) := rfl
theorem layM_0_33 : q_lk layM 0 33 = some (6, 0) := rfl
theorem layM_0_34 : q_lk layM 0 34 = some (6, 26) := rfl
theorem layM_0_35 : q_lk layM 0 35 = some (6, 27) := rfl
theorem layM_0_36 : q_lk layM 0 36 = some (6, 28) := rfl
theorem layM_0_37 : q_lk layM 0 37 = some (6, 0) := rfl
theorem layM_0_38 : q_lk layM 0 38 = some (6, 0) := rfl
theorem layM_0_39 : q_lk layM 0 39 = some (6, 1) := rfl
theorem layM_0_40 : q_lk layM 0 40 = some (6, 29) := rfl
theorem layM_0_41 : q_lk layM 0 41 = some (6, 30) := rfl
theorem layM_0_42 : q_lk layM 0 42 = some (6, 1) := rfl
theorem layM_0_43 : q_lk layM 0 43 = some (6, 0) := rfl
theorem layM_0_44 : q_lk layM 0 44 = some (6, 0) := rfl
theorem layM_0_45 : q_lk layM 0 45 = some (6, 1) := rfl
theorem layM_0_46 : q_lk layM 0 46 = some (6, 0) := rfl
theorem cb_m9 : (Int8.ofInt (-9)).toInt32 = (-9) := by decide
theorem cb_m4 : (Int8.ofInt (-4)).toInt32 = (-4) := by decide
theorem cb_m3 : (Int8.ofInt (-3)).toInt32 = (-3) := by decide
theorem cb_m2 : (Int8.ofInt (-2)).toInt32 = (-2) := by decide
theorem cb_6 : (Int8.ofInt 6).toInt32 = 6 := by decide
theorem cb_7 : (Int8.ofInt 7).toInt32 = 7 := by decide
theorem cb_8 : (Int8.ofInt 8).toInt32 = 8 := by decide
theorem cb_9 : (Int8.ofInt 9).toInt32 = 9 := by decide
theorem cb_10 : (Int8.ofInt 10).toInt32 = 10 := by decide
theorem cb_11 : (Int8.ofInt 11).toInt32 = 11 := by decide
theorem cb_12 : (Int8.ofInt 12).toInt32 = 12 := by decide
theorem cb_13 : (Int8.ofInt 13).toInt32 = 13 := by decide
theorem cb_14 : (Int8.ofInt 14).toInt32 = 14 := by decide
theorem cb_15 : (Int8.ofInt 15).toInt32 = 15 := by decide
theorem cb_16 : (Int8.ofInt 16).toInt32 = 16 := by decide
theorem cb_20 : (Int8.ofInt 20).toInt32 = 20 := by decide
theorem cb_23 : (Int8.ofInt 23).toInt32 = 23 := by decide
theorem cb_24 : (Int8.ofInt 24).toInt32 = 24 := by decide
theorem cb_25 : (Int8.ofInt 25).toInt32 = 25 := by decide
theorem cb_29 : (Int8.ofInt 29).toInt32 = 29 := by decide
theorem cb_31 : (Int8.ofInt 31).toInt32 = 31 := by decide
theorem cb_32 : (Int8.ofInt 32).toInt32 = 32 := by decide
theorem cb_42 : (Int8.ofInt 42).toInt32 = 42 := by decide
theorem cb_44 : (Int8.ofInt 44).toInt32 = 44 := by decide
theorem cb_45 : (Int8.ofInt 45).toInt32 = 45 := by decide
theorem cb_48 : (Int8.ofInt 48).toInt32 = 48 := by decide
theorem cb_52 : (Int8.ofInt 52).toInt32 = 52 := by decide
theorem cb_53 : (Int8.ofInt 53).toInt32 = 53 := by decide
theorem cb_57 : (Int8.ofInt 57).toInt32 = 57 := by decide
theorem cb_60 : (Int8.ofInt 60).toInt32 = 60 := by decide
theorem cb_62 : (Int8.ofInt 62).toInt32 = 62 := by decide
theorem cb_63 : (Int8.ofInt 63).toInt32 = 63 := by decide
theorem cb_64 : (Int8.ofInt 64).toInt32 = 64 := by decide
theorem cb_66 : (Int8.ofInt 66).toInt32 = 66 := by decide
theorem cb_99 : (Int8.ofInt 99).toInt32 = 99 := by decide
theorem cb_100 : (Int8.ofInt 100).toInt32 = 100 := by decide
theorem cb_111 : (Int8.ofInt 111).toInt32 = 111 := by decide
theorem cb_116 : (Int8.ofInt 116).toInt32 = 116 := by decide
theorem cb_119 : (Int8.ofInt 119).toInt32 = 119 := by decide
theorem cb_127 : (Int8.ofInt 127).toInt32 = 127 := by decide
theorem ci_m1 : Int32.ofInt (-1) = (-1) := by decide
theorem ci_0 : Int32.ofInt 0 = 0 := by decide
theorem ci_1 : Int32.ofInt 1 = 1 := by decide
theorem ci_2 : Int32.ofInt 2 = 2 := by decide
theorem ci_3 : Int32.ofInt 3 = 3 := by decide
theorem ci_4 : Int32.ofInt 4 = 4 := by decide
theorem ci_5 : Int32.ofInt 5 = 5 := by decide
theorem cx_m16 (x : Int32) : x + Int32.ofInt (-16) = x + (-16) := by rw [show Int32.ofInt (-16) = (-16) by decide]
theorem cx_m8 (x : Int32) : x + Int32.ofInt (-8) = x + (-8) := by rw [show Int32.ofInt (-8) = (-8) by decide]
theorem cx_m4 (x : Int32) : x + Int32.ofInt (-4) = x + (-4) := by rw [show Int32.ofInt (-4) = (-4) by decide]
theorem cx_m2 (x : Int32) : x + Int32.ofInt (-2) = x + (-2) := by rw [show Int32.ofInt (-2) = (-2) by decide]
theorem cx_m1 (x : Int32) : x + Int32.ofInt (-1) = x + (-1) := by rw [show Int32.ofInt (-1) = (-1) by decide]
theorem cx_1 (x : Int32) : x + Int32.ofInt 1 = x + 1 := by rw [show Int32.ofInt 1 = 1 by decide]
theorem cs_255 : (Int16.ofInt 255).toInt32 = 255 := by decide
theorem cs_256 : (Int16.ofInt 256).toInt32 = 256 := by decide
theorem cs_999 : (Int16.ofInt 999).toInt32 = 999 := by decide
theorem cs_1000 : (Int16.ofInt 1000).toInt32 = 1000 := by decide
theorem cs_1023 : (Int16.ofInt 1023).toInt32 = 1023 := by decide
theorem cs_2047 : (Int16.ofInt 2047).toInt32 = 2047 := by decide
theorem cs_9999 : (Int16.ofInt 9999).toInt32 = 9999 := by decide
theorem cl_0 : Int64.ofNat ((0 : Fin 2) : Nat) = 0 := by decide
theorem cl_1 : Int64.ofNat ((1 : Fin 2) : Nat) = 1 := by decide
theorem inTT_X0 : ∀ w ∈ u_ws RX0 TX0 8, w ∈ TT := by
  have h : u_ws RX0 TX0 8 = ([157, 159, 161, 163, 165, 167, 169, 171] : List Nat).filterMap (fun i => lw_tbl[i]?) := by decide +kernel
  have g : ∀ w ∈ u_ws RX0 TX0 8, goodWord w = true := by decide +kernel
  intro w hw
  have hg := g w hw
  rw [h] at hw
  obtain ⟨i, -, hi⟩ := List.mem_filterMap.mp hw
  exact TT_in i hi hg
theorem inTT_X1 : ∀ w ∈ u_ws RX1 TX1 2, w ∈ TT := by
  have h : u_ws RX1 TX1 2 = ([183, 185] : List Nat).filterMap (fun i => lw_tbl[i]?) := by decide +kernel
  have g : ∀ w ∈ u_ws RX1 TX1 2, goodWord w = true := by decide +kernel
  intro w hw
  have hg := g w hw
  rw [h] at hw
  obtain ⟨i, -, hi⟩ := List.mem_filterMap.mp hw
  exact TT_in i hi hg
theorem inTT_X3 : ∀ w ∈ u_ws RX3 TX3 7, w ∈ TT := by
  have h : u_ws RX3 TX3 7 = ([100, 102, 104, 106, 108, 110, 112] : List Nat).filterMap (fun i => lw_tbl[i]?) := by decide +kernel
  have g : ∀ w ∈ u_ws RX3 TX3 7, goodWord w = true := by decide +kernel
  intro w hw
  have hg := g w hw
  rw [h] at hw
  obtain ⟨i, -, hi⟩ := List.mem_filterMap.mp hw
  exact TT_in i hi hg
theorem inTT_X5 : ∀ w ∈ u_ws RX5 TX5 4, w ∈ TT := by
  have h : u_ws RX5 TX5 4 = ([129, 131, 133, 135] : List Nat).filterMap (fun i => lw_tbl[i]?) := by decide +kernel
  have g : ∀ w ∈ u_ws RX5 TX5 4, goodWord w = true := by decide +kernel
  intro w hw
  have hg := g w hw
  rw [h] at hw
  obtain ⟨i, -, hi⟩ := List.mem_filterMap.mp hw
  exact TT_in i hi hg
theorem inTT_X6 : ∀ w ∈ u_ws RX6 TX6 4, w ∈ TT := by
  have h : u_ws RX6 TX6 4 = ([199, 201, 203, 205] : List Nat).filterMap (fun i => lw_tbl[i]?) := by decide +kernel
  have g : ∀ w ∈ u_ws RX6 TX6 4, goodWord w = true := by decide +kernel
  intro w hw
  have hg := g w hw
  rw [h] at hw
  obtain ⟨i, -, hi⟩ := List.mem_filterMap.mp hw
  exact TT_in i hi hg
theorem inTT_X7 : ∀ w ∈ u_ws RX7 TX7 11, w ∈ TT := by
  have h : u_ws RX7 TX7 11 = ([219, 221, 223, 225, 227, 229, 231, 233, 235, 237, 239] : List Nat).filterMap (fun i => lw_tbl[i]?) := by decide +kernel
  have g : ∀ w ∈ u_ws RX7 TX7 11, goodWord w = true := by decide +kernel
  intro w hw
  have hg := g w hw
  rw [h] at hw
  obtain ⟨i, -, hi⟩ := List.mem_filterMap.mp hw
  exact TT_in i hi hg
theorem inTT_X8 : ∀ w ∈ u_ws RX8 TX8 47, w ∈ TT := by
  have h : u_ws RX8 TX8 47 = ([899, 901, 903, 905, 907, 909, 911, 913, 915, 917, 919, 921, 923, 925, 927, 929, 931, 933, 935, 937, 939, 941, 943, 945, 947, 949, 951, 953, 955, 957, 959, 961, 963, 965, 967, 969, 971, 973, 975, 977, 979, 981, 983, 985, 987, 989, 991] : List Nat).filterMap (fun i => lw_tbl[i]?) := by decide +kernel
  have g : ∀ w ∈ u_ws RX8 TX8 47, goodWord w = true := by decide +kernel
  intro w hw
  have hg := g w hw
  rw [h] at hw
  obtain ⟨i, -, hi⟩ := List.mem_filterMap.mp hw
  exact TT_in i hi hg
theorem fdX7_12 : q_Fd RX7 12 5 0 (.object "WidenDesk$Reader") true := ⟨RX7, TX7, 11, tyX7, rfl, by decide, inTT_X7, TT_in 208 (by decide +kernel) rfl, tyX7_ok, nmX7, rfl, rfl⟩
theorem fdX7_19 : q_Fd RX7 19 5 1 (.object "WidenDesk$Shelf") true := ⟨RX7, TX7, 11, tyX7, rfl, by decide, inTT_X7, TT_in 209 (by decide +kernel) rfl, tyX7_ok, nmX7, rfl, rfl⟩
theorem fdX7_26 : q_Fd RX7 26 5 2 (.object "WidenDesk$Log") true := ⟨RX7, TX7, 11, tyX7, rfl, by decide, inTT_X7, TT_in 210 (by decide +kernel) rfl, tyX7_ok, nmX7, rfl, rfl⟩
theorem fdX7_33 : q_Fd RX7 33 5 3 (.object "WidenDesk$Marks") true := ⟨RX7, TX7, 11, tyX7, rfl, by decide, inTT_X7, TT_in 211 (by decide +kernel) rfl, tyX7_ok, nmX7, rfl, rfl⟩
theorem fdX7_40 : q_Fd RX7 40 5 4 (.object "WidenDesk$Views") true := ⟨RX7, TX7, 11, tyX7, rfl, by decide, inTT_X7, TT_in 212 (by decide +kernel) rfl, tyX7_ok, nmX7, rfl, rfl⟩
theorem fdX7_44 : q_Fd RX7 44 5 5 (.array .int) true := ⟨RX7, TX7, 11, tyX7, rfl, by decide, inTT_X7, TT_in 213 (by decide +kernel) rfl, tyX7_ok, nmX7, rfl, rfl⟩
theorem fdX7_48 : q_Fd RX7 48 5 6 (.array .int) true := ⟨RX7, TX7, 11, tyX7, rfl, by decide, inTT_X7, TT_in 214 (by decide +kernel) rfl, tyX7_ok, nmX7, rfl, rfl⟩
theorem fdX7_51 : q_Fd RX7 51 5 7 .int false := ⟨RX7, TX7, 11, tyX7, rfl, by decide, inTT_X7, TT_in 215 (by decide +kernel) rfl, tyX7_ok, nmX7, rfl, rfl⟩
theorem fdX7_55 : q_Fd RX7 55 5 8 .int false := ⟨RX7, TX7, 11, tyX7, rfl, by decide, inTT_X7, TT_in 216 (by decide +kernel) rfl, tyX7_ok, nmX7, rfl, rfl⟩
theorem fdX7_58 : q_Fd RX7 58 5 9 .int false := ⟨RX7, TX7, 11, tyX7, rfl, by decide, inTT_X7, TT_in 217 (by decide +kernel) rfl, tyX7_ok, nmX7, rfl, rfl⟩
theorem fdX7_61 : q_Fd RX7 61 5 10 .long false := ⟨RX7, TX7, 11, tyX7, rfl, by decide, inTT_X7, TT_in 218 (by decide +kernel) rfl, tyX7_ok, nmX7, rfl, rfl⟩
theorem fdX7_69 : q_Fd RX7 69 2 1 .int false := ⟨RX3, TX3, 7, tyX3, rfl, by decide, inTT_X3, TT_in 90 (by decide +kernel) rfl, tyX3_ok, nmX3, rfl, rfl⟩
theorem fdX7_79 : q_Fd RX7 79 2 2 .int false := ⟨RX3, TX3, 7, tyX3, rfl, by decide, inTT_X3, TT_in 92 (by decide +kernel) rfl, tyX3_ok, nmX3, rfl, rfl⟩
theorem fdX7_82 : q_Fd RX7 82 2 3 .int false := ⟨RX3, TX3, 7, tyX3, rfl, by decide, inTT_X3, TT_in 94 (by decide +kernel) rfl, tyX3_ok, nmX3, rfl, rfl⟩
theorem fdX7_89 : q_Fd RX7 89 2 4 (.array .int) true := ⟨RX3, TX3, 7, tyX3, rfl, by decide, inTT_X3, TT_in 96 (by decide +kernel) rfl, tyX3_ok, nmX3, rfl, rfl⟩
theorem fdX7_92 : q_Fd RX7 92 2 5 (.array .long) true := ⟨RX3, TX3, 7, tyX3, rfl, by decide, inTT_X3, TT_in 98 (by decide +kernel) rfl, tyX3_ok, nmX3, rfl, rfl⟩
theorem fdX7_110 : q_Fd RX7 110 1 1 .int false := ⟨RX1, TX1, 2, tyX1, rfl, by decide, inTT_X1, TT_in 182 (by decide +kernel) rfl, tyX1_ok, nmX1, rfl, rfl⟩
theorem fdX7_111 : q_Fd RX7 111 0 7 .int false := ⟨RX0, TX0, 8, tyX0, rfl, by decide, inTT_X0, TT_in 156 (by decide +kernel) rfl, tyX0_ok, nmX0, rfl, rfl⟩
theorem fdX7_114 : q_Fd RX7 114 4 3 .int false := ⟨RX6, TX6, 4, tyX6, rfl, by decide, inTT_X6, TT_in 198 (by decide +kernel) rfl, tyX6_ok, nmX6, rfl, rfl⟩
theorem fdX7_132 : q_Fd RX7 132 3 1 (.array .int) true := ⟨RX5, TX5, 4, tyX5, rfl, by decide, inTT_X5, TT_in 126 (by decide +kernel) rfl, tyX5_ok, nmX5, rfl, rfl⟩
theorem fdX7_277 : q_Fd RX7 277 0 0 (.array .int) true := ⟨RX0, TX0, 8, tyX0, rfl, by decide, inTT_X0, TT_in 145 (by decide +kernel) rfl, tyX0_ok, nmX0, rfl, rfl⟩
theorem fdX7_280 : q_Fd RX7 280 0 1 (.array .int) true := ⟨RX0, TX0, 8, tyX0, rfl, by decide, inTT_X0, TT_in 147 (by decide +kernel) rfl, tyX0_ok, nmX0, rfl, rfl⟩
theorem fdX7_283 : q_Fd RX7 283 0 2 (.array .int) true := ⟨RX0, TX0, 8, tyX0, rfl, by decide, inTT_X0, TT_in 149 (by decide +kernel) rfl, tyX0_ok, nmX0, rfl, rfl⟩
theorem fdX7_289 : q_Fd RX7 289 0 3 (.array .int) true := ⟨RX0, TX0, 8, tyX0, rfl, by decide, inTT_X0, TT_in 151 (by decide +kernel) rfl, tyX0_ok, nmX0, rfl, rfl⟩
theorem fdX7_292 : q_Fd RX7 292 3 0 (.array .int) true := ⟨RX5, TX5, 4, tyX5, rfl, by decide, inTT_X5, TT_in 124 (by decide +kernel) rfl, tyX5_ok, nmX5, rfl, rfl⟩
theorem fdX0_11 : q_Fd RX0 11 0 0 (.array .int) true := ⟨RX0, TX0, 8, tyX0, rfl, by decide, inTT_X0, TT_in 144 (by decide +kernel) rfl, tyX0_ok, nmX0, rfl, rfl⟩
theorem fdX0_15 : q_Fd RX0 15 0 1 (.array .int) true := ⟨RX0, TX0, 8, tyX0, rfl, by decide, inTT_X0, TT_in 146 (by decide +kernel) rfl, tyX0_ok, nmX0, rfl, rfl⟩
theorem fdX0_18 : q_Fd RX0 18 0 2 (.array .int) true := ⟨RX0, TX0, 8, tyX0, rfl, by decide, inTT_X0, TT_in 148 (by decide +kernel) rfl, tyX0_ok, nmX0, rfl, rfl⟩
theorem fdX0_21 : q_Fd RX0 21 0 3 (.array .int) true := ⟨RX0, TX0, 8, tyX0, rfl, by decide, inTT_X0, TT_in 150 (by decide +kernel) rfl, tyX0_ok, nmX0, rfl, rfl⟩
theorem fdX0_24 : q_Fd RX0 24 0 4 (.array .int) true := ⟨RX0, TX0, 8, tyX0, rfl, by decide, inTT_X0, TT_in 152 (by decide +kernel) rfl, tyX0_ok, nmX0, rfl, rfl⟩
theorem fdX0_27 : q_Fd RX0 27 0 5 (.array .long) true := ⟨RX0, TX0, 8, tyX0, rfl, by decide, inTT_X0, TT_in 153 (by decide +kernel) rfl, tyX0_ok, nmX0, rfl, rfl⟩
theorem fdX0_31 : q_Fd RX0 31 0 6 .int false := ⟨RX0, TX0, 8, tyX0, rfl, by decide, inTT_X0, TT_in 154 (by decide +kernel) rfl, tyX0_ok, nmX0, rfl, rfl⟩
theorem fdX0_35 : q_Fd RX0 35 0 7 .int false := ⟨RX0, TX0, 8, tyX0, rfl, by decide, inTT_X0, TT_in 155 (by decide +kernel) rfl, tyX0_ok, nmX0, rfl, rfl⟩
theorem fdX1_9 : q_Fd RX1 9 1 0 (.array .int) true := ⟨RX1, TX1, 2, tyX1, rfl, by decide, inTT_X1, TT_in 180 (by decide +kernel) rfl, tyX1_ok, nmX1, rfl, rfl⟩
theorem fdX1_13 : q_Fd RX1 13 1 1 .int false := ⟨RX1, TX1, 2, tyX1, rfl, by decide, inTT_X1, TT_in 181 (by decide +kernel) rfl, tyX1_ok, nmX1, rfl, rfl⟩
theorem fdX3_11 : q_Fd RX3 11 2 0 (.array .int) true := ⟨RX3, TX3, 7, tyX3, rfl, by decide, inTT_X3, TT_in 88 (by decide +kernel) rfl, tyX3_ok, nmX3, rfl, rfl⟩
theorem fdX3_15 : q_Fd RX3 15 2 1 .int false := ⟨RX3, TX3, 7, tyX3, rfl, by decide, inTT_X3, TT_in 89 (by decide +kernel) rfl, tyX3_ok, nmX3, rfl, rfl⟩
theorem fdX3_19 : q_Fd RX3 19 2 2 .int false := ⟨RX3, TX3, 7, tyX3, rfl, by decide, inTT_X3, TT_in 91 (by decide +kernel) rfl, tyX3_ok, nmX3, rfl, rfl⟩
theorem fdX3_22 : q_Fd RX3 22 2 3 .int false := ⟨RX3, TX3, 7, tyX3, rfl, by decide, inTT_X3, TT_in 93 (by decide +kernel) rfl, tyX3_ok, nmX3, rfl, rfl⟩
theorem fdX3_25 : q_Fd RX3 25 2 4 (.array .int) true := ⟨RX3, TX3, 7, tyX3, rfl, by decide, inTT_X3, TT_in 95 (by decide +kernel) rfl, tyX3_ok, nmX3, rfl, rfl⟩
theorem fdX3_28 : q_Fd RX3 28 2 5 (.array .long) true := ⟨RX3, TX3, 7, tyX3, rfl, by decide, inTT_X3, TT_in 97 (by decide +kernel) rfl, tyX3_ok, nmX3, rfl, rfl⟩
theorem fdX3_32 : q_Fd RX3 32 2 6 .int false := ⟨RX3, TX3, 7, tyX3, rfl, by decide, inTT_X3, TT_in 99 (by decide +kernel) rfl, tyX3_ok, nmX3, rfl, rfl⟩
theorem fdX5_13 : q_Fd RX5 13 3 0 (.array .int) true := ⟨RX5, TX5, 4, tyX5, rfl, by decide, inTT_X5, TT_in 123 (by decide +kernel) rfl, tyX5_ok, nmX5, rfl, rfl⟩
theorem fdX5_17 : q_Fd RX5 17 3 1 (.array .int) true := ⟨RX5, TX5, 4, tyX5, rfl, by decide, inTT_X5, TT_in 125 (by decide +kernel) rfl, tyX5_ok, nmX5, rfl, rfl⟩
theorem fdX5_20 : q_Fd RX5 20 3 2 (.array .int) true := ⟨RX5, TX5, 4, tyX5, rfl, by decide, inTT_X5, TT_in 127 (by decide +kernel) rfl, tyX5_ok, nmX5, rfl, rfl⟩
theorem fdX5_23 : q_Fd RX5 23 3 3 (.array .long) true := ⟨RX5, TX5, 4, tyX5, rfl, by decide, inTT_X5, TT_in 128 (by decide +kernel) rfl, tyX5_ok, nmX5, rfl, rfl⟩
theorem fdX6_11 : q_Fd RX6 11 4 0 (.array .int) true := ⟨RX6, TX6, 4, tyX6, rfl, by decide, inTT_X6, TT_in 194 (by decide +kernel) rfl, tyX6_ok, nmX6, rfl, rfl⟩
theorem fdX6_15 : q_Fd RX6 15 4 1 (.array .int) true := ⟨RX6, TX6, 4, tyX6, rfl, by decide, inTT_X6, TT_in 195 (by decide +kernel) rfl, tyX6_ok, nmX6, rfl, rfl⟩
theorem fdX6_18 : q_Fd RX6 18 4 2 (.array .int) true := ⟨RX6, TX6, 4, tyX6, rfl, by decide, inTT_X6, TT_in 196 (by decide +kernel) rfl, tyX6_ok, nmX6, rfl, rfl⟩
theorem fdX6_21 : q_Fd RX6 21 4 3 .int false := ⟨RX6, TX6, 4, tyX6, rfl, by decide, inTT_X6, TT_in 197 (by decide +kernel) rfl, tyX6_ok, nmX6, rfl, rfl⟩
theorem fdX8_7 : q_Fd RX8 7 6 0 (.array .int) true := ⟨RX8, TX8, 47, tyX8, rfl, by decide, inTT_X8, TT_in 852 (by decide +kernel) rfl, tyX8_ok, nmX8, rfl, rfl⟩
theorem fdX8_13 : q_Fd RX8 13 6 2 (.array .int) true := ⟨RX8, TX8, 47, tyX8, rfl, by decide, inTT_X8, TT_in 854 (by decide +kernel) rfl, tyX8_ok, nmX8, rfl, rfl⟩
theorem fdX8_16 : q_Fd RX8 16 6 3 (.array .int) true := ⟨RX8, TX8, 47, tyX8, rfl, by decide, inTT_X8, TT_in 855 (by decide +kernel) rfl, tyX8_ok, nmX8, rfl, rfl⟩
theorem fdX8_19 : q_Fd RX8 19 6 4 (.array .int) true := ⟨RX8, TX8, 47, tyX8, rfl, by decide, inTT_X8, TT_in 856 (by decide +kernel) rfl, tyX8_ok, nmX8, rfl, rfl⟩
theorem fdX8_22 : q_Fd RX8 22 6 5 (.array .int) true := ⟨RX8, TX8, 47, tyX8, rfl, by decide, inTT_X8, TT_in 857 (by decide +kernel) rfl, tyX8_ok, nmX8, rfl, rfl⟩
theorem fdX8_25 : q_Fd RX8 25 6 6 (.array .int) true := ⟨RX8, TX8, 47, tyX8, rfl, by decide, inTT_X8, TT_in 858 (by decide +kernel) rfl, tyX8_ok, nmX8, rfl, rfl⟩
theorem fdX8_28 : q_Fd RX8 28 6 7 (.array .int) true := ⟨RX8, TX8, 47, tyX8, rfl, by decide, inTT_X8, TT_in 859 (by decide +kernel) rfl, tyX8_ok, nmX8, rfl, rfl⟩
theorem fdX8_31 : q_Fd RX8 31 6 8 (.array .long) true := ⟨RX8, TX8, 47, tyX8, rfl, by decide, inTT_X8, TT_in 860 (by decide +kernel) rfl, tyX8_ok, nmX8, rfl, rfl⟩
theorem fdX8_35 : q_Fd RX8 35 6 9 (.array .int) true := ⟨RX8, TX8, 47, tyX8, rfl, by decide, inTT_X8, TT_in 861 (by decide +kernel) rfl, tyX8_ok, nmX8, rfl, rfl⟩
theorem fdX8_38 : q_Fd RX8 38 6 10 (.array .boolean) true := ⟨RX8, TX8, 47, tyX8, rfl, by decide, inTT_X8, TT_in 862 (by decide +kernel) rfl, tyX8_ok, nmX8, rfl, rfl⟩
theorem fdX8_42 : q_Fd RX8 42 6 15 (.array .int) true := ⟨RX8, TX8, 47, tyX8, rfl, by decide, inTT_X8, TT_in 867 (by decide +kernel) rfl, tyX8_ok, nmX8, rfl, rfl⟩
theorem fdX8_45 : q_Fd RX8 45 6 17 (.array .int) true := ⟨RX8, TX8, 47, tyX8, rfl, by decide, inTT_X8, TT_in 869 (by decide +kernel) rfl, tyX8_ok, nmX8, rfl, rfl⟩
theorem fdX8_48 : q_Fd RX8 48 6 18 (.array .int) true := ⟨RX8, TX8, 47, tyX8, rfl, by decide, inTT_X8, TT_in 870 (by decide +kernel) rfl, tyX8_ok, nmX8, rfl, rfl⟩
theorem fdX8_51 : q_Fd RX8 51 6 19 (.array .int) true := ⟨RX8, TX8, 47, tyX8, rfl, by decide, inTT_X8, TT_in 871 (by decide +kernel) rfl, tyX8_ok, nmX8, rfl, rfl⟩
theorem fdX8_54 : q_Fd RX8 54 6 20 (.array .int) true := ⟨RX8, TX8, 47, tyX8, rfl, by decide, inTT_X8, TT_in 872 (by decide +kernel) rfl, tyX8_ok, nmX8, rfl, rfl⟩
theorem fdX8_57 : q_Fd RX8 57 6 21 (.array .int) true := ⟨RX8, TX8, 47, tyX8, rfl, by decide, inTT_X8, TT_in 873 (by decide +kernel) rfl, tyX8_ok, nmX8, rfl, rfl⟩
theorem fdX8_60 : q_Fd RX8 60 6 22 (.array .int) true := ⟨RX8, TX8, 47, tyX8, rfl, by decide, inTT_X8, TT_in 874 (by decide +kernel) rfl, tyX8_ok, nmX8, rfl, rfl⟩
theorem fdX8_63 : q_Fd RX8 63 6 23 (.array .long) true := ⟨RX8, TX8, 47, tyX8, rfl, by decide, inTT_X8, TT_in 875 (by decide +kernel) rfl, tyX8_ok, nmX8, rfl, rfl⟩
theorem fdX8_66 : q_Fd RX8 66 6 24 (.array .int) true := ⟨RX8, TX8, 47, tyX8, rfl, by decide, inTT_X8, TT_in 876 (by decide +kernel) rfl, tyX8_ok, nmX8, rfl, rfl⟩
theorem fdX8_69 : q_Fd RX8 69 6 25 (.array .int) true := ⟨RX8, TX8, 47, tyX8, rfl, by decide, inTT_X8, TT_in 877 (by decide +kernel) rfl, tyX8_ok, nmX8, rfl, rfl⟩
theorem fdX8_72 : q_Fd RX8 72 6 28 (.array .int) true := ⟨RX8, TX8, 47, tyX8, rfl, by decide, inTT_X8, TT_in 880 (by decide +kernel) rfl, tyX8_ok, nmX8, rfl, rfl⟩
theorem fdX8_75 : q_Fd RX8 75 6 29 (.array .int) true := ⟨RX8, TX8, 47, tyX8, rfl, by decide, inTT_X8, TT_in 881 (by decide +kernel) rfl, tyX8_ok, nmX8, rfl, rfl⟩
theorem fdX8_78 : q_Fd RX8 78 6 30 (.array .int) true := ⟨RX8, TX8, 47, tyX8, rfl, by decide, inTT_X8, TT_in 882 (by decide +kernel) rfl, tyX8_ok, nmX8, rfl, rfl⟩
theorem fdX8_81 : q_Fd RX8 81 6 34 (.array .int) true := ⟨RX8, TX8, 47, tyX8, rfl, by decide, inTT_X8, TT_in 886 (by decide +kernel) rfl, tyX8_ok, nmX8, rfl, rfl⟩
theorem fdX8_84 : q_Fd RX8 84 6 35 (.array .int) true := ⟨RX8, TX8, 47, tyX8, rfl, by decide, inTT_X8, TT_in 887 (by decide +kernel) rfl, tyX8_ok, nmX8, rfl, rfl⟩
theorem fdX8_87 : q_Fd RX8 87 6 36 (.array .long) true := ⟨RX8, TX8, 47, tyX8, rfl, by decide, inTT_X8, TT_in 888 (by decide +kernel) rfl, tyX8_ok, nmX8, rfl, rfl⟩
theorem fdX8_90 : q_Fd RX8 90 6 40 (.array .long) true := ⟨RX8, TX8, 47, tyX8, rfl, by decide, inTT_X8, TT_in 892 (by decide +kernel) rfl, tyX8_ok, nmX8, rfl, rfl⟩
theorem fdX8_93 : q_Fd RX8 93 6 41 (.array .int) true := ⟨RX8, TX8, 47, tyX8, rfl, by decide, inTT_X8, TT_in 893 (by decide +kernel) rfl, tyX8_ok, nmX8, rfl, rfl⟩
theorem fdX8_102 : q_Fd RX8 102 6 42 .long false := ⟨RX8, TX8, 47, tyX8, rfl, by decide, inTT_X8, TT_in 894 (by decide +kernel) rfl, tyX8_ok, nmX8, rfl, rfl⟩
theorem fdX8_106 : q_Fd RX8 106 6 43 .int false := ⟨RX8, TX8, 47, tyX8, rfl, by decide, inTT_X8, TT_in 895 (by decide +kernel) rfl, tyX8_ok, nmX8, rfl, rfl⟩
theorem fdX8_162 : q_Fd RX8 162 6 1 .int false := ⟨RX8, TX8, 47, tyX8, rfl, by decide, inTT_X8, TT_in 853 (by decide +kernel) rfl, tyX8_ok, nmX8, rfl, rfl⟩
theorem fdX8_169 : q_Fd RX8 169 6 44 .int false := ⟨RX8, TX8, 47, tyX8, rfl, by decide, inTT_X8, TT_in 896 (by decide +kernel) rfl, tyX8_ok, nmX8, rfl, rfl⟩
theorem fdX8_183 : q_Fd RX8 183 6 45 .long false := ⟨RX8, TX8, 47, tyX8, rfl, by decide, inTT_X8, TT_in 897 (by decide +kernel) rfl, tyX8_ok, nmX8, rfl, rfl⟩
theorem fdX8_186 : q_Fd RX8 186 6 46 .boolean false := ⟨RX8, TX8, 47, tyX8, rfl, by decide, inTT_X8, TT_in 898 (by decide +kernel) rfl, tyX8_ok, nmX8, rfl, rfl⟩
theorem fdX8_192 : q_Fd RX8 192 6 33 .int false := ⟨RX8, TX8, 47, tyX8, rfl, by decide, inTT_X8, TT_in 885 (by decide +kernel) rfl, tyX8_ok, nmX8, rfl, rfl⟩
theorem fdX8_195 : q_Fd RX8 195 6 32 .int false := ⟨RX8, TX8, 47, tyX8, rfl, by decide, inTT_X8, TT_in 884 (by decide +kernel) rfl, tyX8_ok, nmX8, rfl, rfl⟩
theorem fdX8_227 : q_Fd RX8 227 6 27 .int false := ⟨RX8, TX8, 47, tyX8, rfl, by decide, inTT_X8, TT_in 879 (by decide +kernel) rfl, tyX8_ok, nmX8, rfl, rfl⟩
theorem fdX8_230 : q_Fd RX8 230 6 11 .int false := ⟨RX8, TX8, 47, tyX8, rfl, by decide, inTT_X8, TT_in 863 (by decide +kernel) rfl, tyX8_ok, nmX8, rfl, rfl⟩
theorem fdX8_233 : q_Fd RX8 233 6 26 .int false := ⟨RX8, TX8, 47, tyX8, rfl, by decide, inTT_X8, TT_in 878 (by decide +kernel) rfl, tyX8_ok, nmX8, rfl, rfl⟩
theorem fdX8_248 : q_Fd RX8 248 6 16 .int false := ⟨RX8, TX8, 47, tyX8, rfl, by decide, inTT_X8, TT_in 868 (by decide +kernel) rfl, tyX8_ok, nmX8, rfl, rfl⟩
theorem fdX8_251 : q_Fd RX8 251 6 31 .int false := ⟨RX8, TX8, 47, tyX8, rfl, by decide, inTT_X8, TT_in 883 (by decide +kernel) rfl, tyX8_ok, nmX8, rfl, rfl⟩
theorem fdX8_270 : q_Fd RX8 270 6 37 .int false := ⟨RX8, TX8, 47, tyX8, rfl, by decide, inTT_X8, TT_in 889 (by decide +kernel) rfl, tyX8_ok, nmX8, rfl, rfl⟩
theorem fdX8_273 : q_Fd RX8 273 6 38 .int false := ⟨RX8, TX8, 47, tyX8, rfl, by decide, inTT_X8, TT_in 890 (by decide +kernel) rfl, tyX8_ok, nmX8, rfl, rfl⟩
theorem fdX8_276 : q_Fd RX8 276 6 39 .long false := ⟨RX8, TX8, 47, tyX8, rfl, by decide, inTT_X8, TT_in 891 (by decide +kernel) rfl, tyX8_ok, nmX8, rfl, rfl⟩
theorem fdX8_296 : q_Fd RX8 296 6 12 .int false := ⟨RX8, TX8, 47, tyX8, rfl, by decide, inTT_X8, TT_in 864 (by decide +kernel) rfl, tyX8_ok, nmX8, rfl, rfl⟩
theorem fdX8_299 : q_Fd RX8 299 6 13 .int false := ⟨RX8, TX8, 47, tyX8, rfl, by decide, inTT_X8, TT_in 865 (by decide +kernel) rfl, tyX8_ok, nmX8, rfl, rfl⟩
theorem fdX8_302 : q_Fd RX8 302 6 14 .long false := ⟨RX8, TX8, 47, tyX8, rfl, by decide, inTT_X8, TT_in 866 (by decide +kernel) rfl, tyX8_ok, nmX8, rfl, rfl⟩
theorem lkX7_65 : q_LkV RX7 65 yX3_append cX3_append 2 (some .boolean) 1 2 := ⟨⟨TT_in 249 (by decide +kernel) rfl, TT_in 246 (by decide +kernel) rfl, TT_in 58 (by decide +kernel) rfl, ⟨by decide, by decide⟩, by decide +kernel, by decide⟩, TT_in 247 (by decide +kernel) rfl, TT_in 248 (by decide +kernel) rfl, ⟨_, _, rfl⟩⟩
theorem lkX7_72 : q_LkV RX7 72 yX3_scan cX3_scan 1 (some .int) 0 2 := ⟨⟨TT_in 261 (by decide +kernel) rfl, TT_in 258 (by decide +kernel) rfl, TT_in 58 (by decide +kernel) rfl, ⟨by decide, by decide⟩, by decide +kernel, by decide⟩, TT_in 259 (by decide +kernel) rfl, TT_in 260 (by decide +kernel) rfl, ⟨_, _, rfl⟩⟩
theorem lkX7_76 : q_LkS RX7 76 yX7_isSlot cX7_isSlot 1 (some .boolean) 1 := ⟨⟨TT_in 409 (by decide +kernel) rfl, TT_in 407 (by decide +kernel) rfl, TT_in 57 (by decide +kernel) rfl, ⟨by decide, by decide⟩, by decide +kernel, by decide⟩, TT_in 408 (by decide +kernel) rfl⟩
theorem lkX7_85 : q_LkV RX7 85 yX7_newRow cX7_newRow 4 (some .int) 2 5 := ⟨⟨TT_in 413 (by decide +kernel) rfl, TT_in 410 (by decide +kernel) rfl, TT_in 57 (by decide +kernel) rfl, ⟨by decide, by decide⟩, by decide +kernel, by decide⟩, TT_in 412 (by decide +kernel) rfl, TT_in 5 (by decide +kernel) rfl, ⟨_, _, rfl⟩⟩
theorem lkX7_96 : q_LkS RX7 96 yX2_ofWhole cX2_ofWhole 3 (some .long) 2 := ⟨⟨TT_in 444 (by decide +kernel) rfl, TT_in 442 (by decide +kernel) rfl, TT_in 70 (by decide +kernel) rfl, ⟨by decide, by decide⟩, by decide +kernel, by decide⟩, TT_in 443 (by decide +kernel) rfl⟩
theorem lkX7_102 : q_LkV RX7 102 yX5_set cX5_set 6 none 4 3 := ⟨⟨TT_in 441 (by decide +kernel) rfl, TT_in 465 (by decide +kernel) rfl, TT_in 59 (by decide +kernel) rfl, ⟨by decide, by decide⟩, by decide +kernel, by decide⟩, TT_in 439 (by decide +kernel) rfl, TT_in 440 (by decide +kernel) rfl, ⟨_, _, rfl⟩⟩
theorem lkX7_106 : q_LkV RX7 106 yX7_replace cX7_replace 3 none 2 5 := ⟨⟨TT_in 469 (by decide +kernel) rfl, TT_in 466 (by decide +kernel) rfl, TT_in 57 (by decide +kernel) rfl, ⟨by decide, by decide⟩, by decide +kernel, by decide⟩, TT_in 468 (by decide +kernel) rfl, TT_in 9 (by decide +kernel) rfl, ⟨_, _, rfl⟩⟩
theorem lkX7_115 : q_LkV RX7 115 yX7_countArrays cX7_countArrays 5 (some .int) 1 5 := ⟨⟨TT_in 486 (by decide +kernel) rfl, TT_in 483 (by decide +kernel) rfl, TT_in 57 (by decide +kernel) rfl, ⟨by decide, by decide⟩, by decide +kernel, by decide⟩, TT_in 485 (by decide +kernel) rfl, TT_in 11 (by decide +kernel) rfl, ⟨_, _, rfl⟩⟩
theorem lkX7_119 : q_LkV RX7 119 yX7_countEmptySlots cX7_countEmptySlots 3 (some .int) 0 5 := ⟨⟨TT_in 498 (by decide +kernel) rfl, TT_in 495 (by decide +kernel) rfl, TT_in 57 (by decide +kernel) rfl, ⟨by decide, by decide⟩, by decide +kernel, by decide⟩, TT_in 497 (by decide +kernel) rfl, TT_in 14 (by decide +kernel) rfl, ⟨_, _, rfl⟩⟩
theorem lkX7_122 : q_LkV RX7 122 yX7_countFine cX7_countFine 3 (some .int) 0 5 := ⟨⟨TT_in 502 (by decide +kernel) rfl, TT_in 499 (by decide +kernel) rfl, TT_in 57 (by decide +kernel) rfl, ⟨by decide, by decide⟩, by decide +kernel, by decide⟩, TT_in 501 (by decide +kernel) rfl, TT_in 15 (by decide +kernel) rfl, ⟨_, _, rfl⟩⟩
theorem lkX7_125 : q_LkV RX7 125 yX7_thingIn cX7_thingIn 2 (some .int) 1 5 := ⟨⟨TT_in 494 (by decide +kernel) rfl, TT_in 491 (by decide +kernel) rfl, TT_in 57 (by decide +kernel) rfl, ⟨by decide, by decide⟩, by decide +kernel, by decide⟩, TT_in 493 (by decide +kernel) rfl, TT_in 13 (by decide +kernel) rfl, ⟨_, _, rfl⟩⟩
theorem lkX7_129 : q_LkV RX7 129 yX7_holdsArray cX7_holdsArray 2 (some .boolean) 1 5 := ⟨⟨TT_in 490 (by decide +kernel) rfl, TT_in 487 (by decide +kernel) rfl, TT_in 57 (by decide +kernel) rfl, ⟨by decide, by decide⟩, by decide +kernel, by decide⟩, TT_in 489 (by decide +kernel) rfl, TT_in 12 (by decide +kernel) rfl, ⟨_, _, rfl⟩⟩
theorem lkX7_139 : q_LkV RX7 139 yX5_has cX5_has 3 (some .boolean) 2 3 := ⟨⟨TT_in 528 (by decide +kernel) rfl, TT_in 525 (by decide +kernel) rfl, TT_in 59 (by decide +kernel) rfl, ⟨by decide, by decide⟩, by decide +kernel, by decide⟩, TT_in 526 (by decide +kernel) rfl, TT_in 527 (by decide +kernel) rfl, ⟨_, _, rfl⟩⟩
theorem lkX7_145 : q_LkV RX7 145 yX5_typeAt cX5_typeAt 3 (some .int) 2 3 := ⟨⟨TT_in 533 (by decide +kernel) rfl, TT_in 530 (by decide +kernel) rfl, TT_in 59 (by decide +kernel) rfl, ⟨by decide, by decide⟩, by decide +kernel, by decide⟩, TT_in 531 (by decide +kernel) rfl, TT_in 532 (by decide +kernel) rfl, ⟨_, _, rfl⟩⟩
theorem lkX7_148 : q_LkV RX7 148 yX5_codeAt cX5_codeAt 3 (some .long) 2 3 := ⟨⟨TT_in 537 (by decide +kernel) rfl, TT_in 534 (by decide +kernel) rfl, TT_in 59 (by decide +kernel) rfl, ⟨by decide, by decide⟩, by decide +kernel, by decide⟩, TT_in 535 (by decide +kernel) rfl, TT_in 536 (by decide +kernel) rfl, ⟨_, _, rfl⟩⟩
theorem lkX7_152 : q_LkV RX7 152 yX7_shownCode cX7_shownCode 4 (some .long) 2 5 := ⟨⟨TT_in 541 (by decide +kernel) rfl, TT_in 538 (by decide +kernel) rfl, TT_in 57 (by decide +kernel) rfl, ⟨by decide, by decide⟩, by decide +kernel, by decide⟩, TT_in 540 (by decide +kernel) rfl, TT_in 16 (by decide +kernel) rfl, ⟨_, _, rfl⟩⟩
theorem lkX7_155 : q_LkS RX7 155 yX7_markIndex cX7_markIndex 3 (some .long) 2 := ⟨⟨TT_in 551 (by decide +kernel) rfl, TT_in 549 (by decide +kernel) rfl, TT_in 57 (by decide +kernel) rfl, ⟨by decide, by decide⟩, by decide +kernel, by decide⟩, TT_in 550 (by decide +kernel) rfl⟩
theorem lkX7_158 : q_LkS RX7 158 yX7_isPrimitive cX7_isPrimitive 1 (some .boolean) 1 := ⟨⟨TT_in 369 (by decide +kernel) rfl, TT_in 557 (by decide +kernel) rfl, TT_in 57 (by decide +kernel) rfl, ⟨by decide, by decide⟩, by decide +kernel, by decide⟩, TT_in 368 (by decide +kernel) rfl⟩
theorem lkX7_161 : q_LkS RX7 161 yX2_made cX2_made 3 (some .long) 2 := ⟨⟨TT_in 560 (by decide +kernel) rfl, TT_in 558 (by decide +kernel) rfl, TT_in 70 (by decide +kernel) rfl, ⟨by decide, by decide⟩, by decide +kernel, by decide⟩, TT_in 559 (by decide +kernel) rfl⟩
theorem lkX7_164 : q_LkV RX7 164 yX7_hold cX7_hold 5 none 3 5 := ⟨⟨TT_in 564 (by decide +kernel) rfl, TT_in 561 (by decide +kernel) rfl, TT_in 57 (by decide +kernel) rfl, ⟨by decide, by decide⟩, by decide +kernel, by decide⟩, TT_in 563 (by decide +kernel) rfl, TT_in 17 (by decide +kernel) rfl, ⟨_, _, rfl⟩⟩
theorem lkX7_168 : q_LkS RX7 168 yX7_isMarkNumber cX7_isMarkNumber 1 (some .boolean) 1 := ⟨⟨TT_in 571 (by decide +kernel) rfl, TT_in 569 (by decide +kernel) rfl, TT_in 57 (by decide +kernel) rfl, ⟨by decide, by decide⟩, by decide +kernel, by decide⟩, TT_in 570 (by decide +kernel) rfl⟩
theorem lkX7_171 : q_LkV RX7 171 yX1_isFull cX1_isFull 1 (some .boolean) 0 1 := ⟨⟨TT_in 575 (by decide +kernel) rfl, TT_in 572 (by decide +kernel) rfl, TT_in 61 (by decide +kernel) rfl, ⟨by decide, by decide⟩, by decide +kernel, by decide⟩, TT_in 573 (by decide +kernel) rfl, TT_in 574 (by decide +kernel) rfl, ⟨_, _, rfl⟩⟩
theorem lkX7_175 : q_LkV RX7 175 yX1_create cX1_create 2 (some .int) 1 1 := ⟨⟨TT_in 579 (by decide +kernel) rfl, TT_in 576 (by decide +kernel) rfl, TT_in 61 (by decide +kernel) rfl, ⟨by decide, by decide⟩, by decide +kernel, by decide⟩, TT_in 577 (by decide +kernel) rfl, TT_in 578 (by decide +kernel) rfl, ⟨_, _, rfl⟩⟩
theorem lkX7_178 : q_LkV RX7 178 yX1_numberOf cX1_numberOf 2 (some .int) 1 1 := ⟨⟨TT_in 548 (by decide +kernel) rfl, TT_in 545 (by decide +kernel) rfl, TT_in 61 (by decide +kernel) rfl, ⟨by decide, by decide⟩, by decide +kernel, by decide⟩, TT_in 546 (by decide +kernel) rfl, TT_in 547 (by decide +kernel) rfl, ⟨_, _, rfl⟩⟩
theorem lkX7_181 : q_LkV RX7 181 yX0_keepNumber cX0_keepNumber 3 none 2 0 := ⟨⟨TT_in 599 (by decide +kernel) rfl, TT_in 596 (by decide +kernel) rfl, TT_in 60 (by decide +kernel) rfl, ⟨by decide, by decide⟩, by decide +kernel, by decide⟩, TT_in 597 (by decide +kernel) rfl, TT_in 598 (by decide +kernel) rfl, ⟨_, _, rfl⟩⟩
theorem lkX7_184 : q_LkV RX7 184 yX1_setNumber cX1_setNumber 3 none 2 1 := ⟨⟨TT_in 603 (by decide +kernel) rfl, TT_in 600 (by decide +kernel) rfl, TT_in 61 (by decide +kernel) rfl, ⟨by decide, by decide⟩, by decide +kernel, by decide⟩, TT_in 601 (by decide +kernel) rfl, TT_in 602 (by decide +kernel) rfl, ⟨_, _, rfl⟩⟩
theorem lkX7_187 : q_LkS RX7 187 yX4_getFit cX4_getFit 3 (some .int) 2 := ⟨⟨TT_in 610 (by decide +kernel) rfl, TT_in 608 (by decide +kernel) rfl, TT_in 73 (by decide +kernel) rfl, ⟨by decide, by decide⟩, by decide +kernel, by decide⟩, TT_in 609 (by decide +kernel) rfl⟩
theorem lkX7_192 : q_LkS RX7 192 yX4_placed cX4_placed 2 (some .int) 2 := ⟨⟨TT_in 620 (by decide +kernel) rfl, TT_in 618 (by decide +kernel) rfl, TT_in 73 (by decide +kernel) rfl, ⟨by decide, by decide⟩, by decide +kernel, by decide⟩, TT_in 619 (by decide +kernel) rfl⟩
theorem lkX7_196 : q_LkS RX7 196 yX2_widened cX2_widened 4 (some .long) 3 := ⟨⟨TT_in 623 (by decide +kernel) rfl, TT_in 621 (by decide +kernel) rfl, TT_in 70 (by decide +kernel) rfl, ⟨by decide, by decide⟩, by decide +kernel, by decide⟩, TT_in 622 (by decide +kernel) rfl⟩
theorem lkX7_200 : q_LkV RX7 200 yX7_fetchReason cX7_fetchReason 3 (some .int) 2 5 := ⟨⟨TT_in 637 (by decide +kernel) rfl, TT_in 634 (by decide +kernel) rfl, TT_in 57 (by decide +kernel) rfl, ⟨by decide, by decide⟩, by decide +kernel, by decide⟩, TT_in 636 (by decide +kernel) rfl, TT_in 18 (by decide +kernel) rfl, ⟨_, _, rfl⟩⟩
theorem lkX7_203 : q_LkS RX7 203 yX4_fetchedForm cX4_fetchedForm 1 (some .int) 1 := ⟨⟨TT_in 641 (by decide +kernel) rfl, TT_in 639 (by decide +kernel) rfl, TT_in 73 (by decide +kernel) rfl, ⟨by decide, by decide⟩, by decide +kernel, by decide⟩, TT_in 640 (by decide +kernel) rfl⟩
theorem lkX7_206 : q_LkS RX7 206 yX4_putFit cX4_putFit 4 (some .int) 3 := ⟨⟨TT_in 649 (by decide +kernel) rfl, TT_in 647 (by decide +kernel) rfl, TT_in 73 (by decide +kernel) rfl, ⟨by decide, by decide⟩, by decide +kernel, by decide⟩, TT_in 648 (by decide +kernel) rfl⟩
theorem lkX7_210 : q_LkV RX7 210 yX0_keepCells cX0_keepCells 5 none 2 0 := ⟨⟨TT_in 656 (by decide +kernel) rfl, TT_in 653 (by decide +kernel) rfl, TT_in 60 (by decide +kernel) rfl, ⟨by decide, by decide⟩, by decide +kernel, by decide⟩, TT_in 654 (by decide +kernel) rfl, TT_in 655 (by decide +kernel) rfl, ⟨_, _, rfl⟩⟩
theorem lkX7_214 : q_LkV RX7 214 yX5_put cX5_put 7 none 4 3 := ⟨⟨TT_in 662 (by decide +kernel) rfl, TT_in 659 (by decide +kernel) rfl, TT_in 59 (by decide +kernel) rfl, ⟨by decide, by decide⟩, by decide +kernel, by decide⟩, TT_in 660 (by decide +kernel) rfl, TT_in 661 (by decide +kernel) rfl, ⟨_, _, rfl⟩⟩
theorem lkX7_221 : q_LkS RX7 221 yJ9_min_7cf53 cJ9_min_7cf53 2 (some .int) 2 := ⟨⟨TT_in 306 (by decide +kernel) rfl, TT_in 674 (by decide +kernel) rfl, TT_in 66 (by decide +kernel) rfl, ⟨by decide, by decide⟩, by decide +kernel, by decide⟩, TT_in 305 (by decide +kernel) rfl⟩
theorem lkX7_226 : q_LkV RX7 226 yX7_convertReason cX7_convertReason 11 (some .int) 4 5 := ⟨⟨TT_in 678 (by decide +kernel) rfl, TT_in 675 (by decide +kernel) rfl, TT_in 57 (by decide +kernel) rfl, ⟨by decide, by decide⟩, by decide +kernel, by decide⟩, TT_in 677 (by decide +kernel) rfl, TT_in 19 (by decide +kernel) rfl, ⟨_, _, rfl⟩⟩
theorem lkX7_230 : q_LkV RX7 230 yX7_convertElement cX7_convertElement 9 none 4 5 := ⟨⟨TT_in 713 (by decide +kernel) rfl, TT_in 710 (by decide +kernel) rfl, TT_in 57 (by decide +kernel) rfl, ⟨by decide, by decide⟩, by decide +kernel, by decide⟩, TT_in 712 (by decide +kernel) rfl, TT_in 20 (by decide +kernel) rfl, ⟨_, _, rfl⟩⟩
theorem lkX7_234 : q_LkN RX7 234 yX2_countChains "WidenDesk" cX2_countChains 5 (some .int) 3 := ⟨⟨TT_in 730 (by decide +kernel) rfl, by decide +kernel, TT_in 70 (by decide +kernel) rfl, ⟨by decide, by decide⟩, by decide +kernel, by decide⟩, TT_in 729 (by decide +kernel) rfl⟩
theorem lkX7_237 : q_LkS RX7 237 yX7_isWay cX7_isWay 2 (some .boolean) 1 := ⟨⟨TT_in 739 (by decide +kernel) rfl, TT_in 737 (by decide +kernel) rfl, TT_in 57 (by decide +kernel) rfl, ⟨by decide, by decide⟩, by decide +kernel, by decide⟩, TT_in 738 (by decide +kernel) rfl⟩
theorem lkX7_240 : q_LkV RX7 240 yX7_carryThrough cX7_carryThrough 12 (some .int) 3 5 := ⟨⟨TT_in 744 (by decide +kernel) rfl, TT_in 741 (by decide +kernel) rfl, TT_in 57 (by decide +kernel) rfl, ⟨by decide, by decide⟩, by decide +kernel, by decide⟩, TT_in 743 (by decide +kernel) rfl, TT_in 21 (by decide +kernel) rfl, ⟨_, _, rfl⟩⟩
theorem lkX7_244 : q_LkS RX7 244 yX2_countEnds cX2_countEnds 6 (some .int) 3 := ⟨⟨TT_in 752 (by decide +kernel) rfl, TT_in 750 (by decide +kernel) rfl, TT_in 70 (by decide +kernel) rfl, ⟨by decide, by decide⟩, by decide +kernel, by decide⟩, TT_in 751 (by decide +kernel) rfl⟩
theorem lkX7_248 : q_LkS RX7 248 yX2_targets cX2_targets 3 (some .int) 1 := ⟨⟨TT_in 760 (by decide +kernel) rfl, TT_in 758 (by decide +kernel) rfl, TT_in 70 (by decide +kernel) rfl, ⟨by decide, by decide⟩, by decide +kernel, by decide⟩, TT_in 759 (by decide +kernel) rfl⟩
theorem lkX7_251 : q_LkS RX7 251 yX2_leastOf cX2_leastOf 2 (some .int) 1 := ⟨⟨TT_in 763 (by decide +kernel) rfl, TT_in 761 (by decide +kernel) rfl, TT_in 70 (by decide +kernel) rfl, ⟨by decide, by decide⟩, by decide +kernel, by decide⟩, TT_in 762 (by decide +kernel) rfl⟩
theorem lkX7_254 : q_LkS RX7 254 yX4_joinedType cX4_joinedType 3 (some .int) 2 := ⟨⟨TT_in 771 (by decide +kernel) rfl, TT_in 769 (by decide +kernel) rfl, TT_in 73 (by decide +kernel) rfl, ⟨by decide, by decide⟩, by decide +kernel, by decide⟩, TT_in 770 (by decide +kernel) rfl⟩
theorem lkX7_257 : q_LkV RX7 257 yX5_putAll cX5_putAll 7 none 5 3 := ⟨⟨TT_in 779 (by decide +kernel) rfl, TT_in 776 (by decide +kernel) rfl, TT_in 59 (by decide +kernel) rfl, ⟨by decide, by decide⟩, by decide +kernel, by decide⟩, TT_in 777 (by decide +kernel) rfl, TT_in 778 (by decide +kernel) rfl, ⟨_, _, rfl⟩⟩
theorem lkX7_261 : q_LkV RX7 261 yX5_agree cX5_agree 11 (some .boolean) 3 3 := ⟨⟨TT_in 794 (by decide +kernel) rfl, TT_in 791 (by decide +kernel) rfl, TT_in 59 (by decide +kernel) rfl, ⟨by decide, by decide⟩, by decide +kernel, by decide⟩, TT_in 792 (by decide +kernel) rfl, TT_in 793 (by decide +kernel) rfl, ⟨_, _, rfl⟩⟩
theorem lkX7_265 : q_LkV RX7 265 yX5_stoodBefore cX5_stoodBefore 4 (some .boolean) 2 3 := ⟨⟨TT_in 803 (by decide +kernel) rfl, TT_in 800 (by decide +kernel) rfl, TT_in 59 (by decide +kernel) rfl, ⟨by decide, by decide⟩, by decide +kernel, by decide⟩, TT_in 801 (by decide +kernel) rfl, TT_in 802 (by decide +kernel) rfl, ⟨_, _, rfl⟩⟩
theorem lkX7_268 : q_LkV RX7 268 yX6_add cX6_add 4 (some .boolean) 3 4 := ⟨⟨TT_in 815 (by decide +kernel) rfl, TT_in 812 (by decide +kernel) rfl, TT_in 62 (by decide +kernel) rfl, ⟨by decide, by decide⟩, by decide +kernel, by decide⟩, TT_in 813 (by decide +kernel) rfl, TT_in 814 (by decide +kernel) rfl, ⟨_, _, rfl⟩⟩
theorem lkX7_271 : q_LkV RX7 271 yX6_allow cX6_allow 3 (some .boolean) 1 4 := ⟨⟨TT_in 827 (by decide +kernel) rfl, TT_in 824 (by decide +kernel) rfl, TT_in 62 (by decide +kernel) rfl, ⟨by decide, by decide⟩, by decide +kernel, by decide⟩, TT_in 825 (by decide +kernel) rfl, TT_in 826 (by decide +kernel) rfl, ⟨_, _, rfl⟩⟩
theorem lkX7_274 : q_LkV RX7 274 yX0_removeLatest cX0_removeLatest 1 (some .int) 0 0 := ⟨⟨TT_in 840 (by decide +kernel) rfl, TT_in 837 (by decide +kernel) rfl, TT_in 60 (by decide +kernel) rfl, ⟨by decide, by decide⟩, by decide +kernel, by decide⟩, TT_in 838 (by decide +kernel) rfl, TT_in 839 (by decide +kernel) rfl, ⟨_, _, rfl⟩⟩
theorem lkX7_286 : q_LkV RX7 286 yX0_restoreCells cX0_restoreCells 4 none 2 0 := ⟨⟨TT_in 844 (by decide +kernel) rfl, TT_in 841 (by decide +kernel) rfl, TT_in 60 (by decide +kernel) rfl, ⟨by decide, by decide⟩, by decide +kernel, by decide⟩, TT_in 842 (by decide +kernel) rfl, TT_in 843 (by decide +kernel) rfl, ⟨_, _, rfl⟩⟩
theorem lkX7_295 : q_LkS RX7 295 yX4_isMark cX4_isMark 1 (some .boolean) 1 := ⟨⟨TT_in 544 (by decide +kernel) rfl, TT_in 542 (by decide +kernel) rfl, TT_in 73 (by decide +kernel) rfl, ⟨by decide, by decide⟩, by decide +kernel, by decide⟩, TT_in 543 (by decide +kernel) rfl⟩
theorem lkX7_300 : q_LkS RX7 300 yX4_fetchFit cX4_fetchFit 1 (some .int) 1 := ⟨⟨TT_in 613 (by decide +kernel) rfl, TT_in 638 (by decide +kernel) rfl, TT_in 73 (by decide +kernel) rfl, ⟨by decide, by decide⟩, by decide +kernel, by decide⟩, TT_in 612 (by decide +kernel) rfl⟩
theorem lkX7_303 : q_LkV RX7 303 yX0_keepSlot cX0_keepSlot 3 none 2 0 := ⟨⟨TT_in 473 (by decide +kernel) rfl, TT_in 470 (by decide +kernel) rfl, TT_in 60 (by decide +kernel) rfl, ⟨by decide, by decide⟩, by decide +kernel, by decide⟩, TT_in 471 (by decide +kernel) rfl, TT_in 472 (by decide +kernel) rfl, ⟨_, _, rfl⟩⟩
theorem lkX7_306 : q_LkV RX7 306 yX7_freeRow cX7_freeRow 2 (some .int) 0 5 := ⟨⟨TT_in 417 (by decide +kernel) rfl, TT_in 414 (by decide +kernel) rfl, TT_in 57 (by decide +kernel) rfl, ⟨by decide, by decide⟩, by decide +kernel, by decide⟩, TT_in 416 (by decide +kernel) rfl, TT_in 6 (by decide +kernel) rfl, ⟨_, _, rfl⟩⟩
theorem lkX7_309 : q_LkV RX7 309 yX5_prepare cX5_prepare 5 none 3 3 := ⟨⟨TT_in 436 (by decide +kernel) rfl, TT_in 433 (by decide +kernel) rfl, TT_in 59 (by decide +kernel) rfl, ⟨by decide, by decide⟩, by decide +kernel, by decide⟩, TT_in 434 (by decide +kernel) rfl, TT_in 435 (by decide +kernel) rfl, ⟨_, _, rfl⟩⟩
theorem lkX7_313 : q_LkV RX7 313 yX7_isInSlots cX7_isInSlots 2 (some .boolean) 1 5 := ⟨⟨TT_in 421 (by decide +kernel) rfl, TT_in 418 (by decide +kernel) rfl, TT_in 57 (by decide +kernel) rfl, ⟨by decide, by decide⟩, by decide +kernel, by decide⟩, TT_in 420 (by decide +kernel) rfl, TT_in 7 (by decide +kernel) rfl, ⟨_, _, rfl⟩⟩
theorem lkX7_316 : q_LkV RX7 316 yX0_holds cX0_holds 4 (some .boolean) 1 0 := ⟨⟨TT_in 429 (by decide +kernel) rfl, TT_in 426 (by decide +kernel) rfl, TT_in 60 (by decide +kernel) rfl, ⟨by decide, by decide⟩, by decide +kernel, by decide⟩, TT_in 427 (by decide +kernel) rfl, TT_in 428 (by decide +kernel) rfl, ⟨_, _, rfl⟩⟩
theorem lkX7_319 : q_LkV RX7 319 yX7_firstSlotOf cX7_firstSlotOf 3 (some .int) 1 5 := ⟨⟨TT_in 425 (by decide +kernel) rfl, TT_in 422 (by decide +kernel) rfl, TT_in 57 (by decide +kernel) rfl, ⟨by decide, by decide⟩, by decide +kernel, by decide⟩, TT_in 424 (by decide +kernel) rfl, TT_in 8 (by decide +kernel) rfl, ⟨_, _, rfl⟩⟩
theorem lkX7_322 : q_LkS RX7 322 yX4_isNumeric cX4_isNumeric 1 (some .boolean) 1 := ⟨⟨TT_in 681 (by decide +kernel) rfl, TT_in 679 (by decide +kernel) rfl, TT_in 73 (by decide +kernel) rfl, ⟨by decide, by decide⟩, by decide +kernel, by decide⟩, TT_in 680 (by decide +kernel) rfl⟩
theorem lkX7_325 : q_LkS RX7 325 yX2_hasNumber cX2_hasNumber 6 (some .boolean) 3 := ⟨⟨TT_in 684 (by decide +kernel) rfl, TT_in 682 (by decide +kernel) rfl, TT_in 70 (by decide +kernel) rfl, ⟨by decide, by decide⟩, by decide +kernel, by decide⟩, TT_in 683 (by decide +kernel) rfl⟩
theorem lkX7_329 : q_LkS RX7 329 yX2_sameNumber cX2_sameNumber 6 (some .long) 3 := ⟨⟨TT_in 716 (by decide +kernel) rfl, TT_in 714 (by decide +kernel) rfl, TT_in 70 (by decide +kernel) rfl, ⟨by decide, by decide⟩, by decide +kernel, by decide⟩, TT_in 715 (by decide +kernel) rfl⟩
theorem lkX0_38 : q_LkV RX0 38 yX0_add cX0_add 6 (some .int) 4 0 := ⟨⟨TT_in 477 (by decide +kernel) rfl, TT_in 474 (by decide +kernel) rfl, TT_in 60 (by decide +kernel) rfl, ⟨by decide, by decide⟩, by decide +kernel, by decide⟩, TT_in 476 (by decide +kernel) rfl, TT_in 10 (by decide +kernel) rfl, ⟨_, _, rfl⟩⟩
theorem lkX0_44 : q_LkV RX0 44 yX5_typeAt cX5_typeAt 3 (some .int) 2 3 := ⟨⟨TT_in 533 (by decide +kernel) rfl, TT_in 657 (by decide +kernel) rfl, TT_in 59 (by decide +kernel) rfl, ⟨by decide, by decide⟩, by decide +kernel, by decide⟩, TT_in 531 (by decide +kernel) rfl, TT_in 532 (by decide +kernel) rfl, ⟨_, _, rfl⟩⟩
theorem lkX0_48 : q_LkV RX0 48 yX5_codeAt cX5_codeAt 3 (some .long) 2 3 := ⟨⟨TT_in 537 (by decide +kernel) rfl, TT_in 658 (by decide +kernel) rfl, TT_in 59 (by decide +kernel) rfl, ⟨by decide, by decide⟩, by decide +kernel, by decide⟩, TT_in 535 (by decide +kernel) rfl, TT_in 536 (by decide +kernel) rfl, ⟨_, _, rfl⟩⟩
theorem lkX0_52 : q_LkV RX0 52 yX5_set cX5_set 6 none 4 3 := ⟨⟨TT_in 441 (by decide +kernel) rfl, TT_in 845 (by decide +kernel) rfl, TT_in 59 (by decide +kernel) rfl, ⟨by decide, by decide⟩, by decide +kernel, by decide⟩, TT_in 439 (by decide +kernel) rfl, TT_in 440 (by decide +kernel) rfl, ⟨_, _, rfl⟩⟩
theorem lkX0_56 : q_LkS RX0 56 yX0_before cX0_before 1 (some .int) 1 := ⟨⟨TT_in 432 (by decide +kernel) rfl, TT_in 430 (by decide +kernel) rfl, TT_in 60 (by decide +kernel) rfl, ⟨by decide, by decide⟩, by decide +kernel, by decide⟩, TT_in 431 (by decide +kernel) rfl⟩
theorem lkX0_60 : q_LkS RX0 60 yJ9_min_7cf53 cJ9_min_7cf53 2 (some .int) 2 := ⟨⟨TT_in 306 (by decide +kernel) rfl, TT_in 478 (by decide +kernel) rfl, TT_in 66 (by decide +kernel) rfl, ⟨by decide, by decide⟩, by decide +kernel, by decide⟩, TT_in 305 (by decide +kernel) rfl⟩
theorem lkX2_11 : q_LkS RX2 11 yX2_widens cX2_widens 2 (some .boolean) 2 := ⟨⟨TT_in 617 (by decide +kernel) rfl, TT_in 731 (by decide +kernel) rfl, TT_in 70 (by decide +kernel) rfl, ⟨by decide, by decide⟩, by decide +kernel, by decide⟩, TT_in 616 (by decide +kernel) rfl⟩
theorem lkX2_15 : q_LkS RX2 15 yX2_targets cX2_targets 3 (some .int) 1 := ⟨⟨TT_in 760 (by decide +kernel) rfl, TT_in 764 (by decide +kernel) rfl, TT_in 70 (by decide +kernel) rfl, ⟨by decide, by decide⟩, by decide +kernel, by decide⟩, TT_in 759 (by decide +kernel) rfl⟩
theorem lkX2_19 : q_LkS RX2 19 yX2_leastOf cX2_leastOf 2 (some .int) 1 := ⟨⟨TT_in 763 (by decide +kernel) rfl, TT_in 775 (by decide +kernel) rfl, TT_in 70 (by decide +kernel) rfl, ⟨by decide, by decide⟩, by decide +kernel, by decide⟩, TT_in 762 (by decide +kernel) rfl⟩
theorem lkX2_22 : q_LkS RX2 22 yX2_countChains cX2_countChains 5 (some .int) 3 := ⟨⟨TT_in 730 (by decide +kernel) rfl, TT_in 732 (by decide +kernel) rfl, TT_in 70 (by decide +kernel) rfl, ⟨by decide, by decide⟩, by decide +kernel, by decide⟩, TT_in 729 (by decide +kernel) rfl⟩
theorem lkX2_26 : q_LkS RX2 26 yX2_widened cX2_widened 4 (some .long) 3 := ⟨⟨TT_in 623 (by decide +kernel) rfl, TT_in 753 (by decide +kernel) rfl, TT_in 70 (by decide +kernel) rfl, ⟨by decide, by decide⟩, by decide +kernel, by decide⟩, TT_in 622 (by decide +kernel) rfl⟩
theorem lkX2_30 : q_LkS RX2 30 yX2_nearest cX2_nearest 4 (some .long) 3 := ⟨⟨TT_in 447 (by decide +kernel) rfl, TT_in 445 (by decide +kernel) rfl, TT_in 70 (by decide +kernel) rfl, ⟨by decide, by decide⟩, by decide +kernel, by decide⟩, TT_in 446 (by decide +kernel) rfl⟩
theorem lkX2_34 : q_LkS RX2 34 yX2_doubleOfFloat cX2_doubleOfFloat 6 (some .long) 1 := ⟨⟨TT_in 626 (by decide +kernel) rfl, TT_in 624 (by decide +kernel) rfl, TT_in 70 (by decide +kernel) rfl, ⟨by decide, by decide⟩, by decide +kernel, by decide⟩, TT_in 625 (by decide +kernel) rfl⟩
theorem lkX2_38 : q_LkS RX2 38 yX2_isBetween cX2_isBetween 3 (some .boolean) 2 := ⟨⟨TT_in 391 (by decide +kernel) rfl, TT_in 685 (by decide +kernel) rfl, TT_in 70 (by decide +kernel) rfl, ⟨by decide, by decide⟩, by decide +kernel, by decide⟩, TT_in 390 (by decide +kernel) rfl⟩
theorem lkX2_42 : q_LkS RX2 42 yX2_ofWhole cX2_ofWhole 3 (some .long) 2 := ⟨⟨TT_in 444 (by decide +kernel) rfl, TT_in 686 (by decide +kernel) rfl, TT_in 70 (by decide +kernel) rfl, ⟨by decide, by decide⟩, by decide +kernel, by decide⟩, TT_in 443 (by decide +kernel) rfl⟩
theorem lkX2_46 : q_LkS RX2 46 yX2_isWhole cX2_isWhole 7 (some .boolean) 3 := ⟨⟨TT_in 689 (by decide +kernel) rfl, TT_in 687 (by decide +kernel) rfl, TT_in 70 (by decide +kernel) rfl, ⟨by decide, by decide⟩, by decide +kernel, by decide⟩, TT_in 688 (by decide +kernel) rfl⟩
theorem lkX2_50 : q_LkS RX2 50 yX2_asDouble cX2_asDouble 3 (some .long) 2 := ⟨⟨TT_in 692 (by decide +kernel) rfl, TT_in 690 (by decide +kernel) rfl, TT_in 70 (by decide +kernel) rfl, ⟨by decide, by decide⟩, by decide +kernel, by decide⟩, TT_in 691 (by decide +kernel) rfl⟩
theorem lkX2_54 : q_LkS RX2 54 yX2_hasWhole cX2_hasWhole 3 (some .boolean) 1 := ⟨⟨TT_in 695 (by decide +kernel) rfl, TT_in 693 (by decide +kernel) rfl, TT_in 70 (by decide +kernel) rfl, ⟨by decide, by decide⟩, by decide +kernel, by decide⟩, TT_in 694 (by decide +kernel) rfl⟩
theorem lkX2_58 : q_LkS RX2 58 yX2_wholeOf cX2_wholeOf 7 (some .long) 1 := ⟨⟨TT_in 708 (by decide +kernel) rfl, TT_in 706 (by decide +kernel) rfl, TT_in 70 (by decide +kernel) rfl, ⟨by decide, by decide⟩, by decide +kernel, by decide⟩, TT_in 707 (by decide +kernel) rfl⟩
theorem lkX2_63 : q_LkS RX2 63 yX2_floatOfDouble cX2_floatOfDouble 6 (some .long) 1 := ⟨⟨TT_in 719 (by decide +kernel) rfl, TT_in 717 (by decide +kernel) rfl, TT_in 70 (by decide +kernel) rfl, ⟨by decide, by decide⟩, by decide +kernel, by decide⟩, TT_in 718 (by decide +kernel) rfl⟩
theorem lkX2_86 : q_LkS RX2 86 yX2_lowest cX2_lowest 1 (some .long) 1 := ⟨⟨TT_in 380 (by decide +kernel) rfl, TT_in 392 (by decide +kernel) rfl, TT_in 70 (by decide +kernel) rfl, ⟨by decide, by decide⟩, by decide +kernel, by decide⟩, TT_in 379 (by decide +kernel) rfl⟩
theorem lkX2_90 : q_LkS RX2 90 yX2_highest cX2_highest 1 (some .long) 1 := ⟨⟨TT_in 395 (by decide +kernel) rfl, TT_in 393 (by decide +kernel) rfl, TT_in 70 (by decide +kernel) rfl, ⟨by decide, by decide⟩, by decide +kernel, by decide⟩, TT_in 394 (by decide +kernel) rfl⟩
theorem lkX2_93 : q_LkS RX2 93 yX2_rounded cX2_rounded 15 (some .long) 4 := ⟨⟨TT_in 450 (by decide +kernel) rfl, TT_in 448 (by decide +kernel) rfl, TT_in 70 (by decide +kernel) rfl, ⟨by decide, by decide⟩, by decide +kernel, by decide⟩, TT_in 449 (by decide +kernel) rfl⟩
theorem lkX2_97 : q_LkS RX2 97 yX2_signedFloat cX2_signedFloat 3 (some .long) 2 := ⟨⟨TT_in 460 (by decide +kernel) rfl, TT_in 458 (by decide +kernel) rfl, TT_in 70 (by decide +kernel) rfl, ⟨by decide, by decide⟩, by decide +kernel, by decide⟩, TT_in 459 (by decide +kernel) rfl⟩
theorem lkX2_101 : q_LkS RX2 101 yX2_signedDouble cX2_signedDouble 3 (some .long) 2 := ⟨⟨TT_in 464 (by decide +kernel) rfl, TT_in 462 (by decide +kernel) rfl, TT_in 70 (by decide +kernel) rfl, ⟨by decide, by decide⟩, by decide +kernel, by decide⟩, TT_in 463 (by decide +kernel) rfl⟩
theorem lkX2_106 : q_LkS RX2 106 yJ13_numberOfLeadingZeros_95d88 cJ13_numberOfLeadingZeros_95d88 3 (some .int) 1 := ⟨⟨TT_in 453 (by decide +kernel) rfl, TT_in 451 (by decide +kernel) rfl, TT_in 71 (by decide +kernel) rfl, ⟨by decide, by decide⟩, by decide +kernel, by decide⟩, TT_in 452 (by decide +kernel) rfl⟩
theorem lkX2_122 : q_LkS RX2 122 yX2_exponentOf cX2_exponentOf 2 (some .int) 1 := ⟨⟨TT_in 698 (by decide +kernel) rfl, TT_in 696 (by decide +kernel) rfl, TT_in 70 (by decide +kernel) rfl, ⟨by decide, by decide⟩, by decide +kernel, by decide⟩, TT_in 697 (by decide +kernel) rfl⟩
theorem lkX2_127 : q_LkS RX2 127 yX2_significand cX2_significand 2 (some .long) 1 := ⟨⟨TT_in 703 (by decide +kernel) rfl, TT_in 701 (by decide +kernel) rfl, TT_in 70 (by decide +kernel) rfl, ⟨by decide, by decide⟩, by decide +kernel, by decide⟩, TT_in 702 (by decide +kernel) rfl⟩
theorem lkX3_35 : q_LkV RX3 35 yX3_letter cX3_letter 1 (some .int) 0 2 := ⟨⟨TT_in 265 (by decide +kernel) rfl, TT_in 262 (by decide +kernel) rfl, TT_in 58 (by decide +kernel) rfl, ⟨by decide, by decide⟩, by decide +kernel, by decide⟩, TT_in 264 (by decide +kernel) rfl, TT_in 0 (by decide +kernel) rfl, ⟨_, _, rfl⟩⟩
theorem lkX3_39 : q_LkS RX3 39 yX3_arrayTypeOf cX3_arrayTypeOf 1 (some .int) 1 := ⟨⟨TT_in 268 (by decide +kernel) rfl, TT_in 266 (by decide +kernel) rfl, TT_in 58 (by decide +kernel) rfl, ⟨by decide, by decide⟩, by decide +kernel, by decide⟩, TT_in 267 (by decide +kernel) rfl⟩
theorem lkX3_43 : q_LkV RX3 43 yX3_skip cX3_skip 2 (some .boolean) 1 2 := ⟨⟨TT_in 362 (by decide +kernel) rfl, TT_in 359 (by decide +kernel) rfl, TT_in 58 (by decide +kernel) rfl, ⟨by decide, by decide⟩, by decide +kernel, by decide⟩, TT_in 361 (by decide +kernel) rfl, TT_in 1 (by decide +kernel) rfl, ⟨_, _, rfl⟩⟩
theorem lkX3_47 : q_LkV RX3 47 yX3_readElement cX3_readElement 2 (some .boolean) 0 2 := ⟨⟨TT_in 366 (by decide +kernel) rfl, TT_in 363 (by decide +kernel) rfl, TT_in 58 (by decide +kernel) rfl, ⟨by decide, by decide⟩, by decide +kernel, by decide⟩, TT_in 365 (by decide +kernel) rfl, TT_in 2 (by decide +kernel) rfl, ⟨_, _, rfl⟩⟩
theorem lkX3_51 : q_LkS RX3 51 yX3_primitiveOf cX3_primitiveOf 2 (some .int) 1 := ⟨⟨TT_in 271 (by decide +kernel) rfl, TT_in 269 (by decide +kernel) rfl, TT_in 58 (by decide +kernel) rfl, ⟨by decide, by decide⟩, by decide +kernel, by decide⟩, TT_in 270 (by decide +kernel) rfl⟩
theorem lkX3_61 : q_LkN RX3 61 yX7_isPrimitive "WidenDesk" cX7_isPrimitive 1 (some .boolean) 1 := ⟨⟨TT_in 369 (by decide +kernel) rfl, by decide +kernel, TT_in 57 (by decide +kernel) rfl, ⟨by decide, by decide⟩, by decide +kernel, by decide⟩, TT_in 368 (by decide +kernel) rfl⟩
theorem lkX3_65 : q_LkV RX3 65 yX3_keep cX3_keep 4 none 2 2 := ⟨⟨TT_in 373 (by decide +kernel) rfl, TT_in 370 (by decide +kernel) rfl, TT_in 58 (by decide +kernel) rfl, ⟨by decide, by decide⟩, by decide +kernel, by decide⟩, TT_in 372 (by decide +kernel) rfl, TT_in 3 (by decide +kernel) rfl, ⟨_, _, rfl⟩⟩
theorem lkX3_69 : q_LkV RX3 69 yX3_readNumber cX3_readNumber 10 (some .boolean) 1 2 := ⟨⟨TT_in 377 (by decide +kernel) rfl, TT_in 374 (by decide +kernel) rfl, TT_in 58 (by decide +kernel) rfl, ⟨by decide, by decide⟩, by decide +kernel, by decide⟩, TT_in 376 (by decide +kernel) rfl, TT_in 4 (by decide +kernel) rfl, ⟨_, _, rfl⟩⟩
theorem lkX3_72 : q_LkS RX3 72 yX2_lowest cX2_lowest 1 (some .long) 1 := ⟨⟨TT_in 380 (by decide +kernel) rfl, TT_in 378 (by decide +kernel) rfl, TT_in 70 (by decide +kernel) rfl, ⟨by decide, by decide⟩, by decide +kernel, by decide⟩, TT_in 379 (by decide +kernel) rfl⟩
theorem lkX3_78 : q_LkS RX3 78 yX3_isDigit cX3_isDigit 1 (some .boolean) 1 := ⟨⟨TT_in 387 (by decide +kernel) rfl, TT_in 385 (by decide +kernel) rfl, TT_in 58 (by decide +kernel) rfl, ⟨by decide, by decide⟩, by decide +kernel, by decide⟩, TT_in 386 (by decide +kernel) rfl⟩
theorem lkX3_83 : q_LkN RX3 83 yX2_isBetween "WidenDesk" cX2_isBetween 3 (some .boolean) 2 := ⟨⟨TT_in 391 (by decide +kernel) rfl, by decide +kernel, TT_in 70 (by decide +kernel) rfl, ⟨by decide, by decide⟩, by decide +kernel, by decide⟩, TT_in 390 (by decide +kernel) rfl⟩
theorem lkX4_9 : q_LkN RX4 9 yX7_isPrimitive "WidenDesk" cX7_isPrimitive 1 (some .boolean) 1 := ⟨⟨TT_in 369 (by decide +kernel) rfl, by decide +kernel, TT_in 57 (by decide +kernel) rfl, ⟨by decide, by decide⟩, by decide +kernel, by decide⟩, TT_in 368 (by decide +kernel) rfl⟩
theorem lkX4_13 : q_LkS RX4 13 yX4_isMark cX4_isMark 1 (some .boolean) 1 := ⟨⟨TT_in 544 (by decide +kernel) rfl, TT_in 642 (by decide +kernel) rfl, TT_in 73 (by decide +kernel) rfl, ⟨by decide, by decide⟩, by decide +kernel, by decide⟩, TT_in 543 (by decide +kernel) rfl⟩
theorem lkX4_18 : q_LkS RX4 18 yX4_fetchFit cX4_fetchFit 1 (some .int) 1 := ⟨⟨TT_in 613 (by decide +kernel) rfl, TT_in 611 (by decide +kernel) rfl, TT_in 73 (by decide +kernel) rfl, ⟨by decide, by decide⟩, by decide +kernel, by decide⟩, TT_in 612 (by decide +kernel) rfl⟩
theorem lkX4_22 : q_LkS RX4 22 yX2_widens cX2_widens 2 (some .boolean) 2 := ⟨⟨TT_in 617 (by decide +kernel) rfl, TT_in 615 (by decide +kernel) rfl, TT_in 70 (by decide +kernel) rfl, ⟨by decide, by decide⟩, by decide +kernel, by decide⟩, TT_in 616 (by decide +kernel) rfl⟩
theorem lkX4_28 : q_LkS RX4 28 yX4_accepts cX4_accepts 2 (some .boolean) 2 := ⟨⟨TT_in 652 (by decide +kernel) rfl, TT_in 650 (by decide +kernel) rfl, TT_in 73 (by decide +kernel) rfl, ⟨by decide, by decide⟩, by decide +kernel, by decide⟩, TT_in 651 (by decide +kernel) rfl⟩
theorem lkX4_31 : q_LkS RX4 31 yX2_leastOfTwo cX2_leastOfTwo 2 (some .int) 2 := ⟨⟨TT_in 774 (by decide +kernel) rfl, TT_in 772 (by decide +kernel) rfl, TT_in 70 (by decide +kernel) rfl, ⟨by decide, by decide⟩, by decide +kernel, by decide⟩, TT_in 773 (by decide +kernel) rfl⟩
theorem lkX5_27 : q_LkN RX5 27 yX7_isPrimitive "WidenDesk" cX7_isPrimitive 1 (some .boolean) 1 := ⟨⟨TT_in 369 (by decide +kernel) rfl, by decide +kernel, TT_in 57 (by decide +kernel) rfl, ⟨by decide, by decide⟩, by decide +kernel, by decide⟩, TT_in 368 (by decide +kernel) rfl⟩
theorem lkX5_31 : q_LkV RX5 31 yX5_set cX5_set 6 none 4 3 := ⟨⟨TT_in 441 (by decide +kernel) rfl, TT_in 438 (by decide +kernel) rfl, TT_in 59 (by decide +kernel) rfl, ⟨by decide, by decide⟩, by decide +kernel, by decide⟩, TT_in 439 (by decide +kernel) rfl, TT_in 440 (by decide +kernel) rfl, ⟨_, _, rfl⟩⟩
theorem lkX5_35 : q_LkS RX5 35 yX2_widened cX2_widened 4 (some .long) 3 := ⟨⟨TT_in 623 (by decide +kernel) rfl, TT_in 663 (by decide +kernel) rfl, TT_in 70 (by decide +kernel) rfl, ⟨by decide, by decide⟩, by decide +kernel, by decide⟩, TT_in 622 (by decide +kernel) rfl⟩
theorem lkX5_41 : q_LkV RX5 41 yX5_typeAt cX5_typeAt 3 (some .int) 2 3 := ⟨⟨TT_in 533 (by decide +kernel) rfl, TT_in 780 (by decide +kernel) rfl, TT_in 59 (by decide +kernel) rfl, ⟨by decide, by decide⟩, by decide +kernel, by decide⟩, TT_in 531 (by decide +kernel) rfl, TT_in 532 (by decide +kernel) rfl, ⟨_, _, rfl⟩⟩
theorem lkX5_45 : q_LkV RX5 45 yX5_codeAt cX5_codeAt 3 (some .long) 2 3 := ⟨⟨TT_in 537 (by decide +kernel) rfl, TT_in 781 (by decide +kernel) rfl, TT_in 59 (by decide +kernel) rfl, ⟨by decide, by decide⟩, by decide +kernel, by decide⟩, TT_in 535 (by decide +kernel) rfl, TT_in 536 (by decide +kernel) rfl, ⟨_, _, rfl⟩⟩
theorem lkX5_49 : q_LkV RX5 49 yX5_put cX5_put 7 none 4 3 := ⟨⟨TT_in 662 (by decide +kernel) rfl, TT_in 782 (by decide +kernel) rfl, TT_in 59 (by decide +kernel) rfl, ⟨by decide, by decide⟩, by decide +kernel, by decide⟩, TT_in 660 (by decide +kernel) rfl, TT_in 661 (by decide +kernel) rfl, ⟨_, _, rfl⟩⟩
theorem lkX5_52 : q_LkS RX5 52 yX2_leastOfTwo cX2_leastOfTwo 2 (some .int) 2 := ⟨⟨TT_in 774 (by decide +kernel) rfl, TT_in 795 (by decide +kernel) rfl, TT_in 70 (by decide +kernel) rfl, ⟨by decide, by decide⟩, by decide +kernel, by decide⟩, TT_in 773 (by decide +kernel) rfl⟩
theorem lkX6_25 : q_LkS RX6 25 yX6_expected cX6_expected 3 (some .int) 3 := ⟨⟨TT_in 830 (by decide +kernel) rfl, TT_in 828 (by decide +kernel) rfl, TT_in 62 (by decide +kernel) rfl, ⟨by decide, by decide⟩, by decide +kernel, by decide⟩, TT_in 829 (by decide +kernel) rfl⟩
theorem lkX6_29 : q_LkS RX6 29 yX4_getFit cX4_getFit 3 (some .int) 2 := ⟨⟨TT_in 610 (by decide +kernel) rfl, TT_in 831 (by decide +kernel) rfl, TT_in 73 (by decide +kernel) rfl, ⟨by decide, by decide⟩, by decide +kernel, by decide⟩, TT_in 609 (by decide +kernel) rfl⟩
theorem lkX6_35 : q_LkS RX6 35 yX4_putFit cX4_putFit 4 (some .int) 3 := ⟨⟨TT_in 649 (by decide +kernel) rfl, TT_in 832 (by decide +kernel) rfl, TT_in 73 (by decide +kernel) rfl, ⟨by decide, by decide⟩, by decide +kernel, by decide⟩, TT_in 648 (by decide +kernel) rfl⟩
theorem lkX8_98 : q_LkS RX8 98 yX8_in cX8_in 6 (some .boolean) 3 := ⟨⟨TT_in 1002 (by decide +kernel) rfl, TT_in 1000 (by decide +kernel) rfl, TT_in 63 (by decide +kernel) rfl, ⟨by decide, by decide⟩, by decide +kernel, by decide⟩, TT_in 1001 (by decide +kernel) rfl⟩
theorem lkX8_114 : q_LkS RX8 114 yX8_lengthOf cX8_lengthOf 5 (some .int) 1 := ⟨⟨TT_in 1067 (by decide +kernel) rfl, TT_in 1065 (by decide +kernel) rfl, TT_in 63 (by decide +kernel) rfl, ⟨by decide, by decide⟩, by decide +kernel, by decide⟩, TT_in 1066 (by decide +kernel) rfl⟩
theorem lkX8_132 : q_LkV RX8 132 yX8_takeApart cX8_takeApart 11 none 2 6 := ⟨⟨TT_in 1220 (by decide +kernel) rfl, TT_in 1217 (by decide +kernel) rfl, TT_in 63 (by decide +kernel) rfl, ⟨by decide, by decide⟩, by decide +kernel, by decide⟩, TT_in 1219 (by decide +kernel) rfl, TT_in 42 (by decide +kernel) rfl, ⟨_, _, rfl⟩⟩
theorem lkX8_136 : q_LkS RX8 136 yX8_rounded cX8_rounded 21 (some .long) 3 := ⟨⟨TT_in 1062 (by decide +kernel) rfl, TT_in 1060 (by decide +kernel) rfl, TT_in 63 (by decide +kernel) rfl, ⟨by decide, by decide⟩, by decide +kernel, by decide⟩, TT_in 1061 (by decide +kernel) rfl⟩
theorem lkX8_158 : q_LkS RX8 158 yX8_fits cX8_fits 3 (some .boolean) 2 := ⟨⟨TT_in 1049 (by decide +kernel) rfl, TT_in 1047 (by decide +kernel) rfl, TT_in 63 (by decide +kernel) rfl, ⟨by decide, by decide⟩, by decide +kernel, by decide⟩, TT_in 1048 (by decide +kernel) rfl⟩
theorem lkX8_165 : q_LkS RX8 165 yX8_plainOf cX8_plainOf 1 (some .int) 1 := ⟨⟨TT_in 1024 (by decide +kernel) rfl, TT_in 1022 (by decide +kernel) rfl, TT_in 63 (by decide +kernel) rfl, ⟨by decide, by decide⟩, by decide +kernel, by decide⟩, TT_in 1023 (by decide +kernel) rfl⟩
theorem lkX8_172 : q_LkV RX8 172 yX8_letter cX8_letter 1 (some .int) 0 6 := ⟨⟨TT_in 1018 (by decide +kernel) rfl, TT_in 1015 (by decide +kernel) rfl, TT_in 63 (by decide +kernel) rfl, ⟨by decide, by decide⟩, by decide +kernel, by decide⟩, TT_in 1017 (by decide +kernel) rfl, TT_in 23 (by decide +kernel) rfl, ⟨_, _, rfl⟩⟩
theorem lkX8_180 : q_LkS RX8 180 yX8_isNumber cX8_isNumber 3 (some .boolean) 2 := ⟨⟨TT_in 1045 (by decide +kernel) rfl, TT_in 1043 (by decide +kernel) rfl, TT_in 63 (by decide +kernel) rfl, ⟨by decide, by decide⟩, by decide +kernel, by decide⟩, TT_in 1044 (by decide +kernel) rfl⟩
theorem lkX8_198 : q_LkS RX8 198 yX8_isPlain cX8_isPlain 1 (some .boolean) 1 := ⟨⟨TT_in 1031 (by decide +kernel) rfl, TT_in 1029 (by decide +kernel) rfl, TT_in 63 (by decide +kernel) rfl, ⟨by decide, by decide⟩, by decide +kernel, by decide⟩, TT_in 1030 (by decide +kernel) rfl⟩
theorem lkX8_202 : q_LkV RX8 202 yX8_putTold cX8_putTold 5 none 3 6 := ⟨⟨TT_in 1036 (by decide +kernel) rfl, TT_in 1033 (by decide +kernel) rfl, TT_in 63 (by decide +kernel) rfl, ⟨by decide, by decide⟩, by decide +kernel, by decide⟩, TT_in 1035 (by decide +kernel) rfl, TT_in 25 (by decide +kernel) rfl, ⟨_, _, rfl⟩⟩
theorem lkX8_206 : q_LkV RX8 206 yX8_readNumber cX8_readNumber 12 none 1 6 := ⟨⟨TT_in 1040 (by decide +kernel) rfl, TT_in 1037 (by decide +kernel) rfl, TT_in 63 (by decide +kernel) rfl, ⟨by decide, by decide⟩, by decide +kernel, by decide⟩, TT_in 1039 (by decide +kernel) rfl, TT_in 26 (by decide +kernel) rfl, ⟨_, _, rfl⟩⟩
theorem lkX8_210 : q_LkS RX8 210 yX8_toldOf cX8_toldOf 3 (some .long) 2 := ⟨⟨TT_in 1059 (by decide +kernel) rfl, TT_in 1057 (by decide +kernel) rfl, TT_in 63 (by decide +kernel) rfl, ⟨by decide, by decide⟩, by decide +kernel, by decide⟩, TT_in 1058 (by decide +kernel) rfl⟩
theorem lkX8_214 : q_LkS RX8 214 yX8_rowKindOf cX8_rowKindOf 1 (some .int) 1 := ⟨⟨TT_in 1021 (by decide +kernel) rfl, TT_in 1019 (by decide +kernel) rfl, TT_in 63 (by decide +kernel) rfl, ⟨by decide, by decide⟩, by decide +kernel, by decide⟩, TT_in 1020 (by decide +kernel) rfl⟩
theorem lkX8_217 : q_LkV RX8 217 yX8_readCell cX8_readCell 2 (some .boolean) 0 6 := ⟨⟨TT_in 1028 (by decide +kernel) rfl, TT_in 1025 (by decide +kernel) rfl, TT_in 63 (by decide +kernel) rfl, ⟨by decide, by decide⟩, by decide +kernel, by decide⟩, TT_in 1027 (by decide +kernel) rfl, TT_in 24 (by decide +kernel) rfl, ⟨_, _, rfl⟩⟩
theorem lkX8_221 : q_LkV RX8 221 yX8_readText cX8_readText 2 (some .int) 0 6 := ⟨⟨TT_in 1014 (by decide +kernel) rfl, TT_in 1011 (by decide +kernel) rfl, TT_in 63 (by decide +kernel) rfl, ⟨by decide, by decide⟩, by decide +kernel, by decide⟩, TT_in 1013 (by decide +kernel) rfl, TT_in 22 (by decide +kernel) rfl, ⟨_, _, rfl⟩⟩
theorem lkX8_224 : q_LkV RX8 224 yX8_isHeld cX8_isHeld 4 (some .boolean) 1 6 := ⟨⟨TT_in 1094 (by decide +kernel) rfl, TT_in 1091 (by decide +kernel) rfl, TT_in 63 (by decide +kernel) rfl, ⟨by decide, by decide⟩, by decide +kernel, by decide⟩, TT_in 1093 (by decide +kernel) rfl, TT_in 30 (by decide +kernel) rfl, ⟨_, _, rfl⟩⟩
theorem lkX8_236 : q_LkV RX8 236 yX8_note cX8_note 2 none 0 6 := ⟨⟨TT_in 1086 (by decide +kernel) rfl, TT_in 1083 (by decide +kernel) rfl, TT_in 63 (by decide +kernel) rfl, ⟨by decide, by decide⟩, by decide +kernel, by decide⟩, TT_in 1085 (by decide +kernel) rfl, TT_in 28 (by decide +kernel) rfl, ⟨_, _, rfl⟩⟩
theorem lkX8_239 : q_LkV RX8 239 yX8_freeRow cX8_freeRow 3 (some .int) 0 6 := ⟨⟨TT_in 1090 (by decide +kernel) rfl, TT_in 1087 (by decide +kernel) rfl, TT_in 63 (by decide +kernel) rfl, ⟨by decide, by decide⟩, by decide +kernel, by decide⟩, TT_in 1089 (by decide +kernel) rfl, TT_in 29 (by decide +kernel) rfl, ⟨_, _, rfl⟩⟩
theorem lkX8_242 : q_LkS RX8 242 yX8_isSlot cX8_isSlot 1 (some .boolean) 1 := ⟨⟨TT_in 1078 (by decide +kernel) rfl, TT_in 1076 (by decide +kernel) rfl, TT_in 63 (by decide +kernel) rfl, ⟨by decide, by decide⟩, by decide +kernel, by decide⟩, TT_in 1077 (by decide +kernel) rfl⟩
theorem lkX8_245 : q_LkV RX8 245 yX8_holdNew cX8_holdNew 4 none 1 6 := ⟨⟨TT_in 1082 (by decide +kernel) rfl, TT_in 1079 (by decide +kernel) rfl, TT_in 63 (by decide +kernel) rfl, ⟨by decide, by decide⟩, by decide +kernel, by decide⟩, TT_in 1081 (by decide +kernel) rfl, TT_in 27 (by decide +kernel) rfl, ⟨_, _, rfl⟩⟩
theorem lkX8_254 : q_LkV RX8 254 yX8_rowsHeld cX8_rowsHeld 4 (some .int) 1 6 := ⟨⟨TT_in 1102 (by decide +kernel) rfl, TT_in 1099 (by decide +kernel) rfl, TT_in 63 (by decide +kernel) rfl, ⟨by decide, by decide⟩, by decide +kernel, by decide⟩, TT_in 1101 (by decide +kernel) rfl, TT_in 31 (by decide +kernel) rfl, ⟨_, _, rfl⟩⟩
theorem lkX8_257 : q_LkV RX8 257 yX8_nothings cX8_nothings 3 (some .int) 0 6 := ⟨⟨TT_in 1106 (by decide +kernel) rfl, TT_in 1103 (by decide +kernel) rfl, TT_in 63 (by decide +kernel) rfl, ⟨by decide, by decide⟩, by decide +kernel, by decide⟩, TT_in 1105 (by decide +kernel) rfl, TT_in 32 (by decide +kernel) rfl, ⟨_, _, rfl⟩⟩
theorem lkX8_260 : q_LkV RX8 260 yX8_fineOnes cX8_fineOnes 3 (some .int) 0 6 := ⟨⟨TT_in 1110 (by decide +kernel) rfl, TT_in 1107 (by decide +kernel) rfl, TT_in 63 (by decide +kernel) rfl, ⟨by decide, by decide⟩, by decide +kernel, by decide⟩, TT_in 1109 (by decide +kernel) rfl, TT_in 33 (by decide +kernel) rfl, ⟨_, _, rfl⟩⟩
theorem lkX8_267 : q_LkV RX8 267 yX8_holdsRow cX8_holdsRow 2 (some .boolean) 1 6 := ⟨⟨TT_in 1128 (by decide +kernel) rfl, TT_in 1125 (by decide +kernel) rfl, TT_in 63 (by decide +kernel) rfl, ⟨by decide, by decide⟩, by decide +kernel, by decide⟩, TT_in 1127 (by decide +kernel) rfl, TT_in 34 (by decide +kernel) rfl, ⟨_, _, rfl⟩⟩
theorem lkX8_283 : q_LkV RX8 283 yX8_get cX8_get 4 none 2 6 := ⟨⟨TT_in 1143 (by decide +kernel) rfl, TT_in 1140 (by decide +kernel) rfl, TT_in 63 (by decide +kernel) rfl, ⟨by decide, by decide⟩, by decide +kernel, by decide⟩, TT_in 1142 (by decide +kernel) rfl, TT_in 35 (by decide +kernel) rfl, ⟨_, _, rfl⟩⟩
theorem lkX8_287 : q_LkV RX8 287 yX8_kindTold cX8_kindTold 5 (some .int) 3 6 := ⟨⟨TT_in 1147 (by decide +kernel) rfl, TT_in 1144 (by decide +kernel) rfl, TT_in 63 (by decide +kernel) rfl, ⟨by decide, by decide⟩, by decide +kernel, by decide⟩, TT_in 1146 (by decide +kernel) rfl, TT_in 36 (by decide +kernel) rfl, ⟨_, _, rfl⟩⟩
theorem lkX8_291 : q_LkV RX8 291 yX8_told cX8_told 4 (some .long) 2 6 := ⟨⟨TT_in 1151 (by decide +kernel) rfl, TT_in 1148 (by decide +kernel) rfl, TT_in 63 (by decide +kernel) rfl, ⟨by decide, by decide⟩, by decide +kernel, by decide⟩, TT_in 1150 (by decide +kernel) rfl, TT_in 37 (by decide +kernel) rfl, ⟨_, _, rfl⟩⟩
theorem lkX8_305 : q_LkS RX8 305 yX8_given cX8_given 3 (some .long) 2 := ⟨⟨TT_in 1159 (by decide +kernel) rfl, TT_in 1157 (by decide +kernel) rfl, TT_in 63 (by decide +kernel) rfl, ⟨by decide, by decide⟩, by decide +kernel, by decide⟩, TT_in 1158 (by decide +kernel) rfl⟩
theorem lkX8_308 : q_LkV RX8 308 yX8_hold cX8_hold 5 none 3 6 := ⟨⟨TT_in 1170 (by decide +kernel) rfl, TT_in 1167 (by decide +kernel) rfl, TT_in 63 (by decide +kernel) rfl, ⟨by decide, by decide⟩, by decide +kernel, by decide⟩, TT_in 1169 (by decide +kernel) rfl, TT_in 38 (by decide +kernel) rfl, ⟨_, _, rfl⟩⟩
theorem lkX8_313 : q_LkS RX8 313 yX8_widens cX8_widens 2 (some .boolean) 2 := ⟨⟨TT_in 1209 (by decide +kernel) rfl, TT_in 1207 (by decide +kernel) rfl, TT_in 63 (by decide +kernel) rfl, ⟨by decide, by decide⟩, by decide +kernel, by decide⟩, TT_in 1208 (by decide +kernel) rfl⟩
theorem lkX8_317 : q_LkV RX8 317 yX8_reasonOf cX8_reasonOf 2 (some .int) 1 6 := ⟨⟨TT_in 1203 (by decide +kernel) rfl, TT_in 1200 (by decide +kernel) rfl, TT_in 63 (by decide +kernel) rfl, ⟨by decide, by decide⟩, by decide +kernel, by decide⟩, TT_in 1202 (by decide +kernel) rfl, TT_in 40 (by decide +kernel) rfl, ⟨_, _, rfl⟩⟩
theorem lkX8_320 : q_LkS RX8 320 yX8_takeFrom cX8_takeFrom 2 (some .int) 2 := ⟨⟨TT_in 1206 (by decide +kernel) rfl, TT_in 1204 (by decide +kernel) rfl, TT_in 63 (by decide +kernel) rfl, ⟨by decide, by decide⟩, by decide +kernel, by decide⟩, TT_in 1205 (by decide +kernel) rfl⟩
theorem lkX8_324 : q_LkS RX8 324 yX8_withOut cX8_withOut 2 (some .int) 2 := ⟨⟨TT_in 1212 (by decide +kernel) rfl, TT_in 1210 (by decide +kernel) rfl, TT_in 63 (by decide +kernel) rfl, ⟨by decide, by decide⟩, by decide +kernel, by decide⟩, TT_in 1211 (by decide +kernel) rfl⟩
theorem lkX8_328 : q_LkV RX8 328 yX8_bring cX8_bring 7 (some .int) 4 6 := ⟨⟨TT_in 1240 (by decide +kernel) rfl, TT_in 1237 (by decide +kernel) rfl, TT_in 63 (by decide +kernel) rfl, ⟨by decide, by decide⟩, by decide +kernel, by decide⟩, TT_in 1239 (by decide +kernel) rfl, TT_in 45 (by decide +kernel) rfl, ⟨_, _, rfl⟩⟩
theorem lkX8_332 : q_LkV RX8 332 yX8_widened cX8_widened 5 (some .long) 3 6 := ⟨⟨TT_in 1216 (by decide +kernel) rfl, TT_in 1213 (by decide +kernel) rfl, TT_in 63 (by decide +kernel) rfl, ⟨by decide, by decide⟩, by decide +kernel, by decide⟩, TT_in 1215 (by decide +kernel) rfl, TT_in 41 (by decide +kernel) rfl, ⟨_, _, rfl⟩⟩
theorem lkX8_335 : q_LkV RX8 335 yX8_reasonToTake cX8_reasonToTake 6 (some .int) 3 6 := ⟨⟨TT_in 1199 (by decide +kernel) rfl, TT_in 1196 (by decide +kernel) rfl, TT_in 63 (by decide +kernel) rfl, ⟨by decide, by decide⟩, by decide +kernel, by decide⟩, TT_in 1198 (by decide +kernel) rfl, TT_in 39 (by decide +kernel) rfl, ⟨_, _, rfl⟩⟩
theorem lkX8_339 : q_LkV RX8 339 yX8_reasonToFetch cX8_reasonToFetch 4 (some .int) 2 6 := ⟨⟨TT_in 1228 (by decide +kernel) rfl, TT_in 1225 (by decide +kernel) rfl, TT_in 63 (by decide +kernel) rfl, ⟨by decide, by decide⟩, by decide +kernel, by decide⟩, TT_in 1227 (by decide +kernel) rfl, TT_in 43 (by decide +kernel) rfl, ⟨_, _, rfl⟩⟩
theorem lkX8_342 : q_LkV RX8 342 yX8_reasonToLay cX8_reasonToLay 10 (some .int) 5 6 := ⟨⟨TT_in 1236 (by decide +kernel) rfl, TT_in 1233 (by decide +kernel) rfl, TT_in 63 (by decide +kernel) rfl, ⟨by decide, by decide⟩, by decide +kernel, by decide⟩, TT_in 1235 (by decide +kernel) rfl, TT_in 44 (by decide +kernel) rfl, ⟨_, _, rfl⟩⟩
theorem lkX8_346 : q_LkV RX8 346 yX8_put cX8_put 9 none 5 6 := ⟨⟨TT_in 1244 (by decide +kernel) rfl, TT_in 1241 (by decide +kernel) rfl, TT_in 63 (by decide +kernel) rfl, ⟨by decide, by decide⟩, by decide +kernel, by decide⟩, TT_in 1243 (by decide +kernel) rfl, TT_in 46 (by decide +kernel) rfl, ⟨_, _, rfl⟩⟩
theorem lkX8_350 : q_LkV RX8 350 yX8_holdsPlain cX8_holdsPlain 2 (some .boolean) 1 6 := ⟨⟨TT_in 1252 (by decide +kernel) rfl, TT_in 1249 (by decide +kernel) rfl, TT_in 63 (by decide +kernel) rfl, ⟨by decide, by decide⟩, by decide +kernel, by decide⟩, TT_in 1251 (by decide +kernel) rfl, TT_in 47 (by decide +kernel) rfl, ⟨_, _, rfl⟩⟩
theorem lkX8_357 : q_LkV RX8 357 yX8_isOne cX8_isOne 6 (some .boolean) 3 6 := ⟨⟨TT_in 1267 (by decide +kernel) rfl, TT_in 1264 (by decide +kernel) rfl, TT_in 63 (by decide +kernel) rfl, ⟨by decide, by decide⟩, by decide +kernel, by decide⟩, TT_in 1266 (by decide +kernel) rfl, TT_in 49 (by decide +kernel) rfl, ⟨_, _, rfl⟩⟩
theorem lkX8_361 : q_LkV RX8 361 yX8_asOne cX8_asOne 5 (some .long) 3 6 := ⟨⟨TT_in 1271 (by decide +kernel) rfl, TT_in 1268 (by decide +kernel) rfl, TT_in 63 (by decide +kernel) rfl, ⟨by decide, by decide⟩, by decide +kernel, by decide⟩, TT_in 1270 (by decide +kernel) rfl, TT_in 50 (by decide +kernel) rfl, ⟨_, _, rfl⟩⟩
theorem lkX8_366 : q_LkV RX8 366 yX8_convertCell cX8_convertCell 10 (some .int) 4 6 := ⟨⟨TT_in 1263 (by decide +kernel) rfl, TT_in 1260 (by decide +kernel) rfl, TT_in 63 (by decide +kernel) rfl, ⟨by decide, by decide⟩, by decide +kernel, by decide⟩, TT_in 1262 (by decide +kernel) rfl, TT_in 48 (by decide +kernel) rfl, ⟨_, _, rfl⟩⟩
theorem lkX8_374 : q_LkS RX8 374 yX8_isWay cX8_isWay 3 (some .boolean) 1 := ⟨⟨TT_in 1286 (by decide +kernel) rfl, TT_in 1284 (by decide +kernel) rfl, TT_in 63 (by decide +kernel) rfl, ⟨by decide, by decide⟩, by decide +kernel, by decide⟩, TT_in 1285 (by decide +kernel) rfl⟩
theorem lkX8_378 : q_LkV RX8 378 yX8_addEnd cX8_addEnd 6 none 2 6 := ⟨⟨TT_in 1297 (by decide +kernel) rfl, TT_in 1294 (by decide +kernel) rfl, TT_in 63 (by decide +kernel) rfl, ⟨by decide, by decide⟩, by decide +kernel, by decide⟩, TT_in 1296 (by decide +kernel) rfl, TT_in 51 (by decide +kernel) rfl, ⟨_, _, rfl⟩⟩
theorem lkX8_383 : q_LkS RX8 383 yX8_has cX8_has 2 (some .boolean) 2 := ⟨⟨TT_in 1305 (by decide +kernel) rfl, TT_in 1303 (by decide +kernel) rfl, TT_in 63 (by decide +kernel) rfl, ⟨by decide, by decide⟩, by decide +kernel, by decide⟩, TT_in 1304 (by decide +kernel) rfl⟩
theorem lkX8_386 : q_LkS RX8 386 yX8_leastOf cX8_leastOf 4 (some .int) 2 := ⟨⟨TT_in 1315 (by decide +kernel) rfl, TT_in 1313 (by decide +kernel) rfl, TT_in 63 (by decide +kernel) rfl, ⟨by decide, by decide⟩, by decide +kernel, by decide⟩, TT_in 1314 (by decide +kernel) rfl⟩
theorem lkX8_389 : q_LkS RX8 389 yX8_joinedKind cX8_joinedKind 2 (some .int) 2 := ⟨⟨TT_in 1312 (by decide +kernel) rfl, TT_in 1310 (by decide +kernel) rfl, TT_in 63 (by decide +kernel) rfl, ⟨by decide, by decide⟩, by decide +kernel, by decide⟩, TT_in 1311 (by decide +kernel) rfl⟩
theorem lkX8_392 : q_LkV RX8 392 yX8_joinCells cX8_joinCells 4 none 1 6 := ⟨⟨TT_in 1319 (by decide +kernel) rfl, TT_in 1316 (by decide +kernel) rfl, TT_in 63 (by decide +kernel) rfl, ⟨by decide, by decide⟩, by decide +kernel, by decide⟩, TT_in 1318 (by decide +kernel) rfl, TT_in 52 (by decide +kernel) rfl, ⟨_, _, rfl⟩⟩
theorem lkX8_397 : q_LkV RX8 397 yX8_areAlike cX8_areAlike 5 (some .boolean) 2 6 := ⟨⟨TT_in 1332 (by decide +kernel) rfl, TT_in 1329 (by decide +kernel) rfl, TT_in 63 (by decide +kernel) rfl, ⟨by decide, by decide⟩, by decide +kernel, by decide⟩, TT_in 1331 (by decide +kernel) rfl, TT_in 53 (by decide +kernel) rfl, ⟨_, _, rfl⟩⟩
theorem lkX8_400 : q_LkV RX8 400 yX8_areSame cX8_areSame 3 (some .boolean) 2 6 := ⟨⟨TT_in 1340 (by decide +kernel) rfl, TT_in 1337 (by decide +kernel) rfl, TT_in 63 (by decide +kernel) rfl, ⟨by decide, by decide⟩, by decide +kernel, by decide⟩, TT_in 1339 (by decide +kernel) rfl, TT_in 54 (by decide +kernel) rfl, ⟨_, _, rfl⟩⟩
theorem lkX8_407 : q_LkV RX8 407 yX8_reasonBy cX8_reasonBy 4 (some .int) 3 6 := ⟨⟨TT_in 1362 (by decide +kernel) rfl, TT_in 1359 (by decide +kernel) rfl, TT_in 63 (by decide +kernel) rfl, ⟨by decide, by decide⟩, by decide +kernel, by decide⟩, TT_in 1361 (by decide +kernel) rfl, TT_in 55 (by decide +kernel) rfl, ⟨_, _, rfl⟩⟩
theorem lkJ13_308 : q_LkS RJ13 308 yJ6_numberOfLeadingZeros_0f7a4 cJ6_numberOfLeadingZeros_0f7a4 2 (some .int) 1 := ⟨⟨TT_in 456 (by decide +kernel) rfl, TT_in 454 (by decide +kernel) rfl, TT_in 72 (by decide +kernel) rfl, ⟨by decide, by decide⟩, by decide +kernel, by decide⟩, TT_in 455 (by decide +kernel) rfl⟩
theorem cnX7_135 : Cond.constantLong RX7 135 (-1) ∈ TT := TT_in 523 (by decide +kernel) rfl
theorem cnX7_137 : Cond.constantLong RX7 137 (-3) ∈ TT := TT_in 524 (by decide +kernel) rfl
theorem cnX7_143 : Cond.constantLong RX7 143 (-2) ∈ TT := TT_in 529 (by decide +kernel) rfl
theorem cnX7_217 : Cond.constantLong RX7 217 6364136223846793005 ∈ TT := TT_in 668 (by decide +kernel) rfl
theorem cnX7_219 : Cond.constantLong RX7 219 1442695040888963407 ∈ TT := TT_in 669 (by decide +kernel) rfl
theorem cnX7_291 : Cond.constant RX7 291 888888 ∈ TT := TT_in 740 (by decide +kernel) rfl
theorem cnX7_298 : Cond.constantLong RX7 298 (-9) ∈ TT := TT_in 552 (by decide +kernel) rfl
theorem cnX7_332 : Cond.constant RX7 332 100000 ∈ TT := TT_in 745 (by decide +kernel) rfl
theorem cnX2_61 : Cond.constantLong RX2 61 536870911 ∈ TT := TT_in 709 (by decide +kernel) rfl
theorem cnX2_66 : Cond.constantLong RX2 66 (-128) ∈ TT := TT_in 381 (by decide +kernel) rfl
theorem cnX2_68 : Cond.constantLong RX2 68 (-32768) ∈ TT := TT_in 382 (by decide +kernel) rfl
theorem cnX2_70 : Cond.constantLong RX2 70 (-2147483648) ∈ TT := TT_in 383 (by decide +kernel) rfl
theorem cnX2_72 : Cond.constantLong RX2 72 (-9223372036854775808) ∈ TT := TT_in 384 (by decide +kernel) rfl
theorem cnX2_74 : Cond.constantLong RX2 74 127 ∈ TT := TT_in 396 (by decide +kernel) rfl
theorem cnX2_76 : Cond.constantLong RX2 76 65535 ∈ TT := TT_in 397 (by decide +kernel) rfl
theorem cnX2_78 : Cond.constantLong RX2 78 32767 ∈ TT := TT_in 398 (by decide +kernel) rfl
theorem cnX2_80 : Cond.constantLong RX2 80 2147483647 ∈ TT := TT_in 399 (by decide +kernel) rfl
theorem cnX2_82 : Cond.constantLong RX2 82 9999 ∈ TT := TT_in 400 (by decide +kernel) rfl
theorem cnX2_84 : Cond.constantLong RX2 84 9223372036854775807 ∈ TT := TT_in 401 (by decide +kernel) rfl
theorem cnX2_104 : Cond.constantLong RX2 104 2147483648 ∈ TT := TT_in 461 (by decide +kernel) rfl
theorem cnX2_112 : Cond.constantLong RX2 112 255 ∈ TT := TT_in 627 (by decide +kernel) rfl
theorem cnX2_114 : Cond.constantLong RX2 114 896 ∈ TT := TT_in 628 (by decide +kernel) rfl
theorem cnX2_116 : Cond.constantLong RX2 116 8388607 ∈ TT := TT_in 629 (by decide +kernel) rfl
theorem cnX2_118 : Cond.constantLong RX2 118 2047 ∈ TT := TT_in 699 (by decide +kernel) rfl
theorem cnX2_120 : Cond.constantLong RX2 120 4503599627370495 ∈ TT := TT_in 704 (by decide +kernel) rfl
theorem cnX2_125 : Cond.constantLong RX2 125 (-4332462841530417152) ∈ TT := TT_in 700 (by decide +kernel) rfl
theorem cnX2_130 : Cond.constantLong RX2 130 4503599627370496 ∈ TT := TT_in 705 (by decide +kernel) rfl
theorem cnX3_81 : Cond.constantLong RX3 81 10 ∈ TT := TT_in 388 (by decide +kernel) rfl
theorem cnX8_96 : Cond.constantLong RX8 96 7 ∈ TT := TT_in 1032 (by decide +kernel) rfl
theorem cnX8_110 : Cond.constantLong RX8 110 2 ∈ TT := TT_in 1064 (by decide +kernel) rfl
theorem cnX8_112 : Cond.constantLong RX8 112 (-9223372036854775808) ∈ TT := TT_in 1063 (by decide +kernel) rfl
theorem cnX8_118 : Cond.constantLong RX8 118 (-128) ∈ TT := TT_in 1050 (by decide +kernel) rfl
theorem cnX8_120 : Cond.constantLong RX8 120 127 ∈ TT := TT_in 1051 (by decide +kernel) rfl
theorem cnX8_122 : Cond.constantLong RX8 122 65535 ∈ TT := TT_in 1052 (by decide +kernel) rfl
theorem cnX8_124 : Cond.constantLong RX8 124 (-32768) ∈ TT := TT_in 1053 (by decide +kernel) rfl
theorem cnX8_126 : Cond.constantLong RX8 126 32767 ∈ TT := TT_in 1054 (by decide +kernel) rfl
theorem cnX8_128 : Cond.constantLong RX8 128 (-2147483648) ∈ TT := TT_in 1055 (by decide +kernel) rfl
theorem cnX8_130 : Cond.constantLong RX8 130 2147483647 ∈ TT := TT_in 1056 (by decide +kernel) rfl
theorem cnX8_140 : Cond.constantLong RX8 140 255 ∈ TT := TT_in 999 (by decide +kernel) rfl
theorem cnX8_142 : Cond.constantLong RX8 142 128 ∈ TT := TT_in 1160 (by decide +kernel) rfl
theorem cnX8_144 : Cond.constantLong RX8 144 256 ∈ TT := TT_in 1161 (by decide +kernel) rfl
theorem cnX8_146 : Cond.constantLong RX8 146 32768 ∈ TT := TT_in 1162 (by decide +kernel) rfl
theorem cnX8_148 : Cond.constantLong RX8 148 65536 ∈ TT := TT_in 1163 (by decide +kernel) rfl
theorem cnX8_150 : Cond.constantLong RX8 150 4294967295 ∈ TT := TT_in 1164 (by decide +kernel) rfl
theorem cnX8_152 : Cond.constantLong RX8 152 2147483648 ∈ TT := TT_in 1165 (by decide +kernel) rfl
theorem cnX8_154 : Cond.constantLong RX8 154 4294967296 ∈ TT := TT_in 1166 (by decide +kernel) rfl
theorem cnX8_156 : Cond.constantLong RX8 156 (-1) ∈ TT := TT_in 1137 (by decide +kernel) rfl
theorem cnX8_176 : Cond.constantLong RX8 176 10 ∈ TT := TT_in 1041 (by decide +kernel) rfl
theorem cnX8_178 : Cond.constantLong RX8 178 9 ∈ TT := TT_in 1042 (by decide +kernel) rfl
theorem cnX8_190 : Cond.constantLong RX8 190 9999 ∈ TT := TT_in 1046 (by decide +kernel) rfl
theorem cnX8_263 : Cond.constantLong RX8 263 15 ∈ TT := TT_in 1115 (by decide +kernel) rfl
theorem cnX8_265 : Cond.constantLong RX8 265 6 ∈ TT := TT_in 1116 (by decide +kernel) rfl
theorem cnX8_279 : Cond.constantLong RX8 279 (-3) ∈ TT := TT_in 1138 (by decide +kernel) rfl
theorem cnX8_281 : Cond.constantLong RX8 281 (-2) ∈ TT := TT_in 1139 (by decide +kernel) rfl
theorem cnX8_294 : Cond.constantLong RX8 294 (-9) ∈ TT := TT_in 1152 (by decide +kernel) rfl
theorem cnX8_311 : Cond.constantLong RX8 311 999 ∈ TT := TT_in 1175 (by decide +kernel) rfl
theorem cnX8_353 : Cond.constantLong RX8 353 6364136223846793005 ∈ TT := TT_in 1253 (by decide +kernel) rfl
theorem cnX8_355 : Cond.constantLong RX8 355 1442695040888963407 ∈ TT := TT_in 1254 (by decide +kernel) rfl
theorem cnX8_364 : Cond.constantLong RX8 364 3 ∈ TT := TT_in 1259 (by decide +kernel) rfl
theorem cnX8_370 : Cond.constantLong RX8 370 888888 ∈ TT := TT_in 1287 (by decide +kernel) rfl
theorem cnX8_372 : Cond.constantLong RX8 372 8 ∈ TT := TT_in 1288 (by decide +kernel) rfl
theorem cnX8_377 : Cond.constant RX8 377 100000 ∈ TT := TT_in 1289 (by decide +kernel) rfl
theorem cnX8_381 : Cond.constantLong RX8 381 1023 ∈ TT := TT_in 1302 (by decide +kernel) rfl
theorem cnX8_395 : Cond.constantLong RX8 395 69 ∈ TT := TT_in 1324 (by decide +kernel) rfl
theorem cnX8_403 : Cond.constantLong RX8 403 4 ∈ TT := TT_in 1345 (by decide +kernel) rfl
theorem cnX8_405 : Cond.constantLong RX8 405 5 ∈ TT := TT_in 1346 (by decide +kernel) rfl
theorem cnJ6_264 : Cond.constant RJ6 264 65536 ∈ TT := TT_in 457 (by decide +kernel) rfl
end
section
theorem dJ1_canEncode_9a6ad_0 : decode cJ1_canEncode_9a6ad 0 = .ok (.iload_n 0, 1) := by decide +kernel
theorem dJ1_canEncode_9a6ad_1 : decode cJ1_canEncode_9a6ad 1 = .ok (.ifCond .lt 14, 3) := by decide +kernel
theorem dJ1_canEncode_9a6ad_4 : decode cJ1_canEncode_9a6ad 4 = .ok (.iload_n 0, 1) := by decide +kernel
theorem dJ1_canEncode_9a6ad_5 : decode cJ1_canEncode_9a6ad 5 = .ok (.sipush 255, 3) := by decide +kernel
theorem dJ1_canEncode_9a6ad_8 : decode cJ1_canEncode_9a6ad 8 = .ok (.if_icmp .gt 7, 3) := by decide +kernel
theorem dJ1_canEncode_9a6ad_11 : decode cJ1_canEncode_9a6ad 11 = .ok (.iconst 1, 1) := by decide +kernel
theorem dJ1_canEncode_9a6ad_12 : decode cJ1_canEncode_9a6ad 12 = .ok (.goto 4, 3) := by decide +kernel
theorem dJ1_canEncode_9a6ad_15 : decode cJ1_canEncode_9a6ad 15 = .ok (.iconst 0, 1) := by decide +kernel
theorem dJ1_canEncode_9a6ad_16 : decode cJ1_canEncode_9a6ad 16 = .ok (.ireturn, 1) := by decide +kernel
def fJ1_canEncode_9a6ad (p1 : Int32) : Option Int32 := (if p1 < 0 then some (0 : Int32) else (if (255 : Int32) < p1 then some (0 : Int32) else some (1 : Int32)))
set_option maxRecDepth 100000 in
set_option maxHeartbeats 4000000 in
theorem kJ1_canEncode_9a6ad (l : Launch) (p1 : Int32) (out : Int32) (hf : fJ1_canEncode_9a6ad p1 = some out) : Sq l yJ1_canEncode_9a6ad cJ1_canEncode_9a6ad 1 (some .boolean) 0 [.int p1] (some (.int out)) := by
  refine Sq.of [(0, .int p1)] rfl (by decide +kernel) (Nat.le_of_ble_eq_true rfl) ?_
  intro κ hκ C hQ
  subst hκ
  replace C : Cf κ cJ1_canEncode_9a6ad 1 RJ1 (some .boolean) 0 := C
  refine g_iload_n (pc := 0) (i := 0) (j := 0) C dJ1_canEncode_9a6ad_0 rfl rfl ?_
  refine g_if_lt (pc := 1) (tgt := 15) C dJ1_canEncode_9a6ad_1 rfl hf (fun _ hf => ?_) (fun _ hf => ?_)
  · refine g_iconst (pc := 15) C dJ1_canEncode_9a6ad_15 ci_0 ?_
    exact g_zret1p (pc := 16) C rfl hQ dJ1_canEncode_9a6ad_16 hf
  · refine g_iload_n (pc := 4) (i := 0) (j := 0) C dJ1_canEncode_9a6ad_4 rfl rfl ?_
    refine g_sipush (pc := 5) C dJ1_canEncode_9a6ad_5 cs_255 ?_
    refine g_icmp_gt (pc := 8) (tgt := 15) C dJ1_canEncode_9a6ad_8 rfl hf (fun _ hf => ?_) (fun _ hf => ?_)
    · refine g_iconst (pc := 15) C dJ1_canEncode_9a6ad_15 ci_0 ?_
      exact g_zret1p (pc := 16) C rfl hQ dJ1_canEncode_9a6ad_16 hf
    · refine g_iconst (pc := 11) C dJ1_canEncode_9a6ad_11 ci_1 ?_
      refine g_goto (pc := 12) (tgt := 16) C dJ1_canEncode_9a6ad_12 rfl ?_
      exact g_zret1p (pc := 16) C rfl hQ dJ1_canEncode_9a6ad_16 hf
theorem dJ9_max_7cf53_0 : decode cJ9_max_7cf53 0 = .ok (.iload_n 0, 1) := by decide +kernel
theorem dJ9_max_7cf53_1 : decode cJ9_max_7cf53 1 = .ok (.iload_n 1, 1) := by decide +kernel
theorem dJ9_max_7cf53_2 : decode cJ9_max_7cf53 2 = .ok (.if_icmp .lt 7, 3) := by decide +kernel
theorem dJ9_max_7cf53_5 : decode cJ9_max_7cf53 5 = .ok (.iload_n 0, 1) := by decide +kernel
theorem dJ9_max_7cf53_6 : decode cJ9_max_7cf53 6 = .ok (.goto 4, 3) := by decide +kernel
theorem dJ9_max_7cf53_9 : decode cJ9_max_7cf53 9 = .ok (.iload_n 1, 1) := by decide +kernel
theorem dJ9_max_7cf53_10 : decode cJ9_max_7cf53 10 = .ok (.ireturn, 1) := by decide +kernel
def fJ9_max_7cf53 (p1 : Int32) (p2 : Int32) : Option Int32 := (if p1 < p2 then some p2 else some p1)
set_option maxRecDepth 100000 in
set_option maxHeartbeats 4000000 in
theorem kJ9_max_7cf53 (l : Launch) (p1 : Int32) (p2 : Int32) (out : Int32) (hf : fJ9_max_7cf53 p1 p2 = some out) : Sq l yJ9_max_7cf53 cJ9_max_7cf53 2 (some .int) 0 [.int p1, .int p2] (some (.int out)) := by
  refine Sq.of [(0, .int p1), (1, .int p2)] rfl (by decide +kernel) (Nat.le_of_ble_eq_true rfl) ?_
  intro κ hκ C hQ
  subst hκ
  replace C : Cf κ cJ9_max_7cf53 2 RJ9 (some .int) 0 := C
  refine g_iload_n (pc := 0) (i := 0) (j := 0) C dJ9_max_7cf53_0 rfl rfl ?_
  refine g_iload_n (pc := 1) (i := 1) (j := 1) C dJ9_max_7cf53_1 rfl rfl ?_
  refine g_icmp_lt (pc := 2) (tgt := 9) C dJ9_max_7cf53_2 rfl hf (fun _ hf => ?_) (fun _ hf => ?_)
  · refine g_iload_n (pc := 9) (i := 1) (j := 1) C dJ9_max_7cf53_9 rfl rfl ?_
    exact g_iretp (pc := 10) C hQ dJ9_max_7cf53_10 hf
  · refine g_iload_n (pc := 5) (i := 0) (j := 0) C dJ9_max_7cf53_5 rfl rfl ?_
    refine g_goto (pc := 6) (tgt := 10) C dJ9_max_7cf53_6 rfl ?_
    exact g_iretp (pc := 10) C hQ dJ9_max_7cf53_10 hf
theorem dJ9_min_7cf53_0 : decode cJ9_min_7cf53 0 = .ok (.iload_n 0, 1) := by decide +kernel
theorem dJ9_min_7cf53_1 : decode cJ9_min_7cf53 1 = .ok (.iload_n 1, 1) := by decide +kernel
theorem dJ9_min_7cf53_2 : decode cJ9_min_7cf53 2 = .ok (.if_icmp .gt 7, 3) := by decide +kernel
theorem dJ9_min_7cf53_5 : decode cJ9_min_7cf53 5 = .ok (.iload_n 0, 1) := by decide +kernel
theorem dJ9_min_7cf53_6 : decode cJ9_min_7cf53 6 = .ok (.goto 4, 3) := by decide +kernel
theorem dJ9_min_7cf53_9 : decode cJ9_min_7cf53 9 = .ok (.iload_n 1, 1) := by decide +kernel
theorem dJ9_min_7cf53_10 : decode cJ9_min_7cf53 10 = .ok (.ireturn, 1) := by decide +kernel
def fJ9_min_7cf53 (p1 : Int32) (p2 : Int32) : Option Int32 := (if p2 < p1 then some p2 else some p1)
set_option maxRecDepth 100000 in
set_option maxHeartbeats 4000000 in
theorem kJ9_min_7cf53 (l : Launch) (p1 : Int32) (p2 : Int32) (out : Int32) (hf : fJ9_min_7cf53 p1 p2 = some out) : Sq l yJ9_min_7cf53 cJ9_min_7cf53 2 (some .int) 0 [.int p1, .int p2] (some (.int out)) := by
  refine Sq.of [(0, .int p1), (1, .int p2)] rfl (by decide +kernel) (Nat.le_of_ble_eq_true rfl) ?_
  intro κ hκ C hQ
  subst hκ
  replace C : Cf κ cJ9_min_7cf53 2 RJ9 (some .int) 0 := C
  refine g_iload_n (pc := 0) (i := 0) (j := 0) C dJ9_min_7cf53_0 rfl rfl ?_
  refine g_iload_n (pc := 1) (i := 1) (j := 1) C dJ9_min_7cf53_1 rfl rfl ?_
  refine g_icmp_gt (pc := 2) (tgt := 9) C dJ9_min_7cf53_2 rfl hf (fun _ hf => ?_) (fun _ hf => ?_)
  · refine g_iload_n (pc := 9) (i := 1) (j := 1) C dJ9_min_7cf53_9 rfl rfl ?_
    exact g_iretp (pc := 10) C hQ dJ9_min_7cf53_10 hf
  · refine g_iload_n (pc := 5) (i := 0) (j := 0) C dJ9_min_7cf53_5 rfl rfl ?_
    refine g_goto (pc := 6) (tgt := 10) C dJ9_min_7cf53_6 rfl ?_
    exact g_iretp (pc := 10) C hQ dJ9_min_7cf53_10 hf
theorem dJ6_numberOfLeadingZeros_0f7a4_0 : decode cJ6_numberOfLeadingZeros_0f7a4 0 = .ok (.iload_n 0, 1) := by decide +kernel
theorem dJ6_numberOfLeadingZeros_0f7a4_1 : decode cJ6_numberOfLeadingZeros_0f7a4 1 = .ok (.ifCond .gt 14, 3) := by decide +kernel
theorem dJ6_numberOfLeadingZeros_0f7a4_4 : decode cJ6_numberOfLeadingZeros_0f7a4 4 = .ok (.iload_n 0, 1) := by decide +kernel
theorem dJ6_numberOfLeadingZeros_0f7a4_5 : decode cJ6_numberOfLeadingZeros_0f7a4 5 = .ok (.ifCond .ne 8, 3) := by decide +kernel
theorem dJ6_numberOfLeadingZeros_0f7a4_8 : decode cJ6_numberOfLeadingZeros_0f7a4 8 = .ok (.bipush 32, 2) := by decide +kernel
theorem dJ6_numberOfLeadingZeros_0f7a4_10 : decode cJ6_numberOfLeadingZeros_0f7a4 10 = .ok (.goto 4, 3) := by decide +kernel
theorem dJ6_numberOfLeadingZeros_0f7a4_13 : decode cJ6_numberOfLeadingZeros_0f7a4 13 = .ok (.iconst 0, 1) := by decide +kernel
theorem dJ6_numberOfLeadingZeros_0f7a4_14 : decode cJ6_numberOfLeadingZeros_0f7a4 14 = .ok (.ireturn, 1) := by decide +kernel
theorem dJ6_numberOfLeadingZeros_0f7a4_15 : decode cJ6_numberOfLeadingZeros_0f7a4 15 = .ok (.bipush 31, 2) := by decide +kernel
theorem dJ6_numberOfLeadingZeros_0f7a4_17 : decode cJ6_numberOfLeadingZeros_0f7a4 17 = .ok (.istore_n 1, 1) := by decide +kernel
theorem dJ6_numberOfLeadingZeros_0f7a4_18 : decode cJ6_numberOfLeadingZeros_0f7a4 18 = .ok (.iload_n 0, 1) := by decide +kernel
theorem dJ6_numberOfLeadingZeros_0f7a4_19 : decode cJ6_numberOfLeadingZeros_0f7a4 19 = .ok (.ldc_w 264, 3) := by decide +kernel
theorem dJ6_numberOfLeadingZeros_0f7a4_22 : decode cJ6_numberOfLeadingZeros_0f7a4 22 = .ok (.if_icmp .lt 11, 3) := by decide +kernel
theorem dJ6_numberOfLeadingZeros_0f7a4_25 : decode cJ6_numberOfLeadingZeros_0f7a4 25 = .ok (.iinc 1 (-16), 3) := by decide +kernel
theorem dJ6_numberOfLeadingZeros_0f7a4_28 : decode cJ6_numberOfLeadingZeros_0f7a4 28 = .ok (.iload_n 0, 1) := by decide +kernel
theorem dJ6_numberOfLeadingZeros_0f7a4_29 : decode cJ6_numberOfLeadingZeros_0f7a4 29 = .ok (.bipush 16, 2) := by decide +kernel
theorem dJ6_numberOfLeadingZeros_0f7a4_31 : decode cJ6_numberOfLeadingZeros_0f7a4 31 = .ok (.iushr, 1) := by decide +kernel
theorem dJ6_numberOfLeadingZeros_0f7a4_32 : decode cJ6_numberOfLeadingZeros_0f7a4 32 = .ok (.istore_n 0, 1) := by decide +kernel
theorem dJ6_numberOfLeadingZeros_0f7a4_33 : decode cJ6_numberOfLeadingZeros_0f7a4 33 = .ok (.iload_n 0, 1) := by decide +kernel
theorem dJ6_numberOfLeadingZeros_0f7a4_34 : decode cJ6_numberOfLeadingZeros_0f7a4 34 = .ok (.sipush 256, 3) := by decide +kernel
theorem dJ6_numberOfLeadingZeros_0f7a4_37 : decode cJ6_numberOfLeadingZeros_0f7a4 37 = .ok (.if_icmp .lt 11, 3) := by decide +kernel
theorem dJ6_numberOfLeadingZeros_0f7a4_40 : decode cJ6_numberOfLeadingZeros_0f7a4 40 = .ok (.iinc 1 (-8), 3) := by decide +kernel
theorem dJ6_numberOfLeadingZeros_0f7a4_43 : decode cJ6_numberOfLeadingZeros_0f7a4 43 = .ok (.iload_n 0, 1) := by decide +kernel
theorem dJ6_numberOfLeadingZeros_0f7a4_44 : decode cJ6_numberOfLeadingZeros_0f7a4 44 = .ok (.bipush 8, 2) := by decide +kernel
theorem dJ6_numberOfLeadingZeros_0f7a4_46 : decode cJ6_numberOfLeadingZeros_0f7a4 46 = .ok (.iushr, 1) := by decide +kernel
theorem dJ6_numberOfLeadingZeros_0f7a4_47 : decode cJ6_numberOfLeadingZeros_0f7a4 47 = .ok (.istore_n 0, 1) := by decide +kernel
theorem dJ6_numberOfLeadingZeros_0f7a4_48 : decode cJ6_numberOfLeadingZeros_0f7a4 48 = .ok (.iload_n 0, 1) := by decide +kernel
theorem dJ6_numberOfLeadingZeros_0f7a4_49 : decode cJ6_numberOfLeadingZeros_0f7a4 49 = .ok (.bipush 16, 2) := by decide +kernel
theorem dJ6_numberOfLeadingZeros_0f7a4_51 : decode cJ6_numberOfLeadingZeros_0f7a4 51 = .ok (.if_icmp .lt 10, 3) := by decide +kernel
theorem dJ6_numberOfLeadingZeros_0f7a4_54 : decode cJ6_numberOfLeadingZeros_0f7a4 54 = .ok (.iinc 1 (-4), 3) := by decide +kernel
theorem dJ6_numberOfLeadingZeros_0f7a4_57 : decode cJ6_numberOfLeadingZeros_0f7a4 57 = .ok (.iload_n 0, 1) := by decide +kernel
theorem dJ6_numberOfLeadingZeros_0f7a4_58 : decode cJ6_numberOfLeadingZeros_0f7a4 58 = .ok (.iconst 4, 1) := by decide +kernel
theorem dJ6_numberOfLeadingZeros_0f7a4_59 : decode cJ6_numberOfLeadingZeros_0f7a4 59 = .ok (.iushr, 1) := by decide +kernel
theorem dJ6_numberOfLeadingZeros_0f7a4_60 : decode cJ6_numberOfLeadingZeros_0f7a4 60 = .ok (.istore_n 0, 1) := by decide +kernel
theorem dJ6_numberOfLeadingZeros_0f7a4_61 : decode cJ6_numberOfLeadingZeros_0f7a4 61 = .ok (.iload_n 0, 1) := by decide +kernel
theorem dJ6_numberOfLeadingZeros_0f7a4_62 : decode cJ6_numberOfLeadingZeros_0f7a4 62 = .ok (.iconst 4, 1) := by decide +kernel
theorem dJ6_numberOfLeadingZeros_0f7a4_63 : decode cJ6_numberOfLeadingZeros_0f7a4 63 = .ok (.if_icmp .lt 10, 3) := by decide +kernel
theorem dJ6_numberOfLeadingZeros_0f7a4_66 : decode cJ6_numberOfLeadingZeros_0f7a4 66 = .ok (.iinc 1 (-2), 3) := by decide +kernel
theorem dJ6_numberOfLeadingZeros_0f7a4_69 : decode cJ6_numberOfLeadingZeros_0f7a4 69 = .ok (.iload_n 0, 1) := by decide +kernel
theorem dJ6_numberOfLeadingZeros_0f7a4_70 : decode cJ6_numberOfLeadingZeros_0f7a4 70 = .ok (.iconst 2, 1) := by decide +kernel
theorem dJ6_numberOfLeadingZeros_0f7a4_71 : decode cJ6_numberOfLeadingZeros_0f7a4 71 = .ok (.iushr, 1) := by decide +kernel
theorem dJ6_numberOfLeadingZeros_0f7a4_72 : decode cJ6_numberOfLeadingZeros_0f7a4 72 = .ok (.istore_n 0, 1) := by decide +kernel
theorem dJ6_numberOfLeadingZeros_0f7a4_73 : decode cJ6_numberOfLeadingZeros_0f7a4 73 = .ok (.iload_n 1, 1) := by decide +kernel
theorem dJ6_numberOfLeadingZeros_0f7a4_74 : decode cJ6_numberOfLeadingZeros_0f7a4 74 = .ok (.iload_n 0, 1) := by decide +kernel
theorem dJ6_numberOfLeadingZeros_0f7a4_75 : decode cJ6_numberOfLeadingZeros_0f7a4 75 = .ok (.iconst 1, 1) := by decide +kernel
theorem dJ6_numberOfLeadingZeros_0f7a4_76 : decode cJ6_numberOfLeadingZeros_0f7a4 76 = .ok (.iushr, 1) := by decide +kernel
theorem dJ6_numberOfLeadingZeros_0f7a4_77 : decode cJ6_numberOfLeadingZeros_0f7a4 77 = .ok (.isub, 1) := by decide +kernel
theorem dJ6_numberOfLeadingZeros_0f7a4_78 : decode cJ6_numberOfLeadingZeros_0f7a4 78 = .ok (.ireturn, 1) := by decide +kernel
def fJ6_numberOfLeadingZeros_0f7a4_b73 (v0 : Int32) (v1 : Int32) : Option Int32 := some (v1 - (jushr v0 (1 : Int32)))
def fJ6_numberOfLeadingZeros_0f7a4_b61 (v0 : Int32) (v1 : Int32) : Option Int32 := (if v0 < (4 : Int32) then fJ6_numberOfLeadingZeros_0f7a4_b73 v0 v1 else fJ6_numberOfLeadingZeros_0f7a4_b73 (jushr v0 (2 : Int32)) (v1 + (-2 : Int32)))
def fJ6_numberOfLeadingZeros_0f7a4_b48 (v0 : Int32) (v1 : Int32) : Option Int32 := (if v0 < (16 : Int32) then fJ6_numberOfLeadingZeros_0f7a4_b61 v0 v1 else fJ6_numberOfLeadingZeros_0f7a4_b61 (jushr v0 (4 : Int32)) (v1 + (-4 : Int32)))
def fJ6_numberOfLeadingZeros_0f7a4_b33 (v0 : Int32) (v1 : Int32) : Option Int32 := (if v0 < (256 : Int32) then fJ6_numberOfLeadingZeros_0f7a4_b48 v0 v1 else fJ6_numberOfLeadingZeros_0f7a4_b48 (jushr v0 (8 : Int32)) (v1 + (-8 : Int32)))
def fJ6_numberOfLeadingZeros_0f7a4 (p1 : Int32) : Option Int32 := (if 0 < p1 then (if p1 < (65536 : Int32) then fJ6_numberOfLeadingZeros_0f7a4_b33 p1 (31 : Int32) else fJ6_numberOfLeadingZeros_0f7a4_b33 (jushr p1 (16 : Int32)) ((31 : Int32) + (-16 : Int32))) else (if p1 = 0 then some (32 : Int32) else some (0 : Int32)))
set_option maxRecDepth 100000 in
set_option maxHeartbeats 4000000 in
theorem kJ6_numberOfLeadingZeros_0f7a4 (l : Launch) (p1 : Int32) (out : Int32) (hf : fJ6_numberOfLeadingZeros_0f7a4 p1 = some out) : Sq l yJ6_numberOfLeadingZeros_0f7a4 cJ6_numberOfLeadingZeros_0f7a4 2 (some .int) 0 [.int p1] (some (.int out)) := by
  refine Sq.of [(0, .int p1)] rfl (by decide +kernel) (Nat.le_of_ble_eq_true rfl) ?_
  intro κ hκ C hQ
  subst hκ
  replace C : Cf κ cJ6_numberOfLeadingZeros_0f7a4 2 RJ6 (some .int) 0 := C
  have b73 : ∀ (v0 : Int32) (v1 : Int32) , fJ6_numberOfLeadingZeros_0f7a4_b73 v0 v1 = some out → G κ (Vp κ) 2 73 [(0, .int v0), (1, .int v1)] [] := by
    intro v0 v1 hf
    refine g_iload_n (pc := 73) (i := 1) (j := 1) C dJ6_numberOfLeadingZeros_0f7a4_73 rfl rfl ?_
    refine g_iload_n (pc := 74) (i := 0) (j := 0) C dJ6_numberOfLeadingZeros_0f7a4_74 rfl rfl ?_
    refine g_iconst (pc := 75) C dJ6_numberOfLeadingZeros_0f7a4_75 ci_1 ?_
    refine g_iushr (pc := 76) C dJ6_numberOfLeadingZeros_0f7a4_76 ?_
    refine g_isub (pc := 77) C dJ6_numberOfLeadingZeros_0f7a4_77 ?_
    exact g_iretp (pc := 78) C hQ dJ6_numberOfLeadingZeros_0f7a4_78 hf
  have b61 : ∀ (v0 : Int32) (v1 : Int32) , fJ6_numberOfLeadingZeros_0f7a4_b61 v0 v1 = some out → G κ (Vp κ) 2 61 [(0, .int v0), (1, .int v1)] [] := by
    intro v0 v1 hf
    refine g_iload_n (pc := 61) (i := 0) (j := 0) C dJ6_numberOfLeadingZeros_0f7a4_61 rfl rfl ?_
    refine g_iconst (pc := 62) C dJ6_numberOfLeadingZeros_0f7a4_62 ci_4 ?_
    refine g_icmp_lt (pc := 63) (tgt := 73) C dJ6_numberOfLeadingZeros_0f7a4_63 rfl hf (fun _ hf => ?_) (fun _ hf => ?_)
    · exact b73 v0 v1 hf
    · refine g_iinc (pc := 66) (i := 1) (j := 1) (v := (v1 + (-2 : Int32))) (L' := [(1, .int (v1 + (-2 : Int32))), (0, .int v0)]) C dJ6_numberOfLeadingZeros_0f7a4_66 rfl (cx_m2 _) (by decide) rfl ?_
      refine g_iload_n (pc := 69) (i := 0) (j := 1) C dJ6_numberOfLeadingZeros_0f7a4_69 rfl rfl ?_
      refine g_iconst (pc := 70) C dJ6_numberOfLeadingZeros_0f7a4_70 ci_2 ?_
      refine g_iushr (pc := 71) C dJ6_numberOfLeadingZeros_0f7a4_71 ?_
      refine g_istore_n (pc := 72) (i := 0) (L' := [(0, .int (jushr v0 (2 : Int32))), (1, .int (v1 + (-2 : Int32)))]) C dJ6_numberOfLeadingZeros_0f7a4_72 rfl (by decide) rfl ?_
      exact b73 (jushr v0 (2 : Int32)) (v1 + (-2 : Int32)) hf
  have b48 : ∀ (v0 : Int32) (v1 : Int32) , fJ6_numberOfLeadingZeros_0f7a4_b48 v0 v1 = some out → G κ (Vp κ) 2 48 [(0, .int v0), (1, .int v1)] [] := by
    intro v0 v1 hf
    refine g_iload_n (pc := 48) (i := 0) (j := 0) C dJ6_numberOfLeadingZeros_0f7a4_48 rfl rfl ?_
    refine g_bipush (pc := 49) C dJ6_numberOfLeadingZeros_0f7a4_49 cb_16 ?_
    refine g_icmp_lt (pc := 51) (tgt := 61) C dJ6_numberOfLeadingZeros_0f7a4_51 rfl hf (fun _ hf => ?_) (fun _ hf => ?_)
    · exact b61 v0 v1 hf
    · refine g_iinc (pc := 54) (i := 1) (j := 1) (v := (v1 + (-4 : Int32))) (L' := [(1, .int (v1 + (-4 : Int32))), (0, .int v0)]) C dJ6_numberOfLeadingZeros_0f7a4_54 rfl (cx_m4 _) (by decide) rfl ?_
      refine g_iload_n (pc := 57) (i := 0) (j := 1) C dJ6_numberOfLeadingZeros_0f7a4_57 rfl rfl ?_
      refine g_iconst (pc := 58) C dJ6_numberOfLeadingZeros_0f7a4_58 ci_4 ?_
      refine g_iushr (pc := 59) C dJ6_numberOfLeadingZeros_0f7a4_59 ?_
      refine g_istore_n (pc := 60) (i := 0) (L' := [(0, .int (jushr v0 (4 : Int32))), (1, .int (v1 + (-4 : Int32)))]) C dJ6_numberOfLeadingZeros_0f7a4_60 rfl (by decide) rfl ?_
      exact b61 (jushr v0 (4 : Int32)) (v1 + (-4 : Int32)) hf
  have b33 : ∀ (v0 : Int32) (v1 : Int32) , fJ6_numberOfLeadingZeros_0f7a4_b33 v0 v1 = some out → G κ (Vp κ) 2 33 [(0, .int v0), (1, .int v1)] [] := by
    intro v0 v1 hf
    refine g_iload_n (pc := 33) (i := 0) (j := 0) C dJ6_numberOfLeadingZeros_0f7a4_33 rfl rfl ?_
    refine g_sipush (pc := 34) C dJ6_numberOfLeadingZeros_0f7a4_34 cs_256 ?_
    refine g_icmp_lt (pc := 37) (tgt := 48) C dJ6_numberOfLeadingZeros_0f7a4_37 rfl hf (fun _ hf => ?_) (fun _ hf => ?_)
    · exact b48 v0 v1 hf
    · refine g_iinc (pc := 40) (i := 1) (j := 1) (v := (v1 + (-8 : Int32))) (L' := [(1, .int (v1 + (-8 : Int32))), (0, .int v0)]) C dJ6_numberOfLeadingZeros_0f7a4_40 rfl (cx_m8 _) (by decide) rfl ?_
      refine g_iload_n (pc := 43) (i := 0) (j := 1) C dJ6_numberOfLeadingZeros_0f7a4_43 rfl rfl ?_
      refine g_bipush (pc := 44) C dJ6_numberOfLeadingZeros_0f7a4_44 cb_8 ?_
      refine g_iushr (pc := 46) C dJ6_numberOfLeadingZeros_0f7a4_46 ?_
      refine g_istore_n (pc := 47) (i := 0) (L' := [(0, .int (jushr v0 (8 : Int32))), (1, .int (v1 + (-8 : Int32)))]) C dJ6_numberOfLeadingZeros_0f7a4_47 rfl (by decide) rfl ?_
      exact b48 (jushr v0 (8 : Int32)) (v1 + (-8 : Int32)) hf
  refine g_iload_n (pc := 0) (i := 0) (j := 0) C dJ6_numberOfLeadingZeros_0f7a4_0 rfl rfl ?_
  refine g_if_gt (pc := 1) (tgt := 15) C dJ6_numberOfLeadingZeros_0f7a4_1 rfl hf (fun _ hf => ?_) (fun _ hf => ?_)
  · refine g_bipush (pc := 15) C dJ6_numberOfLeadingZeros_0f7a4_15 cb_31 ?_
    refine g_istore_n (pc := 17) (i := 1) (L' := [(1, .int (31 : Int32)), (0, .int p1)]) C dJ6_numberOfLeadingZeros_0f7a4_17 rfl (by decide) rfl ?_
    refine g_iload_n (pc := 18) (i := 0) (j := 1) C dJ6_numberOfLeadingZeros_0f7a4_18 rfl rfl ?_
    refine g_ldcw (pc := 19) C cnJ6_264 dJ6_numberOfLeadingZeros_0f7a4_19 ?_
    refine g_icmp_lt (pc := 22) (tgt := 33) C dJ6_numberOfLeadingZeros_0f7a4_22 rfl hf (fun _ hf => ?_) (fun _ hf => ?_)
    · exact g_at [1, 0] rfl (b33 p1 (31 : Int32) hf)
    · refine g_iinc (pc := 25) (i := 1) (j := 0) (v := ((31 : Int32) + (-16 : Int32))) (L' := [(1, .int ((31 : Int32) + (-16 : Int32))), (0, .int p1)]) C dJ6_numberOfLeadingZeros_0f7a4_25 rfl (cx_m16 _) (by decide) rfl ?_
      refine g_iload_n (pc := 28) (i := 0) (j := 1) C dJ6_numberOfLeadingZeros_0f7a4_28 rfl rfl ?_
      refine g_bipush (pc := 29) C dJ6_numberOfLeadingZeros_0f7a4_29 cb_16 ?_
      refine g_iushr (pc := 31) C dJ6_numberOfLeadingZeros_0f7a4_31 ?_
      refine g_istore_n (pc := 32) (i := 0) (L' := [(0, .int (jushr p1 (16 : Int32))), (1, .int ((31 : Int32) + (-16 : Int32)))]) C dJ6_numberOfLeadingZeros_0f7a4_32 rfl (by decide) rfl ?_
      exact b33 (jushr p1 (16 : Int32)) ((31 : Int32) + (-16 : Int32)) hf
  · refine g_iload_n (pc := 4) (i := 0) (j := 0) C dJ6_numberOfLeadingZeros_0f7a4_4 rfl rfl ?_
    refine g_if_ne (pc := 5) (tgt := 13) C dJ6_numberOfLeadingZeros_0f7a4_5 rfl hf (fun _ hf => ?_) (fun _ hf => ?_)
    · refine g_iconst (pc := 13) C dJ6_numberOfLeadingZeros_0f7a4_13 ci_0 ?_
      exact g_iretp (pc := 14) C hQ dJ6_numberOfLeadingZeros_0f7a4_14 hf
    · refine g_bipush (pc := 8) C dJ6_numberOfLeadingZeros_0f7a4_8 cb_32 ?_
      refine g_goto (pc := 10) (tgt := 14) C dJ6_numberOfLeadingZeros_0f7a4_10 rfl ?_
      exact g_iretp (pc := 14) C hQ dJ6_numberOfLeadingZeros_0f7a4_14 hf
theorem dJ13_numberOfLeadingZeros_95d88_0 : decode cJ13_numberOfLeadingZeros_95d88 0 = .ok (.lload_n 0, 1) := by decide +kernel
theorem dJ13_numberOfLeadingZeros_95d88_1 : decode cJ13_numberOfLeadingZeros_95d88 1 = .ok (.bipush 32, 2) := by decide +kernel
theorem dJ13_numberOfLeadingZeros_95d88_3 : decode cJ13_numberOfLeadingZeros_95d88 3 = .ok (.lushr, 1) := by decide +kernel
theorem dJ13_numberOfLeadingZeros_95d88_4 : decode cJ13_numberOfLeadingZeros_95d88 4 = .ok (.l2i, 1) := by decide +kernel
theorem dJ13_numberOfLeadingZeros_95d88_5 : decode cJ13_numberOfLeadingZeros_95d88 5 = .ok (.istore_n 2, 1) := by decide +kernel
theorem dJ13_numberOfLeadingZeros_95d88_6 : decode cJ13_numberOfLeadingZeros_95d88 6 = .ok (.iload_n 2, 1) := by decide +kernel
theorem dJ13_numberOfLeadingZeros_95d88_7 : decode cJ13_numberOfLeadingZeros_95d88 7 = .ok (.ifCond .ne 14, 3) := by decide +kernel
theorem dJ13_numberOfLeadingZeros_95d88_10 : decode cJ13_numberOfLeadingZeros_95d88 10 = .ok (.bipush 32, 2) := by decide +kernel
theorem dJ13_numberOfLeadingZeros_95d88_12 : decode cJ13_numberOfLeadingZeros_95d88 12 = .ok (.lload_n 0, 1) := by decide +kernel
theorem dJ13_numberOfLeadingZeros_95d88_13 : decode cJ13_numberOfLeadingZeros_95d88 13 = .ok (.l2i, 1) := by decide +kernel
theorem dJ13_numberOfLeadingZeros_95d88_14 : decode cJ13_numberOfLeadingZeros_95d88 14 = .ok (.invokestatic 308, 3) := by decide +kernel
theorem dJ13_numberOfLeadingZeros_95d88_17 : decode cJ13_numberOfLeadingZeros_95d88 17 = .ok (.iadd, 1) := by decide +kernel
theorem dJ13_numberOfLeadingZeros_95d88_18 : decode cJ13_numberOfLeadingZeros_95d88 18 = .ok (.goto 7, 3) := by decide +kernel
theorem dJ13_numberOfLeadingZeros_95d88_21 : decode cJ13_numberOfLeadingZeros_95d88 21 = .ok (.iload_n 2, 1) := by decide +kernel
theorem dJ13_numberOfLeadingZeros_95d88_22 : decode cJ13_numberOfLeadingZeros_95d88 22 = .ok (.invokestatic 308, 3) := by decide +kernel
theorem dJ13_numberOfLeadingZeros_95d88_25 : decode cJ13_numberOfLeadingZeros_95d88 25 = .ok (.ireturn, 1) := by decide +kernel
def fJ13_numberOfLeadingZeros_95d88 (p1 : Int64) : Option Int32 := (if (Int64.toInt32 (jlushr p1 (32 : Int32))) = 0 then ((fJ6_numberOfLeadingZeros_0f7a4 (Int64.toInt32 p1)).bind fun r14 => some ((32 : Int32) + r14)) else ((fJ6_numberOfLeadingZeros_0f7a4 (Int64.toInt32 (jlushr p1 (32 : Int32)))).bind fun r22 => some r22))
set_option maxRecDepth 100000 in
set_option maxHeartbeats 4000000 in
theorem kJ13_numberOfLeadingZeros_95d88 (l : Launch) (p1 : Int64) (out : Int32) (hf : fJ13_numberOfLeadingZeros_95d88 p1 = some out) : Sq l yJ13_numberOfLeadingZeros_95d88 cJ13_numberOfLeadingZeros_95d88 3 (some .int) 1 [.long p1] (some (.int out)) := by
  refine Sq.of [(0, .long p1)] rfl (by decide +kernel) (Nat.le_of_ble_eq_true rfl) ?_
  intro κ hκ C hQ
  subst hκ
  replace C : Cf κ cJ13_numberOfLeadingZeros_95d88 3 RJ13 (some .int) 1 := C
  refine g_lload_n (pc := 0) (i := 0) (j := 0) C dJ13_numberOfLeadingZeros_95d88_0 rfl rfl ?_
  refine g_bipush (pc := 1) C dJ13_numberOfLeadingZeros_95d88_1 cb_32 ?_
  refine g_lushr (pc := 3) C dJ13_numberOfLeadingZeros_95d88_3 ?_
  refine g_l2i (pc := 4) C dJ13_numberOfLeadingZeros_95d88_4 ?_
  refine g_istore_n (pc := 5) (i := 2) (L' := [(2, .int (Int64.toInt32 (jlushr p1 (32 : Int32)))), (0, .long p1)]) C dJ13_numberOfLeadingZeros_95d88_5 rfl (by decide) rfl ?_
  refine g_iload_n (pc := 6) (i := 2) (j := 0) C dJ13_numberOfLeadingZeros_95d88_6 rfl rfl ?_
  refine g_if_ne (pc := 7) (tgt := 21) C dJ13_numberOfLeadingZeros_95d88_7 rfl hf (fun _ hf => ?_) (fun _ hf => ?_)
  · refine g_iload_n (pc := 21) (i := 2) (j := 0) C dJ13_numberOfLeadingZeros_95d88_21 rfl rfl ?_
    refine g_cpi (pc := 22) (st := []) C lkJ13_308 (As := [.int (Int64.toInt32 (jlushr p1 (32 : Int32)))]) rfl (fun out h => kJ6_numberOfLeadingZeros_0f7a4 (kl κ) (Int64.toInt32 (jlushr p1 (32 : Int32))) out h) (by decide) rfl (Nat.le_of_ble_eq_true rfl) dJ13_numberOfLeadingZeros_95d88_22 hf (fun r22 _ hf => ?_)
    exact g_iretp (pc := 25) C hQ dJ13_numberOfLeadingZeros_95d88_25 hf
  · refine g_bipush (pc := 10) C dJ13_numberOfLeadingZeros_95d88_10 cb_32 ?_
    refine g_lload_n (pc := 12) (i := 0) (j := 1) C dJ13_numberOfLeadingZeros_95d88_12 rfl rfl ?_
    refine g_l2i (pc := 13) C dJ13_numberOfLeadingZeros_95d88_13 ?_
    refine g_cpi (pc := 14) (st := [.int (32 : Int32)]) C lkJ13_308 (As := [.int (Int64.toInt32 p1)]) rfl (fun out h => kJ6_numberOfLeadingZeros_0f7a4 (kl κ) (Int64.toInt32 p1) out h) (by decide) rfl (Nat.le_of_ble_eq_true rfl) dJ13_numberOfLeadingZeros_95d88_14 hf (fun r14 _ hf => ?_)
    refine g_iadd (pc := 17) C dJ13_numberOfLeadingZeros_95d88_17 ?_
    refine g_goto (pc := 18) (tgt := 25) C dJ13_numberOfLeadingZeros_95d88_18 rfl ?_
    exact g_iretp (pc := 25) C hQ dJ13_numberOfLeadingZeros_95d88_25 hf
theorem dX0_before_0 : decode cX0_before 0 = .ok (.iload_n 0, 1) := by decide +kernel
theorem dX0_before_1 : decode cX0_before 1 = .ok (.ifCond .le 9, 3) := by decide +kernel
theorem dX0_before_4 : decode cX0_before 4 = .ok (.iload_n 0, 1) := by decide +kernel
theorem dX0_before_5 : decode cX0_before 5 = .ok (.iconst 1, 1) := by decide +kernel
theorem dX0_before_6 : decode cX0_before 6 = .ok (.isub, 1) := by decide +kernel
theorem dX0_before_7 : decode cX0_before 7 = .ok (.goto 5, 3) := by decide +kernel
theorem dX0_before_10 : decode cX0_before 10 = .ok (.bipush 13, 2) := by decide +kernel
theorem dX0_before_12 : decode cX0_before 12 = .ok (.ireturn, 1) := by decide +kernel
def fX0_before (p1 : Int32) : Option Int32 := (if p1 ≤ 0 then some (13 : Int32) else some (p1 - (1 : Int32)))
set_option maxRecDepth 100000 in
set_option maxHeartbeats 4000000 in
theorem kX0_before (l : Launch) (p1 : Int32) (out : Int32) (hf : fX0_before p1 = some out) : Sq l yX0_before cX0_before 1 (some .int) 0 [.int p1] (some (.int out)) := by
  refine Sq.of [(0, .int p1)] rfl (by decide +kernel) (Nat.le_of_ble_eq_true rfl) ?_
  intro κ hκ C hQ
  subst hκ
  replace C : Cf κ cX0_before 1 RX0 (some .int) 0 := C
  refine g_iload_n (pc := 0) (i := 0) (j := 0) C dX0_before_0 rfl rfl ?_
  refine g_if_le (pc := 1) (tgt := 10) C dX0_before_1 rfl hf (fun _ hf => ?_) (fun _ hf => ?_)
  · refine g_bipush (pc := 10) C dX0_before_10 cb_13 ?_
    exact g_iretp (pc := 12) C hQ dX0_before_12 hf
  · refine g_iload_n (pc := 4) (i := 0) (j := 0) C dX0_before_4 rfl rfl ?_
    refine g_iconst (pc := 5) C dX0_before_5 ci_1 ?_
    refine g_isub (pc := 6) C dX0_before_6 ?_
    refine g_goto (pc := 7) (tgt := 12) C dX0_before_7 rfl ?_
    exact g_iretp (pc := 12) C hQ dX0_before_12 hf
theorem dX2_signedDouble_0 : decode cX2_signedDouble 0 = .ok (.iload_n 0, 1) := by decide +kernel
theorem dX2_signedDouble_1 : decode cX2_signedDouble 1 = .ok (.ifCond .eq 11, 3) := by decide +kernel
theorem dX2_signedDouble_4 : decode cX2_signedDouble 4 = .ok (.lload_n 1, 1) := by decide +kernel
theorem dX2_signedDouble_5 : decode cX2_signedDouble 5 = .ok (.ldc2_w 72, 3) := by decide +kernel
theorem dX2_signedDouble_8 : decode cX2_signedDouble 8 = .ok (.lor, 1) := by decide +kernel
theorem dX2_signedDouble_9 : decode cX2_signedDouble 9 = .ok (.goto 4, 3) := by decide +kernel
theorem dX2_signedDouble_12 : decode cX2_signedDouble 12 = .ok (.lload_n 1, 1) := by decide +kernel
theorem dX2_signedDouble_13 : decode cX2_signedDouble 13 = .ok (.lreturn, 1) := by decide +kernel
def fX2_signedDouble (p1 : Int32) (p2 : Int64) : Option Int64 := (if p1 = 0 then some p2 else some (p2 ||| (-9223372036854775808 : Int64)))
set_option maxRecDepth 100000 in
set_option maxHeartbeats 4000000 in
theorem kX2_signedDouble (l : Launch) (p1 : Int32) (p2 : Int64) (out : Int64) (hf : fX2_signedDouble p1 p2 = some out) : Sq l yX2_signedDouble cX2_signedDouble 3 (some .long) 0 [.int p1, .long p2] (some (.long out)) := by
  refine Sq.of [(0, .int p1), (1, .long p2)] rfl (by decide +kernel) (Nat.le_of_ble_eq_true rfl) ?_
  intro κ hκ C hQ
  subst hκ
  replace C : Cf κ cX2_signedDouble 3 RX2 (some .long) 0 := C
  refine g_iload_n (pc := 0) (i := 0) (j := 0) C dX2_signedDouble_0 rfl rfl ?_
  refine g_if_eq (pc := 1) (tgt := 12) C dX2_signedDouble_1 rfl hf (fun _ hf => ?_) (fun _ hf => ?_)
  · refine g_lload_n (pc := 12) (i := 1) (j := 1) C dX2_signedDouble_12 rfl rfl ?_
    exact g_lretp (pc := 13) C hQ dX2_signedDouble_13 hf
  · refine g_lload_n (pc := 4) (i := 1) (j := 1) C dX2_signedDouble_4 rfl rfl ?_
    refine g_ldc2 (pc := 5) C cnX2_72 dX2_signedDouble_5 ?_
    refine g_lor (pc := 8) C dX2_signedDouble_8 ?_
    refine g_goto (pc := 9) (tgt := 13) C dX2_signedDouble_9 rfl ?_
    exact g_lretp (pc := 13) C hQ dX2_signedDouble_13 hf
theorem dX2_doubleOfFloat_0 : decode cX2_doubleOfFloat 0 = .ok (.lload_n 0, 1) := by decide +kernel
theorem dX2_doubleOfFloat_1 : decode cX2_doubleOfFloat 1 = .ok (.lconst 0, 1) := by decide +kernel
theorem dX2_doubleOfFloat_2 : decode cX2_doubleOfFloat 2 = .ok (.lcmp, 1) := by decide +kernel
theorem dX2_doubleOfFloat_3 : decode cX2_doubleOfFloat 3 = .ok (.ifCond .ne 5, 3) := by decide +kernel
theorem dX2_doubleOfFloat_6 : decode cX2_doubleOfFloat 6 = .ok (.lconst 0, 1) := by decide +kernel
theorem dX2_doubleOfFloat_7 : decode cX2_doubleOfFloat 7 = .ok (.lreturn, 1) := by decide +kernel
theorem dX2_doubleOfFloat_8 : decode cX2_doubleOfFloat 8 = .ok (.lload_n 0, 1) := by decide +kernel
theorem dX2_doubleOfFloat_9 : decode cX2_doubleOfFloat 9 = .ok (.bipush 23, 2) := by decide +kernel
theorem dX2_doubleOfFloat_11 : decode cX2_doubleOfFloat 11 = .ok (.lshr, 1) := by decide +kernel
theorem dX2_doubleOfFloat_12 : decode cX2_doubleOfFloat 12 = .ok (.ldc2_w 112, 3) := by decide +kernel
theorem dX2_doubleOfFloat_15 : decode cX2_doubleOfFloat 15 = .ok (.land, 1) := by decide +kernel
theorem dX2_doubleOfFloat_16 : decode cX2_doubleOfFloat 16 = .ok (.ldc2_w 114, 3) := by decide +kernel
theorem dX2_doubleOfFloat_19 : decode cX2_doubleOfFloat 19 = .ok (.ladd, 1) := by decide +kernel
theorem dX2_doubleOfFloat_20 : decode cX2_doubleOfFloat 20 = .ok (.lstore_n 2, 1) := by decide +kernel
theorem dX2_doubleOfFloat_21 : decode cX2_doubleOfFloat 21 = .ok (.lload_n 0, 1) := by decide +kernel
theorem dX2_doubleOfFloat_22 : decode cX2_doubleOfFloat 22 = .ok (.ldc2_w 116, 3) := by decide +kernel
theorem dX2_doubleOfFloat_25 : decode cX2_doubleOfFloat 25 = .ok (.land, 1) := by decide +kernel
theorem dX2_doubleOfFloat_26 : decode cX2_doubleOfFloat 26 = .ok (.lstore 4, 2) := by decide +kernel
theorem dX2_doubleOfFloat_28 : decode cX2_doubleOfFloat 28 = .ok (.lload_n 0, 1) := by decide +kernel
theorem dX2_doubleOfFloat_29 : decode cX2_doubleOfFloat 29 = .ok (.lconst 0, 1) := by decide +kernel
theorem dX2_doubleOfFloat_30 : decode cX2_doubleOfFloat 30 = .ok (.lcmp, 1) := by decide +kernel
theorem dX2_doubleOfFloat_31 : decode cX2_doubleOfFloat 31 = .ok (.ifCond .ge 7, 3) := by decide +kernel
theorem dX2_doubleOfFloat_34 : decode cX2_doubleOfFloat 34 = .ok (.iconst 1, 1) := by decide +kernel
theorem dX2_doubleOfFloat_35 : decode cX2_doubleOfFloat 35 = .ok (.goto 4, 3) := by decide +kernel
theorem dX2_doubleOfFloat_38 : decode cX2_doubleOfFloat 38 = .ok (.iconst 0, 1) := by decide +kernel
theorem dX2_doubleOfFloat_39 : decode cX2_doubleOfFloat 39 = .ok (.lload_n 2, 1) := by decide +kernel
theorem dX2_doubleOfFloat_40 : decode cX2_doubleOfFloat 40 = .ok (.bipush 52, 2) := by decide +kernel
theorem dX2_doubleOfFloat_42 : decode cX2_doubleOfFloat 42 = .ok (.lshl, 1) := by decide +kernel
theorem dX2_doubleOfFloat_43 : decode cX2_doubleOfFloat 43 = .ok (.lload 4, 2) := by decide +kernel
theorem dX2_doubleOfFloat_45 : decode cX2_doubleOfFloat 45 = .ok (.bipush 29, 2) := by decide +kernel
theorem dX2_doubleOfFloat_47 : decode cX2_doubleOfFloat 47 = .ok (.lshl, 1) := by decide +kernel
theorem dX2_doubleOfFloat_48 : decode cX2_doubleOfFloat 48 = .ok (.lor, 1) := by decide +kernel
theorem dX2_doubleOfFloat_49 : decode cX2_doubleOfFloat 49 = .ok (.invokestatic 101, 3) := by decide +kernel
theorem dX2_doubleOfFloat_52 : decode cX2_doubleOfFloat 52 = .ok (.lreturn, 1) := by decide +kernel
def fX2_doubleOfFloat_b39 (v2 : Int64) (v4 : Int64) (s0 : Int32) : Option Int64 := ((fX2_signedDouble s0 ((jlshl v2 (52 : Int32)) ||| (jlshl v4 (29 : Int32)))).bind fun r49 => some r49)
def fX2_doubleOfFloat (p1 : Int64) : Option Int64 := (if p1 = (0 : Int64) then some (0 : Int64) else (if (0 : Int64) ≤ p1 then fX2_doubleOfFloat_b39 (((jlshr p1 (23 : Int32)) &&& (255 : Int64)) + (896 : Int64)) (p1 &&& (8388607 : Int64)) (0 : Int32) else fX2_doubleOfFloat_b39 (((jlshr p1 (23 : Int32)) &&& (255 : Int64)) + (896 : Int64)) (p1 &&& (8388607 : Int64)) (1 : Int32)))
set_option maxRecDepth 100000 in
set_option maxHeartbeats 4000000 in
theorem kX2_doubleOfFloat (l : Launch) (p1 : Int64) (out : Int64) (hf : fX2_doubleOfFloat p1 = some out) : Sq l yX2_doubleOfFloat cX2_doubleOfFloat 6 (some .long) 1 [.long p1] (some (.long out)) := by
  refine Sq.of [(0, .long p1)] rfl (by decide +kernel) (Nat.le_of_ble_eq_true rfl) ?_
  intro κ hκ C hQ
  subst hκ
  replace C : Cf κ cX2_doubleOfFloat 6 RX2 (some .long) 1 := C
  have b39 : ∀ (v2 : Int64) (v4 : Int64) (s0 : Int32) , fX2_doubleOfFloat_b39 v2 v4 s0 = some out → G κ (Vp κ) 6 39 [(2, .long v2), (4, .long v4)] [.int s0] := by
    intro v2 v4 s0 hf
    refine g_lload_n (pc := 39) (i := 2) (j := 0) C dX2_doubleOfFloat_39 rfl rfl ?_
    refine g_bipush (pc := 40) C dX2_doubleOfFloat_40 cb_52 ?_
    refine g_lshl (pc := 42) C dX2_doubleOfFloat_42 ?_
    refine g_lload (pc := 43) (i := 4) (j := 1) C dX2_doubleOfFloat_43 rfl ?_
    refine g_bipush (pc := 45) C dX2_doubleOfFloat_45 cb_29 ?_
    refine g_lshl (pc := 47) C dX2_doubleOfFloat_47 ?_
    refine g_lor (pc := 48) C dX2_doubleOfFloat_48 ?_
    refine g_cpl (pc := 49) (st := []) C lkX2_101 (As := [.int s0, .long ((jlshl v2 (52 : Int32)) ||| (jlshl v4 (29 : Int32)))]) rfl (fun out h => kX2_signedDouble (kl κ) s0 ((jlshl v2 (52 : Int32)) ||| (jlshl v4 (29 : Int32))) out h) (by decide) rfl (Nat.le_of_ble_eq_true rfl) dX2_doubleOfFloat_49 hf (fun r49 _ hf => ?_)
    exact g_lretp (pc := 52) C hQ dX2_doubleOfFloat_52 hf
  refine g_lload_n (pc := 0) (i := 0) (j := 0) C dX2_doubleOfFloat_0 rfl rfl ?_
  refine g_lconst (pc := 1) C dX2_doubleOfFloat_1 cl_0 ?_
  refine g_lcmp_ne (pc := 2) (tgt := 8) C dX2_doubleOfFloat_2 dX2_doubleOfFloat_3 rfl hf (fun _ hf => ?_) (fun _ hf => ?_)
  · refine g_lload_n (pc := 8) (i := 0) (j := 0) C dX2_doubleOfFloat_8 rfl rfl ?_
    refine g_bipush (pc := 9) C dX2_doubleOfFloat_9 cb_23 ?_
    refine g_lshr (pc := 11) C dX2_doubleOfFloat_11 ?_
    refine g_ldc2 (pc := 12) C cnX2_112 dX2_doubleOfFloat_12 ?_
    refine g_land (pc := 15) C dX2_doubleOfFloat_15 ?_
    refine g_ldc2 (pc := 16) C cnX2_114 dX2_doubleOfFloat_16 ?_
    refine g_ladd (pc := 19) C dX2_doubleOfFloat_19 ?_
    refine g_lstore_n (pc := 20) (i := 2) (L' := [(2, .long (((jlshr p1 (23 : Int32)) &&& (255 : Int64)) + (896 : Int64))), (0, .long p1)]) C dX2_doubleOfFloat_20 rfl (by decide) rfl ?_
    refine g_lload_n (pc := 21) (i := 0) (j := 1) C dX2_doubleOfFloat_21 rfl rfl ?_
    refine g_ldc2 (pc := 22) C cnX2_116 dX2_doubleOfFloat_22 ?_
    refine g_land (pc := 25) C dX2_doubleOfFloat_25 ?_
    refine g_lstore (pc := 26) (i := 4) (L' := [(4, .long (p1 &&& (8388607 : Int64))), (2, .long (((jlshr p1 (23 : Int32)) &&& (255 : Int64)) + (896 : Int64))), (0, .long p1)]) C dX2_doubleOfFloat_26 (by decide) rfl ?_
    refine g_lload_n (pc := 28) (i := 0) (j := 2) C dX2_doubleOfFloat_28 rfl rfl ?_
    refine g_lconst (pc := 29) C dX2_doubleOfFloat_29 cl_0 ?_
    refine g_lcmp_ge (pc := 30) (tgt := 38) C dX2_doubleOfFloat_30 dX2_doubleOfFloat_31 rfl hf (fun _ hf => ?_) (fun _ hf => ?_)
    · refine g_iconst (pc := 38) C dX2_doubleOfFloat_38 ci_0 ?_
      exact g_at [1, 0] rfl (b39 (((jlshr p1 (23 : Int32)) &&& (255 : Int64)) + (896 : Int64)) (p1 &&& (8388607 : Int64)) (0 : Int32) hf)
    · refine g_iconst (pc := 34) C dX2_doubleOfFloat_34 ci_1 ?_
      refine g_goto (pc := 35) (tgt := 39) C dX2_doubleOfFloat_35 rfl ?_
      exact g_at [1, 0] rfl (b39 (((jlshr p1 (23 : Int32)) &&& (255 : Int64)) + (896 : Int64)) (p1 &&& (8388607 : Int64)) (1 : Int32) hf)
  · refine g_lconst (pc := 6) C dX2_doubleOfFloat_6 cl_0 ?_
    exact g_lretp (pc := 7) C hQ dX2_doubleOfFloat_7 hf
theorem dX2_asDouble_0 : decode cX2_asDouble 0 = .ok (.iload_n 2, 1) := by decide +kernel
theorem dX2_asDouble_1 : decode cX2_asDouble 1 = .ok (.bipush 6, 2) := by decide +kernel
theorem dX2_asDouble_3 : decode cX2_asDouble 3 = .ok (.if_icmp .ne 10, 3) := by decide +kernel
theorem dX2_asDouble_6 : decode cX2_asDouble 6 = .ok (.lload_n 0, 1) := by decide +kernel
theorem dX2_asDouble_7 : decode cX2_asDouble 7 = .ok (.invokestatic 34, 3) := by decide +kernel
theorem dX2_asDouble_10 : decode cX2_asDouble 10 = .ok (.goto 4, 3) := by decide +kernel
theorem dX2_asDouble_13 : decode cX2_asDouble 13 = .ok (.lload_n 0, 1) := by decide +kernel
theorem dX2_asDouble_14 : decode cX2_asDouble 14 = .ok (.lreturn, 1) := by decide +kernel
def fX2_asDouble (p1 : Int64) (p2 : Int32) : Option Int64 := (if p2 = (6 : Int32) then ((fX2_doubleOfFloat p1).bind fun r7 => some r7) else some p1)
set_option maxRecDepth 100000 in
set_option maxHeartbeats 4000000 in
theorem kX2_asDouble (l : Launch) (p1 : Int64) (p2 : Int32) (out : Int64) (hf : fX2_asDouble p1 p2 = some out) : Sq l yX2_asDouble cX2_asDouble 3 (some .long) 2 [.long p1, .int p2] (some (.long out)) := by
  refine Sq.of [(0, .long p1), (2, .int p2)] rfl (by decide +kernel) (Nat.le_of_ble_eq_true rfl) ?_
  intro κ hκ C hQ
  subst hκ
  replace C : Cf κ cX2_asDouble 3 RX2 (some .long) 2 := C
  refine g_iload_n (pc := 0) (i := 2) (j := 1) C dX2_asDouble_0 rfl rfl ?_
  refine g_bipush (pc := 1) C dX2_asDouble_1 cb_6 ?_
  refine g_icmp_ne (pc := 3) (tgt := 13) C dX2_asDouble_3 rfl hf (fun _ hf => ?_) (fun _ hf => ?_)
  · refine g_lload_n (pc := 13) (i := 0) (j := 0) C dX2_asDouble_13 rfl rfl ?_
    exact g_lretp (pc := 14) C hQ dX2_asDouble_14 hf
  · refine g_lload_n (pc := 6) (i := 0) (j := 0) C dX2_asDouble_6 rfl rfl ?_
    refine g_cpl (pc := 7) (st := []) C lkX2_34 (As := [.long p1]) rfl (fun out h => kX2_doubleOfFloat (kl κ) p1 out h) (by decide) rfl (Nat.le_of_ble_eq_true rfl) dX2_asDouble_7 hf (fun r7 _ hf => ?_)
    refine g_goto (pc := 10) (tgt := 14) C dX2_asDouble_10 rfl ?_
    exact g_lretp (pc := 14) C hQ dX2_asDouble_14 hf
theorem dX2_widens_0 : decode cX2_widens 0 = .ok (.iload_n 0, 1) := by decide +kernel
theorem dX2_widens_1 : decode cX2_widens 1 = .ok (.iload_n 1, 1) := by decide +kernel
theorem dX2_widens_2 : decode cX2_widens 2 = .ok (.if_icmp .ne 5, 3) := by decide +kernel
theorem dX2_widens_5 : decode cX2_widens 5 = .ok (.iconst 1, 1) := by decide +kernel
theorem dX2_widens_6 : decode cX2_widens 6 = .ok (.ireturn, 1) := by decide +kernel
theorem dX2_widens_7 : decode cX2_widens 7 = .ok (.iload_n 0, 1) := by decide +kernel
theorem dX2_widens_8 : decode cX2_widens 8 = .ok (.ifCond .eq 27, 3) := by decide +kernel
theorem dX2_widens_11 : decode cX2_widens 11 = .ok (.iload_n 0, 1) := by decide +kernel
theorem dX2_widens_12 : decode cX2_widens 12 = .ok (.iload_n 1, 1) := by decide +kernel
theorem dX2_widens_13 : decode cX2_widens 13 = .ok (.if_icmp .ge 22, 3) := by decide +kernel
theorem dX2_widens_16 : decode cX2_widens 16 = .ok (.iload_n 1, 1) := by decide +kernel
theorem dX2_widens_17 : decode cX2_widens 17 = .ok (.iconst 2, 1) := by decide +kernel
theorem dX2_widens_18 : decode cX2_widens 18 = .ok (.if_icmp .eq 17, 3) := by decide +kernel
theorem dX2_widens_21 : decode cX2_widens 21 = .ok (.iload_n 0, 1) := by decide +kernel
theorem dX2_widens_22 : decode cX2_widens 22 = .ok (.iconst 2, 1) := by decide +kernel
theorem dX2_widens_23 : decode cX2_widens 23 = .ok (.if_icmp .ne 8, 3) := by decide +kernel
theorem dX2_widens_26 : decode cX2_widens 26 = .ok (.iload_n 1, 1) := by decide +kernel
theorem dX2_widens_27 : decode cX2_widens 27 = .ok (.iconst 3, 1) := by decide +kernel
theorem dX2_widens_28 : decode cX2_widens 28 = .ok (.if_icmp .eq 7, 3) := by decide +kernel
theorem dX2_widens_31 : decode cX2_widens 31 = .ok (.iconst 1, 1) := by decide +kernel
theorem dX2_widens_32 : decode cX2_widens 32 = .ok (.goto 4, 3) := by decide +kernel
theorem dX2_widens_35 : decode cX2_widens 35 = .ok (.iconst 0, 1) := by decide +kernel
theorem dX2_widens_36 : decode cX2_widens 36 = .ok (.ireturn, 1) := by decide +kernel
def fX2_widens (p1 : Int32) (p2 : Int32) : Option Int32 := (if p1 = p2 then some (1 : Int32) else (if p1 = 0 then some (0 : Int32) else (if p2 ≤ p1 then some (0 : Int32) else (if p2 = (2 : Int32) then some (0 : Int32) else (if p1 = (2 : Int32) then (if p2 = (3 : Int32) then some (0 : Int32) else some (1 : Int32)) else some (1 : Int32))))))
set_option maxRecDepth 100000 in
set_option maxHeartbeats 4000000 in
theorem kX2_widens (l : Launch) (p1 : Int32) (p2 : Int32) (out : Int32) (hf : fX2_widens p1 p2 = some out) : Sq l yX2_widens cX2_widens 2 (some .boolean) 0 [.int p1, .int p2] (some (.int out)) := by
  refine Sq.of [(0, .int p1), (1, .int p2)] rfl (by decide +kernel) (Nat.le_of_ble_eq_true rfl) ?_
  intro κ hκ C hQ
  subst hκ
  replace C : Cf κ cX2_widens 2 RX2 (some .boolean) 0 := C
  refine g_iload_n (pc := 0) (i := 0) (j := 0) C dX2_widens_0 rfl rfl ?_
  refine g_iload_n (pc := 1) (i := 1) (j := 1) C dX2_widens_1 rfl rfl ?_
  refine g_icmp_ne (pc := 2) (tgt := 7) C dX2_widens_2 rfl hf (fun _ hf => ?_) (fun _ hf => ?_)
  · refine g_iload_n (pc := 7) (i := 0) (j := 0) C dX2_widens_7 rfl rfl ?_
    refine g_if_eq (pc := 8) (tgt := 35) C dX2_widens_8 rfl hf (fun _ hf => ?_) (fun _ hf => ?_)
    · refine g_iconst (pc := 35) C dX2_widens_35 ci_0 ?_
      exact g_zret1p (pc := 36) C rfl hQ dX2_widens_36 hf
    · refine g_iload_n (pc := 11) (i := 0) (j := 0) C dX2_widens_11 rfl rfl ?_
      refine g_iload_n (pc := 12) (i := 1) (j := 1) C dX2_widens_12 rfl rfl ?_
      refine g_icmp_ge (pc := 13) (tgt := 35) C dX2_widens_13 rfl hf (fun _ hf => ?_) (fun _ hf => ?_)
      · refine g_iconst (pc := 35) C dX2_widens_35 ci_0 ?_
        exact g_zret1p (pc := 36) C rfl hQ dX2_widens_36 hf
      · refine g_iload_n (pc := 16) (i := 1) (j := 1) C dX2_widens_16 rfl rfl ?_
        refine g_iconst (pc := 17) C dX2_widens_17 ci_2 ?_
        refine g_icmp_eq (pc := 18) (tgt := 35) C dX2_widens_18 rfl hf (fun _ hf => ?_) (fun _ hf => ?_)
        · refine g_iconst (pc := 35) C dX2_widens_35 ci_0 ?_
          exact g_zret1p (pc := 36) C rfl hQ dX2_widens_36 hf
        · refine g_iload_n (pc := 21) (i := 0) (j := 0) C dX2_widens_21 rfl rfl ?_
          refine g_iconst (pc := 22) C dX2_widens_22 ci_2 ?_
          refine g_icmp_ne (pc := 23) (tgt := 31) C dX2_widens_23 rfl hf (fun _ hf => ?_) (fun _ hf => ?_)
          · refine g_iconst (pc := 31) C dX2_widens_31 ci_1 ?_
            refine g_goto (pc := 32) (tgt := 36) C dX2_widens_32 rfl ?_
            exact g_zret1p (pc := 36) C rfl hQ dX2_widens_36 hf
          · refine g_iload_n (pc := 26) (i := 1) (j := 1) C dX2_widens_26 rfl rfl ?_
            refine g_iconst (pc := 27) C dX2_widens_27 ci_3 ?_
            refine g_icmp_eq (pc := 28) (tgt := 35) C dX2_widens_28 rfl hf (fun _ hf => ?_) (fun _ hf => ?_)
            · refine g_iconst (pc := 35) C dX2_widens_35 ci_0 ?_
              exact g_zret1p (pc := 36) C rfl hQ dX2_widens_36 hf
            · refine g_iconst (pc := 31) C dX2_widens_31 ci_1 ?_
              refine g_goto (pc := 32) (tgt := 36) C dX2_widens_32 rfl ?_
              exact g_zret1p (pc := 36) C rfl hQ dX2_widens_36 hf
  · refine g_iconst (pc := 5) C dX2_widens_5 ci_1 ?_
    exact g_zret1p (pc := 6) C rfl hQ dX2_widens_6 hf
theorem dX2_countChains_0 : decode cX2_countChains 0 = .ok (.iload_n 0, 1) := by decide +kernel
theorem dX2_countChains_1 : decode cX2_countChains 1 = .ok (.iload_n 1, 1) := by decide +kernel
theorem dX2_countChains_2 : decode cX2_countChains 2 = .ok (.if_icmp .ne 5, 3) := by decide +kernel
theorem dX2_countChains_5 : decode cX2_countChains 5 = .ok (.iconst 1, 1) := by decide +kernel
theorem dX2_countChains_6 : decode cX2_countChains 6 = .ok (.ireturn, 1) := by decide +kernel
theorem dX2_countChains_7 : decode cX2_countChains 7 = .ok (.iconst 0, 1) := by decide +kernel
theorem dX2_countChains_8 : decode cX2_countChains 8 = .ok (.istore_n 3, 1) := by decide +kernel
theorem dX2_countChains_9 : decode cX2_countChains 9 = .ok (.iload_n 0, 1) := by decide +kernel
theorem dX2_countChains_10 : decode cX2_countChains 10 = .ok (.iconst 1, 1) := by decide +kernel
theorem dX2_countChains_11 : decode cX2_countChains 11 = .ok (.iadd, 1) := by decide +kernel
theorem dX2_countChains_12 : decode cX2_countChains 12 = .ok (.istore 4, 2) := by decide +kernel
theorem dX2_countChains_14 : decode cX2_countChains 14 = .ok (.iload 4, 2) := by decide +kernel
theorem dX2_countChains_16 : decode cX2_countChains 16 = .ok (.iload_n 1, 1) := by decide +kernel
theorem dX2_countChains_17 : decode cX2_countChains 17 = .ok (.if_icmp .gt 36, 3) := by decide +kernel
theorem dX2_countChains_20 : decode cX2_countChains 20 = .ok (.iload_n 2, 1) := by decide +kernel
theorem dX2_countChains_21 : decode cX2_countChains 21 = .ok (.bipush 8, 2) := by decide +kernel
theorem dX2_countChains_23 : decode cX2_countChains 23 = .ok (.if_icmp .ge 30, 3) := by decide +kernel
theorem dX2_countChains_26 : decode cX2_countChains 26 = .ok (.iload_n 0, 1) := by decide +kernel
theorem dX2_countChains_27 : decode cX2_countChains 27 = .ok (.iload 4, 2) := by decide +kernel
theorem dX2_countChains_29 : decode cX2_countChains 29 = .ok (.invokestatic 11, 3) := by decide +kernel
theorem dX2_countChains_32 : decode cX2_countChains 32 = .ok (.ifCond .eq 15, 3) := by decide +kernel
theorem dX2_countChains_35 : decode cX2_countChains 35 = .ok (.iload_n 3, 1) := by decide +kernel
theorem dX2_countChains_36 : decode cX2_countChains 36 = .ok (.iload 4, 2) := by decide +kernel
theorem dX2_countChains_38 : decode cX2_countChains 38 = .ok (.iload_n 1, 1) := by decide +kernel
theorem dX2_countChains_39 : decode cX2_countChains 39 = .ok (.iload_n 2, 1) := by decide +kernel
theorem dX2_countChains_40 : decode cX2_countChains 40 = .ok (.iconst 1, 1) := by decide +kernel
theorem dX2_countChains_41 : decode cX2_countChains 41 = .ok (.iadd, 1) := by decide +kernel
theorem dX2_countChains_42 : decode cX2_countChains 42 = .ok (.invokestatic 22, 3) := by decide +kernel
theorem dX2_countChains_45 : decode cX2_countChains 45 = .ok (.iadd, 1) := by decide +kernel
theorem dX2_countChains_46 : decode cX2_countChains 46 = .ok (.istore_n 3, 1) := by decide +kernel
theorem dX2_countChains_47 : decode cX2_countChains 47 = .ok (.iinc 4 1, 3) := by decide +kernel
theorem dX2_countChains_50 : decode cX2_countChains 50 = .ok (.goto (-36), 3) := by decide +kernel
theorem dX2_countChains_53 : decode cX2_countChains 53 = .ok (.iload_n 3, 1) := by decide +kernel
theorem dX2_countChains_54 : decode cX2_countChains 54 = .ok (.ireturn, 1) := by decide +kernel
def fX2_countChains_b47 (rec : Int32 → Int32 → Int32 → Option Int32) (k14 : Int32 → Int32 → Int32 → Int32 → Int32 → Option Int32) (v0 : Int32) (v1 : Int32) (v2 : Int32) (v3 : Int32) (v4 : Int32) : Option Int32 := k14 v0 v1 v2 v3 (v4 + (1 : Int32))
def fX2_countChains_b14 (rec : Int32 → Int32 → Int32 → Option Int32) : Nat → Int32 → Int32 → Int32 → Int32 → Int32 → Option Int32
  | 0, _, _, _, _, _ => none
  | n + 1, v0, v1, v2, v3, v4 => (if v1 < v4 then some v3 else (if (8 : Int32) ≤ v2 then some v3 else ((fX2_widens v0 v4).bind fun r29 => (if r29 = 0 then fX2_countChains_b47 rec (fX2_countChains_b14 rec n) v0 v1 v2 v3 v4 else ((rec v4 v1 (v2 + (1 : Int32))).bind fun r42 => fX2_countChains_b47 rec (fX2_countChains_b14 rec n) v0 v1 v2 (v3 + r42) v4)))))
def fX2_countChains : Nat → Int32 → Int32 → Int32 → Option Int32
  | 0, _, _, _ => none
  | n + 1, p1, p2, p3 => (if p1 = p2 then some (1 : Int32) else fX2_countChains_b14 (fX2_countChains n) 100 p1 p2 p3 (0 : Int32) (p1 + (1 : Int32)))
set_option maxRecDepth 100000 in
set_option maxHeartbeats 4000000 in
theorem kX2_countChains (l : Launch) : ∀ (n : Nat) (p1 : Int32) (p2 : Int32) (p3 : Int32) (out : Int32) (hf : fX2_countChains n p1 p2 p3 = some out), Sq l yX2_countChains cX2_countChains 5 (some .int) n [.int p1, .int p2, .int p3] (some (.int out)) := by
  intro n
  induction n with
  | zero => intro p1 p2 p3 out hf; exact none_ne hf
  | succ n ihn =>
    intro p1 p2 p3 out hf
    refine Sq.of [(0, .int p1), (1, .int p2), (2, .int p3)] rfl (by decide +kernel) (Nat.le_of_ble_eq_true rfl) ?_
    intro κ hκ C hQ
    subst hκ
    replace C : Cf κ cX2_countChains 5 RX2 (some .int) (n + 1) := C
    have hdd : n + 1 ≤ n + 1 := Nat.le_refl _
    have b47 : ∀ (rec : Int32 → Int32 → Int32 → Option Int32) (hrec : ∀ (p1 : Int32) (p2 : Int32) (p3 : Int32) (out : Int32), rec p1 p2 p3 = some out → Sq (kl κ) yX2_countChains cX2_countChains 5 (some .int) n [.int p1, .int p2, .int p3] (some (.int out))) (k14 : Int32 → Int32 → Int32 → Int32 → Int32 → Option Int32) (hk14 : ∀ (v0 : Int32) (v1 : Int32) (v2 : Int32) (v3 : Int32) (v4 : Int32) , k14 v0 v1 v2 v3 v4 = some out → G κ (Vp κ) 5 14 [(0, .int v0), (1, .int v1), (2, .int v2), (3, .int v3), (4, .int v4)] []) (v0 : Int32) (v1 : Int32) (v2 : Int32) (v3 : Int32) (v4 : Int32) , fX2_countChains_b47 rec k14 v0 v1 v2 v3 v4 = some out → G κ (Vp κ) 5 47 [(0, .int v0), (1, .int v1), (2, .int v2), (3, .int v3), (4, .int v4)] [] := by
      intro rec hrec k14 hk14 v0 v1 v2 v3 v4 hf
      refine g_iinc (pc := 47) (i := 4) (j := 4) (v := (v4 + (1 : Int32))) (L' := [(4, .int (v4 + (1 : Int32))), (0, .int v0), (1, .int v1), (2, .int v2), (3, .int v3)]) C dX2_countChains_47 rfl (cx_1 _) (by decide) rfl ?_
      refine g_goto (pc := 50) (tgt := 14) C dX2_countChains_50 rfl ?_
      exact g_at [1, 2, 3, 4, 0] rfl (hk14 v0 v1 v2 v3 (v4 + (1 : Int32)) hf)
    have b14 : ∀ (rec : Int32 → Int32 → Int32 → Option Int32) (hrec : ∀ (p1 : Int32) (p2 : Int32) (p3 : Int32) (out : Int32), rec p1 p2 p3 = some out → Sq (kl κ) yX2_countChains cX2_countChains 5 (some .int) n [.int p1, .int p2, .int p3] (some (.int out))) (n : Nat) (v0 : Int32) (v1 : Int32) (v2 : Int32) (v3 : Int32) (v4 : Int32) , fX2_countChains_b14 rec n v0 v1 v2 v3 v4 = some out → G κ (Vp κ) 5 14 [(0, .int v0), (1, .int v1), (2, .int v2), (3, .int v3), (4, .int v4)] [] := by
      intro rec hrec n
      induction n with
      | zero => intro v0 v1 v2 v3 v4 hf; exact none_ne hf
      | succ n ih =>
        intro v0 v1 v2 v3 v4 hf
        refine g_iload (pc := 14) (i := 4) (j := 4) C dX2_countChains_14 rfl ?_
        refine g_iload_n (pc := 16) (i := 1) (j := 1) C dX2_countChains_16 rfl rfl ?_
        refine g_icmp_gt (pc := 17) (tgt := 53) C dX2_countChains_17 rfl hf (fun _ hf => ?_) (fun _ hf => ?_)
        · refine g_iload_n (pc := 53) (i := 3) (j := 3) C dX2_countChains_53 rfl rfl ?_
          exact g_iretp (pc := 54) C hQ dX2_countChains_54 hf
        · refine g_iload_n (pc := 20) (i := 2) (j := 2) C dX2_countChains_20 rfl rfl ?_
          refine g_bipush (pc := 21) C dX2_countChains_21 cb_8 ?_
          refine g_icmp_ge (pc := 23) (tgt := 53) C dX2_countChains_23 rfl hf (fun _ hf => ?_) (fun _ hf => ?_)
          · refine g_iload_n (pc := 53) (i := 3) (j := 3) C dX2_countChains_53 rfl rfl ?_
            exact g_iretp (pc := 54) C hQ dX2_countChains_54 hf
          · refine g_iload_n (pc := 26) (i := 0) (j := 0) C dX2_countChains_26 rfl rfl ?_
            refine g_iload (pc := 27) (i := 4) (j := 4) C dX2_countChains_27 rfl ?_
            refine g_cpi (pc := 29) (st := []) C lkX2_11 (As := [.int v0, .int v4]) rfl (fun out h => kX2_widens (kl κ) v0 v4 out h) (by omega) rfl (Nat.le_of_ble_eq_true rfl) dX2_countChains_29 hf (fun r29 _ hf => ?_)
            refine g_if_eq (pc := 32) (tgt := 47) C dX2_countChains_32 rfl hf (fun _ hf => ?_) (fun _ hf => ?_)
            · exact b47 rec hrec (fX2_countChains_b14 rec n) ih v0 v1 v2 v3 v4 hf
            · refine g_iload_n (pc := 35) (i := 3) (j := 3) C dX2_countChains_35 rfl rfl ?_
              refine g_iload (pc := 36) (i := 4) (j := 4) C dX2_countChains_36 rfl ?_
              refine g_iload_n (pc := 38) (i := 1) (j := 1) C dX2_countChains_38 rfl rfl ?_
              refine g_iload_n (pc := 39) (i := 2) (j := 2) C dX2_countChains_39 rfl rfl ?_
              refine g_iconst (pc := 40) C dX2_countChains_40 ci_1 ?_
              refine g_iadd (pc := 41) C dX2_countChains_41 ?_
              refine g_cpi (pc := 42) (st := [.int v3]) C lkX2_22 (As := [.int v4, .int v1, .int (v2 + (1 : Int32))]) rfl (fun out h => hrec v4 v1 (v2 + (1 : Int32)) out h) hdd rfl (Nat.le_of_ble_eq_true rfl) dX2_countChains_42 hf (fun r42 _ hf => ?_)
              refine g_iadd (pc := 45) C dX2_countChains_45 ?_
              refine g_istore_n (pc := 46) (i := 3) (L' := [(3, .int (v3 + r42)), (0, .int v0), (1, .int v1), (2, .int v2), (4, .int v4)]) C dX2_countChains_46 rfl (by decide) rfl ?_
              exact g_at [1, 2, 3, 0, 4] rfl (b47 rec hrec (fX2_countChains_b14 rec n) ih v0 v1 v2 (v3 + r42) v4 hf)
    have hrec : ∀ (p1 : Int32) (p2 : Int32) (p3 : Int32) (out : Int32), fX2_countChains n p1 p2 p3 = some out → Sq (kl κ) yX2_countChains cX2_countChains 5 (some .int) n [.int p1, .int p2, .int p3] (some (.int out)) := fun p1 p2 p3 out h => ihn p1 p2 p3 out h
    refine g_iload_n (pc := 0) (i := 0) (j := 0) C dX2_countChains_0 rfl rfl ?_
    refine g_iload_n (pc := 1) (i := 1) (j := 1) C dX2_countChains_1 rfl rfl ?_
    refine g_icmp_ne (pc := 2) (tgt := 7) C dX2_countChains_2 rfl hf (fun _ hf => ?_) (fun _ hf => ?_)
    · refine g_iconst (pc := 7) C dX2_countChains_7 ci_0 ?_
      refine g_istore_n (pc := 8) (i := 3) (L' := [(3, .int (0 : Int32)), (0, .int p1), (1, .int p2), (2, .int p3)]) C dX2_countChains_8 rfl (by decide) rfl ?_
      refine g_iload_n (pc := 9) (i := 0) (j := 1) C dX2_countChains_9 rfl rfl ?_
      refine g_iconst (pc := 10) C dX2_countChains_10 ci_1 ?_
      refine g_iadd (pc := 11) C dX2_countChains_11 ?_
      refine g_istore (pc := 12) (i := 4) (L' := [(4, .int (p1 + (1 : Int32))), (3, .int (0 : Int32)), (0, .int p1), (1, .int p2), (2, .int p3)]) C dX2_countChains_12 (by decide) rfl ?_
      exact g_at [2, 3, 4, 1, 0] rfl (b14 (fX2_countChains n) hrec 100 p1 p2 p3 (0 : Int32) (p1 + (1 : Int32)) hf)
    · refine g_iconst (pc := 5) C dX2_countChains_5 ci_1 ?_
      exact g_iretp (pc := 6) C hQ dX2_countChains_6 hf
theorem dX2_rounded_0 : decode cX2_rounded 0 = .ok (.lload_n 0, 1) := by decide +kernel
theorem dX2_rounded_1 : decode cX2_rounded 1 = .ok (.lconst 0, 1) := by decide +kernel
theorem dX2_rounded_2 : decode cX2_rounded 2 = .ok (.lcmp, 1) := by decide +kernel
theorem dX2_rounded_3 : decode cX2_rounded 3 = .ok (.ifCond .ne 5, 3) := by decide +kernel
theorem dX2_rounded_6 : decode cX2_rounded 6 = .ok (.lconst 0, 1) := by decide +kernel
theorem dX2_rounded_7 : decode cX2_rounded 7 = .ok (.lreturn, 1) := by decide +kernel
theorem dX2_rounded_8 : decode cX2_rounded 8 = .ok (.lload_n 0, 1) := by decide +kernel
theorem dX2_rounded_9 : decode cX2_rounded 9 = .ok (.lconst 0, 1) := by decide +kernel
theorem dX2_rounded_10 : decode cX2_rounded 10 = .ok (.lcmp, 1) := by decide +kernel
theorem dX2_rounded_11 : decode cX2_rounded 11 = .ok (.ifCond .ge 8, 3) := by decide +kernel
theorem dX2_rounded_14 : decode cX2_rounded 14 = .ok (.lload_n 0, 1) := by decide +kernel
theorem dX2_rounded_15 : decode cX2_rounded 15 = .ok (.lneg, 1) := by decide +kernel
theorem dX2_rounded_16 : decode cX2_rounded 16 = .ok (.goto 4, 3) := by decide +kernel
theorem dX2_rounded_19 : decode cX2_rounded 19 = .ok (.lload_n 0, 1) := by decide +kernel
theorem dX2_rounded_20 : decode cX2_rounded 20 = .ok (.lstore 5, 2) := by decide +kernel
theorem dX2_rounded_22 : decode cX2_rounded 22 = .ok (.bipush 63, 2) := by decide +kernel
theorem dX2_rounded_24 : decode cX2_rounded 24 = .ok (.lload 5, 2) := by decide +kernel
theorem dX2_rounded_26 : decode cX2_rounded 26 = .ok (.invokestatic 106, 3) := by decide +kernel
theorem dX2_rounded_29 : decode cX2_rounded 29 = .ok (.isub, 1) := by decide +kernel
theorem dX2_rounded_30 : decode cX2_rounded 30 = .ok (.istore 7, 2) := by decide +kernel
theorem dX2_rounded_32 : decode cX2_rounded 32 = .ok (.iload 7, 2) := by decide +kernel
theorem dX2_rounded_34 : decode cX2_rounded 34 = .ok (.iload_n 3, 1) := by decide +kernel
theorem dX2_rounded_35 : decode cX2_rounded 35 = .ok (.isub, 1) := by decide +kernel
theorem dX2_rounded_36 : decode cX2_rounded 36 = .ok (.istore 8, 2) := by decide +kernel
theorem dX2_rounded_38 : decode cX2_rounded 38 = .ok (.iload 8, 2) := by decide +kernel
theorem dX2_rounded_40 : decode cX2_rounded 40 = .ok (.ifCond .gt 14, 3) := by decide +kernel
theorem dX2_rounded_43 : decode cX2_rounded 43 = .ok (.lload 5, 2) := by decide +kernel
theorem dX2_rounded_45 : decode cX2_rounded 45 = .ok (.iload 8, 2) := by decide +kernel
theorem dX2_rounded_47 : decode cX2_rounded 47 = .ok (.ineg, 1) := by decide +kernel
theorem dX2_rounded_48 : decode cX2_rounded 48 = .ok (.lshl, 1) := by decide +kernel
theorem dX2_rounded_49 : decode cX2_rounded 49 = .ok (.lstore 9, 2) := by decide +kernel
theorem dX2_rounded_51 : decode cX2_rounded 51 = .ok (.goto 60, 3) := by decide +kernel
theorem dX2_rounded_54 : decode cX2_rounded 54 = .ok (.lload 5, 2) := by decide +kernel
theorem dX2_rounded_56 : decode cX2_rounded 56 = .ok (.iload 8, 2) := by decide +kernel
theorem dX2_rounded_58 : decode cX2_rounded 58 = .ok (.lushr, 1) := by decide +kernel
theorem dX2_rounded_59 : decode cX2_rounded 59 = .ok (.lstore 9, 2) := by decide +kernel
theorem dX2_rounded_61 : decode cX2_rounded 61 = .ok (.lload 5, 2) := by decide +kernel
theorem dX2_rounded_63 : decode cX2_rounded 63 = .ok (.lconst 1, 1) := by decide +kernel
theorem dX2_rounded_64 : decode cX2_rounded 64 = .ok (.iload 8, 2) := by decide +kernel
theorem dX2_rounded_66 : decode cX2_rounded 66 = .ok (.lshl, 1) := by decide +kernel
theorem dX2_rounded_67 : decode cX2_rounded 67 = .ok (.lconst 1, 1) := by decide +kernel
theorem dX2_rounded_68 : decode cX2_rounded 68 = .ok (.lsub, 1) := by decide +kernel
theorem dX2_rounded_69 : decode cX2_rounded 69 = .ok (.land, 1) := by decide +kernel
theorem dX2_rounded_70 : decode cX2_rounded 70 = .ok (.lstore 11, 2) := by decide +kernel
theorem dX2_rounded_72 : decode cX2_rounded 72 = .ok (.lconst 1, 1) := by decide +kernel
theorem dX2_rounded_73 : decode cX2_rounded 73 = .ok (.iload 8, 2) := by decide +kernel
theorem dX2_rounded_75 : decode cX2_rounded 75 = .ok (.iconst 1, 1) := by decide +kernel
theorem dX2_rounded_76 : decode cX2_rounded 76 = .ok (.isub, 1) := by decide +kernel
theorem dX2_rounded_77 : decode cX2_rounded 77 = .ok (.lshl, 1) := by decide +kernel
theorem dX2_rounded_78 : decode cX2_rounded 78 = .ok (.lstore 13, 2) := by decide +kernel
theorem dX2_rounded_80 : decode cX2_rounded 80 = .ok (.lload 11, 2) := by decide +kernel
theorem dX2_rounded_82 : decode cX2_rounded 82 = .ok (.lload 13, 2) := by decide +kernel
theorem dX2_rounded_84 : decode cX2_rounded 84 = .ok (.lcmp, 1) := by decide +kernel
theorem dX2_rounded_85 : decode cX2_rounded 85 = .ok (.ifCond .gt 20, 3) := by decide +kernel
theorem dX2_rounded_88 : decode cX2_rounded 88 = .ok (.lload 11, 2) := by decide +kernel
theorem dX2_rounded_90 : decode cX2_rounded 90 = .ok (.lload 13, 2) := by decide +kernel
theorem dX2_rounded_92 : decode cX2_rounded 92 = .ok (.lcmp, 1) := by decide +kernel
theorem dX2_rounded_93 : decode cX2_rounded 93 = .ok (.ifCond .ne 18, 3) := by decide +kernel
theorem dX2_rounded_96 : decode cX2_rounded 96 = .ok (.lload 9, 2) := by decide +kernel
theorem dX2_rounded_98 : decode cX2_rounded 98 = .ok (.lconst 1, 1) := by decide +kernel
theorem dX2_rounded_99 : decode cX2_rounded 99 = .ok (.land, 1) := by decide +kernel
theorem dX2_rounded_100 : decode cX2_rounded 100 = .ok (.lconst 1, 1) := by decide +kernel
theorem dX2_rounded_101 : decode cX2_rounded 101 = .ok (.lcmp, 1) := by decide +kernel
theorem dX2_rounded_102 : decode cX2_rounded 102 = .ok (.ifCond .ne 9, 3) := by decide +kernel
theorem dX2_rounded_105 : decode cX2_rounded 105 = .ok (.lload 9, 2) := by decide +kernel
theorem dX2_rounded_107 : decode cX2_rounded 107 = .ok (.lconst 1, 1) := by decide +kernel
theorem dX2_rounded_108 : decode cX2_rounded 108 = .ok (.ladd, 1) := by decide +kernel
theorem dX2_rounded_109 : decode cX2_rounded 109 = .ok (.lstore 9, 2) := by decide +kernel
theorem dX2_rounded_111 : decode cX2_rounded 111 = .ok (.iload 7, 2) := by decide +kernel
theorem dX2_rounded_113 : decode cX2_rounded 113 = .ok (.iload_n 2, 1) := by decide +kernel
theorem dX2_rounded_114 : decode cX2_rounded 114 = .ok (.isub, 1) := by decide +kernel
theorem dX2_rounded_115 : decode cX2_rounded 115 = .ok (.iload 4, 2) := by decide +kernel
theorem dX2_rounded_117 : decode cX2_rounded 117 = .ok (.iadd, 1) := by decide +kernel
theorem dX2_rounded_118 : decode cX2_rounded 118 = .ok (.iconst 1, 1) := by decide +kernel
theorem dX2_rounded_119 : decode cX2_rounded 119 = .ok (.isub, 1) := by decide +kernel
theorem dX2_rounded_120 : decode cX2_rounded 120 = .ok (.i2l, 1) := by decide +kernel
theorem dX2_rounded_121 : decode cX2_rounded 121 = .ok (.iload_n 3, 1) := by decide +kernel
theorem dX2_rounded_122 : decode cX2_rounded 122 = .ok (.lshl, 1) := by decide +kernel
theorem dX2_rounded_123 : decode cX2_rounded 123 = .ok (.lload 9, 2) := by decide +kernel
theorem dX2_rounded_125 : decode cX2_rounded 125 = .ok (.ladd, 1) := by decide +kernel
theorem dX2_rounded_126 : decode cX2_rounded 126 = .ok (.lreturn, 1) := by decide +kernel
def fX2_rounded_b111 (v2 : Int32) (v3 : Int32) (v4 : Int32) (v7 : Int32) (v9 : Int64) : Option Int64 := some ((jlshl (Int32.toInt64 (((v7 - v2) + v4) - (1 : Int32))) v3) + v9)
def fX2_rounded_b105 (v2 : Int32) (v3 : Int32) (v4 : Int32) (v7 : Int32) (v9 : Int64) : Option Int64 := fX2_rounded_b111 v2 v3 v4 v7 (v9 + (1 : Int64))
def fX2_rounded_b20 (v2 : Int32) (v3 : Int32) (v4 : Int32) (s0 : Int64) : Option Int64 := ((fJ13_numberOfLeadingZeros_95d88 s0).bind fun r26 => (if 0 < (((63 : Int32) - r26) - v3) then (if (jlshl (1 : Int64) ((((63 : Int32) - r26) - v3) - (1 : Int32))) < (s0 &&& ((jlshl (1 : Int64) (((63 : Int32) - r26) - v3)) - (1 : Int64))) then fX2_rounded_b105 v2 v3 v4 ((63 : Int32) - r26) (jlushr s0 (((63 : Int32) - r26) - v3)) else (if (s0 &&& ((jlshl (1 : Int64) (((63 : Int32) - r26) - v3)) - (1 : Int64))) = (jlshl (1 : Int64) ((((63 : Int32) - r26) - v3) - (1 : Int32))) then (if ((jlushr s0 (((63 : Int32) - r26) - v3)) &&& (1 : Int64)) = (1 : Int64) then fX2_rounded_b105 v2 v3 v4 ((63 : Int32) - r26) (jlushr s0 (((63 : Int32) - r26) - v3)) else fX2_rounded_b111 v2 v3 v4 ((63 : Int32) - r26) (jlushr s0 (((63 : Int32) - r26) - v3))) else fX2_rounded_b111 v2 v3 v4 ((63 : Int32) - r26) (jlushr s0 (((63 : Int32) - r26) - v3)))) else fX2_rounded_b111 v2 v3 v4 ((63 : Int32) - r26) (jlshl s0 (-(((63 : Int32) - r26) - v3)))))
def fX2_rounded (p1 : Int64) (p2 : Int32) (p3 : Int32) (p4 : Int32) : Option Int64 := (if p1 = (0 : Int64) then some (0 : Int64) else (if (0 : Int64) ≤ p1 then fX2_rounded_b20 p2 p3 p4 p1 else fX2_rounded_b20 p2 p3 p4 (-p1)))
set_option maxRecDepth 100000 in
set_option maxHeartbeats 4000000 in
theorem kX2_rounded (l : Launch) (p1 : Int64) (p2 : Int32) (p3 : Int32) (p4 : Int32) (out : Int64) (hf : fX2_rounded p1 p2 p3 p4 = some out) : Sq l yX2_rounded cX2_rounded 15 (some .long) 2 [.long p1, .int p2, .int p3, .int p4] (some (.long out)) := by
  refine Sq.of [(0, .long p1), (2, .int p2), (3, .int p3), (4, .int p4)] rfl (by decide +kernel) (Nat.le_of_ble_eq_true rfl) ?_
  intro κ hκ C hQ
  subst hκ
  replace C : Cf κ cX2_rounded 15 RX2 (some .long) 2 := C
  have b111 : ∀ (v2 : Int32) (v3 : Int32) (v4 : Int32) (v7 : Int32) (v9 : Int64) , fX2_rounded_b111 v2 v3 v4 v7 v9 = some out → G κ (Vp κ) 15 111 [(2, .int v2), (3, .int v3), (4, .int v4), (7, .int v7), (9, .long v9)] [] := by
    intro v2 v3 v4 v7 v9 hf
    refine g_iload (pc := 111) (i := 7) (j := 3) C dX2_rounded_111 rfl ?_
    refine g_iload_n (pc := 113) (i := 2) (j := 0) C dX2_rounded_113 rfl rfl ?_
    refine g_isub (pc := 114) C dX2_rounded_114 ?_
    refine g_iload (pc := 115) (i := 4) (j := 2) C dX2_rounded_115 rfl ?_
    refine g_iadd (pc := 117) C dX2_rounded_117 ?_
    refine g_iconst (pc := 118) C dX2_rounded_118 ci_1 ?_
    refine g_isub (pc := 119) C dX2_rounded_119 ?_
    refine g_i2l (pc := 120) C dX2_rounded_120 ?_
    refine g_iload_n (pc := 121) (i := 3) (j := 1) C dX2_rounded_121 rfl rfl ?_
    refine g_lshl (pc := 122) C dX2_rounded_122 ?_
    refine g_lload (pc := 123) (i := 9) (j := 4) C dX2_rounded_123 rfl ?_
    refine g_ladd (pc := 125) C dX2_rounded_125 ?_
    exact g_lretp (pc := 126) C hQ dX2_rounded_126 hf
  have b105 : ∀ (v2 : Int32) (v3 : Int32) (v4 : Int32) (v7 : Int32) (v9 : Int64) , fX2_rounded_b105 v2 v3 v4 v7 v9 = some out → G κ (Vp κ) 15 105 [(2, .int v2), (3, .int v3), (4, .int v4), (7, .int v7), (9, .long v9)] [] := by
    intro v2 v3 v4 v7 v9 hf
    refine g_lload (pc := 105) (i := 9) (j := 4) C dX2_rounded_105 rfl ?_
    refine g_lconst (pc := 107) C dX2_rounded_107 cl_1 ?_
    refine g_ladd (pc := 108) C dX2_rounded_108 ?_
    refine g_lstore (pc := 109) (i := 9) (L' := [(9, .long (v9 + (1 : Int64))), (2, .int v2), (3, .int v3), (4, .int v4), (7, .int v7)]) C dX2_rounded_109 (by decide) rfl ?_
    exact g_at [1, 2, 3, 4, 0] rfl (b111 v2 v3 v4 v7 (v9 + (1 : Int64)) hf)
  have b20 : ∀ (v2 : Int32) (v3 : Int32) (v4 : Int32) (s0 : Int64) , fX2_rounded_b20 v2 v3 v4 s0 = some out → G κ (Vp κ) 15 20 [(2, .int v2), (3, .int v3), (4, .int v4)] [.long s0] := by
    intro v2 v3 v4 s0 hf
    refine g_lstore (pc := 20) (i := 5) (L' := [(5, .long s0), (2, .int v2), (3, .int v3), (4, .int v4)]) C dX2_rounded_20 (by decide) rfl ?_
    refine g_bipush (pc := 22) C dX2_rounded_22 cb_63 ?_
    refine g_lload (pc := 24) (i := 5) (j := 0) C dX2_rounded_24 rfl ?_
    refine g_cpi (pc := 26) (st := [.int (63 : Int32)]) C lkX2_106 (As := [.long s0]) rfl (fun out h => kJ13_numberOfLeadingZeros_95d88 (kl κ) s0 out h) (by decide) rfl (Nat.le_of_ble_eq_true rfl) dX2_rounded_26 hf (fun r26 _ hf => ?_)
    refine g_isub (pc := 29) C dX2_rounded_29 ?_
    refine g_istore (pc := 30) (i := 7) (L' := [(7, .int ((63 : Int32) - r26)), (5, .long s0), (2, .int v2), (3, .int v3), (4, .int v4)]) C dX2_rounded_30 (by decide) rfl ?_
    refine g_iload (pc := 32) (i := 7) (j := 0) C dX2_rounded_32 rfl ?_
    refine g_iload_n (pc := 34) (i := 3) (j := 3) C dX2_rounded_34 rfl rfl ?_
    refine g_isub (pc := 35) C dX2_rounded_35 ?_
    refine g_istore (pc := 36) (i := 8) (L' := [(8, .int (((63 : Int32) - r26) - v3)), (7, .int ((63 : Int32) - r26)), (5, .long s0), (2, .int v2), (3, .int v3), (4, .int v4)]) C dX2_rounded_36 (by decide) rfl ?_
    refine g_iload (pc := 38) (i := 8) (j := 0) C dX2_rounded_38 rfl ?_
    refine g_if_gt (pc := 40) (tgt := 54) C dX2_rounded_40 rfl hf (fun _ hf => ?_) (fun _ hf => ?_)
    · refine g_lload (pc := 54) (i := 5) (j := 2) C dX2_rounded_54 rfl ?_
      refine g_iload (pc := 56) (i := 8) (j := 0) C dX2_rounded_56 rfl ?_
      refine g_lushr (pc := 58) C dX2_rounded_58 ?_
      refine g_lstore (pc := 59) (i := 9) (L' := [(9, .long (jlushr s0 (((63 : Int32) - r26) - v3))), (8, .int (((63 : Int32) - r26) - v3)), (7, .int ((63 : Int32) - r26)), (5, .long s0), (2, .int v2), (3, .int v3), (4, .int v4)]) C dX2_rounded_59 (by decide) rfl ?_
      refine g_lload (pc := 61) (i := 5) (j := 3) C dX2_rounded_61 rfl ?_
      refine g_lconst (pc := 63) C dX2_rounded_63 cl_1 ?_
      refine g_iload (pc := 64) (i := 8) (j := 1) C dX2_rounded_64 rfl ?_
      refine g_lshl (pc := 66) C dX2_rounded_66 ?_
      refine g_lconst (pc := 67) C dX2_rounded_67 cl_1 ?_
      refine g_lsub (pc := 68) C dX2_rounded_68 ?_
      refine g_land (pc := 69) C dX2_rounded_69 ?_
      refine g_lstore (pc := 70) (i := 11) (L' := [(11, .long (s0 &&& ((jlshl (1 : Int64) (((63 : Int32) - r26) - v3)) - (1 : Int64)))), (9, .long (jlushr s0 (((63 : Int32) - r26) - v3))), (8, .int (((63 : Int32) - r26) - v3)), (7, .int ((63 : Int32) - r26)), (5, .long s0), (2, .int v2), (3, .int v3), (4, .int v4)]) C dX2_rounded_70 (by decide) rfl ?_
      refine g_lconst (pc := 72) C dX2_rounded_72 cl_1 ?_
      refine g_iload (pc := 73) (i := 8) (j := 2) C dX2_rounded_73 rfl ?_
      refine g_iconst (pc := 75) C dX2_rounded_75 ci_1 ?_
      refine g_isub (pc := 76) C dX2_rounded_76 ?_
      refine g_lshl (pc := 77) C dX2_rounded_77 ?_
      refine g_lstore (pc := 78) (i := 13) (L' := [(13, .long (jlshl (1 : Int64) ((((63 : Int32) - r26) - v3) - (1 : Int32)))), (11, .long (s0 &&& ((jlshl (1 : Int64) (((63 : Int32) - r26) - v3)) - (1 : Int64)))), (9, .long (jlushr s0 (((63 : Int32) - r26) - v3))), (8, .int (((63 : Int32) - r26) - v3)), (7, .int ((63 : Int32) - r26)), (5, .long s0), (2, .int v2), (3, .int v3), (4, .int v4)]) C dX2_rounded_78 (by decide) rfl ?_
      refine g_lload (pc := 80) (i := 11) (j := 1) C dX2_rounded_80 rfl ?_
      refine g_lload (pc := 82) (i := 13) (j := 0) C dX2_rounded_82 rfl ?_
      refine g_lcmp_gt (pc := 84) (tgt := 105) C dX2_rounded_84 dX2_rounded_85 rfl hf (fun _ hf => ?_) (fun _ hf => ?_)
      · exact g_at [6, 7, 8, 4, 2] rfl (b105 v2 v3 v4 ((63 : Int32) - r26) (jlushr s0 (((63 : Int32) - r26) - v3)) hf)
      · refine g_lload (pc := 88) (i := 11) (j := 1) C dX2_rounded_88 rfl ?_
        refine g_lload (pc := 90) (i := 13) (j := 0) C dX2_rounded_90 rfl ?_
        refine g_lcmp_ne (pc := 92) (tgt := 111) C dX2_rounded_92 dX2_rounded_93 rfl hf (fun _ hf => ?_) (fun _ hf => ?_)
        · exact g_at [6, 7, 8, 4, 2] rfl (b111 v2 v3 v4 ((63 : Int32) - r26) (jlushr s0 (((63 : Int32) - r26) - v3)) hf)
        · refine g_lload (pc := 96) (i := 9) (j := 2) C dX2_rounded_96 rfl ?_
          refine g_lconst (pc := 98) C dX2_rounded_98 cl_1 ?_
          refine g_land (pc := 99) C dX2_rounded_99 ?_
          refine g_lconst (pc := 100) C dX2_rounded_100 cl_1 ?_
          refine g_lcmp_ne (pc := 101) (tgt := 111) C dX2_rounded_101 dX2_rounded_102 rfl hf (fun _ hf => ?_) (fun _ hf => ?_)
          · exact g_at [6, 7, 8, 4, 2] rfl (b111 v2 v3 v4 ((63 : Int32) - r26) (jlushr s0 (((63 : Int32) - r26) - v3)) hf)
          · exact g_at [6, 7, 8, 4, 2] rfl (b105 v2 v3 v4 ((63 : Int32) - r26) (jlushr s0 (((63 : Int32) - r26) - v3)) hf)
    · refine g_lload (pc := 43) (i := 5) (j := 2) C dX2_rounded_43 rfl ?_
      refine g_iload (pc := 45) (i := 8) (j := 0) C dX2_rounded_45 rfl ?_
      refine g_ineg (pc := 47) C dX2_rounded_47 ?_
      refine g_lshl (pc := 48) C dX2_rounded_48 ?_
      refine g_lstore (pc := 49) (i := 9) (L' := [(9, .long (jlshl s0 (-(((63 : Int32) - r26) - v3)))), (8, .int (((63 : Int32) - r26) - v3)), (7, .int ((63 : Int32) - r26)), (5, .long s0), (2, .int v2), (3, .int v3), (4, .int v4)]) C dX2_rounded_49 (by decide) rfl ?_
      refine g_goto (pc := 51) (tgt := 111) C dX2_rounded_51 rfl ?_
      exact g_at [4, 5, 6, 2, 0] rfl (b111 v2 v3 v4 ((63 : Int32) - r26) (jlshl s0 (-(((63 : Int32) - r26) - v3))) hf)
  refine g_lload_n (pc := 0) (i := 0) (j := 0) C dX2_rounded_0 rfl rfl ?_
  refine g_lconst (pc := 1) C dX2_rounded_1 cl_0 ?_
  refine g_lcmp_ne (pc := 2) (tgt := 8) C dX2_rounded_2 dX2_rounded_3 rfl hf (fun _ hf => ?_) (fun _ hf => ?_)
  · refine g_lload_n (pc := 8) (i := 0) (j := 0) C dX2_rounded_8 rfl rfl ?_
    refine g_lconst (pc := 9) C dX2_rounded_9 cl_0 ?_
    refine g_lcmp_ge (pc := 10) (tgt := 19) C dX2_rounded_10 dX2_rounded_11 rfl hf (fun _ hf => ?_) (fun _ hf => ?_)
    · refine g_lload_n (pc := 19) (i := 0) (j := 0) C dX2_rounded_19 rfl rfl ?_
      exact g_at [1, 2, 3] rfl (b20 p2 p3 p4 p1 hf)
    · refine g_lload_n (pc := 14) (i := 0) (j := 0) C dX2_rounded_14 rfl rfl ?_
      refine g_lneg (pc := 15) C dX2_rounded_15 ?_
      refine g_goto (pc := 16) (tgt := 20) C dX2_rounded_16 rfl ?_
      exact g_at [1, 2, 3] rfl (b20 p2 p3 p4 (-p1) hf)
  · refine g_lconst (pc := 6) C dX2_rounded_6 cl_0 ?_
    exact g_lretp (pc := 7) C hQ dX2_rounded_7 hf
theorem dX2_signedFloat_0 : decode cX2_signedFloat 0 = .ok (.iload_n 0, 1) := by decide +kernel
theorem dX2_signedFloat_1 : decode cX2_signedFloat 1 = .ok (.ifCond .eq 13, 3) := by decide +kernel
theorem dX2_signedFloat_4 : decode cX2_signedFloat 4 = .ok (.lload_n 1, 1) := by decide +kernel
theorem dX2_signedFloat_5 : decode cX2_signedFloat 5 = .ok (.ldc2_w 104, 3) := by decide +kernel
theorem dX2_signedFloat_8 : decode cX2_signedFloat 8 = .ok (.lor, 1) := by decide +kernel
theorem dX2_signedFloat_9 : decode cX2_signedFloat 9 = .ok (.l2i, 1) := by decide +kernel
theorem dX2_signedFloat_10 : decode cX2_signedFloat 10 = .ok (.i2l, 1) := by decide +kernel
theorem dX2_signedFloat_11 : decode cX2_signedFloat 11 = .ok (.goto 4, 3) := by decide +kernel
theorem dX2_signedFloat_14 : decode cX2_signedFloat 14 = .ok (.lload_n 1, 1) := by decide +kernel
theorem dX2_signedFloat_15 : decode cX2_signedFloat 15 = .ok (.lreturn, 1) := by decide +kernel
def fX2_signedFloat (p1 : Int32) (p2 : Int64) : Option Int64 := (if p1 = 0 then some p2 else some (Int32.toInt64 (Int64.toInt32 (p2 ||| (2147483648 : Int64)))))
set_option maxRecDepth 100000 in
set_option maxHeartbeats 4000000 in
theorem kX2_signedFloat (l : Launch) (p1 : Int32) (p2 : Int64) (out : Int64) (hf : fX2_signedFloat p1 p2 = some out) : Sq l yX2_signedFloat cX2_signedFloat 3 (some .long) 0 [.int p1, .long p2] (some (.long out)) := by
  refine Sq.of [(0, .int p1), (1, .long p2)] rfl (by decide +kernel) (Nat.le_of_ble_eq_true rfl) ?_
  intro κ hκ C hQ
  subst hκ
  replace C : Cf κ cX2_signedFloat 3 RX2 (some .long) 0 := C
  refine g_iload_n (pc := 0) (i := 0) (j := 0) C dX2_signedFloat_0 rfl rfl ?_
  refine g_if_eq (pc := 1) (tgt := 14) C dX2_signedFloat_1 rfl hf (fun _ hf => ?_) (fun _ hf => ?_)
  · refine g_lload_n (pc := 14) (i := 1) (j := 1) C dX2_signedFloat_14 rfl rfl ?_
    exact g_lretp (pc := 15) C hQ dX2_signedFloat_15 hf
  · refine g_lload_n (pc := 4) (i := 1) (j := 1) C dX2_signedFloat_4 rfl rfl ?_
    refine g_ldc2 (pc := 5) C cnX2_104 dX2_signedFloat_5 ?_
    refine g_lor (pc := 8) C dX2_signedFloat_8 ?_
    refine g_l2i (pc := 9) C dX2_signedFloat_9 ?_
    refine g_i2l (pc := 10) C dX2_signedFloat_10 ?_
    refine g_goto (pc := 11) (tgt := 15) C dX2_signedFloat_11 rfl ?_
    exact g_lretp (pc := 15) C hQ dX2_signedFloat_15 hf
theorem dX2_nearest_0 : decode cX2_nearest 0 = .ok (.iload_n 0, 1) := by decide +kernel
theorem dX2_nearest_1 : decode cX2_nearest 1 = .ok (.bipush 6, 2) := by decide +kernel
theorem dX2_nearest_3 : decode cX2_nearest 3 = .ok (.if_icmp .ne 27, 3) := by decide +kernel
theorem dX2_nearest_6 : decode cX2_nearest 6 = .ok (.lload_n 1, 1) := by decide +kernel
theorem dX2_nearest_7 : decode cX2_nearest 7 = .ok (.lconst 0, 1) := by decide +kernel
theorem dX2_nearest_8 : decode cX2_nearest 8 = .ok (.lcmp, 1) := by decide +kernel
theorem dX2_nearest_9 : decode cX2_nearest 9 = .ok (.ifCond .ge 7, 3) := by decide +kernel
theorem dX2_nearest_12 : decode cX2_nearest 12 = .ok (.iconst 1, 1) := by decide +kernel
theorem dX2_nearest_13 : decode cX2_nearest 13 = .ok (.goto 4, 3) := by decide +kernel
theorem dX2_nearest_16 : decode cX2_nearest 16 = .ok (.iconst 0, 1) := by decide +kernel
theorem dX2_nearest_17 : decode cX2_nearest 17 = .ok (.lload_n 1, 1) := by decide +kernel
theorem dX2_nearest_18 : decode cX2_nearest 18 = .ok (.iload_n 3, 1) := by decide +kernel
theorem dX2_nearest_19 : decode cX2_nearest 19 = .ok (.bipush 23, 2) := by decide +kernel
theorem dX2_nearest_21 : decode cX2_nearest 21 = .ok (.bipush 127, 2) := by decide +kernel
theorem dX2_nearest_23 : decode cX2_nearest 23 = .ok (.invokestatic 93, 3) := by decide +kernel
theorem dX2_nearest_26 : decode cX2_nearest 26 = .ok (.invokestatic 97, 3) := by decide +kernel
theorem dX2_nearest_29 : decode cX2_nearest 29 = .ok (.lreturn, 1) := by decide +kernel
theorem dX2_nearest_30 : decode cX2_nearest 30 = .ok (.lload_n 1, 1) := by decide +kernel
theorem dX2_nearest_31 : decode cX2_nearest 31 = .ok (.lconst 0, 1) := by decide +kernel
theorem dX2_nearest_32 : decode cX2_nearest 32 = .ok (.lcmp, 1) := by decide +kernel
theorem dX2_nearest_33 : decode cX2_nearest 33 = .ok (.ifCond .ge 7, 3) := by decide +kernel
theorem dX2_nearest_36 : decode cX2_nearest 36 = .ok (.iconst 1, 1) := by decide +kernel
theorem dX2_nearest_37 : decode cX2_nearest 37 = .ok (.goto 4, 3) := by decide +kernel
theorem dX2_nearest_40 : decode cX2_nearest 40 = .ok (.iconst 0, 1) := by decide +kernel
theorem dX2_nearest_41 : decode cX2_nearest 41 = .ok (.lload_n 1, 1) := by decide +kernel
theorem dX2_nearest_42 : decode cX2_nearest 42 = .ok (.iload_n 3, 1) := by decide +kernel
theorem dX2_nearest_43 : decode cX2_nearest 43 = .ok (.bipush 52, 2) := by decide +kernel
theorem dX2_nearest_45 : decode cX2_nearest 45 = .ok (.sipush 1023, 3) := by decide +kernel
theorem dX2_nearest_48 : decode cX2_nearest 48 = .ok (.invokestatic 93, 3) := by decide +kernel
theorem dX2_nearest_51 : decode cX2_nearest 51 = .ok (.invokestatic 101, 3) := by decide +kernel
theorem dX2_nearest_54 : decode cX2_nearest 54 = .ok (.lreturn, 1) := by decide +kernel
def fX2_nearest_b41 (v1 : Int64) (v3 : Int32) (s0 : Int32) : Option Int64 := ((fX2_rounded v1 v3 (52 : Int32) (1023 : Int32)).bind fun r48 => ((fX2_signedDouble s0 r48).bind fun r51 => some r51))
def fX2_nearest_b17 (v1 : Int64) (v3 : Int32) (s0 : Int32) : Option Int64 := ((fX2_rounded v1 v3 (23 : Int32) (127 : Int32)).bind fun r23 => ((fX2_signedFloat s0 r23).bind fun r26 => some r26))
def fX2_nearest (p1 : Int32) (p2 : Int64) (p3 : Int32) : Option Int64 := (if p1 = (6 : Int32) then (if (0 : Int64) ≤ p2 then fX2_nearest_b17 p2 p3 (0 : Int32) else fX2_nearest_b17 p2 p3 (1 : Int32)) else (if (0 : Int64) ≤ p2 then fX2_nearest_b41 p2 p3 (0 : Int32) else fX2_nearest_b41 p2 p3 (1 : Int32)))
set_option maxRecDepth 100000 in
set_option maxHeartbeats 4000000 in
theorem kX2_nearest (l : Launch) (p1 : Int32) (p2 : Int64) (p3 : Int32) (out : Int64) (hf : fX2_nearest p1 p2 p3 = some out) : Sq l yX2_nearest cX2_nearest 4 (some .long) 3 [.int p1, .long p2, .int p3] (some (.long out)) := by
  refine Sq.of [(0, .int p1), (1, .long p2), (3, .int p3)] rfl (by decide +kernel) (Nat.le_of_ble_eq_true rfl) ?_
  intro κ hκ C hQ
  subst hκ
  replace C : Cf κ cX2_nearest 4 RX2 (some .long) 3 := C
  have b41 : ∀ (v1 : Int64) (v3 : Int32) (s0 : Int32) , fX2_nearest_b41 v1 v3 s0 = some out → G κ (Vp κ) 4 41 [(1, .long v1), (3, .int v3)] [.int s0] := by
    intro v1 v3 s0 hf
    refine g_lload_n (pc := 41) (i := 1) (j := 0) C dX2_nearest_41 rfl rfl ?_
    refine g_iload_n (pc := 42) (i := 3) (j := 1) C dX2_nearest_42 rfl rfl ?_
    refine g_bipush (pc := 43) C dX2_nearest_43 cb_52 ?_
    refine g_sipush (pc := 45) C dX2_nearest_45 cs_1023 ?_
    refine g_cpl (pc := 48) (st := [.int s0]) C lkX2_93 (As := [.long v1, .int v3, .int (52 : Int32), .int (1023 : Int32)]) rfl (fun out h => kX2_rounded (kl κ) v1 v3 (52 : Int32) (1023 : Int32) out h) (by decide) rfl (Nat.le_of_ble_eq_true rfl) dX2_nearest_48 hf (fun r48 _ hf => ?_)
    refine g_cpl (pc := 51) (st := []) C lkX2_101 (As := [.int s0, .long r48]) rfl (fun out h => kX2_signedDouble (kl κ) s0 r48 out h) (by decide) rfl (Nat.le_of_ble_eq_true rfl) dX2_nearest_51 hf (fun r51 _ hf => ?_)
    exact g_lretp (pc := 54) C hQ dX2_nearest_54 hf
  have b17 : ∀ (v1 : Int64) (v3 : Int32) (s0 : Int32) , fX2_nearest_b17 v1 v3 s0 = some out → G κ (Vp κ) 4 17 [(1, .long v1), (3, .int v3)] [.int s0] := by
    intro v1 v3 s0 hf
    refine g_lload_n (pc := 17) (i := 1) (j := 0) C dX2_nearest_17 rfl rfl ?_
    refine g_iload_n (pc := 18) (i := 3) (j := 1) C dX2_nearest_18 rfl rfl ?_
    refine g_bipush (pc := 19) C dX2_nearest_19 cb_23 ?_
    refine g_bipush (pc := 21) C dX2_nearest_21 cb_127 ?_
    refine g_cpl (pc := 23) (st := [.int s0]) C lkX2_93 (As := [.long v1, .int v3, .int (23 : Int32), .int (127 : Int32)]) rfl (fun out h => kX2_rounded (kl κ) v1 v3 (23 : Int32) (127 : Int32) out h) (by decide) rfl (Nat.le_of_ble_eq_true rfl) dX2_nearest_23 hf (fun r23 _ hf => ?_)
    refine g_cpl (pc := 26) (st := []) C lkX2_97 (As := [.int s0, .long r23]) rfl (fun out h => kX2_signedFloat (kl κ) s0 r23 out h) (by decide) rfl (Nat.le_of_ble_eq_true rfl) dX2_nearest_26 hf (fun r26 _ hf => ?_)
    exact g_lretp (pc := 29) C hQ dX2_nearest_29 hf
  refine g_iload_n (pc := 0) (i := 0) (j := 0) C dX2_nearest_0 rfl rfl ?_
  refine g_bipush (pc := 1) C dX2_nearest_1 cb_6 ?_
  refine g_icmp_ne (pc := 3) (tgt := 30) C dX2_nearest_3 rfl hf (fun _ hf => ?_) (fun _ hf => ?_)
  · refine g_lload_n (pc := 30) (i := 1) (j := 1) C dX2_nearest_30 rfl rfl ?_
    refine g_lconst (pc := 31) C dX2_nearest_31 cl_0 ?_
    refine g_lcmp_ge (pc := 32) (tgt := 40) C dX2_nearest_32 dX2_nearest_33 rfl hf (fun _ hf => ?_) (fun _ hf => ?_)
    · refine g_iconst (pc := 40) C dX2_nearest_40 ci_0 ?_
      exact g_at [1, 2] rfl (b41 p2 p3 (0 : Int32) hf)
    · refine g_iconst (pc := 36) C dX2_nearest_36 ci_1 ?_
      refine g_goto (pc := 37) (tgt := 41) C dX2_nearest_37 rfl ?_
      exact g_at [1, 2] rfl (b41 p2 p3 (1 : Int32) hf)
  · refine g_lload_n (pc := 6) (i := 1) (j := 1) C dX2_nearest_6 rfl rfl ?_
    refine g_lconst (pc := 7) C dX2_nearest_7 cl_0 ?_
    refine g_lcmp_ge (pc := 8) (tgt := 16) C dX2_nearest_8 dX2_nearest_9 rfl hf (fun _ hf => ?_) (fun _ hf => ?_)
    · refine g_iconst (pc := 16) C dX2_nearest_16 ci_0 ?_
      exact g_at [1, 2] rfl (b17 p2 p3 (0 : Int32) hf)
    · refine g_iconst (pc := 12) C dX2_nearest_12 ci_1 ?_
      refine g_goto (pc := 13) (tgt := 17) C dX2_nearest_13 rfl ?_
      exact g_at [1, 2] rfl (b17 p2 p3 (1 : Int32) hf)
theorem dX2_widened_0 : decode cX2_widened 0 = .ok (.iload_n 2, 1) := by decide +kernel
theorem dX2_widened_1 : decode cX2_widened 1 = .ok (.iload_n 3, 1) := by decide +kernel
theorem dX2_widened_2 : decode cX2_widened 2 = .ok (.if_icmp .ne 5, 3) := by decide +kernel
theorem dX2_widened_5 : decode cX2_widened 5 = .ok (.lload_n 0, 1) := by decide +kernel
theorem dX2_widened_6 : decode cX2_widened 6 = .ok (.lreturn, 1) := by decide +kernel
theorem dX2_widened_7 : decode cX2_widened 7 = .ok (.iload_n 2, 1) := by decide +kernel
theorem dX2_widened_8 : decode cX2_widened 8 = .ok (.bipush 6, 2) := by decide +kernel
theorem dX2_widened_10 : decode cX2_widened 10 = .ok (.if_icmp .ne 8, 3) := by decide +kernel
theorem dX2_widened_13 : decode cX2_widened 13 = .ok (.lload_n 0, 1) := by decide +kernel
theorem dX2_widened_14 : decode cX2_widened 14 = .ok (.invokestatic 34, 3) := by decide +kernel
theorem dX2_widened_17 : decode cX2_widened 17 = .ok (.lreturn, 1) := by decide +kernel
theorem dX2_widened_18 : decode cX2_widened 18 = .ok (.iload_n 3, 1) := by decide +kernel
theorem dX2_widened_19 : decode cX2_widened 19 = .ok (.bipush 6, 2) := by decide +kernel
theorem dX2_widened_21 : decode cX2_widened 21 = .ok (.if_icmp .ge 7, 3) := by decide +kernel
theorem dX2_widened_24 : decode cX2_widened 24 = .ok (.lload_n 0, 1) := by decide +kernel
theorem dX2_widened_25 : decode cX2_widened 25 = .ok (.goto 9, 3) := by decide +kernel
theorem dX2_widened_28 : decode cX2_widened 28 = .ok (.iload_n 3, 1) := by decide +kernel
theorem dX2_widened_29 : decode cX2_widened 29 = .ok (.lload_n 0, 1) := by decide +kernel
theorem dX2_widened_30 : decode cX2_widened 30 = .ok (.iconst 0, 1) := by decide +kernel
theorem dX2_widened_31 : decode cX2_widened 31 = .ok (.invokestatic 30, 3) := by decide +kernel
theorem dX2_widened_34 : decode cX2_widened 34 = .ok (.lreturn, 1) := by decide +kernel
def fX2_widened (p1 : Int64) (p2 : Int32) (p3 : Int32) : Option Int64 := (if p2 = p3 then some p1 else (if p2 = (6 : Int32) then ((fX2_doubleOfFloat p1).bind fun r14 => some r14) else (if (6 : Int32) ≤ p3 then ((fX2_nearest p3 p1 (0 : Int32)).bind fun r31 => some r31) else some p1)))
set_option maxRecDepth 100000 in
set_option maxHeartbeats 4000000 in
theorem kX2_widened (l : Launch) (p1 : Int64) (p2 : Int32) (p3 : Int32) (out : Int64) (hf : fX2_widened p1 p2 p3 = some out) : Sq l yX2_widened cX2_widened 4 (some .long) 4 [.long p1, .int p2, .int p3] (some (.long out)) := by
  refine Sq.of [(0, .long p1), (2, .int p2), (3, .int p3)] rfl (by decide +kernel) (Nat.le_of_ble_eq_true rfl) ?_
  intro κ hκ C hQ
  subst hκ
  replace C : Cf κ cX2_widened 4 RX2 (some .long) 4 := C
  refine g_iload_n (pc := 0) (i := 2) (j := 1) C dX2_widened_0 rfl rfl ?_
  refine g_iload_n (pc := 1) (i := 3) (j := 2) C dX2_widened_1 rfl rfl ?_
  refine g_icmp_ne (pc := 2) (tgt := 7) C dX2_widened_2 rfl hf (fun _ hf => ?_) (fun _ hf => ?_)
  · refine g_iload_n (pc := 7) (i := 2) (j := 1) C dX2_widened_7 rfl rfl ?_
    refine g_bipush (pc := 8) C dX2_widened_8 cb_6 ?_
    refine g_icmp_ne (pc := 10) (tgt := 18) C dX2_widened_10 rfl hf (fun _ hf => ?_) (fun _ hf => ?_)
    · refine g_iload_n (pc := 18) (i := 3) (j := 2) C dX2_widened_18 rfl rfl ?_
      refine g_bipush (pc := 19) C dX2_widened_19 cb_6 ?_
      refine g_icmp_ge (pc := 21) (tgt := 28) C dX2_widened_21 rfl hf (fun _ hf => ?_) (fun _ hf => ?_)
      · refine g_iload_n (pc := 28) (i := 3) (j := 2) C dX2_widened_28 rfl rfl ?_
        refine g_lload_n (pc := 29) (i := 0) (j := 0) C dX2_widened_29 rfl rfl ?_
        refine g_iconst (pc := 30) C dX2_widened_30 ci_0 ?_
        refine g_cpl (pc := 31) (st := []) C lkX2_30 (As := [.int p3, .long p1, .int (0 : Int32)]) rfl (fun out h => kX2_nearest (kl κ) p3 p1 (0 : Int32) out h) (by decide) rfl (Nat.le_of_ble_eq_true rfl) dX2_widened_31 hf (fun r31 _ hf => ?_)
        exact g_lretp (pc := 34) C hQ dX2_widened_34 hf
      · refine g_lload_n (pc := 24) (i := 0) (j := 0) C dX2_widened_24 rfl rfl ?_
        refine g_goto (pc := 25) (tgt := 34) C dX2_widened_25 rfl ?_
        exact g_lretp (pc := 34) C hQ dX2_widened_34 hf
    · refine g_lload_n (pc := 13) (i := 0) (j := 0) C dX2_widened_13 rfl rfl ?_
      refine g_cpl (pc := 14) (st := []) C lkX2_34 (As := [.long p1]) rfl (fun out h => kX2_doubleOfFloat (kl κ) p1 out h) (by decide) rfl (Nat.le_of_ble_eq_true rfl) dX2_widened_14 hf (fun r14 _ hf => ?_)
      exact g_lretp (pc := 17) C hQ dX2_widened_17 hf
  · refine g_lload_n (pc := 5) (i := 0) (j := 0) C dX2_widened_5 rfl rfl ?_
    exact g_lretp (pc := 6) C hQ dX2_widened_6 hf
theorem dX2_countEnds_0 : decode cX2_countEnds 0 = .ok (.iload_n 2, 1) := by decide +kernel
theorem dX2_countEnds_1 : decode cX2_countEnds 1 = .ok (.iload_n 3, 1) := by decide +kernel
theorem dX2_countEnds_2 : decode cX2_countEnds 2 = .ok (.invokestatic 11, 3) := by decide +kernel
theorem dX2_countEnds_5 : decode cX2_countEnds 5 = .ok (.ifCond .ne 5, 3) := by decide +kernel
theorem dX2_countEnds_8 : decode cX2_countEnds 8 = .ok (.iconst 0, 1) := by decide +kernel
theorem dX2_countEnds_9 : decode cX2_countEnds 9 = .ok (.ireturn, 1) := by decide +kernel
theorem dX2_countEnds_10 : decode cX2_countEnds 10 = .ok (.iload_n 3, 1) := by decide +kernel
theorem dX2_countEnds_11 : decode cX2_countEnds 11 = .ok (.bipush 7, 2) := by decide +kernel
theorem dX2_countEnds_13 : decode cX2_countEnds 13 = .ok (.if_icmp .ne 12, 3) := by decide +kernel
theorem dX2_countEnds_16 : decode cX2_countEnds 16 = .ok (.iload_n 2, 1) := by decide +kernel
theorem dX2_countEnds_17 : decode cX2_countEnds 17 = .ok (.bipush 6, 2) := by decide +kernel
theorem dX2_countEnds_19 : decode cX2_countEnds 19 = .ok (.invokestatic 11, 3) := by decide +kernel
theorem dX2_countEnds_22 : decode cX2_countEnds 22 = .ok (.ifCond .ne 5, 3) := by decide +kernel
theorem dX2_countEnds_25 : decode cX2_countEnds 25 = .ok (.iconst 1, 1) := by decide +kernel
theorem dX2_countEnds_26 : decode cX2_countEnds 26 = .ok (.ireturn, 1) := by decide +kernel
theorem dX2_countEnds_27 : decode cX2_countEnds 27 = .ok (.lload_n 0, 1) := by decide +kernel
theorem dX2_countEnds_28 : decode cX2_countEnds 28 = .ok (.iload_n 2, 1) := by decide +kernel
theorem dX2_countEnds_29 : decode cX2_countEnds 29 = .ok (.bipush 6, 2) := by decide +kernel
theorem dX2_countEnds_31 : decode cX2_countEnds 31 = .ok (.invokestatic 26, 3) := by decide +kernel
theorem dX2_countEnds_34 : decode cX2_countEnds 34 = .ok (.bipush 6, 2) := by decide +kernel
theorem dX2_countEnds_36 : decode cX2_countEnds 36 = .ok (.bipush 7, 2) := by decide +kernel
theorem dX2_countEnds_38 : decode cX2_countEnds 38 = .ok (.invokestatic 26, 3) := by decide +kernel
theorem dX2_countEnds_41 : decode cX2_countEnds 41 = .ok (.lstore 4, 2) := by decide +kernel
theorem dX2_countEnds_43 : decode cX2_countEnds 43 = .ok (.lload 4, 2) := by decide +kernel
theorem dX2_countEnds_45 : decode cX2_countEnds 45 = .ok (.lload_n 0, 1) := by decide +kernel
theorem dX2_countEnds_46 : decode cX2_countEnds 46 = .ok (.iload_n 2, 1) := by decide +kernel
theorem dX2_countEnds_47 : decode cX2_countEnds 47 = .ok (.bipush 7, 2) := by decide +kernel
theorem dX2_countEnds_49 : decode cX2_countEnds 49 = .ok (.invokestatic 26, 3) := by decide +kernel
theorem dX2_countEnds_52 : decode cX2_countEnds 52 = .ok (.lcmp, 1) := by decide +kernel
theorem dX2_countEnds_53 : decode cX2_countEnds 53 = .ok (.ifCond .ne 7, 3) := by decide +kernel
theorem dX2_countEnds_56 : decode cX2_countEnds 56 = .ok (.iconst 1, 1) := by decide +kernel
theorem dX2_countEnds_57 : decode cX2_countEnds 57 = .ok (.goto 4, 3) := by decide +kernel
theorem dX2_countEnds_60 : decode cX2_countEnds 60 = .ok (.iconst 2, 1) := by decide +kernel
theorem dX2_countEnds_61 : decode cX2_countEnds 61 = .ok (.ireturn, 1) := by decide +kernel
def fX2_countEnds (p1 : Int64) (p2 : Int32) (p3 : Int32) : Option Int32 := ((fX2_widens p2 p3).bind fun r2 => (if r2 = 0 then some (0 : Int32) else (if p3 = (7 : Int32) then ((fX2_widens p2 (6 : Int32)).bind fun r19 => (if r19 = 0 then some (1 : Int32) else ((fX2_widened p1 p2 (6 : Int32)).bind fun r31 => ((fX2_widened r31 (6 : Int32) (7 : Int32)).bind fun r38 => ((fX2_widened p1 p2 (7 : Int32)).bind fun r49 => (if r38 = r49 then some (1 : Int32) else some (2 : Int32))))))) else some (1 : Int32))))
set_option maxRecDepth 100000 in
set_option maxHeartbeats 4000000 in
theorem kX2_countEnds (l : Launch) (p1 : Int64) (p2 : Int32) (p3 : Int32) (out : Int32) (hf : fX2_countEnds p1 p2 p3 = some out) : Sq l yX2_countEnds cX2_countEnds 6 (some .int) 5 [.long p1, .int p2, .int p3] (some (.int out)) := by
  refine Sq.of [(0, .long p1), (2, .int p2), (3, .int p3)] rfl (by decide +kernel) (Nat.le_of_ble_eq_true rfl) ?_
  intro κ hκ C hQ
  subst hκ
  replace C : Cf κ cX2_countEnds 6 RX2 (some .int) 5 := C
  refine g_iload_n (pc := 0) (i := 2) (j := 1) C dX2_countEnds_0 rfl rfl ?_
  refine g_iload_n (pc := 1) (i := 3) (j := 2) C dX2_countEnds_1 rfl rfl ?_
  refine g_cpi (pc := 2) (st := []) C lkX2_11 (As := [.int p2, .int p3]) rfl (fun out h => kX2_widens (kl κ) p2 p3 out h) (by decide) rfl (Nat.le_of_ble_eq_true rfl) dX2_countEnds_2 hf (fun r2 _ hf => ?_)
  refine g_if_ne (pc := 5) (tgt := 10) C dX2_countEnds_5 rfl hf (fun _ hf => ?_) (fun _ hf => ?_)
  · refine g_iload_n (pc := 10) (i := 3) (j := 2) C dX2_countEnds_10 rfl rfl ?_
    refine g_bipush (pc := 11) C dX2_countEnds_11 cb_7 ?_
    refine g_icmp_ne (pc := 13) (tgt := 25) C dX2_countEnds_13 rfl hf (fun _ hf => ?_) (fun _ hf => ?_)
    · refine g_iconst (pc := 25) C dX2_countEnds_25 ci_1 ?_
      exact g_iretp (pc := 26) C hQ dX2_countEnds_26 hf
    · refine g_iload_n (pc := 16) (i := 2) (j := 1) C dX2_countEnds_16 rfl rfl ?_
      refine g_bipush (pc := 17) C dX2_countEnds_17 cb_6 ?_
      refine g_cpi (pc := 19) (st := []) C lkX2_11 (As := [.int p2, .int (6 : Int32)]) rfl (fun out h => kX2_widens (kl κ) p2 (6 : Int32) out h) (by decide) rfl (Nat.le_of_ble_eq_true rfl) dX2_countEnds_19 hf (fun r19 _ hf => ?_)
      refine g_if_ne (pc := 22) (tgt := 27) C dX2_countEnds_22 rfl hf (fun _ hf => ?_) (fun _ hf => ?_)
      · refine g_lload_n (pc := 27) (i := 0) (j := 0) C dX2_countEnds_27 rfl rfl ?_
        refine g_iload_n (pc := 28) (i := 2) (j := 1) C dX2_countEnds_28 rfl rfl ?_
        refine g_bipush (pc := 29) C dX2_countEnds_29 cb_6 ?_
        refine g_cpl (pc := 31) (st := []) C lkX2_26 (As := [.long p1, .int p2, .int (6 : Int32)]) rfl (fun out h => kX2_widened (kl κ) p1 p2 (6 : Int32) out h) (by decide) rfl (Nat.le_of_ble_eq_true rfl) dX2_countEnds_31 hf (fun r31 _ hf => ?_)
        refine g_bipush (pc := 34) C dX2_countEnds_34 cb_6 ?_
        refine g_bipush (pc := 36) C dX2_countEnds_36 cb_7 ?_
        refine g_cpl (pc := 38) (st := []) C lkX2_26 (As := [.long r31, .int (6 : Int32), .int (7 : Int32)]) rfl (fun out h => kX2_widened (kl κ) r31 (6 : Int32) (7 : Int32) out h) (by decide) rfl (Nat.le_of_ble_eq_true rfl) dX2_countEnds_38 hf (fun r38 _ hf => ?_)
        refine g_lstore (pc := 41) (i := 4) (L' := [(4, .long r38), (0, .long p1), (2, .int p2), (3, .int p3)]) C dX2_countEnds_41 (by decide) rfl ?_
        refine g_lload (pc := 43) (i := 4) (j := 0) C dX2_countEnds_43 rfl ?_
        refine g_lload_n (pc := 45) (i := 0) (j := 1) C dX2_countEnds_45 rfl rfl ?_
        refine g_iload_n (pc := 46) (i := 2) (j := 2) C dX2_countEnds_46 rfl rfl ?_
        refine g_bipush (pc := 47) C dX2_countEnds_47 cb_7 ?_
        refine g_cpl (pc := 49) (st := [.long r38]) C lkX2_26 (As := [.long p1, .int p2, .int (7 : Int32)]) rfl (fun out h => kX2_widened (kl κ) p1 p2 (7 : Int32) out h) (by decide) rfl (Nat.le_of_ble_eq_true rfl) dX2_countEnds_49 hf (fun r49 _ hf => ?_)
        refine g_lcmp_ne (pc := 52) (tgt := 60) C dX2_countEnds_52 dX2_countEnds_53 rfl hf (fun _ hf => ?_) (fun _ hf => ?_)
        · refine g_iconst (pc := 60) C dX2_countEnds_60 ci_2 ?_
          exact g_iretp (pc := 61) C hQ dX2_countEnds_61 hf
        · refine g_iconst (pc := 56) C dX2_countEnds_56 ci_1 ?_
          refine g_goto (pc := 57) (tgt := 61) C dX2_countEnds_57 rfl ?_
          exact g_iretp (pc := 61) C hQ dX2_countEnds_61 hf
      · refine g_iconst (pc := 25) C dX2_countEnds_25 ci_1 ?_
        exact g_iretp (pc := 26) C hQ dX2_countEnds_26 hf
  · refine g_iconst (pc := 8) C dX2_countEnds_8 ci_0 ?_
    exact g_iretp (pc := 9) C hQ dX2_countEnds_9 hf
theorem dX2_exponentOf_0 : decode cX2_exponentOf 0 = .ok (.lload_n 0, 1) := by decide +kernel
theorem dX2_exponentOf_1 : decode cX2_exponentOf 1 = .ok (.bipush 52, 2) := by decide +kernel
theorem dX2_exponentOf_3 : decode cX2_exponentOf 3 = .ok (.lshr, 1) := by decide +kernel
theorem dX2_exponentOf_4 : decode cX2_exponentOf 4 = .ok (.ldc2_w 118, 3) := by decide +kernel
theorem dX2_exponentOf_7 : decode cX2_exponentOf 7 = .ok (.land, 1) := by decide +kernel
theorem dX2_exponentOf_8 : decode cX2_exponentOf 8 = .ok (.l2i, 1) := by decide +kernel
theorem dX2_exponentOf_9 : decode cX2_exponentOf 9 = .ok (.sipush 1023, 3) := by decide +kernel
theorem dX2_exponentOf_12 : decode cX2_exponentOf 12 = .ok (.isub, 1) := by decide +kernel
theorem dX2_exponentOf_13 : decode cX2_exponentOf 13 = .ok (.ireturn, 1) := by decide +kernel
def fX2_exponentOf (p1 : Int64) : Option Int32 := some ((Int64.toInt32 ((jlshr p1 (52 : Int32)) &&& (2047 : Int64))) - (1023 : Int32))
set_option maxRecDepth 100000 in
set_option maxHeartbeats 4000000 in
theorem kX2_exponentOf (l : Launch) (p1 : Int64) (out : Int32) (hf : fX2_exponentOf p1 = some out) : Sq l yX2_exponentOf cX2_exponentOf 2 (some .int) 0 [.long p1] (some (.int out)) := by
  refine Sq.of [(0, .long p1)] rfl (by decide +kernel) (Nat.le_of_ble_eq_true rfl) ?_
  intro κ hκ C hQ
  subst hκ
  replace C : Cf κ cX2_exponentOf 2 RX2 (some .int) 0 := C
  refine g_lload_n (pc := 0) (i := 0) (j := 0) C dX2_exponentOf_0 rfl rfl ?_
  refine g_bipush (pc := 1) C dX2_exponentOf_1 cb_52 ?_
  refine g_lshr (pc := 3) C dX2_exponentOf_3 ?_
  refine g_ldc2 (pc := 4) C cnX2_118 dX2_exponentOf_4 ?_
  refine g_land (pc := 7) C dX2_exponentOf_7 ?_
  refine g_l2i (pc := 8) C dX2_exponentOf_8 ?_
  refine g_sipush (pc := 9) C dX2_exponentOf_9 cs_1023 ?_
  refine g_isub (pc := 12) C dX2_exponentOf_12 ?_
  exact g_iretp (pc := 13) C hQ dX2_exponentOf_13 hf
theorem dX2_floatOfDouble_0 : decode cX2_floatOfDouble 0 = .ok (.lload_n 0, 1) := by decide +kernel
theorem dX2_floatOfDouble_1 : decode cX2_floatOfDouble 1 = .ok (.lconst 0, 1) := by decide +kernel
theorem dX2_floatOfDouble_2 : decode cX2_floatOfDouble 2 = .ok (.lcmp, 1) := by decide +kernel
theorem dX2_floatOfDouble_3 : decode cX2_floatOfDouble 3 = .ok (.ifCond .ne 5, 3) := by decide +kernel
theorem dX2_floatOfDouble_6 : decode cX2_floatOfDouble 6 = .ok (.lconst 0, 1) := by decide +kernel
theorem dX2_floatOfDouble_7 : decode cX2_floatOfDouble 7 = .ok (.lreturn, 1) := by decide +kernel
theorem dX2_floatOfDouble_8 : decode cX2_floatOfDouble 8 = .ok (.lload_n 0, 1) := by decide +kernel
theorem dX2_floatOfDouble_9 : decode cX2_floatOfDouble 9 = .ok (.bipush 52, 2) := by decide +kernel
theorem dX2_floatOfDouble_11 : decode cX2_floatOfDouble 11 = .ok (.lshr, 1) := by decide +kernel
theorem dX2_floatOfDouble_12 : decode cX2_floatOfDouble 12 = .ok (.ldc2_w 118, 3) := by decide +kernel
theorem dX2_floatOfDouble_15 : decode cX2_floatOfDouble 15 = .ok (.land, 1) := by decide +kernel
theorem dX2_floatOfDouble_16 : decode cX2_floatOfDouble 16 = .ok (.ldc2_w 114, 3) := by decide +kernel
theorem dX2_floatOfDouble_19 : decode cX2_floatOfDouble 19 = .ok (.lsub, 1) := by decide +kernel
theorem dX2_floatOfDouble_20 : decode cX2_floatOfDouble 20 = .ok (.lstore_n 2, 1) := by decide +kernel
theorem dX2_floatOfDouble_21 : decode cX2_floatOfDouble 21 = .ok (.lload_n 0, 1) := by decide +kernel
theorem dX2_floatOfDouble_22 : decode cX2_floatOfDouble 22 = .ok (.ldc2_w 120, 3) := by decide +kernel
theorem dX2_floatOfDouble_25 : decode cX2_floatOfDouble 25 = .ok (.land, 1) := by decide +kernel
theorem dX2_floatOfDouble_26 : decode cX2_floatOfDouble 26 = .ok (.bipush 29, 2) := by decide +kernel
theorem dX2_floatOfDouble_28 : decode cX2_floatOfDouble 28 = .ok (.lshr, 1) := by decide +kernel
theorem dX2_floatOfDouble_29 : decode cX2_floatOfDouble 29 = .ok (.lstore 4, 2) := by decide +kernel
theorem dX2_floatOfDouble_31 : decode cX2_floatOfDouble 31 = .ok (.lload_n 0, 1) := by decide +kernel
theorem dX2_floatOfDouble_32 : decode cX2_floatOfDouble 32 = .ok (.lconst 0, 1) := by decide +kernel
theorem dX2_floatOfDouble_33 : decode cX2_floatOfDouble 33 = .ok (.lcmp, 1) := by decide +kernel
theorem dX2_floatOfDouble_34 : decode cX2_floatOfDouble 34 = .ok (.ifCond .ge 7, 3) := by decide +kernel
theorem dX2_floatOfDouble_37 : decode cX2_floatOfDouble 37 = .ok (.iconst 1, 1) := by decide +kernel
theorem dX2_floatOfDouble_38 : decode cX2_floatOfDouble 38 = .ok (.goto 4, 3) := by decide +kernel
theorem dX2_floatOfDouble_41 : decode cX2_floatOfDouble 41 = .ok (.iconst 0, 1) := by decide +kernel
theorem dX2_floatOfDouble_42 : decode cX2_floatOfDouble 42 = .ok (.lload_n 2, 1) := by decide +kernel
theorem dX2_floatOfDouble_43 : decode cX2_floatOfDouble 43 = .ok (.bipush 23, 2) := by decide +kernel
theorem dX2_floatOfDouble_45 : decode cX2_floatOfDouble 45 = .ok (.lshl, 1) := by decide +kernel
theorem dX2_floatOfDouble_46 : decode cX2_floatOfDouble 46 = .ok (.lload 4, 2) := by decide +kernel
theorem dX2_floatOfDouble_48 : decode cX2_floatOfDouble 48 = .ok (.lor, 1) := by decide +kernel
theorem dX2_floatOfDouble_49 : decode cX2_floatOfDouble 49 = .ok (.invokestatic 97, 3) := by decide +kernel
theorem dX2_floatOfDouble_52 : decode cX2_floatOfDouble 52 = .ok (.lreturn, 1) := by decide +kernel
def fX2_floatOfDouble_b42 (v2 : Int64) (v4 : Int64) (s0 : Int32) : Option Int64 := ((fX2_signedFloat s0 ((jlshl v2 (23 : Int32)) ||| v4)).bind fun r49 => some r49)
def fX2_floatOfDouble (p1 : Int64) : Option Int64 := (if p1 = (0 : Int64) then some (0 : Int64) else (if (0 : Int64) ≤ p1 then fX2_floatOfDouble_b42 (((jlshr p1 (52 : Int32)) &&& (2047 : Int64)) - (896 : Int64)) (jlshr (p1 &&& (4503599627370495 : Int64)) (29 : Int32)) (0 : Int32) else fX2_floatOfDouble_b42 (((jlshr p1 (52 : Int32)) &&& (2047 : Int64)) - (896 : Int64)) (jlshr (p1 &&& (4503599627370495 : Int64)) (29 : Int32)) (1 : Int32)))
set_option maxRecDepth 100000 in
set_option maxHeartbeats 4000000 in
theorem kX2_floatOfDouble (l : Launch) (p1 : Int64) (out : Int64) (hf : fX2_floatOfDouble p1 = some out) : Sq l yX2_floatOfDouble cX2_floatOfDouble 6 (some .long) 1 [.long p1] (some (.long out)) := by
  refine Sq.of [(0, .long p1)] rfl (by decide +kernel) (Nat.le_of_ble_eq_true rfl) ?_
  intro κ hκ C hQ
  subst hκ
  replace C : Cf κ cX2_floatOfDouble 6 RX2 (some .long) 1 := C
  have b42 : ∀ (v2 : Int64) (v4 : Int64) (s0 : Int32) , fX2_floatOfDouble_b42 v2 v4 s0 = some out → G κ (Vp κ) 6 42 [(2, .long v2), (4, .long v4)] [.int s0] := by
    intro v2 v4 s0 hf
    refine g_lload_n (pc := 42) (i := 2) (j := 0) C dX2_floatOfDouble_42 rfl rfl ?_
    refine g_bipush (pc := 43) C dX2_floatOfDouble_43 cb_23 ?_
    refine g_lshl (pc := 45) C dX2_floatOfDouble_45 ?_
    refine g_lload (pc := 46) (i := 4) (j := 1) C dX2_floatOfDouble_46 rfl ?_
    refine g_lor (pc := 48) C dX2_floatOfDouble_48 ?_
    refine g_cpl (pc := 49) (st := []) C lkX2_97 (As := [.int s0, .long ((jlshl v2 (23 : Int32)) ||| v4)]) rfl (fun out h => kX2_signedFloat (kl κ) s0 ((jlshl v2 (23 : Int32)) ||| v4) out h) (by decide) rfl (Nat.le_of_ble_eq_true rfl) dX2_floatOfDouble_49 hf (fun r49 _ hf => ?_)
    exact g_lretp (pc := 52) C hQ dX2_floatOfDouble_52 hf
  refine g_lload_n (pc := 0) (i := 0) (j := 0) C dX2_floatOfDouble_0 rfl rfl ?_
  refine g_lconst (pc := 1) C dX2_floatOfDouble_1 cl_0 ?_
  refine g_lcmp_ne (pc := 2) (tgt := 8) C dX2_floatOfDouble_2 dX2_floatOfDouble_3 rfl hf (fun _ hf => ?_) (fun _ hf => ?_)
  · refine g_lload_n (pc := 8) (i := 0) (j := 0) C dX2_floatOfDouble_8 rfl rfl ?_
    refine g_bipush (pc := 9) C dX2_floatOfDouble_9 cb_52 ?_
    refine g_lshr (pc := 11) C dX2_floatOfDouble_11 ?_
    refine g_ldc2 (pc := 12) C cnX2_118 dX2_floatOfDouble_12 ?_
    refine g_land (pc := 15) C dX2_floatOfDouble_15 ?_
    refine g_ldc2 (pc := 16) C cnX2_114 dX2_floatOfDouble_16 ?_
    refine g_lsub (pc := 19) C dX2_floatOfDouble_19 ?_
    refine g_lstore_n (pc := 20) (i := 2) (L' := [(2, .long (((jlshr p1 (52 : Int32)) &&& (2047 : Int64)) - (896 : Int64))), (0, .long p1)]) C dX2_floatOfDouble_20 rfl (by decide) rfl ?_
    refine g_lload_n (pc := 21) (i := 0) (j := 1) C dX2_floatOfDouble_21 rfl rfl ?_
    refine g_ldc2 (pc := 22) C cnX2_120 dX2_floatOfDouble_22 ?_
    refine g_land (pc := 25) C dX2_floatOfDouble_25 ?_
    refine g_bipush (pc := 26) C dX2_floatOfDouble_26 cb_29 ?_
    refine g_lshr (pc := 28) C dX2_floatOfDouble_28 ?_
    refine g_lstore (pc := 29) (i := 4) (L' := [(4, .long (jlshr (p1 &&& (4503599627370495 : Int64)) (29 : Int32))), (2, .long (((jlshr p1 (52 : Int32)) &&& (2047 : Int64)) - (896 : Int64))), (0, .long p1)]) C dX2_floatOfDouble_29 (by decide) rfl ?_
    refine g_lload_n (pc := 31) (i := 0) (j := 2) C dX2_floatOfDouble_31 rfl rfl ?_
    refine g_lconst (pc := 32) C dX2_floatOfDouble_32 cl_0 ?_
    refine g_lcmp_ge (pc := 33) (tgt := 41) C dX2_floatOfDouble_33 dX2_floatOfDouble_34 rfl hf (fun _ hf => ?_) (fun _ hf => ?_)
    · refine g_iconst (pc := 41) C dX2_floatOfDouble_41 ci_0 ?_
      exact g_at [1, 0] rfl (b42 (((jlshr p1 (52 : Int32)) &&& (2047 : Int64)) - (896 : Int64)) (jlshr (p1 &&& (4503599627370495 : Int64)) (29 : Int32)) (0 : Int32) hf)
    · refine g_iconst (pc := 37) C dX2_floatOfDouble_37 ci_1 ?_
      refine g_goto (pc := 38) (tgt := 42) C dX2_floatOfDouble_38 rfl ?_
      exact g_at [1, 0] rfl (b42 (((jlshr p1 (52 : Int32)) &&& (2047 : Int64)) - (896 : Int64)) (jlshr (p1 &&& (4503599627370495 : Int64)) (29 : Int32)) (1 : Int32) hf)
  · refine g_lconst (pc := 6) C dX2_floatOfDouble_6 cl_0 ?_
    exact g_lretp (pc := 7) C hQ dX2_floatOfDouble_7 hf
theorem dX2_significand_0 : decode cX2_significand 0 = .ok (.lload_n 0, 1) := by decide +kernel
theorem dX2_significand_1 : decode cX2_significand 1 = .ok (.ldc2_w 120, 3) := by decide +kernel
theorem dX2_significand_4 : decode cX2_significand 4 = .ok (.land, 1) := by decide +kernel
theorem dX2_significand_5 : decode cX2_significand 5 = .ok (.ldc2_w 130, 3) := by decide +kernel
theorem dX2_significand_8 : decode cX2_significand 8 = .ok (.lor, 1) := by decide +kernel
theorem dX2_significand_9 : decode cX2_significand 9 = .ok (.lreturn, 1) := by decide +kernel
def fX2_significand (p1 : Int64) : Option Int64 := some ((p1 &&& (4503599627370495 : Int64)) ||| (4503599627370496 : Int64))
set_option maxRecDepth 100000 in
set_option maxHeartbeats 4000000 in
theorem kX2_significand (l : Launch) (p1 : Int64) (out : Int64) (hf : fX2_significand p1 = some out) : Sq l yX2_significand cX2_significand 2 (some .long) 0 [.long p1] (some (.long out)) := by
  refine Sq.of [(0, .long p1)] rfl (by decide +kernel) (Nat.le_of_ble_eq_true rfl) ?_
  intro κ hκ C hQ
  subst hκ
  replace C : Cf κ cX2_significand 2 RX2 (some .long) 0 := C
  refine g_lload_n (pc := 0) (i := 0) (j := 0) C dX2_significand_0 rfl rfl ?_
  refine g_ldc2 (pc := 1) C cnX2_120 dX2_significand_1 ?_
  refine g_land (pc := 4) C dX2_significand_4 ?_
  refine g_ldc2 (pc := 5) C cnX2_130 dX2_significand_5 ?_
  refine g_lor (pc := 8) C dX2_significand_8 ?_
  exact g_lretp (pc := 9) C hQ dX2_significand_9 hf
theorem dX2_hasWhole_0 : decode cX2_hasWhole 0 = .ok (.lload_n 0, 1) := by decide +kernel
theorem dX2_hasWhole_1 : decode cX2_hasWhole 1 = .ok (.lconst 0, 1) := by decide +kernel
theorem dX2_hasWhole_2 : decode cX2_hasWhole 2 = .ok (.lcmp, 1) := by decide +kernel
theorem dX2_hasWhole_3 : decode cX2_hasWhole 3 = .ok (.ifCond .ne 5, 3) := by decide +kernel
theorem dX2_hasWhole_6 : decode cX2_hasWhole 6 = .ok (.iconst 1, 1) := by decide +kernel
theorem dX2_hasWhole_7 : decode cX2_hasWhole 7 = .ok (.ireturn, 1) := by decide +kernel
theorem dX2_hasWhole_8 : decode cX2_hasWhole 8 = .ok (.lload_n 0, 1) := by decide +kernel
theorem dX2_hasWhole_9 : decode cX2_hasWhole 9 = .ok (.invokestatic 122, 3) := by decide +kernel
theorem dX2_hasWhole_12 : decode cX2_hasWhole 12 = .ok (.istore_n 2, 1) := by decide +kernel
theorem dX2_hasWhole_13 : decode cX2_hasWhole 13 = .ok (.iload_n 2, 1) := by decide +kernel
theorem dX2_hasWhole_14 : decode cX2_hasWhole 14 = .ok (.ifCond .lt 9, 3) := by decide +kernel
theorem dX2_hasWhole_17 : decode cX2_hasWhole 17 = .ok (.iload_n 2, 1) := by decide +kernel
theorem dX2_hasWhole_18 : decode cX2_hasWhole 18 = .ok (.bipush 62, 2) := by decide +kernel
theorem dX2_hasWhole_20 : decode cX2_hasWhole 20 = .ok (.if_icmp .le 17, 3) := by decide +kernel
theorem dX2_hasWhole_23 : decode cX2_hasWhole 23 = .ok (.lload_n 0, 1) := by decide +kernel
theorem dX2_hasWhole_24 : decode cX2_hasWhole 24 = .ok (.ldc2_w 125, 3) := by decide +kernel
theorem dX2_hasWhole_27 : decode cX2_hasWhole 27 = .ok (.lcmp, 1) := by decide +kernel
theorem dX2_hasWhole_28 : decode cX2_hasWhole 28 = .ok (.ifCond .ne 7, 3) := by decide +kernel
theorem dX2_hasWhole_31 : decode cX2_hasWhole 31 = .ok (.iconst 1, 1) := by decide +kernel
theorem dX2_hasWhole_32 : decode cX2_hasWhole 32 = .ok (.goto 4, 3) := by decide +kernel
theorem dX2_hasWhole_35 : decode cX2_hasWhole 35 = .ok (.iconst 0, 1) := by decide +kernel
theorem dX2_hasWhole_36 : decode cX2_hasWhole 36 = .ok (.ireturn, 1) := by decide +kernel
theorem dX2_hasWhole_37 : decode cX2_hasWhole 37 = .ok (.iload_n 2, 1) := by decide +kernel
theorem dX2_hasWhole_38 : decode cX2_hasWhole 38 = .ok (.bipush 52, 2) := by decide +kernel
theorem dX2_hasWhole_40 : decode cX2_hasWhole 40 = .ok (.if_icmp .ge 21, 3) := by decide +kernel
theorem dX2_hasWhole_43 : decode cX2_hasWhole 43 = .ok (.lload_n 0, 1) := by decide +kernel
theorem dX2_hasWhole_44 : decode cX2_hasWhole 44 = .ok (.invokestatic 127, 3) := by decide +kernel
theorem dX2_hasWhole_47 : decode cX2_hasWhole 47 = .ok (.lconst 1, 1) := by decide +kernel
theorem dX2_hasWhole_48 : decode cX2_hasWhole 48 = .ok (.bipush 52, 2) := by decide +kernel
theorem dX2_hasWhole_50 : decode cX2_hasWhole 50 = .ok (.iload_n 2, 1) := by decide +kernel
theorem dX2_hasWhole_51 : decode cX2_hasWhole 51 = .ok (.isub, 1) := by decide +kernel
theorem dX2_hasWhole_52 : decode cX2_hasWhole 52 = .ok (.lshl, 1) := by decide +kernel
theorem dX2_hasWhole_53 : decode cX2_hasWhole 53 = .ok (.lconst 1, 1) := by decide +kernel
theorem dX2_hasWhole_54 : decode cX2_hasWhole 54 = .ok (.lsub, 1) := by decide +kernel
theorem dX2_hasWhole_55 : decode cX2_hasWhole 55 = .ok (.land, 1) := by decide +kernel
theorem dX2_hasWhole_56 : decode cX2_hasWhole 56 = .ok (.lconst 0, 1) := by decide +kernel
theorem dX2_hasWhole_57 : decode cX2_hasWhole 57 = .ok (.lcmp, 1) := by decide +kernel
theorem dX2_hasWhole_58 : decode cX2_hasWhole 58 = .ok (.ifCond .ne 7, 3) := by decide +kernel
theorem dX2_hasWhole_61 : decode cX2_hasWhole 61 = .ok (.iconst 1, 1) := by decide +kernel
theorem dX2_hasWhole_62 : decode cX2_hasWhole 62 = .ok (.goto 4, 3) := by decide +kernel
theorem dX2_hasWhole_65 : decode cX2_hasWhole 65 = .ok (.iconst 0, 1) := by decide +kernel
theorem dX2_hasWhole_66 : decode cX2_hasWhole 66 = .ok (.ireturn, 1) := by decide +kernel
def fX2_hasWhole_b23 (v0 : Int64) : Option Int32 := (if v0 = (-4332462841530417152 : Int64) then some (1 : Int32) else some (0 : Int32))
def fX2_hasWhole (p1 : Int64) : Option Int32 := (if p1 = (0 : Int64) then some (1 : Int32) else ((fX2_exponentOf p1).bind fun r9 => (if r9 < 0 then fX2_hasWhole_b23 p1 else (if r9 ≤ (62 : Int32) then (if (52 : Int32) ≤ r9 then some (1 : Int32) else ((fX2_significand p1).bind fun r44 => (if (r44 &&& ((jlshl (1 : Int64) ((52 : Int32) - r9)) - (1 : Int64))) = (0 : Int64) then some (1 : Int32) else some (0 : Int32)))) else fX2_hasWhole_b23 p1))))
set_option maxRecDepth 100000 in
set_option maxHeartbeats 4000000 in
theorem kX2_hasWhole (l : Launch) (p1 : Int64) (out : Int32) (hf : fX2_hasWhole p1 = some out) : Sq l yX2_hasWhole cX2_hasWhole 3 (some .boolean) 1 [.long p1] (some (.int out)) := by
  refine Sq.of [(0, .long p1)] rfl (by decide +kernel) (Nat.le_of_ble_eq_true rfl) ?_
  intro κ hκ C hQ
  subst hκ
  replace C : Cf κ cX2_hasWhole 3 RX2 (some .boolean) 1 := C
  have b23 : ∀ (v0 : Int64) , fX2_hasWhole_b23 v0 = some out → G κ (Vp κ) 3 23 [(0, .long v0)] [] := by
    intro v0 hf
    refine g_lload_n (pc := 23) (i := 0) (j := 0) C dX2_hasWhole_23 rfl rfl ?_
    refine g_ldc2 (pc := 24) C cnX2_125 dX2_hasWhole_24 ?_
    refine g_lcmp_ne (pc := 27) (tgt := 35) C dX2_hasWhole_27 dX2_hasWhole_28 rfl hf (fun _ hf => ?_) (fun _ hf => ?_)
    · refine g_iconst (pc := 35) C dX2_hasWhole_35 ci_0 ?_
      exact g_zret1p (pc := 36) C rfl hQ dX2_hasWhole_36 hf
    · refine g_iconst (pc := 31) C dX2_hasWhole_31 ci_1 ?_
      refine g_goto (pc := 32) (tgt := 36) C dX2_hasWhole_32 rfl ?_
      exact g_zret1p (pc := 36) C rfl hQ dX2_hasWhole_36 hf
  refine g_lload_n (pc := 0) (i := 0) (j := 0) C dX2_hasWhole_0 rfl rfl ?_
  refine g_lconst (pc := 1) C dX2_hasWhole_1 cl_0 ?_
  refine g_lcmp_ne (pc := 2) (tgt := 8) C dX2_hasWhole_2 dX2_hasWhole_3 rfl hf (fun _ hf => ?_) (fun _ hf => ?_)
  · refine g_lload_n (pc := 8) (i := 0) (j := 0) C dX2_hasWhole_8 rfl rfl ?_
    refine g_cpi (pc := 9) (st := []) C lkX2_122 (As := [.long p1]) rfl (fun out h => kX2_exponentOf (kl κ) p1 out h) (by decide) rfl (Nat.le_of_ble_eq_true rfl) dX2_hasWhole_9 hf (fun r9 _ hf => ?_)
    refine g_istore_n (pc := 12) (i := 2) (L' := [(2, .int r9), (0, .long p1)]) C dX2_hasWhole_12 rfl (by decide) rfl ?_
    refine g_iload_n (pc := 13) (i := 2) (j := 0) C dX2_hasWhole_13 rfl rfl ?_
    refine g_if_lt (pc := 14) (tgt := 23) C dX2_hasWhole_14 rfl hf (fun _ hf => ?_) (fun _ hf => ?_)
    · exact g_at [1] rfl (b23 p1 hf)
    · refine g_iload_n (pc := 17) (i := 2) (j := 0) C dX2_hasWhole_17 rfl rfl ?_
      refine g_bipush (pc := 18) C dX2_hasWhole_18 cb_62 ?_
      refine g_icmp_le (pc := 20) (tgt := 37) C dX2_hasWhole_20 rfl hf (fun _ hf => ?_) (fun _ hf => ?_)
      · refine g_iload_n (pc := 37) (i := 2) (j := 0) C dX2_hasWhole_37 rfl rfl ?_
        refine g_bipush (pc := 38) C dX2_hasWhole_38 cb_52 ?_
        refine g_icmp_ge (pc := 40) (tgt := 61) C dX2_hasWhole_40 rfl hf (fun _ hf => ?_) (fun _ hf => ?_)
        · refine g_iconst (pc := 61) C dX2_hasWhole_61 ci_1 ?_
          refine g_goto (pc := 62) (tgt := 66) C dX2_hasWhole_62 rfl ?_
          exact g_zret1p (pc := 66) C rfl hQ dX2_hasWhole_66 hf
        · refine g_lload_n (pc := 43) (i := 0) (j := 1) C dX2_hasWhole_43 rfl rfl ?_
          refine g_cpl (pc := 44) (st := []) C lkX2_127 (As := [.long p1]) rfl (fun out h => kX2_significand (kl κ) p1 out h) (by decide) rfl (Nat.le_of_ble_eq_true rfl) dX2_hasWhole_44 hf (fun r44 _ hf => ?_)
          refine g_lconst (pc := 47) C dX2_hasWhole_47 cl_1 ?_
          refine g_bipush (pc := 48) C dX2_hasWhole_48 cb_52 ?_
          refine g_iload_n (pc := 50) (i := 2) (j := 0) C dX2_hasWhole_50 rfl rfl ?_
          refine g_isub (pc := 51) C dX2_hasWhole_51 ?_
          refine g_lshl (pc := 52) C dX2_hasWhole_52 ?_
          refine g_lconst (pc := 53) C dX2_hasWhole_53 cl_1 ?_
          refine g_lsub (pc := 54) C dX2_hasWhole_54 ?_
          refine g_land (pc := 55) C dX2_hasWhole_55 ?_
          refine g_lconst (pc := 56) C dX2_hasWhole_56 cl_0 ?_
          refine g_lcmp_ne (pc := 57) (tgt := 65) C dX2_hasWhole_57 dX2_hasWhole_58 rfl hf (fun _ hf => ?_) (fun _ hf => ?_)
          · refine g_iconst (pc := 65) C dX2_hasWhole_65 ci_0 ?_
            exact g_zret1p (pc := 66) C rfl hQ dX2_hasWhole_66 hf
          · refine g_iconst (pc := 61) C dX2_hasWhole_61 ci_1 ?_
            refine g_goto (pc := 62) (tgt := 66) C dX2_hasWhole_62 rfl ?_
            exact g_zret1p (pc := 66) C rfl hQ dX2_hasWhole_66 hf
      · exact g_at [1] rfl (b23 p1 hf)
  · refine g_iconst (pc := 6) C dX2_hasWhole_6 ci_1 ?_
    exact g_zret1p (pc := 7) C rfl hQ dX2_hasWhole_7 hf
theorem dX2_highest_0 : decode cX2_highest 0 = .ok (.iload_n 0, 1) := by decide +kernel
theorem dX2_highest_1 : decode cX2_highest 1 = .ok (.tableswitch 81 0 10 #[59, 61, 65, 69, 73, 81, 81, 81, 81, 81, 77], 59) := by decide +kernel
theorem dX2_highest_60 : decode cX2_highest 60 = .ok (.lconst 1, 1) := by decide +kernel
theorem dX2_highest_61 : decode cX2_highest 61 = .ok (.lreturn, 1) := by decide +kernel
theorem dX2_highest_62 : decode cX2_highest 62 = .ok (.ldc2_w 74, 3) := by decide +kernel
theorem dX2_highest_65 : decode cX2_highest 65 = .ok (.lreturn, 1) := by decide +kernel
theorem dX2_highest_66 : decode cX2_highest 66 = .ok (.ldc2_w 76, 3) := by decide +kernel
theorem dX2_highest_69 : decode cX2_highest 69 = .ok (.lreturn, 1) := by decide +kernel
theorem dX2_highest_70 : decode cX2_highest 70 = .ok (.ldc2_w 78, 3) := by decide +kernel
theorem dX2_highest_73 : decode cX2_highest 73 = .ok (.lreturn, 1) := by decide +kernel
theorem dX2_highest_74 : decode cX2_highest 74 = .ok (.ldc2_w 80, 3) := by decide +kernel
theorem dX2_highest_77 : decode cX2_highest 77 = .ok (.lreturn, 1) := by decide +kernel
theorem dX2_highest_78 : decode cX2_highest 78 = .ok (.ldc2_w 82, 3) := by decide +kernel
theorem dX2_highest_81 : decode cX2_highest 81 = .ok (.lreturn, 1) := by decide +kernel
theorem dX2_highest_82 : decode cX2_highest 82 = .ok (.ldc2_w 84, 3) := by decide +kernel
theorem dX2_highest_85 : decode cX2_highest 85 = .ok (.lreturn, 1) := by decide +kernel
def fX2_highest (p1 : Int32) : Option Int64 := (if p1 = 0 then some (1 : Int64) else (if p1 = 1 then some (127 : Int64) else (if p1 = 2 then some (65535 : Int64) else (if p1 = 3 then some (32767 : Int64) else (if p1 = 4 then some (2147483647 : Int64) else (if p1 = 5 then some (9223372036854775807 : Int64) else (if p1 = 6 then some (9223372036854775807 : Int64) else (if p1 = 7 then some (9223372036854775807 : Int64) else (if p1 = 8 then some (9223372036854775807 : Int64) else (if p1 = 9 then some (9223372036854775807 : Int64) else (if p1 = 10 then some (9999 : Int64) else some (9223372036854775807 : Int64))))))))))))
set_option maxRecDepth 100000 in
set_option maxHeartbeats 4000000 in
theorem kX2_highest (l : Launch) (p1 : Int32) (out : Int64) (hf : fX2_highest p1 = some out) : Sq l yX2_highest cX2_highest 1 (some .long) 0 [.int p1] (some (.long out)) := by
  refine Sq.of [(0, .int p1)] rfl (by decide +kernel) (Nat.le_of_ble_eq_true rfl) ?_
  intro κ hκ C hQ
  subst hκ
  replace C : Cf κ cX2_highest 1 RX2 (some .long) 0 := C
  refine g_iload_n (pc := 0) (i := 0) (j := 0) C dX2_highest_0 rfl rfl ?_
  by_cases h1_0 : p1 = 0
  · replace hf := ite_t h1_0 hf
    refine g_tabIn (pc := 1) (v := 0) (off := 59) (tgt := 60) C dX2_highest_1 h1_0 (by decide) rfl ?_
    refine g_lconst (pc := 60) C dX2_highest_60 cl_1 ?_
    exact g_lretp (pc := 61) C hQ dX2_highest_61 hf
  replace hf := ite_f h1_0 hf
  by_cases h1_1 : p1 = 1
  · replace hf := ite_t h1_1 hf
    refine g_tabIn (pc := 1) (v := 1) (off := 61) (tgt := 62) C dX2_highest_1 h1_1 (by decide) rfl ?_
    refine g_ldc2 (pc := 62) C cnX2_74 dX2_highest_62 ?_
    exact g_lretp (pc := 65) C hQ dX2_highest_65 hf
  replace hf := ite_f h1_1 hf
  by_cases h1_2 : p1 = 2
  · replace hf := ite_t h1_2 hf
    refine g_tabIn (pc := 1) (v := 2) (off := 65) (tgt := 66) C dX2_highest_1 h1_2 (by decide) rfl ?_
    refine g_ldc2 (pc := 66) C cnX2_76 dX2_highest_66 ?_
    exact g_lretp (pc := 69) C hQ dX2_highest_69 hf
  replace hf := ite_f h1_2 hf
  by_cases h1_3 : p1 = 3
  · replace hf := ite_t h1_3 hf
    refine g_tabIn (pc := 1) (v := 3) (off := 69) (tgt := 70) C dX2_highest_1 h1_3 (by decide) rfl ?_
    refine g_ldc2 (pc := 70) C cnX2_78 dX2_highest_70 ?_
    exact g_lretp (pc := 73) C hQ dX2_highest_73 hf
  replace hf := ite_f h1_3 hf
  by_cases h1_4 : p1 = 4
  · replace hf := ite_t h1_4 hf
    refine g_tabIn (pc := 1) (v := 4) (off := 73) (tgt := 74) C dX2_highest_1 h1_4 (by decide) rfl ?_
    refine g_ldc2 (pc := 74) C cnX2_80 dX2_highest_74 ?_
    exact g_lretp (pc := 77) C hQ dX2_highest_77 hf
  replace hf := ite_f h1_4 hf
  by_cases h1_5 : p1 = 5
  · replace hf := ite_t h1_5 hf
    refine g_tabIn (pc := 1) (v := 5) (off := 81) (tgt := 82) C dX2_highest_1 h1_5 (by decide) rfl ?_
    refine g_ldc2 (pc := 82) C cnX2_84 dX2_highest_82 ?_
    exact g_lretp (pc := 85) C hQ dX2_highest_85 hf
  replace hf := ite_f h1_5 hf
  by_cases h1_6 : p1 = 6
  · replace hf := ite_t h1_6 hf
    refine g_tabIn (pc := 1) (v := 6) (off := 81) (tgt := 82) C dX2_highest_1 h1_6 (by decide) rfl ?_
    refine g_ldc2 (pc := 82) C cnX2_84 dX2_highest_82 ?_
    exact g_lretp (pc := 85) C hQ dX2_highest_85 hf
  replace hf := ite_f h1_6 hf
  by_cases h1_7 : p1 = 7
  · replace hf := ite_t h1_7 hf
    refine g_tabIn (pc := 1) (v := 7) (off := 81) (tgt := 82) C dX2_highest_1 h1_7 (by decide) rfl ?_
    refine g_ldc2 (pc := 82) C cnX2_84 dX2_highest_82 ?_
    exact g_lretp (pc := 85) C hQ dX2_highest_85 hf
  replace hf := ite_f h1_7 hf
  by_cases h1_8 : p1 = 8
  · replace hf := ite_t h1_8 hf
    refine g_tabIn (pc := 1) (v := 8) (off := 81) (tgt := 82) C dX2_highest_1 h1_8 (by decide) rfl ?_
    refine g_ldc2 (pc := 82) C cnX2_84 dX2_highest_82 ?_
    exact g_lretp (pc := 85) C hQ dX2_highest_85 hf
  replace hf := ite_f h1_8 hf
  by_cases h1_9 : p1 = 9
  · replace hf := ite_t h1_9 hf
    refine g_tabIn (pc := 1) (v := 9) (off := 81) (tgt := 82) C dX2_highest_1 h1_9 (by decide) rfl ?_
    refine g_ldc2 (pc := 82) C cnX2_84 dX2_highest_82 ?_
    exact g_lretp (pc := 85) C hQ dX2_highest_85 hf
  replace hf := ite_f h1_9 hf
  by_cases h1_10 : p1 = 10
  · replace hf := ite_t h1_10 hf
    refine g_tabIn (pc := 1) (v := 10) (off := 77) (tgt := 78) C dX2_highest_1 h1_10 (by decide) rfl ?_
    refine g_ldc2 (pc := 78) C cnX2_82 dX2_highest_78 ?_
    exact g_lretp (pc := 81) C hQ dX2_highest_81 hf
  replace hf := ite_f h1_10 hf
  have e1_0 := i32_ne (n := 0) h1_0 (by decide)
  have e1_1 := i32_ne (n := 1) h1_1 (by decide)
  have e1_2 := i32_ne (n := 2) h1_2 (by decide)
  have e1_3 := i32_ne (n := 3) h1_3 (by decide)
  have e1_4 := i32_ne (n := 4) h1_4 (by decide)
  have e1_5 := i32_ne (n := 5) h1_5 (by decide)
  have e1_6 := i32_ne (n := 6) h1_6 (by decide)
  have e1_7 := i32_ne (n := 7) h1_7 (by decide)
  have e1_8 := i32_ne (n := 8) h1_8 (by decide)
  have e1_9 := i32_ne (n := 9) h1_9 (by decide)
  have e1_10 := i32_ne (n := 10) h1_10 (by decide)
  refine g_tabOut (pc := 1) (tgt := 82) C dX2_highest_1 (by omega) rfl ?_
  refine g_ldc2 (pc := 82) C cnX2_84 dX2_highest_82 ?_
  exact g_lretp (pc := 85) C hQ dX2_highest_85 hf
theorem dX2_lowest_0 : decode cX2_lowest 0 = .ok (.iload_n 0, 1) := by decide +kernel
theorem dX2_lowest_1 : decode cX2_lowest 1 = .ok (.tableswitch 59 1 7 #[43, 59, 47, 51, 55, 55, 55], 43) := by decide +kernel
theorem dX2_lowest_44 : decode cX2_lowest 44 = .ok (.ldc2_w 66, 3) := by decide +kernel
theorem dX2_lowest_47 : decode cX2_lowest 47 = .ok (.lreturn, 1) := by decide +kernel
theorem dX2_lowest_48 : decode cX2_lowest 48 = .ok (.ldc2_w 68, 3) := by decide +kernel
theorem dX2_lowest_51 : decode cX2_lowest 51 = .ok (.lreturn, 1) := by decide +kernel
theorem dX2_lowest_52 : decode cX2_lowest 52 = .ok (.ldc2_w 70, 3) := by decide +kernel
theorem dX2_lowest_55 : decode cX2_lowest 55 = .ok (.lreturn, 1) := by decide +kernel
theorem dX2_lowest_56 : decode cX2_lowest 56 = .ok (.ldc2_w 72, 3) := by decide +kernel
theorem dX2_lowest_59 : decode cX2_lowest 59 = .ok (.lreturn, 1) := by decide +kernel
theorem dX2_lowest_60 : decode cX2_lowest 60 = .ok (.lconst 0, 1) := by decide +kernel
theorem dX2_lowest_61 : decode cX2_lowest 61 = .ok (.lreturn, 1) := by decide +kernel
def fX2_lowest (p1 : Int32) : Option Int64 := (if p1 = 1 then some (-128 : Int64) else (if p1 = 2 then some (0 : Int64) else (if p1 = 3 then some (-32768 : Int64) else (if p1 = 4 then some (-2147483648 : Int64) else (if p1 = 5 then some (-9223372036854775808 : Int64) else (if p1 = 6 then some (-9223372036854775808 : Int64) else (if p1 = 7 then some (-9223372036854775808 : Int64) else some (0 : Int64))))))))
set_option maxRecDepth 100000 in
set_option maxHeartbeats 4000000 in
theorem kX2_lowest (l : Launch) (p1 : Int32) (out : Int64) (hf : fX2_lowest p1 = some out) : Sq l yX2_lowest cX2_lowest 1 (some .long) 0 [.int p1] (some (.long out)) := by
  refine Sq.of [(0, .int p1)] rfl (by decide +kernel) (Nat.le_of_ble_eq_true rfl) ?_
  intro κ hκ C hQ
  subst hκ
  replace C : Cf κ cX2_lowest 1 RX2 (some .long) 0 := C
  refine g_iload_n (pc := 0) (i := 0) (j := 0) C dX2_lowest_0 rfl rfl ?_
  by_cases h1_0 : p1 = 1
  · replace hf := ite_t h1_0 hf
    refine g_tabIn (pc := 1) (v := 1) (off := 43) (tgt := 44) C dX2_lowest_1 h1_0 (by decide) rfl ?_
    refine g_ldc2 (pc := 44) C cnX2_66 dX2_lowest_44 ?_
    exact g_lretp (pc := 47) C hQ dX2_lowest_47 hf
  replace hf := ite_f h1_0 hf
  by_cases h1_1 : p1 = 2
  · replace hf := ite_t h1_1 hf
    refine g_tabIn (pc := 1) (v := 2) (off := 59) (tgt := 60) C dX2_lowest_1 h1_1 (by decide) rfl ?_
    refine g_lconst (pc := 60) C dX2_lowest_60 cl_0 ?_
    exact g_lretp (pc := 61) C hQ dX2_lowest_61 hf
  replace hf := ite_f h1_1 hf
  by_cases h1_2 : p1 = 3
  · replace hf := ite_t h1_2 hf
    refine g_tabIn (pc := 1) (v := 3) (off := 47) (tgt := 48) C dX2_lowest_1 h1_2 (by decide) rfl ?_
    refine g_ldc2 (pc := 48) C cnX2_68 dX2_lowest_48 ?_
    exact g_lretp (pc := 51) C hQ dX2_lowest_51 hf
  replace hf := ite_f h1_2 hf
  by_cases h1_3 : p1 = 4
  · replace hf := ite_t h1_3 hf
    refine g_tabIn (pc := 1) (v := 4) (off := 51) (tgt := 52) C dX2_lowest_1 h1_3 (by decide) rfl ?_
    refine g_ldc2 (pc := 52) C cnX2_70 dX2_lowest_52 ?_
    exact g_lretp (pc := 55) C hQ dX2_lowest_55 hf
  replace hf := ite_f h1_3 hf
  by_cases h1_4 : p1 = 5
  · replace hf := ite_t h1_4 hf
    refine g_tabIn (pc := 1) (v := 5) (off := 55) (tgt := 56) C dX2_lowest_1 h1_4 (by decide) rfl ?_
    refine g_ldc2 (pc := 56) C cnX2_72 dX2_lowest_56 ?_
    exact g_lretp (pc := 59) C hQ dX2_lowest_59 hf
  replace hf := ite_f h1_4 hf
  by_cases h1_5 : p1 = 6
  · replace hf := ite_t h1_5 hf
    refine g_tabIn (pc := 1) (v := 6) (off := 55) (tgt := 56) C dX2_lowest_1 h1_5 (by decide) rfl ?_
    refine g_ldc2 (pc := 56) C cnX2_72 dX2_lowest_56 ?_
    exact g_lretp (pc := 59) C hQ dX2_lowest_59 hf
  replace hf := ite_f h1_5 hf
  by_cases h1_6 : p1 = 7
  · replace hf := ite_t h1_6 hf
    refine g_tabIn (pc := 1) (v := 7) (off := 55) (tgt := 56) C dX2_lowest_1 h1_6 (by decide) rfl ?_
    refine g_ldc2 (pc := 56) C cnX2_72 dX2_lowest_56 ?_
    exact g_lretp (pc := 59) C hQ dX2_lowest_59 hf
  replace hf := ite_f h1_6 hf
  have e1_0 := i32_ne (n := 1) h1_0 (by decide)
  have e1_1 := i32_ne (n := 2) h1_1 (by decide)
  have e1_2 := i32_ne (n := 3) h1_2 (by decide)
  have e1_3 := i32_ne (n := 4) h1_3 (by decide)
  have e1_4 := i32_ne (n := 5) h1_4 (by decide)
  have e1_5 := i32_ne (n := 6) h1_5 (by decide)
  have e1_6 := i32_ne (n := 7) h1_6 (by decide)
  refine g_tabOut (pc := 1) (tgt := 60) C dX2_lowest_1 (by omega) rfl ?_
  refine g_lconst (pc := 60) C dX2_lowest_60 cl_0 ?_
  exact g_lretp (pc := 61) C hQ dX2_lowest_61 hf
theorem dX2_isBetween_0 : decode cX2_isBetween 0 = .ok (.lload_n 0, 1) := by decide +kernel
theorem dX2_isBetween_1 : decode cX2_isBetween 1 = .ok (.iload_n 2, 1) := by decide +kernel
theorem dX2_isBetween_2 : decode cX2_isBetween 2 = .ok (.invokestatic 86, 3) := by decide +kernel
theorem dX2_isBetween_5 : decode cX2_isBetween 5 = .ok (.lcmp, 1) := by decide +kernel
theorem dX2_isBetween_6 : decode cX2_isBetween 6 = .ok (.ifCond .lt 16, 3) := by decide +kernel
theorem dX2_isBetween_9 : decode cX2_isBetween 9 = .ok (.lload_n 0, 1) := by decide +kernel
theorem dX2_isBetween_10 : decode cX2_isBetween 10 = .ok (.iload_n 2, 1) := by decide +kernel
theorem dX2_isBetween_11 : decode cX2_isBetween 11 = .ok (.invokestatic 90, 3) := by decide +kernel
theorem dX2_isBetween_14 : decode cX2_isBetween 14 = .ok (.lcmp, 1) := by decide +kernel
theorem dX2_isBetween_15 : decode cX2_isBetween 15 = .ok (.ifCond .gt 7, 3) := by decide +kernel
theorem dX2_isBetween_18 : decode cX2_isBetween 18 = .ok (.iconst 1, 1) := by decide +kernel
theorem dX2_isBetween_19 : decode cX2_isBetween 19 = .ok (.goto 4, 3) := by decide +kernel
theorem dX2_isBetween_22 : decode cX2_isBetween 22 = .ok (.iconst 0, 1) := by decide +kernel
theorem dX2_isBetween_23 : decode cX2_isBetween 23 = .ok (.ireturn, 1) := by decide +kernel
def fX2_isBetween (p1 : Int64) (p2 : Int32) : Option Int32 := ((fX2_lowest p2).bind fun r2 => (if p1 < r2 then some (0 : Int32) else ((fX2_highest p2).bind fun r11 => (if r11 < p1 then some (0 : Int32) else some (1 : Int32)))))
set_option maxRecDepth 100000 in
set_option maxHeartbeats 4000000 in
theorem kX2_isBetween (l : Launch) (p1 : Int64) (p2 : Int32) (out : Int32) (hf : fX2_isBetween p1 p2 = some out) : Sq l yX2_isBetween cX2_isBetween 3 (some .boolean) 1 [.long p1, .int p2] (some (.int out)) := by
  refine Sq.of [(0, .long p1), (2, .int p2)] rfl (by decide +kernel) (Nat.le_of_ble_eq_true rfl) ?_
  intro κ hκ C hQ
  subst hκ
  replace C : Cf κ cX2_isBetween 3 RX2 (some .boolean) 1 := C
  refine g_lload_n (pc := 0) (i := 0) (j := 0) C dX2_isBetween_0 rfl rfl ?_
  refine g_iload_n (pc := 1) (i := 2) (j := 1) C dX2_isBetween_1 rfl rfl ?_
  refine g_cpl (pc := 2) (st := [.long p1]) C lkX2_86 (As := [.int p2]) rfl (fun out h => kX2_lowest (kl κ) p2 out h) (by decide) rfl (Nat.le_of_ble_eq_true rfl) dX2_isBetween_2 hf (fun r2 _ hf => ?_)
  refine g_lcmp_lt (pc := 5) (tgt := 22) C dX2_isBetween_5 dX2_isBetween_6 rfl hf (fun _ hf => ?_) (fun _ hf => ?_)
  · refine g_iconst (pc := 22) C dX2_isBetween_22 ci_0 ?_
    exact g_zret1p (pc := 23) C rfl hQ dX2_isBetween_23 hf
  · refine g_lload_n (pc := 9) (i := 0) (j := 0) C dX2_isBetween_9 rfl rfl ?_
    refine g_iload_n (pc := 10) (i := 2) (j := 1) C dX2_isBetween_10 rfl rfl ?_
    refine g_cpl (pc := 11) (st := [.long p1]) C lkX2_90 (As := [.int p2]) rfl (fun out h => kX2_highest (kl κ) p2 out h) (by decide) rfl (Nat.le_of_ble_eq_true rfl) dX2_isBetween_11 hf (fun r11 _ hf => ?_)
    refine g_lcmp_gt (pc := 14) (tgt := 22) C dX2_isBetween_14 dX2_isBetween_15 rfl hf (fun _ hf => ?_) (fun _ hf => ?_)
    · refine g_iconst (pc := 22) C dX2_isBetween_22 ci_0 ?_
      exact g_zret1p (pc := 23) C rfl hQ dX2_isBetween_23 hf
    · refine g_iconst (pc := 18) C dX2_isBetween_18 ci_1 ?_
      refine g_goto (pc := 19) (tgt := 23) C dX2_isBetween_19 rfl ?_
      exact g_zret1p (pc := 23) C rfl hQ dX2_isBetween_23 hf
theorem dX2_wholeOf_0 : decode cX2_wholeOf 0 = .ok (.lload_n 0, 1) := by decide +kernel
theorem dX2_wholeOf_1 : decode cX2_wholeOf 1 = .ok (.lconst 0, 1) := by decide +kernel
theorem dX2_wholeOf_2 : decode cX2_wholeOf 2 = .ok (.lcmp, 1) := by decide +kernel
theorem dX2_wholeOf_3 : decode cX2_wholeOf 3 = .ok (.ifCond .ne 5, 3) := by decide +kernel
theorem dX2_wholeOf_6 : decode cX2_wholeOf 6 = .ok (.lconst 0, 1) := by decide +kernel
theorem dX2_wholeOf_7 : decode cX2_wholeOf 7 = .ok (.lreturn, 1) := by decide +kernel
theorem dX2_wholeOf_8 : decode cX2_wholeOf 8 = .ok (.lload_n 0, 1) := by decide +kernel
theorem dX2_wholeOf_9 : decode cX2_wholeOf 9 = .ok (.invokestatic 122, 3) := by decide +kernel
theorem dX2_wholeOf_12 : decode cX2_wholeOf 12 = .ok (.istore_n 2, 1) := by decide +kernel
theorem dX2_wholeOf_13 : decode cX2_wholeOf 13 = .ok (.lload_n 0, 1) := by decide +kernel
theorem dX2_wholeOf_14 : decode cX2_wholeOf 14 = .ok (.invokestatic 127, 3) := by decide +kernel
theorem dX2_wholeOf_17 : decode cX2_wholeOf 17 = .ok (.lstore_n 3, 1) := by decide +kernel
theorem dX2_wholeOf_18 : decode cX2_wholeOf 18 = .ok (.iload_n 2, 1) := by decide +kernel
theorem dX2_wholeOf_19 : decode cX2_wholeOf 19 = .ok (.bipush 52, 2) := by decide +kernel
theorem dX2_wholeOf_21 : decode cX2_wholeOf 21 = .ok (.if_icmp .lt 12, 3) := by decide +kernel
theorem dX2_wholeOf_24 : decode cX2_wholeOf 24 = .ok (.lload_n 3, 1) := by decide +kernel
theorem dX2_wholeOf_25 : decode cX2_wholeOf 25 = .ok (.iload_n 2, 1) := by decide +kernel
theorem dX2_wholeOf_26 : decode cX2_wholeOf 26 = .ok (.bipush 52, 2) := by decide +kernel
theorem dX2_wholeOf_28 : decode cX2_wholeOf 28 = .ok (.isub, 1) := by decide +kernel
theorem dX2_wholeOf_29 : decode cX2_wholeOf 29 = .ok (.lshl, 1) := by decide +kernel
theorem dX2_wholeOf_30 : decode cX2_wholeOf 30 = .ok (.goto 9, 3) := by decide +kernel
theorem dX2_wholeOf_33 : decode cX2_wholeOf 33 = .ok (.lload_n 3, 1) := by decide +kernel
theorem dX2_wholeOf_34 : decode cX2_wholeOf 34 = .ok (.bipush 52, 2) := by decide +kernel
theorem dX2_wholeOf_36 : decode cX2_wholeOf 36 = .ok (.iload_n 2, 1) := by decide +kernel
theorem dX2_wholeOf_37 : decode cX2_wholeOf 37 = .ok (.isub, 1) := by decide +kernel
theorem dX2_wholeOf_38 : decode cX2_wholeOf 38 = .ok (.lshr, 1) := by decide +kernel
theorem dX2_wholeOf_39 : decode cX2_wholeOf 39 = .ok (.lstore 5, 2) := by decide +kernel
theorem dX2_wholeOf_41 : decode cX2_wholeOf 41 = .ok (.lload_n 0, 1) := by decide +kernel
theorem dX2_wholeOf_42 : decode cX2_wholeOf 42 = .ok (.lconst 0, 1) := by decide +kernel
theorem dX2_wholeOf_43 : decode cX2_wholeOf 43 = .ok (.lcmp, 1) := by decide +kernel
theorem dX2_wholeOf_44 : decode cX2_wholeOf 44 = .ok (.ifCond .ge 9, 3) := by decide +kernel
theorem dX2_wholeOf_47 : decode cX2_wholeOf 47 = .ok (.lload 5, 2) := by decide +kernel
theorem dX2_wholeOf_49 : decode cX2_wholeOf 49 = .ok (.lneg, 1) := by decide +kernel
theorem dX2_wholeOf_50 : decode cX2_wholeOf 50 = .ok (.goto 5, 3) := by decide +kernel
theorem dX2_wholeOf_53 : decode cX2_wholeOf 53 = .ok (.lload 5, 2) := by decide +kernel
theorem dX2_wholeOf_55 : decode cX2_wholeOf 55 = .ok (.lreturn, 1) := by decide +kernel
def fX2_wholeOf_b39 (v0 : Int64) (s0 : Int64) : Option Int64 := (if (0 : Int64) ≤ v0 then some s0 else some (-s0))
def fX2_wholeOf (p1 : Int64) : Option Int64 := (if p1 = (0 : Int64) then some (0 : Int64) else ((fX2_exponentOf p1).bind fun r9 => ((fX2_significand p1).bind fun r14 => (if r9 < (52 : Int32) then fX2_wholeOf_b39 p1 (jlshr r14 ((52 : Int32) - r9)) else fX2_wholeOf_b39 p1 (jlshl r14 (r9 - (52 : Int32)))))))
set_option maxRecDepth 100000 in
set_option maxHeartbeats 4000000 in
theorem kX2_wholeOf (l : Launch) (p1 : Int64) (out : Int64) (hf : fX2_wholeOf p1 = some out) : Sq l yX2_wholeOf cX2_wholeOf 7 (some .long) 1 [.long p1] (some (.long out)) := by
  refine Sq.of [(0, .long p1)] rfl (by decide +kernel) (Nat.le_of_ble_eq_true rfl) ?_
  intro κ hκ C hQ
  subst hκ
  replace C : Cf κ cX2_wholeOf 7 RX2 (some .long) 1 := C
  have b39 : ∀ (v0 : Int64) (s0 : Int64) , fX2_wholeOf_b39 v0 s0 = some out → G κ (Vp κ) 7 39 [(0, .long v0)] [.long s0] := by
    intro v0 s0 hf
    refine g_lstore (pc := 39) (i := 5) (L' := [(5, .long s0), (0, .long v0)]) C dX2_wholeOf_39 (by decide) rfl ?_
    refine g_lload_n (pc := 41) (i := 0) (j := 1) C dX2_wholeOf_41 rfl rfl ?_
    refine g_lconst (pc := 42) C dX2_wholeOf_42 cl_0 ?_
    refine g_lcmp_ge (pc := 43) (tgt := 53) C dX2_wholeOf_43 dX2_wholeOf_44 rfl hf (fun _ hf => ?_) (fun _ hf => ?_)
    · refine g_lload (pc := 53) (i := 5) (j := 0) C dX2_wholeOf_53 rfl ?_
      exact g_lretp (pc := 55) C hQ dX2_wholeOf_55 hf
    · refine g_lload (pc := 47) (i := 5) (j := 0) C dX2_wholeOf_47 rfl ?_
      refine g_lneg (pc := 49) C dX2_wholeOf_49 ?_
      refine g_goto (pc := 50) (tgt := 55) C dX2_wholeOf_50 rfl ?_
      exact g_lretp (pc := 55) C hQ dX2_wholeOf_55 hf
  refine g_lload_n (pc := 0) (i := 0) (j := 0) C dX2_wholeOf_0 rfl rfl ?_
  refine g_lconst (pc := 1) C dX2_wholeOf_1 cl_0 ?_
  refine g_lcmp_ne (pc := 2) (tgt := 8) C dX2_wholeOf_2 dX2_wholeOf_3 rfl hf (fun _ hf => ?_) (fun _ hf => ?_)
  · refine g_lload_n (pc := 8) (i := 0) (j := 0) C dX2_wholeOf_8 rfl rfl ?_
    refine g_cpi (pc := 9) (st := []) C lkX2_122 (As := [.long p1]) rfl (fun out h => kX2_exponentOf (kl κ) p1 out h) (by decide) rfl (Nat.le_of_ble_eq_true rfl) dX2_wholeOf_9 hf (fun r9 _ hf => ?_)
    refine g_istore_n (pc := 12) (i := 2) (L' := [(2, .int r9), (0, .long p1)]) C dX2_wholeOf_12 rfl (by decide) rfl ?_
    refine g_lload_n (pc := 13) (i := 0) (j := 1) C dX2_wholeOf_13 rfl rfl ?_
    refine g_cpl (pc := 14) (st := []) C lkX2_127 (As := [.long p1]) rfl (fun out h => kX2_significand (kl κ) p1 out h) (by decide) rfl (Nat.le_of_ble_eq_true rfl) dX2_wholeOf_14 hf (fun r14 _ hf => ?_)
    refine g_lstore_n (pc := 17) (i := 3) (L' := [(3, .long r14), (2, .int r9), (0, .long p1)]) C dX2_wholeOf_17 rfl (by decide) rfl ?_
    refine g_iload_n (pc := 18) (i := 2) (j := 1) C dX2_wholeOf_18 rfl rfl ?_
    refine g_bipush (pc := 19) C dX2_wholeOf_19 cb_52 ?_
    refine g_icmp_lt (pc := 21) (tgt := 33) C dX2_wholeOf_21 rfl hf (fun _ hf => ?_) (fun _ hf => ?_)
    · refine g_lload_n (pc := 33) (i := 3) (j := 0) C dX2_wholeOf_33 rfl rfl ?_
      refine g_bipush (pc := 34) C dX2_wholeOf_34 cb_52 ?_
      refine g_iload_n (pc := 36) (i := 2) (j := 1) C dX2_wholeOf_36 rfl rfl ?_
      refine g_isub (pc := 37) C dX2_wholeOf_37 ?_
      refine g_lshr (pc := 38) C dX2_wholeOf_38 ?_
      exact g_at [2] rfl (b39 p1 (jlshr r14 ((52 : Int32) - r9)) hf)
    · refine g_lload_n (pc := 24) (i := 3) (j := 0) C dX2_wholeOf_24 rfl rfl ?_
      refine g_iload_n (pc := 25) (i := 2) (j := 1) C dX2_wholeOf_25 rfl rfl ?_
      refine g_bipush (pc := 26) C dX2_wholeOf_26 cb_52 ?_
      refine g_isub (pc := 28) C dX2_wholeOf_28 ?_
      refine g_lshl (pc := 29) C dX2_wholeOf_29 ?_
      refine g_goto (pc := 30) (tgt := 39) C dX2_wholeOf_30 rfl ?_
      exact g_at [2] rfl (b39 p1 (jlshl r14 (r9 - (52 : Int32))) hf)
  · refine g_lconst (pc := 6) C dX2_wholeOf_6 cl_0 ?_
    exact g_lretp (pc := 7) C hQ dX2_wholeOf_7 hf
theorem dX2_isWhole_0 : decode cX2_isWhole 0 = .ok (.lload_n 0, 1) := by decide +kernel
theorem dX2_isWhole_1 : decode cX2_isWhole 1 = .ok (.iload_n 2, 1) := by decide +kernel
theorem dX2_isWhole_2 : decode cX2_isWhole 2 = .ok (.invokestatic 50, 3) := by decide +kernel
theorem dX2_isWhole_5 : decode cX2_isWhole 5 = .ok (.lstore 5, 2) := by decide +kernel
theorem dX2_isWhole_7 : decode cX2_isWhole 7 = .ok (.lload 5, 2) := by decide +kernel
theorem dX2_isWhole_9 : decode cX2_isWhole 9 = .ok (.invokestatic 54, 3) := by decide +kernel
theorem dX2_isWhole_12 : decode cX2_isWhole 12 = .ok (.ifCond .eq 17, 3) := by decide +kernel
theorem dX2_isWhole_15 : decode cX2_isWhole 15 = .ok (.lload 5, 2) := by decide +kernel
theorem dX2_isWhole_17 : decode cX2_isWhole 17 = .ok (.invokestatic 58, 3) := by decide +kernel
theorem dX2_isWhole_20 : decode cX2_isWhole 20 = .ok (.lload_n 3, 1) := by decide +kernel
theorem dX2_isWhole_21 : decode cX2_isWhole 21 = .ok (.lcmp, 1) := by decide +kernel
theorem dX2_isWhole_22 : decode cX2_isWhole 22 = .ok (.ifCond .ne 7, 3) := by decide +kernel
theorem dX2_isWhole_25 : decode cX2_isWhole 25 = .ok (.iconst 1, 1) := by decide +kernel
theorem dX2_isWhole_26 : decode cX2_isWhole 26 = .ok (.goto 4, 3) := by decide +kernel
theorem dX2_isWhole_29 : decode cX2_isWhole 29 = .ok (.iconst 0, 1) := by decide +kernel
theorem dX2_isWhole_30 : decode cX2_isWhole 30 = .ok (.ireturn, 1) := by decide +kernel
def fX2_isWhole (p1 : Int64) (p2 : Int32) (p3 : Int64) : Option Int32 := ((fX2_asDouble p1 p2).bind fun r2 => ((fX2_hasWhole r2).bind fun r9 => (if r9 = 0 then some (0 : Int32) else ((fX2_wholeOf r2).bind fun r17 => (if r17 = p3 then some (1 : Int32) else some (0 : Int32))))))
set_option maxRecDepth 100000 in
set_option maxHeartbeats 4000000 in
theorem kX2_isWhole (l : Launch) (p1 : Int64) (p2 : Int32) (p3 : Int64) (out : Int32) (hf : fX2_isWhole p1 p2 p3 = some out) : Sq l yX2_isWhole cX2_isWhole 7 (some .boolean) 3 [.long p1, .int p2, .long p3] (some (.int out)) := by
  refine Sq.of [(0, .long p1), (2, .int p2), (3, .long p3)] rfl (by decide +kernel) (Nat.le_of_ble_eq_true rfl) ?_
  intro κ hκ C hQ
  subst hκ
  replace C : Cf κ cX2_isWhole 7 RX2 (some .boolean) 3 := C
  refine g_lload_n (pc := 0) (i := 0) (j := 0) C dX2_isWhole_0 rfl rfl ?_
  refine g_iload_n (pc := 1) (i := 2) (j := 1) C dX2_isWhole_1 rfl rfl ?_
  refine g_cpl (pc := 2) (st := []) C lkX2_50 (As := [.long p1, .int p2]) rfl (fun out h => kX2_asDouble (kl κ) p1 p2 out h) (by decide) rfl (Nat.le_of_ble_eq_true rfl) dX2_isWhole_2 hf (fun r2 _ hf => ?_)
  refine g_lstore (pc := 5) (i := 5) (L' := [(5, .long r2), (0, .long p1), (2, .int p2), (3, .long p3)]) C dX2_isWhole_5 (by decide) rfl ?_
  refine g_lload (pc := 7) (i := 5) (j := 0) C dX2_isWhole_7 rfl ?_
  refine g_cpi (pc := 9) (st := []) C lkX2_54 (As := [.long r2]) rfl (fun out h => kX2_hasWhole (kl κ) r2 out h) (by decide) rfl (Nat.le_of_ble_eq_true rfl) dX2_isWhole_9 hf (fun r9 _ hf => ?_)
  refine g_if_eq (pc := 12) (tgt := 29) C dX2_isWhole_12 rfl hf (fun _ hf => ?_) (fun _ hf => ?_)
  · refine g_iconst (pc := 29) C dX2_isWhole_29 ci_0 ?_
    exact g_zret1p (pc := 30) C rfl hQ dX2_isWhole_30 hf
  · refine g_lload (pc := 15) (i := 5) (j := 0) C dX2_isWhole_15 rfl ?_
    refine g_cpl (pc := 17) (st := []) C lkX2_58 (As := [.long r2]) rfl (fun out h => kX2_wholeOf (kl κ) r2 out h) (by decide) rfl (Nat.le_of_ble_eq_true rfl) dX2_isWhole_17 hf (fun r17 _ hf => ?_)
    refine g_lload_n (pc := 20) (i := 3) (j := 3) C dX2_isWhole_20 rfl rfl ?_
    refine g_lcmp_ne (pc := 21) (tgt := 29) C dX2_isWhole_21 dX2_isWhole_22 rfl hf (fun _ hf => ?_) (fun _ hf => ?_)
    · refine g_iconst (pc := 29) C dX2_isWhole_29 ci_0 ?_
      exact g_zret1p (pc := 30) C rfl hQ dX2_isWhole_30 hf
    · refine g_iconst (pc := 25) C dX2_isWhole_25 ci_1 ?_
      refine g_goto (pc := 26) (tgt := 30) C dX2_isWhole_26 rfl ?_
      exact g_zret1p (pc := 30) C rfl hQ dX2_isWhole_30 hf
theorem dX2_ofWhole_0 : decode cX2_ofWhole 0 = .ok (.iload_n 0, 1) := by decide +kernel
theorem dX2_ofWhole_1 : decode cX2_ofWhole 1 = .ok (.bipush 6, 2) := by decide +kernel
theorem dX2_ofWhole_3 : decode cX2_ofWhole 3 = .ok (.if_icmp .eq 9, 3) := by decide +kernel
theorem dX2_ofWhole_6 : decode cX2_ofWhole 6 = .ok (.iload_n 0, 1) := by decide +kernel
theorem dX2_ofWhole_7 : decode cX2_ofWhole 7 = .ok (.bipush 7, 2) := by decide +kernel
theorem dX2_ofWhole_9 : decode cX2_ofWhole 9 = .ok (.if_icmp .ne 12, 3) := by decide +kernel
theorem dX2_ofWhole_12 : decode cX2_ofWhole 12 = .ok (.iload_n 0, 1) := by decide +kernel
theorem dX2_ofWhole_13 : decode cX2_ofWhole 13 = .ok (.lload_n 1, 1) := by decide +kernel
theorem dX2_ofWhole_14 : decode cX2_ofWhole 14 = .ok (.iconst 0, 1) := by decide +kernel
theorem dX2_ofWhole_15 : decode cX2_ofWhole 15 = .ok (.invokestatic 30, 3) := by decide +kernel
theorem dX2_ofWhole_18 : decode cX2_ofWhole 18 = .ok (.goto 4, 3) := by decide +kernel
theorem dX2_ofWhole_21 : decode cX2_ofWhole 21 = .ok (.lload_n 1, 1) := by decide +kernel
theorem dX2_ofWhole_22 : decode cX2_ofWhole 22 = .ok (.lreturn, 1) := by decide +kernel
def fX2_ofWhole_b12 (v0 : Int32) (v1 : Int64) : Option Int64 := ((fX2_nearest v0 v1 (0 : Int32)).bind fun r15 => some r15)
def fX2_ofWhole (p1 : Int32) (p2 : Int64) : Option Int64 := (if p1 = (6 : Int32) then fX2_ofWhole_b12 p1 p2 else (if p1 = (7 : Int32) then fX2_ofWhole_b12 p1 p2 else some p2))
set_option maxRecDepth 100000 in
set_option maxHeartbeats 4000000 in
theorem kX2_ofWhole (l : Launch) (p1 : Int32) (p2 : Int64) (out : Int64) (hf : fX2_ofWhole p1 p2 = some out) : Sq l yX2_ofWhole cX2_ofWhole 3 (some .long) 4 [.int p1, .long p2] (some (.long out)) := by
  refine Sq.of [(0, .int p1), (1, .long p2)] rfl (by decide +kernel) (Nat.le_of_ble_eq_true rfl) ?_
  intro κ hκ C hQ
  subst hκ
  replace C : Cf κ cX2_ofWhole 3 RX2 (some .long) 4 := C
  have b12 : ∀ (v0 : Int32) (v1 : Int64) , fX2_ofWhole_b12 v0 v1 = some out → G κ (Vp κ) 3 12 [(0, .int v0), (1, .long v1)] [] := by
    intro v0 v1 hf
    refine g_iload_n (pc := 12) (i := 0) (j := 0) C dX2_ofWhole_12 rfl rfl ?_
    refine g_lload_n (pc := 13) (i := 1) (j := 1) C dX2_ofWhole_13 rfl rfl ?_
    refine g_iconst (pc := 14) C dX2_ofWhole_14 ci_0 ?_
    refine g_cpl (pc := 15) (st := []) C lkX2_30 (As := [.int v0, .long v1, .int (0 : Int32)]) rfl (fun out h => kX2_nearest (kl κ) v0 v1 (0 : Int32) out h) (by decide) rfl (Nat.le_of_ble_eq_true rfl) dX2_ofWhole_15 hf (fun r15 _ hf => ?_)
    refine g_goto (pc := 18) (tgt := 22) C dX2_ofWhole_18 rfl ?_
    exact g_lretp (pc := 22) C hQ dX2_ofWhole_22 hf
  refine g_iload_n (pc := 0) (i := 0) (j := 0) C dX2_ofWhole_0 rfl rfl ?_
  refine g_bipush (pc := 1) C dX2_ofWhole_1 cb_6 ?_
  refine g_icmp_eq (pc := 3) (tgt := 12) C dX2_ofWhole_3 rfl hf (fun _ hf => ?_) (fun _ hf => ?_)
  · exact b12 p1 p2 hf
  · refine g_iload_n (pc := 6) (i := 0) (j := 0) C dX2_ofWhole_6 rfl rfl ?_
    refine g_bipush (pc := 7) C dX2_ofWhole_7 cb_7 ?_
    refine g_icmp_ne (pc := 9) (tgt := 21) C dX2_ofWhole_9 rfl hf (fun _ hf => ?_) (fun _ hf => ?_)
    · refine g_lload_n (pc := 21) (i := 1) (j := 1) C dX2_ofWhole_21 rfl rfl ?_
      exact g_lretp (pc := 22) C hQ dX2_ofWhole_22 hf
    · exact b12 p1 p2 hf
theorem dX2_hasNumber_0 : decode cX2_hasNumber 0 = .ok (.iload_n 2, 1) := by decide +kernel
theorem dX2_hasNumber_1 : decode cX2_hasNumber 1 = .ok (.bipush 6, 2) := by decide +kernel
theorem dX2_hasNumber_3 : decode cX2_hasNumber 3 = .ok (.if_icmp .ge 28, 3) := by decide +kernel
theorem dX2_hasNumber_6 : decode cX2_hasNumber 6 = .ok (.iload_n 3, 1) := by decide +kernel
theorem dX2_hasNumber_7 : decode cX2_hasNumber 7 = .ok (.bipush 6, 2) := by decide +kernel
theorem dX2_hasNumber_9 : decode cX2_hasNumber 9 = .ok (.if_icmp .ge 11, 3) := by decide +kernel
theorem dX2_hasNumber_12 : decode cX2_hasNumber 12 = .ok (.lload_n 0, 1) := by decide +kernel
theorem dX2_hasNumber_13 : decode cX2_hasNumber 13 = .ok (.iload_n 3, 1) := by decide +kernel
theorem dX2_hasNumber_14 : decode cX2_hasNumber 14 = .ok (.invokestatic 38, 3) := by decide +kernel
theorem dX2_hasNumber_17 : decode cX2_hasNumber 17 = .ok (.goto 13, 3) := by decide +kernel
theorem dX2_hasNumber_20 : decode cX2_hasNumber 20 = .ok (.iload_n 3, 1) := by decide +kernel
theorem dX2_hasNumber_21 : decode cX2_hasNumber 21 = .ok (.lload_n 0, 1) := by decide +kernel
theorem dX2_hasNumber_22 : decode cX2_hasNumber 22 = .ok (.invokestatic 42, 3) := by decide +kernel
theorem dX2_hasNumber_25 : decode cX2_hasNumber 25 = .ok (.iload_n 3, 1) := by decide +kernel
theorem dX2_hasNumber_26 : decode cX2_hasNumber 26 = .ok (.lload_n 0, 1) := by decide +kernel
theorem dX2_hasNumber_27 : decode cX2_hasNumber 27 = .ok (.invokestatic 46, 3) := by decide +kernel
theorem dX2_hasNumber_30 : decode cX2_hasNumber 30 = .ok (.ireturn, 1) := by decide +kernel
theorem dX2_hasNumber_31 : decode cX2_hasNumber 31 = .ok (.lload_n 0, 1) := by decide +kernel
theorem dX2_hasNumber_32 : decode cX2_hasNumber 32 = .ok (.iload_n 2, 1) := by decide +kernel
theorem dX2_hasNumber_33 : decode cX2_hasNumber 33 = .ok (.invokestatic 50, 3) := by decide +kernel
theorem dX2_hasNumber_36 : decode cX2_hasNumber 36 = .ok (.lstore 4, 2) := by decide +kernel
theorem dX2_hasNumber_38 : decode cX2_hasNumber 38 = .ok (.iload_n 3, 1) := by decide +kernel
theorem dX2_hasNumber_39 : decode cX2_hasNumber 39 = .ok (.bipush 6, 2) := by decide +kernel
theorem dX2_hasNumber_41 : decode cX2_hasNumber 41 = .ok (.if_icmp .ge 29, 3) := by decide +kernel
theorem dX2_hasNumber_44 : decode cX2_hasNumber 44 = .ok (.lload 4, 2) := by decide +kernel
theorem dX2_hasNumber_46 : decode cX2_hasNumber 46 = .ok (.invokestatic 54, 3) := by decide +kernel
theorem dX2_hasNumber_49 : decode cX2_hasNumber 49 = .ok (.ifCond .eq 19, 3) := by decide +kernel
theorem dX2_hasNumber_52 : decode cX2_hasNumber 52 = .ok (.lload 4, 2) := by decide +kernel
theorem dX2_hasNumber_54 : decode cX2_hasNumber 54 = .ok (.invokestatic 58, 3) := by decide +kernel
theorem dX2_hasNumber_57 : decode cX2_hasNumber 57 = .ok (.iload_n 3, 1) := by decide +kernel
theorem dX2_hasNumber_58 : decode cX2_hasNumber 58 = .ok (.invokestatic 38, 3) := by decide +kernel
theorem dX2_hasNumber_61 : decode cX2_hasNumber 61 = .ok (.ifCond .eq 7, 3) := by decide +kernel
theorem dX2_hasNumber_64 : decode cX2_hasNumber 64 = .ok (.iconst 1, 1) := by decide +kernel
theorem dX2_hasNumber_65 : decode cX2_hasNumber 65 = .ok (.goto 4, 3) := by decide +kernel
theorem dX2_hasNumber_68 : decode cX2_hasNumber 68 = .ok (.iconst 0, 1) := by decide +kernel
theorem dX2_hasNumber_69 : decode cX2_hasNumber 69 = .ok (.ireturn, 1) := by decide +kernel
theorem dX2_hasNumber_70 : decode cX2_hasNumber 70 = .ok (.iload_n 3, 1) := by decide +kernel
theorem dX2_hasNumber_71 : decode cX2_hasNumber 71 = .ok (.bipush 7, 2) := by decide +kernel
theorem dX2_hasNumber_73 : decode cX2_hasNumber 73 = .ok (.if_icmp .eq 14, 3) := by decide +kernel
theorem dX2_hasNumber_76 : decode cX2_hasNumber 76 = .ok (.lload 4, 2) := by decide +kernel
theorem dX2_hasNumber_78 : decode cX2_hasNumber 78 = .ok (.ldc2_w 61, 3) := by decide +kernel
theorem dX2_hasNumber_81 : decode cX2_hasNumber 81 = .ok (.land, 1) := by decide +kernel
theorem dX2_hasNumber_82 : decode cX2_hasNumber 82 = .ok (.lconst 0, 1) := by decide +kernel
theorem dX2_hasNumber_83 : decode cX2_hasNumber 83 = .ok (.lcmp, 1) := by decide +kernel
theorem dX2_hasNumber_84 : decode cX2_hasNumber 84 = .ok (.ifCond .ne 7, 3) := by decide +kernel
theorem dX2_hasNumber_87 : decode cX2_hasNumber 87 = .ok (.iconst 1, 1) := by decide +kernel
theorem dX2_hasNumber_88 : decode cX2_hasNumber 88 = .ok (.goto 4, 3) := by decide +kernel
theorem dX2_hasNumber_91 : decode cX2_hasNumber 91 = .ok (.iconst 0, 1) := by decide +kernel
theorem dX2_hasNumber_92 : decode cX2_hasNumber 92 = .ok (.ireturn, 1) := by decide +kernel
def fX2_hasNumber (p1 : Int64) (p2 : Int32) (p3 : Int32) : Option Int32 := (if (6 : Int32) ≤ p2 then ((fX2_asDouble p1 p2).bind fun r33 => (if (6 : Int32) ≤ p3 then (if p3 = (7 : Int32) then some (1 : Int32) else (if (r33 &&& (536870911 : Int64)) = (0 : Int64) then some (1 : Int32) else some (0 : Int32))) else ((fX2_hasWhole r33).bind fun r46 => (if r46 = 0 then some (0 : Int32) else ((fX2_wholeOf r33).bind fun r54 => ((fX2_isBetween r54 p3).bind fun r58 => (if r58 = 0 then some (0 : Int32) else some (1 : Int32)))))))) else (if (6 : Int32) ≤ p3 then ((fX2_ofWhole p3 p1).bind fun r22 => ((fX2_isWhole r22 p3 p1).bind fun r27 => (if rbz r27 = true then some r27 else none))) else ((fX2_isBetween p1 p3).bind fun r14 => (if rbz r14 = true then some r14 else none))))
set_option maxRecDepth 100000 in
set_option maxHeartbeats 4000000 in
theorem kX2_hasNumber (l : Launch) (p1 : Int64) (p2 : Int32) (p3 : Int32) (out : Int32) (hf : fX2_hasNumber p1 p2 p3 = some out) : Sq l yX2_hasNumber cX2_hasNumber 6 (some .boolean) 5 [.long p1, .int p2, .int p3] (some (.int out)) := by
  refine Sq.of [(0, .long p1), (2, .int p2), (3, .int p3)] rfl (by decide +kernel) (Nat.le_of_ble_eq_true rfl) ?_
  intro κ hκ C hQ
  subst hκ
  replace C : Cf κ cX2_hasNumber 6 RX2 (some .boolean) 5 := C
  refine g_iload_n (pc := 0) (i := 2) (j := 1) C dX2_hasNumber_0 rfl rfl ?_
  refine g_bipush (pc := 1) C dX2_hasNumber_1 cb_6 ?_
  refine g_icmp_ge (pc := 3) (tgt := 31) C dX2_hasNumber_3 rfl hf (fun _ hf => ?_) (fun _ hf => ?_)
  · refine g_lload_n (pc := 31) (i := 0) (j := 0) C dX2_hasNumber_31 rfl rfl ?_
    refine g_iload_n (pc := 32) (i := 2) (j := 1) C dX2_hasNumber_32 rfl rfl ?_
    refine g_cpl (pc := 33) (st := []) C lkX2_50 (As := [.long p1, .int p2]) rfl (fun out h => kX2_asDouble (kl κ) p1 p2 out h) (by decide) rfl (Nat.le_of_ble_eq_true rfl) dX2_hasNumber_33 hf (fun r33 _ hf => ?_)
    refine g_lstore (pc := 36) (i := 4) (L' := [(4, .long r33), (0, .long p1), (2, .int p2), (3, .int p3)]) C dX2_hasNumber_36 (by decide) rfl ?_
    refine g_iload_n (pc := 38) (i := 3) (j := 3) C dX2_hasNumber_38 rfl rfl ?_
    refine g_bipush (pc := 39) C dX2_hasNumber_39 cb_6 ?_
    refine g_icmp_ge (pc := 41) (tgt := 70) C dX2_hasNumber_41 rfl hf (fun _ hf => ?_) (fun _ hf => ?_)
    · refine g_iload_n (pc := 70) (i := 3) (j := 3) C dX2_hasNumber_70 rfl rfl ?_
      refine g_bipush (pc := 71) C dX2_hasNumber_71 cb_7 ?_
      refine g_icmp_eq (pc := 73) (tgt := 87) C dX2_hasNumber_73 rfl hf (fun _ hf => ?_) (fun _ hf => ?_)
      · refine g_iconst (pc := 87) C dX2_hasNumber_87 ci_1 ?_
        refine g_goto (pc := 88) (tgt := 92) C dX2_hasNumber_88 rfl ?_
        exact g_zret1p (pc := 92) C rfl hQ dX2_hasNumber_92 hf
      · refine g_lload (pc := 76) (i := 4) (j := 0) C dX2_hasNumber_76 rfl ?_
        refine g_ldc2 (pc := 78) C cnX2_61 dX2_hasNumber_78 ?_
        refine g_land (pc := 81) C dX2_hasNumber_81 ?_
        refine g_lconst (pc := 82) C dX2_hasNumber_82 cl_0 ?_
        refine g_lcmp_ne (pc := 83) (tgt := 91) C dX2_hasNumber_83 dX2_hasNumber_84 rfl hf (fun _ hf => ?_) (fun _ hf => ?_)
        · refine g_iconst (pc := 91) C dX2_hasNumber_91 ci_0 ?_
          exact g_zret1p (pc := 92) C rfl hQ dX2_hasNumber_92 hf
        · refine g_iconst (pc := 87) C dX2_hasNumber_87 ci_1 ?_
          refine g_goto (pc := 88) (tgt := 92) C dX2_hasNumber_88 rfl ?_
          exact g_zret1p (pc := 92) C rfl hQ dX2_hasNumber_92 hf
    · refine g_lload (pc := 44) (i := 4) (j := 0) C dX2_hasNumber_44 rfl ?_
      refine g_cpi (pc := 46) (st := []) C lkX2_54 (As := [.long r33]) rfl (fun out h => kX2_hasWhole (kl κ) r33 out h) (by decide) rfl (Nat.le_of_ble_eq_true rfl) dX2_hasNumber_46 hf (fun r46 _ hf => ?_)
      refine g_if_eq (pc := 49) (tgt := 68) C dX2_hasNumber_49 rfl hf (fun _ hf => ?_) (fun _ hf => ?_)
      · refine g_iconst (pc := 68) C dX2_hasNumber_68 ci_0 ?_
        exact g_zret1p (pc := 69) C rfl hQ dX2_hasNumber_69 hf
      · refine g_lload (pc := 52) (i := 4) (j := 0) C dX2_hasNumber_52 rfl ?_
        refine g_cpl (pc := 54) (st := []) C lkX2_58 (As := [.long r33]) rfl (fun out h => kX2_wholeOf (kl κ) r33 out h) (by decide) rfl (Nat.le_of_ble_eq_true rfl) dX2_hasNumber_54 hf (fun r54 _ hf => ?_)
        refine g_iload_n (pc := 57) (i := 3) (j := 3) C dX2_hasNumber_57 rfl rfl ?_
        refine g_cpi (pc := 58) (st := []) C lkX2_38 (As := [.long r54, .int p3]) rfl (fun out h => kX2_isBetween (kl κ) r54 p3 out h) (by decide) rfl (Nat.le_of_ble_eq_true rfl) dX2_hasNumber_58 hf (fun r58 _ hf => ?_)
        refine g_if_eq (pc := 61) (tgt := 68) C dX2_hasNumber_61 rfl hf (fun _ hf => ?_) (fun _ hf => ?_)
        · refine g_iconst (pc := 68) C dX2_hasNumber_68 ci_0 ?_
          exact g_zret1p (pc := 69) C rfl hQ dX2_hasNumber_69 hf
        · refine g_iconst (pc := 64) C dX2_hasNumber_64 ci_1 ?_
          refine g_goto (pc := 65) (tgt := 69) C dX2_hasNumber_65 rfl ?_
          exact g_zret1p (pc := 69) C rfl hQ dX2_hasNumber_69 hf
  · refine g_iload_n (pc := 6) (i := 3) (j := 2) C dX2_hasNumber_6 rfl rfl ?_
    refine g_bipush (pc := 7) C dX2_hasNumber_7 cb_6 ?_
    refine g_icmp_ge (pc := 9) (tgt := 20) C dX2_hasNumber_9 rfl hf (fun _ hf => ?_) (fun _ hf => ?_)
    · refine g_iload_n (pc := 20) (i := 3) (j := 2) C dX2_hasNumber_20 rfl rfl ?_
      refine g_lload_n (pc := 21) (i := 0) (j := 0) C dX2_hasNumber_21 rfl rfl ?_
      refine g_cpl (pc := 22) (st := []) C lkX2_42 (As := [.int p3, .long p1]) rfl (fun out h => kX2_ofWhole (kl κ) p3 p1 out h) (by decide) rfl (Nat.le_of_ble_eq_true rfl) dX2_hasNumber_22 hf (fun r22 _ hf => ?_)
      refine g_iload_n (pc := 25) (i := 3) (j := 2) C dX2_hasNumber_25 rfl rfl ?_
      refine g_lload_n (pc := 26) (i := 0) (j := 0) C dX2_hasNumber_26 rfl rfl ?_
      refine g_cpi (pc := 27) (st := []) C lkX2_46 (As := [.long r22, .int p3, .long p1]) rfl (fun out h => kX2_isWhole (kl κ) r22 p3 p1 out h) (by decide) rfl (Nat.le_of_ble_eq_true rfl) dX2_hasNumber_27 hf (fun r27 _ hf => ?_)
      exact g_zretp (pc := 30) C hQ dX2_hasNumber_30 hf
    · refine g_lload_n (pc := 12) (i := 0) (j := 0) C dX2_hasNumber_12 rfl rfl ?_
      refine g_iload_n (pc := 13) (i := 3) (j := 2) C dX2_hasNumber_13 rfl rfl ?_
      refine g_cpi (pc := 14) (st := []) C lkX2_38 (As := [.long p1, .int p3]) rfl (fun out h => kX2_isBetween (kl κ) p1 p3 out h) (by decide) rfl (Nat.le_of_ble_eq_true rfl) dX2_hasNumber_14 hf (fun r14 _ hf => ?_)
      refine g_goto (pc := 17) (tgt := 30) C dX2_hasNumber_17 rfl ?_
      exact g_zretp (pc := 30) C hQ dX2_hasNumber_30 hf
theorem dX2_targets_0 : decode cX2_targets 0 = .ok (.iconst 0, 1) := by decide +kernel
theorem dX2_targets_1 : decode cX2_targets 1 = .ok (.istore_n 1, 1) := by decide +kernel
theorem dX2_targets_2 : decode cX2_targets 2 = .ok (.iconst 0, 1) := by decide +kernel
theorem dX2_targets_3 : decode cX2_targets 3 = .ok (.istore_n 2, 1) := by decide +kernel
theorem dX2_targets_4 : decode cX2_targets 4 = .ok (.iload_n 2, 1) := by decide +kernel
theorem dX2_targets_5 : decode cX2_targets 5 = .ok (.bipush 8, 2) := by decide +kernel
theorem dX2_targets_7 : decode cX2_targets 7 = .ok (.if_icmp .ge 23, 3) := by decide +kernel
theorem dX2_targets_10 : decode cX2_targets 10 = .ok (.iload_n 0, 1) := by decide +kernel
theorem dX2_targets_11 : decode cX2_targets 11 = .ok (.iload_n 2, 1) := by decide +kernel
theorem dX2_targets_12 : decode cX2_targets 12 = .ok (.invokestatic 11, 3) := by decide +kernel
theorem dX2_targets_15 : decode cX2_targets 15 = .ok (.ifCond .eq 9, 3) := by decide +kernel
theorem dX2_targets_18 : decode cX2_targets 18 = .ok (.iload_n 1, 1) := by decide +kernel
theorem dX2_targets_19 : decode cX2_targets 19 = .ok (.iconst 1, 1) := by decide +kernel
theorem dX2_targets_20 : decode cX2_targets 20 = .ok (.iload_n 2, 1) := by decide +kernel
theorem dX2_targets_21 : decode cX2_targets 21 = .ok (.ishl, 1) := by decide +kernel
theorem dX2_targets_22 : decode cX2_targets 22 = .ok (.ior, 1) := by decide +kernel
theorem dX2_targets_23 : decode cX2_targets 23 = .ok (.istore_n 1, 1) := by decide +kernel
theorem dX2_targets_24 : decode cX2_targets 24 = .ok (.iinc 2 1, 3) := by decide +kernel
theorem dX2_targets_27 : decode cX2_targets 27 = .ok (.goto (-23), 3) := by decide +kernel
theorem dX2_targets_30 : decode cX2_targets 30 = .ok (.iload_n 1, 1) := by decide +kernel
theorem dX2_targets_31 : decode cX2_targets 31 = .ok (.ireturn, 1) := by decide +kernel
def fX2_targets_b24 (k4 : Int32 → Int32 → Int32 → Option Int32) (v0 : Int32) (v1 : Int32) (v2 : Int32) : Option Int32 := k4 v0 v1 (v2 + (1 : Int32))
def fX2_targets_b4 : Nat → Int32 → Int32 → Int32 → Option Int32
  | 0, _, _, _ => none
  | n + 1, v0, v1, v2 => (if (8 : Int32) ≤ v2 then some v1 else ((fX2_widens v0 v2).bind fun r12 => (if r12 = 0 then fX2_targets_b24 (fX2_targets_b4 n) v0 v1 v2 else fX2_targets_b24 (fX2_targets_b4 n) v0 (v1 ||| (jshl (1 : Int32) v2)) v2)))
def fX2_targets (p1 : Int32) : Option Int32 := fX2_targets_b4 100 p1 (0 : Int32) (0 : Int32)
set_option maxRecDepth 100000 in
set_option maxHeartbeats 4000000 in
theorem kX2_targets (l : Launch) (p1 : Int32) (out : Int32) (hf : fX2_targets p1 = some out) : Sq l yX2_targets cX2_targets 3 (some .int) 1 [.int p1] (some (.int out)) := by
  refine Sq.of [(0, .int p1)] rfl (by decide +kernel) (Nat.le_of_ble_eq_true rfl) ?_
  intro κ hκ C hQ
  subst hκ
  replace C : Cf κ cX2_targets 3 RX2 (some .int) 1 := C
  have b24 : ∀ (k4 : Int32 → Int32 → Int32 → Option Int32) (hk4 : ∀ (v0 : Int32) (v1 : Int32) (v2 : Int32) , k4 v0 v1 v2 = some out → G κ (Vp κ) 3 4 [(0, .int v0), (1, .int v1), (2, .int v2)] []) (v0 : Int32) (v1 : Int32) (v2 : Int32) , fX2_targets_b24 k4 v0 v1 v2 = some out → G κ (Vp κ) 3 24 [(0, .int v0), (1, .int v1), (2, .int v2)] [] := by
    intro k4 hk4 v0 v1 v2 hf
    refine g_iinc (pc := 24) (i := 2) (j := 2) (v := (v2 + (1 : Int32))) (L' := [(2, .int (v2 + (1 : Int32))), (0, .int v0), (1, .int v1)]) C dX2_targets_24 rfl (cx_1 _) (by decide) rfl ?_
    refine g_goto (pc := 27) (tgt := 4) C dX2_targets_27 rfl ?_
    exact g_at [1, 2, 0] rfl (hk4 v0 v1 (v2 + (1 : Int32)) hf)
  have b4 : ∀ (n : Nat) (v0 : Int32) (v1 : Int32) (v2 : Int32) , fX2_targets_b4 n v0 v1 v2 = some out → G κ (Vp κ) 3 4 [(0, .int v0), (1, .int v1), (2, .int v2)] [] := by
    intro n
    induction n with
    | zero => intro v0 v1 v2 hf; exact none_ne hf
    | succ n ih =>
      intro v0 v1 v2 hf
      refine g_iload_n (pc := 4) (i := 2) (j := 2) C dX2_targets_4 rfl rfl ?_
      refine g_bipush (pc := 5) C dX2_targets_5 cb_8 ?_
      refine g_icmp_ge (pc := 7) (tgt := 30) C dX2_targets_7 rfl hf (fun _ hf => ?_) (fun _ hf => ?_)
      · refine g_iload_n (pc := 30) (i := 1) (j := 1) C dX2_targets_30 rfl rfl ?_
        exact g_iretp (pc := 31) C hQ dX2_targets_31 hf
      · refine g_iload_n (pc := 10) (i := 0) (j := 0) C dX2_targets_10 rfl rfl ?_
        refine g_iload_n (pc := 11) (i := 2) (j := 2) C dX2_targets_11 rfl rfl ?_
        refine g_cpi (pc := 12) (st := []) C lkX2_11 (As := [.int v0, .int v2]) rfl (fun out h => kX2_widens (kl κ) v0 v2 out h) (by decide) rfl (Nat.le_of_ble_eq_true rfl) dX2_targets_12 hf (fun r12 _ hf => ?_)
        refine g_if_eq (pc := 15) (tgt := 24) C dX2_targets_15 rfl hf (fun _ hf => ?_) (fun _ hf => ?_)
        · exact b24 (fX2_targets_b4 n) ih v0 v1 v2 hf
        · refine g_iload_n (pc := 18) (i := 1) (j := 1) C dX2_targets_18 rfl rfl ?_
          refine g_iconst (pc := 19) C dX2_targets_19 ci_1 ?_
          refine g_iload_n (pc := 20) (i := 2) (j := 2) C dX2_targets_20 rfl rfl ?_
          refine g_ishl (pc := 21) C dX2_targets_21 ?_
          refine g_ior (pc := 22) C dX2_targets_22 ?_
          refine g_istore_n (pc := 23) (i := 1) (L' := [(1, .int (v1 ||| (jshl (1 : Int32) v2))), (0, .int v0), (2, .int v2)]) C dX2_targets_23 rfl (by decide) rfl ?_
          exact g_at [1, 0, 2] rfl (b24 (fX2_targets_b4 n) ih v0 (v1 ||| (jshl (1 : Int32) v2)) v2 hf)
  refine g_iconst (pc := 0) C dX2_targets_0 ci_0 ?_
  refine g_istore_n (pc := 1) (i := 1) (L' := [(1, .int (0 : Int32)), (0, .int p1)]) C dX2_targets_1 rfl (by decide) rfl ?_
  refine g_iconst (pc := 2) C dX2_targets_2 ci_0 ?_
  refine g_istore_n (pc := 3) (i := 2) (L' := [(2, .int (0 : Int32)), (1, .int (0 : Int32)), (0, .int p1)]) C dX2_targets_3 rfl (by decide) rfl ?_
  exact g_at [2, 1, 0] rfl (b4 100 p1 (0 : Int32) (0 : Int32) hf)
theorem dX2_leastOf_0 : decode cX2_leastOf 0 = .ok (.iconst 0, 1) := by decide +kernel
theorem dX2_leastOf_1 : decode cX2_leastOf 1 = .ok (.istore_n 1, 1) := by decide +kernel
theorem dX2_leastOf_2 : decode cX2_leastOf 2 = .ok (.iload_n 1, 1) := by decide +kernel
theorem dX2_leastOf_3 : decode cX2_leastOf 3 = .ok (.bipush 8, 2) := by decide +kernel
theorem dX2_leastOf_5 : decode cX2_leastOf 5 = .ok (.if_icmp .ge 31, 3) := by decide +kernel
theorem dX2_leastOf_8 : decode cX2_leastOf 8 = .ok (.iload_n 0, 1) := by decide +kernel
theorem dX2_leastOf_9 : decode cX2_leastOf 9 = .ok (.iload_n 1, 1) := by decide +kernel
theorem dX2_leastOf_10 : decode cX2_leastOf 10 = .ok (.ishr, 1) := by decide +kernel
theorem dX2_leastOf_11 : decode cX2_leastOf 11 = .ok (.iconst 1, 1) := by decide +kernel
theorem dX2_leastOf_12 : decode cX2_leastOf 12 = .ok (.iand, 1) := by decide +kernel
theorem dX2_leastOf_13 : decode cX2_leastOf 13 = .ok (.iconst 1, 1) := by decide +kernel
theorem dX2_leastOf_14 : decode cX2_leastOf 14 = .ok (.if_icmp .ne 16, 3) := by decide +kernel
theorem dX2_leastOf_17 : decode cX2_leastOf 17 = .ok (.iload_n 0, 1) := by decide +kernel
theorem dX2_leastOf_18 : decode cX2_leastOf 18 = .ok (.iload_n 1, 1) := by decide +kernel
theorem dX2_leastOf_19 : decode cX2_leastOf 19 = .ok (.invokestatic 15, 3) := by decide +kernel
theorem dX2_leastOf_22 : decode cX2_leastOf 22 = .ok (.iconst (-1), 1) := by decide +kernel
theorem dX2_leastOf_23 : decode cX2_leastOf 23 = .ok (.ixor, 1) := by decide +kernel
theorem dX2_leastOf_24 : decode cX2_leastOf 24 = .ok (.iand, 1) := by decide +kernel
theorem dX2_leastOf_25 : decode cX2_leastOf 25 = .ok (.ifCond .ne 5, 3) := by decide +kernel
theorem dX2_leastOf_28 : decode cX2_leastOf 28 = .ok (.iload_n 1, 1) := by decide +kernel
theorem dX2_leastOf_29 : decode cX2_leastOf 29 = .ok (.ireturn, 1) := by decide +kernel
theorem dX2_leastOf_30 : decode cX2_leastOf 30 = .ok (.iinc 1 1, 3) := by decide +kernel
theorem dX2_leastOf_33 : decode cX2_leastOf 33 = .ok (.goto (-31), 3) := by decide +kernel
theorem dX2_leastOf_36 : decode cX2_leastOf 36 = .ok (.bipush (-9), 2) := by decide +kernel
theorem dX2_leastOf_38 : decode cX2_leastOf 38 = .ok (.ireturn, 1) := by decide +kernel
def fX2_leastOf_b30 (k2 : Int32 → Int32 → Option Int32) (v0 : Int32) (v1 : Int32) : Option Int32 := k2 v0 (v1 + (1 : Int32))
def fX2_leastOf_b2 : Nat → Int32 → Int32 → Option Int32
  | 0, _, _ => none
  | n + 1, v0, v1 => (if (8 : Int32) ≤ v1 then some (-9 : Int32) else (if ((jshr v0 v1) &&& (1 : Int32)) = (1 : Int32) then ((fX2_targets v1).bind fun r19 => (if (v0 &&& (r19 ^^^ (-1 : Int32))) = 0 then some v1 else fX2_leastOf_b30 (fX2_leastOf_b2 n) v0 v1)) else fX2_leastOf_b30 (fX2_leastOf_b2 n) v0 v1))
def fX2_leastOf (p1 : Int32) : Option Int32 := fX2_leastOf_b2 100 p1 (0 : Int32)
set_option maxRecDepth 100000 in
set_option maxHeartbeats 4000000 in
theorem kX2_leastOf (l : Launch) (p1 : Int32) (out : Int32) (hf : fX2_leastOf p1 = some out) : Sq l yX2_leastOf cX2_leastOf 2 (some .int) 2 [.int p1] (some (.int out)) := by
  refine Sq.of [(0, .int p1)] rfl (by decide +kernel) (Nat.le_of_ble_eq_true rfl) ?_
  intro κ hκ C hQ
  subst hκ
  replace C : Cf κ cX2_leastOf 2 RX2 (some .int) 2 := C
  have b30 : ∀ (k2 : Int32 → Int32 → Option Int32) (hk2 : ∀ (v0 : Int32) (v1 : Int32) , k2 v0 v1 = some out → G κ (Vp κ) 2 2 [(0, .int v0), (1, .int v1)] []) (v0 : Int32) (v1 : Int32) , fX2_leastOf_b30 k2 v0 v1 = some out → G κ (Vp κ) 2 30 [(0, .int v0), (1, .int v1)] [] := by
    intro k2 hk2 v0 v1 hf
    refine g_iinc (pc := 30) (i := 1) (j := 1) (v := (v1 + (1 : Int32))) (L' := [(1, .int (v1 + (1 : Int32))), (0, .int v0)]) C dX2_leastOf_30 rfl (cx_1 _) (by decide) rfl ?_
    refine g_goto (pc := 33) (tgt := 2) C dX2_leastOf_33 rfl ?_
    exact g_at [1, 0] rfl (hk2 v0 (v1 + (1 : Int32)) hf)
  have b2 : ∀ (n : Nat) (v0 : Int32) (v1 : Int32) , fX2_leastOf_b2 n v0 v1 = some out → G κ (Vp κ) 2 2 [(0, .int v0), (1, .int v1)] [] := by
    intro n
    induction n with
    | zero => intro v0 v1 hf; exact none_ne hf
    | succ n ih =>
      intro v0 v1 hf
      refine g_iload_n (pc := 2) (i := 1) (j := 1) C dX2_leastOf_2 rfl rfl ?_
      refine g_bipush (pc := 3) C dX2_leastOf_3 cb_8 ?_
      refine g_icmp_ge (pc := 5) (tgt := 36) C dX2_leastOf_5 rfl hf (fun _ hf => ?_) (fun _ hf => ?_)
      · refine g_bipush (pc := 36) C dX2_leastOf_36 cb_m9 ?_
        exact g_iretp (pc := 38) C hQ dX2_leastOf_38 hf
      · refine g_iload_n (pc := 8) (i := 0) (j := 0) C dX2_leastOf_8 rfl rfl ?_
        refine g_iload_n (pc := 9) (i := 1) (j := 1) C dX2_leastOf_9 rfl rfl ?_
        refine g_ishr (pc := 10) C dX2_leastOf_10 ?_
        refine g_iconst (pc := 11) C dX2_leastOf_11 ci_1 ?_
        refine g_iand (pc := 12) C dX2_leastOf_12 ?_
        refine g_iconst (pc := 13) C dX2_leastOf_13 ci_1 ?_
        refine g_icmp_ne (pc := 14) (tgt := 30) C dX2_leastOf_14 rfl hf (fun _ hf => ?_) (fun _ hf => ?_)
        · exact b30 (fX2_leastOf_b2 n) ih v0 v1 hf
        · refine g_iload_n (pc := 17) (i := 0) (j := 0) C dX2_leastOf_17 rfl rfl ?_
          refine g_iload_n (pc := 18) (i := 1) (j := 1) C dX2_leastOf_18 rfl rfl ?_
          refine g_cpi (pc := 19) (st := [.int v0]) C lkX2_15 (As := [.int v1]) rfl (fun out h => kX2_targets (kl κ) v1 out h) (by decide) rfl (Nat.le_of_ble_eq_true rfl) dX2_leastOf_19 hf (fun r19 _ hf => ?_)
          refine g_iconst (pc := 22) C dX2_leastOf_22 ci_m1 ?_
          refine g_ixor (pc := 23) C dX2_leastOf_23 ?_
          refine g_iand (pc := 24) C dX2_leastOf_24 ?_
          refine g_if_ne (pc := 25) (tgt := 30) C dX2_leastOf_25 rfl hf (fun _ hf => ?_) (fun _ hf => ?_)
          · exact b30 (fX2_leastOf_b2 n) ih v0 v1 hf
          · refine g_iload_n (pc := 28) (i := 1) (j := 1) C dX2_leastOf_28 rfl rfl ?_
            exact g_iretp (pc := 29) C hQ dX2_leastOf_29 hf
  refine g_iconst (pc := 0) C dX2_leastOf_0 ci_0 ?_
  refine g_istore_n (pc := 1) (i := 1) (L' := [(1, .int (0 : Int32)), (0, .int p1)]) C dX2_leastOf_1 rfl (by decide) rfl ?_
  exact g_at [1, 0] rfl (b2 100 p1 (0 : Int32) hf)
theorem dX2_leastOfTwo_0 : decode cX2_leastOfTwo 0 = .ok (.iload_n 0, 1) := by decide +kernel
theorem dX2_leastOfTwo_1 : decode cX2_leastOfTwo 1 = .ok (.invokestatic 15, 3) := by decide +kernel
theorem dX2_leastOfTwo_4 : decode cX2_leastOfTwo 4 = .ok (.iload_n 1, 1) := by decide +kernel
theorem dX2_leastOfTwo_5 : decode cX2_leastOfTwo 5 = .ok (.invokestatic 15, 3) := by decide +kernel
theorem dX2_leastOfTwo_8 : decode cX2_leastOfTwo 8 = .ok (.iand, 1) := by decide +kernel
theorem dX2_leastOfTwo_9 : decode cX2_leastOfTwo 9 = .ok (.invokestatic 19, 3) := by decide +kernel
theorem dX2_leastOfTwo_12 : decode cX2_leastOfTwo 12 = .ok (.ireturn, 1) := by decide +kernel
def fX2_leastOfTwo (p1 : Int32) (p2 : Int32) : Option Int32 := ((fX2_targets p1).bind fun r1 => ((fX2_targets p2).bind fun r5 => ((fX2_leastOf (r1 &&& r5)).bind fun r9 => some r9)))
set_option maxRecDepth 100000 in
set_option maxHeartbeats 4000000 in
theorem kX2_leastOfTwo (l : Launch) (p1 : Int32) (p2 : Int32) (out : Int32) (hf : fX2_leastOfTwo p1 p2 = some out) : Sq l yX2_leastOfTwo cX2_leastOfTwo 2 (some .int) 3 [.int p1, .int p2] (some (.int out)) := by
  refine Sq.of [(0, .int p1), (1, .int p2)] rfl (by decide +kernel) (Nat.le_of_ble_eq_true rfl) ?_
  intro κ hκ C hQ
  subst hκ
  replace C : Cf κ cX2_leastOfTwo 2 RX2 (some .int) 3 := C
  refine g_iload_n (pc := 0) (i := 0) (j := 0) C dX2_leastOfTwo_0 rfl rfl ?_
  refine g_cpi (pc := 1) (st := []) C lkX2_15 (As := [.int p1]) rfl (fun out h => kX2_targets (kl κ) p1 out h) (by decide) rfl (Nat.le_of_ble_eq_true rfl) dX2_leastOfTwo_1 hf (fun r1 _ hf => ?_)
  refine g_iload_n (pc := 4) (i := 1) (j := 1) C dX2_leastOfTwo_4 rfl rfl ?_
  refine g_cpi (pc := 5) (st := [.int r1]) C lkX2_15 (As := [.int p2]) rfl (fun out h => kX2_targets (kl κ) p2 out h) (by decide) rfl (Nat.le_of_ble_eq_true rfl) dX2_leastOfTwo_5 hf (fun r5 _ hf => ?_)
  refine g_iand (pc := 8) C dX2_leastOfTwo_8 ?_
  refine g_cpi (pc := 9) (st := []) C lkX2_19 (As := [.int (r1 &&& r5)]) rfl (fun out h => kX2_leastOf (kl κ) (r1 &&& r5) out h) (by decide) rfl (Nat.le_of_ble_eq_true rfl) dX2_leastOfTwo_9 hf (fun r9 _ hf => ?_)
  exact g_iretp (pc := 12) C hQ dX2_leastOfTwo_12 hf
theorem dX2_made_0 : decode cX2_made 0 = .ok (.iload_n 0, 1) := by decide +kernel
theorem dX2_made_1 : decode cX2_made 1 = .ok (.tableswitch 64 0 5 #[39, 43, 48, 53, 58, 62], 39) := by decide +kernel
theorem dX2_made_40 : decode cX2_made 40 = .ok (.lload_n 1, 1) := by decide +kernel
theorem dX2_made_41 : decode cX2_made 41 = .ok (.lconst 1, 1) := by decide +kernel
theorem dX2_made_42 : decode cX2_made 42 = .ok (.land, 1) := by decide +kernel
theorem dX2_made_43 : decode cX2_made 43 = .ok (.lreturn, 1) := by decide +kernel
theorem dX2_made_44 : decode cX2_made 44 = .ok (.lload_n 1, 1) := by decide +kernel
theorem dX2_made_45 : decode cX2_made 45 = .ok (.l2i, 1) := by decide +kernel
theorem dX2_made_46 : decode cX2_made 46 = .ok (.i2b, 1) := by decide +kernel
theorem dX2_made_47 : decode cX2_made 47 = .ok (.i2l, 1) := by decide +kernel
theorem dX2_made_48 : decode cX2_made 48 = .ok (.lreturn, 1) := by decide +kernel
theorem dX2_made_49 : decode cX2_made 49 = .ok (.lload_n 1, 1) := by decide +kernel
theorem dX2_made_50 : decode cX2_made 50 = .ok (.l2i, 1) := by decide +kernel
theorem dX2_made_51 : decode cX2_made 51 = .ok (.i2c, 1) := by decide +kernel
theorem dX2_made_52 : decode cX2_made 52 = .ok (.i2l, 1) := by decide +kernel
theorem dX2_made_53 : decode cX2_made 53 = .ok (.lreturn, 1) := by decide +kernel
theorem dX2_made_54 : decode cX2_made 54 = .ok (.lload_n 1, 1) := by decide +kernel
theorem dX2_made_55 : decode cX2_made 55 = .ok (.l2i, 1) := by decide +kernel
theorem dX2_made_56 : decode cX2_made 56 = .ok (.i2s, 1) := by decide +kernel
theorem dX2_made_57 : decode cX2_made 57 = .ok (.i2l, 1) := by decide +kernel
theorem dX2_made_58 : decode cX2_made 58 = .ok (.lreturn, 1) := by decide +kernel
theorem dX2_made_59 : decode cX2_made 59 = .ok (.lload_n 1, 1) := by decide +kernel
theorem dX2_made_60 : decode cX2_made 60 = .ok (.l2i, 1) := by decide +kernel
theorem dX2_made_61 : decode cX2_made 61 = .ok (.i2l, 1) := by decide +kernel
theorem dX2_made_62 : decode cX2_made 62 = .ok (.lreturn, 1) := by decide +kernel
theorem dX2_made_63 : decode cX2_made 63 = .ok (.lload_n 1, 1) := by decide +kernel
theorem dX2_made_64 : decode cX2_made 64 = .ok (.lreturn, 1) := by decide +kernel
theorem dX2_made_65 : decode cX2_made 65 = .ok (.iload_n 0, 1) := by decide +kernel
theorem dX2_made_66 : decode cX2_made 66 = .ok (.lload_n 1, 1) := by decide +kernel
theorem dX2_made_67 : decode cX2_made 67 = .ok (.iconst 3, 1) := by decide +kernel
theorem dX2_made_68 : decode cX2_made 68 = .ok (.invokestatic 30, 3) := by decide +kernel
theorem dX2_made_71 : decode cX2_made 71 = .ok (.lreturn, 1) := by decide +kernel
def fX2_made (p1 : Int32) (p2 : Int64) : Option Int64 := (if p1 = 0 then some (p2 &&& (1 : Int64)) else (if p1 = 1 then some (Int32.toInt64 (ji2b (Int64.toInt32 p2))) else (if p1 = 2 then some (Int32.toInt64 (ji2c (Int64.toInt32 p2))) else (if p1 = 3 then some (Int32.toInt64 (ji2s (Int64.toInt32 p2))) else (if p1 = 4 then some (Int32.toInt64 (Int64.toInt32 p2)) else (if p1 = 5 then some p2 else ((fX2_nearest p1 p2 (3 : Int32)).bind fun r68 => some r68)))))))
set_option maxRecDepth 100000 in
set_option maxHeartbeats 4000000 in
theorem kX2_made (l : Launch) (p1 : Int32) (p2 : Int64) (out : Int64) (hf : fX2_made p1 p2 = some out) : Sq l yX2_made cX2_made 3 (some .long) 4 [.int p1, .long p2] (some (.long out)) := by
  refine Sq.of [(0, .int p1), (1, .long p2)] rfl (by decide +kernel) (Nat.le_of_ble_eq_true rfl) ?_
  intro κ hκ C hQ
  subst hκ
  replace C : Cf κ cX2_made 3 RX2 (some .long) 4 := C
  refine g_iload_n (pc := 0) (i := 0) (j := 0) C dX2_made_0 rfl rfl ?_
  by_cases h1_0 : p1 = 0
  · replace hf := ite_t h1_0 hf
    refine g_tabIn (pc := 1) (v := 0) (off := 39) (tgt := 40) C dX2_made_1 h1_0 (by decide) rfl ?_
    refine g_lload_n (pc := 40) (i := 1) (j := 1) C dX2_made_40 rfl rfl ?_
    refine g_lconst (pc := 41) C dX2_made_41 cl_1 ?_
    refine g_land (pc := 42) C dX2_made_42 ?_
    exact g_lretp (pc := 43) C hQ dX2_made_43 hf
  replace hf := ite_f h1_0 hf
  by_cases h1_1 : p1 = 1
  · replace hf := ite_t h1_1 hf
    refine g_tabIn (pc := 1) (v := 1) (off := 43) (tgt := 44) C dX2_made_1 h1_1 (by decide) rfl ?_
    refine g_lload_n (pc := 44) (i := 1) (j := 1) C dX2_made_44 rfl rfl ?_
    refine g_l2i (pc := 45) C dX2_made_45 ?_
    refine g_i2b (pc := 46) C dX2_made_46 ?_
    refine g_i2l (pc := 47) C dX2_made_47 ?_
    exact g_lretp (pc := 48) C hQ dX2_made_48 hf
  replace hf := ite_f h1_1 hf
  by_cases h1_2 : p1 = 2
  · replace hf := ite_t h1_2 hf
    refine g_tabIn (pc := 1) (v := 2) (off := 48) (tgt := 49) C dX2_made_1 h1_2 (by decide) rfl ?_
    refine g_lload_n (pc := 49) (i := 1) (j := 1) C dX2_made_49 rfl rfl ?_
    refine g_l2i (pc := 50) C dX2_made_50 ?_
    refine g_i2c (pc := 51) C dX2_made_51 ?_
    refine g_i2l (pc := 52) C dX2_made_52 ?_
    exact g_lretp (pc := 53) C hQ dX2_made_53 hf
  replace hf := ite_f h1_2 hf
  by_cases h1_3 : p1 = 3
  · replace hf := ite_t h1_3 hf
    refine g_tabIn (pc := 1) (v := 3) (off := 53) (tgt := 54) C dX2_made_1 h1_3 (by decide) rfl ?_
    refine g_lload_n (pc := 54) (i := 1) (j := 1) C dX2_made_54 rfl rfl ?_
    refine g_l2i (pc := 55) C dX2_made_55 ?_
    refine g_i2s (pc := 56) C dX2_made_56 ?_
    refine g_i2l (pc := 57) C dX2_made_57 ?_
    exact g_lretp (pc := 58) C hQ dX2_made_58 hf
  replace hf := ite_f h1_3 hf
  by_cases h1_4 : p1 = 4
  · replace hf := ite_t h1_4 hf
    refine g_tabIn (pc := 1) (v := 4) (off := 58) (tgt := 59) C dX2_made_1 h1_4 (by decide) rfl ?_
    refine g_lload_n (pc := 59) (i := 1) (j := 1) C dX2_made_59 rfl rfl ?_
    refine g_l2i (pc := 60) C dX2_made_60 ?_
    refine g_i2l (pc := 61) C dX2_made_61 ?_
    exact g_lretp (pc := 62) C hQ dX2_made_62 hf
  replace hf := ite_f h1_4 hf
  by_cases h1_5 : p1 = 5
  · replace hf := ite_t h1_5 hf
    refine g_tabIn (pc := 1) (v := 5) (off := 62) (tgt := 63) C dX2_made_1 h1_5 (by decide) rfl ?_
    refine g_lload_n (pc := 63) (i := 1) (j := 1) C dX2_made_63 rfl rfl ?_
    exact g_lretp (pc := 64) C hQ dX2_made_64 hf
  replace hf := ite_f h1_5 hf
  have e1_0 := i32_ne (n := 0) h1_0 (by decide)
  have e1_1 := i32_ne (n := 1) h1_1 (by decide)
  have e1_2 := i32_ne (n := 2) h1_2 (by decide)
  have e1_3 := i32_ne (n := 3) h1_3 (by decide)
  have e1_4 := i32_ne (n := 4) h1_4 (by decide)
  have e1_5 := i32_ne (n := 5) h1_5 (by decide)
  refine g_tabOut (pc := 1) (tgt := 65) C dX2_made_1 (by omega) rfl ?_
  refine g_iload_n (pc := 65) (i := 0) (j := 0) C dX2_made_65 rfl rfl ?_
  refine g_lload_n (pc := 66) (i := 1) (j := 1) C dX2_made_66 rfl rfl ?_
  refine g_iconst (pc := 67) C dX2_made_67 ci_3 ?_
  refine g_cpl (pc := 68) (st := []) C lkX2_30 (As := [.int p1, .long p2, .int (3 : Int32)]) rfl (fun out h => kX2_nearest (kl κ) p1 p2 (3 : Int32) out h) (by decide) rfl (Nat.le_of_ble_eq_true rfl) dX2_made_68 hf (fun r68 _ hf => ?_)
  exact g_lretp (pc := 71) C hQ dX2_made_71 hf
theorem dX2_sameNumber_0 : decode cX2_sameNumber 0 = .ok (.iload_n 2, 1) := by decide +kernel
theorem dX2_sameNumber_1 : decode cX2_sameNumber 1 = .ok (.bipush 6, 2) := by decide +kernel
theorem dX2_sameNumber_3 : decode cX2_sameNumber 3 = .ok (.if_icmp .ge 9, 3) := by decide +kernel
theorem dX2_sameNumber_6 : decode cX2_sameNumber 6 = .ok (.iload_n 3, 1) := by decide +kernel
theorem dX2_sameNumber_7 : decode cX2_sameNumber 7 = .ok (.lload_n 0, 1) := by decide +kernel
theorem dX2_sameNumber_8 : decode cX2_sameNumber 8 = .ok (.invokestatic 42, 3) := by decide +kernel
theorem dX2_sameNumber_11 : decode cX2_sameNumber 11 = .ok (.lreturn, 1) := by decide +kernel
theorem dX2_sameNumber_12 : decode cX2_sameNumber 12 = .ok (.lload_n 0, 1) := by decide +kernel
theorem dX2_sameNumber_13 : decode cX2_sameNumber 13 = .ok (.iload_n 2, 1) := by decide +kernel
theorem dX2_sameNumber_14 : decode cX2_sameNumber 14 = .ok (.invokestatic 50, 3) := by decide +kernel
theorem dX2_sameNumber_17 : decode cX2_sameNumber 17 = .ok (.lstore 4, 2) := by decide +kernel
theorem dX2_sameNumber_19 : decode cX2_sameNumber 19 = .ok (.iload_n 3, 1) := by decide +kernel
theorem dX2_sameNumber_20 : decode cX2_sameNumber 20 = .ok (.bipush 6, 2) := by decide +kernel
theorem dX2_sameNumber_22 : decode cX2_sameNumber 22 = .ok (.if_icmp .ge 9, 3) := by decide +kernel
theorem dX2_sameNumber_25 : decode cX2_sameNumber 25 = .ok (.lload 4, 2) := by decide +kernel
theorem dX2_sameNumber_27 : decode cX2_sameNumber 27 = .ok (.invokestatic 58, 3) := by decide +kernel
theorem dX2_sameNumber_30 : decode cX2_sameNumber 30 = .ok (.lreturn, 1) := by decide +kernel
theorem dX2_sameNumber_31 : decode cX2_sameNumber 31 = .ok (.iload_n 3, 1) := by decide +kernel
theorem dX2_sameNumber_32 : decode cX2_sameNumber 32 = .ok (.bipush 7, 2) := by decide +kernel
theorem dX2_sameNumber_34 : decode cX2_sameNumber 34 = .ok (.if_icmp .ne 8, 3) := by decide +kernel
theorem dX2_sameNumber_37 : decode cX2_sameNumber 37 = .ok (.lload 4, 2) := by decide +kernel
theorem dX2_sameNumber_39 : decode cX2_sameNumber 39 = .ok (.goto 8, 3) := by decide +kernel
theorem dX2_sameNumber_42 : decode cX2_sameNumber 42 = .ok (.lload 4, 2) := by decide +kernel
theorem dX2_sameNumber_44 : decode cX2_sameNumber 44 = .ok (.invokestatic 63, 3) := by decide +kernel
theorem dX2_sameNumber_47 : decode cX2_sameNumber 47 = .ok (.lreturn, 1) := by decide +kernel
def fX2_sameNumber (p1 : Int64) (p2 : Int32) (p3 : Int32) : Option Int64 := (if (6 : Int32) ≤ p2 then ((fX2_asDouble p1 p2).bind fun r14 => (if (6 : Int32) ≤ p3 then (if p3 = (7 : Int32) then some r14 else ((fX2_floatOfDouble r14).bind fun r44 => some r44)) else ((fX2_wholeOf r14).bind fun r27 => some r27))) else ((fX2_ofWhole p3 p1).bind fun r8 => some r8))
set_option maxRecDepth 100000 in
set_option maxHeartbeats 4000000 in
theorem kX2_sameNumber (l : Launch) (p1 : Int64) (p2 : Int32) (p3 : Int32) (out : Int64) (hf : fX2_sameNumber p1 p2 p3 = some out) : Sq l yX2_sameNumber cX2_sameNumber 6 (some .long) 5 [.long p1, .int p2, .int p3] (some (.long out)) := by
  refine Sq.of [(0, .long p1), (2, .int p2), (3, .int p3)] rfl (by decide +kernel) (Nat.le_of_ble_eq_true rfl) ?_
  intro κ hκ C hQ
  subst hκ
  replace C : Cf κ cX2_sameNumber 6 RX2 (some .long) 5 := C
  refine g_iload_n (pc := 0) (i := 2) (j := 1) C dX2_sameNumber_0 rfl rfl ?_
  refine g_bipush (pc := 1) C dX2_sameNumber_1 cb_6 ?_
  refine g_icmp_ge (pc := 3) (tgt := 12) C dX2_sameNumber_3 rfl hf (fun _ hf => ?_) (fun _ hf => ?_)
  · refine g_lload_n (pc := 12) (i := 0) (j := 0) C dX2_sameNumber_12 rfl rfl ?_
    refine g_iload_n (pc := 13) (i := 2) (j := 1) C dX2_sameNumber_13 rfl rfl ?_
    refine g_cpl (pc := 14) (st := []) C lkX2_50 (As := [.long p1, .int p2]) rfl (fun out h => kX2_asDouble (kl κ) p1 p2 out h) (by decide) rfl (Nat.le_of_ble_eq_true rfl) dX2_sameNumber_14 hf (fun r14 _ hf => ?_)
    refine g_lstore (pc := 17) (i := 4) (L' := [(4, .long r14), (0, .long p1), (2, .int p2), (3, .int p3)]) C dX2_sameNumber_17 (by decide) rfl ?_
    refine g_iload_n (pc := 19) (i := 3) (j := 3) C dX2_sameNumber_19 rfl rfl ?_
    refine g_bipush (pc := 20) C dX2_sameNumber_20 cb_6 ?_
    refine g_icmp_ge (pc := 22) (tgt := 31) C dX2_sameNumber_22 rfl hf (fun _ hf => ?_) (fun _ hf => ?_)
    · refine g_iload_n (pc := 31) (i := 3) (j := 3) C dX2_sameNumber_31 rfl rfl ?_
      refine g_bipush (pc := 32) C dX2_sameNumber_32 cb_7 ?_
      refine g_icmp_ne (pc := 34) (tgt := 42) C dX2_sameNumber_34 rfl hf (fun _ hf => ?_) (fun _ hf => ?_)
      · refine g_lload (pc := 42) (i := 4) (j := 0) C dX2_sameNumber_42 rfl ?_
        refine g_cpl (pc := 44) (st := []) C lkX2_63 (As := [.long r14]) rfl (fun out h => kX2_floatOfDouble (kl κ) r14 out h) (by decide) rfl (Nat.le_of_ble_eq_true rfl) dX2_sameNumber_44 hf (fun r44 _ hf => ?_)
        exact g_lretp (pc := 47) C hQ dX2_sameNumber_47 hf
      · refine g_lload (pc := 37) (i := 4) (j := 0) C dX2_sameNumber_37 rfl ?_
        refine g_goto (pc := 39) (tgt := 47) C dX2_sameNumber_39 rfl ?_
        exact g_lretp (pc := 47) C hQ dX2_sameNumber_47 hf
    · refine g_lload (pc := 25) (i := 4) (j := 0) C dX2_sameNumber_25 rfl ?_
      refine g_cpl (pc := 27) (st := []) C lkX2_58 (As := [.long r14]) rfl (fun out h => kX2_wholeOf (kl κ) r14 out h) (by decide) rfl (Nat.le_of_ble_eq_true rfl) dX2_sameNumber_27 hf (fun r27 _ hf => ?_)
      exact g_lretp (pc := 30) C hQ dX2_sameNumber_30 hf
  · refine g_iload_n (pc := 6) (i := 3) (j := 2) C dX2_sameNumber_6 rfl rfl ?_
    refine g_lload_n (pc := 7) (i := 0) (j := 0) C dX2_sameNumber_7 rfl rfl ?_
    refine g_cpl (pc := 8) (st := []) C lkX2_42 (As := [.int p3, .long p1]) rfl (fun out h => kX2_ofWhole (kl κ) p3 p1 out h) (by decide) rfl (Nat.le_of_ble_eq_true rfl) dX2_sameNumber_8 hf (fun r8 _ hf => ?_)
    exact g_lretp (pc := 11) C hQ dX2_sameNumber_11 hf
theorem dX3_isDigit_0 : decode cX3_isDigit 0 = .ok (.iload_n 0, 1) := by decide +kernel
theorem dX3_isDigit_1 : decode cX3_isDigit 1 = .ok (.bipush 48, 2) := by decide +kernel
theorem dX3_isDigit_3 : decode cX3_isDigit 3 = .ok (.if_icmp .lt 13, 3) := by decide +kernel
theorem dX3_isDigit_6 : decode cX3_isDigit 6 = .ok (.iload_n 0, 1) := by decide +kernel
theorem dX3_isDigit_7 : decode cX3_isDigit 7 = .ok (.bipush 57, 2) := by decide +kernel
theorem dX3_isDigit_9 : decode cX3_isDigit 9 = .ok (.if_icmp .gt 7, 3) := by decide +kernel
theorem dX3_isDigit_12 : decode cX3_isDigit 12 = .ok (.iconst 1, 1) := by decide +kernel
theorem dX3_isDigit_13 : decode cX3_isDigit 13 = .ok (.goto 4, 3) := by decide +kernel
theorem dX3_isDigit_16 : decode cX3_isDigit 16 = .ok (.iconst 0, 1) := by decide +kernel
theorem dX3_isDigit_17 : decode cX3_isDigit 17 = .ok (.ireturn, 1) := by decide +kernel
def fX3_isDigit (p1 : Int32) : Option Int32 := (if p1 < (48 : Int32) then some (0 : Int32) else (if (57 : Int32) < p1 then some (0 : Int32) else some (1 : Int32)))
set_option maxRecDepth 100000 in
set_option maxHeartbeats 4000000 in
theorem kX3_isDigit (l : Launch) (p1 : Int32) (out : Int32) (hf : fX3_isDigit p1 = some out) : Sq l yX3_isDigit cX3_isDigit 1 (some .boolean) 0 [.int p1] (some (.int out)) := by
  refine Sq.of [(0, .int p1)] rfl (by decide +kernel) (Nat.le_of_ble_eq_true rfl) ?_
  intro κ hκ C hQ
  subst hκ
  replace C : Cf κ cX3_isDigit 1 RX3 (some .boolean) 0 := C
  refine g_iload_n (pc := 0) (i := 0) (j := 0) C dX3_isDigit_0 rfl rfl ?_
  refine g_bipush (pc := 1) C dX3_isDigit_1 cb_48 ?_
  refine g_icmp_lt (pc := 3) (tgt := 16) C dX3_isDigit_3 rfl hf (fun _ hf => ?_) (fun _ hf => ?_)
  · refine g_iconst (pc := 16) C dX3_isDigit_16 ci_0 ?_
    exact g_zret1p (pc := 17) C rfl hQ dX3_isDigit_17 hf
  · refine g_iload_n (pc := 6) (i := 0) (j := 0) C dX3_isDigit_6 rfl rfl ?_
    refine g_bipush (pc := 7) C dX3_isDigit_7 cb_57 ?_
    refine g_icmp_gt (pc := 9) (tgt := 16) C dX3_isDigit_9 rfl hf (fun _ hf => ?_) (fun _ hf => ?_)
    · refine g_iconst (pc := 16) C dX3_isDigit_16 ci_0 ?_
      exact g_zret1p (pc := 17) C rfl hQ dX3_isDigit_17 hf
    · refine g_iconst (pc := 12) C dX3_isDigit_12 ci_1 ?_
      refine g_goto (pc := 13) (tgt := 17) C dX3_isDigit_13 rfl ?_
      exact g_zret1p (pc := 17) C rfl hQ dX3_isDigit_17 hf
theorem dX7_isPrimitive_0 : decode cX7_isPrimitive 0 = .ok (.iload_n 0, 1) := by decide +kernel
theorem dX7_isPrimitive_1 : decode cX7_isPrimitive 1 = .ok (.ifCond .lt 13, 3) := by decide +kernel
theorem dX7_isPrimitive_4 : decode cX7_isPrimitive 4 = .ok (.iload_n 0, 1) := by decide +kernel
theorem dX7_isPrimitive_5 : decode cX7_isPrimitive 5 = .ok (.bipush 8, 2) := by decide +kernel
theorem dX7_isPrimitive_7 : decode cX7_isPrimitive 7 = .ok (.if_icmp .ge 7, 3) := by decide +kernel
theorem dX7_isPrimitive_10 : decode cX7_isPrimitive 10 = .ok (.iconst 1, 1) := by decide +kernel
theorem dX7_isPrimitive_11 : decode cX7_isPrimitive 11 = .ok (.goto 4, 3) := by decide +kernel
theorem dX7_isPrimitive_14 : decode cX7_isPrimitive 14 = .ok (.iconst 0, 1) := by decide +kernel
theorem dX7_isPrimitive_15 : decode cX7_isPrimitive 15 = .ok (.ireturn, 1) := by decide +kernel
def fX7_isPrimitive (p1 : Int32) : Option Int32 := (if p1 < 0 then some (0 : Int32) else (if (8 : Int32) ≤ p1 then some (0 : Int32) else some (1 : Int32)))
set_option maxRecDepth 100000 in
set_option maxHeartbeats 4000000 in
theorem kX7_isPrimitive (l : Launch) (p1 : Int32) (out : Int32) (hf : fX7_isPrimitive p1 = some out) : Sq l yX7_isPrimitive cX7_isPrimitive 1 (some .boolean) 0 [.int p1] (some (.int out)) := by
  refine Sq.of [(0, .int p1)] rfl (by decide +kernel) (Nat.le_of_ble_eq_true rfl) ?_
  intro κ hκ C hQ
  subst hκ
  replace C : Cf κ cX7_isPrimitive 1 RX7 (some .boolean) 0 := C
  refine g_iload_n (pc := 0) (i := 0) (j := 0) C dX7_isPrimitive_0 rfl rfl ?_
  refine g_if_lt (pc := 1) (tgt := 14) C dX7_isPrimitive_1 rfl hf (fun _ hf => ?_) (fun _ hf => ?_)
  · refine g_iconst (pc := 14) C dX7_isPrimitive_14 ci_0 ?_
    exact g_zret1p (pc := 15) C rfl hQ dX7_isPrimitive_15 hf
  · refine g_iload_n (pc := 4) (i := 0) (j := 0) C dX7_isPrimitive_4 rfl rfl ?_
    refine g_bipush (pc := 5) C dX7_isPrimitive_5 cb_8 ?_
    refine g_icmp_ge (pc := 7) (tgt := 14) C dX7_isPrimitive_7 rfl hf (fun _ hf => ?_) (fun _ hf => ?_)
    · refine g_iconst (pc := 14) C dX7_isPrimitive_14 ci_0 ?_
      exact g_zret1p (pc := 15) C rfl hQ dX7_isPrimitive_15 hf
    · refine g_iconst (pc := 10) C dX7_isPrimitive_10 ci_1 ?_
      refine g_goto (pc := 11) (tgt := 15) C dX7_isPrimitive_11 rfl ?_
      exact g_zret1p (pc := 15) C rfl hQ dX7_isPrimitive_15 hf
theorem dX4_isMark_0 : decode cX4_isMark 0 = .ok (.iload_n 0, 1) := by decide +kernel
theorem dX4_isMark_1 : decode cX4_isMark 1 = .ok (.bipush 8, 2) := by decide +kernel
theorem dX4_isMark_3 : decode cX4_isMark 3 = .ok (.if_icmp .eq 9, 3) := by decide +kernel
theorem dX4_isMark_6 : decode cX4_isMark 6 = .ok (.iload_n 0, 1) := by decide +kernel
theorem dX4_isMark_7 : decode cX4_isMark 7 = .ok (.bipush 9, 2) := by decide +kernel
theorem dX4_isMark_9 : decode cX4_isMark 9 = .ok (.if_icmp .ne 7, 3) := by decide +kernel
theorem dX4_isMark_12 : decode cX4_isMark 12 = .ok (.iconst 1, 1) := by decide +kernel
theorem dX4_isMark_13 : decode cX4_isMark 13 = .ok (.goto 4, 3) := by decide +kernel
theorem dX4_isMark_16 : decode cX4_isMark 16 = .ok (.iconst 0, 1) := by decide +kernel
theorem dX4_isMark_17 : decode cX4_isMark 17 = .ok (.ireturn, 1) := by decide +kernel
def fX4_isMark (p1 : Int32) : Option Int32 := (if p1 = (8 : Int32) then some (1 : Int32) else (if p1 = (9 : Int32) then some (1 : Int32) else some (0 : Int32)))
set_option maxRecDepth 100000 in
set_option maxHeartbeats 4000000 in
theorem kX4_isMark (l : Launch) (p1 : Int32) (out : Int32) (hf : fX4_isMark p1 = some out) : Sq l yX4_isMark cX4_isMark 1 (some .boolean) 0 [.int p1] (some (.int out)) := by
  refine Sq.of [(0, .int p1)] rfl (by decide +kernel) (Nat.le_of_ble_eq_true rfl) ?_
  intro κ hκ C hQ
  subst hκ
  replace C : Cf κ cX4_isMark 1 RX4 (some .boolean) 0 := C
  refine g_iload_n (pc := 0) (i := 0) (j := 0) C dX4_isMark_0 rfl rfl ?_
  refine g_bipush (pc := 1) C dX4_isMark_1 cb_8 ?_
  refine g_icmp_eq (pc := 3) (tgt := 12) C dX4_isMark_3 rfl hf (fun _ hf => ?_) (fun _ hf => ?_)
  · refine g_iconst (pc := 12) C dX4_isMark_12 ci_1 ?_
    refine g_goto (pc := 13) (tgt := 17) C dX4_isMark_13 rfl ?_
    exact g_zret1p (pc := 17) C rfl hQ dX4_isMark_17 hf
  · refine g_iload_n (pc := 6) (i := 0) (j := 0) C dX4_isMark_6 rfl rfl ?_
    refine g_bipush (pc := 7) C dX4_isMark_7 cb_9 ?_
    refine g_icmp_ne (pc := 9) (tgt := 16) C dX4_isMark_9 rfl hf (fun _ hf => ?_) (fun _ hf => ?_)
    · refine g_iconst (pc := 16) C dX4_isMark_16 ci_0 ?_
      exact g_zret1p (pc := 17) C rfl hQ dX4_isMark_17 hf
    · refine g_iconst (pc := 12) C dX4_isMark_12 ci_1 ?_
      refine g_goto (pc := 13) (tgt := 17) C dX4_isMark_13 rfl ?_
      exact g_zret1p (pc := 17) C rfl hQ dX4_isMark_17 hf
theorem dX4_accepts_0 : decode cX4_accepts 0 = .ok (.iload_n 0, 1) := by decide +kernel
theorem dX4_accepts_1 : decode cX4_accepts 1 = .ok (.tableswitch 77 8 12 #[35, 40, 52, 64, 75], 35) := by decide +kernel
theorem dX4_accepts_36 : decode cX4_accepts 36 = .ok (.iload_n 1, 1) := by decide +kernel
theorem dX4_accepts_37 : decode cX4_accepts 37 = .ok (.invokestatic 13, 3) := by decide +kernel
theorem dX4_accepts_40 : decode cX4_accepts 40 = .ok (.ireturn, 1) := by decide +kernel
theorem dX4_accepts_41 : decode cX4_accepts 41 = .ok (.iload_n 1, 1) := by decide +kernel
theorem dX4_accepts_42 : decode cX4_accepts 42 = .ok (.bipush 9, 2) := by decide +kernel
theorem dX4_accepts_44 : decode cX4_accepts 44 = .ok (.if_icmp .ne 7, 3) := by decide +kernel
theorem dX4_accepts_47 : decode cX4_accepts 47 = .ok (.iconst 1, 1) := by decide +kernel
theorem dX4_accepts_48 : decode cX4_accepts 48 = .ok (.goto 4, 3) := by decide +kernel
theorem dX4_accepts_51 : decode cX4_accepts 51 = .ok (.iconst 0, 1) := by decide +kernel
theorem dX4_accepts_52 : decode cX4_accepts 52 = .ok (.ireturn, 1) := by decide +kernel
theorem dX4_accepts_53 : decode cX4_accepts 53 = .ok (.iload_n 1, 1) := by decide +kernel
theorem dX4_accepts_54 : decode cX4_accepts 54 = .ok (.bipush 10, 2) := by decide +kernel
theorem dX4_accepts_56 : decode cX4_accepts 56 = .ok (.if_icmp .ne 7, 3) := by decide +kernel
theorem dX4_accepts_59 : decode cX4_accepts 59 = .ok (.iconst 1, 1) := by decide +kernel
theorem dX4_accepts_60 : decode cX4_accepts 60 = .ok (.goto 4, 3) := by decide +kernel
theorem dX4_accepts_63 : decode cX4_accepts 63 = .ok (.iconst 0, 1) := by decide +kernel
theorem dX4_accepts_64 : decode cX4_accepts 64 = .ok (.ireturn, 1) := by decide +kernel
theorem dX4_accepts_65 : decode cX4_accepts 65 = .ok (.iload_n 1, 1) := by decide +kernel
theorem dX4_accepts_66 : decode cX4_accepts 66 = .ok (.iconst 4, 1) := by decide +kernel
theorem dX4_accepts_67 : decode cX4_accepts 67 = .ok (.if_icmp .ne 7, 3) := by decide +kernel
theorem dX4_accepts_70 : decode cX4_accepts 70 = .ok (.iconst 1, 1) := by decide +kernel
theorem dX4_accepts_71 : decode cX4_accepts 71 = .ok (.goto 4, 3) := by decide +kernel
theorem dX4_accepts_74 : decode cX4_accepts 74 = .ok (.iconst 0, 1) := by decide +kernel
theorem dX4_accepts_75 : decode cX4_accepts 75 = .ok (.ireturn, 1) := by decide +kernel
theorem dX4_accepts_76 : decode cX4_accepts 76 = .ok (.iconst 1, 1) := by decide +kernel
theorem dX4_accepts_77 : decode cX4_accepts 77 = .ok (.ireturn, 1) := by decide +kernel
theorem dX4_accepts_78 : decode cX4_accepts 78 = .ok (.iload_n 1, 1) := by decide +kernel
theorem dX4_accepts_79 : decode cX4_accepts 79 = .ok (.invokestatic 9, 3) := by decide +kernel
theorem dX4_accepts_82 : decode cX4_accepts 82 = .ok (.ifCond .eq 15, 3) := by decide +kernel
theorem dX4_accepts_85 : decode cX4_accepts 85 = .ok (.iload_n 1, 1) := by decide +kernel
theorem dX4_accepts_86 : decode cX4_accepts 86 = .ok (.iload_n 0, 1) := by decide +kernel
theorem dX4_accepts_87 : decode cX4_accepts 87 = .ok (.invokestatic 22, 3) := by decide +kernel
theorem dX4_accepts_90 : decode cX4_accepts 90 = .ok (.ifCond .eq 7, 3) := by decide +kernel
theorem dX4_accepts_93 : decode cX4_accepts 93 = .ok (.iconst 1, 1) := by decide +kernel
theorem dX4_accepts_94 : decode cX4_accepts 94 = .ok (.goto 4, 3) := by decide +kernel
theorem dX4_accepts_97 : decode cX4_accepts 97 = .ok (.iconst 0, 1) := by decide +kernel
theorem dX4_accepts_98 : decode cX4_accepts 98 = .ok (.ireturn, 1) := by decide +kernel
def fX4_accepts (p1 : Int32) (p2 : Int32) : Option Int32 := (if p1 = 8 then ((fX4_isMark p2).bind fun r37 => (if rbz r37 = true then some r37 else none)) else (if p1 = 9 then (if p2 = (9 : Int32) then some (1 : Int32) else some (0 : Int32)) else (if p1 = 10 then (if p2 = (10 : Int32) then some (1 : Int32) else some (0 : Int32)) else (if p1 = 11 then (if p2 = (4 : Int32) then some (1 : Int32) else some (0 : Int32)) else (if p1 = 12 then some (1 : Int32) else ((fX7_isPrimitive p2).bind fun r79 => (if r79 = 0 then some (0 : Int32) else ((fX2_widens p2 p1).bind fun r87 => (if r87 = 0 then some (0 : Int32) else some (1 : Int32))))))))))
set_option maxRecDepth 100000 in
set_option maxHeartbeats 4000000 in
theorem kX4_accepts (l : Launch) (p1 : Int32) (p2 : Int32) (out : Int32) (hf : fX4_accepts p1 p2 = some out) : Sq l yX4_accepts cX4_accepts 2 (some .boolean) 1 [.int p1, .int p2] (some (.int out)) := by
  refine Sq.of [(0, .int p1), (1, .int p2)] rfl (by decide +kernel) (Nat.le_of_ble_eq_true rfl) ?_
  intro κ hκ C hQ
  subst hκ
  replace C : Cf κ cX4_accepts 2 RX4 (some .boolean) 1 := C
  refine g_iload_n (pc := 0) (i := 0) (j := 0) C dX4_accepts_0 rfl rfl ?_
  by_cases h1_0 : p1 = 8
  · replace hf := ite_t h1_0 hf
    refine g_tabIn (pc := 1) (v := 8) (off := 35) (tgt := 36) C dX4_accepts_1 h1_0 (by decide) rfl ?_
    refine g_iload_n (pc := 36) (i := 1) (j := 1) C dX4_accepts_36 rfl rfl ?_
    refine g_cpi (pc := 37) (st := []) C lkX4_13 (As := [.int p2]) rfl (fun out h => kX4_isMark (kl κ) p2 out h) (by decide) rfl (Nat.le_of_ble_eq_true rfl) dX4_accepts_37 hf (fun r37 _ hf => ?_)
    exact g_zretp (pc := 40) C hQ dX4_accepts_40 hf
  replace hf := ite_f h1_0 hf
  by_cases h1_1 : p1 = 9
  · replace hf := ite_t h1_1 hf
    refine g_tabIn (pc := 1) (v := 9) (off := 40) (tgt := 41) C dX4_accepts_1 h1_1 (by decide) rfl ?_
    refine g_iload_n (pc := 41) (i := 1) (j := 1) C dX4_accepts_41 rfl rfl ?_
    refine g_bipush (pc := 42) C dX4_accepts_42 cb_9 ?_
    refine g_icmp_ne (pc := 44) (tgt := 51) C dX4_accepts_44 rfl hf (fun _ hf => ?_) (fun _ hf => ?_)
    · refine g_iconst (pc := 51) C dX4_accepts_51 ci_0 ?_
      exact g_zret1p (pc := 52) C rfl hQ dX4_accepts_52 hf
    · refine g_iconst (pc := 47) C dX4_accepts_47 ci_1 ?_
      refine g_goto (pc := 48) (tgt := 52) C dX4_accepts_48 rfl ?_
      exact g_zret1p (pc := 52) C rfl hQ dX4_accepts_52 hf
  replace hf := ite_f h1_1 hf
  by_cases h1_2 : p1 = 10
  · replace hf := ite_t h1_2 hf
    refine g_tabIn (pc := 1) (v := 10) (off := 52) (tgt := 53) C dX4_accepts_1 h1_2 (by decide) rfl ?_
    refine g_iload_n (pc := 53) (i := 1) (j := 1) C dX4_accepts_53 rfl rfl ?_
    refine g_bipush (pc := 54) C dX4_accepts_54 cb_10 ?_
    refine g_icmp_ne (pc := 56) (tgt := 63) C dX4_accepts_56 rfl hf (fun _ hf => ?_) (fun _ hf => ?_)
    · refine g_iconst (pc := 63) C dX4_accepts_63 ci_0 ?_
      exact g_zret1p (pc := 64) C rfl hQ dX4_accepts_64 hf
    · refine g_iconst (pc := 59) C dX4_accepts_59 ci_1 ?_
      refine g_goto (pc := 60) (tgt := 64) C dX4_accepts_60 rfl ?_
      exact g_zret1p (pc := 64) C rfl hQ dX4_accepts_64 hf
  replace hf := ite_f h1_2 hf
  by_cases h1_3 : p1 = 11
  · replace hf := ite_t h1_3 hf
    refine g_tabIn (pc := 1) (v := 11) (off := 64) (tgt := 65) C dX4_accepts_1 h1_3 (by decide) rfl ?_
    refine g_iload_n (pc := 65) (i := 1) (j := 1) C dX4_accepts_65 rfl rfl ?_
    refine g_iconst (pc := 66) C dX4_accepts_66 ci_4 ?_
    refine g_icmp_ne (pc := 67) (tgt := 74) C dX4_accepts_67 rfl hf (fun _ hf => ?_) (fun _ hf => ?_)
    · refine g_iconst (pc := 74) C dX4_accepts_74 ci_0 ?_
      exact g_zret1p (pc := 75) C rfl hQ dX4_accepts_75 hf
    · refine g_iconst (pc := 70) C dX4_accepts_70 ci_1 ?_
      refine g_goto (pc := 71) (tgt := 75) C dX4_accepts_71 rfl ?_
      exact g_zret1p (pc := 75) C rfl hQ dX4_accepts_75 hf
  replace hf := ite_f h1_3 hf
  by_cases h1_4 : p1 = 12
  · replace hf := ite_t h1_4 hf
    refine g_tabIn (pc := 1) (v := 12) (off := 75) (tgt := 76) C dX4_accepts_1 h1_4 (by decide) rfl ?_
    refine g_iconst (pc := 76) C dX4_accepts_76 ci_1 ?_
    exact g_zret1p (pc := 77) C rfl hQ dX4_accepts_77 hf
  replace hf := ite_f h1_4 hf
  have e1_0 := i32_ne (n := 8) h1_0 (by decide)
  have e1_1 := i32_ne (n := 9) h1_1 (by decide)
  have e1_2 := i32_ne (n := 10) h1_2 (by decide)
  have e1_3 := i32_ne (n := 11) h1_3 (by decide)
  have e1_4 := i32_ne (n := 12) h1_4 (by decide)
  refine g_tabOut (pc := 1) (tgt := 78) C dX4_accepts_1 (by omega) rfl ?_
  refine g_iload_n (pc := 78) (i := 1) (j := 1) C dX4_accepts_78 rfl rfl ?_
  refine g_cni (pc := 79) (st := []) C lkX4_9 (As := [.int p2]) rfl (fun out h => kX7_isPrimitive (kl κ) p2 out h) (by decide) rfl (Nat.le_of_ble_eq_true rfl) dX4_accepts_79 hf (fun r79 _ hf => ?_)
  refine g_if_eq (pc := 82) (tgt := 97) C dX4_accepts_82 rfl hf (fun _ hf => ?_) (fun _ hf => ?_)
  · refine g_iconst (pc := 97) C dX4_accepts_97 ci_0 ?_
    exact g_zret1p (pc := 98) C rfl hQ dX4_accepts_98 hf
  · refine g_iload_n (pc := 85) (i := 1) (j := 1) C dX4_accepts_85 rfl rfl ?_
    refine g_iload_n (pc := 86) (i := 0) (j := 0) C dX4_accepts_86 rfl rfl ?_
    refine g_cpi (pc := 87) (st := []) C lkX4_22 (As := [.int p2, .int p1]) rfl (fun out h => kX2_widens (kl κ) p2 p1 out h) (by decide) rfl (Nat.le_of_ble_eq_true rfl) dX4_accepts_87 hf (fun r87 _ hf => ?_)
    refine g_if_eq (pc := 90) (tgt := 97) C dX4_accepts_90 rfl hf (fun _ hf => ?_) (fun _ hf => ?_)
    · refine g_iconst (pc := 97) C dX4_accepts_97 ci_0 ?_
      exact g_zret1p (pc := 98) C rfl hQ dX4_accepts_98 hf
    · refine g_iconst (pc := 93) C dX4_accepts_93 ci_1 ?_
      refine g_goto (pc := 94) (tgt := 98) C dX4_accepts_94 rfl ?_
      exact g_zret1p (pc := 98) C rfl hQ dX4_accepts_98 hf
theorem dX4_fetchFit_0 : decode cX4_fetchFit 0 = .ok (.iload_n 0, 1) := by decide +kernel
theorem dX4_fetchFit_1 : decode cX4_fetchFit 1 = .ok (.bipush 15, 2) := by decide +kernel
theorem dX4_fetchFit_3 : decode cX4_fetchFit 3 = .ok (.if_icmp .ne 5, 3) := by decide +kernel
theorem dX4_fetchFit_6 : decode cX4_fetchFit 6 = .ok (.iconst 5, 1) := by decide +kernel
theorem dX4_fetchFit_7 : decode cX4_fetchFit 7 = .ok (.ireturn, 1) := by decide +kernel
theorem dX4_fetchFit_8 : decode cX4_fetchFit 8 = .ok (.iload_n 0, 1) := by decide +kernel
theorem dX4_fetchFit_9 : decode cX4_fetchFit 9 = .ok (.bipush 12, 2) := by decide +kernel
theorem dX4_fetchFit_11 : decode cX4_fetchFit 11 = .ok (.if_icmp .le 7, 3) := by decide +kernel
theorem dX4_fetchFit_14 : decode cX4_fetchFit 14 = .ok (.iconst 3, 1) := by decide +kernel
theorem dX4_fetchFit_15 : decode cX4_fetchFit 15 = .ok (.goto 4, 3) := by decide +kernel
theorem dX4_fetchFit_18 : decode cX4_fetchFit 18 = .ok (.iconst 0, 1) := by decide +kernel
theorem dX4_fetchFit_19 : decode cX4_fetchFit 19 = .ok (.ireturn, 1) := by decide +kernel
def fX4_fetchFit (p1 : Int32) : Option Int32 := (if p1 = (15 : Int32) then some (5 : Int32) else (if p1 ≤ (12 : Int32) then some (0 : Int32) else some (3 : Int32)))
set_option maxRecDepth 100000 in
set_option maxHeartbeats 4000000 in
theorem kX4_fetchFit (l : Launch) (p1 : Int32) (out : Int32) (hf : fX4_fetchFit p1 = some out) : Sq l yX4_fetchFit cX4_fetchFit 1 (some .int) 0 [.int p1] (some (.int out)) := by
  refine Sq.of [(0, .int p1)] rfl (by decide +kernel) (Nat.le_of_ble_eq_true rfl) ?_
  intro κ hκ C hQ
  subst hκ
  replace C : Cf κ cX4_fetchFit 1 RX4 (some .int) 0 := C
  refine g_iload_n (pc := 0) (i := 0) (j := 0) C dX4_fetchFit_0 rfl rfl ?_
  refine g_bipush (pc := 1) C dX4_fetchFit_1 cb_15 ?_
  refine g_icmp_ne (pc := 3) (tgt := 8) C dX4_fetchFit_3 rfl hf (fun _ hf => ?_) (fun _ hf => ?_)
  · refine g_iload_n (pc := 8) (i := 0) (j := 0) C dX4_fetchFit_8 rfl rfl ?_
    refine g_bipush (pc := 9) C dX4_fetchFit_9 cb_12 ?_
    refine g_icmp_le (pc := 11) (tgt := 18) C dX4_fetchFit_11 rfl hf (fun _ hf => ?_) (fun _ hf => ?_)
    · refine g_iconst (pc := 18) C dX4_fetchFit_18 ci_0 ?_
      exact g_iretp (pc := 19) C hQ dX4_fetchFit_19 hf
    · refine g_iconst (pc := 14) C dX4_fetchFit_14 ci_3 ?_
      refine g_goto (pc := 15) (tgt := 19) C dX4_fetchFit_15 rfl ?_
      exact g_iretp (pc := 19) C hQ dX4_fetchFit_19 hf
  · refine g_iconst (pc := 6) C dX4_fetchFit_6 ci_5 ?_
    exact g_iretp (pc := 7) C hQ dX4_fetchFit_7 hf
theorem dX4_fetchedForm_0 : decode cX4_fetchedForm 0 = .ok (.iload_n 0, 1) := by decide +kernel
theorem dX4_fetchedForm_1 : decode cX4_fetchedForm 1 = .ok (.bipush (-9), 2) := by decide +kernel
theorem dX4_fetchedForm_3 : decode cX4_fetchedForm 3 = .ok (.if_icmp .ne 5, 3) := by decide +kernel
theorem dX4_fetchedForm_6 : decode cX4_fetchedForm 6 = .ok (.iconst 0, 1) := by decide +kernel
theorem dX4_fetchedForm_7 : decode cX4_fetchedForm 7 = .ok (.ireturn, 1) := by decide +kernel
theorem dX4_fetchedForm_8 : decode cX4_fetchedForm 8 = .ok (.iload_n 0, 1) := by decide +kernel
theorem dX4_fetchedForm_9 : decode cX4_fetchedForm 9 = .ok (.invokestatic 9, 3) := by decide +kernel
theorem dX4_fetchedForm_12 : decode cX4_fetchedForm 12 = .ok (.ifCond .eq 7, 3) := by decide +kernel
theorem dX4_fetchedForm_15 : decode cX4_fetchedForm 15 = .ok (.iconst 2, 1) := by decide +kernel
theorem dX4_fetchedForm_16 : decode cX4_fetchedForm 16 = .ok (.goto 15, 3) := by decide +kernel
theorem dX4_fetchedForm_19 : decode cX4_fetchedForm 19 = .ok (.iload_n 0, 1) := by decide +kernel
theorem dX4_fetchedForm_20 : decode cX4_fetchedForm 20 = .ok (.invokestatic 13, 3) := by decide +kernel
theorem dX4_fetchedForm_23 : decode cX4_fetchedForm 23 = .ok (.ifCond .eq 7, 3) := by decide +kernel
theorem dX4_fetchedForm_26 : decode cX4_fetchedForm 26 = .ok (.iconst 3, 1) := by decide +kernel
theorem dX4_fetchedForm_27 : decode cX4_fetchedForm 27 = .ok (.goto 4, 3) := by decide +kernel
theorem dX4_fetchedForm_30 : decode cX4_fetchedForm 30 = .ok (.iconst 4, 1) := by decide +kernel
theorem dX4_fetchedForm_31 : decode cX4_fetchedForm 31 = .ok (.ireturn, 1) := by decide +kernel
def fX4_fetchedForm (p1 : Int32) : Option Int32 := (if p1 = (-9 : Int32) then some (0 : Int32) else ((fX7_isPrimitive p1).bind fun r9 => (if r9 = 0 then ((fX4_isMark p1).bind fun r20 => (if r20 = 0 then some (4 : Int32) else some (3 : Int32))) else some (2 : Int32))))
set_option maxRecDepth 100000 in
set_option maxHeartbeats 4000000 in
theorem kX4_fetchedForm (l : Launch) (p1 : Int32) (out : Int32) (hf : fX4_fetchedForm p1 = some out) : Sq l yX4_fetchedForm cX4_fetchedForm 1 (some .int) 1 [.int p1] (some (.int out)) := by
  refine Sq.of [(0, .int p1)] rfl (by decide +kernel) (Nat.le_of_ble_eq_true rfl) ?_
  intro κ hκ C hQ
  subst hκ
  replace C : Cf κ cX4_fetchedForm 1 RX4 (some .int) 1 := C
  refine g_iload_n (pc := 0) (i := 0) (j := 0) C dX4_fetchedForm_0 rfl rfl ?_
  refine g_bipush (pc := 1) C dX4_fetchedForm_1 cb_m9 ?_
  refine g_icmp_ne (pc := 3) (tgt := 8) C dX4_fetchedForm_3 rfl hf (fun _ hf => ?_) (fun _ hf => ?_)
  · refine g_iload_n (pc := 8) (i := 0) (j := 0) C dX4_fetchedForm_8 rfl rfl ?_
    refine g_cni (pc := 9) (st := []) C lkX4_9 (As := [.int p1]) rfl (fun out h => kX7_isPrimitive (kl κ) p1 out h) (by decide) rfl (Nat.le_of_ble_eq_true rfl) dX4_fetchedForm_9 hf (fun r9 _ hf => ?_)
    refine g_if_eq (pc := 12) (tgt := 19) C dX4_fetchedForm_12 rfl hf (fun _ hf => ?_) (fun _ hf => ?_)
    · refine g_iload_n (pc := 19) (i := 0) (j := 0) C dX4_fetchedForm_19 rfl rfl ?_
      refine g_cpi (pc := 20) (st := []) C lkX4_13 (As := [.int p1]) rfl (fun out h => kX4_isMark (kl κ) p1 out h) (by decide) rfl (Nat.le_of_ble_eq_true rfl) dX4_fetchedForm_20 hf (fun r20 _ hf => ?_)
      refine g_if_eq (pc := 23) (tgt := 30) C dX4_fetchedForm_23 rfl hf (fun _ hf => ?_) (fun _ hf => ?_)
      · refine g_iconst (pc := 30) C dX4_fetchedForm_30 ci_4 ?_
        exact g_iretp (pc := 31) C hQ dX4_fetchedForm_31 hf
      · refine g_iconst (pc := 26) C dX4_fetchedForm_26 ci_3 ?_
        refine g_goto (pc := 27) (tgt := 31) C dX4_fetchedForm_27 rfl ?_
        exact g_iretp (pc := 31) C hQ dX4_fetchedForm_31 hf
    · refine g_iconst (pc := 15) C dX4_fetchedForm_15 ci_2 ?_
      refine g_goto (pc := 16) (tgt := 31) C dX4_fetchedForm_16 rfl ?_
      exact g_iretp (pc := 31) C hQ dX4_fetchedForm_31 hf
  · refine g_iconst (pc := 6) C dX4_fetchedForm_6 ci_0 ?_
    exact g_iretp (pc := 7) C hQ dX4_fetchedForm_7 hf
theorem dX4_getFit_0 : decode cX4_getFit 0 = .ok (.iload_n 0, 1) := by decide +kernel
theorem dX4_getFit_1 : decode cX4_getFit 1 = .ok (.invokestatic 18, 3) := by decide +kernel
theorem dX4_getFit_4 : decode cX4_getFit 4 = .ok (.istore_n 2, 1) := by decide +kernel
theorem dX4_getFit_5 : decode cX4_getFit 5 = .ok (.iload_n 2, 1) := by decide +kernel
theorem dX4_getFit_6 : decode cX4_getFit 6 = .ok (.ifCond .eq 5, 3) := by decide +kernel
theorem dX4_getFit_9 : decode cX4_getFit 9 = .ok (.iload_n 2, 1) := by decide +kernel
theorem dX4_getFit_10 : decode cX4_getFit 10 = .ok (.ireturn, 1) := by decide +kernel
theorem dX4_getFit_11 : decode cX4_getFit 11 = .ok (.iload_n 0, 1) := by decide +kernel
theorem dX4_getFit_12 : decode cX4_getFit 12 = .ok (.invokestatic 9, 3) := by decide +kernel
theorem dX4_getFit_15 : decode cX4_getFit 15 = .ok (.ifCond .ne 5, 3) := by decide +kernel
theorem dX4_getFit_18 : decode cX4_getFit 18 = .ok (.iconst 4, 1) := by decide +kernel
theorem dX4_getFit_19 : decode cX4_getFit 19 = .ok (.ireturn, 1) := by decide +kernel
theorem dX4_getFit_20 : decode cX4_getFit 20 = .ok (.iload_n 0, 1) := by decide +kernel
theorem dX4_getFit_21 : decode cX4_getFit 21 = .ok (.iload_n 1, 1) := by decide +kernel
theorem dX4_getFit_22 : decode cX4_getFit 22 = .ok (.invokestatic 22, 3) := by decide +kernel
theorem dX4_getFit_25 : decode cX4_getFit 25 = .ok (.ifCond .eq 7, 3) := by decide +kernel
theorem dX4_getFit_28 : decode cX4_getFit 28 = .ok (.iconst 0, 1) := by decide +kernel
theorem dX4_getFit_29 : decode cX4_getFit 29 = .ok (.goto 4, 3) := by decide +kernel
theorem dX4_getFit_32 : decode cX4_getFit 32 = .ok (.iconst 2, 1) := by decide +kernel
theorem dX4_getFit_33 : decode cX4_getFit 33 = .ok (.ireturn, 1) := by decide +kernel
def fX4_getFit (p1 : Int32) (p2 : Int32) : Option Int32 := ((fX4_fetchFit p1).bind fun r1 => (if r1 = 0 then ((fX7_isPrimitive p1).bind fun r12 => (if r12 = 0 then some (4 : Int32) else ((fX2_widens p1 p2).bind fun r22 => (if r22 = 0 then some (2 : Int32) else some (0 : Int32))))) else some r1))
set_option maxRecDepth 100000 in
set_option maxHeartbeats 4000000 in
theorem kX4_getFit (l : Launch) (p1 : Int32) (p2 : Int32) (out : Int32) (hf : fX4_getFit p1 p2 = some out) : Sq l yX4_getFit cX4_getFit 3 (some .int) 1 [.int p1, .int p2] (some (.int out)) := by
  refine Sq.of [(0, .int p1), (1, .int p2)] rfl (by decide +kernel) (Nat.le_of_ble_eq_true rfl) ?_
  intro κ hκ C hQ
  subst hκ
  replace C : Cf κ cX4_getFit 3 RX4 (some .int) 1 := C
  refine g_iload_n (pc := 0) (i := 0) (j := 0) C dX4_getFit_0 rfl rfl ?_
  refine g_cpi (pc := 1) (st := []) C lkX4_18 (As := [.int p1]) rfl (fun out h => kX4_fetchFit (kl κ) p1 out h) (by decide) rfl (Nat.le_of_ble_eq_true rfl) dX4_getFit_1 hf (fun r1 _ hf => ?_)
  refine g_istore_n (pc := 4) (i := 2) (L' := [(2, .int r1), (0, .int p1), (1, .int p2)]) C dX4_getFit_4 rfl (by decide) rfl ?_
  refine g_iload_n (pc := 5) (i := 2) (j := 0) C dX4_getFit_5 rfl rfl ?_
  refine g_if_eq (pc := 6) (tgt := 11) C dX4_getFit_6 rfl hf (fun _ hf => ?_) (fun _ hf => ?_)
  · refine g_iload_n (pc := 11) (i := 0) (j := 1) C dX4_getFit_11 rfl rfl ?_
    refine g_cni (pc := 12) (st := []) C lkX4_9 (As := [.int p1]) rfl (fun out h => kX7_isPrimitive (kl κ) p1 out h) (by decide) rfl (Nat.le_of_ble_eq_true rfl) dX4_getFit_12 hf (fun r12 _ hf => ?_)
    refine g_if_ne (pc := 15) (tgt := 20) C dX4_getFit_15 rfl hf (fun _ hf => ?_) (fun _ hf => ?_)
    · refine g_iload_n (pc := 20) (i := 0) (j := 1) C dX4_getFit_20 rfl rfl ?_
      refine g_iload_n (pc := 21) (i := 1) (j := 2) C dX4_getFit_21 rfl rfl ?_
      refine g_cpi (pc := 22) (st := []) C lkX4_22 (As := [.int p1, .int p2]) rfl (fun out h => kX2_widens (kl κ) p1 p2 out h) (by decide) rfl (Nat.le_of_ble_eq_true rfl) dX4_getFit_22 hf (fun r22 _ hf => ?_)
      refine g_if_eq (pc := 25) (tgt := 32) C dX4_getFit_25 rfl hf (fun _ hf => ?_) (fun _ hf => ?_)
      · refine g_iconst (pc := 32) C dX4_getFit_32 ci_2 ?_
        exact g_iretp (pc := 33) C hQ dX4_getFit_33 hf
      · refine g_iconst (pc := 28) C dX4_getFit_28 ci_0 ?_
        refine g_goto (pc := 29) (tgt := 33) C dX4_getFit_29 rfl ?_
        exact g_iretp (pc := 33) C hQ dX4_getFit_33 hf
    · refine g_iconst (pc := 18) C dX4_getFit_18 ci_4 ?_
      exact g_iretp (pc := 19) C hQ dX4_getFit_19 hf
  · refine g_iload_n (pc := 9) (i := 2) (j := 0) C dX4_getFit_9 rfl rfl ?_
    exact g_iretp (pc := 10) C hQ dX4_getFit_10 hf
theorem dX4_isNumeric_0 : decode cX4_isNumeric 0 = .ok (.iload_n 0, 1) := by decide +kernel
theorem dX4_isNumeric_1 : decode cX4_isNumeric 1 = .ok (.iconst 1, 1) := by decide +kernel
theorem dX4_isNumeric_2 : decode cX4_isNumeric 2 = .ok (.if_icmp .lt 13, 3) := by decide +kernel
theorem dX4_isNumeric_5 : decode cX4_isNumeric 5 = .ok (.iload_n 0, 1) := by decide +kernel
theorem dX4_isNumeric_6 : decode cX4_isNumeric 6 = .ok (.bipush 7, 2) := by decide +kernel
theorem dX4_isNumeric_8 : decode cX4_isNumeric 8 = .ok (.if_icmp .gt 7, 3) := by decide +kernel
theorem dX4_isNumeric_11 : decode cX4_isNumeric 11 = .ok (.iconst 1, 1) := by decide +kernel
theorem dX4_isNumeric_12 : decode cX4_isNumeric 12 = .ok (.goto 4, 3) := by decide +kernel
theorem dX4_isNumeric_15 : decode cX4_isNumeric 15 = .ok (.iconst 0, 1) := by decide +kernel
theorem dX4_isNumeric_16 : decode cX4_isNumeric 16 = .ok (.ireturn, 1) := by decide +kernel
def fX4_isNumeric (p1 : Int32) : Option Int32 := (if p1 < (1 : Int32) then some (0 : Int32) else (if (7 : Int32) < p1 then some (0 : Int32) else some (1 : Int32)))
set_option maxRecDepth 100000 in
set_option maxHeartbeats 4000000 in
theorem kX4_isNumeric (l : Launch) (p1 : Int32) (out : Int32) (hf : fX4_isNumeric p1 = some out) : Sq l yX4_isNumeric cX4_isNumeric 1 (some .boolean) 0 [.int p1] (some (.int out)) := by
  refine Sq.of [(0, .int p1)] rfl (by decide +kernel) (Nat.le_of_ble_eq_true rfl) ?_
  intro κ hκ C hQ
  subst hκ
  replace C : Cf κ cX4_isNumeric 1 RX4 (some .boolean) 0 := C
  refine g_iload_n (pc := 0) (i := 0) (j := 0) C dX4_isNumeric_0 rfl rfl ?_
  refine g_iconst (pc := 1) C dX4_isNumeric_1 ci_1 ?_
  refine g_icmp_lt (pc := 2) (tgt := 15) C dX4_isNumeric_2 rfl hf (fun _ hf => ?_) (fun _ hf => ?_)
  · refine g_iconst (pc := 15) C dX4_isNumeric_15 ci_0 ?_
    exact g_zret1p (pc := 16) C rfl hQ dX4_isNumeric_16 hf
  · refine g_iload_n (pc := 5) (i := 0) (j := 0) C dX4_isNumeric_5 rfl rfl ?_
    refine g_bipush (pc := 6) C dX4_isNumeric_6 cb_7 ?_
    refine g_icmp_gt (pc := 8) (tgt := 15) C dX4_isNumeric_8 rfl hf (fun _ hf => ?_) (fun _ hf => ?_)
    · refine g_iconst (pc := 15) C dX4_isNumeric_15 ci_0 ?_
      exact g_zret1p (pc := 16) C rfl hQ dX4_isNumeric_16 hf
    · refine g_iconst (pc := 11) C dX4_isNumeric_11 ci_1 ?_
      refine g_goto (pc := 12) (tgt := 16) C dX4_isNumeric_12 rfl ?_
      exact g_zret1p (pc := 16) C rfl hQ dX4_isNumeric_16 hf
theorem dX4_joinedType_0 : decode cX4_joinedType 0 = .ok (.iload_n 0, 1) := by decide +kernel
theorem dX4_joinedType_1 : decode cX4_joinedType 1 = .ok (.invokestatic 9, 3) := by decide +kernel
theorem dX4_joinedType_4 : decode cX4_joinedType 4 = .ok (.ifCond .eq 18, 3) := by decide +kernel
theorem dX4_joinedType_7 : decode cX4_joinedType 7 = .ok (.iload_n 1, 1) := by decide +kernel
theorem dX4_joinedType_8 : decode cX4_joinedType 8 = .ok (.invokestatic 9, 3) := by decide +kernel
theorem dX4_joinedType_11 : decode cX4_joinedType 11 = .ok (.ifCond .eq 11, 3) := by decide +kernel
theorem dX4_joinedType_14 : decode cX4_joinedType 14 = .ok (.iload_n 0, 1) := by decide +kernel
theorem dX4_joinedType_15 : decode cX4_joinedType 15 = .ok (.iload_n 1, 1) := by decide +kernel
theorem dX4_joinedType_16 : decode cX4_joinedType 16 = .ok (.invokestatic 31, 3) := by decide +kernel
theorem dX4_joinedType_19 : decode cX4_joinedType 19 = .ok (.goto 5, 3) := by decide +kernel
theorem dX4_joinedType_22 : decode cX4_joinedType 22 = .ok (.bipush (-9), 2) := by decide +kernel
theorem dX4_joinedType_24 : decode cX4_joinedType 24 = .ok (.istore_n 2, 1) := by decide +kernel
theorem dX4_joinedType_25 : decode cX4_joinedType 25 = .ok (.iload_n 2, 1) := by decide +kernel
theorem dX4_joinedType_26 : decode cX4_joinedType 26 = .ok (.bipush (-9), 2) := by decide +kernel
theorem dX4_joinedType_28 : decode cX4_joinedType 28 = .ok (.if_icmp .eq 5, 3) := by decide +kernel
theorem dX4_joinedType_31 : decode cX4_joinedType 31 = .ok (.iload_n 2, 1) := by decide +kernel
theorem dX4_joinedType_32 : decode cX4_joinedType 32 = .ok (.ireturn, 1) := by decide +kernel
theorem dX4_joinedType_33 : decode cX4_joinedType 33 = .ok (.iload_n 0, 1) := by decide +kernel
theorem dX4_joinedType_34 : decode cX4_joinedType 34 = .ok (.iload_n 1, 1) := by decide +kernel
theorem dX4_joinedType_35 : decode cX4_joinedType 35 = .ok (.if_icmp .ne 5, 3) := by decide +kernel
theorem dX4_joinedType_38 : decode cX4_joinedType 38 = .ok (.iload_n 0, 1) := by decide +kernel
theorem dX4_joinedType_39 : decode cX4_joinedType 39 = .ok (.ireturn, 1) := by decide +kernel
theorem dX4_joinedType_40 : decode cX4_joinedType 40 = .ok (.iload_n 0, 1) := by decide +kernel
theorem dX4_joinedType_41 : decode cX4_joinedType 41 = .ok (.invokestatic 13, 3) := by decide +kernel
theorem dX4_joinedType_44 : decode cX4_joinedType 44 = .ok (.ifCond .eq 15, 3) := by decide +kernel
theorem dX4_joinedType_47 : decode cX4_joinedType 47 = .ok (.iload_n 1, 1) := by decide +kernel
theorem dX4_joinedType_48 : decode cX4_joinedType 48 = .ok (.invokestatic 13, 3) := by decide +kernel
theorem dX4_joinedType_51 : decode cX4_joinedType 51 = .ok (.ifCond .eq 8, 3) := by decide +kernel
theorem dX4_joinedType_54 : decode cX4_joinedType 54 = .ok (.bipush 8, 2) := by decide +kernel
theorem dX4_joinedType_56 : decode cX4_joinedType 56 = .ok (.goto 5, 3) := by decide +kernel
theorem dX4_joinedType_59 : decode cX4_joinedType 59 = .ok (.bipush 12, 2) := by decide +kernel
theorem dX4_joinedType_61 : decode cX4_joinedType 61 = .ok (.ireturn, 1) := by decide +kernel
def fX4_joinedType_b24 (v0 : Int32) (v1 : Int32) (s0 : Int32) : Option Int32 := (if s0 = (-9 : Int32) then (if v0 = v1 then some v0 else ((fX4_isMark v0).bind fun r41 => (if r41 = 0 then some (12 : Int32) else ((fX4_isMark v1).bind fun r48 => (if r48 = 0 then some (12 : Int32) else some (8 : Int32)))))) else some s0)
def fX4_joinedType_b22 (v0 : Int32) (v1 : Int32) : Option Int32 := fX4_joinedType_b24 v0 v1 (-9 : Int32)
def fX4_joinedType (p1 : Int32) (p2 : Int32) : Option Int32 := ((fX7_isPrimitive p1).bind fun r1 => (if r1 = 0 then fX4_joinedType_b22 p1 p2 else ((fX7_isPrimitive p2).bind fun r8 => (if r8 = 0 then fX4_joinedType_b22 p1 p2 else ((fX2_leastOfTwo p1 p2).bind fun r16 => fX4_joinedType_b24 p1 p2 r16)))))
set_option maxRecDepth 100000 in
set_option maxHeartbeats 4000000 in
theorem kX4_joinedType (l : Launch) (p1 : Int32) (p2 : Int32) (out : Int32) (hf : fX4_joinedType p1 p2 = some out) : Sq l yX4_joinedType cX4_joinedType 3 (some .int) 4 [.int p1, .int p2] (some (.int out)) := by
  refine Sq.of [(0, .int p1), (1, .int p2)] rfl (by decide +kernel) (Nat.le_of_ble_eq_true rfl) ?_
  intro κ hκ C hQ
  subst hκ
  replace C : Cf κ cX4_joinedType 3 RX4 (some .int) 4 := C
  have b24 : ∀ (v0 : Int32) (v1 : Int32) (s0 : Int32) , fX4_joinedType_b24 v0 v1 s0 = some out → G κ (Vp κ) 3 24 [(0, .int v0), (1, .int v1)] [.int s0] := by
    intro v0 v1 s0 hf
    refine g_istore_n (pc := 24) (i := 2) (L' := [(2, .int s0), (0, .int v0), (1, .int v1)]) C dX4_joinedType_24 rfl (by decide) rfl ?_
    refine g_iload_n (pc := 25) (i := 2) (j := 0) C dX4_joinedType_25 rfl rfl ?_
    refine g_bipush (pc := 26) C dX4_joinedType_26 cb_m9 ?_
    refine g_icmp_eq (pc := 28) (tgt := 33) C dX4_joinedType_28 rfl hf (fun _ hf => ?_) (fun _ hf => ?_)
    · refine g_iload_n (pc := 33) (i := 0) (j := 1) C dX4_joinedType_33 rfl rfl ?_
      refine g_iload_n (pc := 34) (i := 1) (j := 2) C dX4_joinedType_34 rfl rfl ?_
      refine g_icmp_ne (pc := 35) (tgt := 40) C dX4_joinedType_35 rfl hf (fun _ hf => ?_) (fun _ hf => ?_)
      · refine g_iload_n (pc := 40) (i := 0) (j := 1) C dX4_joinedType_40 rfl rfl ?_
        refine g_cpi (pc := 41) (st := []) C lkX4_13 (As := [.int v0]) rfl (fun out h => kX4_isMark (kl κ) v0 out h) (by decide) rfl (Nat.le_of_ble_eq_true rfl) dX4_joinedType_41 hf (fun r41 _ hf => ?_)
        refine g_if_eq (pc := 44) (tgt := 59) C dX4_joinedType_44 rfl hf (fun _ hf => ?_) (fun _ hf => ?_)
        · refine g_bipush (pc := 59) C dX4_joinedType_59 cb_12 ?_
          exact g_iretp (pc := 61) C hQ dX4_joinedType_61 hf
        · refine g_iload_n (pc := 47) (i := 1) (j := 2) C dX4_joinedType_47 rfl rfl ?_
          refine g_cpi (pc := 48) (st := []) C lkX4_13 (As := [.int v1]) rfl (fun out h => kX4_isMark (kl κ) v1 out h) (by decide) rfl (Nat.le_of_ble_eq_true rfl) dX4_joinedType_48 hf (fun r48 _ hf => ?_)
          refine g_if_eq (pc := 51) (tgt := 59) C dX4_joinedType_51 rfl hf (fun _ hf => ?_) (fun _ hf => ?_)
          · refine g_bipush (pc := 59) C dX4_joinedType_59 cb_12 ?_
            exact g_iretp (pc := 61) C hQ dX4_joinedType_61 hf
          · refine g_bipush (pc := 54) C dX4_joinedType_54 cb_8 ?_
            refine g_goto (pc := 56) (tgt := 61) C dX4_joinedType_56 rfl ?_
            exact g_iretp (pc := 61) C hQ dX4_joinedType_61 hf
      · refine g_iload_n (pc := 38) (i := 0) (j := 1) C dX4_joinedType_38 rfl rfl ?_
        exact g_iretp (pc := 39) C hQ dX4_joinedType_39 hf
    · refine g_iload_n (pc := 31) (i := 2) (j := 0) C dX4_joinedType_31 rfl rfl ?_
      exact g_iretp (pc := 32) C hQ dX4_joinedType_32 hf
  have b22 : ∀ (v0 : Int32) (v1 : Int32) , fX4_joinedType_b22 v0 v1 = some out → G κ (Vp κ) 3 22 [(0, .int v0), (1, .int v1)] [] := by
    intro v0 v1 hf
    refine g_bipush (pc := 22) C dX4_joinedType_22 cb_m9 ?_
    exact b24 v0 v1 (-9 : Int32) hf
  refine g_iload_n (pc := 0) (i := 0) (j := 0) C dX4_joinedType_0 rfl rfl ?_
  refine g_cni (pc := 1) (st := []) C lkX4_9 (As := [.int p1]) rfl (fun out h => kX7_isPrimitive (kl κ) p1 out h) (by decide) rfl (Nat.le_of_ble_eq_true rfl) dX4_joinedType_1 hf (fun r1 _ hf => ?_)
  refine g_if_eq (pc := 4) (tgt := 22) C dX4_joinedType_4 rfl hf (fun _ hf => ?_) (fun _ hf => ?_)
  · exact b22 p1 p2 hf
  · refine g_iload_n (pc := 7) (i := 1) (j := 1) C dX4_joinedType_7 rfl rfl ?_
    refine g_cni (pc := 8) (st := []) C lkX4_9 (As := [.int p2]) rfl (fun out h => kX7_isPrimitive (kl κ) p2 out h) (by decide) rfl (Nat.le_of_ble_eq_true rfl) dX4_joinedType_8 hf (fun r8 _ hf => ?_)
    refine g_if_eq (pc := 11) (tgt := 22) C dX4_joinedType_11 rfl hf (fun _ hf => ?_) (fun _ hf => ?_)
    · exact b22 p1 p2 hf
    · refine g_iload_n (pc := 14) (i := 0) (j := 0) C dX4_joinedType_14 rfl rfl ?_
      refine g_iload_n (pc := 15) (i := 1) (j := 1) C dX4_joinedType_15 rfl rfl ?_
      refine g_cpi (pc := 16) (st := []) C lkX4_31 (As := [.int p1, .int p2]) rfl (fun out h => kX2_leastOfTwo (kl κ) p1 p2 out h) (by decide) rfl (Nat.le_of_ble_eq_true rfl) dX4_joinedType_16 hf (fun r16 _ hf => ?_)
      refine g_goto (pc := 19) (tgt := 24) C dX4_joinedType_19 rfl ?_
      exact b24 p1 p2 r16 hf
theorem dX4_placed_0 : decode cX4_placed 0 = .ok (.iload_n 1, 1) := by decide +kernel
theorem dX4_placed_1 : decode cX4_placed 1 = .ok (.ifCond .eq 5, 3) := by decide +kernel
theorem dX4_placed_4 : decode cX4_placed 4 = .ok (.iload_n 0, 1) := by decide +kernel
theorem dX4_placed_5 : decode cX4_placed 5 = .ok (.ireturn, 1) := by decide +kernel
theorem dX4_placed_6 : decode cX4_placed 6 = .ok (.iload_n 0, 1) := by decide +kernel
theorem dX4_placed_7 : decode cX4_placed 7 = .ok (.ifCond .ne 5, 3) := by decide +kernel
theorem dX4_placed_10 : decode cX4_placed 10 = .ok (.iconst 1, 1) := by decide +kernel
theorem dX4_placed_11 : decode cX4_placed 11 = .ok (.ireturn, 1) := by decide +kernel
theorem dX4_placed_12 : decode cX4_placed 12 = .ok (.iload_n 0, 1) := by decide +kernel
theorem dX4_placed_13 : decode cX4_placed 13 = .ok (.iconst 2, 1) := by decide +kernel
theorem dX4_placed_14 : decode cX4_placed 14 = .ok (.if_icmp .eq 8, 3) := by decide +kernel
theorem dX4_placed_17 : decode cX4_placed 17 = .ok (.iload_n 0, 1) := by decide +kernel
theorem dX4_placed_18 : decode cX4_placed 18 = .ok (.iconst 4, 1) := by decide +kernel
theorem dX4_placed_19 : decode cX4_placed 19 = .ok (.if_icmp .ne 8, 3) := by decide +kernel
theorem dX4_placed_22 : decode cX4_placed 22 = .ok (.bipush 6, 2) := by decide +kernel
theorem dX4_placed_24 : decode cX4_placed 24 = .ok (.goto 4, 3) := by decide +kernel
theorem dX4_placed_27 : decode cX4_placed 27 = .ok (.iload_n 0, 1) := by decide +kernel
theorem dX4_placed_28 : decode cX4_placed 28 = .ok (.ireturn, 1) := by decide +kernel
def fX4_placed (p1 : Int32) (p2 : Int32) : Option Int32 := (if p2 = 0 then (if p1 = 0 then some (1 : Int32) else (if p1 = (2 : Int32) then some (6 : Int32) else (if p1 = (4 : Int32) then some (6 : Int32) else some p1))) else some p1)
set_option maxRecDepth 100000 in
set_option maxHeartbeats 4000000 in
theorem kX4_placed (l : Launch) (p1 : Int32) (p2 : Int32) (out : Int32) (hf : fX4_placed p1 p2 = some out) : Sq l yX4_placed cX4_placed 2 (some .int) 0 [.int p1, .int p2] (some (.int out)) := by
  refine Sq.of [(0, .int p1), (1, .int p2)] rfl (by decide +kernel) (Nat.le_of_ble_eq_true rfl) ?_
  intro κ hκ C hQ
  subst hκ
  replace C : Cf κ cX4_placed 2 RX4 (some .int) 0 := C
  refine g_iload_n (pc := 0) (i := 1) (j := 1) C dX4_placed_0 rfl rfl ?_
  refine g_if_eq (pc := 1) (tgt := 6) C dX4_placed_1 rfl hf (fun _ hf => ?_) (fun _ hf => ?_)
  · refine g_iload_n (pc := 6) (i := 0) (j := 0) C dX4_placed_6 rfl rfl ?_
    refine g_if_ne (pc := 7) (tgt := 12) C dX4_placed_7 rfl hf (fun _ hf => ?_) (fun _ hf => ?_)
    · refine g_iload_n (pc := 12) (i := 0) (j := 0) C dX4_placed_12 rfl rfl ?_
      refine g_iconst (pc := 13) C dX4_placed_13 ci_2 ?_
      refine g_icmp_eq (pc := 14) (tgt := 22) C dX4_placed_14 rfl hf (fun _ hf => ?_) (fun _ hf => ?_)
      · refine g_bipush (pc := 22) C dX4_placed_22 cb_6 ?_
        refine g_goto (pc := 24) (tgt := 28) C dX4_placed_24 rfl ?_
        exact g_iretp (pc := 28) C hQ dX4_placed_28 hf
      · refine g_iload_n (pc := 17) (i := 0) (j := 0) C dX4_placed_17 rfl rfl ?_
        refine g_iconst (pc := 18) C dX4_placed_18 ci_4 ?_
        refine g_icmp_ne (pc := 19) (tgt := 27) C dX4_placed_19 rfl hf (fun _ hf => ?_) (fun _ hf => ?_)
        · refine g_iload_n (pc := 27) (i := 0) (j := 0) C dX4_placed_27 rfl rfl ?_
          exact g_iretp (pc := 28) C hQ dX4_placed_28 hf
        · refine g_bipush (pc := 22) C dX4_placed_22 cb_6 ?_
          refine g_goto (pc := 24) (tgt := 28) C dX4_placed_24 rfl ?_
          exact g_iretp (pc := 28) C hQ dX4_placed_28 hf
    · refine g_iconst (pc := 10) C dX4_placed_10 ci_1 ?_
      exact g_iretp (pc := 11) C hQ dX4_placed_11 hf
  · refine g_iload_n (pc := 4) (i := 0) (j := 0) C dX4_placed_4 rfl rfl ?_
    exact g_iretp (pc := 5) C hQ dX4_placed_5 hf
theorem dX4_putFit_0 : decode cX4_putFit 0 = .ok (.iload_n 0, 1) := by decide +kernel
theorem dX4_putFit_1 : decode cX4_putFit 1 = .ok (.invokestatic 18, 3) := by decide +kernel
theorem dX4_putFit_4 : decode cX4_putFit 4 = .ok (.istore_n 3, 1) := by decide +kernel
theorem dX4_putFit_5 : decode cX4_putFit 5 = .ok (.iload_n 3, 1) := by decide +kernel
theorem dX4_putFit_6 : decode cX4_putFit 6 = .ok (.ifCond .eq 5, 3) := by decide +kernel
theorem dX4_putFit_9 : decode cX4_putFit 9 = .ok (.iload_n 3, 1) := by decide +kernel
theorem dX4_putFit_10 : decode cX4_putFit 10 = .ok (.ireturn, 1) := by decide +kernel
theorem dX4_putFit_11 : decode cX4_putFit 11 = .ok (.iload_n 1, 1) := by decide +kernel
theorem dX4_putFit_12 : decode cX4_putFit 12 = .ok (.ifCond .ne 17, 3) := by decide +kernel
theorem dX4_putFit_15 : decode cX4_putFit 15 = .ok (.iload_n 0, 1) := by decide +kernel
theorem dX4_putFit_16 : decode cX4_putFit 16 = .ok (.invokestatic 9, 3) := by decide +kernel
theorem dX4_putFit_19 : decode cX4_putFit 19 = .ok (.ifCond .eq 8, 3) := by decide +kernel
theorem dX4_putFit_22 : decode cX4_putFit 22 = .ok (.bipush 7, 2) := by decide +kernel
theorem dX4_putFit_24 : decode cX4_putFit 24 = .ok (.goto 4, 3) := by decide +kernel
theorem dX4_putFit_27 : decode cX4_putFit 27 = .ok (.iconst 0, 1) := by decide +kernel
theorem dX4_putFit_28 : decode cX4_putFit 28 = .ok (.ireturn, 1) := by decide +kernel
theorem dX4_putFit_29 : decode cX4_putFit 29 = .ok (.iload_n 1, 1) := by decide +kernel
theorem dX4_putFit_30 : decode cX4_putFit 30 = .ok (.iconst 1, 1) := by decide +kernel
theorem dX4_putFit_31 : decode cX4_putFit 31 = .ok (.if_icmp .ne 12, 3) := by decide +kernel
theorem dX4_putFit_34 : decode cX4_putFit 34 = .ok (.iload_n 0, 1) := by decide +kernel
theorem dX4_putFit_35 : decode cX4_putFit 35 = .ok (.invokestatic 9, 3) := by decide +kernel
theorem dX4_putFit_38 : decode cX4_putFit 38 = .ok (.ifCond .ne 5, 3) := by decide +kernel
theorem dX4_putFit_41 : decode cX4_putFit 41 = .ok (.iconst 4, 1) := by decide +kernel
theorem dX4_putFit_42 : decode cX4_putFit 42 = .ok (.ireturn, 1) := by decide +kernel
theorem dX4_putFit_43 : decode cX4_putFit 43 = .ok (.iload_n 0, 1) := by decide +kernel
theorem dX4_putFit_44 : decode cX4_putFit 44 = .ok (.iload_n 2, 1) := by decide +kernel
theorem dX4_putFit_45 : decode cX4_putFit 45 = .ok (.invokestatic 28, 3) := by decide +kernel
theorem dX4_putFit_48 : decode cX4_putFit 48 = .ok (.ifCond .eq 7, 3) := by decide +kernel
theorem dX4_putFit_51 : decode cX4_putFit 51 = .ok (.iconst 0, 1) := by decide +kernel
theorem dX4_putFit_52 : decode cX4_putFit 52 = .ok (.goto 4, 3) := by decide +kernel
theorem dX4_putFit_55 : decode cX4_putFit 55 = .ok (.iconst 2, 1) := by decide +kernel
theorem dX4_putFit_56 : decode cX4_putFit 56 = .ok (.ireturn, 1) := by decide +kernel
def fX4_putFit_b43 (v0 : Int32) (v2 : Int32) : Option Int32 := ((fX4_accepts v0 v2).bind fun r45 => (if r45 = 0 then some (2 : Int32) else some (0 : Int32)))
def fX4_putFit (p1 : Int32) (p2 : Int32) (p3 : Int32) : Option Int32 := ((fX4_fetchFit p1).bind fun r1 => (if r1 = 0 then (if p2 = 0 then ((fX7_isPrimitive p1).bind fun r16 => (if r16 = 0 then some (0 : Int32) else some (7 : Int32))) else (if p2 = (1 : Int32) then ((fX7_isPrimitive p1).bind fun r35 => (if r35 = 0 then some (4 : Int32) else fX4_putFit_b43 p1 p3)) else fX4_putFit_b43 p1 p3)) else some r1))
set_option maxRecDepth 100000 in
set_option maxHeartbeats 4000000 in
theorem kX4_putFit (l : Launch) (p1 : Int32) (p2 : Int32) (p3 : Int32) (out : Int32) (hf : fX4_putFit p1 p2 p3 = some out) : Sq l yX4_putFit cX4_putFit 4 (some .int) 2 [.int p1, .int p2, .int p3] (some (.int out)) := by
  refine Sq.of [(0, .int p1), (1, .int p2), (2, .int p3)] rfl (by decide +kernel) (Nat.le_of_ble_eq_true rfl) ?_
  intro κ hκ C hQ
  subst hκ
  replace C : Cf κ cX4_putFit 4 RX4 (some .int) 2 := C
  have b43 : ∀ (v0 : Int32) (v2 : Int32) , fX4_putFit_b43 v0 v2 = some out → G κ (Vp κ) 4 43 [(0, .int v0), (2, .int v2)] [] := by
    intro v0 v2 hf
    refine g_iload_n (pc := 43) (i := 0) (j := 0) C dX4_putFit_43 rfl rfl ?_
    refine g_iload_n (pc := 44) (i := 2) (j := 1) C dX4_putFit_44 rfl rfl ?_
    refine g_cpi (pc := 45) (st := []) C lkX4_28 (As := [.int v0, .int v2]) rfl (fun out h => kX4_accepts (kl κ) v0 v2 out h) (by decide) rfl (Nat.le_of_ble_eq_true rfl) dX4_putFit_45 hf (fun r45 _ hf => ?_)
    refine g_if_eq (pc := 48) (tgt := 55) C dX4_putFit_48 rfl hf (fun _ hf => ?_) (fun _ hf => ?_)
    · refine g_iconst (pc := 55) C dX4_putFit_55 ci_2 ?_
      exact g_iretp (pc := 56) C hQ dX4_putFit_56 hf
    · refine g_iconst (pc := 51) C dX4_putFit_51 ci_0 ?_
      refine g_goto (pc := 52) (tgt := 56) C dX4_putFit_52 rfl ?_
      exact g_iretp (pc := 56) C hQ dX4_putFit_56 hf
  refine g_iload_n (pc := 0) (i := 0) (j := 0) C dX4_putFit_0 rfl rfl ?_
  refine g_cpi (pc := 1) (st := []) C lkX4_18 (As := [.int p1]) rfl (fun out h => kX4_fetchFit (kl κ) p1 out h) (by decide) rfl (Nat.le_of_ble_eq_true rfl) dX4_putFit_1 hf (fun r1 _ hf => ?_)
  refine g_istore_n (pc := 4) (i := 3) (L' := [(3, .int r1), (0, .int p1), (1, .int p2), (2, .int p3)]) C dX4_putFit_4 rfl (by decide) rfl ?_
  refine g_iload_n (pc := 5) (i := 3) (j := 0) C dX4_putFit_5 rfl rfl ?_
  refine g_if_eq (pc := 6) (tgt := 11) C dX4_putFit_6 rfl hf (fun _ hf => ?_) (fun _ hf => ?_)
  · refine g_iload_n (pc := 11) (i := 1) (j := 2) C dX4_putFit_11 rfl rfl ?_
    refine g_if_ne (pc := 12) (tgt := 29) C dX4_putFit_12 rfl hf (fun _ hf => ?_) (fun _ hf => ?_)
    · refine g_iload_n (pc := 29) (i := 1) (j := 2) C dX4_putFit_29 rfl rfl ?_
      refine g_iconst (pc := 30) C dX4_putFit_30 ci_1 ?_
      refine g_icmp_ne (pc := 31) (tgt := 43) C dX4_putFit_31 rfl hf (fun _ hf => ?_) (fun _ hf => ?_)
      · exact g_at [1, 3] rfl (b43 p1 p3 hf)
      · refine g_iload_n (pc := 34) (i := 0) (j := 1) C dX4_putFit_34 rfl rfl ?_
        refine g_cni (pc := 35) (st := []) C lkX4_9 (As := [.int p1]) rfl (fun out h => kX7_isPrimitive (kl κ) p1 out h) (by decide) rfl (Nat.le_of_ble_eq_true rfl) dX4_putFit_35 hf (fun r35 _ hf => ?_)
        refine g_if_ne (pc := 38) (tgt := 43) C dX4_putFit_38 rfl hf (fun _ hf => ?_) (fun _ hf => ?_)
        · exact g_at [1, 3] rfl (b43 p1 p3 hf)
        · refine g_iconst (pc := 41) C dX4_putFit_41 ci_4 ?_
          exact g_iretp (pc := 42) C hQ dX4_putFit_42 hf
    · refine g_iload_n (pc := 15) (i := 0) (j := 1) C dX4_putFit_15 rfl rfl ?_
      refine g_cni (pc := 16) (st := []) C lkX4_9 (As := [.int p1]) rfl (fun out h => kX7_isPrimitive (kl κ) p1 out h) (by decide) rfl (Nat.le_of_ble_eq_true rfl) dX4_putFit_16 hf (fun r16 _ hf => ?_)
      refine g_if_eq (pc := 19) (tgt := 27) C dX4_putFit_19 rfl hf (fun _ hf => ?_) (fun _ hf => ?_)
      · refine g_iconst (pc := 27) C dX4_putFit_27 ci_0 ?_
        exact g_iretp (pc := 28) C hQ dX4_putFit_28 hf
      · refine g_bipush (pc := 22) C dX4_putFit_22 cb_7 ?_
        refine g_goto (pc := 24) (tgt := 28) C dX4_putFit_24 rfl ?_
        exact g_iretp (pc := 28) C hQ dX4_putFit_28 hf
  · refine g_iload_n (pc := 9) (i := 3) (j := 0) C dX4_putFit_9 rfl rfl ?_
    exact g_iretp (pc := 10) C hQ dX4_putFit_10 hf
theorem dX6_expected_0 : decode cX6_expected 0 = .ok (.iload_n 0, 1) := by decide +kernel
theorem dX6_expected_1 : decode cX6_expected 1 = .ok (.ifCond .ne 9, 3) := by decide +kernel
theorem dX6_expected_4 : decode cX6_expected 4 = .ok (.iload_n 2, 1) := by decide +kernel
theorem dX6_expected_5 : decode cX6_expected 5 = .ok (.iload_n 1, 1) := by decide +kernel
theorem dX6_expected_6 : decode cX6_expected 6 = .ok (.invokestatic 29, 3) := by decide +kernel
theorem dX6_expected_9 : decode cX6_expected 9 = .ok (.ireturn, 1) := by decide +kernel
theorem dX6_expected_10 : decode cX6_expected 10 = .ok (.iload_n 2, 1) := by decide +kernel
theorem dX6_expected_11 : decode cX6_expected 11 = .ok (.iload_n 0, 1) := by decide +kernel
theorem dX6_expected_12 : decode cX6_expected 12 = .ok (.iconst 1, 1) := by decide +kernel
theorem dX6_expected_13 : decode cX6_expected 13 = .ok (.if_icmp .ne 7, 3) := by decide +kernel
theorem dX6_expected_16 : decode cX6_expected 16 = .ok (.iconst 1, 1) := by decide +kernel
theorem dX6_expected_17 : decode cX6_expected 17 = .ok (.goto 4, 3) := by decide +kernel
theorem dX6_expected_20 : decode cX6_expected 20 = .ok (.iconst 2, 1) := by decide +kernel
theorem dX6_expected_21 : decode cX6_expected 21 = .ok (.iload_n 1, 1) := by decide +kernel
theorem dX6_expected_22 : decode cX6_expected 22 = .ok (.invokestatic 35, 3) := by decide +kernel
theorem dX6_expected_25 : decode cX6_expected 25 = .ok (.ireturn, 1) := by decide +kernel
def fX6_expected_b21 (v1 : Int32) (s0 : Int32) (s1 : Int32) : Option Int32 := ((fX4_putFit s1 s0 v1).bind fun r22 => some r22)
def fX6_expected (p1 : Int32) (p2 : Int32) (p3 : Int32) : Option Int32 := (if p1 = 0 then ((fX4_getFit p3 p2).bind fun r6 => some r6) else (if p1 = (1 : Int32) then fX6_expected_b21 p2 (1 : Int32) p3 else fX6_expected_b21 p2 (2 : Int32) p3))
set_option maxRecDepth 100000 in
set_option maxHeartbeats 4000000 in
theorem kX6_expected (l : Launch) (p1 : Int32) (p2 : Int32) (p3 : Int32) (out : Int32) (hf : fX6_expected p1 p2 p3 = some out) : Sq l yX6_expected cX6_expected 3 (some .int) 3 [.int p1, .int p2, .int p3] (some (.int out)) := by
  refine Sq.of [(0, .int p1), (1, .int p2), (2, .int p3)] rfl (by decide +kernel) (Nat.le_of_ble_eq_true rfl) ?_
  intro κ hκ C hQ
  subst hκ
  replace C : Cf κ cX6_expected 3 RX6 (some .int) 3 := C
  have b21 : ∀ (v1 : Int32) (s0 : Int32) (s1 : Int32) , fX6_expected_b21 v1 s0 s1 = some out → G κ (Vp κ) 3 21 [(1, .int v1)] [.int s0, .int s1] := by
    intro v1 s0 s1 hf
    refine g_iload_n (pc := 21) (i := 1) (j := 0) C dX6_expected_21 rfl rfl ?_
    refine g_cpi (pc := 22) (st := []) C lkX6_35 (As := [.int s1, .int s0, .int v1]) rfl (fun out h => kX4_putFit (kl κ) s1 s0 v1 out h) (by decide) rfl (Nat.le_of_ble_eq_true rfl) dX6_expected_22 hf (fun r22 _ hf => ?_)
    exact g_iretp (pc := 25) C hQ dX6_expected_25 hf
  refine g_iload_n (pc := 0) (i := 0) (j := 0) C dX6_expected_0 rfl rfl ?_
  refine g_if_ne (pc := 1) (tgt := 10) C dX6_expected_1 rfl hf (fun _ hf => ?_) (fun _ hf => ?_)
  · refine g_iload_n (pc := 10) (i := 2) (j := 2) C dX6_expected_10 rfl rfl ?_
    refine g_iload_n (pc := 11) (i := 0) (j := 0) C dX6_expected_11 rfl rfl ?_
    refine g_iconst (pc := 12) C dX6_expected_12 ci_1 ?_
    refine g_icmp_ne (pc := 13) (tgt := 20) C dX6_expected_13 rfl hf (fun _ hf => ?_) (fun _ hf => ?_)
    · refine g_iconst (pc := 20) C dX6_expected_20 ci_2 ?_
      exact g_at [1] rfl (b21 p2 (2 : Int32) p3 hf)
    · refine g_iconst (pc := 16) C dX6_expected_16 ci_1 ?_
      refine g_goto (pc := 17) (tgt := 21) C dX6_expected_17 rfl ?_
      exact g_at [1] rfl (b21 p2 (1 : Int32) p3 hf)
  · refine g_iload_n (pc := 4) (i := 2) (j := 2) C dX6_expected_4 rfl rfl ?_
    refine g_iload_n (pc := 5) (i := 1) (j := 1) C dX6_expected_5 rfl rfl ?_
    refine g_cpi (pc := 6) (st := []) C lkX6_29 (As := [.int p3, .int p2]) rfl (fun out h => kX4_getFit (kl κ) p3 p2 out h) (by decide) rfl (Nat.le_of_ble_eq_true rfl) dX6_expected_6 hf (fun r6 _ hf => ?_)
    exact g_iretp (pc := 9) C hQ dX6_expected_9 hf
theorem dX7_isSlot_0 : decode cX7_isSlot 0 = .ok (.iload_n 0, 1) := by decide +kernel
theorem dX7_isSlot_1 : decode cX7_isSlot 1 = .ok (.ifCond .lt 13, 3) := by decide +kernel
theorem dX7_isSlot_4 : decode cX7_isSlot 4 = .ok (.iload_n 0, 1) := by decide +kernel
theorem dX7_isSlot_5 : decode cX7_isSlot 5 = .ok (.bipush 10, 2) := by decide +kernel
theorem dX7_isSlot_7 : decode cX7_isSlot 7 = .ok (.if_icmp .ge 7, 3) := by decide +kernel
theorem dX7_isSlot_10 : decode cX7_isSlot 10 = .ok (.iconst 1, 1) := by decide +kernel
theorem dX7_isSlot_11 : decode cX7_isSlot 11 = .ok (.goto 4, 3) := by decide +kernel
theorem dX7_isSlot_14 : decode cX7_isSlot 14 = .ok (.iconst 0, 1) := by decide +kernel
theorem dX7_isSlot_15 : decode cX7_isSlot 15 = .ok (.ireturn, 1) := by decide +kernel
def fX7_isSlot (p1 : Int32) : Option Int32 := (if p1 < 0 then some (0 : Int32) else (if (10 : Int32) ≤ p1 then some (0 : Int32) else some (1 : Int32)))
set_option maxRecDepth 100000 in
set_option maxHeartbeats 4000000 in
theorem kX7_isSlot (l : Launch) (p1 : Int32) (out : Int32) (hf : fX7_isSlot p1 = some out) : Sq l yX7_isSlot cX7_isSlot 1 (some .boolean) 0 [.int p1] (some (.int out)) := by
  refine Sq.of [(0, .int p1)] rfl (by decide +kernel) (Nat.le_of_ble_eq_true rfl) ?_
  intro κ hκ C hQ
  subst hκ
  replace C : Cf κ cX7_isSlot 1 RX7 (some .boolean) 0 := C
  refine g_iload_n (pc := 0) (i := 0) (j := 0) C dX7_isSlot_0 rfl rfl ?_
  refine g_if_lt (pc := 1) (tgt := 14) C dX7_isSlot_1 rfl hf (fun _ hf => ?_) (fun _ hf => ?_)
  · refine g_iconst (pc := 14) C dX7_isSlot_14 ci_0 ?_
    exact g_zret1p (pc := 15) C rfl hQ dX7_isSlot_15 hf
  · refine g_iload_n (pc := 4) (i := 0) (j := 0) C dX7_isSlot_4 rfl rfl ?_
    refine g_bipush (pc := 5) C dX7_isSlot_5 cb_10 ?_
    refine g_icmp_ge (pc := 7) (tgt := 14) C dX7_isSlot_7 rfl hf (fun _ hf => ?_) (fun _ hf => ?_)
    · refine g_iconst (pc := 14) C dX7_isSlot_14 ci_0 ?_
      exact g_zret1p (pc := 15) C rfl hQ dX7_isSlot_15 hf
    · refine g_iconst (pc := 10) C dX7_isSlot_10 ci_1 ?_
      refine g_goto (pc := 11) (tgt := 15) C dX7_isSlot_11 rfl ?_
      exact g_zret1p (pc := 15) C rfl hQ dX7_isSlot_15 hf
theorem dX7_isWay_0 : decode cX7_isWay 0 = .ok (.iload_n 0, 1) := by decide +kernel
theorem dX7_isWay_1 : decode cX7_isWay 1 = .ok (.iconst 1, 1) := by decide +kernel
theorem dX7_isWay_2 : decode cX7_isWay 2 = .ok (.if_icmp .lt 10, 3) := by decide +kernel
theorem dX7_isWay_5 : decode cX7_isWay 5 = .ok (.iload_n 0, 1) := by decide +kernel
theorem dX7_isWay_6 : decode cX7_isWay 6 = .ok (.ldc_w 291, 3) := by decide +kernel
theorem dX7_isWay_9 : decode cX7_isWay 9 = .ok (.if_icmp .le 5, 3) := by decide +kernel
theorem dX7_isWay_12 : decode cX7_isWay 12 = .ok (.iconst 0, 1) := by decide +kernel
theorem dX7_isWay_13 : decode cX7_isWay 13 = .ok (.ireturn, 1) := by decide +kernel
theorem dX7_isWay_14 : decode cX7_isWay 14 = .ok (.iload_n 0, 1) := by decide +kernel
theorem dX7_isWay_15 : decode cX7_isWay 15 = .ok (.istore_n 1, 1) := by decide +kernel
theorem dX7_isWay_16 : decode cX7_isWay 16 = .ok (.iload_n 1, 1) := by decide +kernel
theorem dX7_isWay_17 : decode cX7_isWay 17 = .ok (.ifCond .le 25, 3) := by decide +kernel
theorem dX7_isWay_20 : decode cX7_isWay 20 = .ok (.iload_n 1, 1) := by decide +kernel
theorem dX7_isWay_21 : decode cX7_isWay 21 = .ok (.bipush 10, 2) := by decide +kernel
theorem dX7_isWay_23 : decode cX7_isWay 23 = .ok (.irem, 1) := by decide +kernel
theorem dX7_isWay_24 : decode cX7_isWay 24 = .ok (.iconst 1, 1) := by decide +kernel
theorem dX7_isWay_25 : decode cX7_isWay 25 = .ok (.isub, 1) := by decide +kernel
theorem dX7_isWay_26 : decode cX7_isWay 26 = .ok (.invokestatic 158, 3) := by decide +kernel
theorem dX7_isWay_29 : decode cX7_isWay 29 = .ok (.ifCond .ne 5, 3) := by decide +kernel
theorem dX7_isWay_32 : decode cX7_isWay 32 = .ok (.iconst 0, 1) := by decide +kernel
theorem dX7_isWay_33 : decode cX7_isWay 33 = .ok (.ireturn, 1) := by decide +kernel
theorem dX7_isWay_34 : decode cX7_isWay 34 = .ok (.iload_n 1, 1) := by decide +kernel
theorem dX7_isWay_35 : decode cX7_isWay 35 = .ok (.bipush 10, 2) := by decide +kernel
theorem dX7_isWay_37 : decode cX7_isWay 37 = .ok (.idiv, 1) := by decide +kernel
theorem dX7_isWay_38 : decode cX7_isWay 38 = .ok (.istore_n 1, 1) := by decide +kernel
theorem dX7_isWay_39 : decode cX7_isWay 39 = .ok (.goto (-23), 3) := by decide +kernel
theorem dX7_isWay_42 : decode cX7_isWay 42 = .ok (.iconst 1, 1) := by decide +kernel
theorem dX7_isWay_43 : decode cX7_isWay 43 = .ok (.ireturn, 1) := by decide +kernel
def fX7_isWay_b16 : Nat → Int32 → Option Int32
  | 0, _ => none
  | n + 1, v1 => (if v1 ≤ 0 then some (1 : Int32) else ((fX7_isPrimitive ((jrem v1 (10 : Int32)) - (1 : Int32))).bind fun r26 => (if r26 = 0 then some (0 : Int32) else (fX7_isWay_b16 n) (jdiv v1 (10 : Int32)))))
def fX7_isWay (p1 : Int32) : Option Int32 := (if p1 < (1 : Int32) then some (0 : Int32) else (if p1 ≤ (888888 : Int32) then fX7_isWay_b16 100 p1 else some (0 : Int32)))
set_option maxRecDepth 100000 in
set_option maxHeartbeats 4000000 in
theorem kX7_isWay (l : Launch) (p1 : Int32) (out : Int32) (hf : fX7_isWay p1 = some out) : Sq l yX7_isWay cX7_isWay 2 (some .boolean) 1 [.int p1] (some (.int out)) := by
  refine Sq.of [(0, .int p1)] rfl (by decide +kernel) (Nat.le_of_ble_eq_true rfl) ?_
  intro κ hκ C hQ
  subst hκ
  replace C : Cf κ cX7_isWay 2 RX7 (some .boolean) 1 := C
  have b16 : ∀ (n : Nat) (v1 : Int32) , fX7_isWay_b16 n v1 = some out → G κ (Vp κ) 2 16 [(1, .int v1)] [] := by
    intro n
    induction n with
    | zero => intro v1 hf; exact none_ne hf
    | succ n ih =>
      intro v1 hf
      refine g_iload_n (pc := 16) (i := 1) (j := 0) C dX7_isWay_16 rfl rfl ?_
      refine g_if_le (pc := 17) (tgt := 42) C dX7_isWay_17 rfl hf (fun _ hf => ?_) (fun _ hf => ?_)
      · refine g_iconst (pc := 42) C dX7_isWay_42 ci_1 ?_
        exact g_zret1p (pc := 43) C rfl hQ dX7_isWay_43 hf
      · refine g_iload_n (pc := 20) (i := 1) (j := 0) C dX7_isWay_20 rfl rfl ?_
        refine g_bipush (pc := 21) C dX7_isWay_21 cb_10 ?_
        refine g_irem (pc := 23) C dX7_isWay_23 (by decide) ?_
        refine g_iconst (pc := 24) C dX7_isWay_24 ci_1 ?_
        refine g_isub (pc := 25) C dX7_isWay_25 ?_
        refine g_cpi (pc := 26) (st := []) C lkX7_158 (As := [.int ((jrem v1 (10 : Int32)) - (1 : Int32))]) rfl (fun out h => kX7_isPrimitive (kl κ) ((jrem v1 (10 : Int32)) - (1 : Int32)) out h) (by decide) rfl (Nat.le_of_ble_eq_true rfl) dX7_isWay_26 hf (fun r26 _ hf => ?_)
        refine g_if_ne (pc := 29) (tgt := 34) C dX7_isWay_29 rfl hf (fun _ hf => ?_) (fun _ hf => ?_)
        · refine g_iload_n (pc := 34) (i := 1) (j := 0) C dX7_isWay_34 rfl rfl ?_
          refine g_bipush (pc := 35) C dX7_isWay_35 cb_10 ?_
          refine g_idiv (pc := 37) C dX7_isWay_37 (by decide) ?_
          refine g_istore_n (pc := 38) (i := 1) (L' := [(1, .int (jdiv v1 (10 : Int32)))]) C dX7_isWay_38 rfl (by decide) rfl ?_
          refine g_goto (pc := 39) (tgt := 16) C dX7_isWay_39 rfl ?_
          exact ih (jdiv v1 (10 : Int32)) hf
        · refine g_iconst (pc := 32) C dX7_isWay_32 ci_0 ?_
          exact g_zret1p (pc := 33) C rfl hQ dX7_isWay_33 hf
  refine g_iload_n (pc := 0) (i := 0) (j := 0) C dX7_isWay_0 rfl rfl ?_
  refine g_iconst (pc := 1) C dX7_isWay_1 ci_1 ?_
  refine g_icmp_lt (pc := 2) (tgt := 12) C dX7_isWay_2 rfl hf (fun _ hf => ?_) (fun _ hf => ?_)
  · refine g_iconst (pc := 12) C dX7_isWay_12 ci_0 ?_
    exact g_zret1p (pc := 13) C rfl hQ dX7_isWay_13 hf
  · refine g_iload_n (pc := 5) (i := 0) (j := 0) C dX7_isWay_5 rfl rfl ?_
    refine g_ldcw (pc := 6) C cnX7_291 dX7_isWay_6 ?_
    refine g_icmp_le (pc := 9) (tgt := 14) C dX7_isWay_9 rfl hf (fun _ hf => ?_) (fun _ hf => ?_)
    · refine g_iload_n (pc := 14) (i := 0) (j := 0) C dX7_isWay_14 rfl rfl ?_
      refine g_istore_n (pc := 15) (i := 1) (L' := [(1, .int p1), (0, .int p1)]) C dX7_isWay_15 rfl (by decide) rfl ?_
      exact g_at [0] rfl (b16 100 p1 hf)
    · refine g_iconst (pc := 12) C dX7_isWay_12 ci_0 ?_
      exact g_zret1p (pc := 13) C rfl hQ dX7_isWay_13 hf
theorem dX7_markIndex_0 : decode cX7_markIndex 0 = .ok (.iload_n 0, 1) := by decide +kernel
theorem dX7_markIndex_1 : decode cX7_markIndex 1 = .ok (.invokestatic 295, 3) := by decide +kernel
theorem dX7_markIndex_4 : decode cX7_markIndex 4 = .ok (.ifCond .eq 7, 3) := by decide +kernel
theorem dX7_markIndex_7 : decode cX7_markIndex 7 = .ok (.lload_n 1, 1) := by decide +kernel
theorem dX7_markIndex_8 : decode cX7_markIndex 8 = .ok (.goto 6, 3) := by decide +kernel
theorem dX7_markIndex_11 : decode cX7_markIndex 11 = .ok (.ldc2_w 298, 3) := by decide +kernel
theorem dX7_markIndex_14 : decode cX7_markIndex 14 = .ok (.lreturn, 1) := by decide +kernel
def fX7_markIndex (p1 : Int32) (p2 : Int64) : Option Int64 := ((fX4_isMark p1).bind fun r1 => (if r1 = 0 then some (-9 : Int64) else some p2))
set_option maxRecDepth 100000 in
set_option maxHeartbeats 4000000 in
theorem kX7_markIndex (l : Launch) (p1 : Int32) (p2 : Int64) (out : Int64) (hf : fX7_markIndex p1 p2 = some out) : Sq l yX7_markIndex cX7_markIndex 3 (some .long) 1 [.int p1, .long p2] (some (.long out)) := by
  refine Sq.of [(0, .int p1), (1, .long p2)] rfl (by decide +kernel) (Nat.le_of_ble_eq_true rfl) ?_
  intro κ hκ C hQ
  subst hκ
  replace C : Cf κ cX7_markIndex 3 RX7 (some .long) 1 := C
  refine g_iload_n (pc := 0) (i := 0) (j := 0) C dX7_markIndex_0 rfl rfl ?_
  refine g_cpi (pc := 1) (st := []) C lkX7_295 (As := [.int p1]) rfl (fun out h => kX4_isMark (kl κ) p1 out h) (by decide) rfl (Nat.le_of_ble_eq_true rfl) dX7_markIndex_1 hf (fun r1 _ hf => ?_)
  refine g_if_eq (pc := 4) (tgt := 11) C dX7_markIndex_4 rfl hf (fun _ hf => ?_) (fun _ hf => ?_)
  · refine g_ldc2 (pc := 11) C cnX7_298 dX7_markIndex_11 ?_
    exact g_lretp (pc := 14) C hQ dX7_markIndex_14 hf
  · refine g_lload_n (pc := 7) (i := 1) (j := 1) C dX7_markIndex_7 rfl rfl ?_
    refine g_goto (pc := 8) (tgt := 14) C dX7_markIndex_8 rfl ?_
    exact g_lretp (pc := 14) C hQ dX7_markIndex_14 hf
theorem dX7_isMarkNumber_0 : decode cX7_isMarkNumber 0 = .ok (.iload_n 0, 1) := by decide +kernel
theorem dX7_isMarkNumber_1 : decode cX7_isMarkNumber 1 = .ok (.ifCond .lt 14, 3) := by decide +kernel
theorem dX7_isMarkNumber_4 : decode cX7_isMarkNumber 4 = .ok (.iload_n 0, 1) := by decide +kernel
theorem dX7_isMarkNumber_5 : decode cX7_isMarkNumber 5 = .ok (.sipush 999, 3) := by decide +kernel
theorem dX7_isMarkNumber_8 : decode cX7_isMarkNumber 8 = .ok (.if_icmp .gt 7, 3) := by decide +kernel
theorem dX7_isMarkNumber_11 : decode cX7_isMarkNumber 11 = .ok (.iconst 1, 1) := by decide +kernel
theorem dX7_isMarkNumber_12 : decode cX7_isMarkNumber 12 = .ok (.goto 4, 3) := by decide +kernel
theorem dX7_isMarkNumber_15 : decode cX7_isMarkNumber 15 = .ok (.iconst 0, 1) := by decide +kernel
theorem dX7_isMarkNumber_16 : decode cX7_isMarkNumber 16 = .ok (.ireturn, 1) := by decide +kernel
def fX7_isMarkNumber (p1 : Int32) : Option Int32 := (if p1 < 0 then some (0 : Int32) else (if (999 : Int32) < p1 then some (0 : Int32) else some (1 : Int32)))
set_option maxRecDepth 100000 in
set_option maxHeartbeats 4000000 in
theorem kX7_isMarkNumber (l : Launch) (p1 : Int32) (out : Int32) (hf : fX7_isMarkNumber p1 = some out) : Sq l yX7_isMarkNumber cX7_isMarkNumber 1 (some .boolean) 0 [.int p1] (some (.int out)) := by
  refine Sq.of [(0, .int p1)] rfl (by decide +kernel) (Nat.le_of_ble_eq_true rfl) ?_
  intro κ hκ C hQ
  subst hκ
  replace C : Cf κ cX7_isMarkNumber 1 RX7 (some .boolean) 0 := C
  refine g_iload_n (pc := 0) (i := 0) (j := 0) C dX7_isMarkNumber_0 rfl rfl ?_
  refine g_if_lt (pc := 1) (tgt := 15) C dX7_isMarkNumber_1 rfl hf (fun _ hf => ?_) (fun _ hf => ?_)
  · refine g_iconst (pc := 15) C dX7_isMarkNumber_15 ci_0 ?_
    exact g_zret1p (pc := 16) C rfl hQ dX7_isMarkNumber_16 hf
  · refine g_iload_n (pc := 4) (i := 0) (j := 0) C dX7_isMarkNumber_4 rfl rfl ?_
    refine g_sipush (pc := 5) C dX7_isMarkNumber_5 cs_999 ?_
    refine g_icmp_gt (pc := 8) (tgt := 15) C dX7_isMarkNumber_8 rfl hf (fun _ hf => ?_) (fun _ hf => ?_)
    · refine g_iconst (pc := 15) C dX7_isMarkNumber_15 ci_0 ?_
      exact g_zret1p (pc := 16) C rfl hQ dX7_isMarkNumber_16 hf
    · refine g_iconst (pc := 11) C dX7_isMarkNumber_11 ci_1 ?_
      refine g_goto (pc := 12) (tgt := 16) C dX7_isMarkNumber_12 rfl ?_
      exact g_zret1p (pc := 16) C rfl hQ dX7_isMarkNumber_16 hf
theorem dX8_widens_0 : decode cX8_widens 0 = .ok (.iload_n 0, 1) := by decide +kernel
theorem dX8_widens_1 : decode cX8_widens 1 = .ok (.iload_n 1, 1) := by decide +kernel
theorem dX8_widens_2 : decode cX8_widens 2 = .ok (.if_icmp .ne 5, 3) := by decide +kernel
theorem dX8_widens_5 : decode cX8_widens 5 = .ok (.iconst 1, 1) := by decide +kernel
theorem dX8_widens_6 : decode cX8_widens 6 = .ok (.ireturn, 1) := by decide +kernel
theorem dX8_widens_7 : decode cX8_widens 7 = .ok (.iload_n 0, 1) := by decide +kernel
theorem dX8_widens_8 : decode cX8_widens 8 = .ok (.ifCond .eq 8, 3) := by decide +kernel
theorem dX8_widens_11 : decode cX8_widens 11 = .ok (.iload_n 1, 1) := by decide +kernel
theorem dX8_widens_12 : decode cX8_widens 12 = .ok (.iconst 3, 1) := by decide +kernel
theorem dX8_widens_13 : decode cX8_widens 13 = .ok (.if_icmp .ge 5, 3) := by decide +kernel
theorem dX8_widens_16 : decode cX8_widens 16 = .ok (.iconst 0, 1) := by decide +kernel
theorem dX8_widens_17 : decode cX8_widens 17 = .ok (.ireturn, 1) := by decide +kernel
theorem dX8_widens_18 : decode cX8_widens 18 = .ok (.iload_n 0, 1) := by decide +kernel
theorem dX8_widens_19 : decode cX8_widens 19 = .ok (.iconst 2, 1) := by decide +kernel
theorem dX8_widens_20 : decode cX8_widens 20 = .ok (.if_icmp .ne 16, 3) := by decide +kernel
theorem dX8_widens_23 : decode cX8_widens 23 = .ok (.iload_n 1, 1) := by decide +kernel
theorem dX8_widens_24 : decode cX8_widens 24 = .ok (.iconst 3, 1) := by decide +kernel
theorem dX8_widens_25 : decode cX8_widens 25 = .ok (.if_icmp .le 7, 3) := by decide +kernel
theorem dX8_widens_28 : decode cX8_widens 28 = .ok (.iconst 1, 1) := by decide +kernel
theorem dX8_widens_29 : decode cX8_widens 29 = .ok (.goto 17, 3) := by decide +kernel
theorem dX8_widens_32 : decode cX8_widens 32 = .ok (.iconst 0, 1) := by decide +kernel
theorem dX8_widens_33 : decode cX8_widens 33 = .ok (.goto 13, 3) := by decide +kernel
theorem dX8_widens_36 : decode cX8_widens 36 = .ok (.iload_n 0, 1) := by decide +kernel
theorem dX8_widens_37 : decode cX8_widens 37 = .ok (.iload_n 1, 1) := by decide +kernel
theorem dX8_widens_38 : decode cX8_widens 38 = .ok (.if_icmp .ge 7, 3) := by decide +kernel
theorem dX8_widens_41 : decode cX8_widens 41 = .ok (.iconst 1, 1) := by decide +kernel
theorem dX8_widens_42 : decode cX8_widens 42 = .ok (.goto 4, 3) := by decide +kernel
theorem dX8_widens_45 : decode cX8_widens 45 = .ok (.iconst 0, 1) := by decide +kernel
theorem dX8_widens_46 : decode cX8_widens 46 = .ok (.ireturn, 1) := by decide +kernel
def fX8_widens (p1 : Int32) (p2 : Int32) : Option Int32 := (if p1 = p2 then some (1 : Int32) else (if p1 = 0 then some (0 : Int32) else (if (3 : Int32) ≤ p2 then (if p1 = (2 : Int32) then (if p2 ≤ (3 : Int32) then some (0 : Int32) else some (1 : Int32)) else (if p2 ≤ p1 then some (0 : Int32) else some (1 : Int32))) else some (0 : Int32))))
set_option maxRecDepth 100000 in
set_option maxHeartbeats 4000000 in
theorem kX8_widens (l : Launch) (p1 : Int32) (p2 : Int32) (out : Int32) (hf : fX8_widens p1 p2 = some out) : Sq l yX8_widens cX8_widens 2 (some .boolean) 0 [.int p1, .int p2] (some (.int out)) := by
  refine Sq.of [(0, .int p1), (1, .int p2)] rfl (by decide +kernel) (Nat.le_of_ble_eq_true rfl) ?_
  intro κ hκ C hQ
  subst hκ
  replace C : Cf κ cX8_widens 2 RX8 (some .boolean) 0 := C
  refine g_iload_n (pc := 0) (i := 0) (j := 0) C dX8_widens_0 rfl rfl ?_
  refine g_iload_n (pc := 1) (i := 1) (j := 1) C dX8_widens_1 rfl rfl ?_
  refine g_icmp_ne (pc := 2) (tgt := 7) C dX8_widens_2 rfl hf (fun _ hf => ?_) (fun _ hf => ?_)
  · refine g_iload_n (pc := 7) (i := 0) (j := 0) C dX8_widens_7 rfl rfl ?_
    refine g_if_eq (pc := 8) (tgt := 16) C dX8_widens_8 rfl hf (fun _ hf => ?_) (fun _ hf => ?_)
    · refine g_iconst (pc := 16) C dX8_widens_16 ci_0 ?_
      exact g_zret1p (pc := 17) C rfl hQ dX8_widens_17 hf
    · refine g_iload_n (pc := 11) (i := 1) (j := 1) C dX8_widens_11 rfl rfl ?_
      refine g_iconst (pc := 12) C dX8_widens_12 ci_3 ?_
      refine g_icmp_ge (pc := 13) (tgt := 18) C dX8_widens_13 rfl hf (fun _ hf => ?_) (fun _ hf => ?_)
      · refine g_iload_n (pc := 18) (i := 0) (j := 0) C dX8_widens_18 rfl rfl ?_
        refine g_iconst (pc := 19) C dX8_widens_19 ci_2 ?_
        refine g_icmp_ne (pc := 20) (tgt := 36) C dX8_widens_20 rfl hf (fun _ hf => ?_) (fun _ hf => ?_)
        · refine g_iload_n (pc := 36) (i := 0) (j := 0) C dX8_widens_36 rfl rfl ?_
          refine g_iload_n (pc := 37) (i := 1) (j := 1) C dX8_widens_37 rfl rfl ?_
          refine g_icmp_ge (pc := 38) (tgt := 45) C dX8_widens_38 rfl hf (fun _ hf => ?_) (fun _ hf => ?_)
          · refine g_iconst (pc := 45) C dX8_widens_45 ci_0 ?_
            exact g_zret1p (pc := 46) C rfl hQ dX8_widens_46 hf
          · refine g_iconst (pc := 41) C dX8_widens_41 ci_1 ?_
            refine g_goto (pc := 42) (tgt := 46) C dX8_widens_42 rfl ?_
            exact g_zret1p (pc := 46) C rfl hQ dX8_widens_46 hf
        · refine g_iload_n (pc := 23) (i := 1) (j := 1) C dX8_widens_23 rfl rfl ?_
          refine g_iconst (pc := 24) C dX8_widens_24 ci_3 ?_
          refine g_icmp_le (pc := 25) (tgt := 32) C dX8_widens_25 rfl hf (fun _ hf => ?_) (fun _ hf => ?_)
          · refine g_iconst (pc := 32) C dX8_widens_32 ci_0 ?_
            refine g_goto (pc := 33) (tgt := 46) C dX8_widens_33 rfl ?_
            exact g_zret1p (pc := 46) C rfl hQ dX8_widens_46 hf
          · refine g_iconst (pc := 28) C dX8_widens_28 ci_1 ?_
            refine g_goto (pc := 29) (tgt := 46) C dX8_widens_29 rfl ?_
            exact g_zret1p (pc := 46) C rfl hQ dX8_widens_46 hf
      · refine g_iconst (pc := 16) C dX8_widens_16 ci_0 ?_
        exact g_zret1p (pc := 17) C rfl hQ dX8_widens_17 hf
  · refine g_iconst (pc := 5) C dX8_widens_5 ci_1 ?_
    exact g_zret1p (pc := 6) C rfl hQ dX8_widens_6 hf
theorem dX8_leastOf_0 : decode cX8_leastOf 0 = .ok (.bipush (-9), 2) := by decide +kernel
theorem dX8_leastOf_2 : decode cX8_leastOf 2 = .ok (.istore_n 2, 1) := by decide +kernel
theorem dX8_leastOf_3 : decode cX8_leastOf 3 = .ok (.bipush 7, 2) := by decide +kernel
theorem dX8_leastOf_5 : decode cX8_leastOf 5 = .ok (.istore_n 3, 1) := by decide +kernel
theorem dX8_leastOf_6 : decode cX8_leastOf 6 = .ok (.iload_n 3, 1) := by decide +kernel
theorem dX8_leastOf_7 : decode cX8_leastOf 7 = .ok (.ifCond .lt 31, 3) := by decide +kernel
theorem dX8_leastOf_10 : decode cX8_leastOf 10 = .ok (.iload_n 0, 1) := by decide +kernel
theorem dX8_leastOf_11 : decode cX8_leastOf 11 = .ok (.iload_n 3, 1) := by decide +kernel
theorem dX8_leastOf_12 : decode cX8_leastOf 12 = .ok (.invokestatic 313, 3) := by decide +kernel
theorem dX8_leastOf_15 : decode cX8_leastOf 15 = .ok (.ifCond .eq 15, 3) := by decide +kernel
theorem dX8_leastOf_18 : decode cX8_leastOf 18 = .ok (.iload_n 1, 1) := by decide +kernel
theorem dX8_leastOf_19 : decode cX8_leastOf 19 = .ok (.iload_n 3, 1) := by decide +kernel
theorem dX8_leastOf_20 : decode cX8_leastOf 20 = .ok (.invokestatic 313, 3) := by decide +kernel
theorem dX8_leastOf_23 : decode cX8_leastOf 23 = .ok (.ifCond .eq 7, 3) := by decide +kernel
theorem dX8_leastOf_26 : decode cX8_leastOf 26 = .ok (.iload_n 3, 1) := by decide +kernel
theorem dX8_leastOf_27 : decode cX8_leastOf 27 = .ok (.goto 4, 3) := by decide +kernel
theorem dX8_leastOf_30 : decode cX8_leastOf 30 = .ok (.iload_n 2, 1) := by decide +kernel
theorem dX8_leastOf_31 : decode cX8_leastOf 31 = .ok (.istore_n 2, 1) := by decide +kernel
theorem dX8_leastOf_32 : decode cX8_leastOf 32 = .ok (.iinc 3 (-1), 3) := by decide +kernel
theorem dX8_leastOf_35 : decode cX8_leastOf 35 = .ok (.goto (-29), 3) := by decide +kernel
theorem dX8_leastOf_38 : decode cX8_leastOf 38 = .ok (.iload_n 2, 1) := by decide +kernel
theorem dX8_leastOf_39 : decode cX8_leastOf 39 = .ok (.ireturn, 1) := by decide +kernel
def fX8_leastOf_b31 (k6 : Int32 → Int32 → Int32 → Int32 → Option Int32) (v0 : Int32) (v1 : Int32) (v3 : Int32) (s0 : Int32) : Option Int32 := k6 v0 v1 s0 (v3 + (-1 : Int32))
def fX8_leastOf_b30 (k6 : Int32 → Int32 → Int32 → Int32 → Option Int32) (v0 : Int32) (v1 : Int32) (v2 : Int32) (v3 : Int32) : Option Int32 := fX8_leastOf_b31 k6 v0 v1 v3 v2
def fX8_leastOf_b6 : Nat → Int32 → Int32 → Int32 → Int32 → Option Int32
  | 0, _, _, _, _ => none
  | n + 1, v0, v1, v2, v3 => (if v3 < 0 then some v2 else ((fX8_widens v0 v3).bind fun r12 => (if r12 = 0 then fX8_leastOf_b30 (fX8_leastOf_b6 n) v0 v1 v2 v3 else ((fX8_widens v1 v3).bind fun r20 => (if r20 = 0 then fX8_leastOf_b30 (fX8_leastOf_b6 n) v0 v1 v2 v3 else fX8_leastOf_b31 (fX8_leastOf_b6 n) v0 v1 v3 v3)))))
def fX8_leastOf (p1 : Int32) (p2 : Int32) : Option Int32 := fX8_leastOf_b6 100 p1 p2 (-9 : Int32) (7 : Int32)
set_option maxRecDepth 100000 in
set_option maxHeartbeats 4000000 in
theorem kX8_leastOf (l : Launch) (p1 : Int32) (p2 : Int32) (out : Int32) (hf : fX8_leastOf p1 p2 = some out) : Sq l yX8_leastOf cX8_leastOf 4 (some .int) 1 [.int p1, .int p2] (some (.int out)) := by
  refine Sq.of [(0, .int p1), (1, .int p2)] rfl (by decide +kernel) (Nat.le_of_ble_eq_true rfl) ?_
  intro κ hκ C hQ
  subst hκ
  replace C : Cf κ cX8_leastOf 4 RX8 (some .int) 1 := C
  have b31 : ∀ (k6 : Int32 → Int32 → Int32 → Int32 → Option Int32) (hk6 : ∀ (v0 : Int32) (v1 : Int32) (v2 : Int32) (v3 : Int32) , k6 v0 v1 v2 v3 = some out → G κ (Vp κ) 4 6 [(0, .int v0), (1, .int v1), (2, .int v2), (3, .int v3)] []) (v0 : Int32) (v1 : Int32) (v3 : Int32) (s0 : Int32) , fX8_leastOf_b31 k6 v0 v1 v3 s0 = some out → G κ (Vp κ) 4 31 [(0, .int v0), (1, .int v1), (3, .int v3)] [.int s0] := by
    intro k6 hk6 v0 v1 v3 s0 hf
    refine g_istore_n (pc := 31) (i := 2) (L' := [(2, .int s0), (0, .int v0), (1, .int v1), (3, .int v3)]) C dX8_leastOf_31 rfl (by decide) rfl ?_
    refine g_iinc (pc := 32) (i := 3) (j := 3) (v := (v3 + (-1 : Int32))) (L' := [(3, .int (v3 + (-1 : Int32))), (2, .int s0), (0, .int v0), (1, .int v1)]) C dX8_leastOf_32 rfl (cx_m1 _) (by decide) rfl ?_
    refine g_goto (pc := 35) (tgt := 6) C dX8_leastOf_35 rfl ?_
    exact g_at [2, 3, 1, 0] rfl (hk6 v0 v1 s0 (v3 + (-1 : Int32)) hf)
  have b30 : ∀ (k6 : Int32 → Int32 → Int32 → Int32 → Option Int32) (hk6 : ∀ (v0 : Int32) (v1 : Int32) (v2 : Int32) (v3 : Int32) , k6 v0 v1 v2 v3 = some out → G κ (Vp κ) 4 6 [(0, .int v0), (1, .int v1), (2, .int v2), (3, .int v3)] []) (v0 : Int32) (v1 : Int32) (v2 : Int32) (v3 : Int32) , fX8_leastOf_b30 k6 v0 v1 v2 v3 = some out → G κ (Vp κ) 4 30 [(0, .int v0), (1, .int v1), (2, .int v2), (3, .int v3)] [] := by
    intro k6 hk6 v0 v1 v2 v3 hf
    refine g_iload_n (pc := 30) (i := 2) (j := 2) C dX8_leastOf_30 rfl rfl ?_
    exact g_at [0, 1, 3] rfl (b31 k6 hk6 v0 v1 v3 v2 hf)
  have b6 : ∀ (n : Nat) (v0 : Int32) (v1 : Int32) (v2 : Int32) (v3 : Int32) , fX8_leastOf_b6 n v0 v1 v2 v3 = some out → G κ (Vp κ) 4 6 [(0, .int v0), (1, .int v1), (2, .int v2), (3, .int v3)] [] := by
    intro n
    induction n with
    | zero => intro v0 v1 v2 v3 hf; exact none_ne hf
    | succ n ih =>
      intro v0 v1 v2 v3 hf
      refine g_iload_n (pc := 6) (i := 3) (j := 3) C dX8_leastOf_6 rfl rfl ?_
      refine g_if_lt (pc := 7) (tgt := 38) C dX8_leastOf_7 rfl hf (fun _ hf => ?_) (fun _ hf => ?_)
      · refine g_iload_n (pc := 38) (i := 2) (j := 2) C dX8_leastOf_38 rfl rfl ?_
        exact g_iretp (pc := 39) C hQ dX8_leastOf_39 hf
      · refine g_iload_n (pc := 10) (i := 0) (j := 0) C dX8_leastOf_10 rfl rfl ?_
        refine g_iload_n (pc := 11) (i := 3) (j := 3) C dX8_leastOf_11 rfl rfl ?_
        refine g_cpi (pc := 12) (st := []) C lkX8_313 (As := [.int v0, .int v3]) rfl (fun out h => kX8_widens (kl κ) v0 v3 out h) (by decide) rfl (Nat.le_of_ble_eq_true rfl) dX8_leastOf_12 hf (fun r12 _ hf => ?_)
        refine g_if_eq (pc := 15) (tgt := 30) C dX8_leastOf_15 rfl hf (fun _ hf => ?_) (fun _ hf => ?_)
        · exact b30 (fX8_leastOf_b6 n) ih v0 v1 v2 v3 hf
        · refine g_iload_n (pc := 18) (i := 1) (j := 1) C dX8_leastOf_18 rfl rfl ?_
          refine g_iload_n (pc := 19) (i := 3) (j := 3) C dX8_leastOf_19 rfl rfl ?_
          refine g_cpi (pc := 20) (st := []) C lkX8_313 (As := [.int v1, .int v3]) rfl (fun out h => kX8_widens (kl κ) v1 v3 out h) (by decide) rfl (Nat.le_of_ble_eq_true rfl) dX8_leastOf_20 hf (fun r20 _ hf => ?_)
          refine g_if_eq (pc := 23) (tgt := 30) C dX8_leastOf_23 rfl hf (fun _ hf => ?_) (fun _ hf => ?_)
          · exact b30 (fX8_leastOf_b6 n) ih v0 v1 v2 v3 hf
          · refine g_iload_n (pc := 26) (i := 3) (j := 3) C dX8_leastOf_26 rfl rfl ?_
            refine g_goto (pc := 27) (tgt := 31) C dX8_leastOf_27 rfl ?_
            exact g_at [0, 1, 3] rfl (b31 (fX8_leastOf_b6 n) ih v0 v1 v3 v3 hf)
  refine g_bipush (pc := 0) C dX8_leastOf_0 cb_m9 ?_
  refine g_istore_n (pc := 2) (i := 2) (L' := [(2, .int (-9 : Int32)), (0, .int p1), (1, .int p2)]) C dX8_leastOf_2 rfl (by decide) rfl ?_
  refine g_bipush (pc := 3) C dX8_leastOf_3 cb_7 ?_
  refine g_istore_n (pc := 5) (i := 3) (L' := [(3, .int (7 : Int32)), (2, .int (-9 : Int32)), (0, .int p1), (1, .int p2)]) C dX8_leastOf_5 rfl (by decide) rfl ?_
  exact g_at [2, 3, 1, 0] rfl (b6 100 p1 p2 (-9 : Int32) (7 : Int32) hf)
theorem dX8_lengthOf_0 : decode cX8_lengthOf 0 = .ok (.iconst 0, 1) := by decide +kernel
theorem dX8_lengthOf_1 : decode cX8_lengthOf 1 = .ok (.istore_n 2, 1) := by decide +kernel
theorem dX8_lengthOf_2 : decode cX8_lengthOf 2 = .ok (.lload_n 0, 1) := by decide +kernel
theorem dX8_lengthOf_3 : decode cX8_lengthOf 3 = .ok (.lstore_n 3, 1) := by decide +kernel
theorem dX8_lengthOf_4 : decode cX8_lengthOf 4 = .ok (.lload_n 3, 1) := by decide +kernel
theorem dX8_lengthOf_5 : decode cX8_lengthOf 5 = .ok (.lconst 0, 1) := by decide +kernel
theorem dX8_lengthOf_6 : decode cX8_lengthOf 6 = .ok (.lcmp, 1) := by decide +kernel
theorem dX8_lengthOf_7 : decode cX8_lengthOf 7 = .ok (.ifCond .le 13, 3) := by decide +kernel
theorem dX8_lengthOf_10 : decode cX8_lengthOf 10 = .ok (.iinc 2 1, 3) := by decide +kernel
theorem dX8_lengthOf_13 : decode cX8_lengthOf 13 = .ok (.lload_n 3, 1) := by decide +kernel
theorem dX8_lengthOf_14 : decode cX8_lengthOf 14 = .ok (.iconst 1, 1) := by decide +kernel
theorem dX8_lengthOf_15 : decode cX8_lengthOf 15 = .ok (.lshr, 1) := by decide +kernel
theorem dX8_lengthOf_16 : decode cX8_lengthOf 16 = .ok (.lstore_n 3, 1) := by decide +kernel
theorem dX8_lengthOf_17 : decode cX8_lengthOf 17 = .ok (.goto (-13), 3) := by decide +kernel
theorem dX8_lengthOf_20 : decode cX8_lengthOf 20 = .ok (.iload_n 2, 1) := by decide +kernel
theorem dX8_lengthOf_21 : decode cX8_lengthOf 21 = .ok (.ireturn, 1) := by decide +kernel
def fX8_lengthOf_b4 : Nat → Int32 → Int64 → Option Int32
  | 0, _, _ => none
  | n + 1, v2, v3 => (if v3 ≤ (0 : Int64) then some v2 else (fX8_lengthOf_b4 n) (v2 + (1 : Int32)) (jlshr v3 (1 : Int32)))
def fX8_lengthOf (p1 : Int64) : Option Int32 := fX8_lengthOf_b4 100 (0 : Int32) p1
set_option maxRecDepth 100000 in
set_option maxHeartbeats 4000000 in
theorem kX8_lengthOf (l : Launch) (p1 : Int64) (out : Int32) (hf : fX8_lengthOf p1 = some out) : Sq l yX8_lengthOf cX8_lengthOf 5 (some .int) 0 [.long p1] (some (.int out)) := by
  refine Sq.of [(0, .long p1)] rfl (by decide +kernel) (Nat.le_of_ble_eq_true rfl) ?_
  intro κ hκ C hQ
  subst hκ
  replace C : Cf κ cX8_lengthOf 5 RX8 (some .int) 0 := C
  have b4 : ∀ (n : Nat) (v2 : Int32) (v3 : Int64) , fX8_lengthOf_b4 n v2 v3 = some out → G κ (Vp κ) 5 4 [(2, .int v2), (3, .long v3)] [] := by
    intro n
    induction n with
    | zero => intro v2 v3 hf; exact none_ne hf
    | succ n ih =>
      intro v2 v3 hf
      refine g_lload_n (pc := 4) (i := 3) (j := 1) C dX8_lengthOf_4 rfl rfl ?_
      refine g_lconst (pc := 5) C dX8_lengthOf_5 cl_0 ?_
      refine g_lcmp_le (pc := 6) (tgt := 20) C dX8_lengthOf_6 dX8_lengthOf_7 rfl hf (fun _ hf => ?_) (fun _ hf => ?_)
      · refine g_iload_n (pc := 20) (i := 2) (j := 0) C dX8_lengthOf_20 rfl rfl ?_
        exact g_iretp (pc := 21) C hQ dX8_lengthOf_21 hf
      · refine g_iinc (pc := 10) (i := 2) (j := 0) (v := (v2 + (1 : Int32))) (L' := [(2, .int (v2 + (1 : Int32))), (3, .long v3)]) C dX8_lengthOf_10 rfl (cx_1 _) (by decide) rfl ?_
        refine g_lload_n (pc := 13) (i := 3) (j := 1) C dX8_lengthOf_13 rfl rfl ?_
        refine g_iconst (pc := 14) C dX8_lengthOf_14 ci_1 ?_
        refine g_lshr (pc := 15) C dX8_lengthOf_15 ?_
        refine g_lstore_n (pc := 16) (i := 3) (L' := [(3, .long (jlshr v3 (1 : Int32))), (2, .int (v2 + (1 : Int32)))]) C dX8_lengthOf_16 rfl (by decide) rfl ?_
        refine g_goto (pc := 17) (tgt := 4) C dX8_lengthOf_17 rfl ?_
        exact g_at [1, 0] rfl (ih (v2 + (1 : Int32)) (jlshr v3 (1 : Int32)) hf)
  refine g_iconst (pc := 0) C dX8_lengthOf_0 ci_0 ?_
  refine g_istore_n (pc := 1) (i := 2) (L' := [(2, .int (0 : Int32)), (0, .long p1)]) C dX8_lengthOf_1 rfl (by decide) rfl ?_
  refine g_lload_n (pc := 2) (i := 0) (j := 1) C dX8_lengthOf_2 rfl rfl ?_
  refine g_lstore_n (pc := 3) (i := 3) (L' := [(3, .long p1), (2, .int (0 : Int32)), (0, .long p1)]) C dX8_lengthOf_3 rfl (by decide) rfl ?_
  exact g_at [1, 0] rfl (b4 100 (0 : Int32) p1 hf)
theorem dX8_rounded_0 : decode cX8_rounded 0 = .ok (.lload_n 1, 1) := by decide +kernel
theorem dX8_rounded_1 : decode cX8_rounded 1 = .ok (.lconst 0, 1) := by decide +kernel
theorem dX8_rounded_2 : decode cX8_rounded 2 = .ok (.lcmp, 1) := by decide +kernel
theorem dX8_rounded_3 : decode cX8_rounded 3 = .ok (.ifCond .ne 5, 3) := by decide +kernel
theorem dX8_rounded_6 : decode cX8_rounded 6 = .ok (.lconst 0, 1) := by decide +kernel
theorem dX8_rounded_7 : decode cX8_rounded 7 = .ok (.lreturn, 1) := by decide +kernel
theorem dX8_rounded_8 : decode cX8_rounded 8 = .ok (.iload_n 0, 1) := by decide +kernel
theorem dX8_rounded_9 : decode cX8_rounded 9 = .ok (.bipush 6, 2) := by decide +kernel
theorem dX8_rounded_11 : decode cX8_rounded 11 = .ok (.if_icmp .ne 8, 3) := by decide +kernel
theorem dX8_rounded_14 : decode cX8_rounded 14 = .ok (.bipush 24, 2) := by decide +kernel
theorem dX8_rounded_16 : decode cX8_rounded 16 = .ok (.goto 5, 3) := by decide +kernel
theorem dX8_rounded_19 : decode cX8_rounded 19 = .ok (.bipush 53, 2) := by decide +kernel
theorem dX8_rounded_21 : decode cX8_rounded 21 = .ok (.istore 4, 2) := by decide +kernel
theorem dX8_rounded_23 : decode cX8_rounded 23 = .ok (.lload_n 1, 1) := by decide +kernel
theorem dX8_rounded_24 : decode cX8_rounded 24 = .ok (.ldc2_w 112, 3) := by decide +kernel
theorem dX8_rounded_27 : decode cX8_rounded 27 = .ok (.lcmp, 1) := by decide +kernel
theorem dX8_rounded_28 : decode cX8_rounded 28 = .ok (.ifCond .ne 7, 3) := by decide +kernel
theorem dX8_rounded_31 : decode cX8_rounded 31 = .ok (.iconst 1, 1) := by decide +kernel
theorem dX8_rounded_32 : decode cX8_rounded 32 = .ok (.goto 4, 3) := by decide +kernel
theorem dX8_rounded_35 : decode cX8_rounded 35 = .ok (.iconst 0, 1) := by decide +kernel
theorem dX8_rounded_36 : decode cX8_rounded 36 = .ok (.istore 5, 2) := by decide +kernel
theorem dX8_rounded_38 : decode cX8_rounded 38 = .ok (.iload 5, 2) := by decide +kernel
theorem dX8_rounded_40 : decode cX8_rounded 40 = .ok (.ifCond .eq 11, 3) := by decide +kernel
theorem dX8_rounded_43 : decode cX8_rounded 43 = .ok (.lload_n 1, 1) := by decide +kernel
theorem dX8_rounded_44 : decode cX8_rounded 44 = .ok (.ldc2_w 110, 3) := by decide +kernel
theorem dX8_rounded_47 : decode cX8_rounded 47 = .ok (.ldiv, 1) := by decide +kernel
theorem dX8_rounded_48 : decode cX8_rounded 48 = .ok (.goto 4, 3) := by decide +kernel
theorem dX8_rounded_51 : decode cX8_rounded 51 = .ok (.lload_n 1, 1) := by decide +kernel
theorem dX8_rounded_52 : decode cX8_rounded 52 = .ok (.lstore 6, 2) := by decide +kernel
theorem dX8_rounded_54 : decode cX8_rounded 54 = .ok (.iload 5, 2) := by decide +kernel
theorem dX8_rounded_56 : decode cX8_rounded 56 = .ok (.ifCond .eq 9, 3) := by decide +kernel
theorem dX8_rounded_59 : decode cX8_rounded 59 = .ok (.iload_n 3, 1) := by decide +kernel
theorem dX8_rounded_60 : decode cX8_rounded 60 = .ok (.iconst 1, 1) := by decide +kernel
theorem dX8_rounded_61 : decode cX8_rounded 61 = .ok (.iadd, 1) := by decide +kernel
theorem dX8_rounded_62 : decode cX8_rounded 62 = .ok (.goto 4, 3) := by decide +kernel
theorem dX8_rounded_65 : decode cX8_rounded 65 = .ok (.iload_n 3, 1) := by decide +kernel
theorem dX8_rounded_66 : decode cX8_rounded 66 = .ok (.istore 8, 2) := by decide +kernel
theorem dX8_rounded_68 : decode cX8_rounded 68 = .ok (.lload 6, 2) := by decide +kernel
theorem dX8_rounded_70 : decode cX8_rounded 70 = .ok (.lconst 0, 1) := by decide +kernel
theorem dX8_rounded_71 : decode cX8_rounded 71 = .ok (.lcmp, 1) := by decide +kernel
theorem dX8_rounded_72 : decode cX8_rounded 72 = .ok (.ifCond .ge 9, 3) := by decide +kernel
theorem dX8_rounded_75 : decode cX8_rounded 75 = .ok (.lload 6, 2) := by decide +kernel
theorem dX8_rounded_77 : decode cX8_rounded 77 = .ok (.lneg, 1) := by decide +kernel
theorem dX8_rounded_78 : decode cX8_rounded 78 = .ok (.goto 5, 3) := by decide +kernel
theorem dX8_rounded_81 : decode cX8_rounded 81 = .ok (.lload 6, 2) := by decide +kernel
theorem dX8_rounded_83 : decode cX8_rounded 83 = .ok (.lstore 9, 2) := by decide +kernel
theorem dX8_rounded_85 : decode cX8_rounded 85 = .ok (.lload 9, 2) := by decide +kernel
theorem dX8_rounded_87 : decode cX8_rounded 87 = .ok (.invokestatic 114, 3) := by decide +kernel
theorem dX8_rounded_90 : decode cX8_rounded 90 = .ok (.iload 4, 2) := by decide +kernel
theorem dX8_rounded_92 : decode cX8_rounded 92 = .ok (.isub, 1) := by decide +kernel
theorem dX8_rounded_93 : decode cX8_rounded 93 = .ok (.istore 11, 2) := by decide +kernel
theorem dX8_rounded_95 : decode cX8_rounded 95 = .ok (.iload 11, 2) := by decide +kernel
theorem dX8_rounded_97 : decode cX8_rounded 97 = .ok (.ifCond .le 73, 3) := by decide +kernel
theorem dX8_rounded_100 : decode cX8_rounded 100 = .ok (.lload 9, 2) := by decide +kernel
theorem dX8_rounded_102 : decode cX8_rounded 102 = .ok (.lconst 1, 1) := by decide +kernel
theorem dX8_rounded_103 : decode cX8_rounded 103 = .ok (.iload 11, 2) := by decide +kernel
theorem dX8_rounded_105 : decode cX8_rounded 105 = .ok (.lshl, 1) := by decide +kernel
theorem dX8_rounded_106 : decode cX8_rounded 106 = .ok (.lconst 1, 1) := by decide +kernel
theorem dX8_rounded_107 : decode cX8_rounded 107 = .ok (.lsub, 1) := by decide +kernel
theorem dX8_rounded_108 : decode cX8_rounded 108 = .ok (.land, 1) := by decide +kernel
theorem dX8_rounded_109 : decode cX8_rounded 109 = .ok (.lstore 12, 2) := by decide +kernel
theorem dX8_rounded_111 : decode cX8_rounded 111 = .ok (.lconst 1, 1) := by decide +kernel
theorem dX8_rounded_112 : decode cX8_rounded 112 = .ok (.iload 11, 2) := by decide +kernel
theorem dX8_rounded_114 : decode cX8_rounded 114 = .ok (.iconst 1, 1) := by decide +kernel
theorem dX8_rounded_115 : decode cX8_rounded 115 = .ok (.isub, 1) := by decide +kernel
theorem dX8_rounded_116 : decode cX8_rounded 116 = .ok (.lshl, 1) := by decide +kernel
theorem dX8_rounded_117 : decode cX8_rounded 117 = .ok (.lstore 14, 2) := by decide +kernel
theorem dX8_rounded_119 : decode cX8_rounded 119 = .ok (.lload 9, 2) := by decide +kernel
theorem dX8_rounded_121 : decode cX8_rounded 121 = .ok (.iload 11, 2) := by decide +kernel
theorem dX8_rounded_123 : decode cX8_rounded 123 = .ok (.lshr, 1) := by decide +kernel
theorem dX8_rounded_124 : decode cX8_rounded 124 = .ok (.lstore 9, 2) := by decide +kernel
theorem dX8_rounded_126 : decode cX8_rounded 126 = .ok (.iload 8, 2) := by decide +kernel
theorem dX8_rounded_128 : decode cX8_rounded 128 = .ok (.iload 11, 2) := by decide +kernel
theorem dX8_rounded_130 : decode cX8_rounded 130 = .ok (.iadd, 1) := by decide +kernel
theorem dX8_rounded_131 : decode cX8_rounded 131 = .ok (.istore 8, 2) := by decide +kernel
theorem dX8_rounded_133 : decode cX8_rounded 133 = .ok (.lload 9, 2) := by decide +kernel
theorem dX8_rounded_135 : decode cX8_rounded 135 = .ok (.lload 12, 2) := by decide +kernel
theorem dX8_rounded_137 : decode cX8_rounded 137 = .ok (.lload 14, 2) := by decide +kernel
theorem dX8_rounded_139 : decode cX8_rounded 139 = .ok (.lcmp, 1) := by decide +kernel
theorem dX8_rounded_140 : decode cX8_rounded 140 = .ok (.ifCond .gt 22, 3) := by decide +kernel
theorem dX8_rounded_143 : decode cX8_rounded 143 = .ok (.lload 12, 2) := by decide +kernel
theorem dX8_rounded_145 : decode cX8_rounded 145 = .ok (.lload 14, 2) := by decide +kernel
theorem dX8_rounded_147 : decode cX8_rounded 147 = .ok (.lcmp, 1) := by decide +kernel
theorem dX8_rounded_148 : decode cX8_rounded 148 = .ok (.ifCond .ne 18, 3) := by decide +kernel
theorem dX8_rounded_151 : decode cX8_rounded 151 = .ok (.lload 9, 2) := by decide +kernel
theorem dX8_rounded_153 : decode cX8_rounded 153 = .ok (.ldc2_w 110, 3) := by decide +kernel
theorem dX8_rounded_156 : decode cX8_rounded 156 = .ok (.lrem, 1) := by decide +kernel
theorem dX8_rounded_157 : decode cX8_rounded 157 = .ok (.lconst 1, 1) := by decide +kernel
theorem dX8_rounded_158 : decode cX8_rounded 158 = .ok (.lcmp, 1) := by decide +kernel
theorem dX8_rounded_159 : decode cX8_rounded 159 = .ok (.ifCond .ne 7, 3) := by decide +kernel
theorem dX8_rounded_162 : decode cX8_rounded 162 = .ok (.lconst 1, 1) := by decide +kernel
theorem dX8_rounded_163 : decode cX8_rounded 163 = .ok (.goto 4, 3) := by decide +kernel
theorem dX8_rounded_166 : decode cX8_rounded 166 = .ok (.lconst 0, 1) := by decide +kernel
theorem dX8_rounded_167 : decode cX8_rounded 167 = .ok (.ladd, 1) := by decide +kernel
theorem dX8_rounded_168 : decode cX8_rounded 168 = .ok (.lstore 9, 2) := by decide +kernel
theorem dX8_rounded_170 : decode cX8_rounded 170 = .ok (.lload 9, 2) := by decide +kernel
theorem dX8_rounded_172 : decode cX8_rounded 172 = .ok (.invokestatic 114, 3) := by decide +kernel
theorem dX8_rounded_175 : decode cX8_rounded 175 = .ok (.istore 12, 2) := by decide +kernel
theorem dX8_rounded_177 : decode cX8_rounded 177 = .ok (.iload 12, 2) := by decide +kernel
theorem dX8_rounded_179 : decode cX8_rounded 179 = .ok (.iload 4, 2) := by decide +kernel
theorem dX8_rounded_181 : decode cX8_rounded 181 = .ok (.if_icmp .le 14, 3) := by decide +kernel
theorem dX8_rounded_184 : decode cX8_rounded 184 = .ok (.lload 9, 2) := by decide +kernel
theorem dX8_rounded_186 : decode cX8_rounded 186 = .ok (.iload 12, 2) := by decide +kernel
theorem dX8_rounded_188 : decode cX8_rounded 188 = .ok (.iload 4, 2) := by decide +kernel
theorem dX8_rounded_190 : decode cX8_rounded 190 = .ok (.isub, 1) := by decide +kernel
theorem dX8_rounded_191 : decode cX8_rounded 191 = .ok (.lshr, 1) := by decide +kernel
theorem dX8_rounded_192 : decode cX8_rounded 192 = .ok (.goto 11, 3) := by decide +kernel
theorem dX8_rounded_195 : decode cX8_rounded 195 = .ok (.lload 9, 2) := by decide +kernel
theorem dX8_rounded_197 : decode cX8_rounded 197 = .ok (.iload 4, 2) := by decide +kernel
theorem dX8_rounded_199 : decode cX8_rounded 199 = .ok (.iload 12, 2) := by decide +kernel
theorem dX8_rounded_201 : decode cX8_rounded 201 = .ok (.isub, 1) := by decide +kernel
theorem dX8_rounded_202 : decode cX8_rounded 202 = .ok (.lshl, 1) := by decide +kernel
theorem dX8_rounded_203 : decode cX8_rounded 203 = .ok (.lstore 13, 2) := by decide +kernel
theorem dX8_rounded_205 : decode cX8_rounded 205 = .ok (.iload 8, 2) := by decide +kernel
theorem dX8_rounded_207 : decode cX8_rounded 207 = .ok (.iload 12, 2) := by decide +kernel
theorem dX8_rounded_209 : decode cX8_rounded 209 = .ok (.iadd, 1) := by decide +kernel
theorem dX8_rounded_210 : decode cX8_rounded 210 = .ok (.iconst 1, 1) := by decide +kernel
theorem dX8_rounded_211 : decode cX8_rounded 211 = .ok (.isub, 1) := by decide +kernel
theorem dX8_rounded_212 : decode cX8_rounded 212 = .ok (.iload_n 0, 1) := by decide +kernel
theorem dX8_rounded_213 : decode cX8_rounded 213 = .ok (.bipush 6, 2) := by decide +kernel
theorem dX8_rounded_215 : decode cX8_rounded 215 = .ok (.if_icmp .ne 8, 3) := by decide +kernel
theorem dX8_rounded_218 : decode cX8_rounded 218 = .ok (.bipush 127, 2) := by decide +kernel
theorem dX8_rounded_220 : decode cX8_rounded 220 = .ok (.goto 6, 3) := by decide +kernel
theorem dX8_rounded_223 : decode cX8_rounded 223 = .ok (.sipush 1023, 3) := by decide +kernel
theorem dX8_rounded_226 : decode cX8_rounded 226 = .ok (.iadd, 1) := by decide +kernel
theorem dX8_rounded_227 : decode cX8_rounded 227 = .ok (.i2l, 1) := by decide +kernel
theorem dX8_rounded_228 : decode cX8_rounded 228 = .ok (.lstore 15, 2) := by decide +kernel
theorem dX8_rounded_230 : decode cX8_rounded 230 = .ok (.lload 13, 2) := by decide +kernel
theorem dX8_rounded_232 : decode cX8_rounded 232 = .ok (.lconst 1, 1) := by decide +kernel
theorem dX8_rounded_233 : decode cX8_rounded 233 = .ok (.iload 4, 2) := by decide +kernel
theorem dX8_rounded_235 : decode cX8_rounded 235 = .ok (.iconst 1, 1) := by decide +kernel
theorem dX8_rounded_236 : decode cX8_rounded 236 = .ok (.isub, 1) := by decide +kernel
theorem dX8_rounded_237 : decode cX8_rounded 237 = .ok (.lshl, 1) := by decide +kernel
theorem dX8_rounded_238 : decode cX8_rounded 238 = .ok (.lconst 1, 1) := by decide +kernel
theorem dX8_rounded_239 : decode cX8_rounded 239 = .ok (.lsub, 1) := by decide +kernel
theorem dX8_rounded_240 : decode cX8_rounded 240 = .ok (.land, 1) := by decide +kernel
theorem dX8_rounded_241 : decode cX8_rounded 241 = .ok (.lload 15, 2) := by decide +kernel
theorem dX8_rounded_243 : decode cX8_rounded 243 = .ok (.iload 4, 2) := by decide +kernel
theorem dX8_rounded_245 : decode cX8_rounded 245 = .ok (.iconst 1, 1) := by decide +kernel
theorem dX8_rounded_246 : decode cX8_rounded 246 = .ok (.isub, 1) := by decide +kernel
theorem dX8_rounded_247 : decode cX8_rounded 247 = .ok (.lshl, 1) := by decide +kernel
theorem dX8_rounded_248 : decode cX8_rounded 248 = .ok (.lor, 1) := by decide +kernel
theorem dX8_rounded_249 : decode cX8_rounded 249 = .ok (.lstore 17, 2) := by decide +kernel
theorem dX8_rounded_251 : decode cX8_rounded 251 = .ok (.lload 6, 2) := by decide +kernel
theorem dX8_rounded_253 : decode cX8_rounded 253 = .ok (.lconst 0, 1) := by decide +kernel
theorem dX8_rounded_254 : decode cX8_rounded 254 = .ok (.lcmp, 1) := by decide +kernel
theorem dX8_rounded_255 : decode cX8_rounded 255 = .ok (.ifCond .ge 24, 3) := by decide +kernel
theorem dX8_rounded_258 : decode cX8_rounded 258 = .ok (.lload 17, 2) := by decide +kernel
theorem dX8_rounded_260 : decode cX8_rounded 260 = .ok (.lconst 1, 1) := by decide +kernel
theorem dX8_rounded_261 : decode cX8_rounded 261 = .ok (.iload_n 0, 1) := by decide +kernel
theorem dX8_rounded_262 : decode cX8_rounded 262 = .ok (.bipush 6, 2) := by decide +kernel
theorem dX8_rounded_264 : decode cX8_rounded 264 = .ok (.if_icmp .ne 8, 3) := by decide +kernel
theorem dX8_rounded_267 : decode cX8_rounded 267 = .ok (.bipush 31, 2) := by decide +kernel
theorem dX8_rounded_269 : decode cX8_rounded 269 = .ok (.goto 5, 3) := by decide +kernel
theorem dX8_rounded_272 : decode cX8_rounded 272 = .ok (.bipush 63, 2) := by decide +kernel
theorem dX8_rounded_274 : decode cX8_rounded 274 = .ok (.lshl, 1) := by decide +kernel
theorem dX8_rounded_275 : decode cX8_rounded 275 = .ok (.lor, 1) := by decide +kernel
theorem dX8_rounded_276 : decode cX8_rounded 276 = .ok (.goto 5, 3) := by decide +kernel
theorem dX8_rounded_279 : decode cX8_rounded 279 = .ok (.lload 17, 2) := by decide +kernel
theorem dX8_rounded_281 : decode cX8_rounded 281 = .ok (.lstore 19, 2) := by decide +kernel
theorem dX8_rounded_283 : decode cX8_rounded 283 = .ok (.iload_n 0, 1) := by decide +kernel
theorem dX8_rounded_284 : decode cX8_rounded 284 = .ok (.bipush 6, 2) := by decide +kernel
theorem dX8_rounded_286 : decode cX8_rounded 286 = .ok (.if_icmp .ne 10, 3) := by decide +kernel
theorem dX8_rounded_289 : decode cX8_rounded 289 = .ok (.lload 19, 2) := by decide +kernel
theorem dX8_rounded_291 : decode cX8_rounded 291 = .ok (.l2i, 1) := by decide +kernel
theorem dX8_rounded_292 : decode cX8_rounded 292 = .ok (.i2l, 1) := by decide +kernel
theorem dX8_rounded_293 : decode cX8_rounded 293 = .ok (.goto 5, 3) := by decide +kernel
theorem dX8_rounded_296 : decode cX8_rounded 296 = .ok (.lload 19, 2) := by decide +kernel
theorem dX8_rounded_298 : decode cX8_rounded 298 = .ok (.lreturn, 1) := by decide +kernel
def fX8_rounded_b281 (v0 : Int32) (s0 : Int64) : Option Int64 := (if v0 = (6 : Int32) then some (Int32.toInt64 (Int64.toInt32 s0)) else some s0)
def fX8_rounded_b274 (v0 : Int32) (s0 : Int32) (s1 : Int64) (s2 : Int64) : Option Int64 := fX8_rounded_b281 v0 (s2 ||| (jlshl s1 s0))
def fX8_rounded_b226 (v0 : Int32) (v4 : Int32) (v6 : Int64) (v13 : Int64) (s0 : Int32) (s1 : Int32) : Option Int64 := (if (0 : Int64) ≤ v6 then fX8_rounded_b281 v0 ((v13 &&& ((jlshl (1 : Int64) (v4 - (1 : Int32))) - (1 : Int64))) ||| (jlshl (Int32.toInt64 (s1 + s0)) (v4 - (1 : Int32)))) else (if v0 = (6 : Int32) then fX8_rounded_b274 v0 (31 : Int32) (1 : Int64) ((v13 &&& ((jlshl (1 : Int64) (v4 - (1 : Int32))) - (1 : Int64))) ||| (jlshl (Int32.toInt64 (s1 + s0)) (v4 - (1 : Int32)))) else fX8_rounded_b274 v0 (63 : Int32) (1 : Int64) ((v13 &&& ((jlshl (1 : Int64) (v4 - (1 : Int32))) - (1 : Int64))) ||| (jlshl (Int32.toInt64 (s1 + s0)) (v4 - (1 : Int32))))))
def fX8_rounded_b203 (v0 : Int32) (v4 : Int32) (v6 : Int64) (v8 : Int32) (v12 : Int32) (s0 : Int64) : Option Int64 := (if v0 = (6 : Int32) then fX8_rounded_b226 v0 v4 v6 s0 (127 : Int32) ((v8 + v12) - (1 : Int32)) else fX8_rounded_b226 v0 v4 v6 s0 (1023 : Int32) ((v8 + v12) - (1 : Int32)))
def fX8_rounded_b170 (v0 : Int32) (v4 : Int32) (v6 : Int64) (v8 : Int32) (v9 : Int64) : Option Int64 := ((fX8_lengthOf v9).bind fun r172 => (if r172 ≤ v4 then fX8_rounded_b203 v0 v4 v6 v8 r172 (jlshl v9 (v4 - r172)) else fX8_rounded_b203 v0 v4 v6 v8 r172 (jlshr v9 (r172 - v4))))
def fX8_rounded_b167 (v0 : Int32) (v4 : Int32) (v6 : Int64) (v8 : Int32) (s0 : Int64) (s1 : Int64) : Option Int64 := fX8_rounded_b170 v0 v4 v6 v8 (s1 + s0)
def fX8_rounded_b162 (v0 : Int32) (v4 : Int32) (v6 : Int64) (v8 : Int32) (s0 : Int64) : Option Int64 := fX8_rounded_b167 v0 v4 v6 v8 (1 : Int64) s0
def fX8_rounded_b166 (v0 : Int32) (v4 : Int32) (v6 : Int64) (v8 : Int32) (s0 : Int64) : Option Int64 := fX8_rounded_b167 v0 v4 v6 v8 (0 : Int64) s0
def fX8_rounded_b83 (v0 : Int32) (v4 : Int32) (v6 : Int64) (v8 : Int32) (s0 : Int64) : Option Int64 := ((fX8_lengthOf s0).bind fun r87 => (if (r87 - v4) ≤ 0 then fX8_rounded_b170 v0 v4 v6 v8 s0 else (if (jlshl (1 : Int64) ((r87 - v4) - (1 : Int32))) < (s0 &&& ((jlshl (1 : Int64) (r87 - v4)) - (1 : Int64))) then fX8_rounded_b162 v0 v4 v6 (v8 + (r87 - v4)) (jlshr s0 (r87 - v4)) else (if (s0 &&& ((jlshl (1 : Int64) (r87 - v4)) - (1 : Int64))) = (jlshl (1 : Int64) ((r87 - v4) - (1 : Int32))) then (if (jlrem (jlshr s0 (r87 - v4)) (2 : Int64)) = (1 : Int64) then fX8_rounded_b162 v0 v4 v6 (v8 + (r87 - v4)) (jlshr s0 (r87 - v4)) else fX8_rounded_b166 v0 v4 v6 (v8 + (r87 - v4)) (jlshr s0 (r87 - v4))) else fX8_rounded_b166 v0 v4 v6 (v8 + (r87 - v4)) (jlshr s0 (r87 - v4))))))
def fX8_rounded_b66 (v0 : Int32) (v4 : Int32) (v6 : Int64) (s0 : Int32) : Option Int64 := (if (0 : Int64) ≤ v6 then fX8_rounded_b83 v0 v4 v6 s0 v6 else fX8_rounded_b83 v0 v4 v6 s0 (-v6))
def fX8_rounded_b52 (v0 : Int32) (v3 : Int32) (v4 : Int32) (v5 : Int32) (s0 : Int64) : Option Int64 := (if v5 = 0 then fX8_rounded_b66 v0 v4 s0 v3 else fX8_rounded_b66 v0 v4 s0 (v3 + (1 : Int32)))
def fX8_rounded_b36 (v0 : Int32) (v1 : Int64) (v3 : Int32) (v4 : Int32) (s0 : Int32) : Option Int64 := (if s0 = 0 then fX8_rounded_b52 v0 v3 v4 s0 v1 else fX8_rounded_b52 v0 v3 v4 s0 (jldiv v1 (2 : Int64)))
def fX8_rounded_b21 (v0 : Int32) (v1 : Int64) (v3 : Int32) (s0 : Int32) : Option Int64 := (if v1 = (-9223372036854775808 : Int64) then fX8_rounded_b36 v0 v1 v3 s0 (1 : Int32) else fX8_rounded_b36 v0 v1 v3 s0 (0 : Int32))
def fX8_rounded (p1 : Int32) (p2 : Int64) (p3 : Int32) : Option Int64 := (if p2 = (0 : Int64) then some (0 : Int64) else (if p1 = (6 : Int32) then fX8_rounded_b21 p1 p2 p3 (24 : Int32) else fX8_rounded_b21 p1 p2 p3 (53 : Int32)))
set_option maxRecDepth 100000 in
set_option maxHeartbeats 4000000 in
theorem kX8_rounded (l : Launch) (p1 : Int32) (p2 : Int64) (p3 : Int32) (out : Int64) (hf : fX8_rounded p1 p2 p3 = some out) : Sq l yX8_rounded cX8_rounded 21 (some .long) 1 [.int p1, .long p2, .int p3] (some (.long out)) := by
  refine Sq.of [(0, .int p1), (1, .long p2), (3, .int p3)] rfl (by decide +kernel) (Nat.le_of_ble_eq_true rfl) ?_
  intro κ hκ C hQ
  subst hκ
  replace C : Cf κ cX8_rounded 21 RX8 (some .long) 1 := C
  have b281 : ∀ (v0 : Int32) (s0 : Int64) , fX8_rounded_b281 v0 s0 = some out → G κ (Vp κ) 21 281 [(0, .int v0)] [.long s0] := by
    intro v0 s0 hf
    refine g_lstore (pc := 281) (i := 19) (L' := [(19, .long s0), (0, .int v0)]) C dX8_rounded_281 (by decide) rfl ?_
    refine g_iload_n (pc := 283) (i := 0) (j := 1) C dX8_rounded_283 rfl rfl ?_
    refine g_bipush (pc := 284) C dX8_rounded_284 cb_6 ?_
    refine g_icmp_ne (pc := 286) (tgt := 296) C dX8_rounded_286 rfl hf (fun _ hf => ?_) (fun _ hf => ?_)
    · refine g_lload (pc := 296) (i := 19) (j := 0) C dX8_rounded_296 rfl ?_
      exact g_lretp (pc := 298) C hQ dX8_rounded_298 hf
    · refine g_lload (pc := 289) (i := 19) (j := 0) C dX8_rounded_289 rfl ?_
      refine g_l2i (pc := 291) C dX8_rounded_291 ?_
      refine g_i2l (pc := 292) C dX8_rounded_292 ?_
      refine g_goto (pc := 293) (tgt := 298) C dX8_rounded_293 rfl ?_
      exact g_lretp (pc := 298) C hQ dX8_rounded_298 hf
  have b274 : ∀ (v0 : Int32) (s0 : Int32) (s1 : Int64) (s2 : Int64) , fX8_rounded_b274 v0 s0 s1 s2 = some out → G κ (Vp κ) 21 274 [(0, .int v0)] [.int s0, .long s1, .long s2] := by
    intro v0 s0 s1 s2 hf
    refine g_lshl (pc := 274) C dX8_rounded_274 ?_
    refine g_lor (pc := 275) C dX8_rounded_275 ?_
    refine g_goto (pc := 276) (tgt := 281) C dX8_rounded_276 rfl ?_
    exact b281 v0 (s2 ||| (jlshl s1 s0)) hf
  have b226 : ∀ (v0 : Int32) (v4 : Int32) (v6 : Int64) (v13 : Int64) (s0 : Int32) (s1 : Int32) , fX8_rounded_b226 v0 v4 v6 v13 s0 s1 = some out → G κ (Vp κ) 21 226 [(0, .int v0), (4, .int v4), (6, .long v6), (13, .long v13)] [.int s0, .int s1] := by
    intro v0 v4 v6 v13 s0 s1 hf
    refine g_iadd (pc := 226) C dX8_rounded_226 ?_
    refine g_i2l (pc := 227) C dX8_rounded_227 ?_
    refine g_lstore (pc := 228) (i := 15) (L' := [(15, .long (Int32.toInt64 (s1 + s0))), (0, .int v0), (4, .int v4), (6, .long v6), (13, .long v13)]) C dX8_rounded_228 (by decide) rfl ?_
    refine g_lload (pc := 230) (i := 13) (j := 4) C dX8_rounded_230 rfl ?_
    refine g_lconst (pc := 232) C dX8_rounded_232 cl_1 ?_
    refine g_iload (pc := 233) (i := 4) (j := 2) C dX8_rounded_233 rfl ?_
    refine g_iconst (pc := 235) C dX8_rounded_235 ci_1 ?_
    refine g_isub (pc := 236) C dX8_rounded_236 ?_
    refine g_lshl (pc := 237) C dX8_rounded_237 ?_
    refine g_lconst (pc := 238) C dX8_rounded_238 cl_1 ?_
    refine g_lsub (pc := 239) C dX8_rounded_239 ?_
    refine g_land (pc := 240) C dX8_rounded_240 ?_
    refine g_lload (pc := 241) (i := 15) (j := 0) C dX8_rounded_241 rfl ?_
    refine g_iload (pc := 243) (i := 4) (j := 2) C dX8_rounded_243 rfl ?_
    refine g_iconst (pc := 245) C dX8_rounded_245 ci_1 ?_
    refine g_isub (pc := 246) C dX8_rounded_246 ?_
    refine g_lshl (pc := 247) C dX8_rounded_247 ?_
    refine g_lor (pc := 248) C dX8_rounded_248 ?_
    refine g_lstore (pc := 249) (i := 17) (L' := [(17, .long ((v13 &&& ((jlshl (1 : Int64) (v4 - (1 : Int32))) - (1 : Int64))) ||| (jlshl (Int32.toInt64 (s1 + s0)) (v4 - (1 : Int32))))), (15, .long (Int32.toInt64 (s1 + s0))), (0, .int v0), (4, .int v4), (6, .long v6), (13, .long v13)]) C dX8_rounded_249 (by decide) rfl ?_
    refine g_lload (pc := 251) (i := 6) (j := 4) C dX8_rounded_251 rfl ?_
    refine g_lconst (pc := 253) C dX8_rounded_253 cl_0 ?_
    refine g_lcmp_ge (pc := 254) (tgt := 279) C dX8_rounded_254 dX8_rounded_255 rfl hf (fun _ hf => ?_) (fun _ hf => ?_)
    · refine g_lload (pc := 279) (i := 17) (j := 0) C dX8_rounded_279 rfl ?_
      exact g_at [2] rfl (b281 v0 ((v13 &&& ((jlshl (1 : Int64) (v4 - (1 : Int32))) - (1 : Int64))) ||| (jlshl (Int32.toInt64 (s1 + s0)) (v4 - (1 : Int32)))) hf)
    · refine g_lload (pc := 258) (i := 17) (j := 0) C dX8_rounded_258 rfl ?_
      refine g_lconst (pc := 260) C dX8_rounded_260 cl_1 ?_
      refine g_iload_n (pc := 261) (i := 0) (j := 2) C dX8_rounded_261 rfl rfl ?_
      refine g_bipush (pc := 262) C dX8_rounded_262 cb_6 ?_
      refine g_icmp_ne (pc := 264) (tgt := 272) C dX8_rounded_264 rfl hf (fun _ hf => ?_) (fun _ hf => ?_)
      · refine g_bipush (pc := 272) C dX8_rounded_272 cb_63 ?_
        exact g_at [2] rfl (b274 v0 (63 : Int32) (1 : Int64) ((v13 &&& ((jlshl (1 : Int64) (v4 - (1 : Int32))) - (1 : Int64))) ||| (jlshl (Int32.toInt64 (s1 + s0)) (v4 - (1 : Int32)))) hf)
      · refine g_bipush (pc := 267) C dX8_rounded_267 cb_31 ?_
        refine g_goto (pc := 269) (tgt := 274) C dX8_rounded_269 rfl ?_
        exact g_at [2] rfl (b274 v0 (31 : Int32) (1 : Int64) ((v13 &&& ((jlshl (1 : Int64) (v4 - (1 : Int32))) - (1 : Int64))) ||| (jlshl (Int32.toInt64 (s1 + s0)) (v4 - (1 : Int32)))) hf)
  have b203 : ∀ (v0 : Int32) (v4 : Int32) (v6 : Int64) (v8 : Int32) (v12 : Int32) (s0 : Int64) , fX8_rounded_b203 v0 v4 v6 v8 v12 s0 = some out → G κ (Vp κ) 21 203 [(0, .int v0), (4, .int v4), (6, .long v6), (8, .int v8), (12, .int v12)] [.long s0] := by
    intro v0 v4 v6 v8 v12 s0 hf
    refine g_lstore (pc := 203) (i := 13) (L' := [(13, .long s0), (0, .int v0), (4, .int v4), (6, .long v6), (8, .int v8), (12, .int v12)]) C dX8_rounded_203 (by decide) rfl ?_
    refine g_iload (pc := 205) (i := 8) (j := 4) C dX8_rounded_205 rfl ?_
    refine g_iload (pc := 207) (i := 12) (j := 5) C dX8_rounded_207 rfl ?_
    refine g_iadd (pc := 209) C dX8_rounded_209 ?_
    refine g_iconst (pc := 210) C dX8_rounded_210 ci_1 ?_
    refine g_isub (pc := 211) C dX8_rounded_211 ?_
    refine g_iload_n (pc := 212) (i := 0) (j := 1) C dX8_rounded_212 rfl rfl ?_
    refine g_bipush (pc := 213) C dX8_rounded_213 cb_6 ?_
    refine g_icmp_ne (pc := 215) (tgt := 223) C dX8_rounded_215 rfl hf (fun _ hf => ?_) (fun _ hf => ?_)
    · refine g_sipush (pc := 223) C dX8_rounded_223 cs_1023 ?_
      exact g_at [1, 2, 3, 0] rfl (b226 v0 v4 v6 s0 (1023 : Int32) ((v8 + v12) - (1 : Int32)) hf)
    · refine g_bipush (pc := 218) C dX8_rounded_218 cb_127 ?_
      refine g_goto (pc := 220) (tgt := 226) C dX8_rounded_220 rfl ?_
      exact g_at [1, 2, 3, 0] rfl (b226 v0 v4 v6 s0 (127 : Int32) ((v8 + v12) - (1 : Int32)) hf)
  have b170 : ∀ (v0 : Int32) (v4 : Int32) (v6 : Int64) (v8 : Int32) (v9 : Int64) , fX8_rounded_b170 v0 v4 v6 v8 v9 = some out → G κ (Vp κ) 21 170 [(0, .int v0), (4, .int v4), (6, .long v6), (8, .int v8), (9, .long v9)] [] := by
    intro v0 v4 v6 v8 v9 hf
    refine g_lload (pc := 170) (i := 9) (j := 4) C dX8_rounded_170 rfl ?_
    refine g_cpi (pc := 172) (st := []) C lkX8_114 (As := [.long v9]) rfl (fun out h => kX8_lengthOf (kl κ) v9 out h) (by decide) rfl (Nat.le_of_ble_eq_true rfl) dX8_rounded_172 hf (fun r172 _ hf => ?_)
    refine g_istore (pc := 175) (i := 12) (L' := [(12, .int r172), (0, .int v0), (4, .int v4), (6, .long v6), (8, .int v8), (9, .long v9)]) C dX8_rounded_175 (by decide) rfl ?_
    refine g_iload (pc := 177) (i := 12) (j := 0) C dX8_rounded_177 rfl ?_
    refine g_iload (pc := 179) (i := 4) (j := 2) C dX8_rounded_179 rfl ?_
    refine g_icmp_le (pc := 181) (tgt := 195) C dX8_rounded_181 rfl hf (fun _ hf => ?_) (fun _ hf => ?_)
    · refine g_lload (pc := 195) (i := 9) (j := 5) C dX8_rounded_195 rfl ?_
      refine g_iload (pc := 197) (i := 4) (j := 2) C dX8_rounded_197 rfl ?_
      refine g_iload (pc := 199) (i := 12) (j := 0) C dX8_rounded_199 rfl ?_
      refine g_isub (pc := 201) C dX8_rounded_201 ?_
      refine g_lshl (pc := 202) C dX8_rounded_202 ?_
      exact g_at [1, 2, 3, 4, 0] rfl (b203 v0 v4 v6 v8 r172 (jlshl v9 (v4 - r172)) hf)
    · refine g_lload (pc := 184) (i := 9) (j := 5) C dX8_rounded_184 rfl ?_
      refine g_iload (pc := 186) (i := 12) (j := 0) C dX8_rounded_186 rfl ?_
      refine g_iload (pc := 188) (i := 4) (j := 2) C dX8_rounded_188 rfl ?_
      refine g_isub (pc := 190) C dX8_rounded_190 ?_
      refine g_lshr (pc := 191) C dX8_rounded_191 ?_
      refine g_goto (pc := 192) (tgt := 203) C dX8_rounded_192 rfl ?_
      exact g_at [1, 2, 3, 4, 0] rfl (b203 v0 v4 v6 v8 r172 (jlshr v9 (r172 - v4)) hf)
  have b167 : ∀ (v0 : Int32) (v4 : Int32) (v6 : Int64) (v8 : Int32) (s0 : Int64) (s1 : Int64) , fX8_rounded_b167 v0 v4 v6 v8 s0 s1 = some out → G κ (Vp κ) 21 167 [(0, .int v0), (4, .int v4), (6, .long v6), (8, .int v8)] [.long s0, .long s1] := by
    intro v0 v4 v6 v8 s0 s1 hf
    refine g_ladd (pc := 167) C dX8_rounded_167 ?_
    refine g_lstore (pc := 168) (i := 9) (L' := [(9, .long (s1 + s0)), (0, .int v0), (4, .int v4), (6, .long v6), (8, .int v8)]) C dX8_rounded_168 (by decide) rfl ?_
    exact g_at [1, 2, 3, 4, 0] rfl (b170 v0 v4 v6 v8 (s1 + s0) hf)
  have b162 : ∀ (v0 : Int32) (v4 : Int32) (v6 : Int64) (v8 : Int32) (s0 : Int64) , fX8_rounded_b162 v0 v4 v6 v8 s0 = some out → G κ (Vp κ) 21 162 [(0, .int v0), (4, .int v4), (6, .long v6), (8, .int v8)] [.long s0] := by
    intro v0 v4 v6 v8 s0 hf
    refine g_lconst (pc := 162) C dX8_rounded_162 cl_1 ?_
    refine g_goto (pc := 163) (tgt := 167) C dX8_rounded_163 rfl ?_
    exact b167 v0 v4 v6 v8 (1 : Int64) s0 hf
  have b166 : ∀ (v0 : Int32) (v4 : Int32) (v6 : Int64) (v8 : Int32) (s0 : Int64) , fX8_rounded_b166 v0 v4 v6 v8 s0 = some out → G κ (Vp κ) 21 166 [(0, .int v0), (4, .int v4), (6, .long v6), (8, .int v8)] [.long s0] := by
    intro v0 v4 v6 v8 s0 hf
    refine g_lconst (pc := 166) C dX8_rounded_166 cl_0 ?_
    exact b167 v0 v4 v6 v8 (0 : Int64) s0 hf
  have b83 : ∀ (v0 : Int32) (v4 : Int32) (v6 : Int64) (v8 : Int32) (s0 : Int64) , fX8_rounded_b83 v0 v4 v6 v8 s0 = some out → G κ (Vp κ) 21 83 [(0, .int v0), (4, .int v4), (6, .long v6), (8, .int v8)] [.long s0] := by
    intro v0 v4 v6 v8 s0 hf
    refine g_lstore (pc := 83) (i := 9) (L' := [(9, .long s0), (0, .int v0), (4, .int v4), (6, .long v6), (8, .int v8)]) C dX8_rounded_83 (by decide) rfl ?_
    refine g_lload (pc := 85) (i := 9) (j := 0) C dX8_rounded_85 rfl ?_
    refine g_cpi (pc := 87) (st := []) C lkX8_114 (As := [.long s0]) rfl (fun out h => kX8_lengthOf (kl κ) s0 out h) (by decide) rfl (Nat.le_of_ble_eq_true rfl) dX8_rounded_87 hf (fun r87 _ hf => ?_)
    refine g_iload (pc := 90) (i := 4) (j := 2) C dX8_rounded_90 rfl ?_
    refine g_isub (pc := 92) C dX8_rounded_92 ?_
    refine g_istore (pc := 93) (i := 11) (L' := [(11, .int (r87 - v4)), (9, .long s0), (0, .int v0), (4, .int v4), (6, .long v6), (8, .int v8)]) C dX8_rounded_93 (by decide) rfl ?_
    refine g_iload (pc := 95) (i := 11) (j := 0) C dX8_rounded_95 rfl ?_
    refine g_if_le (pc := 97) (tgt := 170) C dX8_rounded_97 rfl hf (fun _ hf => ?_) (fun _ hf => ?_)
    · exact g_at [2, 3, 4, 5, 1] rfl (b170 v0 v4 v6 v8 s0 hf)
    · refine g_lload (pc := 100) (i := 9) (j := 1) C dX8_rounded_100 rfl ?_
      refine g_lconst (pc := 102) C dX8_rounded_102 cl_1 ?_
      refine g_iload (pc := 103) (i := 11) (j := 0) C dX8_rounded_103 rfl ?_
      refine g_lshl (pc := 105) C dX8_rounded_105 ?_
      refine g_lconst (pc := 106) C dX8_rounded_106 cl_1 ?_
      refine g_lsub (pc := 107) C dX8_rounded_107 ?_
      refine g_land (pc := 108) C dX8_rounded_108 ?_
      refine g_lstore (pc := 109) (i := 12) (L' := [(12, .long (s0 &&& ((jlshl (1 : Int64) (r87 - v4)) - (1 : Int64)))), (11, .int (r87 - v4)), (9, .long s0), (0, .int v0), (4, .int v4), (6, .long v6), (8, .int v8)]) C dX8_rounded_109 (by decide) rfl ?_
      refine g_lconst (pc := 111) C dX8_rounded_111 cl_1 ?_
      refine g_iload (pc := 112) (i := 11) (j := 1) C dX8_rounded_112 rfl ?_
      refine g_iconst (pc := 114) C dX8_rounded_114 ci_1 ?_
      refine g_isub (pc := 115) C dX8_rounded_115 ?_
      refine g_lshl (pc := 116) C dX8_rounded_116 ?_
      refine g_lstore (pc := 117) (i := 14) (L' := [(14, .long (jlshl (1 : Int64) ((r87 - v4) - (1 : Int32)))), (12, .long (s0 &&& ((jlshl (1 : Int64) (r87 - v4)) - (1 : Int64)))), (11, .int (r87 - v4)), (9, .long s0), (0, .int v0), (4, .int v4), (6, .long v6), (8, .int v8)]) C dX8_rounded_117 (by decide) rfl ?_
      refine g_lload (pc := 119) (i := 9) (j := 3) C dX8_rounded_119 rfl ?_
      refine g_iload (pc := 121) (i := 11) (j := 2) C dX8_rounded_121 rfl ?_
      refine g_lshr (pc := 123) C dX8_rounded_123 ?_
      refine g_lstore (pc := 124) (i := 9) (L' := [(9, .long (jlshr s0 (r87 - v4))), (14, .long (jlshl (1 : Int64) ((r87 - v4) - (1 : Int32)))), (12, .long (s0 &&& ((jlshl (1 : Int64) (r87 - v4)) - (1 : Int64)))), (11, .int (r87 - v4)), (0, .int v0), (4, .int v4), (6, .long v6), (8, .int v8)]) C dX8_rounded_124 (by decide) rfl ?_
      refine g_iload (pc := 126) (i := 8) (j := 7) C dX8_rounded_126 rfl ?_
      refine g_iload (pc := 128) (i := 11) (j := 3) C dX8_rounded_128 rfl ?_
      refine g_iadd (pc := 130) C dX8_rounded_130 ?_
      refine g_istore (pc := 131) (i := 8) (L' := [(8, .int (v8 + (r87 - v4))), (9, .long (jlshr s0 (r87 - v4))), (14, .long (jlshl (1 : Int64) ((r87 - v4) - (1 : Int32)))), (12, .long (s0 &&& ((jlshl (1 : Int64) (r87 - v4)) - (1 : Int64)))), (11, .int (r87 - v4)), (0, .int v0), (4, .int v4), (6, .long v6)]) C dX8_rounded_131 (by decide) rfl ?_
      refine g_lload (pc := 133) (i := 9) (j := 1) C dX8_rounded_133 rfl ?_
      refine g_lload (pc := 135) (i := 12) (j := 3) C dX8_rounded_135 rfl ?_
      refine g_lload (pc := 137) (i := 14) (j := 2) C dX8_rounded_137 rfl ?_
      refine g_lcmp_gt (pc := 139) (tgt := 162) C dX8_rounded_139 dX8_rounded_140 rfl hf (fun _ hf => ?_) (fun _ hf => ?_)
      · exact g_at [5, 6, 7, 0] rfl (b162 v0 v4 v6 (v8 + (r87 - v4)) (jlshr s0 (r87 - v4)) hf)
      · refine g_lload (pc := 143) (i := 12) (j := 3) C dX8_rounded_143 rfl ?_
        refine g_lload (pc := 145) (i := 14) (j := 2) C dX8_rounded_145 rfl ?_
        refine g_lcmp_ne (pc := 147) (tgt := 166) C dX8_rounded_147 dX8_rounded_148 rfl hf (fun _ hf => ?_) (fun _ hf => ?_)
        · exact g_at [5, 6, 7, 0] rfl (b166 v0 v4 v6 (v8 + (r87 - v4)) (jlshr s0 (r87 - v4)) hf)
        · refine g_lload (pc := 151) (i := 9) (j := 1) C dX8_rounded_151 rfl ?_
          refine g_ldc2 (pc := 153) C cnX8_110 dX8_rounded_153 ?_
          refine g_lrem (pc := 156) C dX8_rounded_156 (by decide) ?_
          refine g_lconst (pc := 157) C dX8_rounded_157 cl_1 ?_
          refine g_lcmp_ne (pc := 158) (tgt := 166) C dX8_rounded_158 dX8_rounded_159 rfl hf (fun _ hf => ?_) (fun _ hf => ?_)
          · exact g_at [5, 6, 7, 0] rfl (b166 v0 v4 v6 (v8 + (r87 - v4)) (jlshr s0 (r87 - v4)) hf)
          · exact g_at [5, 6, 7, 0] rfl (b162 v0 v4 v6 (v8 + (r87 - v4)) (jlshr s0 (r87 - v4)) hf)
  have b66 : ∀ (v0 : Int32) (v4 : Int32) (v6 : Int64) (s0 : Int32) , fX8_rounded_b66 v0 v4 v6 s0 = some out → G κ (Vp κ) 21 66 [(0, .int v0), (4, .int v4), (6, .long v6)] [.int s0] := by
    intro v0 v4 v6 s0 hf
    refine g_istore (pc := 66) (i := 8) (L' := [(8, .int s0), (0, .int v0), (4, .int v4), (6, .long v6)]) C dX8_rounded_66 (by decide) rfl ?_
    refine g_lload (pc := 68) (i := 6) (j := 3) C dX8_rounded_68 rfl ?_
    refine g_lconst (pc := 70) C dX8_rounded_70 cl_0 ?_
    refine g_lcmp_ge (pc := 71) (tgt := 81) C dX8_rounded_71 dX8_rounded_72 rfl hf (fun _ hf => ?_) (fun _ hf => ?_)
    · refine g_lload (pc := 81) (i := 6) (j := 3) C dX8_rounded_81 rfl ?_
      exact g_at [1, 2, 3, 0] rfl (b83 v0 v4 v6 s0 v6 hf)
    · refine g_lload (pc := 75) (i := 6) (j := 3) C dX8_rounded_75 rfl ?_
      refine g_lneg (pc := 77) C dX8_rounded_77 ?_
      refine g_goto (pc := 78) (tgt := 83) C dX8_rounded_78 rfl ?_
      exact g_at [1, 2, 3, 0] rfl (b83 v0 v4 v6 s0 (-v6) hf)
  have b52 : ∀ (v0 : Int32) (v3 : Int32) (v4 : Int32) (v5 : Int32) (s0 : Int64) , fX8_rounded_b52 v0 v3 v4 v5 s0 = some out → G κ (Vp κ) 21 52 [(0, .int v0), (3, .int v3), (4, .int v4), (5, .int v5)] [.long s0] := by
    intro v0 v3 v4 v5 s0 hf
    refine g_lstore (pc := 52) (i := 6) (L' := [(6, .long s0), (0, .int v0), (3, .int v3), (4, .int v4), (5, .int v5)]) C dX8_rounded_52 (by decide) rfl ?_
    refine g_iload (pc := 54) (i := 5) (j := 4) C dX8_rounded_54 rfl ?_
    refine g_if_eq (pc := 56) (tgt := 65) C dX8_rounded_56 rfl hf (fun _ hf => ?_) (fun _ hf => ?_)
    · refine g_iload_n (pc := 65) (i := 3) (j := 2) C dX8_rounded_65 rfl rfl ?_
      exact g_at [1, 3, 0] rfl (b66 v0 v4 s0 v3 hf)
    · refine g_iload_n (pc := 59) (i := 3) (j := 2) C dX8_rounded_59 rfl rfl ?_
      refine g_iconst (pc := 60) C dX8_rounded_60 ci_1 ?_
      refine g_iadd (pc := 61) C dX8_rounded_61 ?_
      refine g_goto (pc := 62) (tgt := 66) C dX8_rounded_62 rfl ?_
      exact g_at [1, 3, 0] rfl (b66 v0 v4 s0 (v3 + (1 : Int32)) hf)
  have b36 : ∀ (v0 : Int32) (v1 : Int64) (v3 : Int32) (v4 : Int32) (s0 : Int32) , fX8_rounded_b36 v0 v1 v3 v4 s0 = some out → G κ (Vp κ) 21 36 [(0, .int v0), (1, .long v1), (3, .int v3), (4, .int v4)] [.int s0] := by
    intro v0 v1 v3 v4 s0 hf
    refine g_istore (pc := 36) (i := 5) (L' := [(5, .int s0), (0, .int v0), (1, .long v1), (3, .int v3), (4, .int v4)]) C dX8_rounded_36 (by decide) rfl ?_
    refine g_iload (pc := 38) (i := 5) (j := 0) C dX8_rounded_38 rfl ?_
    refine g_if_eq (pc := 40) (tgt := 51) C dX8_rounded_40 rfl hf (fun _ hf => ?_) (fun _ hf => ?_)
    · refine g_lload_n (pc := 51) (i := 1) (j := 2) C dX8_rounded_51 rfl rfl ?_
      exact g_at [1, 3, 4, 0] rfl (b52 v0 v3 v4 s0 v1 hf)
    · refine g_lload_n (pc := 43) (i := 1) (j := 2) C dX8_rounded_43 rfl rfl ?_
      refine g_ldc2 (pc := 44) C cnX8_110 dX8_rounded_44 ?_
      refine g_ldiv (pc := 47) C dX8_rounded_47 (by decide) ?_
      refine g_goto (pc := 48) (tgt := 52) C dX8_rounded_48 rfl ?_
      exact g_at [1, 3, 4, 0] rfl (b52 v0 v3 v4 s0 (jldiv v1 (2 : Int64)) hf)
  have b21 : ∀ (v0 : Int32) (v1 : Int64) (v3 : Int32) (s0 : Int32) , fX8_rounded_b21 v0 v1 v3 s0 = some out → G κ (Vp κ) 21 21 [(0, .int v0), (1, .long v1), (3, .int v3)] [.int s0] := by
    intro v0 v1 v3 s0 hf
    refine g_istore (pc := 21) (i := 4) (L' := [(4, .int s0), (0, .int v0), (1, .long v1), (3, .int v3)]) C dX8_rounded_21 (by decide) rfl ?_
    refine g_lload_n (pc := 23) (i := 1) (j := 2) C dX8_rounded_23 rfl rfl ?_
    refine g_ldc2 (pc := 24) C cnX8_112 dX8_rounded_24 ?_
    refine g_lcmp_ne (pc := 27) (tgt := 35) C dX8_rounded_27 dX8_rounded_28 rfl hf (fun _ hf => ?_) (fun _ hf => ?_)
    · refine g_iconst (pc := 35) C dX8_rounded_35 ci_0 ?_
      exact g_at [1, 2, 3, 0] rfl (b36 v0 v1 v3 s0 (0 : Int32) hf)
    · refine g_iconst (pc := 31) C dX8_rounded_31 ci_1 ?_
      refine g_goto (pc := 32) (tgt := 36) C dX8_rounded_32 rfl ?_
      exact g_at [1, 2, 3, 0] rfl (b36 v0 v1 v3 s0 (1 : Int32) hf)
  refine g_lload_n (pc := 0) (i := 1) (j := 1) C dX8_rounded_0 rfl rfl ?_
  refine g_lconst (pc := 1) C dX8_rounded_1 cl_0 ?_
  refine g_lcmp_ne (pc := 2) (tgt := 8) C dX8_rounded_2 dX8_rounded_3 rfl hf (fun _ hf => ?_) (fun _ hf => ?_)
  · refine g_iload_n (pc := 8) (i := 0) (j := 0) C dX8_rounded_8 rfl rfl ?_
    refine g_bipush (pc := 9) C dX8_rounded_9 cb_6 ?_
    refine g_icmp_ne (pc := 11) (tgt := 19) C dX8_rounded_11 rfl hf (fun _ hf => ?_) (fun _ hf => ?_)
    · refine g_bipush (pc := 19) C dX8_rounded_19 cb_53 ?_
      exact b21 p1 p2 p3 (53 : Int32) hf
    · refine g_bipush (pc := 14) C dX8_rounded_14 cb_24 ?_
      refine g_goto (pc := 16) (tgt := 21) C dX8_rounded_16 rfl ?_
      exact b21 p1 p2 p3 (24 : Int32) hf
  · refine g_lconst (pc := 6) C dX8_rounded_6 cl_0 ?_
    exact g_lretp (pc := 7) C hQ dX8_rounded_7 hf
theorem dX8_in_0 : decode cX8_in 0 = .ok (.lload_n 0, 1) := by decide +kernel
theorem dX8_in_1 : decode cX8_in 1 = .ok (.lload_n 2, 1) := by decide +kernel
theorem dX8_in_2 : decode cX8_in 2 = .ok (.lcmp, 1) := by decide +kernel
theorem dX8_in_3 : decode cX8_in 3 = .ok (.ifCond .lt 14, 3) := by decide +kernel
theorem dX8_in_6 : decode cX8_in 6 = .ok (.lload_n 0, 1) := by decide +kernel
theorem dX8_in_7 : decode cX8_in 7 = .ok (.lload 4, 2) := by decide +kernel
theorem dX8_in_9 : decode cX8_in 9 = .ok (.lcmp, 1) := by decide +kernel
theorem dX8_in_10 : decode cX8_in 10 = .ok (.ifCond .gt 7, 3) := by decide +kernel
theorem dX8_in_13 : decode cX8_in 13 = .ok (.iconst 1, 1) := by decide +kernel
theorem dX8_in_14 : decode cX8_in 14 = .ok (.goto 4, 3) := by decide +kernel
theorem dX8_in_17 : decode cX8_in 17 = .ok (.iconst 0, 1) := by decide +kernel
theorem dX8_in_18 : decode cX8_in 18 = .ok (.ireturn, 1) := by decide +kernel
def fX8_in (p1 : Int64) (p2 : Int64) (p3 : Int64) : Option Int32 := (if p1 < p2 then some (0 : Int32) else (if p3 < p1 then some (0 : Int32) else some (1 : Int32)))
set_option maxRecDepth 100000 in
set_option maxHeartbeats 4000000 in
theorem kX8_in (l : Launch) (p1 : Int64) (p2 : Int64) (p3 : Int64) (out : Int32) (hf : fX8_in p1 p2 p3 = some out) : Sq l yX8_in cX8_in 6 (some .boolean) 0 [.long p1, .long p2, .long p3] (some (.int out)) := by
  refine Sq.of [(0, .long p1), (2, .long p2), (4, .long p3)] rfl (by decide +kernel) (Nat.le_of_ble_eq_true rfl) ?_
  intro κ hκ C hQ
  subst hκ
  replace C : Cf κ cX8_in 6 RX8 (some .boolean) 0 := C
  refine g_lload_n (pc := 0) (i := 0) (j := 0) C dX8_in_0 rfl rfl ?_
  refine g_lload_n (pc := 1) (i := 2) (j := 1) C dX8_in_1 rfl rfl ?_
  refine g_lcmp_lt (pc := 2) (tgt := 17) C dX8_in_2 dX8_in_3 rfl hf (fun _ hf => ?_) (fun _ hf => ?_)
  · refine g_iconst (pc := 17) C dX8_in_17 ci_0 ?_
    exact g_zret1p (pc := 18) C rfl hQ dX8_in_18 hf
  · refine g_lload_n (pc := 6) (i := 0) (j := 0) C dX8_in_6 rfl rfl ?_
    refine g_lload (pc := 7) (i := 4) (j := 2) C dX8_in_7 rfl ?_
    refine g_lcmp_gt (pc := 9) (tgt := 17) C dX8_in_9 dX8_in_10 rfl hf (fun _ hf => ?_) (fun _ hf => ?_)
    · refine g_iconst (pc := 17) C dX8_in_17 ci_0 ?_
      exact g_zret1p (pc := 18) C rfl hQ dX8_in_18 hf
    · refine g_iconst (pc := 13) C dX8_in_13 ci_1 ?_
      refine g_goto (pc := 14) (tgt := 18) C dX8_in_14 rfl ?_
      exact g_zret1p (pc := 18) C rfl hQ dX8_in_18 hf
theorem dX8_isSlot_0 : decode cX8_isSlot 0 = .ok (.iload_n 0, 1) := by decide +kernel
theorem dX8_isSlot_1 : decode cX8_isSlot 1 = .ok (.i2l, 1) := by decide +kernel
theorem dX8_isSlot_2 : decode cX8_isSlot 2 = .ok (.lconst 0, 1) := by decide +kernel
theorem dX8_isSlot_3 : decode cX8_isSlot 3 = .ok (.ldc2_w 178, 3) := by decide +kernel
theorem dX8_isSlot_6 : decode cX8_isSlot 6 = .ok (.invokestatic 98, 3) := by decide +kernel
theorem dX8_isSlot_9 : decode cX8_isSlot 9 = .ok (.ireturn, 1) := by decide +kernel
def fX8_isSlot (p1 : Int32) : Option Int32 := ((fX8_in (Int32.toInt64 p1) (0 : Int64) (9 : Int64)).bind fun r6 => (if rbz r6 = true then some r6 else none))
set_option maxRecDepth 100000 in
set_option maxHeartbeats 4000000 in
theorem kX8_isSlot (l : Launch) (p1 : Int32) (out : Int32) (hf : fX8_isSlot p1 = some out) : Sq l yX8_isSlot cX8_isSlot 1 (some .boolean) 1 [.int p1] (some (.int out)) := by
  refine Sq.of [(0, .int p1)] rfl (by decide +kernel) (Nat.le_of_ble_eq_true rfl) ?_
  intro κ hκ C hQ
  subst hκ
  replace C : Cf κ cX8_isSlot 1 RX8 (some .boolean) 1 := C
  refine g_iload_n (pc := 0) (i := 0) (j := 0) C dX8_isSlot_0 rfl rfl ?_
  refine g_i2l (pc := 1) C dX8_isSlot_1 ?_
  refine g_lconst (pc := 2) C dX8_isSlot_2 cl_0 ?_
  refine g_ldc2 (pc := 3) C cnX8_178 dX8_isSlot_3 ?_
  refine g_cpi (pc := 6) (st := []) C lkX8_98 (As := [.long (Int32.toInt64 p1), .long (0 : Int64), .long (9 : Int64)]) rfl (fun out h => kX8_in (kl κ) (Int32.toInt64 p1) (0 : Int64) (9 : Int64) out h) (by decide) rfl (Nat.le_of_ble_eq_true rfl) dX8_isSlot_6 hf (fun r6 _ hf => ?_)
  exact g_zretp (pc := 9) C hQ dX8_isSlot_9 hf
theorem dX8_isPlain_0 : decode cX8_isPlain 0 = .ok (.iload_n 0, 1) := by decide +kernel
theorem dX8_isPlain_1 : decode cX8_isPlain 1 = .ok (.i2l, 1) := by decide +kernel
theorem dX8_isPlain_2 : decode cX8_isPlain 2 = .ok (.lconst 0, 1) := by decide +kernel
theorem dX8_isPlain_3 : decode cX8_isPlain 3 = .ok (.ldc2_w 96, 3) := by decide +kernel
theorem dX8_isPlain_6 : decode cX8_isPlain 6 = .ok (.invokestatic 98, 3) := by decide +kernel
theorem dX8_isPlain_9 : decode cX8_isPlain 9 = .ok (.ireturn, 1) := by decide +kernel
def fX8_isPlain (p1 : Int32) : Option Int32 := ((fX8_in (Int32.toInt64 p1) (0 : Int64) (7 : Int64)).bind fun r6 => (if rbz r6 = true then some r6 else none))
set_option maxRecDepth 100000 in
set_option maxHeartbeats 4000000 in
theorem kX8_isPlain (l : Launch) (p1 : Int32) (out : Int32) (hf : fX8_isPlain p1 = some out) : Sq l yX8_isPlain cX8_isPlain 1 (some .boolean) 1 [.int p1] (some (.int out)) := by
  refine Sq.of [(0, .int p1)] rfl (by decide +kernel) (Nat.le_of_ble_eq_true rfl) ?_
  intro κ hκ C hQ
  subst hκ
  replace C : Cf κ cX8_isPlain 1 RX8 (some .boolean) 1 := C
  refine g_iload_n (pc := 0) (i := 0) (j := 0) C dX8_isPlain_0 rfl rfl ?_
  refine g_i2l (pc := 1) C dX8_isPlain_1 ?_
  refine g_lconst (pc := 2) C dX8_isPlain_2 cl_0 ?_
  refine g_ldc2 (pc := 3) C cnX8_96 dX8_isPlain_3 ?_
  refine g_cpi (pc := 6) (st := []) C lkX8_98 (As := [.long (Int32.toInt64 p1), .long (0 : Int64), .long (7 : Int64)]) rfl (fun out h => kX8_in (kl κ) (Int32.toInt64 p1) (0 : Int64) (7 : Int64) out h) (by decide) rfl (Nat.le_of_ble_eq_true rfl) dX8_isPlain_6 hf (fun r6 _ hf => ?_)
  exact g_zretp (pc := 9) C hQ dX8_isPlain_9 hf
theorem dX8_isWay_0 : decode cX8_isWay 0 = .ok (.iload_n 0, 1) := by decide +kernel
theorem dX8_isWay_1 : decode cX8_isWay 1 = .ok (.i2l, 1) := by decide +kernel
theorem dX8_isWay_2 : decode cX8_isWay 2 = .ok (.lconst 1, 1) := by decide +kernel
theorem dX8_isWay_3 : decode cX8_isWay 3 = .ok (.ldc2_w 370, 3) := by decide +kernel
theorem dX8_isWay_6 : decode cX8_isWay 6 = .ok (.invokestatic 98, 3) := by decide +kernel
theorem dX8_isWay_9 : decode cX8_isWay 9 = .ok (.istore_n 1, 1) := by decide +kernel
theorem dX8_isWay_10 : decode cX8_isWay 10 = .ok (.iload_n 0, 1) := by decide +kernel
theorem dX8_isWay_11 : decode cX8_isWay 11 = .ok (.istore_n 2, 1) := by decide +kernel
theorem dX8_isWay_12 : decode cX8_isWay 12 = .ok (.iload_n 2, 1) := by decide +kernel
theorem dX8_isWay_13 : decode cX8_isWay 13 = .ok (.ifCond .le 36, 3) := by decide +kernel
theorem dX8_isWay_16 : decode cX8_isWay 16 = .ok (.iload_n 1, 1) := by decide +kernel
theorem dX8_isWay_17 : decode cX8_isWay 17 = .ok (.ifCond .eq 22, 3) := by decide +kernel
theorem dX8_isWay_20 : decode cX8_isWay 20 = .ok (.iload_n 2, 1) := by decide +kernel
theorem dX8_isWay_21 : decode cX8_isWay 21 = .ok (.bipush 10, 2) := by decide +kernel
theorem dX8_isWay_23 : decode cX8_isWay 23 = .ok (.irem, 1) := by decide +kernel
theorem dX8_isWay_24 : decode cX8_isWay 24 = .ok (.i2l, 1) := by decide +kernel
theorem dX8_isWay_25 : decode cX8_isWay 25 = .ok (.lconst 1, 1) := by decide +kernel
theorem dX8_isWay_26 : decode cX8_isWay 26 = .ok (.ldc2_w 372, 3) := by decide +kernel
theorem dX8_isWay_29 : decode cX8_isWay 29 = .ok (.invokestatic 98, 3) := by decide +kernel
theorem dX8_isWay_32 : decode cX8_isWay 32 = .ok (.ifCond .eq 7, 3) := by decide +kernel
theorem dX8_isWay_35 : decode cX8_isWay 35 = .ok (.iconst 1, 1) := by decide +kernel
theorem dX8_isWay_36 : decode cX8_isWay 36 = .ok (.goto 4, 3) := by decide +kernel
theorem dX8_isWay_39 : decode cX8_isWay 39 = .ok (.iconst 0, 1) := by decide +kernel
theorem dX8_isWay_40 : decode cX8_isWay 40 = .ok (.istore_n 1, 1) := by decide +kernel
theorem dX8_isWay_41 : decode cX8_isWay 41 = .ok (.iload_n 2, 1) := by decide +kernel
theorem dX8_isWay_42 : decode cX8_isWay 42 = .ok (.bipush 10, 2) := by decide +kernel
theorem dX8_isWay_44 : decode cX8_isWay 44 = .ok (.idiv, 1) := by decide +kernel
theorem dX8_isWay_45 : decode cX8_isWay 45 = .ok (.istore_n 2, 1) := by decide +kernel
theorem dX8_isWay_46 : decode cX8_isWay 46 = .ok (.goto (-34), 3) := by decide +kernel
theorem dX8_isWay_49 : decode cX8_isWay 49 = .ok (.iload_n 1, 1) := by decide +kernel
theorem dX8_isWay_50 : decode cX8_isWay 50 = .ok (.ireturn, 1) := by decide +kernel
def fX8_isWay_b40 (k12 : Int32 → Int32 → Option Int32) (v2 : Int32) (s0 : Int32) : Option Int32 := k12 s0 (jdiv v2 (10 : Int32))
def fX8_isWay_b39 (k12 : Int32 → Int32 → Option Int32) (v2 : Int32) : Option Int32 := fX8_isWay_b40 k12 v2 (0 : Int32)
def fX8_isWay_b12 : Nat → Int32 → Int32 → Option Int32
  | 0, _, _ => none
  | n + 1, v1, v2 => (if v2 ≤ 0 then (if rbz v1 = true then some v1 else none) else (if v1 = 0 then fX8_isWay_b39 (fX8_isWay_b12 n) v2 else ((fX8_in (Int32.toInt64 (jrem v2 (10 : Int32))) (1 : Int64) (8 : Int64)).bind fun r29 => (if r29 = 0 then fX8_isWay_b39 (fX8_isWay_b12 n) v2 else fX8_isWay_b40 (fX8_isWay_b12 n) v2 (1 : Int32)))))
def fX8_isWay (p1 : Int32) : Option Int32 := ((fX8_in (Int32.toInt64 p1) (1 : Int64) (888888 : Int64)).bind fun r6 => fX8_isWay_b12 100 r6 p1)
set_option maxRecDepth 100000 in
set_option maxHeartbeats 4000000 in
theorem kX8_isWay (l : Launch) (p1 : Int32) (out : Int32) (hf : fX8_isWay p1 = some out) : Sq l yX8_isWay cX8_isWay 3 (some .boolean) 1 [.int p1] (some (.int out)) := by
  refine Sq.of [(0, .int p1)] rfl (by decide +kernel) (Nat.le_of_ble_eq_true rfl) ?_
  intro κ hκ C hQ
  subst hκ
  replace C : Cf κ cX8_isWay 3 RX8 (some .boolean) 1 := C
  have b40 : ∀ (k12 : Int32 → Int32 → Option Int32) (hk12 : ∀ (v1 : Int32) (v2 : Int32) , k12 v1 v2 = some out → G κ (Vp κ) 3 12 [(1, .int v1), (2, .int v2)] []) (v2 : Int32) (s0 : Int32) , fX8_isWay_b40 k12 v2 s0 = some out → G κ (Vp κ) 3 40 [(2, .int v2)] [.int s0] := by
    intro k12 hk12 v2 s0 hf
    refine g_istore_n (pc := 40) (i := 1) (L' := [(1, .int s0), (2, .int v2)]) C dX8_isWay_40 rfl (by decide) rfl ?_
    refine g_iload_n (pc := 41) (i := 2) (j := 1) C dX8_isWay_41 rfl rfl ?_
    refine g_bipush (pc := 42) C dX8_isWay_42 cb_10 ?_
    refine g_idiv (pc := 44) C dX8_isWay_44 (by decide) ?_
    refine g_istore_n (pc := 45) (i := 2) (L' := [(2, .int (jdiv v2 (10 : Int32))), (1, .int s0)]) C dX8_isWay_45 rfl (by decide) rfl ?_
    refine g_goto (pc := 46) (tgt := 12) C dX8_isWay_46 rfl ?_
    exact g_at [1, 0] rfl (hk12 s0 (jdiv v2 (10 : Int32)) hf)
  have b39 : ∀ (k12 : Int32 → Int32 → Option Int32) (hk12 : ∀ (v1 : Int32) (v2 : Int32) , k12 v1 v2 = some out → G κ (Vp κ) 3 12 [(1, .int v1), (2, .int v2)] []) (v2 : Int32) , fX8_isWay_b39 k12 v2 = some out → G κ (Vp κ) 3 39 [(2, .int v2)] [] := by
    intro k12 hk12 v2 hf
    refine g_iconst (pc := 39) C dX8_isWay_39 ci_0 ?_
    exact b40 k12 hk12 v2 (0 : Int32) hf
  have b12 : ∀ (n : Nat) (v1 : Int32) (v2 : Int32) , fX8_isWay_b12 n v1 v2 = some out → G κ (Vp κ) 3 12 [(1, .int v1), (2, .int v2)] [] := by
    intro n
    induction n with
    | zero => intro v1 v2 hf; exact none_ne hf
    | succ n ih =>
      intro v1 v2 hf
      refine g_iload_n (pc := 12) (i := 2) (j := 1) C dX8_isWay_12 rfl rfl ?_
      refine g_if_le (pc := 13) (tgt := 49) C dX8_isWay_13 rfl hf (fun _ hf => ?_) (fun _ hf => ?_)
      · refine g_iload_n (pc := 49) (i := 1) (j := 0) C dX8_isWay_49 rfl rfl ?_
        exact g_zretp (pc := 50) C hQ dX8_isWay_50 hf
      · refine g_iload_n (pc := 16) (i := 1) (j := 0) C dX8_isWay_16 rfl rfl ?_
        refine g_if_eq (pc := 17) (tgt := 39) C dX8_isWay_17 rfl hf (fun _ hf => ?_) (fun _ hf => ?_)
        · exact g_at [1] rfl (b39 (fX8_isWay_b12 n) ih v2 hf)
        · refine g_iload_n (pc := 20) (i := 2) (j := 1) C dX8_isWay_20 rfl rfl ?_
          refine g_bipush (pc := 21) C dX8_isWay_21 cb_10 ?_
          refine g_irem (pc := 23) C dX8_isWay_23 (by decide) ?_
          refine g_i2l (pc := 24) C dX8_isWay_24 ?_
          refine g_lconst (pc := 25) C dX8_isWay_25 cl_1 ?_
          refine g_ldc2 (pc := 26) C cnX8_372 dX8_isWay_26 ?_
          refine g_cpi (pc := 29) (st := []) C lkX8_98 (As := [.long (Int32.toInt64 (jrem v2 (10 : Int32))), .long (1 : Int64), .long (8 : Int64)]) rfl (fun out h => kX8_in (kl κ) (Int32.toInt64 (jrem v2 (10 : Int32))) (1 : Int64) (8 : Int64) out h) (by decide) rfl (Nat.le_of_ble_eq_true rfl) dX8_isWay_29 hf (fun r29 _ hf => ?_)
          refine g_if_eq (pc := 32) (tgt := 39) C dX8_isWay_32 rfl hf (fun _ hf => ?_) (fun _ hf => ?_)
          · exact g_at [1] rfl (b39 (fX8_isWay_b12 n) ih v2 hf)
          · refine g_iconst (pc := 35) C dX8_isWay_35 ci_1 ?_
            refine g_goto (pc := 36) (tgt := 40) C dX8_isWay_36 rfl ?_
            exact g_at [1] rfl (b40 (fX8_isWay_b12 n) ih v2 (1 : Int32) hf)
  refine g_iload_n (pc := 0) (i := 0) (j := 0) C dX8_isWay_0 rfl rfl ?_
  refine g_i2l (pc := 1) C dX8_isWay_1 ?_
  refine g_lconst (pc := 2) C dX8_isWay_2 cl_1 ?_
  refine g_ldc2 (pc := 3) C cnX8_370 dX8_isWay_3 ?_
  refine g_cpi (pc := 6) (st := []) C lkX8_98 (As := [.long (Int32.toInt64 p1), .long (1 : Int64), .long (888888 : Int64)]) rfl (fun out h => kX8_in (kl κ) (Int32.toInt64 p1) (1 : Int64) (888888 : Int64) out h) (by decide) rfl (Nat.le_of_ble_eq_true rfl) dX8_isWay_6 hf (fun r6 _ hf => ?_)
  refine g_istore_n (pc := 9) (i := 1) (L' := [(1, .int r6), (0, .int p1)]) C dX8_isWay_9 rfl (by decide) rfl ?_
  refine g_iload_n (pc := 10) (i := 0) (j := 1) C dX8_isWay_10 rfl rfl ?_
  refine g_istore_n (pc := 11) (i := 2) (L' := [(2, .int p1), (1, .int r6), (0, .int p1)]) C dX8_isWay_11 rfl (by decide) rfl ?_
  exact g_at [1, 0] rfl (b12 100 r6 p1 hf)
theorem dX8_fits_0 : decode cX8_fits 0 = .ok (.iload_n 0, 1) := by decide +kernel
theorem dX8_fits_1 : decode cX8_fits 1 = .ok (.tableswitch 84 0 4 #[35, 42, 53, 62, 73], 35) := by decide +kernel
theorem dX8_fits_36 : decode cX8_fits 36 = .ok (.lload_n 1, 1) := by decide +kernel
theorem dX8_fits_37 : decode cX8_fits 37 = .ok (.lconst 0, 1) := by decide +kernel
theorem dX8_fits_38 : decode cX8_fits 38 = .ok (.lconst 1, 1) := by decide +kernel
theorem dX8_fits_39 : decode cX8_fits 39 = .ok (.invokestatic 98, 3) := by decide +kernel
theorem dX8_fits_42 : decode cX8_fits 42 = .ok (.ireturn, 1) := by decide +kernel
theorem dX8_fits_43 : decode cX8_fits 43 = .ok (.lload_n 1, 1) := by decide +kernel
theorem dX8_fits_44 : decode cX8_fits 44 = .ok (.ldc2_w 118, 3) := by decide +kernel
theorem dX8_fits_47 : decode cX8_fits 47 = .ok (.ldc2_w 120, 3) := by decide +kernel
theorem dX8_fits_50 : decode cX8_fits 50 = .ok (.invokestatic 98, 3) := by decide +kernel
theorem dX8_fits_53 : decode cX8_fits 53 = .ok (.ireturn, 1) := by decide +kernel
theorem dX8_fits_54 : decode cX8_fits 54 = .ok (.lload_n 1, 1) := by decide +kernel
theorem dX8_fits_55 : decode cX8_fits 55 = .ok (.lconst 0, 1) := by decide +kernel
theorem dX8_fits_56 : decode cX8_fits 56 = .ok (.ldc2_w 122, 3) := by decide +kernel
theorem dX8_fits_59 : decode cX8_fits 59 = .ok (.invokestatic 98, 3) := by decide +kernel
theorem dX8_fits_62 : decode cX8_fits 62 = .ok (.ireturn, 1) := by decide +kernel
theorem dX8_fits_63 : decode cX8_fits 63 = .ok (.lload_n 1, 1) := by decide +kernel
theorem dX8_fits_64 : decode cX8_fits 64 = .ok (.ldc2_w 124, 3) := by decide +kernel
theorem dX8_fits_67 : decode cX8_fits 67 = .ok (.ldc2_w 126, 3) := by decide +kernel
theorem dX8_fits_70 : decode cX8_fits 70 = .ok (.invokestatic 98, 3) := by decide +kernel
theorem dX8_fits_73 : decode cX8_fits 73 = .ok (.ireturn, 1) := by decide +kernel
theorem dX8_fits_74 : decode cX8_fits 74 = .ok (.lload_n 1, 1) := by decide +kernel
theorem dX8_fits_75 : decode cX8_fits 75 = .ok (.ldc2_w 128, 3) := by decide +kernel
theorem dX8_fits_78 : decode cX8_fits 78 = .ok (.ldc2_w 130, 3) := by decide +kernel
theorem dX8_fits_81 : decode cX8_fits 81 = .ok (.invokestatic 98, 3) := by decide +kernel
theorem dX8_fits_84 : decode cX8_fits 84 = .ok (.ireturn, 1) := by decide +kernel
theorem dX8_fits_85 : decode cX8_fits 85 = .ok (.iconst 1, 1) := by decide +kernel
theorem dX8_fits_86 : decode cX8_fits 86 = .ok (.ireturn, 1) := by decide +kernel
def fX8_fits (p1 : Int32) (p2 : Int64) : Option Int32 := (if p1 = 0 then ((fX8_in p2 (0 : Int64) (1 : Int64)).bind fun r39 => (if rbz r39 = true then some r39 else none)) else (if p1 = 1 then ((fX8_in p2 (-128 : Int64) (127 : Int64)).bind fun r50 => (if rbz r50 = true then some r50 else none)) else (if p1 = 2 then ((fX8_in p2 (0 : Int64) (65535 : Int64)).bind fun r59 => (if rbz r59 = true then some r59 else none)) else (if p1 = 3 then ((fX8_in p2 (-32768 : Int64) (32767 : Int64)).bind fun r70 => (if rbz r70 = true then some r70 else none)) else (if p1 = 4 then ((fX8_in p2 (-2147483648 : Int64) (2147483647 : Int64)).bind fun r81 => (if rbz r81 = true then some r81 else none)) else some (1 : Int32))))))
set_option maxRecDepth 100000 in
set_option maxHeartbeats 4000000 in
theorem kX8_fits (l : Launch) (p1 : Int32) (p2 : Int64) (out : Int32) (hf : fX8_fits p1 p2 = some out) : Sq l yX8_fits cX8_fits 3 (some .boolean) 1 [.int p1, .long p2] (some (.int out)) := by
  refine Sq.of [(0, .int p1), (1, .long p2)] rfl (by decide +kernel) (Nat.le_of_ble_eq_true rfl) ?_
  intro κ hκ C hQ
  subst hκ
  replace C : Cf κ cX8_fits 3 RX8 (some .boolean) 1 := C
  refine g_iload_n (pc := 0) (i := 0) (j := 0) C dX8_fits_0 rfl rfl ?_
  by_cases h1_0 : p1 = 0
  · replace hf := ite_t h1_0 hf
    refine g_tabIn (pc := 1) (v := 0) (off := 35) (tgt := 36) C dX8_fits_1 h1_0 (by decide) rfl ?_
    refine g_lload_n (pc := 36) (i := 1) (j := 1) C dX8_fits_36 rfl rfl ?_
    refine g_lconst (pc := 37) C dX8_fits_37 cl_0 ?_
    refine g_lconst (pc := 38) C dX8_fits_38 cl_1 ?_
    refine g_cpi (pc := 39) (st := []) C lkX8_98 (As := [.long p2, .long (0 : Int64), .long (1 : Int64)]) rfl (fun out h => kX8_in (kl κ) p2 (0 : Int64) (1 : Int64) out h) (by decide) rfl (Nat.le_of_ble_eq_true rfl) dX8_fits_39 hf (fun r39 _ hf => ?_)
    exact g_zretp (pc := 42) C hQ dX8_fits_42 hf
  replace hf := ite_f h1_0 hf
  by_cases h1_1 : p1 = 1
  · replace hf := ite_t h1_1 hf
    refine g_tabIn (pc := 1) (v := 1) (off := 42) (tgt := 43) C dX8_fits_1 h1_1 (by decide) rfl ?_
    refine g_lload_n (pc := 43) (i := 1) (j := 1) C dX8_fits_43 rfl rfl ?_
    refine g_ldc2 (pc := 44) C cnX8_118 dX8_fits_44 ?_
    refine g_ldc2 (pc := 47) C cnX8_120 dX8_fits_47 ?_
    refine g_cpi (pc := 50) (st := []) C lkX8_98 (As := [.long p2, .long (-128 : Int64), .long (127 : Int64)]) rfl (fun out h => kX8_in (kl κ) p2 (-128 : Int64) (127 : Int64) out h) (by decide) rfl (Nat.le_of_ble_eq_true rfl) dX8_fits_50 hf (fun r50 _ hf => ?_)
    exact g_zretp (pc := 53) C hQ dX8_fits_53 hf
  replace hf := ite_f h1_1 hf
  by_cases h1_2 : p1 = 2
  · replace hf := ite_t h1_2 hf
    refine g_tabIn (pc := 1) (v := 2) (off := 53) (tgt := 54) C dX8_fits_1 h1_2 (by decide) rfl ?_
    refine g_lload_n (pc := 54) (i := 1) (j := 1) C dX8_fits_54 rfl rfl ?_
    refine g_lconst (pc := 55) C dX8_fits_55 cl_0 ?_
    refine g_ldc2 (pc := 56) C cnX8_122 dX8_fits_56 ?_
    refine g_cpi (pc := 59) (st := []) C lkX8_98 (As := [.long p2, .long (0 : Int64), .long (65535 : Int64)]) rfl (fun out h => kX8_in (kl κ) p2 (0 : Int64) (65535 : Int64) out h) (by decide) rfl (Nat.le_of_ble_eq_true rfl) dX8_fits_59 hf (fun r59 _ hf => ?_)
    exact g_zretp (pc := 62) C hQ dX8_fits_62 hf
  replace hf := ite_f h1_2 hf
  by_cases h1_3 : p1 = 3
  · replace hf := ite_t h1_3 hf
    refine g_tabIn (pc := 1) (v := 3) (off := 62) (tgt := 63) C dX8_fits_1 h1_3 (by decide) rfl ?_
    refine g_lload_n (pc := 63) (i := 1) (j := 1) C dX8_fits_63 rfl rfl ?_
    refine g_ldc2 (pc := 64) C cnX8_124 dX8_fits_64 ?_
    refine g_ldc2 (pc := 67) C cnX8_126 dX8_fits_67 ?_
    refine g_cpi (pc := 70) (st := []) C lkX8_98 (As := [.long p2, .long (-32768 : Int64), .long (32767 : Int64)]) rfl (fun out h => kX8_in (kl κ) p2 (-32768 : Int64) (32767 : Int64) out h) (by decide) rfl (Nat.le_of_ble_eq_true rfl) dX8_fits_70 hf (fun r70 _ hf => ?_)
    exact g_zretp (pc := 73) C hQ dX8_fits_73 hf
  replace hf := ite_f h1_3 hf
  by_cases h1_4 : p1 = 4
  · replace hf := ite_t h1_4 hf
    refine g_tabIn (pc := 1) (v := 4) (off := 73) (tgt := 74) C dX8_fits_1 h1_4 (by decide) rfl ?_
    refine g_lload_n (pc := 74) (i := 1) (j := 1) C dX8_fits_74 rfl rfl ?_
    refine g_ldc2 (pc := 75) C cnX8_128 dX8_fits_75 ?_
    refine g_ldc2 (pc := 78) C cnX8_130 dX8_fits_78 ?_
    refine g_cpi (pc := 81) (st := []) C lkX8_98 (As := [.long p2, .long (-2147483648 : Int64), .long (2147483647 : Int64)]) rfl (fun out h => kX8_in (kl κ) p2 (-2147483648 : Int64) (2147483647 : Int64) out h) (by decide) rfl (Nat.le_of_ble_eq_true rfl) dX8_fits_81 hf (fun r81 _ hf => ?_)
    exact g_zretp (pc := 84) C hQ dX8_fits_84 hf
  replace hf := ite_f h1_4 hf
  have e1_0 := i32_ne (n := 0) h1_0 (by decide)
  have e1_1 := i32_ne (n := 1) h1_1 (by decide)
  have e1_2 := i32_ne (n := 2) h1_2 (by decide)
  have e1_3 := i32_ne (n := 3) h1_3 (by decide)
  have e1_4 := i32_ne (n := 4) h1_4 (by decide)
  refine g_tabOut (pc := 1) (tgt := 85) C dX8_fits_1 (by omega) rfl ?_
  refine g_iconst (pc := 85) C dX8_fits_85 ci_1 ?_
  exact g_zret1p (pc := 86) C rfl hQ dX8_fits_86 hf
theorem dX8_takeFrom_0 : decode cX8_takeFrom 0 = .ok (.iload_n 0, 1) := by decide +kernel
theorem dX8_takeFrom_1 : decode cX8_takeFrom 1 = .ok (.invokestatic 198, 3) := by decide +kernel
theorem dX8_takeFrom_4 : decode cX8_takeFrom 4 = .ok (.ifCond .ne 7, 3) := by decide +kernel
theorem dX8_takeFrom_7 : decode cX8_takeFrom 7 = .ok (.iconst 4, 1) := by decide +kernel
theorem dX8_takeFrom_8 : decode cX8_takeFrom 8 = .ok (.goto 16, 3) := by decide +kernel
theorem dX8_takeFrom_11 : decode cX8_takeFrom 11 = .ok (.iload_n 0, 1) := by decide +kernel
theorem dX8_takeFrom_12 : decode cX8_takeFrom 12 = .ok (.iload_n 1, 1) := by decide +kernel
theorem dX8_takeFrom_13 : decode cX8_takeFrom 13 = .ok (.invokestatic 313, 3) := by decide +kernel
theorem dX8_takeFrom_16 : decode cX8_takeFrom 16 = .ok (.ifCond .eq 7, 3) := by decide +kernel
theorem dX8_takeFrom_19 : decode cX8_takeFrom 19 = .ok (.iconst 0, 1) := by decide +kernel
theorem dX8_takeFrom_20 : decode cX8_takeFrom 20 = .ok (.goto 4, 3) := by decide +kernel
theorem dX8_takeFrom_23 : decode cX8_takeFrom 23 = .ok (.iconst 2, 1) := by decide +kernel
theorem dX8_takeFrom_24 : decode cX8_takeFrom 24 = .ok (.ireturn, 1) := by decide +kernel
def fX8_takeFrom (p1 : Int32) (p2 : Int32) : Option Int32 := ((fX8_isPlain p1).bind fun r1 => (if r1 = 0 then some (4 : Int32) else ((fX8_widens p1 p2).bind fun r13 => (if r13 = 0 then some (2 : Int32) else some (0 : Int32)))))
set_option maxRecDepth 100000 in
set_option maxHeartbeats 4000000 in
theorem kX8_takeFrom (l : Launch) (p1 : Int32) (p2 : Int32) (out : Int32) (hf : fX8_takeFrom p1 p2 = some out) : Sq l yX8_takeFrom cX8_takeFrom 2 (some .int) 2 [.int p1, .int p2] (some (.int out)) := by
  refine Sq.of [(0, .int p1), (1, .int p2)] rfl (by decide +kernel) (Nat.le_of_ble_eq_true rfl) ?_
  intro κ hκ C hQ
  subst hκ
  replace C : Cf κ cX8_takeFrom 2 RX8 (some .int) 2 := C
  refine g_iload_n (pc := 0) (i := 0) (j := 0) C dX8_takeFrom_0 rfl rfl ?_
  refine g_cpi (pc := 1) (st := []) C lkX8_198 (As := [.int p1]) rfl (fun out h => kX8_isPlain (kl κ) p1 out h) (by decide) rfl (Nat.le_of_ble_eq_true rfl) dX8_takeFrom_1 hf (fun r1 _ hf => ?_)
  refine g_if_ne (pc := 4) (tgt := 11) C dX8_takeFrom_4 rfl hf (fun _ hf => ?_) (fun _ hf => ?_)
  · refine g_iload_n (pc := 11) (i := 0) (j := 0) C dX8_takeFrom_11 rfl rfl ?_
    refine g_iload_n (pc := 12) (i := 1) (j := 1) C dX8_takeFrom_12 rfl rfl ?_
    refine g_cpi (pc := 13) (st := []) C lkX8_313 (As := [.int p1, .int p2]) rfl (fun out h => kX8_widens (kl κ) p1 p2 out h) (by decide) rfl (Nat.le_of_ble_eq_true rfl) dX8_takeFrom_13 hf (fun r13 _ hf => ?_)
    refine g_if_eq (pc := 16) (tgt := 23) C dX8_takeFrom_16 rfl hf (fun _ hf => ?_) (fun _ hf => ?_)
    · refine g_iconst (pc := 23) C dX8_takeFrom_23 ci_2 ?_
      exact g_iretp (pc := 24) C hQ dX8_takeFrom_24 hf
    · refine g_iconst (pc := 19) C dX8_takeFrom_19 ci_0 ?_
      refine g_goto (pc := 20) (tgt := 24) C dX8_takeFrom_20 rfl ?_
      exact g_iretp (pc := 24) C hQ dX8_takeFrom_24 hf
  · refine g_iconst (pc := 7) C dX8_takeFrom_7 ci_4 ?_
    refine g_goto (pc := 8) (tgt := 24) C dX8_takeFrom_8 rfl ?_
    exact g_iretp (pc := 24) C hQ dX8_takeFrom_24 hf
theorem dX8_plainOf_0 : decode cX8_plainOf 0 = .ok (.iload_n 0, 1) := by decide +kernel
theorem dX8_plainOf_1 : decode cX8_plainOf 1 = .ok (.tableswitch 133 98 122 #[117, 119, 130, 133, 127, 133, 133, 123, 125, 133, 133, 133, 133, 133, 133, 133, 133, 121, 133, 133, 133, 133, 133, 133, 115], 115) := by decide +kernel
theorem dX8_plainOf_116 : decode cX8_plainOf 116 = .ok (.iconst 0, 1) := by decide +kernel
theorem dX8_plainOf_117 : decode cX8_plainOf 117 = .ok (.ireturn, 1) := by decide +kernel
theorem dX8_plainOf_118 : decode cX8_plainOf 118 = .ok (.iconst 1, 1) := by decide +kernel
theorem dX8_plainOf_119 : decode cX8_plainOf 119 = .ok (.ireturn, 1) := by decide +kernel
theorem dX8_plainOf_120 : decode cX8_plainOf 120 = .ok (.iconst 2, 1) := by decide +kernel
theorem dX8_plainOf_121 : decode cX8_plainOf 121 = .ok (.ireturn, 1) := by decide +kernel
theorem dX8_plainOf_122 : decode cX8_plainOf 122 = .ok (.iconst 3, 1) := by decide +kernel
theorem dX8_plainOf_123 : decode cX8_plainOf 123 = .ok (.ireturn, 1) := by decide +kernel
theorem dX8_plainOf_124 : decode cX8_plainOf 124 = .ok (.iconst 4, 1) := by decide +kernel
theorem dX8_plainOf_125 : decode cX8_plainOf 125 = .ok (.ireturn, 1) := by decide +kernel
theorem dX8_plainOf_126 : decode cX8_plainOf 126 = .ok (.iconst 5, 1) := by decide +kernel
theorem dX8_plainOf_127 : decode cX8_plainOf 127 = .ok (.ireturn, 1) := by decide +kernel
theorem dX8_plainOf_128 : decode cX8_plainOf 128 = .ok (.bipush 6, 2) := by decide +kernel
theorem dX8_plainOf_130 : decode cX8_plainOf 130 = .ok (.ireturn, 1) := by decide +kernel
theorem dX8_plainOf_131 : decode cX8_plainOf 131 = .ok (.bipush 7, 2) := by decide +kernel
theorem dX8_plainOf_133 : decode cX8_plainOf 133 = .ok (.ireturn, 1) := by decide +kernel
theorem dX8_plainOf_134 : decode cX8_plainOf 134 = .ok (.bipush (-9), 2) := by decide +kernel
theorem dX8_plainOf_136 : decode cX8_plainOf 136 = .ok (.ireturn, 1) := by decide +kernel
def fX8_plainOf (p1 : Int32) : Option Int32 := (if p1 = 98 then some (1 : Int32) else (if p1 = 99 then some (2 : Int32) else (if p1 = 100 then some (7 : Int32) else (if p1 = 101 then some (-9 : Int32) else (if p1 = 102 then some (6 : Int32) else (if p1 = 103 then some (-9 : Int32) else (if p1 = 104 then some (-9 : Int32) else (if p1 = 105 then some (4 : Int32) else (if p1 = 106 then some (5 : Int32) else (if p1 = 107 then some (-9 : Int32) else (if p1 = 108 then some (-9 : Int32) else (if p1 = 109 then some (-9 : Int32) else (if p1 = 110 then some (-9 : Int32) else (if p1 = 111 then some (-9 : Int32) else (if p1 = 112 then some (-9 : Int32) else (if p1 = 113 then some (-9 : Int32) else (if p1 = 114 then some (-9 : Int32) else (if p1 = 115 then some (3 : Int32) else (if p1 = 116 then some (-9 : Int32) else (if p1 = 117 then some (-9 : Int32) else (if p1 = 118 then some (-9 : Int32) else (if p1 = 119 then some (-9 : Int32) else (if p1 = 120 then some (-9 : Int32) else (if p1 = 121 then some (-9 : Int32) else (if p1 = 122 then some (0 : Int32) else some (-9 : Int32))))))))))))))))))))))))))
set_option maxRecDepth 100000 in
set_option maxHeartbeats 4000000 in
theorem kX8_plainOf (l : Launch) (p1 : Int32) (out : Int32) (hf : fX8_plainOf p1 = some out) : Sq l yX8_plainOf cX8_plainOf 1 (some .int) 0 [.int p1] (some (.int out)) := by
  refine Sq.of [(0, .int p1)] rfl (by decide +kernel) (Nat.le_of_ble_eq_true rfl) ?_
  intro κ hκ C hQ
  subst hκ
  replace C : Cf κ cX8_plainOf 1 RX8 (some .int) 0 := C
  refine g_iload_n (pc := 0) (i := 0) (j := 0) C dX8_plainOf_0 rfl rfl ?_
  by_cases h1_0 : p1 = 98
  · replace hf := ite_t h1_0 hf
    refine g_tabIn (pc := 1) (v := 98) (off := 117) (tgt := 118) C dX8_plainOf_1 h1_0 (by decide) rfl ?_
    refine g_iconst (pc := 118) C dX8_plainOf_118 ci_1 ?_
    exact g_iretp (pc := 119) C hQ dX8_plainOf_119 hf
  replace hf := ite_f h1_0 hf
  by_cases h1_1 : p1 = 99
  · replace hf := ite_t h1_1 hf
    refine g_tabIn (pc := 1) (v := 99) (off := 119) (tgt := 120) C dX8_plainOf_1 h1_1 (by decide) rfl ?_
    refine g_iconst (pc := 120) C dX8_plainOf_120 ci_2 ?_
    exact g_iretp (pc := 121) C hQ dX8_plainOf_121 hf
  replace hf := ite_f h1_1 hf
  by_cases h1_2 : p1 = 100
  · replace hf := ite_t h1_2 hf
    refine g_tabIn (pc := 1) (v := 100) (off := 130) (tgt := 131) C dX8_plainOf_1 h1_2 (by decide) rfl ?_
    refine g_bipush (pc := 131) C dX8_plainOf_131 cb_7 ?_
    exact g_iretp (pc := 133) C hQ dX8_plainOf_133 hf
  replace hf := ite_f h1_2 hf
  by_cases h1_3 : p1 = 101
  · replace hf := ite_t h1_3 hf
    refine g_tabIn (pc := 1) (v := 101) (off := 133) (tgt := 134) C dX8_plainOf_1 h1_3 (by decide) rfl ?_
    refine g_bipush (pc := 134) C dX8_plainOf_134 cb_m9 ?_
    exact g_iretp (pc := 136) C hQ dX8_plainOf_136 hf
  replace hf := ite_f h1_3 hf
  by_cases h1_4 : p1 = 102
  · replace hf := ite_t h1_4 hf
    refine g_tabIn (pc := 1) (v := 102) (off := 127) (tgt := 128) C dX8_plainOf_1 h1_4 (by decide) rfl ?_
    refine g_bipush (pc := 128) C dX8_plainOf_128 cb_6 ?_
    exact g_iretp (pc := 130) C hQ dX8_plainOf_130 hf
  replace hf := ite_f h1_4 hf
  by_cases h1_5 : p1 = 103
  · replace hf := ite_t h1_5 hf
    refine g_tabIn (pc := 1) (v := 103) (off := 133) (tgt := 134) C dX8_plainOf_1 h1_5 (by decide) rfl ?_
    refine g_bipush (pc := 134) C dX8_plainOf_134 cb_m9 ?_
    exact g_iretp (pc := 136) C hQ dX8_plainOf_136 hf
  replace hf := ite_f h1_5 hf
  by_cases h1_6 : p1 = 104
  · replace hf := ite_t h1_6 hf
    refine g_tabIn (pc := 1) (v := 104) (off := 133) (tgt := 134) C dX8_plainOf_1 h1_6 (by decide) rfl ?_
    refine g_bipush (pc := 134) C dX8_plainOf_134 cb_m9 ?_
    exact g_iretp (pc := 136) C hQ dX8_plainOf_136 hf
  replace hf := ite_f h1_6 hf
  by_cases h1_7 : p1 = 105
  · replace hf := ite_t h1_7 hf
    refine g_tabIn (pc := 1) (v := 105) (off := 123) (tgt := 124) C dX8_plainOf_1 h1_7 (by decide) rfl ?_
    refine g_iconst (pc := 124) C dX8_plainOf_124 ci_4 ?_
    exact g_iretp (pc := 125) C hQ dX8_plainOf_125 hf
  replace hf := ite_f h1_7 hf
  by_cases h1_8 : p1 = 106
  · replace hf := ite_t h1_8 hf
    refine g_tabIn (pc := 1) (v := 106) (off := 125) (tgt := 126) C dX8_plainOf_1 h1_8 (by decide) rfl ?_
    refine g_iconst (pc := 126) C dX8_plainOf_126 ci_5 ?_
    exact g_iretp (pc := 127) C hQ dX8_plainOf_127 hf
  replace hf := ite_f h1_8 hf
  by_cases h1_9 : p1 = 107
  · replace hf := ite_t h1_9 hf
    refine g_tabIn (pc := 1) (v := 107) (off := 133) (tgt := 134) C dX8_plainOf_1 h1_9 (by decide) rfl ?_
    refine g_bipush (pc := 134) C dX8_plainOf_134 cb_m9 ?_
    exact g_iretp (pc := 136) C hQ dX8_plainOf_136 hf
  replace hf := ite_f h1_9 hf
  by_cases h1_10 : p1 = 108
  · replace hf := ite_t h1_10 hf
    refine g_tabIn (pc := 1) (v := 108) (off := 133) (tgt := 134) C dX8_plainOf_1 h1_10 (by decide) rfl ?_
    refine g_bipush (pc := 134) C dX8_plainOf_134 cb_m9 ?_
    exact g_iretp (pc := 136) C hQ dX8_plainOf_136 hf
  replace hf := ite_f h1_10 hf
  by_cases h1_11 : p1 = 109
  · replace hf := ite_t h1_11 hf
    refine g_tabIn (pc := 1) (v := 109) (off := 133) (tgt := 134) C dX8_plainOf_1 h1_11 (by decide) rfl ?_
    refine g_bipush (pc := 134) C dX8_plainOf_134 cb_m9 ?_
    exact g_iretp (pc := 136) C hQ dX8_plainOf_136 hf
  replace hf := ite_f h1_11 hf
  by_cases h1_12 : p1 = 110
  · replace hf := ite_t h1_12 hf
    refine g_tabIn (pc := 1) (v := 110) (off := 133) (tgt := 134) C dX8_plainOf_1 h1_12 (by decide) rfl ?_
    refine g_bipush (pc := 134) C dX8_plainOf_134 cb_m9 ?_
    exact g_iretp (pc := 136) C hQ dX8_plainOf_136 hf
  replace hf := ite_f h1_12 hf
  by_cases h1_13 : p1 = 111
  · replace hf := ite_t h1_13 hf
    refine g_tabIn (pc := 1) (v := 111) (off := 133) (tgt := 134) C dX8_plainOf_1 h1_13 (by decide) rfl ?_
    refine g_bipush (pc := 134) C dX8_plainOf_134 cb_m9 ?_
    exact g_iretp (pc := 136) C hQ dX8_plainOf_136 hf
  replace hf := ite_f h1_13 hf
  by_cases h1_14 : p1 = 112
  · replace hf := ite_t h1_14 hf
    refine g_tabIn (pc := 1) (v := 112) (off := 133) (tgt := 134) C dX8_plainOf_1 h1_14 (by decide) rfl ?_
    refine g_bipush (pc := 134) C dX8_plainOf_134 cb_m9 ?_
    exact g_iretp (pc := 136) C hQ dX8_plainOf_136 hf
  replace hf := ite_f h1_14 hf
  by_cases h1_15 : p1 = 113
  · replace hf := ite_t h1_15 hf
    refine g_tabIn (pc := 1) (v := 113) (off := 133) (tgt := 134) C dX8_plainOf_1 h1_15 (by decide) rfl ?_
    refine g_bipush (pc := 134) C dX8_plainOf_134 cb_m9 ?_
    exact g_iretp (pc := 136) C hQ dX8_plainOf_136 hf
  replace hf := ite_f h1_15 hf
  by_cases h1_16 : p1 = 114
  · replace hf := ite_t h1_16 hf
    refine g_tabIn (pc := 1) (v := 114) (off := 133) (tgt := 134) C dX8_plainOf_1 h1_16 (by decide) rfl ?_
    refine g_bipush (pc := 134) C dX8_plainOf_134 cb_m9 ?_
    exact g_iretp (pc := 136) C hQ dX8_plainOf_136 hf
  replace hf := ite_f h1_16 hf
  by_cases h1_17 : p1 = 115
  · replace hf := ite_t h1_17 hf
    refine g_tabIn (pc := 1) (v := 115) (off := 121) (tgt := 122) C dX8_plainOf_1 h1_17 (by decide) rfl ?_
    refine g_iconst (pc := 122) C dX8_plainOf_122 ci_3 ?_
    exact g_iretp (pc := 123) C hQ dX8_plainOf_123 hf
  replace hf := ite_f h1_17 hf
  by_cases h1_18 : p1 = 116
  · replace hf := ite_t h1_18 hf
    refine g_tabIn (pc := 1) (v := 116) (off := 133) (tgt := 134) C dX8_plainOf_1 h1_18 (by decide) rfl ?_
    refine g_bipush (pc := 134) C dX8_plainOf_134 cb_m9 ?_
    exact g_iretp (pc := 136) C hQ dX8_plainOf_136 hf
  replace hf := ite_f h1_18 hf
  by_cases h1_19 : p1 = 117
  · replace hf := ite_t h1_19 hf
    refine g_tabIn (pc := 1) (v := 117) (off := 133) (tgt := 134) C dX8_plainOf_1 h1_19 (by decide) rfl ?_
    refine g_bipush (pc := 134) C dX8_plainOf_134 cb_m9 ?_
    exact g_iretp (pc := 136) C hQ dX8_plainOf_136 hf
  replace hf := ite_f h1_19 hf
  by_cases h1_20 : p1 = 118
  · replace hf := ite_t h1_20 hf
    refine g_tabIn (pc := 1) (v := 118) (off := 133) (tgt := 134) C dX8_plainOf_1 h1_20 (by decide) rfl ?_
    refine g_bipush (pc := 134) C dX8_plainOf_134 cb_m9 ?_
    exact g_iretp (pc := 136) C hQ dX8_plainOf_136 hf
  replace hf := ite_f h1_20 hf
  by_cases h1_21 : p1 = 119
  · replace hf := ite_t h1_21 hf
    refine g_tabIn (pc := 1) (v := 119) (off := 133) (tgt := 134) C dX8_plainOf_1 h1_21 (by decide) rfl ?_
    refine g_bipush (pc := 134) C dX8_plainOf_134 cb_m9 ?_
    exact g_iretp (pc := 136) C hQ dX8_plainOf_136 hf
  replace hf := ite_f h1_21 hf
  by_cases h1_22 : p1 = 120
  · replace hf := ite_t h1_22 hf
    refine g_tabIn (pc := 1) (v := 120) (off := 133) (tgt := 134) C dX8_plainOf_1 h1_22 (by decide) rfl ?_
    refine g_bipush (pc := 134) C dX8_plainOf_134 cb_m9 ?_
    exact g_iretp (pc := 136) C hQ dX8_plainOf_136 hf
  replace hf := ite_f h1_22 hf
  by_cases h1_23 : p1 = 121
  · replace hf := ite_t h1_23 hf
    refine g_tabIn (pc := 1) (v := 121) (off := 133) (tgt := 134) C dX8_plainOf_1 h1_23 (by decide) rfl ?_
    refine g_bipush (pc := 134) C dX8_plainOf_134 cb_m9 ?_
    exact g_iretp (pc := 136) C hQ dX8_plainOf_136 hf
  replace hf := ite_f h1_23 hf
  by_cases h1_24 : p1 = 122
  · replace hf := ite_t h1_24 hf
    refine g_tabIn (pc := 1) (v := 122) (off := 115) (tgt := 116) C dX8_plainOf_1 h1_24 (by decide) rfl ?_
    refine g_iconst (pc := 116) C dX8_plainOf_116 ci_0 ?_
    exact g_iretp (pc := 117) C hQ dX8_plainOf_117 hf
  replace hf := ite_f h1_24 hf
  have e1_0 := i32_ne (n := 98) h1_0 (by decide)
  have e1_1 := i32_ne (n := 99) h1_1 (by decide)
  have e1_2 := i32_ne (n := 100) h1_2 (by decide)
  have e1_3 := i32_ne (n := 101) h1_3 (by decide)
  have e1_4 := i32_ne (n := 102) h1_4 (by decide)
  have e1_5 := i32_ne (n := 103) h1_5 (by decide)
  have e1_6 := i32_ne (n := 104) h1_6 (by decide)
  have e1_7 := i32_ne (n := 105) h1_7 (by decide)
  have e1_8 := i32_ne (n := 106) h1_8 (by decide)
  have e1_9 := i32_ne (n := 107) h1_9 (by decide)
  have e1_10 := i32_ne (n := 108) h1_10 (by decide)
  have e1_11 := i32_ne (n := 109) h1_11 (by decide)
  have e1_12 := i32_ne (n := 110) h1_12 (by decide)
  have e1_13 := i32_ne (n := 111) h1_13 (by decide)
  have e1_14 := i32_ne (n := 112) h1_14 (by decide)
  have e1_15 := i32_ne (n := 113) h1_15 (by decide)
  have e1_16 := i32_ne (n := 114) h1_16 (by decide)
  have e1_17 := i32_ne (n := 115) h1_17 (by decide)
  have e1_18 := i32_ne (n := 116) h1_18 (by decide)
  have e1_19 := i32_ne (n := 117) h1_19 (by decide)
  have e1_20 := i32_ne (n := 118) h1_20 (by decide)
  have e1_21 := i32_ne (n := 119) h1_21 (by decide)
  have e1_22 := i32_ne (n := 120) h1_22 (by decide)
  have e1_23 := i32_ne (n := 121) h1_23 (by decide)
  have e1_24 := i32_ne (n := 122) h1_24 (by decide)
  refine g_tabOut (pc := 1) (tgt := 134) C dX8_plainOf_1 (by omega) rfl ?_
  refine g_bipush (pc := 134) C dX8_plainOf_134 cb_m9 ?_
  exact g_iretp (pc := 136) C hQ dX8_plainOf_136 hf
theorem dX8_isNumber_0 : decode cX8_isNumber 0 = .ok (.iload_n 0, 1) := by decide +kernel
theorem dX8_isNumber_1 : decode cX8_isNumber 1 = .ok (.bipush 10, 2) := by decide +kernel
theorem dX8_isNumber_3 : decode cX8_isNumber 3 = .ok (.if_icmp .ne 14, 3) := by decide +kernel
theorem dX8_isNumber_6 : decode cX8_isNumber 6 = .ok (.lload_n 1, 1) := by decide +kernel
theorem dX8_isNumber_7 : decode cX8_isNumber 7 = .ok (.lconst 0, 1) := by decide +kernel
theorem dX8_isNumber_8 : decode cX8_isNumber 8 = .ok (.ldc2_w 190, 3) := by decide +kernel
theorem dX8_isNumber_11 : decode cX8_isNumber 11 = .ok (.invokestatic 98, 3) := by decide +kernel
theorem dX8_isNumber_14 : decode cX8_isNumber 14 = .ok (.goto 8, 3) := by decide +kernel
theorem dX8_isNumber_17 : decode cX8_isNumber 17 = .ok (.iload_n 0, 1) := by decide +kernel
theorem dX8_isNumber_18 : decode cX8_isNumber 18 = .ok (.lload_n 1, 1) := by decide +kernel
theorem dX8_isNumber_19 : decode cX8_isNumber 19 = .ok (.invokestatic 158, 3) := by decide +kernel
theorem dX8_isNumber_22 : decode cX8_isNumber 22 = .ok (.ireturn, 1) := by decide +kernel
def fX8_isNumber (p1 : Int32) (p2 : Int64) : Option Int32 := (if p1 = (10 : Int32) then ((fX8_in p2 (0 : Int64) (9999 : Int64)).bind fun r11 => (if rbz r11 = true then some r11 else none)) else ((fX8_fits p1 p2).bind fun r19 => (if rbz r19 = true then some r19 else none)))
set_option maxRecDepth 100000 in
set_option maxHeartbeats 4000000 in
theorem kX8_isNumber (l : Launch) (p1 : Int32) (p2 : Int64) (out : Int32) (hf : fX8_isNumber p1 p2 = some out) : Sq l yX8_isNumber cX8_isNumber 3 (some .boolean) 2 [.int p1, .long p2] (some (.int out)) := by
  refine Sq.of [(0, .int p1), (1, .long p2)] rfl (by decide +kernel) (Nat.le_of_ble_eq_true rfl) ?_
  intro κ hκ C hQ
  subst hκ
  replace C : Cf κ cX8_isNumber 3 RX8 (some .boolean) 2 := C
  refine g_iload_n (pc := 0) (i := 0) (j := 0) C dX8_isNumber_0 rfl rfl ?_
  refine g_bipush (pc := 1) C dX8_isNumber_1 cb_10 ?_
  refine g_icmp_ne (pc := 3) (tgt := 17) C dX8_isNumber_3 rfl hf (fun _ hf => ?_) (fun _ hf => ?_)
  · refine g_iload_n (pc := 17) (i := 0) (j := 0) C dX8_isNumber_17 rfl rfl ?_
    refine g_lload_n (pc := 18) (i := 1) (j := 1) C dX8_isNumber_18 rfl rfl ?_
    refine g_cpi (pc := 19) (st := []) C lkX8_158 (As := [.int p1, .long p2]) rfl (fun out h => kX8_fits (kl κ) p1 p2 out h) (by decide) rfl (Nat.le_of_ble_eq_true rfl) dX8_isNumber_19 hf (fun r19 _ hf => ?_)
    exact g_zretp (pc := 22) C hQ dX8_isNumber_22 hf
  · refine g_lload_n (pc := 6) (i := 1) (j := 1) C dX8_isNumber_6 rfl rfl ?_
    refine g_lconst (pc := 7) C dX8_isNumber_7 cl_0 ?_
    refine g_ldc2 (pc := 8) C cnX8_190 dX8_isNumber_8 ?_
    refine g_cpi (pc := 11) (st := []) C lkX8_98 (As := [.long p2, .long (0 : Int64), .long (9999 : Int64)]) rfl (fun out h => kX8_in (kl κ) p2 (0 : Int64) (9999 : Int64) out h) (by decide) rfl (Nat.le_of_ble_eq_true rfl) dX8_isNumber_11 hf (fun r11 _ hf => ?_)
    refine g_goto (pc := 14) (tgt := 22) C dX8_isNumber_14 rfl ?_
    exact g_zretp (pc := 22) C hQ dX8_isNumber_22 hf
theorem dX8_toldOf_0 : decode cX8_toldOf 0 = .ok (.iload_n 0, 1) := by decide +kernel
theorem dX8_toldOf_1 : decode cX8_toldOf 1 = .ok (.bipush 6, 2) := by decide +kernel
theorem dX8_toldOf_3 : decode cX8_toldOf 3 = .ok (.if_icmp .lt 12, 3) := by decide +kernel
theorem dX8_toldOf_6 : decode cX8_toldOf 6 = .ok (.iload_n 0, 1) := by decide +kernel
theorem dX8_toldOf_7 : decode cX8_toldOf 7 = .ok (.lload_n 1, 1) := by decide +kernel
theorem dX8_toldOf_8 : decode cX8_toldOf 8 = .ok (.iconst 0, 1) := by decide +kernel
theorem dX8_toldOf_9 : decode cX8_toldOf 9 = .ok (.invokestatic 136, 3) := by decide +kernel
theorem dX8_toldOf_12 : decode cX8_toldOf 12 = .ok (.goto 4, 3) := by decide +kernel
theorem dX8_toldOf_15 : decode cX8_toldOf 15 = .ok (.lload_n 1, 1) := by decide +kernel
theorem dX8_toldOf_16 : decode cX8_toldOf 16 = .ok (.lreturn, 1) := by decide +kernel
def fX8_toldOf (p1 : Int32) (p2 : Int64) : Option Int64 := (if p1 < (6 : Int32) then some p2 else ((fX8_rounded p1 p2 (0 : Int32)).bind fun r9 => some r9))
set_option maxRecDepth 100000 in
set_option maxHeartbeats 4000000 in
theorem kX8_toldOf (l : Launch) (p1 : Int32) (p2 : Int64) (out : Int64) (hf : fX8_toldOf p1 p2 = some out) : Sq l yX8_toldOf cX8_toldOf 3 (some .long) 2 [.int p1, .long p2] (some (.long out)) := by
  refine Sq.of [(0, .int p1), (1, .long p2)] rfl (by decide +kernel) (Nat.le_of_ble_eq_true rfl) ?_
  intro κ hκ C hQ
  subst hκ
  replace C : Cf κ cX8_toldOf 3 RX8 (some .long) 2 := C
  refine g_iload_n (pc := 0) (i := 0) (j := 0) C dX8_toldOf_0 rfl rfl ?_
  refine g_bipush (pc := 1) C dX8_toldOf_1 cb_6 ?_
  refine g_icmp_lt (pc := 3) (tgt := 15) C dX8_toldOf_3 rfl hf (fun _ hf => ?_) (fun _ hf => ?_)
  · refine g_lload_n (pc := 15) (i := 1) (j := 1) C dX8_toldOf_15 rfl rfl ?_
    exact g_lretp (pc := 16) C hQ dX8_toldOf_16 hf
  · refine g_iload_n (pc := 6) (i := 0) (j := 0) C dX8_toldOf_6 rfl rfl ?_
    refine g_lload_n (pc := 7) (i := 1) (j := 1) C dX8_toldOf_7 rfl rfl ?_
    refine g_iconst (pc := 8) C dX8_toldOf_8 ci_0 ?_
    refine g_cpl (pc := 9) (st := []) C lkX8_136 (As := [.int p1, .long p2, .int (0 : Int32)]) rfl (fun out h => kX8_rounded (kl κ) p1 p2 (0 : Int32) out h) (by decide) rfl (Nat.le_of_ble_eq_true rfl) dX8_toldOf_9 hf (fun r9 _ hf => ?_)
    refine g_goto (pc := 12) (tgt := 16) C dX8_toldOf_12 rfl ?_
    exact g_lretp (pc := 16) C hQ dX8_toldOf_16 hf
theorem dX8_rowKindOf_0 : decode cX8_rowKindOf 0 = .ok (.iload_n 0, 1) := by decide +kernel
theorem dX8_rowKindOf_1 : decode cX8_rowKindOf 1 = .ok (.bipush 116, 2) := by decide +kernel
theorem dX8_rowKindOf_3 : decode cX8_rowKindOf 3 = .ok (.if_icmp .ne 8, 3) := by decide +kernel
theorem dX8_rowKindOf_6 : decode cX8_rowKindOf 6 = .ok (.bipush 10, 2) := by decide +kernel
theorem dX8_rowKindOf_8 : decode cX8_rowKindOf 8 = .ok (.goto 29, 3) := by decide +kernel
theorem dX8_rowKindOf_11 : decode cX8_rowKindOf 11 = .ok (.iload_n 0, 1) := by decide +kernel
theorem dX8_rowKindOf_12 : decode cX8_rowKindOf 12 = .ok (.bipush 119, 2) := by decide +kernel
theorem dX8_rowKindOf_14 : decode cX8_rowKindOf 14 = .ok (.if_icmp .ne 8, 3) := by decide +kernel
theorem dX8_rowKindOf_17 : decode cX8_rowKindOf 17 = .ok (.bipush 11, 2) := by decide +kernel
theorem dX8_rowKindOf_19 : decode cX8_rowKindOf 19 = .ok (.goto 18, 3) := by decide +kernel
theorem dX8_rowKindOf_22 : decode cX8_rowKindOf 22 = .ok (.iload_n 0, 1) := by decide +kernel
theorem dX8_rowKindOf_23 : decode cX8_rowKindOf 23 = .ok (.bipush 111, 2) := by decide +kernel
theorem dX8_rowKindOf_25 : decode cX8_rowKindOf 25 = .ok (.if_icmp .ne 8, 3) := by decide +kernel
theorem dX8_rowKindOf_28 : decode cX8_rowKindOf 28 = .ok (.bipush 12, 2) := by decide +kernel
theorem dX8_rowKindOf_30 : decode cX8_rowKindOf 30 = .ok (.goto 7, 3) := by decide +kernel
theorem dX8_rowKindOf_33 : decode cX8_rowKindOf 33 = .ok (.iload_n 0, 1) := by decide +kernel
theorem dX8_rowKindOf_34 : decode cX8_rowKindOf 34 = .ok (.invokestatic 165, 3) := by decide +kernel
theorem dX8_rowKindOf_37 : decode cX8_rowKindOf 37 = .ok (.ireturn, 1) := by decide +kernel
def fX8_rowKindOf (p1 : Int32) : Option Int32 := (if p1 = (116 : Int32) then some (10 : Int32) else (if p1 = (119 : Int32) then some (11 : Int32) else (if p1 = (111 : Int32) then some (12 : Int32) else ((fX8_plainOf p1).bind fun r34 => some r34))))
set_option maxRecDepth 100000 in
set_option maxHeartbeats 4000000 in
theorem kX8_rowKindOf (l : Launch) (p1 : Int32) (out : Int32) (hf : fX8_rowKindOf p1 = some out) : Sq l yX8_rowKindOf cX8_rowKindOf 1 (some .int) 1 [.int p1] (some (.int out)) := by
  refine Sq.of [(0, .int p1)] rfl (by decide +kernel) (Nat.le_of_ble_eq_true rfl) ?_
  intro κ hκ C hQ
  subst hκ
  replace C : Cf κ cX8_rowKindOf 1 RX8 (some .int) 1 := C
  refine g_iload_n (pc := 0) (i := 0) (j := 0) C dX8_rowKindOf_0 rfl rfl ?_
  refine g_bipush (pc := 1) C dX8_rowKindOf_1 cb_116 ?_
  refine g_icmp_ne (pc := 3) (tgt := 11) C dX8_rowKindOf_3 rfl hf (fun _ hf => ?_) (fun _ hf => ?_)
  · refine g_iload_n (pc := 11) (i := 0) (j := 0) C dX8_rowKindOf_11 rfl rfl ?_
    refine g_bipush (pc := 12) C dX8_rowKindOf_12 cb_119 ?_
    refine g_icmp_ne (pc := 14) (tgt := 22) C dX8_rowKindOf_14 rfl hf (fun _ hf => ?_) (fun _ hf => ?_)
    · refine g_iload_n (pc := 22) (i := 0) (j := 0) C dX8_rowKindOf_22 rfl rfl ?_
      refine g_bipush (pc := 23) C dX8_rowKindOf_23 cb_111 ?_
      refine g_icmp_ne (pc := 25) (tgt := 33) C dX8_rowKindOf_25 rfl hf (fun _ hf => ?_) (fun _ hf => ?_)
      · refine g_iload_n (pc := 33) (i := 0) (j := 0) C dX8_rowKindOf_33 rfl rfl ?_
        refine g_cpi (pc := 34) (st := []) C lkX8_165 (As := [.int p1]) rfl (fun out h => kX8_plainOf (kl κ) p1 out h) (by decide) rfl (Nat.le_of_ble_eq_true rfl) dX8_rowKindOf_34 hf (fun r34 _ hf => ?_)
        exact g_iretp (pc := 37) C hQ dX8_rowKindOf_37 hf
      · refine g_bipush (pc := 28) C dX8_rowKindOf_28 cb_12 ?_
        refine g_goto (pc := 30) (tgt := 37) C dX8_rowKindOf_30 rfl ?_
        exact g_iretp (pc := 37) C hQ dX8_rowKindOf_37 hf
    · refine g_bipush (pc := 17) C dX8_rowKindOf_17 cb_11 ?_
      refine g_goto (pc := 19) (tgt := 37) C dX8_rowKindOf_19 rfl ?_
      exact g_iretp (pc := 37) C hQ dX8_rowKindOf_37 hf
  · refine g_bipush (pc := 6) C dX8_rowKindOf_6 cb_10 ?_
    refine g_goto (pc := 8) (tgt := 37) C dX8_rowKindOf_8 rfl ?_
    exact g_iretp (pc := 37) C hQ dX8_rowKindOf_37 hf
theorem dX8_given_0 : decode cX8_given 0 = .ok (.iload_n 0, 1) := by decide +kernel
theorem dX8_given_1 : decode cX8_given 1 = .ok (.tableswitch 123 0 5 #[39, 43, 67, 73, 97, 121], 39) := by decide +kernel
theorem dX8_given_40 : decode cX8_given 40 = .ok (.lload_n 1, 1) := by decide +kernel
theorem dX8_given_41 : decode cX8_given 41 = .ok (.lconst 1, 1) := by decide +kernel
theorem dX8_given_42 : decode cX8_given 42 = .ok (.land, 1) := by decide +kernel
theorem dX8_given_43 : decode cX8_given 43 = .ok (.lreturn, 1) := by decide +kernel
theorem dX8_given_44 : decode cX8_given 44 = .ok (.lload_n 1, 1) := by decide +kernel
theorem dX8_given_45 : decode cX8_given 45 = .ok (.ldc2_w 140, 3) := by decide +kernel
theorem dX8_given_48 : decode cX8_given 48 = .ok (.land, 1) := by decide +kernel
theorem dX8_given_49 : decode cX8_given 49 = .ok (.lload_n 1, 1) := by decide +kernel
theorem dX8_given_50 : decode cX8_given 50 = .ok (.ldc2_w 142, 3) := by decide +kernel
theorem dX8_given_53 : decode cX8_given 53 = .ok (.land, 1) := by decide +kernel
theorem dX8_given_54 : decode cX8_given 54 = .ok (.lconst 0, 1) := by decide +kernel
theorem dX8_given_55 : decode cX8_given 55 = .ok (.lcmp, 1) := by decide +kernel
theorem dX8_given_56 : decode cX8_given 56 = .ok (.ifCond .ne 7, 3) := by decide +kernel
theorem dX8_given_59 : decode cX8_given 59 = .ok (.lconst 0, 1) := by decide +kernel
theorem dX8_given_60 : decode cX8_given 60 = .ok (.goto 6, 3) := by decide +kernel
theorem dX8_given_63 : decode cX8_given 63 = .ok (.ldc2_w 144, 3) := by decide +kernel
theorem dX8_given_66 : decode cX8_given 66 = .ok (.lsub, 1) := by decide +kernel
theorem dX8_given_67 : decode cX8_given 67 = .ok (.lreturn, 1) := by decide +kernel
theorem dX8_given_68 : decode cX8_given 68 = .ok (.lload_n 1, 1) := by decide +kernel
theorem dX8_given_69 : decode cX8_given 69 = .ok (.ldc2_w 122, 3) := by decide +kernel
theorem dX8_given_72 : decode cX8_given 72 = .ok (.land, 1) := by decide +kernel
theorem dX8_given_73 : decode cX8_given 73 = .ok (.lreturn, 1) := by decide +kernel
theorem dX8_given_74 : decode cX8_given 74 = .ok (.lload_n 1, 1) := by decide +kernel
theorem dX8_given_75 : decode cX8_given 75 = .ok (.ldc2_w 122, 3) := by decide +kernel
theorem dX8_given_78 : decode cX8_given 78 = .ok (.land, 1) := by decide +kernel
theorem dX8_given_79 : decode cX8_given 79 = .ok (.lload_n 1, 1) := by decide +kernel
theorem dX8_given_80 : decode cX8_given 80 = .ok (.ldc2_w 146, 3) := by decide +kernel
theorem dX8_given_83 : decode cX8_given 83 = .ok (.land, 1) := by decide +kernel
theorem dX8_given_84 : decode cX8_given 84 = .ok (.lconst 0, 1) := by decide +kernel
theorem dX8_given_85 : decode cX8_given 85 = .ok (.lcmp, 1) := by decide +kernel
theorem dX8_given_86 : decode cX8_given 86 = .ok (.ifCond .ne 7, 3) := by decide +kernel
theorem dX8_given_89 : decode cX8_given 89 = .ok (.lconst 0, 1) := by decide +kernel
theorem dX8_given_90 : decode cX8_given 90 = .ok (.goto 6, 3) := by decide +kernel
theorem dX8_given_93 : decode cX8_given 93 = .ok (.ldc2_w 148, 3) := by decide +kernel
theorem dX8_given_96 : decode cX8_given 96 = .ok (.lsub, 1) := by decide +kernel
theorem dX8_given_97 : decode cX8_given 97 = .ok (.lreturn, 1) := by decide +kernel
theorem dX8_given_98 : decode cX8_given 98 = .ok (.lload_n 1, 1) := by decide +kernel
theorem dX8_given_99 : decode cX8_given 99 = .ok (.ldc2_w 150, 3) := by decide +kernel
theorem dX8_given_102 : decode cX8_given 102 = .ok (.land, 1) := by decide +kernel
theorem dX8_given_103 : decode cX8_given 103 = .ok (.lload_n 1, 1) := by decide +kernel
theorem dX8_given_104 : decode cX8_given 104 = .ok (.ldc2_w 152, 3) := by decide +kernel
theorem dX8_given_107 : decode cX8_given 107 = .ok (.land, 1) := by decide +kernel
theorem dX8_given_108 : decode cX8_given 108 = .ok (.lconst 0, 1) := by decide +kernel
theorem dX8_given_109 : decode cX8_given 109 = .ok (.lcmp, 1) := by decide +kernel
theorem dX8_given_110 : decode cX8_given 110 = .ok (.ifCond .ne 7, 3) := by decide +kernel
theorem dX8_given_113 : decode cX8_given 113 = .ok (.lconst 0, 1) := by decide +kernel
theorem dX8_given_114 : decode cX8_given 114 = .ok (.goto 6, 3) := by decide +kernel
theorem dX8_given_117 : decode cX8_given 117 = .ok (.ldc2_w 154, 3) := by decide +kernel
theorem dX8_given_120 : decode cX8_given 120 = .ok (.lsub, 1) := by decide +kernel
theorem dX8_given_121 : decode cX8_given 121 = .ok (.lreturn, 1) := by decide +kernel
theorem dX8_given_122 : decode cX8_given 122 = .ok (.lload_n 1, 1) := by decide +kernel
theorem dX8_given_123 : decode cX8_given 123 = .ok (.lreturn, 1) := by decide +kernel
theorem dX8_given_124 : decode cX8_given 124 = .ok (.iload_n 0, 1) := by decide +kernel
theorem dX8_given_125 : decode cX8_given 125 = .ok (.lload_n 1, 1) := by decide +kernel
theorem dX8_given_126 : decode cX8_given 126 = .ok (.bipush (-3), 2) := by decide +kernel
theorem dX8_given_128 : decode cX8_given 128 = .ok (.invokestatic 136, 3) := by decide +kernel
theorem dX8_given_131 : decode cX8_given 131 = .ok (.lreturn, 1) := by decide +kernel
def fX8_given (p1 : Int32) (p2 : Int64) : Option Int64 := (if p1 = 0 then some (p2 &&& (1 : Int64)) else (if p1 = 1 then (if (p2 &&& (128 : Int64)) = (0 : Int64) then some ((p2 &&& (255 : Int64)) - (0 : Int64)) else some ((p2 &&& (255 : Int64)) - (256 : Int64))) else (if p1 = 2 then some (p2 &&& (65535 : Int64)) else (if p1 = 3 then (if (p2 &&& (32768 : Int64)) = (0 : Int64) then some ((p2 &&& (65535 : Int64)) - (0 : Int64)) else some ((p2 &&& (65535 : Int64)) - (65536 : Int64))) else (if p1 = 4 then (if (p2 &&& (2147483648 : Int64)) = (0 : Int64) then some ((p2 &&& (4294967295 : Int64)) - (0 : Int64)) else some ((p2 &&& (4294967295 : Int64)) - (4294967296 : Int64))) else (if p1 = 5 then some p2 else ((fX8_rounded p1 p2 (-3 : Int32)).bind fun r128 => some r128)))))))
set_option maxRecDepth 100000 in
set_option maxHeartbeats 4000000 in
theorem kX8_given (l : Launch) (p1 : Int32) (p2 : Int64) (out : Int64) (hf : fX8_given p1 p2 = some out) : Sq l yX8_given cX8_given 3 (some .long) 2 [.int p1, .long p2] (some (.long out)) := by
  refine Sq.of [(0, .int p1), (1, .long p2)] rfl (by decide +kernel) (Nat.le_of_ble_eq_true rfl) ?_
  intro κ hκ C hQ
  subst hκ
  replace C : Cf κ cX8_given 3 RX8 (some .long) 2 := C
  refine g_iload_n (pc := 0) (i := 0) (j := 0) C dX8_given_0 rfl rfl ?_
  by_cases h1_0 : p1 = 0
  · replace hf := ite_t h1_0 hf
    refine g_tabIn (pc := 1) (v := 0) (off := 39) (tgt := 40) C dX8_given_1 h1_0 (by decide) rfl ?_
    refine g_lload_n (pc := 40) (i := 1) (j := 1) C dX8_given_40 rfl rfl ?_
    refine g_lconst (pc := 41) C dX8_given_41 cl_1 ?_
    refine g_land (pc := 42) C dX8_given_42 ?_
    exact g_lretp (pc := 43) C hQ dX8_given_43 hf
  replace hf := ite_f h1_0 hf
  by_cases h1_1 : p1 = 1
  · replace hf := ite_t h1_1 hf
    refine g_tabIn (pc := 1) (v := 1) (off := 43) (tgt := 44) C dX8_given_1 h1_1 (by decide) rfl ?_
    refine g_lload_n (pc := 44) (i := 1) (j := 1) C dX8_given_44 rfl rfl ?_
    refine g_ldc2 (pc := 45) C cnX8_140 dX8_given_45 ?_
    refine g_land (pc := 48) C dX8_given_48 ?_
    refine g_lload_n (pc := 49) (i := 1) (j := 1) C dX8_given_49 rfl rfl ?_
    refine g_ldc2 (pc := 50) C cnX8_142 dX8_given_50 ?_
    refine g_land (pc := 53) C dX8_given_53 ?_
    refine g_lconst (pc := 54) C dX8_given_54 cl_0 ?_
    refine g_lcmp_ne (pc := 55) (tgt := 63) C dX8_given_55 dX8_given_56 rfl hf (fun _ hf => ?_) (fun _ hf => ?_)
    · refine g_ldc2 (pc := 63) C cnX8_144 dX8_given_63 ?_
      refine g_lsub (pc := 66) C dX8_given_66 ?_
      exact g_lretp (pc := 67) C hQ dX8_given_67 hf
    · refine g_lconst (pc := 59) C dX8_given_59 cl_0 ?_
      refine g_goto (pc := 60) (tgt := 66) C dX8_given_60 rfl ?_
      refine g_lsub (pc := 66) C dX8_given_66 ?_
      exact g_lretp (pc := 67) C hQ dX8_given_67 hf
  replace hf := ite_f h1_1 hf
  by_cases h1_2 : p1 = 2
  · replace hf := ite_t h1_2 hf
    refine g_tabIn (pc := 1) (v := 2) (off := 67) (tgt := 68) C dX8_given_1 h1_2 (by decide) rfl ?_
    refine g_lload_n (pc := 68) (i := 1) (j := 1) C dX8_given_68 rfl rfl ?_
    refine g_ldc2 (pc := 69) C cnX8_122 dX8_given_69 ?_
    refine g_land (pc := 72) C dX8_given_72 ?_
    exact g_lretp (pc := 73) C hQ dX8_given_73 hf
  replace hf := ite_f h1_2 hf
  by_cases h1_3 : p1 = 3
  · replace hf := ite_t h1_3 hf
    refine g_tabIn (pc := 1) (v := 3) (off := 73) (tgt := 74) C dX8_given_1 h1_3 (by decide) rfl ?_
    refine g_lload_n (pc := 74) (i := 1) (j := 1) C dX8_given_74 rfl rfl ?_
    refine g_ldc2 (pc := 75) C cnX8_122 dX8_given_75 ?_
    refine g_land (pc := 78) C dX8_given_78 ?_
    refine g_lload_n (pc := 79) (i := 1) (j := 1) C dX8_given_79 rfl rfl ?_
    refine g_ldc2 (pc := 80) C cnX8_146 dX8_given_80 ?_
    refine g_land (pc := 83) C dX8_given_83 ?_
    refine g_lconst (pc := 84) C dX8_given_84 cl_0 ?_
    refine g_lcmp_ne (pc := 85) (tgt := 93) C dX8_given_85 dX8_given_86 rfl hf (fun _ hf => ?_) (fun _ hf => ?_)
    · refine g_ldc2 (pc := 93) C cnX8_148 dX8_given_93 ?_
      refine g_lsub (pc := 96) C dX8_given_96 ?_
      exact g_lretp (pc := 97) C hQ dX8_given_97 hf
    · refine g_lconst (pc := 89) C dX8_given_89 cl_0 ?_
      refine g_goto (pc := 90) (tgt := 96) C dX8_given_90 rfl ?_
      refine g_lsub (pc := 96) C dX8_given_96 ?_
      exact g_lretp (pc := 97) C hQ dX8_given_97 hf
  replace hf := ite_f h1_3 hf
  by_cases h1_4 : p1 = 4
  · replace hf := ite_t h1_4 hf
    refine g_tabIn (pc := 1) (v := 4) (off := 97) (tgt := 98) C dX8_given_1 h1_4 (by decide) rfl ?_
    refine g_lload_n (pc := 98) (i := 1) (j := 1) C dX8_given_98 rfl rfl ?_
    refine g_ldc2 (pc := 99) C cnX8_150 dX8_given_99 ?_
    refine g_land (pc := 102) C dX8_given_102 ?_
    refine g_lload_n (pc := 103) (i := 1) (j := 1) C dX8_given_103 rfl rfl ?_
    refine g_ldc2 (pc := 104) C cnX8_152 dX8_given_104 ?_
    refine g_land (pc := 107) C dX8_given_107 ?_
    refine g_lconst (pc := 108) C dX8_given_108 cl_0 ?_
    refine g_lcmp_ne (pc := 109) (tgt := 117) C dX8_given_109 dX8_given_110 rfl hf (fun _ hf => ?_) (fun _ hf => ?_)
    · refine g_ldc2 (pc := 117) C cnX8_154 dX8_given_117 ?_
      refine g_lsub (pc := 120) C dX8_given_120 ?_
      exact g_lretp (pc := 121) C hQ dX8_given_121 hf
    · refine g_lconst (pc := 113) C dX8_given_113 cl_0 ?_
      refine g_goto (pc := 114) (tgt := 120) C dX8_given_114 rfl ?_
      refine g_lsub (pc := 120) C dX8_given_120 ?_
      exact g_lretp (pc := 121) C hQ dX8_given_121 hf
  replace hf := ite_f h1_4 hf
  by_cases h1_5 : p1 = 5
  · replace hf := ite_t h1_5 hf
    refine g_tabIn (pc := 1) (v := 5) (off := 121) (tgt := 122) C dX8_given_1 h1_5 (by decide) rfl ?_
    refine g_lload_n (pc := 122) (i := 1) (j := 1) C dX8_given_122 rfl rfl ?_
    exact g_lretp (pc := 123) C hQ dX8_given_123 hf
  replace hf := ite_f h1_5 hf
  have e1_0 := i32_ne (n := 0) h1_0 (by decide)
  have e1_1 := i32_ne (n := 1) h1_1 (by decide)
  have e1_2 := i32_ne (n := 2) h1_2 (by decide)
  have e1_3 := i32_ne (n := 3) h1_3 (by decide)
  have e1_4 := i32_ne (n := 4) h1_4 (by decide)
  have e1_5 := i32_ne (n := 5) h1_5 (by decide)
  refine g_tabOut (pc := 1) (tgt := 124) C dX8_given_1 (by omega) rfl ?_
  refine g_iload_n (pc := 124) (i := 0) (j := 0) C dX8_given_124 rfl rfl ?_
  refine g_lload_n (pc := 125) (i := 1) (j := 1) C dX8_given_125 rfl rfl ?_
  refine g_bipush (pc := 126) C dX8_given_126 cb_m3 ?_
  refine g_cpl (pc := 128) (st := []) C lkX8_136 (As := [.int p1, .long p2, .int (-3 : Int32)]) rfl (fun out h => kX8_rounded (kl κ) p1 p2 (-3 : Int32) out h) (by decide) rfl (Nat.le_of_ble_eq_true rfl) dX8_given_128 hf (fun r128 _ hf => ?_)
  exact g_lretp (pc := 131) C hQ dX8_given_131 hf
theorem dX8_has_0 : decode cX8_has 0 = .ok (.iload_n 0, 1) := by decide +kernel
theorem dX8_has_1 : decode cX8_has 1 = .ok (.iload_n 1, 1) := by decide +kernel
theorem dX8_has_2 : decode cX8_has 2 = .ok (.ishr, 1) := by decide +kernel
theorem dX8_has_3 : decode cX8_has 3 = .ok (.iconst 1, 1) := by decide +kernel
theorem dX8_has_4 : decode cX8_has 4 = .ok (.iand, 1) := by decide +kernel
theorem dX8_has_5 : decode cX8_has 5 = .ok (.iconst 1, 1) := by decide +kernel
theorem dX8_has_6 : decode cX8_has 6 = .ok (.if_icmp .ne 7, 3) := by decide +kernel
theorem dX8_has_9 : decode cX8_has 9 = .ok (.iconst 1, 1) := by decide +kernel
theorem dX8_has_10 : decode cX8_has 10 = .ok (.goto 4, 3) := by decide +kernel
theorem dX8_has_13 : decode cX8_has 13 = .ok (.iconst 0, 1) := by decide +kernel
theorem dX8_has_14 : decode cX8_has 14 = .ok (.ireturn, 1) := by decide +kernel
def fX8_has (p1 : Int32) (p2 : Int32) : Option Int32 := (if ((jshr p1 p2) &&& (1 : Int32)) = (1 : Int32) then some (1 : Int32) else some (0 : Int32))
set_option maxRecDepth 100000 in
set_option maxHeartbeats 4000000 in
theorem kX8_has (l : Launch) (p1 : Int32) (p2 : Int32) (out : Int32) (hf : fX8_has p1 p2 = some out) : Sq l yX8_has cX8_has 2 (some .boolean) 0 [.int p1, .int p2] (some (.int out)) := by
  refine Sq.of [(0, .int p1), (1, .int p2)] rfl (by decide +kernel) (Nat.le_of_ble_eq_true rfl) ?_
  intro κ hκ C hQ
  subst hκ
  replace C : Cf κ cX8_has 2 RX8 (some .boolean) 0 := C
  refine g_iload_n (pc := 0) (i := 0) (j := 0) C dX8_has_0 rfl rfl ?_
  refine g_iload_n (pc := 1) (i := 1) (j := 1) C dX8_has_1 rfl rfl ?_
  refine g_ishr (pc := 2) C dX8_has_2 ?_
  refine g_iconst (pc := 3) C dX8_has_3 ci_1 ?_
  refine g_iand (pc := 4) C dX8_has_4 ?_
  refine g_iconst (pc := 5) C dX8_has_5 ci_1 ?_
  refine g_icmp_ne (pc := 6) (tgt := 13) C dX8_has_6 rfl hf (fun _ hf => ?_) (fun _ hf => ?_)
  · refine g_iconst (pc := 13) C dX8_has_13 ci_0 ?_
    exact g_zret1p (pc := 14) C rfl hQ dX8_has_14 hf
  · refine g_iconst (pc := 9) C dX8_has_9 ci_1 ?_
    refine g_goto (pc := 10) (tgt := 14) C dX8_has_10 rfl ?_
    exact g_zret1p (pc := 14) C rfl hQ dX8_has_14 hf
theorem dX8_joinedKind_0 : decode cX8_joinedKind 0 = .ok (.iload_n 0, 1) := by decide +kernel
theorem dX8_joinedKind_1 : decode cX8_joinedKind 1 = .ok (.invokestatic 198, 3) := by decide +kernel
theorem dX8_joinedKind_4 : decode cX8_joinedKind 4 = .ok (.ifCond .eq 26, 3) := by decide +kernel
theorem dX8_joinedKind_7 : decode cX8_joinedKind 7 = .ok (.iload_n 1, 1) := by decide +kernel
theorem dX8_joinedKind_8 : decode cX8_joinedKind 8 = .ok (.invokestatic 198, 3) := by decide +kernel
theorem dX8_joinedKind_11 : decode cX8_joinedKind 11 = .ok (.ifCond .eq 19, 3) := by decide +kernel
theorem dX8_joinedKind_14 : decode cX8_joinedKind 14 = .ok (.iload_n 0, 1) := by decide +kernel
theorem dX8_joinedKind_15 : decode cX8_joinedKind 15 = .ok (.iload_n 1, 1) := by decide +kernel
theorem dX8_joinedKind_16 : decode cX8_joinedKind 16 = .ok (.invokestatic 386, 3) := by decide +kernel
theorem dX8_joinedKind_19 : decode cX8_joinedKind 19 = .ok (.bipush (-9), 2) := by decide +kernel
theorem dX8_joinedKind_21 : decode cX8_joinedKind 21 = .ok (.if_icmp .eq 9, 3) := by decide +kernel
theorem dX8_joinedKind_24 : decode cX8_joinedKind 24 = .ok (.iload_n 0, 1) := by decide +kernel
theorem dX8_joinedKind_25 : decode cX8_joinedKind 25 = .ok (.iload_n 1, 1) := by decide +kernel
theorem dX8_joinedKind_26 : decode cX8_joinedKind 26 = .ok (.invokestatic 386, 3) := by decide +kernel
theorem dX8_joinedKind_29 : decode cX8_joinedKind 29 = .ok (.ireturn, 1) := by decide +kernel
theorem dX8_joinedKind_30 : decode cX8_joinedKind 30 = .ok (.iload_n 0, 1) := by decide +kernel
theorem dX8_joinedKind_31 : decode cX8_joinedKind 31 = .ok (.iload_n 1, 1) := by decide +kernel
theorem dX8_joinedKind_32 : decode cX8_joinedKind 32 = .ok (.if_icmp .ne 5, 3) := by decide +kernel
theorem dX8_joinedKind_35 : decode cX8_joinedKind 35 = .ok (.iload_n 0, 1) := by decide +kernel
theorem dX8_joinedKind_36 : decode cX8_joinedKind 36 = .ok (.ireturn, 1) := by decide +kernel
theorem dX8_joinedKind_37 : decode cX8_joinedKind 37 = .ok (.iload_n 0, 1) := by decide +kernel
theorem dX8_joinedKind_38 : decode cX8_joinedKind 38 = .ok (.i2l, 1) := by decide +kernel
theorem dX8_joinedKind_39 : decode cX8_joinedKind 39 = .ok (.ldc2_w 372, 3) := by decide +kernel
theorem dX8_joinedKind_42 : decode cX8_joinedKind 42 = .ok (.ldc2_w 178, 3) := by decide +kernel
theorem dX8_joinedKind_45 : decode cX8_joinedKind 45 = .ok (.invokestatic 98, 3) := by decide +kernel
theorem dX8_joinedKind_48 : decode cX8_joinedKind 48 = .ok (.ifCond .eq 22, 3) := by decide +kernel
theorem dX8_joinedKind_51 : decode cX8_joinedKind 51 = .ok (.iload_n 1, 1) := by decide +kernel
theorem dX8_joinedKind_52 : decode cX8_joinedKind 52 = .ok (.i2l, 1) := by decide +kernel
theorem dX8_joinedKind_53 : decode cX8_joinedKind 53 = .ok (.ldc2_w 372, 3) := by decide +kernel
theorem dX8_joinedKind_56 : decode cX8_joinedKind 56 = .ok (.ldc2_w 178, 3) := by decide +kernel
theorem dX8_joinedKind_59 : decode cX8_joinedKind 59 = .ok (.invokestatic 98, 3) := by decide +kernel
theorem dX8_joinedKind_62 : decode cX8_joinedKind 62 = .ok (.ifCond .eq 8, 3) := by decide +kernel
theorem dX8_joinedKind_65 : decode cX8_joinedKind 65 = .ok (.bipush 8, 2) := by decide +kernel
theorem dX8_joinedKind_67 : decode cX8_joinedKind 67 = .ok (.goto 5, 3) := by decide +kernel
theorem dX8_joinedKind_70 : decode cX8_joinedKind 70 = .ok (.bipush 12, 2) := by decide +kernel
theorem dX8_joinedKind_72 : decode cX8_joinedKind 72 = .ok (.ireturn, 1) := by decide +kernel
def fX8_joinedKind_b30 (v0 : Int32) (v1 : Int32) : Option Int32 := (if v0 = v1 then some v0 else ((fX8_in (Int32.toInt64 v0) (8 : Int64) (9 : Int64)).bind fun r45 => (if r45 = 0 then some (12 : Int32) else ((fX8_in (Int32.toInt64 v1) (8 : Int64) (9 : Int64)).bind fun r59 => (if r59 = 0 then some (12 : Int32) else some (8 : Int32))))))
def fX8_joinedKind (p1 : Int32) (p2 : Int32) : Option Int32 := ((fX8_isPlain p1).bind fun r1 => (if r1 = 0 then fX8_joinedKind_b30 p1 p2 else ((fX8_isPlain p2).bind fun r8 => (if r8 = 0 then fX8_joinedKind_b30 p1 p2 else ((fX8_leastOf p1 p2).bind fun r16 => (if r16 = (-9 : Int32) then fX8_joinedKind_b30 p1 p2 else ((fX8_leastOf p1 p2).bind fun r26 => some r26)))))))
set_option maxRecDepth 100000 in
set_option maxHeartbeats 4000000 in
theorem kX8_joinedKind (l : Launch) (p1 : Int32) (p2 : Int32) (out : Int32) (hf : fX8_joinedKind p1 p2 = some out) : Sq l yX8_joinedKind cX8_joinedKind 2 (some .int) 2 [.int p1, .int p2] (some (.int out)) := by
  refine Sq.of [(0, .int p1), (1, .int p2)] rfl (by decide +kernel) (Nat.le_of_ble_eq_true rfl) ?_
  intro κ hκ C hQ
  subst hκ
  replace C : Cf κ cX8_joinedKind 2 RX8 (some .int) 2 := C
  have b30 : ∀ (v0 : Int32) (v1 : Int32) , fX8_joinedKind_b30 v0 v1 = some out → G κ (Vp κ) 2 30 [(0, .int v0), (1, .int v1)] [] := by
    intro v0 v1 hf
    refine g_iload_n (pc := 30) (i := 0) (j := 0) C dX8_joinedKind_30 rfl rfl ?_
    refine g_iload_n (pc := 31) (i := 1) (j := 1) C dX8_joinedKind_31 rfl rfl ?_
    refine g_icmp_ne (pc := 32) (tgt := 37) C dX8_joinedKind_32 rfl hf (fun _ hf => ?_) (fun _ hf => ?_)
    · refine g_iload_n (pc := 37) (i := 0) (j := 0) C dX8_joinedKind_37 rfl rfl ?_
      refine g_i2l (pc := 38) C dX8_joinedKind_38 ?_
      refine g_ldc2 (pc := 39) C cnX8_372 dX8_joinedKind_39 ?_
      refine g_ldc2 (pc := 42) C cnX8_178 dX8_joinedKind_42 ?_
      refine g_cpi (pc := 45) (st := []) C lkX8_98 (As := [.long (Int32.toInt64 v0), .long (8 : Int64), .long (9 : Int64)]) rfl (fun out h => kX8_in (kl κ) (Int32.toInt64 v0) (8 : Int64) (9 : Int64) out h) (by decide) rfl (Nat.le_of_ble_eq_true rfl) dX8_joinedKind_45 hf (fun r45 _ hf => ?_)
      refine g_if_eq (pc := 48) (tgt := 70) C dX8_joinedKind_48 rfl hf (fun _ hf => ?_) (fun _ hf => ?_)
      · refine g_bipush (pc := 70) C dX8_joinedKind_70 cb_12 ?_
        exact g_iretp (pc := 72) C hQ dX8_joinedKind_72 hf
      · refine g_iload_n (pc := 51) (i := 1) (j := 1) C dX8_joinedKind_51 rfl rfl ?_
        refine g_i2l (pc := 52) C dX8_joinedKind_52 ?_
        refine g_ldc2 (pc := 53) C cnX8_372 dX8_joinedKind_53 ?_
        refine g_ldc2 (pc := 56) C cnX8_178 dX8_joinedKind_56 ?_
        refine g_cpi (pc := 59) (st := []) C lkX8_98 (As := [.long (Int32.toInt64 v1), .long (8 : Int64), .long (9 : Int64)]) rfl (fun out h => kX8_in (kl κ) (Int32.toInt64 v1) (8 : Int64) (9 : Int64) out h) (by decide) rfl (Nat.le_of_ble_eq_true rfl) dX8_joinedKind_59 hf (fun r59 _ hf => ?_)
        refine g_if_eq (pc := 62) (tgt := 70) C dX8_joinedKind_62 rfl hf (fun _ hf => ?_) (fun _ hf => ?_)
        · refine g_bipush (pc := 70) C dX8_joinedKind_70 cb_12 ?_
          exact g_iretp (pc := 72) C hQ dX8_joinedKind_72 hf
        · refine g_bipush (pc := 65) C dX8_joinedKind_65 cb_8 ?_
          refine g_goto (pc := 67) (tgt := 72) C dX8_joinedKind_67 rfl ?_
          exact g_iretp (pc := 72) C hQ dX8_joinedKind_72 hf
    · refine g_iload_n (pc := 35) (i := 0) (j := 0) C dX8_joinedKind_35 rfl rfl ?_
      exact g_iretp (pc := 36) C hQ dX8_joinedKind_36 hf
  refine g_iload_n (pc := 0) (i := 0) (j := 0) C dX8_joinedKind_0 rfl rfl ?_
  refine g_cpi (pc := 1) (st := []) C lkX8_198 (As := [.int p1]) rfl (fun out h => kX8_isPlain (kl κ) p1 out h) (by decide) rfl (Nat.le_of_ble_eq_true rfl) dX8_joinedKind_1 hf (fun r1 _ hf => ?_)
  refine g_if_eq (pc := 4) (tgt := 30) C dX8_joinedKind_4 rfl hf (fun _ hf => ?_) (fun _ hf => ?_)
  · exact b30 p1 p2 hf
  · refine g_iload_n (pc := 7) (i := 1) (j := 1) C dX8_joinedKind_7 rfl rfl ?_
    refine g_cpi (pc := 8) (st := []) C lkX8_198 (As := [.int p2]) rfl (fun out h => kX8_isPlain (kl κ) p2 out h) (by decide) rfl (Nat.le_of_ble_eq_true rfl) dX8_joinedKind_8 hf (fun r8 _ hf => ?_)
    refine g_if_eq (pc := 11) (tgt := 30) C dX8_joinedKind_11 rfl hf (fun _ hf => ?_) (fun _ hf => ?_)
    · exact b30 p1 p2 hf
    · refine g_iload_n (pc := 14) (i := 0) (j := 0) C dX8_joinedKind_14 rfl rfl ?_
      refine g_iload_n (pc := 15) (i := 1) (j := 1) C dX8_joinedKind_15 rfl rfl ?_
      refine g_cpi (pc := 16) (st := []) C lkX8_386 (As := [.int p1, .int p2]) rfl (fun out h => kX8_leastOf (kl κ) p1 p2 out h) (by decide) rfl (Nat.le_of_ble_eq_true rfl) dX8_joinedKind_16 hf (fun r16 _ hf => ?_)
      refine g_bipush (pc := 19) C dX8_joinedKind_19 cb_m9 ?_
      refine g_icmp_eq (pc := 21) (tgt := 30) C dX8_joinedKind_21 rfl hf (fun _ hf => ?_) (fun _ hf => ?_)
      · exact b30 p1 p2 hf
      · refine g_iload_n (pc := 24) (i := 0) (j := 0) C dX8_joinedKind_24 rfl rfl ?_
        refine g_iload_n (pc := 25) (i := 1) (j := 1) C dX8_joinedKind_25 rfl rfl ?_
        refine g_cpi (pc := 26) (st := []) C lkX8_386 (As := [.int p1, .int p2]) rfl (fun out h => kX8_leastOf (kl κ) p1 p2 out h) (by decide) rfl (Nat.le_of_ble_eq_true rfl) dX8_joinedKind_26 hf (fun r26 _ hf => ?_)
        exact g_iretp (pc := 29) C hQ dX8_joinedKind_29 hf
theorem dX8_withOut_0 : decode cX8_withOut 0 = .ok (.iload_n 1, 1) := by decide +kernel
theorem dX8_withOut_1 : decode cX8_withOut 1 = .ok (.ifCond .ne 7, 3) := by decide +kernel
theorem dX8_withOut_4 : decode cX8_withOut 4 = .ok (.iload_n 0, 1) := by decide +kernel
theorem dX8_withOut_5 : decode cX8_withOut 5 = .ok (.goto 13, 3) := by decide +kernel
theorem dX8_withOut_8 : decode cX8_withOut 8 = .ok (.iload_n 0, 1) := by decide +kernel
theorem dX8_withOut_9 : decode cX8_withOut 9 = .ok (.ifCond .ne 7, 3) := by decide +kernel
theorem dX8_withOut_12 : decode cX8_withOut 12 = .ok (.iconst 1, 1) := by decide +kernel
theorem dX8_withOut_13 : decode cX8_withOut 13 = .ok (.goto 5, 3) := by decide +kernel
theorem dX8_withOut_16 : decode cX8_withOut 16 = .ok (.bipush 6, 2) := by decide +kernel
theorem dX8_withOut_18 : decode cX8_withOut 18 = .ok (.ireturn, 1) := by decide +kernel
def fX8_withOut (p1 : Int32) (p2 : Int32) : Option Int32 := (if p2 = 0 then some p1 else (if p1 = 0 then some (1 : Int32) else some (6 : Int32)))
set_option maxRecDepth 100000 in
set_option maxHeartbeats 4000000 in
theorem kX8_withOut (l : Launch) (p1 : Int32) (p2 : Int32) (out : Int32) (hf : fX8_withOut p1 p2 = some out) : Sq l yX8_withOut cX8_withOut 2 (some .int) 0 [.int p1, .int p2] (some (.int out)) := by
  refine Sq.of [(0, .int p1), (1, .int p2)] rfl (by decide +kernel) (Nat.le_of_ble_eq_true rfl) ?_
  intro κ hκ C hQ
  subst hκ
  replace C : Cf κ cX8_withOut 2 RX8 (some .int) 0 := C
  refine g_iload_n (pc := 0) (i := 1) (j := 1) C dX8_withOut_0 rfl rfl ?_
  refine g_if_ne (pc := 1) (tgt := 8) C dX8_withOut_1 rfl hf (fun _ hf => ?_) (fun _ hf => ?_)
  · refine g_iload_n (pc := 8) (i := 0) (j := 0) C dX8_withOut_8 rfl rfl ?_
    refine g_if_ne (pc := 9) (tgt := 16) C dX8_withOut_9 rfl hf (fun _ hf => ?_) (fun _ hf => ?_)
    · refine g_bipush (pc := 16) C dX8_withOut_16 cb_6 ?_
      exact g_iretp (pc := 18) C hQ dX8_withOut_18 hf
    · refine g_iconst (pc := 12) C dX8_withOut_12 ci_1 ?_
      refine g_goto (pc := 13) (tgt := 18) C dX8_withOut_13 rfl ?_
      exact g_iretp (pc := 18) C hQ dX8_withOut_18 hf
  · refine g_iload_n (pc := 4) (i := 0) (j := 0) C dX8_withOut_4 rfl rfl ?_
    refine g_goto (pc := 5) (tgt := 18) C dX8_withOut_5 rfl ?_
    exact g_iretp (pc := 18) C hQ dX8_withOut_18 hf
end
section
/-! the text constant: rows over Sx -/
abbrev sK (ε : Ev) : Nat := ε.2.2.2.1 0
abbrev sV (ε : Ev) : Nat := ε.2.2.2.2 0
def sByte (j : Nat) : Int32 := (([[122, 98, 99, 115, 105, 106, 102, 100]] : List (List Int32)).getD 0 []).getD j 0
section R
variable {κ : Kx} {nL pc : Nat} {L : List (Nat × Value)} {st : List Value} {cc : ByteArray} {own : String} {ret : Option FieldType} {d : Nat} {ε : Ev} {lay : List Sh} {μ : Mm} {idx : Nat}
theorem g_ldcS (C : Cf κ cc nL "WidenDesk$Reader" ret d) (E : En ε lay (kS κ)) (hd : decode cc pc = .ok (.ldc 54, 2)) (kk : G κ (Vw κ ε lay μ) nL (pc + 2) L (.ref (sK ε) :: st)) : G κ (Vw κ ε lay μ) nL pc L st :=
  fun H locs ls hV hl => va_ldcS C.1.1 C.1.2.1 C.1.2.2.2.1 E.2.2.1 hd (kk H locs ls hV hl)
theorem g_scod (C : Cf κ cc nL own ret d) (E : En ε lay (kS κ)) (hw : Cond.fieldLink own idx "java/lang/String" "coder" "B" ∈ TT) (hd : decode cc pc = .ok (.getfield idx, 3)) (kk : G κ (Vw κ ε lay μ) nL (pc + 3) L (.int 0 :: st)) : G κ (Vw κ ε lay μ) nL pc L (.ref (sK ε) :: st) :=
  fun H locs ls hV hl => vk_getf (A := Aw lay ε) C.1.1 C.1.2.1 (E.2.2.2.1.1 0 (by decide)).2.1 hV.2 C.1.2.2.2.1 (C.1.2.2.2.2 _ hw) (fun _ h => h) hd (kk H locs ls hV hl)
theorem g_sval (C : Cf κ cc nL own ret d) (E : En ε lay (kS κ)) (hw : Cond.fieldLink own idx "java/lang/String" "value" "[B" ∈ TT) (hd : decode cc pc = .ok (.getfield idx, 3)) (kk : G κ (Vw κ ε lay μ) nL (pc + 3) L (.ref (sV ε) :: st)) : G κ (Vw κ ε lay μ) nL pc L (.ref (sK ε) :: st) :=
  fun H locs ls hV hl => vk_getf (A := Aw lay ε) C.1.1 C.1.2.1 (E.2.2.2.1.1 0 (by decide)).2.2.1 hV.2 C.1.2.2.2.1 (C.1.2.2.2.2 _ hw) (fun _ h => h) hd (kk H locs ls hV hl)
theorem g_gets (C : Cf κ cc nL own ret d) (E : En ε lay (kS κ)) (hw : Cond.fieldLink own idx "java/lang/String" "COMPACT_STRINGS" "Z" ∈ TT) (hd : decode cc pc = .ok (.getstatic idx, 3)) (kk : G κ (Vw κ ε lay μ) nL (pc + 3) L (.int 1 :: st)) : G κ (Vw κ ε lay μ) nL pc L st :=
  fun H locs ls hV hl => va_gets (A := Aw lay ε) C.1.1 C.1.2.1 E.2.2.2.2 hV.2 C.1.2.2.2.1 (C.1.2.2.2.2 _ hw) (fun _ h => h) hd (kk H locs ls hV hl)
theorem g_slen (C : Cf κ cc nL own ret d) (E : En ε lay (kS κ)) (hd : decode cc pc = .ok (.arraylength, 1)) (kk : G κ (Vw κ ε lay μ) nL (pc + 1) L (.int 8 :: st)) : G κ (Vw κ ε lay μ) nL pc L (.ref (sV ε) :: st) :=
  fun H locs ls hV hl => va_tlen (A := Aw lay ε) C.1.1 C.1.2.1 (E.2.2.2.1.1 0 (by decide)).2.2.2 hV.2 rfl hd (kk H locs ls hV hl)
theorem g_sald (C : Cf κ cc nL own ret d) (E : En ε lay (kS κ)) {i : Int32} {α : Type} {A : Option α} {out : α} (hd : decode cc pc = .ok (.baload, 1)) (hf : (if inb i 8 = true then A else none) = some out) (kk : A = some out → G κ (Vw κ ε lay μ) nL (pc + 1) L (.int (sByte i.toNatClampNeg) :: st)) : G κ (Vw κ ε lay μ) nL pc L (.int i :: .ref (sV ε) :: st) := by
  obtain ⟨hz, hf⟩ := ite_some hf
  exact fun H locs ls hV hl => va_tb (A := Aw lay ε) C.1.1 C.1.2.1 (E.2.2.2.1.1 0 (by decide)).2.2.2 hV.2 (inb_in hz) rfl hd (kk hf H locs ls hV hl)
def q_LkT (own : String) (idx : Nat) (y : MethodName) (bytes : ByteArray) (maxL : Nat) (ret : Option FieldType) (n : Nat) : Prop :=
  (Cond.code y bytes maxL ret ∈ TT ∧ Cond.methodLink own idx y ∈ TT ∧ Cond.initialized y.cls ∈ TT ∧ (y.cls ≠ "java/lang/invoke/MethodHandle" ∧ y.cls ≠ "java/lang/invoke/VarHandle") ∧ (parseMethodDescriptor y.desc).map (fun d => d.parameters.length) = some n ∧ maxL ≤ 100) ∧ Cond.instanceMethod y ∈ TT ∧ Cond.selects y.cls y y ∈ TT ∧ y.cls = "java/lang/String"
theorem g_cti (C : Cf κ cc nL own ret d) (E : En ε lay (kS κ)) {y : MethodName} {bytes : ByteArray} {maxL n d' : Nat} {r' : Option FieldType} (K : q_LkT own idx y bytes maxL r' n) {As st0 : List Value} (hn : As.length = n) {f : Option Int32} (hM : ∀ out, f = some out → Sp (kl κ) ε lay y bytes maxL r' d' (.ref (sK ε) :: As) (some (.int out)) μ μ) (hdd : d' + 1 ≤ d) (hst : As.reverse ++ .ref (sK ε) :: st = st0) (hW : (st.map fun v => v.category).sum ≤ 8) (hd : decode cc pc = .ok (.invokevirtual idx, 3)) {α : Type} {g : Int32 → Option α} {out : α} (hf : f.bind g = some out) (kk : ∀ r, f = some r → g r = some out → G κ (Vw κ ε lay μ) nL (pc + 3) L (.int r :: st)) : G κ (Vw κ ε lay μ) nL pc L st0 := by
  obtain ⟨r, h1, h2⟩ := bind_some hf
  obtain ⟨K1, k2, k3, k4⟩ := K
  intro H locs ls hV hl
  refine q_after (g := F0 (km κ) pc ls st0) hV.2 hl (va_runV (n := n) (C := y.cls) (As := As) (b := sK ε) (rest := st) C.1 (hM r h1) ⟨q_cb ⟨C.2.2.2.2.1, C.2.2.2.2.2.1⟩ hdd C.1.2.2.2.2 K1, C.1.2.2.2.2 _ k2, C.1.2.2.2.2 _ k3⟩ ⟨Pw_blind, by rw [k4]; exact vk_recv (A := Aw lay ε) E.2.2.2.1 (by decide) hV.2, fun U hU hWU => ⟨rfl, E.go hV.2 hU hWU, C.2.2.2.1.warm hWU, by rw [hU]; exact hV.1⟩⟩ rfl hn hl.1 hst.symm (lv_room hW) hd ⟨C.2.2.2.2.2.2.1, C.2.2.2.2.2.2.2⟩) (kk r h1 h2)
theorem rbz_narrowB {v : Int32} (h : rbz v = true) : narrow .byte (.int v) = .int v := by
  rcases rbz_of h with rfl | rfl <;> rfl
theorem g_bret1r (C : Cf κ cc nL own (some .byte) d) {v out : Int32} (hz : rbz v = true) (hQ : Rw κ ε lay (some (.int out)) μ) (hd : decode cc pc = .ok (.ireturn, 1)) (hf : some v = some out) : G κ (Vw κ ε lay μ) nL pc L [.int v] := by
  cases hf
  intro H locs ls hV hl
  show W _ _ _ _ _ _ _ _ _ _ _ _ _ _ (kQ κ) _
  rw [hQ]
  exact W.zret C.1.1 C.1.2.1 C.2.1 (rbz_narrowB hz) (fun t ht hW => ⟨rfl, by rw [ht]; exact hV.1, hV.2.F ht⟩) hV.2.2.2 hd C.2.2.1
end R

theorem sfJ0_9 : Cond.fieldLink RJ0 9 "java/lang/String" "value" "[B" ∈ TT := TT_in 1365 (by decide +kernel) rfl
theorem sfJ0_15 : Cond.fieldLink RJ0 15 "java/lang/String" "coder" "B" ∈ TT := TT_in 1364 (by decide +kernel) rfl
theorem sfJ0_38 : Cond.fieldLink RJ0 38 "java/lang/String" "COMPACT_STRINGS" "Z" ∈ TT := TT_in 285 (by decide +kernel) rfl
theorem lkX3_56 : q_LkT RX3 56 yJ0_indexOf_0f7a4 cJ0_indexOf_0f7a4 2 (some .int) 1 := ⟨⟨TT_in 276 (by decide +kernel) rfl, TT_in 273 (by decide +kernel) rfl, TT_in 64 (by decide +kernel) rfl, ⟨by decide, by decide⟩, by decide +kernel, by decide⟩, TT_in 274 (by decide +kernel) rfl, TT_in 275 (by decide +kernel) rfl, rfl⟩
theorem lkJ0_335 : q_LkT RJ0 335 yJ0_coder_7d493 cJ0_coder_7d493 1 (some .byte) 0 := ⟨⟨TT_in 294 (by decide +kernel) rfl, TT_in 291 (by decide +kernel) rfl, TT_in 64 (by decide +kernel) rfl, ⟨by decide, by decide⟩, by decide +kernel, by decide⟩, TT_in 292 (by decide +kernel) rfl, TT_in 293 (by decide +kernel) rfl, rfl⟩
theorem lkJ0_492 : q_LkT RJ0 492 yJ0_isLatin1_aae02 cJ0_isLatin1_aae02 1 (some .boolean) 0 := ⟨⟨TT_in 284 (by decide +kernel) rfl, TT_in 281 (by decide +kernel) rfl, TT_in 64 (by decide +kernel) rfl, ⟨by decide, by decide⟩, by decide +kernel, by decide⟩, TT_in 282 (by decide +kernel) rfl, TT_in 283 (by decide +kernel) rfl, rfl⟩
theorem lkJ0_505 : q_LkT RJ0 505 yJ0_length_8abf5 cJ0_length_8abf5 1 (some .int) 0 := ⟨⟨TT_in 290 (by decide +kernel) rfl, TT_in 287 (by decide +kernel) rfl, TT_in 64 (by decide +kernel) rfl, ⟨by decide, by decide⟩, by decide +kernel, by decide⟩, TT_in 288 (by decide +kernel) rfl, TT_in 289 (by decide +kernel) rfl, rfl⟩
theorem lkJ0_633 : q_LkT RJ0 633 yJ0_indexOf_7cf53 cJ0_indexOf_7cf53 3 (some .int) 2 := ⟨⟨TT_in 280 (by decide +kernel) rfl, TT_in 277 (by decide +kernel) rfl, TT_in 64 (by decide +kernel) rfl, ⟨by decide, by decide⟩, by decide +kernel, by decide⟩, TT_in 278 (by decide +kernel) rfl, TT_in 279 (by decide +kernel) rfl, rfl⟩
theorem lkJ0_637 : q_LkS RJ0 637 yJ1_indexOf_4cfef cJ1_indexOf_4cfef 4 (some .int) 4 := ⟨⟨TT_in 297 (by decide +kernel) rfl, TT_in 295 (by decide +kernel) rfl, TT_in 65 (by decide +kernel) rfl, ⟨by decide, by decide⟩, by decide +kernel, by decide⟩, TT_in 296 (by decide +kernel) rfl⟩
theorem lkJ1_38 : q_LkS RJ1 38 yJ9_min_7cf53 cJ9_min_7cf53 2 (some .int) 2 := ⟨⟨TT_in 306 (by decide +kernel) rfl, TT_in 304 (by decide +kernel) rfl, TT_in 66 (by decide +kernel) rfl, ⟨by decide, by decide⟩, by decide +kernel, by decide⟩, TT_in 305 (by decide +kernel) rfl⟩
theorem lkJ1_88 : q_LkS RJ1 88 yJ1_canEncode_9a6ad cJ1_canEncode_9a6ad 1 (some .boolean) 1 := ⟨⟨TT_in 300 (by decide +kernel) rfl, TT_in 298 (by decide +kernel) rfl, TT_in 65 (by decide +kernel) rfl, ⟨by decide, by decide⟩, by decide +kernel, by decide⟩, TT_in 299 (by decide +kernel) rfl⟩
theorem lkJ1_92 : q_LkS RJ1 92 yJ9_max_7cf53 cJ9_max_7cf53 2 (some .int) 2 := ⟨⟨TT_in 303 (by decide +kernel) rfl, TT_in 301 (by decide +kernel) rfl, TT_in 66 (by decide +kernel) rfl, ⟨by decide, by decide⟩, by decide +kernel, by decide⟩, TT_in 302 (by decide +kernel) rfl⟩
theorem lkJ1_95 : q_LkS RJ1 95 yJ1_indexOfChar_4cfef cJ1_indexOfChar_4cfef 6 (some .int) 4 := ⟨⟨TT_in 309 (by decide +kernel) rfl, TT_in 307 (by decide +kernel) rfl, TT_in 65 (by decide +kernel) rfl, ⟨by decide, by decide⟩, by decide +kernel, by decide⟩, TT_in 308 (by decide +kernel) rfl⟩
theorem dJ0_coder_7d493_0 : decode cJ0_coder_7d493 0 = .ok (.getstatic 38, 3) := by decide +kernel
theorem dJ0_coder_7d493_3 : decode cJ0_coder_7d493 3 = .ok (.ifCond .eq 10, 3) := by decide +kernel
theorem dJ0_coder_7d493_6 : decode cJ0_coder_7d493 6 = .ok (.aload_n 0, 1) := by decide +kernel
theorem dJ0_coder_7d493_7 : decode cJ0_coder_7d493 7 = .ok (.getfield 15, 3) := by decide +kernel
theorem dJ0_coder_7d493_10 : decode cJ0_coder_7d493 10 = .ok (.goto 4, 3) := by decide +kernel
theorem dJ0_coder_7d493_13 : decode cJ0_coder_7d493 13 = .ok (.iconst 1, 1) := by decide +kernel
theorem dJ0_coder_7d493_14 : decode cJ0_coder_7d493 14 = .ok (.ireturn, 1) := by decide +kernel
def fJ0_coder_7d493  (μ : Mm) : Option Int32 := (if (1 : Int32) = 0 then some (1 : Int32) else some (0 : Int32))
set_option maxRecDepth 100000 in
set_option maxHeartbeats 4000000 in
theorem kJ0_coder_7d493 (l : Launch) (ε : Ev)  (μ : Mm) (out : Int32) (hf : fJ0_coder_7d493 μ = some out) : Sp l ε layX yJ0_coder_7d493 cJ0_coder_7d493 1 (some .byte) 0 [.ref (sK ε)] (some (.int out)) μ μ := by
  refine Sp.of [(0, .ref (sK ε))] rfl (by decide +kernel) (Nat.le_of_ble_eq_true rfl) ?_
  intro κ hκ C E hQ
  subst hκ
  replace C : Cf κ cJ0_coder_7d493 1 RJ0 (some .byte) 0 := C
  refine g_gets (pc := 0) C E sfJ0_38 dJ0_coder_7d493_0 ?_
  refine g_if_eq (pc := 3) (tgt := 13) C dJ0_coder_7d493_3 rfl hf (fun _ hf => ?_) (fun _ hf => ?_)
  · refine g_iconst (pc := 13) C dJ0_coder_7d493_13 ci_1 ?_
    exact g_bret1r (pc := 14) C rfl hQ dJ0_coder_7d493_14 hf
  · refine g_aload_n (pc := 6) (i := 0) (j := 0) C dJ0_coder_7d493_6 rfl rfl ?_
    refine g_scod (pc := 7) C E sfJ0_15 dJ0_coder_7d493_7 ?_
    refine g_goto (pc := 10) (tgt := 14) C dJ0_coder_7d493_10 rfl ?_
    exact g_bret1r (pc := 14) C rfl hQ dJ0_coder_7d493_14 hf
theorem dJ0_isLatin1_aae02_0 : decode cJ0_isLatin1_aae02 0 = .ok (.getstatic 38, 3) := by decide +kernel
theorem dJ0_isLatin1_aae02_3 : decode cJ0_isLatin1_aae02 3 = .ok (.ifCond .eq 14, 3) := by decide +kernel
theorem dJ0_isLatin1_aae02_6 : decode cJ0_isLatin1_aae02 6 = .ok (.aload_n 0, 1) := by decide +kernel
theorem dJ0_isLatin1_aae02_7 : decode cJ0_isLatin1_aae02 7 = .ok (.getfield 15, 3) := by decide +kernel
theorem dJ0_isLatin1_aae02_10 : decode cJ0_isLatin1_aae02 10 = .ok (.ifCond .ne 7, 3) := by decide +kernel
theorem dJ0_isLatin1_aae02_13 : decode cJ0_isLatin1_aae02 13 = .ok (.iconst 1, 1) := by decide +kernel
theorem dJ0_isLatin1_aae02_14 : decode cJ0_isLatin1_aae02 14 = .ok (.goto 4, 3) := by decide +kernel
theorem dJ0_isLatin1_aae02_17 : decode cJ0_isLatin1_aae02 17 = .ok (.iconst 0, 1) := by decide +kernel
theorem dJ0_isLatin1_aae02_18 : decode cJ0_isLatin1_aae02 18 = .ok (.ireturn, 1) := by decide +kernel
def fJ0_isLatin1_aae02  (μ : Mm) : Option Int32 := (if (1 : Int32) = 0 then some (0 : Int32) else (if (0 : Int32) = 0 then some (1 : Int32) else some (0 : Int32)))
set_option maxRecDepth 100000 in
set_option maxHeartbeats 4000000 in
theorem kJ0_isLatin1_aae02 (l : Launch) (ε : Ev)  (μ : Mm) (out : Int32) (hf : fJ0_isLatin1_aae02 μ = some out) : Sp l ε layX yJ0_isLatin1_aae02 cJ0_isLatin1_aae02 1 (some .boolean) 0 [.ref (sK ε)] (some (.int out)) μ μ := by
  refine Sp.of [(0, .ref (sK ε))] rfl (by decide +kernel) (Nat.le_of_ble_eq_true rfl) ?_
  intro κ hκ C E hQ
  subst hκ
  replace C : Cf κ cJ0_isLatin1_aae02 1 RJ0 (some .boolean) 0 := C
  refine g_gets (pc := 0) C E sfJ0_38 dJ0_isLatin1_aae02_0 ?_
  refine g_if_eq (pc := 3) (tgt := 17) C dJ0_isLatin1_aae02_3 rfl hf (fun _ hf => ?_) (fun _ hf => ?_)
  · refine g_iconst (pc := 17) C dJ0_isLatin1_aae02_17 ci_0 ?_
    exact g_zret1r (pc := 18) C rfl hQ dJ0_isLatin1_aae02_18 hf
  · refine g_aload_n (pc := 6) (i := 0) (j := 0) C dJ0_isLatin1_aae02_6 rfl rfl ?_
    refine g_scod (pc := 7) C E sfJ0_15 dJ0_isLatin1_aae02_7 ?_
    refine g_if_ne (pc := 10) (tgt := 17) C dJ0_isLatin1_aae02_10 rfl hf (fun _ hf => ?_) (fun _ hf => ?_)
    · refine g_iconst (pc := 17) C dJ0_isLatin1_aae02_17 ci_0 ?_
      exact g_zret1r (pc := 18) C rfl hQ dJ0_isLatin1_aae02_18 hf
    · refine g_iconst (pc := 13) C dJ0_isLatin1_aae02_13 ci_1 ?_
      refine g_goto (pc := 14) (tgt := 18) C dJ0_isLatin1_aae02_14 rfl ?_
      exact g_zret1r (pc := 18) C rfl hQ dJ0_isLatin1_aae02_18 hf
theorem dJ0_length_8abf5_0 : decode cJ0_length_8abf5 0 = .ok (.aload_n 0, 1) := by decide +kernel
theorem dJ0_length_8abf5_1 : decode cJ0_length_8abf5 1 = .ok (.getfield 9, 3) := by decide +kernel
theorem dJ0_length_8abf5_4 : decode cJ0_length_8abf5 4 = .ok (.arraylength, 1) := by decide +kernel
theorem dJ0_length_8abf5_5 : decode cJ0_length_8abf5 5 = .ok (.aload_n 0, 1) := by decide +kernel
theorem dJ0_length_8abf5_6 : decode cJ0_length_8abf5 6 = .ok (.invokevirtual 335, 3) := by decide +kernel
theorem dJ0_length_8abf5_9 : decode cJ0_length_8abf5 9 = .ok (.ishr, 1) := by decide +kernel
theorem dJ0_length_8abf5_10 : decode cJ0_length_8abf5 10 = .ok (.ireturn, 1) := by decide +kernel
def fJ0_length_8abf5  (μ : Mm) : Option Int32 := ((fJ0_coder_7d493 μ).bind fun r6 => some (jshr (8 : Int32) r6))
set_option maxRecDepth 100000 in
set_option maxHeartbeats 4000000 in
theorem kJ0_length_8abf5 (l : Launch) (ε : Ev)  (μ : Mm) (out : Int32) (hf : fJ0_length_8abf5 μ = some out) : Sp l ε layX yJ0_length_8abf5 cJ0_length_8abf5 1 (some .int) 1 [.ref (sK ε)] (some (.int out)) μ μ := by
  refine Sp.of [(0, .ref (sK ε))] rfl (by decide +kernel) (Nat.le_of_ble_eq_true rfl) ?_
  intro κ hκ C E hQ
  subst hκ
  replace C : Cf κ cJ0_length_8abf5 1 RJ0 (some .int) 1 := C
  refine g_aload_n (pc := 0) (i := 0) (j := 0) C dJ0_length_8abf5_0 rfl rfl ?_
  refine g_sval (pc := 1) C E sfJ0_9 dJ0_length_8abf5_1 ?_
  refine g_slen (pc := 4) C E dJ0_length_8abf5_4 ?_
  refine g_aload_n (pc := 5) (i := 0) (j := 0) C dJ0_length_8abf5_5 rfl rfl ?_
  refine g_cti (pc := 6) (st := [.int (8 : Int32)]) C E lkJ0_335 (As := []) rfl (fun out h => kJ0_coder_7d493 (kl κ) ε μ out h) (by decide) rfl (Nat.le_of_ble_eq_true rfl) dJ0_length_8abf5_6 hf (fun r6 _ hf => ?_)
  refine g_ishr (pc := 9) C dJ0_length_8abf5_9 ?_
  exact g_iretr (pc := 10) C hQ dJ0_length_8abf5_10 hf
theorem dJ1_indexOfChar_4cfef_0 : decode cJ1_indexOfChar_4cfef 0 = .ok (.iload_n 1, 1) := by decide +kernel
theorem dJ1_indexOfChar_4cfef_1 : decode cJ1_indexOfChar_4cfef 1 = .ok (.i2b, 1) := by decide +kernel
theorem dJ1_indexOfChar_4cfef_2 : decode cJ1_indexOfChar_4cfef 2 = .ok (.istore 4, 2) := by decide +kernel
theorem dJ1_indexOfChar_4cfef_4 : decode cJ1_indexOfChar_4cfef 4 = .ok (.iload_n 2, 1) := by decide +kernel
theorem dJ1_indexOfChar_4cfef_5 : decode cJ1_indexOfChar_4cfef 5 = .ok (.istore 5, 2) := by decide +kernel
theorem dJ1_indexOfChar_4cfef_7 : decode cJ1_indexOfChar_4cfef 7 = .ok (.iload 5, 2) := by decide +kernel
theorem dJ1_indexOfChar_4cfef_9 : decode cJ1_indexOfChar_4cfef 9 = .ok (.iload_n 3, 1) := by decide +kernel
theorem dJ1_indexOfChar_4cfef_10 : decode cJ1_indexOfChar_4cfef 10 = .ok (.if_icmp .ge 21, 3) := by decide +kernel
theorem dJ1_indexOfChar_4cfef_13 : decode cJ1_indexOfChar_4cfef 13 = .ok (.aload_n 0, 1) := by decide +kernel
theorem dJ1_indexOfChar_4cfef_14 : decode cJ1_indexOfChar_4cfef 14 = .ok (.iload 5, 2) := by decide +kernel
theorem dJ1_indexOfChar_4cfef_16 : decode cJ1_indexOfChar_4cfef 16 = .ok (.baload, 1) := by decide +kernel
theorem dJ1_indexOfChar_4cfef_17 : decode cJ1_indexOfChar_4cfef 17 = .ok (.iload 4, 2) := by decide +kernel
theorem dJ1_indexOfChar_4cfef_19 : decode cJ1_indexOfChar_4cfef 19 = .ok (.if_icmp .ne 6, 3) := by decide +kernel
theorem dJ1_indexOfChar_4cfef_22 : decode cJ1_indexOfChar_4cfef 22 = .ok (.iload 5, 2) := by decide +kernel
theorem dJ1_indexOfChar_4cfef_24 : decode cJ1_indexOfChar_4cfef 24 = .ok (.ireturn, 1) := by decide +kernel
theorem dJ1_indexOfChar_4cfef_25 : decode cJ1_indexOfChar_4cfef 25 = .ok (.iinc 5 1, 3) := by decide +kernel
theorem dJ1_indexOfChar_4cfef_28 : decode cJ1_indexOfChar_4cfef 28 = .ok (.goto (-21), 3) := by decide +kernel
theorem dJ1_indexOfChar_4cfef_31 : decode cJ1_indexOfChar_4cfef 31 = .ok (.iconst (-1), 1) := by decide +kernel
theorem dJ1_indexOfChar_4cfef_32 : decode cJ1_indexOfChar_4cfef 32 = .ok (.ireturn, 1) := by decide +kernel
def fJ1_indexOfChar_4cfef_b7 (μ : Mm) : Nat → Int32 → Int32 → Int32 → Option Int32
  | 0, _, _, _ => none
  | n + 1, v3, v4, v5 => (if v3 ≤ v5 then some (-1 : Int32) else (if inb v5 8 = true then (if (sByte (Int32.toNatClampNeg v5)) = v4 then some v5 else (fJ1_indexOfChar_4cfef_b7 μ n) v3 v4 (v5 + (1 : Int32))) else none))
def fJ1_indexOfChar_4cfef (p2 : Int32) (p3 : Int32) (p4 : Int32) (μ : Mm) : Option Int32 := fJ1_indexOfChar_4cfef_b7 μ 100 p4 (ji2b p2) p3
set_option maxRecDepth 100000 in
set_option maxHeartbeats 4000000 in
theorem kJ1_indexOfChar_4cfef (l : Launch) (ε : Ev) (p2 : Int32) (p3 : Int32) (p4 : Int32) (μ : Mm) (out : Int32) (hf : fJ1_indexOfChar_4cfef p2 p3 p4 μ = some out) : Sp l ε layX yJ1_indexOfChar_4cfef cJ1_indexOfChar_4cfef 6 (some .int) 0 [.ref (sV ε), .int p2, .int p3, .int p4] (some (.int out)) μ μ := by
  refine Sp.of [(0, .ref (sV ε)), (1, .int p2), (2, .int p3), (3, .int p4)] rfl (by decide +kernel) (Nat.le_of_ble_eq_true rfl) ?_
  intro κ hκ C E hQ
  subst hκ
  replace C : Cf κ cJ1_indexOfChar_4cfef 6 RJ1 (some .int) 0 := C
  have b7 : ∀ (n : Nat) (v3 : Int32) (v4 : Int32) (v5 : Int32) , fJ1_indexOfChar_4cfef_b7 μ n v3 v4 v5 = some out → G κ (Vw κ ε layX μ) 6 7 [(0, .ref (sV ε)), (3, .int v3), (4, .int v4), (5, .int v5)] [] := by
    intro n
    induction n with
    | zero => intro v3 v4 v5 hf; exact none_ne hf
    | succ n ih =>
      intro v3 v4 v5 hf
      refine g_iload (pc := 7) (i := 5) (j := 3) C dJ1_indexOfChar_4cfef_7 rfl ?_
      refine g_iload_n (pc := 9) (i := 3) (j := 1) C dJ1_indexOfChar_4cfef_9 rfl rfl ?_
      refine g_icmp_ge (pc := 10) (tgt := 31) C dJ1_indexOfChar_4cfef_10 rfl hf (fun _ hf => ?_) (fun _ hf => ?_)
      · refine g_iconst (pc := 31) C dJ1_indexOfChar_4cfef_31 ci_m1 ?_
        exact g_iretr (pc := 32) C hQ dJ1_indexOfChar_4cfef_32 hf
      · refine g_aload_n (pc := 13) (i := 0) (j := 0) C dJ1_indexOfChar_4cfef_13 rfl rfl ?_
        refine g_iload (pc := 14) (i := 5) (j := 3) C dJ1_indexOfChar_4cfef_14 rfl ?_
        refine g_sald (pc := 16) C E dJ1_indexOfChar_4cfef_16 hf (fun hf => ?_)
        refine g_iload (pc := 17) (i := 4) (j := 2) C dJ1_indexOfChar_4cfef_17 rfl ?_
        refine g_icmp_ne (pc := 19) (tgt := 25) C dJ1_indexOfChar_4cfef_19 rfl hf (fun _ hf => ?_) (fun _ hf => ?_)
        · refine g_iinc (pc := 25) (i := 5) (j := 3) (v := (v5 + (1 : Int32))) (L' := [(5, .int (v5 + (1 : Int32))), (0, .ref (sV ε)), (3, .int v3), (4, .int v4)]) C dJ1_indexOfChar_4cfef_25 rfl (cx_1 _) (by decide) rfl ?_
          refine g_goto (pc := 28) (tgt := 7) C dJ1_indexOfChar_4cfef_28 rfl ?_
          exact g_at [1, 2, 3, 0] rfl (ih v3 v4 (v5 + (1 : Int32)) hf)
        · refine g_iload (pc := 22) (i := 5) (j := 3) C dJ1_indexOfChar_4cfef_22 rfl ?_
          exact g_iretr (pc := 24) C hQ dJ1_indexOfChar_4cfef_24 hf
  refine g_iload_n (pc := 0) (i := 1) (j := 1) C dJ1_indexOfChar_4cfef_0 rfl rfl ?_
  refine g_i2b (pc := 1) C dJ1_indexOfChar_4cfef_1 ?_
  refine g_istore (pc := 2) (i := 4) (L' := [(4, .int (ji2b p2)), (0, .ref (sV ε)), (1, .int p2), (2, .int p3), (3, .int p4)]) C dJ1_indexOfChar_4cfef_2 (by decide) rfl ?_
  refine g_iload_n (pc := 4) (i := 2) (j := 3) C dJ1_indexOfChar_4cfef_4 rfl rfl ?_
  refine g_istore (pc := 5) (i := 5) (L' := [(5, .int p3), (4, .int (ji2b p2)), (0, .ref (sV ε)), (1, .int p2), (2, .int p3), (3, .int p4)]) C dJ1_indexOfChar_4cfef_5 (by decide) rfl ?_
  exact g_at [2, 5, 1, 0] rfl (b7 100 p4 (ji2b p2) p3 hf)
theorem dJ1_indexOf_4cfef_0 : decode cJ1_indexOf_4cfef 0 = .ok (.iload_n 1, 1) := by decide +kernel
theorem dJ1_indexOf_4cfef_1 : decode cJ1_indexOf_4cfef 1 = .ok (.invokestatic 88, 3) := by decide +kernel
theorem dJ1_indexOf_4cfef_4 : decode cJ1_indexOf_4cfef 4 = .ok (.ifCond .ne 5, 3) := by decide +kernel
theorem dJ1_indexOf_4cfef_7 : decode cJ1_indexOf_4cfef 7 = .ok (.iconst (-1), 1) := by decide +kernel
theorem dJ1_indexOf_4cfef_8 : decode cJ1_indexOf_4cfef 8 = .ok (.ireturn, 1) := by decide +kernel
theorem dJ1_indexOf_4cfef_9 : decode cJ1_indexOf_4cfef 9 = .ok (.iload_n 2, 1) := by decide +kernel
theorem dJ1_indexOf_4cfef_10 : decode cJ1_indexOf_4cfef 10 = .ok (.iconst 0, 1) := by decide +kernel
theorem dJ1_indexOf_4cfef_11 : decode cJ1_indexOf_4cfef 11 = .ok (.invokestatic 92, 3) := by decide +kernel
theorem dJ1_indexOf_4cfef_14 : decode cJ1_indexOf_4cfef 14 = .ok (.istore_n 2, 1) := by decide +kernel
theorem dJ1_indexOf_4cfef_15 : decode cJ1_indexOf_4cfef 15 = .ok (.iload_n 3, 1) := by decide +kernel
theorem dJ1_indexOf_4cfef_16 : decode cJ1_indexOf_4cfef 16 = .ok (.aload_n 0, 1) := by decide +kernel
theorem dJ1_indexOf_4cfef_17 : decode cJ1_indexOf_4cfef 17 = .ok (.arraylength, 1) := by decide +kernel
theorem dJ1_indexOf_4cfef_18 : decode cJ1_indexOf_4cfef 18 = .ok (.invokestatic 38, 3) := by decide +kernel
theorem dJ1_indexOf_4cfef_21 : decode cJ1_indexOf_4cfef 21 = .ok (.istore_n 3, 1) := by decide +kernel
theorem dJ1_indexOf_4cfef_22 : decode cJ1_indexOf_4cfef 22 = .ok (.iload_n 2, 1) := by decide +kernel
theorem dJ1_indexOf_4cfef_23 : decode cJ1_indexOf_4cfef 23 = .ok (.iload_n 3, 1) := by decide +kernel
theorem dJ1_indexOf_4cfef_24 : decode cJ1_indexOf_4cfef 24 = .ok (.if_icmp .lt 5, 3) := by decide +kernel
theorem dJ1_indexOf_4cfef_27 : decode cJ1_indexOf_4cfef 27 = .ok (.iconst (-1), 1) := by decide +kernel
theorem dJ1_indexOf_4cfef_28 : decode cJ1_indexOf_4cfef 28 = .ok (.ireturn, 1) := by decide +kernel
theorem dJ1_indexOf_4cfef_29 : decode cJ1_indexOf_4cfef 29 = .ok (.aload_n 0, 1) := by decide +kernel
theorem dJ1_indexOf_4cfef_30 : decode cJ1_indexOf_4cfef 30 = .ok (.iload_n 1, 1) := by decide +kernel
theorem dJ1_indexOf_4cfef_31 : decode cJ1_indexOf_4cfef 31 = .ok (.iload_n 2, 1) := by decide +kernel
theorem dJ1_indexOf_4cfef_32 : decode cJ1_indexOf_4cfef 32 = .ok (.iload_n 3, 1) := by decide +kernel
theorem dJ1_indexOf_4cfef_33 : decode cJ1_indexOf_4cfef 33 = .ok (.invokestatic 95, 3) := by decide +kernel
theorem dJ1_indexOf_4cfef_36 : decode cJ1_indexOf_4cfef 36 = .ok (.ireturn, 1) := by decide +kernel
def fJ1_indexOf_4cfef (p2 : Int32) (p3 : Int32) (p4 : Int32) (μ : Mm) : Option Int32 := ((fJ1_canEncode_9a6ad p2).bind fun r1 => (if r1 = 0 then some (-1 : Int32) else ((fJ9_max_7cf53 p3 (0 : Int32)).bind fun r11 => ((fJ9_min_7cf53 p4 (8 : Int32)).bind fun r18 => (if r11 < r18 then ((fJ1_indexOfChar_4cfef p2 r11 r18 μ).bind fun r33 => some r33) else some (-1 : Int32))))))
set_option maxRecDepth 100000 in
set_option maxHeartbeats 4000000 in
theorem kJ1_indexOf_4cfef (l : Launch) (ε : Ev) (p2 : Int32) (p3 : Int32) (p4 : Int32) (μ : Mm) (out : Int32) (hf : fJ1_indexOf_4cfef p2 p3 p4 μ = some out) : Sp l ε layX yJ1_indexOf_4cfef cJ1_indexOf_4cfef 4 (some .int) 1 [.ref (sV ε), .int p2, .int p3, .int p4] (some (.int out)) μ μ := by
  refine Sp.of [(0, .ref (sV ε)), (1, .int p2), (2, .int p3), (3, .int p4)] rfl (by decide +kernel) (Nat.le_of_ble_eq_true rfl) ?_
  intro κ hκ C E hQ
  subst hκ
  replace C : Cf κ cJ1_indexOf_4cfef 4 RJ1 (some .int) 1 := C
  refine g_iload_n (pc := 0) (i := 1) (j := 1) C dJ1_indexOf_4cfef_0 rfl rfl ?_
  refine g_cpi (pc := 1) (st := []) C lkJ1_88 (As := [.int p2]) rfl (fun out h => kJ1_canEncode_9a6ad (kl κ) p2 out h) (by decide) rfl (Nat.le_of_ble_eq_true rfl) dJ1_indexOf_4cfef_1 hf (fun r1 _ hf => ?_)
  refine g_if_ne (pc := 4) (tgt := 9) C dJ1_indexOf_4cfef_4 rfl hf (fun _ hf => ?_) (fun _ hf => ?_)
  · refine g_iload_n (pc := 9) (i := 2) (j := 2) C dJ1_indexOf_4cfef_9 rfl rfl ?_
    refine g_iconst (pc := 10) C dJ1_indexOf_4cfef_10 ci_0 ?_
    refine g_cpi (pc := 11) (st := []) C lkJ1_92 (As := [.int p3, .int (0 : Int32)]) rfl (fun out h => kJ9_max_7cf53 (kl κ) p3 (0 : Int32) out h) (by decide) rfl (Nat.le_of_ble_eq_true rfl) dJ1_indexOf_4cfef_11 hf (fun r11 _ hf => ?_)
    refine g_istore_n (pc := 14) (i := 2) (L' := [(2, .int r11), (0, .ref (sV ε)), (1, .int p2), (3, .int p4)]) C dJ1_indexOf_4cfef_14 rfl (by decide) rfl ?_
    refine g_iload_n (pc := 15) (i := 3) (j := 3) C dJ1_indexOf_4cfef_15 rfl rfl ?_
    refine g_aload_n (pc := 16) (i := 0) (j := 1) C dJ1_indexOf_4cfef_16 rfl rfl ?_
    refine g_slen (pc := 17) C E dJ1_indexOf_4cfef_17 ?_
    refine g_cpi (pc := 18) (st := []) C lkJ1_38 (As := [.int p4, .int (8 : Int32)]) rfl (fun out h => kJ9_min_7cf53 (kl κ) p4 (8 : Int32) out h) (by decide) rfl (Nat.le_of_ble_eq_true rfl) dJ1_indexOf_4cfef_18 hf (fun r18 _ hf => ?_)
    refine g_istore_n (pc := 21) (i := 3) (L' := [(3, .int r18), (2, .int r11), (0, .ref (sV ε)), (1, .int p2)]) C dJ1_indexOf_4cfef_21 rfl (by decide) rfl ?_
    refine g_iload_n (pc := 22) (i := 2) (j := 1) C dJ1_indexOf_4cfef_22 rfl rfl ?_
    refine g_iload_n (pc := 23) (i := 3) (j := 0) C dJ1_indexOf_4cfef_23 rfl rfl ?_
    refine g_icmp_lt (pc := 24) (tgt := 29) C dJ1_indexOf_4cfef_24 rfl hf (fun _ hf => ?_) (fun _ hf => ?_)
    · refine g_aload_n (pc := 29) (i := 0) (j := 2) C dJ1_indexOf_4cfef_29 rfl rfl ?_
      refine g_iload_n (pc := 30) (i := 1) (j := 3) C dJ1_indexOf_4cfef_30 rfl rfl ?_
      refine g_iload_n (pc := 31) (i := 2) (j := 1) C dJ1_indexOf_4cfef_31 rfl rfl ?_
      refine g_iload_n (pc := 32) (i := 3) (j := 0) C dJ1_indexOf_4cfef_32 rfl rfl ?_
      refine g_cswi (pc := 33) (st := []) C E lkJ1_95 (As := [.ref (sV ε), .int p2, .int r11, .int r18]) rfl (fun out h => kJ1_indexOfChar_4cfef (kl κ) ε p2 r11 r18 μ out h) (by decide) rfl (Nat.le_of_ble_eq_true rfl) dJ1_indexOf_4cfef_33 hf (fun r33 _ hf => ?_)
      exact g_iretr (pc := 36) C hQ dJ1_indexOf_4cfef_36 hf
    · refine g_iconst (pc := 27) C dJ1_indexOf_4cfef_27 ci_m1 ?_
      exact g_iretr (pc := 28) C hQ dJ1_indexOf_4cfef_28 hf
  · refine g_iconst (pc := 7) C dJ1_indexOf_4cfef_7 ci_m1 ?_
    exact g_iretr (pc := 8) C hQ dJ1_indexOf_4cfef_8 hf
theorem dJ0_indexOf_7cf53_0 : decode cJ0_indexOf_7cf53 0 = .ok (.aload_n 0, 1) := by decide +kernel
theorem dJ0_indexOf_7cf53_1 : decode cJ0_indexOf_7cf53 1 = .ok (.invokevirtual 492, 3) := by decide +kernel
theorem dJ0_indexOf_7cf53_4 : decode cJ0_indexOf_7cf53 4 = .ok (.ifCond .eq 19, 3) := by decide +kernel
theorem dJ0_indexOf_7cf53_7 : decode cJ0_indexOf_7cf53 7 = .ok (.aload_n 0, 1) := by decide +kernel
theorem dJ0_indexOf_7cf53_8 : decode cJ0_indexOf_7cf53 8 = .ok (.getfield 9, 3) := by decide +kernel
theorem dJ0_indexOf_7cf53_11 : decode cJ0_indexOf_7cf53 11 = .ok (.iload_n 1, 1) := by decide +kernel
theorem dJ0_indexOf_7cf53_12 : decode cJ0_indexOf_7cf53 12 = .ok (.iload_n 2, 1) := by decide +kernel
theorem dJ0_indexOf_7cf53_13 : decode cJ0_indexOf_7cf53 13 = .ok (.aload_n 0, 1) := by decide +kernel
theorem dJ0_indexOf_7cf53_14 : decode cJ0_indexOf_7cf53 14 = .ok (.invokevirtual 505, 3) := by decide +kernel
theorem dJ0_indexOf_7cf53_17 : decode cJ0_indexOf_7cf53 17 = .ok (.invokestatic 637, 3) := by decide +kernel
theorem dJ0_indexOf_7cf53_20 : decode cJ0_indexOf_7cf53 20 = .ok (.goto 16, 3) := by decide +kernel
theorem dJ0_indexOf_7cf53_23 : decode cJ0_indexOf_7cf53 23 = .ok (.aload_n 0, 1) := by decide +kernel
theorem dJ0_indexOf_7cf53_24 : decode cJ0_indexOf_7cf53 24 = .ok (.getfield 9, 3) := by decide +kernel
theorem dJ0_indexOf_7cf53_27 : decode cJ0_indexOf_7cf53 27 = .ok (.iload_n 1, 1) := by decide +kernel
theorem dJ0_indexOf_7cf53_28 : decode cJ0_indexOf_7cf53 28 = .ok (.iload_n 2, 1) := by decide +kernel
theorem dJ0_indexOf_7cf53_29 : decode cJ0_indexOf_7cf53 29 = .ok (.aload_n 0, 1) := by decide +kernel
theorem dJ0_indexOf_7cf53_30 : decode cJ0_indexOf_7cf53 30 = .ok (.invokevirtual 505, 3) := by decide +kernel
theorem dJ0_indexOf_7cf53_33 : decode cJ0_indexOf_7cf53 33 = .ok (.invokestatic 640, 3) := by decide +kernel
theorem dJ0_indexOf_7cf53_36 : decode cJ0_indexOf_7cf53 36 = .ok (.ireturn, 1) := by decide +kernel
def fJ0_indexOf_7cf53 (p1 : Int32) (p2 : Int32) (μ : Mm) : Option Int32 := ((fJ0_isLatin1_aae02 μ).bind fun r1 => (if r1 = 0 then none else ((fJ0_length_8abf5 μ).bind fun r14 => ((fJ1_indexOf_4cfef p1 p2 r14 μ).bind fun r17 => some r17))))
set_option maxRecDepth 100000 in
set_option maxHeartbeats 4000000 in
theorem kJ0_indexOf_7cf53 (l : Launch) (ε : Ev) (p1 : Int32) (p2 : Int32) (μ : Mm) (out : Int32) (hf : fJ0_indexOf_7cf53 p1 p2 μ = some out) : Sp l ε layX yJ0_indexOf_7cf53 cJ0_indexOf_7cf53 3 (some .int) 2 [.ref (sK ε), .int p1, .int p2] (some (.int out)) μ μ := by
  refine Sp.of [(0, .ref (sK ε)), (1, .int p1), (2, .int p2)] rfl (by decide +kernel) (Nat.le_of_ble_eq_true rfl) ?_
  intro κ hκ C E hQ
  subst hκ
  replace C : Cf κ cJ0_indexOf_7cf53 3 RJ0 (some .int) 2 := C
  refine g_aload_n (pc := 0) (i := 0) (j := 0) C dJ0_indexOf_7cf53_0 rfl rfl ?_
  refine g_cti (pc := 1) (st := []) C E lkJ0_492 (As := []) rfl (fun out h => kJ0_isLatin1_aae02 (kl κ) ε μ out h) (by decide) rfl (Nat.le_of_ble_eq_true rfl) dJ0_indexOf_7cf53_1 hf (fun r1 _ hf => ?_)
  refine g_if_eq (pc := 4) (tgt := 23) C dJ0_indexOf_7cf53_4 rfl hf (fun _ hf => ?_) (fun _ hf => ?_)
  · exact none_ne hf
  · refine g_aload_n (pc := 7) (i := 0) (j := 0) C dJ0_indexOf_7cf53_7 rfl rfl ?_
    refine g_sval (pc := 8) C E sfJ0_9 dJ0_indexOf_7cf53_8 ?_
    refine g_iload_n (pc := 11) (i := 1) (j := 1) C dJ0_indexOf_7cf53_11 rfl rfl ?_
    refine g_iload_n (pc := 12) (i := 2) (j := 2) C dJ0_indexOf_7cf53_12 rfl rfl ?_
    refine g_aload_n (pc := 13) (i := 0) (j := 0) C dJ0_indexOf_7cf53_13 rfl rfl ?_
    refine g_cti (pc := 14) (st := [.int p2, .int p1, .ref (sV ε)]) C E lkJ0_505 (As := []) rfl (fun out h => kJ0_length_8abf5 (kl κ) ε μ out h) (by decide) rfl (Nat.le_of_ble_eq_true rfl) dJ0_indexOf_7cf53_14 hf (fun r14 _ hf => ?_)
    refine g_cswi (pc := 17) (st := []) C E lkJ0_637 (As := [.ref (sV ε), .int p1, .int p2, .int r14]) rfl (fun out h => kJ1_indexOf_4cfef (kl κ) ε p1 p2 r14 μ out h) (by decide) rfl (Nat.le_of_ble_eq_true rfl) dJ0_indexOf_7cf53_17 hf (fun r17 _ hf => ?_)
    refine g_goto (pc := 20) (tgt := 36) C dJ0_indexOf_7cf53_20 rfl ?_
    exact g_iretr (pc := 36) C hQ dJ0_indexOf_7cf53_36 hf
theorem dJ0_indexOf_0f7a4_0 : decode cJ0_indexOf_0f7a4 0 = .ok (.aload_n 0, 1) := by decide +kernel
theorem dJ0_indexOf_0f7a4_1 : decode cJ0_indexOf_0f7a4 1 = .ok (.iload_n 1, 1) := by decide +kernel
theorem dJ0_indexOf_0f7a4_2 : decode cJ0_indexOf_0f7a4 2 = .ok (.iconst 0, 1) := by decide +kernel
theorem dJ0_indexOf_0f7a4_3 : decode cJ0_indexOf_0f7a4 3 = .ok (.invokevirtual 633, 3) := by decide +kernel
theorem dJ0_indexOf_0f7a4_6 : decode cJ0_indexOf_0f7a4 6 = .ok (.ireturn, 1) := by decide +kernel
def fJ0_indexOf_0f7a4 (p1 : Int32) (μ : Mm) : Option Int32 := ((fJ0_indexOf_7cf53 p1 (0 : Int32) μ).bind fun r3 => some r3)
set_option maxRecDepth 100000 in
set_option maxHeartbeats 4000000 in
theorem kJ0_indexOf_0f7a4 (l : Launch) (ε : Ev) (p1 : Int32) (μ : Mm) (out : Int32) (hf : fJ0_indexOf_0f7a4 p1 μ = some out) : Sp l ε layX yJ0_indexOf_0f7a4 cJ0_indexOf_0f7a4 2 (some .int) 3 [.ref (sK ε), .int p1] (some (.int out)) μ μ := by
  refine Sp.of [(0, .ref (sK ε)), (1, .int p1)] rfl (by decide +kernel) (Nat.le_of_ble_eq_true rfl) ?_
  intro κ hκ C E hQ
  subst hκ
  replace C : Cf κ cJ0_indexOf_0f7a4 2 RJ0 (some .int) 3 := C
  refine g_aload_n (pc := 0) (i := 0) (j := 0) C dJ0_indexOf_0f7a4_0 rfl rfl ?_
  refine g_iload_n (pc := 1) (i := 1) (j := 1) C dJ0_indexOf_0f7a4_1 rfl rfl ?_
  refine g_iconst (pc := 2) C dJ0_indexOf_0f7a4_2 ci_0 ?_
  refine g_cti (pc := 3) (st := []) C E lkJ0_633 (As := [.int p1, .int (0 : Int32)]) rfl (fun out h => kJ0_indexOf_7cf53 (kl κ) ε p1 (0 : Int32) μ out h) (by decide) rfl (Nat.le_of_ble_eq_true rfl) dJ0_indexOf_0f7a4_3 hf (fun r3 _ hf => ?_)
  exact g_iretr (pc := 6) C hQ dJ0_indexOf_0f7a4_6 hf
theorem dX3_primitiveOf_0 : decode cX3_primitiveOf 0 = .ok (.iload_n 0, 1) := by decide +kernel
theorem dX3_primitiveOf_1 : decode cX3_primitiveOf 1 = .ok (.ifCond .ge 7, 3) := by decide +kernel
theorem dX3_primitiveOf_4 : decode cX3_primitiveOf 4 = .ok (.iconst (-1), 1) := by decide +kernel
theorem dX3_primitiveOf_5 : decode cX3_primitiveOf 5 = .ok (.goto 10, 3) := by decide +kernel
theorem dX3_primitiveOf_8 : decode cX3_primitiveOf 8 = .ok (.ldc 54, 2) := by decide +kernel
theorem dX3_primitiveOf_10 : decode cX3_primitiveOf 10 = .ok (.iload_n 0, 1) := by decide +kernel
theorem dX3_primitiveOf_11 : decode cX3_primitiveOf 11 = .ok (.i2c, 1) := by decide +kernel
theorem dX3_primitiveOf_12 : decode cX3_primitiveOf 12 = .ok (.invokevirtual 56, 3) := by decide +kernel
theorem dX3_primitiveOf_15 : decode cX3_primitiveOf 15 = .ok (.istore_n 1, 1) := by decide +kernel
theorem dX3_primitiveOf_16 : decode cX3_primitiveOf 16 = .ok (.iload_n 1, 1) := by decide +kernel
theorem dX3_primitiveOf_17 : decode cX3_primitiveOf 17 = .ok (.ifCond .ge 8, 3) := by decide +kernel
theorem dX3_primitiveOf_20 : decode cX3_primitiveOf 20 = .ok (.bipush (-9), 2) := by decide +kernel
theorem dX3_primitiveOf_22 : decode cX3_primitiveOf 22 = .ok (.goto 4, 3) := by decide +kernel
theorem dX3_primitiveOf_25 : decode cX3_primitiveOf 25 = .ok (.iload_n 1, 1) := by decide +kernel
theorem dX3_primitiveOf_26 : decode cX3_primitiveOf 26 = .ok (.ireturn, 1) := by decide +kernel
def fX3_primitiveOf_b15 (μ : Mm) (s0 : Int32) : Option Int32 := (if 0 ≤ s0 then some s0 else some (-9 : Int32))
def fX3_primitiveOf (p1 : Int32) (μ : Mm) : Option Int32 := (if 0 ≤ p1 then ((fJ0_indexOf_0f7a4 (ji2c p1) μ).bind fun r12 => fX3_primitiveOf_b15 μ r12) else fX3_primitiveOf_b15 μ (-1 : Int32))
set_option maxRecDepth 100000 in
set_option maxHeartbeats 4000000 in
theorem kX3_primitiveOf (l : Launch) (ε : Ev) (p1 : Int32) (μ : Mm) (out : Int32) (hf : fX3_primitiveOf p1 μ = some out) : Sp l ε layX yX3_primitiveOf cX3_primitiveOf 2 (some .int) 4 [.int p1] (some (.int out)) μ μ := by
  refine Sp.of [(0, .int p1)] rfl (by decide +kernel) (Nat.le_of_ble_eq_true rfl) ?_
  intro κ hκ C E hQ
  subst hκ
  replace C : Cf κ cX3_primitiveOf 2 RX3 (some .int) 4 := C
  have b15 : ∀ (s0 : Int32) , fX3_primitiveOf_b15 μ s0 = some out → G κ (Vw κ ε layX μ) 2 15 [] [.int s0] := by
    intro s0 hf
    refine g_istore_n (pc := 15) (i := 1) (L' := [(1, .int s0)]) C dX3_primitiveOf_15 rfl (by decide) rfl ?_
    refine g_iload_n (pc := 16) (i := 1) (j := 0) C dX3_primitiveOf_16 rfl rfl ?_
    refine g_if_ge (pc := 17) (tgt := 25) C dX3_primitiveOf_17 rfl hf (fun _ hf => ?_) (fun _ hf => ?_)
    · refine g_iload_n (pc := 25) (i := 1) (j := 0) C dX3_primitiveOf_25 rfl rfl ?_
      exact g_iretr (pc := 26) C hQ dX3_primitiveOf_26 hf
    · refine g_bipush (pc := 20) C dX3_primitiveOf_20 cb_m9 ?_
      refine g_goto (pc := 22) (tgt := 26) C dX3_primitiveOf_22 rfl ?_
      exact g_iretr (pc := 26) C hQ dX3_primitiveOf_26 hf
  refine g_iload_n (pc := 0) (i := 0) (j := 0) C dX3_primitiveOf_0 rfl rfl ?_
  refine g_if_ge (pc := 1) (tgt := 8) C dX3_primitiveOf_1 rfl hf (fun _ hf => ?_) (fun _ hf => ?_)
  · refine g_ldcS (pc := 8) C E dX3_primitiveOf_8 ?_
    refine g_iload_n (pc := 10) (i := 0) (j := 0) C dX3_primitiveOf_10 rfl rfl ?_
    refine g_i2c (pc := 11) C dX3_primitiveOf_11 ?_
    refine g_cti (pc := 12) (st := []) C E lkX3_56 (As := [.int (ji2c p1)]) rfl (fun out h => kJ0_indexOf_0f7a4 (kl κ) ε (ji2c p1) μ out h) (by decide) rfl (Nat.le_of_ble_eq_true rfl) dX3_primitiveOf_12 hf (fun r12 _ hf => ?_)
    exact g_at [] rfl (b15 r12 hf)
  · refine g_iconst (pc := 4) C dX3_primitiveOf_4 ci_m1 ?_
    refine g_goto (pc := 5) (tgt := 15) C dX3_primitiveOf_5 rfl ?_
    exact g_at [] rfl (b15 (-1 : Int32) hf)
end
