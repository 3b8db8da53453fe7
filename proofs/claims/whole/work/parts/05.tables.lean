theorem none_ne {α : Type} {o : α} {P : Prop} (h : (none : Option α) = some o) : P := by cases h
theorem ite_none {α : Type} {c : Prop} [Decidable c] {a : Option α} {r : α} (h : (if c then none else a) = some r) : ¬ c ∧ a = some r := by
  split at h
  · cases h
  · exact ⟨by assumption, h⟩
theorem g_zret1w {κ : Kx} {nL pc : Nat} {L : List (Nat × Value)} {cc : ByteArray} {own : String} {d : Nat} {ε : Ev} {lay : List Sh} {μ : Mm} (C : Cf κ cc nL own (some .boolean) d) {v : Int32} {out : Int32 × Mm} (hz : rbz v = true) (hQ : Rw κ ε lay (some (.int out.1)) out.2) (hd : decode cc pc = .ok (.ireturn, 1)) (hf : some (v, μ) = some out) : G κ (Vw κ ε lay μ) nL pc L [.int v] := g_zretw C hQ hd (by rw [if_pos hz]; exact hf)
theorem g_zret1r {κ : Kx} {nL pc : Nat} {L : List (Nat × Value)} {cc : ByteArray} {own : String} {d : Nat} {ε : Ev} {lay : List Sh} {μ : Mm} (C : Cf κ cc nL own (some .boolean) d) {v out : Int32} (hz : rbz v = true) (hQ : Rw κ ε lay (some (.int out)) μ) (hd : decode cc pc = .ok (.ireturn, 1)) (hf : some v = some out) : G κ (Vw κ ε lay μ) nL pc L [.int v] := g_zretr C hQ hd (by rw [if_pos hz]; exact hf)
theorem g_zret1p {κ : Kx} {nL pc : Nat} {L : List (Nat × Value)} {cc : ByteArray} {own : String} {d : Nat} (C : Cf κ cc nL own (some .boolean) d) {v out : Int32} (hz : rbz v = true) (hQ : Rp κ (some (.int out))) (hd : decode cc pc = .ok (.ireturn, 1)) (hf : some v = some out) : G κ (Vp κ) nL pc L [.int v] := g_zretp C hQ hd (by rw [if_pos hz]; exact hf)
/-- 0 WidenDesk; 1 WidenDesk$Reader; 2 WidenDesk$Shelf; 3 WidenDesk$Log; 4 WidenDesk$Marks; 5 WidenDesk$Views; 6 WidenDesk.rowOf[10]; 7 WidenDesk.reasons[6]; 8 WidenDesk$Reader.letters[60]; 9 WidenDesk$Reader.types[6]; 10 WidenDesk$Reader.numbers[6]; 11 WidenDesk$Shelf.things[26]; 12 WidenDesk$Shelf.lengths[26]; 13 WidenDesk$Shelf.types[156]; 14 WidenDesk$Shelf.codes[156]; 15 WidenDesk$Log.sorts[14]; 16 WidenDesk$Log.spots[14]; 17 WidenDesk$Log.rows[14]; 18 WidenDesk$Log.numbers[14]; 19 WidenDesk$Log.types[84]; 20 WidenDesk$Log.codes[84]; 21 WidenDesk$Marks.numbers[20]; 22 WidenDesk$Views.ways[6]; 23 WidenDesk$Views.kinds[6]; 24 WidenDesk$Views.outcomes[6] -/
def layX : List Sh := [.inr (5, [3, 4, 5, 6, 7, 8, 9, 0, 0, 0, 1]), .inr (2, [10, 0, 0, 0, 11, 12, 0]), .inr (3, [13, 14, 15, 16]), .inr (0, [17, 18, 19, 20, 21, 22, 0, 0]), .inr (1, [23, 0]), .inr (4, [24, 25, 26, 0]), .inl (0, 10), .inl (0, 6), .inl (0, 60), .inl (0, 6), .inl (1, 6), .inl (0, 26), .inl (0, 26), .inl (0, 156), .inl (1, 156), .inl (0, 14), .inl (0, 14), .inl (0, 14), .inl (0, 14), .inl (0, 84), .inl (1, 84), .inl (0, 20), .inl (0, 6), .inl (0, 6), .inl (0, 6)]
theorem layX_0 : layX[0]? = some (.inr (5, [3, 4, 5, 6, 7, 8, 9, 0, 0, 0, 1])) := rfl
theorem layX_1 : layX[1]? = some (.inr (2, [10, 0, 0, 0, 11, 12, 0])) := rfl
theorem layX_2 : layX[2]? = some (.inr (3, [13, 14, 15, 16])) := rfl
theorem layX_3 : layX[3]? = some (.inr (0, [17, 18, 19, 20, 21, 22, 0, 0])) := rfl
theorem layX_4 : layX[4]? = some (.inr (1, [23, 0])) := rfl
theorem layX_5 : layX[5]? = some (.inr (4, [24, 25, 26, 0])) := rfl
theorem layX_6 : layX[6]? = some (.inl (0, 10)) := rfl
theorem layX_7 : layX[7]? = some (.inl (0, 6)) := rfl
theorem layX_8 : layX[8]? = some (.inl (0, 60)) := rfl
theorem layX_9 : layX[9]? = some (.inl (0, 6)) := rfl
theorem layX_10 : layX[10]? = some (.inl (1, 6)) := rfl
theorem layX_11 : layX[11]? = some (.inl (0, 26)) := rfl
theorem layX_12 : layX[12]? = some (.inl (0, 26)) := rfl
theorem layX_13 : layX[13]? = some (.inl (0, 156)) := rfl
theorem layX_14 : layX[14]? = some (.inl (1, 156)) := rfl
theorem layX_15 : layX[15]? = some (.inl (0, 14)) := rfl
theorem layX_16 : layX[16]? = some (.inl (0, 14)) := rfl
theorem layX_17 : layX[17]? = some (.inl (0, 14)) := rfl
theorem layX_18 : layX[18]? = some (.inl (0, 14)) := rfl
theorem layX_19 : layX[19]? = some (.inl (0, 84)) := rfl
theorem layX_20 : layX[20]? = some (.inl (1, 84)) := rfl
theorem layX_21 : layX[21]? = some (.inl (0, 20)) := rfl
theorem layX_22 : layX[22]? = some (.inl (0, 6)) := rfl
theorem layX_23 : layX[23]? = some (.inl (0, 6)) := rfl
theorem layX_24 : layX[24]? = some (.inl (0, 6)) := rfl
theorem layX_0_0 : q_lk layX 0 0 = some (5, 3) := rfl
theorem layX_0_1 : q_lk layX 0 1 = some (5, 4) := rfl
theorem layX_0_2 : q_lk layX 0 2 = some (5, 5) := rfl
theorem layX_0_3 : q_lk layX 0 3 = some (5, 6) := rfl
theorem layX_0_4 : q_lk layX 0 4 = some (5, 7) := rfl
theorem layX_0_5 : q_lk layX 0 5 = some (5, 8) := rfl
theorem layX_0_6 : q_lk layX 0 6 = some (5, 9) := rfl
theorem layX_0_7 : q_lk layX 0 7 = some (5, 0) := rfl
theorem layX_0_8 : q_lk layX 0 8 = some (5, 0) := rfl
theorem layX_0_9 : q_lk layX 0 9 = some (5, 0) := rfl
theorem layX_0_10 : q_lk layX 0 10 = some (5, 1) := rfl
theorem layX_1_0 : q_lk layX 1 0 = some (2, 10) := rfl
theorem layX_1_1 : q_lk layX 1 1 = some (2, 0) := rfl
theorem layX_1_2 : q_lk layX 1 2 = some (2, 0) := rfl
theorem layX_1_3 : q_lk layX 1 3 = some (2, 0) := rfl
theorem layX_1_4 : q_lk layX 1 4 = some (2, 11) := rfl
theorem layX_1_5 : q_lk layX 1 5 = some (2, 12) := rfl
theorem layX_1_6 : q_lk layX 1 6 = some (2, 0) := rfl
theorem layX_2_0 : q_lk layX 2 0 = some (3, 13) := rfl
theorem layX_2_1 : q_lk layX 2 1 = some (3, 14) := rfl
theorem layX_2_2 : q_lk layX 2 2 = some (3, 15) := rfl
theorem layX_2_3 : q_lk layX 2 3 = some (3, 16) := rfl
theorem layX_3_0 : q_lk layX 3 0 = some (0, 17) := rfl
theorem layX_3_1 : q_lk layX 3 1 = some (0, 18) := rfl
theorem layX_3_2 : q_lk layX 3 2 = some (0, 19) := rfl
theorem layX_3_3 : q_lk layX 3 3 = some (0, 20) := rfl
theorem layX_3_4 : q_lk layX 3 4 = some (0, 21) := rfl
theorem layX_3_5 : q_lk layX 3 5 = some (0, 22) := rfl
theorem layX_3_6 : q_lk layX 3 6 = some (0, 0) := rfl
theorem layX_3_7 : q_lk layX 3 7 = some (0, 0) := rfl
theorem layX_4_0 : q_lk layX 4 0 = some (1, 23) := rfl
theorem layX_4_1 : q_lk layX 4 1 = some (1, 0) := rfl
theorem layX_5_0 : q_lk layX 5 0 = some (4, 24) := rfl
theorem layX_5_1 : q_lk layX 5 1 = some (4, 25) := rfl
theorem layX_5_2 : q_lk layX 5 2 = some (4, 26) := rfl
theorem layX_5_3 : q_lk layX 5 3 = some (4, 0) := rfl
/-- 0 WidenDeskModel; 1 WidenDeskModel.text[60]; 2 WidenDeskModel.thing[10]; 3 WidenDeskModel.rowOf[10]; 4 WidenDeskModel.kindOf[11]; 5 WidenDeskModel.size[11]; 6 WidenDeskModel.form[66]; 7 WidenDeskModel.kind[66]; 8 WidenDeskModel.value[66]; 9 WidenDeskModel.number[20]; 10 WidenDeskModel.isStar[20]; 11 WidenDeskModel.reports[6]; 12 WidenDeskModel.oldThing[140]; 13 WidenDeskModel.oldRow[140]; 14 WidenDeskModel.oldKindOf[154]; 15 WidenDeskModel.oldSize[154]; 16 WidenDeskModel.oldForm[924]; 17 WidenDeskModel.oldKind[924]; 18 WidenDeskModel.oldValue[924]; 19 WidenDeskModel.oldNumber[280]; 20 WidenDeskModel.oldMarks[14]; 21 WidenDeskModel.seenHow[6]; 22 WidenDeskModel.seenKind[6]; 23 WidenDeskModel.seenReason[6]; 24 WidenDeskModel.newForm[6]; 25 WidenDeskModel.newCellKind[6]; 26 WidenDeskModel.newValue[6]; 27 WidenDeskModel.ends[64]; 28 WidenDeskModel.manyEnds[8] -/
def layM : List Sh := [.inr (6, [3, 0, 4, 5, 6, 7, 8, 9, 10, 11, 12, 0, 0, 0, 1, 13, 0, 14, 15, 16, 17, 18, 19, 20, 21, 22, 0, 0, 23, 24, 25, 0, 0, 0, 26, 27, 28, 0, 0, 1, 29, 30, 1, 0, 0, 1, 0]), .inl (0, 60), .inl (0, 10), .inl (0, 10), .inl (0, 11), .inl (0, 11), .inl (0, 66), .inl (0, 66), .inl (1, 66), .inl (0, 20), .inl (2, 20), .inl (0, 6), .inl (0, 140), .inl (0, 140), .inl (0, 154), .inl (0, 154), .inl (0, 924), .inl (0, 924), .inl (1, 924), .inl (0, 280), .inl (0, 14), .inl (0, 6), .inl (0, 6), .inl (0, 6), .inl (0, 6), .inl (0, 6), .inl (1, 6), .inl (1, 64), .inl (0, 8)]
theorem layM_0 : layM[0]? = some (.inr (6, [3, 0, 4, 5, 6, 7, 8, 9, 10, 11, 12, 0, 0, 0, 1, 13, 0, 14, 15, 16, 17, 18, 19, 20, 21, 22, 0, 0, 23, 24, 25, 0, 0, 0, 26, 27, 28, 0, 0, 1, 29, 30, 1, 0, 0, 1, 0])) := rfl
theorem layM_1 : layM[1]? = some (.inl (0, 60)) := rfl
theorem layM_2 : layM[2]? = some (.inl (0, 10)) := rfl
theorem layM_3 : layM[3]? = some (.inl (0, 10)) := rfl
theorem layM_4 : layM[4]? = some (.inl (0, 11)) := rfl
theorem layM_5 : layM[5]? = some (.inl (0, 11)) := rfl
theorem layM_6 : layM[6]? = some (.inl (0, 66)) := rfl
theorem layM_7 : layM[7]? = some (.inl (0, 66)) := rfl
theorem layM_8 : layM[8]? = some (.inl (1, 66)) := rfl
theorem layM_9 : layM[9]? = some (.inl (0, 20)) := rfl
theorem layM_10 : layM[10]? = some (.inl (2, 20)) := rfl
theorem layM_11 : layM[11]? = some (.inl (0, 6)) := rfl
theorem layM_12 : layM[12]? = some (.inl (0, 140)) := rfl
theorem layM_13 : layM[13]? = some (.inl (0, 140)) := rfl
theorem layM_14 : layM[14]? = some (.inl (0, 154)) := rfl
theorem layM_15 : layM[15]? = some (.inl (0, 154)) := rfl
theorem layM_16 : layM[16]? = some (.inl (0, 924)) := rfl
theorem layM_17 : layM[17]? = some (.inl (0, 924)) := rfl
theorem layM_18 : layM[18]? = some (.inl (1, 924)) := rfl
theorem layM_19 : layM[19]? = some (.inl (0, 280)) := rfl
theorem layM_20 : layM[20]? = some (.inl (0, 14)) := rfl
theorem layM_21 : layM[21]? = some (.inl (0, 6)) := rfl
theorem layM_22 : layM[22]? = some (.inl (0, 6)) := rfl
theorem layM_23 : layM[23]? = some (.inl (0, 6)) := rfl
theorem layM_24 : layM[24]? = some (.inl (0, 6)) := rfl
theorem layM_25 : layM[25]? = some (.inl (0, 6)) := rfl
theorem layM_26 : layM[26]? = some (.inl (1, 6)) := rfl
theorem layM_27 : layM[27]? = some (.inl (1, 64)) := rfl
theorem layM_28 : layM[28]? = some (.inl (0, 8)) := rfl
theorem layM_0_0 : q_lk layM 0 0 = some (6, 3) := rfl
theorem layM_0_1 : q_lk layM 0 1 = some (6, 0) := rfl
theorem layM_0_2 : q_lk layM 0 2 = some (6, 4) := rfl
theorem layM_0_3 : q_lk layM 0 3 = some (6, 5) := rfl
theorem layM_0_4 : q_lk layM 0 4 = some (6, 6) := rfl
theorem layM_0_5 : q_lk layM 0 5 = some (6, 7) := rfl
theorem layM_0_6 : q_lk layM 0 6 = some (6, 8) := rfl
theorem layM_0_7 : q_lk layM 0 7 = some (6, 9) := rfl
theorem layM_0_8 : q_lk layM 0 8 = some (6, 10) := rfl
theorem layM_0_9 : q_lk layM 0 9 = some (6, 11) := rfl
theorem layM_0_10 : q_lk layM 0 10 = some (6, 12) := rfl
theorem layM_0_11 : q_lk layM 0 11 = some (6, 0) := rfl
theorem layM_0_12 : q_lk layM 0 12 = some (6, 0) := rfl
theorem layM_0_13 : q_lk layM 0 13 = some (6, 0) := rfl
theorem layM_0_14 : q_lk layM 0 14 = some (6, 1) := rfl
theorem layM_0_15 : q_lk layM 0 15 = some (6, 13) := rfl
theorem layM_0_16 : q_lk layM 0 16 = some (6, 0) := rfl
theorem layM_0_17 : q_lk layM 0 17 = some (6, 14) := rfl
theorem layM_0_18 : q_lk layM 0 18 = some (6, 15) := rfl
theorem layM_0_19 : q_lk layM 0 19 = some (6, 16) := rfl
theorem layM_0_20 : q_lk layM 0 20 = some (6, 17) := rfl
theorem layM_0_21 : q_lk layM 0 21 = some (6, 18) := rfl
theorem layM_0_22 : q_lk layM 0 22 = some (6, 19) := rfl
theorem layM_0_23 : q_lk layM 0 23 = some (6, 20) := rfl
theorem layM_0_24 : q_lk layM 0 24 = some (6, 21) := rfl
theorem layM_0_25 : q_lk layM 0 25 = some (6, 22) := rfl
theorem layM_0_26 : q_lk layM 0 26 = some (6, 0) := rfl
theorem layM_0_27 : q_lk layM 0 27 = some (6, 0) := rfl
theorem layM_0_28 : q_lk layM 0 28 = some (6, 23) := rfl
theorem layM_0_29 : q_lk layM 0 29 = some (6, 24) := rfl
theorem layM_0_30 : q_lk layM 0 30 = some (6, 25) := rfl
theorem layM_0_31 : q_lk layM 0 31 = some (6, 0) := rfl
theorem layM_0_32 : q_lk layM 0 32 = some (6, 0) := rfl
theorem layM_0_33 : q_lk layM 0 33 = some (6, 0) := rfl
theorem layM_0_34 : q_lk layM 0 34 = some (6, 26) := rfl
theorem layM_0_35 : q_lk layM 0 35 = some (6, 27) := rfl
theorem layM_0_36 : q_lk layM 0 36 = some (6, 28) := rfl
theorem layM_0_37 : q_lk layM 0 37 = some (6, 0) := rfl
theorem layM_0_38 : q_lk layM 0 38 = some (6, 0) := rfl
theorem layM_0_39 : q_lk layM 0 39 = some (6, 1) := rfl
theorem layM_0_40 : q_lk layM 0 40 = some (6, 29) := rfl
theorem layM_0_41 : q_lk layM 0 41 = some (6, 30) := rfl
theorem layM_0_42 : q_lk layM 0 42 = some (6, 1) := rfl
theorem layM_0_43 : q_lk layM 0 43 = some (6, 0) := rfl
theorem layM_0_44 : q_lk layM 0 44 = some (6, 0) := rfl
theorem layM_0_45 : q_lk layM 0 45 = some (6, 1) := rfl
theorem layM_0_46 : q_lk layM 0 46 = some (6, 0) := rfl
theorem cb_m9 : (Int8.ofInt (-9)).toInt32 = (-9) := by decide
theorem cb_m4 : (Int8.ofInt (-4)).toInt32 = (-4) := by decide
theorem cb_m3 : (Int8.ofInt (-3)).toInt32 = (-3) := by decide
theorem cb_m2 : (Int8.ofInt (-2)).toInt32 = (-2) := by decide
theorem cb_6 : (Int8.ofInt 6).toInt32 = 6 := by decide
theorem cb_7 : (Int8.ofInt 7).toInt32 = 7 := by decide
theorem cb_8 : (Int8.ofInt 8).toInt32 = 8 := by decide
theorem cb_9 : (Int8.ofInt 9).toInt32 = 9 := by decide
theorem cb_10 : (Int8.ofInt 10).toInt32 = 10 := by decide
theorem cb_11 : (Int8.ofInt 11).toInt32 = 11 := by decide
theorem cb_12 : (Int8.ofInt 12).toInt32 = 12 := by decide
theorem cb_13 : (Int8.ofInt 13).toInt32 = 13 := by decide
theorem cb_14 : (Int8.ofInt 14).toInt32 = 14 := by decide
theorem cb_15 : (Int8.ofInt 15).toInt32 = 15 := by decide
theorem cb_16 : (Int8.ofInt 16).toInt32 = 16 := by decide
theorem cb_20 : (Int8.ofInt 20).toInt32 = 20 := by decide
theorem cb_23 : (Int8.ofInt 23).toInt32 = 23 := by decide
theorem cb_24 : (Int8.ofInt 24).toInt32 = 24 := by decide
theorem cb_25 : (Int8.ofInt 25).toInt32 = 25 := by decide
theorem cb_29 : (Int8.ofInt 29).toInt32 = 29 := by decide
theorem cb_31 : (Int8.ofInt 31).toInt32 = 31 := by decide
theorem cb_32 : (Int8.ofInt 32).toInt32 = 32 := by decide
theorem cb_42 : (Int8.ofInt 42).toInt32 = 42 := by decide
theorem cb_44 : (Int8.ofInt 44).toInt32 = 44 := by decide
theorem cb_45 : (Int8.ofInt 45).toInt32 = 45 := by decide
theorem cb_48 : (Int8.ofInt 48).toInt32 = 48 := by decide
theorem cb_52 : (Int8.ofInt 52).toInt32 = 52 := by decide
theorem cb_53 : (Int8.ofInt 53).toInt32 = 53 := by decide
theorem cb_57 : (Int8.ofInt 57).toInt32 = 57 := by decide
theorem cb_60 : (Int8.ofInt 60).toInt32 = 60 := by decide
theorem cb_62 : (Int8.ofInt 62).toInt32 = 62 := by decide
theorem cb_63 : (Int8.ofInt 63).toInt32 = 63 := by decide
theorem cb_64 : (Int8.ofInt 64).toInt32 = 64 := by decide
theorem cb_66 : (Int8.ofInt 66).toInt32 = 66 := by decide
theorem cb_99 : (Int8.ofInt 99).toInt32 = 99 := by decide
theorem cb_100 : (Int8.ofInt 100).toInt32 = 100 := by decide
theorem cb_111 : (Int8.ofInt 111).toInt32 = 111 := by decide
theorem cb_116 : (Int8.ofInt 116).toInt32 = 116 := by decide
theorem cb_119 : (Int8.ofInt 119).toInt32 = 119 := by decide
theorem cb_127 : (Int8.ofInt 127).toInt32 = 127 := by decide
theorem ci_m1 : Int32.ofInt (-1) = (-1) := by decide
theorem ci_0 : Int32.ofInt 0 = 0 := by decide
theorem ci_1 : Int32.ofInt 1 = 1 := by decide
theorem ci_2 : Int32.ofInt 2 = 2 := by decide
theorem ci_3 : Int32.ofInt 3 = 3 := by decide
theorem ci_4 : Int32.ofInt 4 = 4 := by decide
theorem ci_5 : Int32.ofInt 5 = 5 := by decide
theorem cx_m16 (x : Int32) : x + Int32.ofInt (-16) = x + (-16) := by rw [show Int32.ofInt (-16) = (-16) by decide]
theorem cx_m8 (x : Int32) : x + Int32.ofInt (-8) = x + (-8) := by rw [show Int32.ofInt (-8) = (-8) by decide]
theorem cx_m4 (x : Int32) : x + Int32.ofInt (-4) = x + (-4) := by rw [show Int32.ofInt (-4) = (-4) by decide]
theorem cx_m2 (x : Int32) : x + Int32.ofInt (-2) = x + (-2) := by rw [show Int32.ofInt (-2) = (-2) by decide]
theorem cx_m1 (x : Int32) : x + Int32.ofInt (-1) = x + (-1) := by rw [show Int32.ofInt (-1) = (-1) by decide]
theorem cx_1 (x : Int32) : x + Int32.ofInt 1 = x + 1 := by rw [show Int32.ofInt 1 = 1 by decide]
theorem cs_255 : (Int16.ofInt 255).toInt32 = 255 := by decide
theorem cs_256 : (Int16.ofInt 256).toInt32 = 256 := by decide
theorem cs_999 : (Int16.ofInt 999).toInt32 = 999 := by decide
theorem cs_1000 : (Int16.ofInt 1000).toInt32 = 1000 := by decide
theorem cs_1023 : (Int16.ofInt 1023).toInt32 = 1023 := by decide
theorem cs_2047 : (Int16.ofInt 2047).toInt32 = 2047 := by decide
theorem cs_9999 : (Int16.ofInt 9999).toInt32 = 9999 := by decide
theorem cl_0 : Int64.ofNat ((0 : Fin 2) : Nat) = 0 := by decide
theorem cl_1 : Int64.ofNat ((1 : Fin 2) : Nat) = 1 := by decide
theorem inTT_X0 : ∀ w ∈ u_ws RX0 TX0 8, w ∈ TT := by
  have h : u_ws RX0 TX0 8 = ([157, 159, 161, 163, 165, 167, 169, 171] : List Nat).filterMap (fun i => lw_tbl[i]?) := by decide +kernel
  have g : ∀ w ∈ u_ws RX0 TX0 8, goodWord w = true := by decide +kernel
  intro w hw
  have hg := g w hw
  rw [h] at hw
  obtain ⟨i, -, hi⟩ := List.mem_filterMap.mp hw
  exact TT_in i hi hg
theorem inTT_X1 : ∀ w ∈ u_ws RX1 TX1 2, w ∈ TT := by
  have h : u_ws RX1 TX1 2 = ([183, 185] : List Nat).filterMap (fun i => lw_tbl[i]?) := by decide +kernel
  have g : ∀ w ∈ u_ws RX1 TX1 2, goodWord w = true := by decide +kernel
  intro w hw
  have hg := g w hw
  rw [h] at hw
  obtain ⟨i, -, hi⟩ := List.mem_filterMap.mp hw
  exact TT_in i hi hg
theorem inTT_X3 : ∀ w ∈ u_ws RX3 TX3 7, w ∈ TT := by
  have h : u_ws RX3 TX3 7 = ([100, 102, 104, 106, 108, 110, 112] : List Nat).filterMap (fun i => lw_tbl[i]?) := by decide +kernel
  have g : ∀ w ∈ u_ws RX3 TX3 7, goodWord w = true := by decide +kernel
  intro w hw
  have hg := g w hw
  rw [h] at hw
  obtain ⟨i, -, hi⟩ := List.mem_filterMap.mp hw
  exact TT_in i hi hg
theorem inTT_X5 : ∀ w ∈ u_ws RX5 TX5 4, w ∈ TT := by
  have h : u_ws RX5 TX5 4 = ([129, 131, 133, 135] : List Nat).filterMap (fun i => lw_tbl[i]?) := by decide +kernel
  have g : ∀ w ∈ u_ws RX5 TX5 4, goodWord w = true := by decide +kernel
  intro w hw
  have hg := g w hw
  rw [h] at hw
  obtain ⟨i, -, hi⟩ := List.mem_filterMap.mp hw
  exact TT_in i hi hg
theorem inTT_X6 : ∀ w ∈ u_ws RX6 TX6 4, w ∈ TT := by
  have h : u_ws RX6 TX6 4 = ([199, 201, 203, 205] : List Nat).filterMap (fun i => lw_tbl[i]?) := by decide +kernel
  have g : ∀ w ∈ u_ws RX6 TX6 4, goodWord w = true := by decide +kernel
  intro w hw
  have hg := g w hw
  rw [h] at hw
  obtain ⟨i, -, hi⟩ := List.mem_filterMap.mp hw
  exact TT_in i hi hg
theorem inTT_X7 : ∀ w ∈ u_ws RX7 TX7 11, w ∈ TT := by
  have h : u_ws RX7 TX7 11 = ([219, 221, 223, 225, 227, 229, 231, 233, 235, 237, 239] : List Nat).filterMap (fun i => lw_tbl[i]?) := by decide +kernel
  have g : ∀ w ∈ u_ws RX7 TX7 11, goodWord w = true := by decide +kernel
  intro w hw
  have hg := g w hw
  rw [h] at hw
  obtain ⟨i, -, hi⟩ := List.mem_filterMap.mp hw
  exact TT_in i hi hg
theorem inTT_X8 : ∀ w ∈ u_ws RX8 TX8 47, w ∈ TT := by
  have h : u_ws RX8 TX8 47 = ([899, 901, 903, 905, 907, 909, 911, 913, 915, 917, 919, 921, 923, 925, 927, 929, 931, 933, 935, 937, 939, 941, 943, 945, 947, 949, 951, 953, 955, 957, 959, 961, 963, 965, 967, 969, 971, 973, 975, 977, 979, 981, 983, 985, 987, 989, 991] : List Nat).filterMap (fun i => lw_tbl[i]?) := by decide +kernel
  have g : ∀ w ∈ u_ws RX8 TX8 47, goodWord w = true := by decide +kernel
  intro w hw
  have hg := g w hw
  rw [h] at hw
  obtain ⟨i, -, hi⟩ := List.mem_filterMap.mp hw
  exact TT_in i hi hg
theorem fdX7_12 : q_Fd RX7 12 5 0 (.object "WidenDesk$Reader") true := ⟨RX7, TX7, 11, tyX7, rfl, by decide, inTT_X7, TT_in 208 (by decide +kernel) rfl, tyX7_ok, nmX7, rfl, rfl⟩
theorem fdX7_19 : q_Fd RX7 19 5 1 (.object "WidenDesk$Shelf") true := ⟨RX7, TX7, 11, tyX7, rfl, by decide, inTT_X7, TT_in 209 (by decide +kernel) rfl, tyX7_ok, nmX7, rfl, rfl⟩
theorem fdX7_26 : q_Fd RX7 26 5 2 (.object "WidenDesk$Log") true := ⟨RX7, TX7, 11, tyX7, rfl, by decide, inTT_X7, TT_in 210 (by decide +kernel) rfl, tyX7_ok, nmX7, rfl, rfl⟩
theorem fdX7_33 : q_Fd RX7 33 5 3 (.object "WidenDesk$Marks") true := ⟨RX7, TX7, 11, tyX7, rfl, by decide, inTT_X7, TT_in 211 (by decide +kernel) rfl, tyX7_ok, nmX7, rfl, rfl⟩
theorem fdX7_40 : q_Fd RX7 40 5 4 (.object "WidenDesk$Views") true := ⟨RX7, TX7, 11, tyX7, rfl, by decide, inTT_X7, TT_in 212 (by decide +kernel) rfl, tyX7_ok, nmX7, rfl, rfl⟩
theorem fdX7_44 : q_Fd RX7 44 5 5 (.array .int) true := ⟨RX7, TX7, 11, tyX7, rfl, by decide, inTT_X7, TT_in 213 (by decide +kernel) rfl, tyX7_ok, nmX7, rfl, rfl⟩
theorem fdX7_48 : q_Fd RX7 48 5 6 (.array .int) true := ⟨RX7, TX7, 11, tyX7, rfl, by decide, inTT_X7, TT_in 214 (by decide +kernel) rfl, tyX7_ok, nmX7, rfl, rfl⟩
theorem fdX7_51 : q_Fd RX7 51 5 7 .int false := ⟨RX7, TX7, 11, tyX7, rfl, by decide, inTT_X7, TT_in 215 (by decide +kernel) rfl, tyX7_ok, nmX7, rfl, rfl⟩
theorem fdX7_55 : q_Fd RX7 55 5 8 .int false := ⟨RX7, TX7, 11, tyX7, rfl, by decide, inTT_X7, TT_in 216 (by decide +kernel) rfl, tyX7_ok, nmX7, rfl, rfl⟩
theorem fdX7_58 : q_Fd RX7 58 5 9 .int false := ⟨RX7, TX7, 11, tyX7, rfl, by decide, inTT_X7, TT_in 217 (by decide +kernel) rfl, tyX7_ok, nmX7, rfl, rfl⟩
theorem fdX7_61 : q_Fd RX7 61 5 10 .long false := ⟨RX7, TX7, 11, tyX7, rfl, by decide, inTT_X7, TT_in 218 (by decide +kernel) rfl, tyX7_ok, nmX7, rfl, rfl⟩
theorem fdX7_69 : q_Fd RX7 69 2 1 .int false := ⟨RX3, TX3, 7, tyX3, rfl, by decide, inTT_X3, TT_in 90 (by decide +kernel) rfl, tyX3_ok, nmX3, rfl, rfl⟩
theorem fdX7_79 : q_Fd RX7 79 2 2 .int false := ⟨RX3, TX3, 7, tyX3, rfl, by decide, inTT_X3, TT_in 92 (by decide +kernel) rfl, tyX3_ok, nmX3, rfl, rfl⟩
theorem fdX7_82 : q_Fd RX7 82 2 3 .int false := ⟨RX3, TX3, 7, tyX3, rfl, by decide, inTT_X3, TT_in 94 (by decide +kernel) rfl, tyX3_ok, nmX3, rfl, rfl⟩
theorem fdX7_89 : q_Fd RX7 89 2 4 (.array .int) true := ⟨RX3, TX3, 7, tyX3, rfl, by decide, inTT_X3, TT_in 96 (by decide +kernel) rfl, tyX3_ok, nmX3, rfl, rfl⟩
theorem fdX7_92 : q_Fd RX7 92 2 5 (.array .long) true := ⟨RX3, TX3, 7, tyX3, rfl, by decide, inTT_X3, TT_in 98 (by decide +kernel) rfl, tyX3_ok, nmX3, rfl, rfl⟩
theorem fdX7_110 : q_Fd RX7 110 1 1 .int false := ⟨RX1, TX1, 2, tyX1, rfl, by decide, inTT_X1, TT_in 182 (by decide +kernel) rfl, tyX1_ok, nmX1, rfl, rfl⟩
theorem fdX7_111 : q_Fd RX7 111 0 7 .int false := ⟨RX0, TX0, 8, tyX0, rfl, by decide, inTT_X0, TT_in 156 (by decide +kernel) rfl, tyX0_ok, nmX0, rfl, rfl⟩
theorem fdX7_114 : q_Fd RX7 114 4 3 .int false := ⟨RX6, TX6, 4, tyX6, rfl, by decide, inTT_X6, TT_in 198 (by decide +kernel) rfl, tyX6_ok, nmX6, rfl, rfl⟩
theorem fdX7_132 : q_Fd RX7 132 3 1 (.array .int) true := ⟨RX5, TX5, 4, tyX5, rfl, by decide, inTT_X5, TT_in 126 (by decide +kernel) rfl, tyX5_ok, nmX5, rfl, rfl⟩
theorem fdX7_277 : q_Fd RX7 277 0 0 (.array .int) true := ⟨RX0, TX0, 8, tyX0, rfl, by decide, inTT_X0, TT_in 145 (by decide +kernel) rfl, tyX0_ok, nmX0, rfl, rfl⟩
theorem fdX7_280 : q_Fd RX7 280 0 1 (.array .int) true := ⟨RX0, TX0, 8, tyX0, rfl, by decide, inTT_X0, TT_in 147 (by decide +kernel) rfl, tyX0_ok, nmX0, rfl, rfl⟩
theorem fdX7_283 : q_Fd RX7 283 0 2 (.array .int) true := ⟨RX0, TX0, 8, tyX0, rfl, by decide, inTT_X0, TT_in 149 (by decide +kernel) rfl, tyX0_ok, nmX0, rfl, rfl⟩
theorem fdX7_289 : q_Fd RX7 289 0 3 (.array .int) true := ⟨RX0, TX0, 8, tyX0, rfl, by decide, inTT_X0, TT_in 151 (by decide +kernel) rfl, tyX0_ok, nmX0, rfl, rfl⟩
theorem fdX7_292 : q_Fd RX7 292 3 0 (.array .int) true := ⟨RX5, TX5, 4, tyX5, rfl, by decide, inTT_X5, TT_in 124 (by decide +kernel) rfl, tyX5_ok, nmX5, rfl, rfl⟩
theorem fdX0_11 : q_Fd RX0 11 0 0 (.array .int) true := ⟨RX0, TX0, 8, tyX0, rfl, by decide, inTT_X0, TT_in 144 (by decide +kernel) rfl, tyX0_ok, nmX0, rfl, rfl⟩
theorem fdX0_15 : q_Fd RX0 15 0 1 (.array .int) true := ⟨RX0, TX0, 8, tyX0, rfl, by decide, inTT_X0, TT_in 146 (by decide +kernel) rfl, tyX0_ok, nmX0, rfl, rfl⟩
theorem fdX0_18 : q_Fd RX0 18 0 2 (.array .int) true := ⟨RX0, TX0, 8, tyX0, rfl, by decide, inTT_X0, TT_in 148 (by decide +kernel) rfl, tyX0_ok, nmX0, rfl, rfl⟩
theorem fdX0_21 : q_Fd RX0 21 0 3 (.array .int) true := ⟨RX0, TX0, 8, tyX0, rfl, by decide, inTT_X0, TT_in 150 (by decide +kernel) rfl, tyX0_ok, nmX0, rfl, rfl⟩
theorem fdX0_24 : q_Fd RX0 24 0 4 (.array .int) true := ⟨RX0, TX0, 8, tyX0, rfl, by decide, inTT_X0, TT_in 152 (by decide +kernel) rfl, tyX0_ok, nmX0, rfl, rfl⟩
theorem fdX0_27 : q_Fd RX0 27 0 5 (.array .long) true := ⟨RX0, TX0, 8, tyX0, rfl, by decide, inTT_X0, TT_in 153 (by decide +kernel) rfl, tyX0_ok, nmX0, rfl, rfl⟩
theorem fdX0_31 : q_Fd RX0 31 0 6 .int false := ⟨RX0, TX0, 8, tyX0, rfl, by decide, inTT_X0, TT_in 154 (by decide +kernel) rfl, tyX0_ok, nmX0, rfl, rfl⟩
theorem fdX0_35 : q_Fd RX0 35 0 7 .int false := ⟨RX0, TX0, 8, tyX0, rfl, by decide, inTT_X0, TT_in 155 (by decide +kernel) rfl, tyX0_ok, nmX0, rfl, rfl⟩
theorem fdX1_9 : q_Fd RX1 9 1 0 (.array .int) true := ⟨RX1, TX1, 2, tyX1, rfl, by decide, inTT_X1, TT_in 180 (by decide +kernel) rfl, tyX1_ok, nmX1, rfl, rfl⟩
theorem fdX1_13 : q_Fd RX1 13 1 1 .int false := ⟨RX1, TX1, 2, tyX1, rfl, by decide, inTT_X1, TT_in 181 (by decide +kernel) rfl, tyX1_ok, nmX1, rfl, rfl⟩
theorem fdX3_11 : q_Fd RX3 11 2 0 (.array .int) true := ⟨RX3, TX3, 7, tyX3, rfl, by decide, inTT_X3, TT_in 88 (by decide +kernel) rfl, tyX3_ok, nmX3, rfl, rfl⟩
theorem fdX3_15 : q_Fd RX3 15 2 1 .int false := ⟨RX3, TX3, 7, tyX3, rfl, by decide, inTT_X3, TT_in 89 (by decide +kernel) rfl, tyX3_ok, nmX3, rfl, rfl⟩
theorem fdX3_19 : q_Fd RX3 19 2 2 .int false := ⟨RX3, TX3, 7, tyX3, rfl, by decide, inTT_X3, TT_in 91 (by decide +kernel) rfl, tyX3_ok, nmX3, rfl, rfl⟩
theorem fdX3_22 : q_Fd RX3 22 2 3 .int false := ⟨RX3, TX3, 7, tyX3, rfl, by decide, inTT_X3, TT_in 93 (by decide +kernel) rfl, tyX3_ok, nmX3, rfl, rfl⟩
theorem fdX3_25 : q_Fd RX3 25 2 4 (.array .int) true := ⟨RX3, TX3, 7, tyX3, rfl, by decide, inTT_X3, TT_in 95 (by decide +kernel) rfl, tyX3_ok, nmX3, rfl, rfl⟩
theorem fdX3_28 : q_Fd RX3 28 2 5 (.array .long) true := ⟨RX3, TX3, 7, tyX3, rfl, by decide, inTT_X3, TT_in 97 (by decide +kernel) rfl, tyX3_ok, nmX3, rfl, rfl⟩
theorem fdX3_32 : q_Fd RX3 32 2 6 .int false := ⟨RX3, TX3, 7, tyX3, rfl, by decide, inTT_X3, TT_in 99 (by decide +kernel) rfl, tyX3_ok, nmX3, rfl, rfl⟩
theorem fdX5_13 : q_Fd RX5 13 3 0 (.array .int) true := ⟨RX5, TX5, 4, tyX5, rfl, by decide, inTT_X5, TT_in 123 (by decide +kernel) rfl, tyX5_ok, nmX5, rfl, rfl⟩
theorem fdX5_17 : q_Fd RX5 17 3 1 (.array .int) true := ⟨RX5, TX5, 4, tyX5, rfl, by decide, inTT_X5, TT_in 125 (by decide +kernel) rfl, tyX5_ok, nmX5, rfl, rfl⟩
theorem fdX5_20 : q_Fd RX5 20 3 2 (.array .int) true := ⟨RX5, TX5, 4, tyX5, rfl, by decide, inTT_X5, TT_in 127 (by decide +kernel) rfl, tyX5_ok, nmX5, rfl, rfl⟩
theorem fdX5_23 : q_Fd RX5 23 3 3 (.array .long) true := ⟨RX5, TX5, 4, tyX5, rfl, by decide, inTT_X5, TT_in 128 (by decide +kernel) rfl, tyX5_ok, nmX5, rfl, rfl⟩
theorem fdX6_11 : q_Fd RX6 11 4 0 (.array .int) true := ⟨RX6, TX6, 4, tyX6, rfl, by decide, inTT_X6, TT_in 194 (by decide +kernel) rfl, tyX6_ok, nmX6, rfl, rfl⟩
theorem fdX6_15 : q_Fd RX6 15 4 1 (.array .int) true := ⟨RX6, TX6, 4, tyX6, rfl, by decide, inTT_X6, TT_in 195 (by decide +kernel) rfl, tyX6_ok, nmX6, rfl, rfl⟩
theorem fdX6_18 : q_Fd RX6 18 4 2 (.array .int) true := ⟨RX6, TX6, 4, tyX6, rfl, by decide, inTT_X6, TT_in 196 (by decide +kernel) rfl, tyX6_ok, nmX6, rfl, rfl⟩
theorem fdX6_21 : q_Fd RX6 21 4 3 .int false := ⟨RX6, TX6, 4, tyX6, rfl, by decide, inTT_X6, TT_in 197 (by decide +kernel) rfl, tyX6_ok, nmX6, rfl, rfl⟩
theorem fdX8_7 : q_Fd RX8 7 6 0 (.array .int) true := ⟨RX8, TX8, 47, tyX8, rfl, by decide, inTT_X8, TT_in 852 (by decide +kernel) rfl, tyX8_ok, nmX8, rfl, rfl⟩
theorem fdX8_13 : q_Fd RX8 13 6 2 (.array .int) true := ⟨RX8, TX8, 47, tyX8, rfl, by decide, inTT_X8, TT_in 854 (by decide +kernel) rfl, tyX8_ok, nmX8, rfl, rfl⟩
theorem fdX8_16 : q_Fd RX8 16 6 3 (.array .int) true := ⟨RX8, TX8, 47, tyX8, rfl, by decide, inTT_X8, TT_in 855 (by decide +kernel) rfl, tyX8_ok, nmX8, rfl, rfl⟩
theorem fdX8_19 : q_Fd RX8 19 6 4 (.array .int) true := ⟨RX8, TX8, 47, tyX8, rfl, by decide, inTT_X8, TT_in 856 (by decide +kernel) rfl, tyX8_ok, nmX8, rfl, rfl⟩
theorem fdX8_22 : q_Fd RX8 22 6 5 (.array .int) true := ⟨RX8, TX8, 47, tyX8, rfl, by decide, inTT_X8, TT_in 857 (by decide +kernel) rfl, tyX8_ok, nmX8, rfl, rfl⟩
theorem fdX8_25 : q_Fd RX8 25 6 6 (.array .int) true := ⟨RX8, TX8, 47, tyX8, rfl, by decide, inTT_X8, TT_in 858 (by decide +kernel) rfl, tyX8_ok, nmX8, rfl, rfl⟩
theorem fdX8_28 : q_Fd RX8 28 6 7 (.array .int) true := ⟨RX8, TX8, 47, tyX8, rfl, by decide, inTT_X8, TT_in 859 (by decide +kernel) rfl, tyX8_ok, nmX8, rfl, rfl⟩
theorem fdX8_31 : q_Fd RX8 31 6 8 (.array .long) true := ⟨RX8, TX8, 47, tyX8, rfl, by decide, inTT_X8, TT_in 860 (by decide +kernel) rfl, tyX8_ok, nmX8, rfl, rfl⟩
theorem fdX8_35 : q_Fd RX8 35 6 9 (.array .int) true := ⟨RX8, TX8, 47, tyX8, rfl, by decide, inTT_X8, TT_in 861 (by decide +kernel) rfl, tyX8_ok, nmX8, rfl, rfl⟩
theorem fdX8_38 : q_Fd RX8 38 6 10 (.array .boolean) true := ⟨RX8, TX8, 47, tyX8, rfl, by decide, inTT_X8, TT_in 862 (by decide +kernel) rfl, tyX8_ok, nmX8, rfl, rfl⟩
theorem fdX8_42 : q_Fd RX8 42 6 15 (.array .int) true := ⟨RX8, TX8, 47, tyX8, rfl, by decide, inTT_X8, TT_in 867 (by decide +kernel) rfl, tyX8_ok, nmX8, rfl, rfl⟩
theorem fdX8_45 : q_Fd RX8 45 6 17 (.array .int) true := ⟨RX8, TX8, 47, tyX8, rfl, by decide, inTT_X8, TT_in 869 (by decide +kernel) rfl, tyX8_ok, nmX8, rfl, rfl⟩
theorem fdX8_48 : q_Fd RX8 48 6 18 (.array .int) true := ⟨RX8, TX8, 47, tyX8, rfl, by decide, inTT_X8, TT_in 870 (by decide +kernel) rfl, tyX8_ok, nmX8, rfl, rfl⟩
theorem fdX8_51 : q_Fd RX8 51 6 19 (.array .int) true := ⟨RX8, TX8, 47, tyX8, rfl, by decide, inTT_X8, TT_in 871 (by decide +kernel) rfl, tyX8_ok, nmX8, rfl, rfl⟩
theorem fdX8_54 : q_Fd RX8 54 6 20 (.array .int) true := ⟨RX8, TX8, 47, tyX8, rfl, by decide, inTT_X8, TT_in 872 (by decide +kernel) rfl, tyX8_ok, nmX8, rfl, rfl⟩
theorem fdX8_57 : q_Fd RX8 57 6 21 (.array .int) true := ⟨RX8, TX8, 47, tyX8, rfl, by decide, inTT_X8, TT_in 873 (by decide +kernel) rfl, tyX8_ok, nmX8, rfl, rfl⟩
theorem fdX8_60 : q_Fd RX8 60 6 22 (.array .int) true := ⟨RX8, TX8, 47, tyX8, rfl, by decide, inTT_X8, TT_in 874 (by decide +kernel) rfl, tyX8_ok, nmX8, rfl, rfl⟩
theorem fdX8_63 : q_Fd RX8 63 6 23 (.array .long) true := ⟨RX8, TX8, 47, tyX8, rfl, by decide, inTT_X8, TT_in 875 (by decide +kernel) rfl, tyX8_ok, nmX8, rfl, rfl⟩
theorem fdX8_66 : q_Fd RX8 66 6 24 (.array .int) true := ⟨RX8, TX8, 47, tyX8, rfl, by decide, inTT_X8, TT_in 876 (by decide +kernel) rfl, tyX8_ok, nmX8, rfl, rfl⟩
theorem fdX8_69 : q_Fd RX8 69 6 25 (.array .int) true := ⟨RX8, TX8, 47, tyX8, rfl, by decide, inTT_X8, TT_in 877 (by decide +kernel) rfl, tyX8_ok, nmX8, rfl, rfl⟩
theorem fdX8_72 : q_Fd RX8 72 6 28 (.array .int) true := ⟨RX8, TX8, 47, tyX8, rfl, by decide, inTT_X8, TT_in 880 (by decide +kernel) rfl, tyX8_ok, nmX8, rfl, rfl⟩
theorem fdX8_75 : q_Fd RX8 75 6 29 (.array .int) true := ⟨RX8, TX8, 47, tyX8, rfl, by decide, inTT_X8, TT_in 881 (by decide +kernel) rfl, tyX8_ok, nmX8, rfl, rfl⟩
theorem fdX8_78 : q_Fd RX8 78 6 30 (.array .int) true := ⟨RX8, TX8, 47, tyX8, rfl, by decide, inTT_X8, TT_in 882 (by decide +kernel) rfl, tyX8_ok, nmX8, rfl, rfl⟩
theorem fdX8_81 : q_Fd RX8 81 6 34 (.array .int) true := ⟨RX8, TX8, 47, tyX8, rfl, by decide, inTT_X8, TT_in 886 (by decide +kernel) rfl, tyX8_ok, nmX8, rfl, rfl⟩
theorem fdX8_84 : q_Fd RX8 84 6 35 (.array .int) true := ⟨RX8, TX8, 47, tyX8, rfl, by decide, inTT_X8, TT_in 887 (by decide +kernel) rfl, tyX8_ok, nmX8, rfl, rfl⟩
theorem fdX8_87 : q_Fd RX8 87 6 36 (.array .long) true := ⟨RX8, TX8, 47, tyX8, rfl, by decide, inTT_X8, TT_in 888 (by decide +kernel) rfl, tyX8_ok, nmX8, rfl, rfl⟩
theorem fdX8_90 : q_Fd RX8 90 6 40 (.array .long) true := ⟨RX8, TX8, 47, tyX8, rfl, by decide, inTT_X8, TT_in 892 (by decide +kernel) rfl, tyX8_ok, nmX8, rfl, rfl⟩
theorem fdX8_93 : q_Fd RX8 93 6 41 (.array .int) true := ⟨RX8, TX8, 47, tyX8, rfl, by decide, inTT_X8, TT_in 893 (by decide +kernel) rfl, tyX8_ok, nmX8, rfl, rfl⟩
theorem fdX8_102 : q_Fd RX8 102 6 42 .long false := ⟨RX8, TX8, 47, tyX8, rfl, by decide, inTT_X8, TT_in 894 (by decide +kernel) rfl, tyX8_ok, nmX8, rfl, rfl⟩
theorem fdX8_106 : q_Fd RX8 106 6 43 .int false := ⟨RX8, TX8, 47, tyX8, rfl, by decide, inTT_X8, TT_in 895 (by decide +kernel) rfl, tyX8_ok, nmX8, rfl, rfl⟩
theorem fdX8_162 : q_Fd RX8 162 6 1 .int false := ⟨RX8, TX8, 47, tyX8, rfl, by decide, inTT_X8, TT_in 853 (by decide +kernel) rfl, tyX8_ok, nmX8, rfl, rfl⟩
theorem fdX8_169 : q_Fd RX8 169 6 44 .int false := ⟨RX8, TX8, 47, tyX8, rfl, by decide, inTT_X8, TT_in 896 (by decide +kernel) rfl, tyX8_ok, nmX8, rfl, rfl⟩
theorem fdX8_183 : q_Fd RX8 183 6 45 .long false := ⟨RX8, TX8, 47, tyX8, rfl, by decide, inTT_X8, TT_in 897 (by decide +kernel) rfl, tyX8_ok, nmX8, rfl, rfl⟩
theorem fdX8_186 : q_Fd RX8 186 6 46 .boolean false := ⟨RX8, TX8, 47, tyX8, rfl, by decide, inTT_X8, TT_in 898 (by decide +kernel) rfl, tyX8_ok, nmX8, rfl, rfl⟩
theorem fdX8_192 : q_Fd RX8 192 6 33 .int false := ⟨RX8, TX8, 47, tyX8, rfl, by decide, inTT_X8, TT_in 885 (by decide +kernel) rfl, tyX8_ok, nmX8, rfl, rfl⟩
theorem fdX8_195 : q_Fd RX8 195 6 32 .int false := ⟨RX8, TX8, 47, tyX8, rfl, by decide, inTT_X8, TT_in 884 (by decide +kernel) rfl, tyX8_ok, nmX8, rfl, rfl⟩
theorem fdX8_227 : q_Fd RX8 227 6 27 .int false := ⟨RX8, TX8, 47, tyX8, rfl, by decide, inTT_X8, TT_in 879 (by decide +kernel) rfl, tyX8_ok, nmX8, rfl, rfl⟩
theorem fdX8_230 : q_Fd RX8 230 6 11 .int false := ⟨RX8, TX8, 47, tyX8, rfl, by decide, inTT_X8, TT_in 863 (by decide +kernel) rfl, tyX8_ok, nmX8, rfl, rfl⟩
theorem fdX8_233 : q_Fd RX8 233 6 26 .int false := ⟨RX8, TX8, 47, tyX8, rfl, by decide, inTT_X8, TT_in 878 (by decide +kernel) rfl, tyX8_ok, nmX8, rfl, rfl⟩
theorem fdX8_248 : q_Fd RX8 248 6 16 .int false := ⟨RX8, TX8, 47, tyX8, rfl, by decide, inTT_X8, TT_in 868 (by decide +kernel) rfl, tyX8_ok, nmX8, rfl, rfl⟩
theorem fdX8_251 : q_Fd RX8 251 6 31 .int false := ⟨RX8, TX8, 47, tyX8, rfl, by decide, inTT_X8, TT_in 883 (by decide +kernel) rfl, tyX8_ok, nmX8, rfl, rfl⟩
theorem fdX8_270 : q_Fd RX8 270 6 37 .int false := ⟨RX8, TX8, 47, tyX8, rfl, by decide, inTT_X8, TT_in 889 (by decide +kernel) rfl, tyX8_ok, nmX8, rfl, rfl⟩
theorem fdX8_273 : q_Fd RX8 273 6 38 .int false := ⟨RX8, TX8, 47, tyX8, rfl, by decide, inTT_X8, TT_in 890 (by decide +kernel) rfl, tyX8_ok, nmX8, rfl, rfl⟩
theorem fdX8_276 : q_Fd RX8 276 6 39 .long false := ⟨RX8, TX8, 47, tyX8, rfl, by decide, inTT_X8, TT_in 891 (by decide +kernel) rfl, tyX8_ok, nmX8, rfl, rfl⟩
theorem fdX8_296 : q_Fd RX8 296 6 12 .int false := ⟨RX8, TX8, 47, tyX8, rfl, by decide, inTT_X8, TT_in 864 (by decide +kernel) rfl, tyX8_ok, nmX8, rfl, rfl⟩
theorem fdX8_299 : q_Fd RX8 299 6 13 .int false := ⟨RX8, TX8, 47, tyX8, rfl, by decide, inTT_X8, TT_in 865 (by decide +kernel) rfl, tyX8_ok, nmX8, rfl, rfl⟩
theorem fdX8_302 : q_Fd RX8 302 6 14 .long false := ⟨RX8, TX8, 47, tyX8, rfl, by decide, inTT_X8, TT_in 866 (by decide +kernel) rfl, tyX8_ok, nmX8, rfl, rfl⟩
theorem lkX7_65 : q_LkV RX7 65 yX3_append cX3_append 2 (some .boolean) 1 2 := ⟨⟨TT_in 249 (by decide +kernel) rfl, TT_in 246 (by decide +kernel) rfl, TT_in 58 (by decide +kernel) rfl, ⟨by decide, by decide⟩, by decide +kernel, by decide⟩, TT_in 247 (by decide +kernel) rfl, TT_in 248 (by decide +kernel) rfl, ⟨_, _, rfl⟩⟩
theorem lkX7_72 : q_LkV RX7 72 yX3_scan cX3_scan 1 (some .int) 0 2 := ⟨⟨TT_in 261 (by decide +kernel) rfl, TT_in 258 (by decide +kernel) rfl, TT_in 58 (by decide +kernel) rfl, ⟨by decide, by decide⟩, by decide +kernel, by decide⟩, TT_in 259 (by decide +kernel) rfl, TT_in 260 (by decide +kernel) rfl, ⟨_, _, rfl⟩⟩
theorem lkX7_76 : q_LkS RX7 76 yX7_isSlot cX7_isSlot 1 (some .boolean) 1 := ⟨⟨TT_in 409 (by decide +kernel) rfl, TT_in 407 (by decide +kernel) rfl, TT_in 57 (by decide +kernel) rfl, ⟨by decide, by decide⟩, by decide +kernel, by decide⟩, TT_in 408 (by decide +kernel) rfl⟩
theorem lkX7_85 : q_LkV RX7 85 yX7_newRow cX7_newRow 4 (some .int) 2 5 := ⟨⟨TT_in 413 (by decide +kernel) rfl, TT_in 410 (by decide +kernel) rfl, TT_in 57 (by decide +kernel) rfl, ⟨by decide, by decide⟩, by decide +kernel, by decide⟩, TT_in 412 (by decide +kernel) rfl, TT_in 5 (by decide +kernel) rfl, ⟨_, _, rfl⟩⟩
theorem lkX7_96 : q_LkS RX7 96 yX2_ofWhole cX2_ofWhole 3 (some .long) 2 := ⟨⟨TT_in 444 (by decide +kernel) rfl, TT_in 442 (by decide +kernel) rfl, TT_in 70 (by decide +kernel) rfl, ⟨by decide, by decide⟩, by decide +kernel, by decide⟩, TT_in 443 (by decide +kernel) rfl⟩
theorem lkX7_102 : q_LkV RX7 102 yX5_set cX5_set 6 none 4 3 := ⟨⟨TT_in 441 (by decide +kernel) rfl, TT_in 465 (by decide +kernel) rfl, TT_in 59 (by decide +kernel) rfl, ⟨by decide, by decide⟩, by decide +kernel, by decide⟩, TT_in 439 (by decide +kernel) rfl, TT_in 440 (by decide +kernel) rfl, ⟨_, _, rfl⟩⟩
theorem lkX7_106 : q_LkV RX7 106 yX7_replace cX7_replace 3 none 2 5 := ⟨⟨TT_in 469 (by decide +kernel) rfl, TT_in 466 (by decide +kernel) rfl, TT_in 57 (by decide +kernel) rfl, ⟨by decide, by decide⟩, by decide +kernel, by decide⟩, TT_in 468 (by decide +kernel) rfl, TT_in 9 (by decide +kernel) rfl, ⟨_, _, rfl⟩⟩
theorem lkX7_115 : q_LkV RX7 115 yX7_countArrays cX7_countArrays 5 (some .int) 1 5 := ⟨⟨TT_in 486 (by decide +kernel) rfl, TT_in 483 (by decide +kernel) rfl, TT_in 57 (by decide +kernel) rfl, ⟨by decide, by decide⟩, by decide +kernel, by decide⟩, TT_in 485 (by decide +kernel) rfl, TT_in 11 (by decide +kernel) rfl, ⟨_, _, rfl⟩⟩
theorem lkX7_119 : q_LkV RX7 119 yX7_countEmptySlots cX7_countEmptySlots 3 (some .int) 0 5 := ⟨⟨TT_in 498 (by decide +kernel) rfl, TT_in 495 (by decide +kernel) rfl, TT_in 57 (by decide +kernel) rfl, ⟨by decide, by decide⟩, by decide +kernel, by decide⟩, TT_in 497 (by decide +kernel) rfl, TT_in 14 (by decide +kernel) rfl, ⟨_, _, rfl⟩⟩
theorem lkX7_122 : q_LkV RX7 122 yX7_countFine cX7_countFine 3 (some .int) 0 5 := ⟨⟨TT_in 502 (by decide +kernel) rfl, TT_in 499 (by decide +kernel) rfl, TT_in 57 (by decide +kernel) rfl, ⟨by decide, by decide⟩, by decide +kernel, by decide⟩, TT_in 501 (by decide +kernel) rfl, TT_in 15 (by decide +kernel) rfl, ⟨_, _, rfl⟩⟩
theorem lkX7_125 : q_LkV RX7 125 yX7_thingIn cX7_thingIn 2 (some .int) 1 5 := ⟨⟨TT_in 494 (by decide +kernel) rfl, TT_in 491 (by decide +kernel) rfl, TT_in 57 (by decide +kernel) rfl, ⟨by decide, by decide⟩, by decide +kernel, by decide⟩, TT_in 493 (by decide +kernel) rfl, TT_in 13 (by decide +kernel) rfl, ⟨_, _, rfl⟩⟩
theorem lkX7_129 : q_LkV RX7 129 yX7_holdsArray cX7_holdsArray 2 (some .boolean) 1 5 := ⟨⟨TT_in 490 (by decide +kernel) rfl, TT_in 487 (by decide +kernel) rfl, TT_in 57 (by decide +kernel) rfl, ⟨by decide, by decide⟩, by decide +kernel, by decide⟩, TT_in 489 (by decide +kernel) rfl, TT_in 12 (by decide +kernel) rfl, ⟨_, _, rfl⟩⟩
theorem lkX7_139 : q_LkV RX7 139 yX5_has cX5_has 3 (some .boolean) 2 3 := ⟨⟨TT_in 528 (by decide +kernel) rfl, TT_in 525 (by decide +kernel) rfl, TT_in 59 (by decide +kernel) rfl, ⟨by decide, by decide⟩, by decide +kernel, by decide⟩, TT_in 526 (by decide +kernel) rfl, TT_in 527 (by decide +kernel) rfl, ⟨_, _, rfl⟩⟩
theorem lkX7_145 : q_LkV RX7 145 yX5_typeAt cX5_typeAt 3 (some .int) 2 3 := ⟨⟨TT_in 533 (by decide +kernel) rfl, TT_in 530 (by decide +kernel) rfl, TT_in 59 (by decide +kernel) rfl, ⟨by decide, by decide⟩, by decide +kernel, by decide⟩, TT_in 531 (by decide +kernel) rfl, TT_in 532 (by decide +kernel) rfl, ⟨_, _, rfl⟩⟩
theorem lkX7_148 : q_LkV RX7 148 yX5_codeAt cX5_codeAt 3 (some .long) 2 3 := ⟨⟨TT_in 537 (by decide +kernel) rfl, TT_in 534 (by decide +kernel) rfl, TT_in 59 (by decide +kernel) rfl, ⟨by decide, by decide⟩, by decide +kernel, by decide⟩, TT_in 535 (by decide +kernel) rfl, TT_in 536 (by decide +kernel) rfl, ⟨_, _, rfl⟩⟩
theorem lkX7_152 : q_LkV RX7 152 yX7_shownCode cX7_shownCode 4 (some .long) 2 5 := ⟨⟨TT_in 541 (by decide +kernel) rfl, TT_in 538 (by decide +kernel) rfl, TT_in 57 (by decide +kernel) rfl, ⟨by decide, by decide⟩, by decide +kernel, by decide⟩, TT_in 540 (by decide +kernel) rfl, TT_in 16 (by decide +kernel) rfl, ⟨_, _, rfl⟩⟩
theorem lkX7_155 : q_LkS RX7 155 yX7_markIndex cX7_markIndex 3 (some .long) 2 := ⟨⟨TT_in 551 (by decide +kernel) rfl, TT_in 549 (by decide +kernel) rfl, TT_in 57 (by decide +kernel) rfl, ⟨by decide, by decide⟩, by decide +kernel, by decide⟩, TT_in 550 (by decide +kernel) rfl⟩
theorem lkX7_158 : q_LkS RX7 158 yX7_isPrimitive cX7_isPrimitive 1 (some .boolean) 1 := ⟨⟨TT_in 369 (by decide +kernel) rfl, TT_in 557 (by decide +kernel) rfl, TT_in 57 (by decide +kernel) rfl, ⟨by decide, by decide⟩, by decide +kernel, by decide⟩, TT_in 368 (by decide +kernel) rfl⟩
theorem lkX7_161 : q_LkS RX7 161 yX2_made cX2_made 3 (some .long) 2 := ⟨⟨TT_in 560 (by decide +kernel) rfl, TT_in 558 (by decide +kernel) rfl, TT_in 70 (by decide +kernel) rfl, ⟨by decide, by decide⟩, by decide +kernel, by decide⟩, TT_in 559 (by decide +kernel) rfl⟩
theorem lkX7_164 : q_LkV RX7 164 yX7_hold cX7_hold 5 none 3 5 := ⟨⟨TT_in 564 (by decide +kernel) rfl, TT_in 561 (by decide +kernel) rfl, TT_in 57 (by decide +kernel) rfl, ⟨by decide, by decide⟩, by decide +kernel, by decide⟩, TT_in 563 (by decide +kernel) rfl, TT_in 17 (by decide +kernel) rfl, ⟨_, _, rfl⟩⟩
theorem lkX7_168 : q_LkS RX7 168 yX7_isMarkNumber cX7_isMarkNumber 1 (some .boolean) 1 := ⟨⟨TT_in 571 (by decide +kernel) rfl, TT_in 569 (by decide +kernel) rfl, TT_in 57 (by decide +kernel) rfl, ⟨by decide, by decide⟩, by decide +kernel, by decide⟩, TT_in 570 (by decide +kernel) rfl⟩
theorem lkX7_171 : q_LkV RX7 171 yX1_isFull cX1_isFull 1 (some .boolean) 0 1 := ⟨⟨TT_in 575 (by decide +kernel) rfl, TT_in 572 (by decide +kernel) rfl, TT_in 61 (by decide +kernel) rfl, ⟨by decide, by decide⟩, by decide +kernel, by decide⟩, TT_in 573 (by decide +kernel) rfl, TT_in 574 (by decide +kernel) rfl, ⟨_, _, rfl⟩⟩
theorem lkX7_175 : q_LkV RX7 175 yX1_create cX1_create 2 (some .int) 1 1 := ⟨⟨TT_in 579 (by decide +kernel) rfl, TT_in 576 (by decide +kernel) rfl, TT_in 61 (by decide +kernel) rfl, ⟨by decide, by decide⟩, by decide +kernel, by decide⟩, TT_in 577 (by decide +kernel) rfl, TT_in 578 (by decide +kernel) rfl, ⟨_, _, rfl⟩⟩
theorem lkX7_178 : q_LkV RX7 178 yX1_numberOf cX1_numberOf 2 (some .int) 1 1 := ⟨⟨TT_in 548 (by decide +kernel) rfl, TT_in 545 (by decide +kernel) rfl, TT_in 61 (by decide +kernel) rfl, ⟨by decide, by decide⟩, by decide +kernel, by decide⟩, TT_in 546 (by decide +kernel) rfl, TT_in 547 (by decide +kernel) rfl, ⟨_, _, rfl⟩⟩
theorem lkX7_181 : q_LkV RX7 181 yX0_keepNumber cX0_keepNumber 3 none 2 0 := ⟨⟨TT_in 599 (by decide +kernel) rfl, TT_in 596 (by decide +kernel) rfl, TT_in 60 (by decide +kernel) rfl, ⟨by decide, by decide⟩, by decide +kernel, by decide⟩, TT_in 597 (by decide +kernel) rfl, TT_in 598 (by decide +kernel) rfl, ⟨_, _, rfl⟩⟩
theorem lkX7_184 : q_LkV RX7 184 yX1_setNumber cX1_setNumber 3 none 2 1 := ⟨⟨TT_in 603 (by decide +kernel) rfl, TT_in 600 (by decide +kernel) rfl, TT_in 61 (by decide +kernel) rfl, ⟨by decide, by decide⟩, by decide +kernel, by decide⟩, TT_in 601 (by decide +kernel) rfl, TT_in 602 (by decide +kernel) rfl, ⟨_, _, rfl⟩⟩
theorem lkX7_187 : q_LkS RX7 187 yX4_getFit cX4_getFit 3 (some .int) 2 := ⟨⟨TT_in 610 (by decide +kernel) rfl, TT_in 608 (by decide +kernel) rfl, TT_in 73 (by decide +kernel) rfl, ⟨by decide, by decide⟩, by decide +kernel, by decide⟩, TT_in 609 (by decide +kernel) rfl⟩
theorem lkX7_192 : q_LkS RX7 192 yX4_placed cX4_placed 2 (some .int) 2 := ⟨⟨TT_in 620 (by decide +kernel) rfl, TT_in 618 (by decide +kernel) rfl, TT_in 73 (by decide +kernel) rfl, ⟨by decide, by decide⟩, by decide +kernel, by decide⟩, TT_in 619 (by decide +kernel) rfl⟩
theorem lkX7_196 : q_LkS RX7 196 yX2_widened cX2_widened 4 (some .long) 3 := ⟨⟨TT_in 623 (by decide +kernel) rfl, TT_in 621 (by decide +kernel) rfl, TT_in 70 (by decide +kernel) rfl, ⟨by decide, by decide⟩, by decide +kernel, by decide⟩, TT_in 622 (by decide +kernel) rfl⟩
theorem lkX7_200 : q_LkV RX7 200 yX7_fetchReason cX7_fetchReason 3 (some .int) 2 5 := ⟨⟨TT_in 637 (by decide +kernel) rfl, TT_in 634 (by decide +kernel) rfl, TT_in 57 (by decide +kernel) rfl, ⟨by decide, by decide⟩, by decide +kernel, by decide⟩, TT_in 636 (by decide +kernel) rfl, TT_in 18 (by decide +kernel) rfl, ⟨_, _, rfl⟩⟩
theorem lkX7_203 : q_LkS RX7 203 yX4_fetchedForm cX4_fetchedForm 1 (some .int) 1 := ⟨⟨TT_in 641 (by decide +kernel) rfl, TT_in 639 (by decide +kernel) rfl, TT_in 73 (by decide +kernel) rfl, ⟨by decide, by decide⟩, by decide +kernel, by decide⟩, TT_in 640 (by decide +kernel) rfl⟩
theorem lkX7_206 : q_LkS RX7 206 yX4_putFit cX4_putFit 4 (some .int) 3 := ⟨⟨TT_in 649 (by decide +kernel) rfl, TT_in 647 (by decide +kernel) rfl, TT_in 73 (by decide +kernel) rfl, ⟨by decide, by decide⟩, by decide +kernel, by decide⟩, TT_in 648 (by decide +kernel) rfl⟩
theorem lkX7_210 : q_LkV RX7 210 yX0_keepCells cX0_keepCells 5 none 2 0 := ⟨⟨TT_in 656 (by decide +kernel) rfl, TT_in 653 (by decide +kernel) rfl, TT_in 60 (by decide +kernel) rfl, ⟨by decide, by decide⟩, by decide +kernel, by decide⟩, TT_in 654 (by decide +kernel) rfl, TT_in 655 (by decide +kernel) rfl, ⟨_, _, rfl⟩⟩
theorem lkX7_214 : q_LkV RX7 214 yX5_put cX5_put 7 none 4 3 := ⟨⟨TT_in 662 (by decide +kernel) rfl, TT_in 659 (by decide +kernel) rfl, TT_in 59 (by decide +kernel) rfl, ⟨by decide, by decide⟩, by decide +kernel, by decide⟩, TT_in 660 (by decide +kernel) rfl, TT_in 661 (by decide +kernel) rfl, ⟨_, _, rfl⟩⟩
theorem lkX7_221 : q_LkS RX7 221 yJ9_min_7cf53 cJ9_min_7cf53 2 (some .int) 2 := ⟨⟨TT_in 306 (by decide +kernel) rfl, TT_in 674 (by decide +kernel) rfl, TT_in 66 (by decide +kernel) rfl, ⟨by decide, by decide⟩, by decide +kernel, by decide⟩, TT_in 305 (by decide +kernel) rfl⟩
theorem lkX7_226 : q_LkV RX7 226 yX7_convertReason cX7_convertReason 11 (some .int) 4 5 := ⟨⟨TT_in 678 (by decide +kernel) rfl, TT_in 675 (by decide +kernel) rfl, TT_in 57 (by decide +kernel) rfl, ⟨by decide, by decide⟩, by decide +kernel, by decide⟩, TT_in 677 (by decide +kernel) rfl, TT_in 19 (by decide +kernel) rfl, ⟨_, _, rfl⟩⟩
theorem lkX7_230 : q_LkV RX7 230 yX7_convertElement cX7_convertElement 9 none 4 5 := ⟨⟨TT_in 713 (by decide +kernel) rfl, TT_in 710 (by decide +kernel) rfl, TT_in 57 (by decide +kernel) rfl, ⟨by decide, by decide⟩, by decide +kernel, by decide⟩, TT_in 712 (by decide +kernel) rfl, TT_in 20 (by decide +kernel) rfl, ⟨_, _, rfl⟩⟩
theorem lkX7_234 : q_LkN RX7 234 yX2_countChains "WidenDesk" cX2_countChains 5 (some .int) 3 := ⟨⟨TT_in 730 (by decide +kernel) rfl, by decide +kernel, TT_in 70 (by decide +kernel) rfl, ⟨by decide, by decide⟩, by decide +kernel, by decide⟩, TT_in 729 (by decide +kernel) rfl⟩
theorem lkX7_237 : q_LkS RX7 237 yX7_isWay cX7_isWay 2 (some .boolean) 1 := ⟨⟨TT_in 739 (by decide +kernel) rfl, TT_in 737 (by decide +kernel) rfl, TT_in 57 (by decide +kernel) rfl, ⟨by decide, by decide⟩, by decide +kernel, by decide⟩, TT_in 738 (by decide +kernel) rfl⟩
theorem lkX7_240 : q_LkV RX7 240 yX7_carryThrough cX7_carryThrough 12 (some .int) 3 5 := ⟨⟨TT_in 744 (by decide +kernel) rfl, TT_in 741 (by decide +kernel) rfl, TT_in 57 (by decide +kernel) rfl, ⟨by decide, by decide⟩, by decide +kernel, by decide⟩, TT_in 743 (by decide +kernel) rfl, TT_in 21 (by decide +kernel) rfl, ⟨_, _, rfl⟩⟩
theorem lkX7_244 : q_LkS RX7 244 yX2_countEnds cX2_countEnds 6 (some .int) 3 := ⟨⟨TT_in 752 (by decide +kernel) rfl, TT_in 750 (by decide +kernel) rfl, TT_in 70 (by decide +kernel) rfl, ⟨by decide, by decide⟩, by decide +kernel, by decide⟩, TT_in 751 (by decide +kernel) rfl⟩
theorem lkX7_248 : q_LkS RX7 248 yX2_targets cX2_targets 3 (some .int) 1 := ⟨⟨TT_in 760 (by decide +kernel) rfl, TT_in 758 (by decide +kernel) rfl, TT_in 70 (by decide +kernel) rfl, ⟨by decide, by decide⟩, by decide +kernel, by decide⟩, TT_in 759 (by decide +kernel) rfl⟩
theorem lkX7_251 : q_LkS RX7 251 yX2_leastOf cX2_leastOf 2 (some .int) 1 := ⟨⟨TT_in 763 (by decide +kernel) rfl, TT_in 761 (by decide +kernel) rfl, TT_in 70 (by decide +kernel) rfl, ⟨by decide, by decide⟩, by decide +kernel, by decide⟩, TT_in 762 (by decide +kernel) rfl⟩
theorem lkX7_254 : q_LkS RX7 254 yX4_joinedType cX4_joinedType 3 (some .int) 2 := ⟨⟨TT_in 771 (by decide +kernel) rfl, TT_in 769 (by decide +kernel) rfl, TT_in 73 (by decide +kernel) rfl, ⟨by decide, by decide⟩, by decide +kernel, by decide⟩, TT_in 770 (by decide +kernel) rfl⟩
theorem lkX7_257 : q_LkV RX7 257 yX5_putAll cX5_putAll 7 none 5 3 := ⟨⟨TT_in 779 (by decide +kernel) rfl, TT_in 776 (by decide +kernel) rfl, TT_in 59 (by decide +kernel) rfl, ⟨by decide, by decide⟩, by decide +kernel, by decide⟩, TT_in 777 (by decide +kernel) rfl, TT_in 778 (by decide +kernel) rfl, ⟨_, _, rfl⟩⟩
theorem lkX7_261 : q_LkV RX7 261 yX5_agree cX5_agree 11 (some .boolean) 3 3 := ⟨⟨TT_in 794 (by decide +kernel) rfl, TT_in 791 (by decide +kernel) rfl, TT_in 59 (by decide +kernel) rfl, ⟨by decide, by decide⟩, by decide +kernel, by decide⟩, TT_in 792 (by decide +kernel) rfl, TT_in 793 (by decide +kernel) rfl, ⟨_, _, rfl⟩⟩
theorem lkX7_265 : q_LkV RX7 265 yX5_stoodBefore cX5_stoodBefore 4 (some .boolean) 2 3 := ⟨⟨TT_in 803 (by decide +kernel) rfl, TT_in 800 (by decide +kernel) rfl, TT_in 59 (by decide +kernel) rfl, ⟨by decide, by decide⟩, by decide +kernel, by decide⟩, TT_in 801 (by decide +kernel) rfl, TT_in 802 (by decide +kernel) rfl, ⟨_, _, rfl⟩⟩
theorem lkX7_268 : q_LkV RX7 268 yX6_add cX6_add 4 (some .boolean) 3 4 := ⟨⟨TT_in 815 (by decide +kernel) rfl, TT_in 812 (by decide +kernel) rfl, TT_in 62 (by decide +kernel) rfl, ⟨by decide, by decide⟩, by decide +kernel, by decide⟩, TT_in 813 (by decide +kernel) rfl, TT_in 814 (by decide +kernel) rfl, ⟨_, _, rfl⟩⟩
theorem lkX7_271 : q_LkV RX7 271 yX6_allow cX6_allow 3 (some .boolean) 1 4 := ⟨⟨TT_in 827 (by decide +kernel) rfl, TT_in 824 (by decide +kernel) rfl, TT_in 62 (by decide +kernel) rfl, ⟨by decide, by decide⟩, by decide +kernel, by decide⟩, TT_in 825 (by decide +kernel) rfl, TT_in 826 (by decide +kernel) rfl, ⟨_, _, rfl⟩⟩
theorem lkX7_274 : q_LkV RX7 274 yX0_removeLatest cX0_removeLatest 1 (some .int) 0 0 := ⟨⟨TT_in 840 (by decide +kernel) rfl, TT_in 837 (by decide +kernel) rfl, TT_in 60 (by decide +kernel) rfl, ⟨by decide, by decide⟩, by decide +kernel, by decide⟩, TT_in 838 (by decide +kernel) rfl, TT_in 839 (by decide +kernel) rfl, ⟨_, _, rfl⟩⟩
theorem lkX7_286 : q_LkV RX7 286 yX0_restoreCells cX0_restoreCells 4 none 2 0 := ⟨⟨TT_in 844 (by decide +kernel) rfl, TT_in 841 (by decide +kernel) rfl, TT_in 60 (by decide +kernel) rfl, ⟨by decide, by decide⟩, by decide +kernel, by decide⟩, TT_in 842 (by decide +kernel) rfl, TT_in 843 (by decide +kernel) rfl, ⟨_, _, rfl⟩⟩
theorem lkX7_295 : q_LkS RX7 295 yX4_isMark cX4_isMark 1 (some .boolean) 1 := ⟨⟨TT_in 544 (by decide +kernel) rfl, TT_in 542 (by decide +kernel) rfl, TT_in 73 (by decide +kernel) rfl, ⟨by decide, by decide⟩, by decide +kernel, by decide⟩, TT_in 543 (by decide +kernel) rfl⟩
theorem lkX7_300 : q_LkS RX7 300 yX4_fetchFit cX4_fetchFit 1 (some .int) 1 := ⟨⟨TT_in 613 (by decide +kernel) rfl, TT_in 638 (by decide +kernel) rfl, TT_in 73 (by decide +kernel) rfl, ⟨by decide, by decide⟩, by decide +kernel, by decide⟩, TT_in 612 (by decide +kernel) rfl⟩
theorem lkX7_303 : q_LkV RX7 303 yX0_keepSlot cX0_keepSlot 3 none 2 0 := ⟨⟨TT_in 473 (by decide +kernel) rfl, TT_in 470 (by decide +kernel) rfl, TT_in 60 (by decide +kernel) rfl, ⟨by decide, by decide⟩, by decide +kernel, by decide⟩, TT_in 471 (by decide +kernel) rfl, TT_in 472 (by decide +kernel) rfl, ⟨_, _, rfl⟩⟩
theorem lkX7_306 : q_LkV RX7 306 yX7_freeRow cX7_freeRow 2 (some .int) 0 5 := ⟨⟨TT_in 417 (by decide +kernel) rfl, TT_in 414 (by decide +kernel) rfl, TT_in 57 (by decide +kernel) rfl, ⟨by decide, by decide⟩, by decide +kernel, by decide⟩, TT_in 416 (by decide +kernel) rfl, TT_in 6 (by decide +kernel) rfl, ⟨_, _, rfl⟩⟩
theorem lkX7_309 : q_LkV RX7 309 yX5_prepare cX5_prepare 5 none 3 3 := ⟨⟨TT_in 436 (by decide +kernel) rfl, TT_in 433 (by decide +kernel) rfl, TT_in 59 (by decide +kernel) rfl, ⟨by decide, by decide⟩, by decide +kernel, by decide⟩, TT_in 434 (by decide +kernel) rfl, TT_in 435 (by decide +kernel) rfl, ⟨_, _, rfl⟩⟩
theorem lkX7_313 : q_LkV RX7 313 yX7_isInSlots cX7_isInSlots 2 (some .boolean) 1 5 := ⟨⟨TT_in 421 (by decide +kernel) rfl, TT_in 418 (by decide +kernel) rfl, TT_in 57 (by decide +kernel) rfl, ⟨by decide, by decide⟩, by decide +kernel, by decide⟩, TT_in 420 (by decide +kernel) rfl, TT_in 7 (by decide +kernel) rfl, ⟨_, _, rfl⟩⟩
theorem lkX7_316 : q_LkV RX7 316 yX0_holds cX0_holds 4 (some .boolean) 1 0 := ⟨⟨TT_in 429 (by decide +kernel) rfl, TT_in 426 (by decide +kernel) rfl, TT_in 60 (by decide +kernel) rfl, ⟨by decide, by decide⟩, by decide +kernel, by decide⟩, TT_in 427 (by decide +kernel) rfl, TT_in 428 (by decide +kernel) rfl, ⟨_, _, rfl⟩⟩
theorem lkX7_319 : q_LkV RX7 319 yX7_firstSlotOf cX7_firstSlotOf 3 (some .int) 1 5 := ⟨⟨TT_in 425 (by decide +kernel) rfl, TT_in 422 (by decide +kernel) rfl, TT_in 57 (by decide +kernel) rfl, ⟨by decide, by decide⟩, by decide +kernel, by decide⟩, TT_in 424 (by decide +kernel) rfl, TT_in 8 (by decide +kernel) rfl, ⟨_, _, rfl⟩⟩
theorem lkX7_322 : q_LkS RX7 322 yX4_isNumeric cX4_isNumeric 1 (some .boolean) 1 := ⟨⟨TT_in 681 (by decide +kernel) rfl, TT_in 679 (by decide +kernel) rfl, TT_in 73 (by decide +kernel) rfl, ⟨by decide, by decide⟩, by decide +kernel, by decide⟩, TT_in 680 (by decide +kernel) rfl⟩
theorem lkX7_325 : q_LkS RX7 325 yX2_hasNumber cX2_hasNumber 6 (some .boolean) 3 := ⟨⟨TT_in 684 (by decide +kernel) rfl, TT_in 682 (by decide +kernel) rfl, TT_in 70 (by decide +kernel) rfl, ⟨by decide, by decide⟩, by decide +kernel, by decide⟩, TT_in 683 (by decide +kernel) rfl⟩
theorem lkX7_329 : q_LkS RX7 329 yX2_sameNumber cX2_sameNumber 6 (some .long) 3 := ⟨⟨TT_in 716 (by decide +kernel) rfl, TT_in 714 (by decide +kernel) rfl, TT_in 70 (by decide +kernel) rfl, ⟨by decide, by decide⟩, by decide +kernel, by decide⟩, TT_in 715 (by decide +kernel) rfl⟩
theorem lkX0_38 : q_LkV RX0 38 yX0_add cX0_add 6 (some .int) 4 0 := ⟨⟨TT_in 477 (by decide +kernel) rfl, TT_in 474 (by decide +kernel) rfl, TT_in 60 (by decide +kernel) rfl, ⟨by decide, by decide⟩, by decide +kernel, by decide⟩, TT_in 476 (by decide +kernel) rfl, TT_in 10 (by decide +kernel) rfl, ⟨_, _, rfl⟩⟩
theorem lkX0_44 : q_LkV RX0 44 yX5_typeAt cX5_typeAt 3 (some .int) 2 3 := ⟨⟨TT_in 533 (by decide +kernel) rfl, TT_in 657 (by decide +kernel) rfl, TT_in 59 (by decide +kernel) rfl, ⟨by decide, by decide⟩, by decide +kernel, by decide⟩, TT_in 531 (by decide +kernel) rfl, TT_in 532 (by decide +kernel) rfl, ⟨_, _, rfl⟩⟩
theorem lkX0_48 : q_LkV RX0 48 yX5_codeAt cX5_codeAt 3 (some .long) 2 3 := ⟨⟨TT_in 537 (by decide +kernel) rfl, TT_in 658 (by decide +kernel) rfl, TT_in 59 (by decide +kernel) rfl, ⟨by decide, by decide⟩, by decide +kernel, by decide⟩, TT_in 535 (by decide +kernel) rfl, TT_in 536 (by decide +kernel) rfl, ⟨_, _, rfl⟩⟩
theorem lkX0_52 : q_LkV RX0 52 yX5_set cX5_set 6 none 4 3 := ⟨⟨TT_in 441 (by decide +kernel) rfl, TT_in 845 (by decide +kernel) rfl, TT_in 59 (by decide +kernel) rfl, ⟨by decide, by decide⟩, by decide +kernel, by decide⟩, TT_in 439 (by decide +kernel) rfl, TT_in 440 (by decide +kernel) rfl, ⟨_, _, rfl⟩⟩
theorem lkX0_56 : q_LkS RX0 56 yX0_before cX0_before 1 (some .int) 1 := ⟨⟨TT_in 432 (by decide +kernel) rfl, TT_in 430 (by decide +kernel) rfl, TT_in 60 (by decide +kernel) rfl, ⟨by decide, by decide⟩, by decide +kernel, by decide⟩, TT_in 431 (by decide +kernel) rfl⟩
theorem lkX0_60 : q_LkS RX0 60 yJ9_min_7cf53 cJ9_min_7cf53 2 (some .int) 2 := ⟨⟨TT_in 306 (by decide +kernel) rfl, TT_in 478 (by decide +kernel) rfl, TT_in 66 (by decide +kernel) rfl, ⟨by decide, by decide⟩, by decide +kernel, by decide⟩, TT_in 305 (by decide +kernel) rfl⟩
theorem lkX2_11 : q_LkS RX2 11 yX2_widens cX2_widens 2 (some .boolean) 2 := ⟨⟨TT_in 617 (by decide +kernel) rfl, TT_in 731 (by decide +kernel) rfl, TT_in 70 (by decide +kernel) rfl, ⟨by decide, by decide⟩, by decide +kernel, by decide⟩, TT_in 616 (by decide +kernel) rfl⟩
theorem lkX2_15 : q_LkS RX2 15 yX2_targets cX2_targets 3 (some .int) 1 := ⟨⟨TT_in 760 (by decide +kernel) rfl, TT_in 764 (by decide +kernel) rfl, TT_in 70 (by decide +kernel) rfl, ⟨by decide, by decide⟩, by decide +kernel, by decide⟩, TT_in 759 (by decide +kernel) rfl⟩
theorem lkX2_19 : q_LkS RX2 19 yX2_leastOf cX2_leastOf 2 (some .int) 1 := ⟨⟨TT_in 763 (by decide +kernel) rfl, TT_in 775 (by decide +kernel) rfl, TT_in 70 (by decide +kernel) rfl, ⟨by decide, by decide⟩, by decide +kernel, by decide⟩, TT_in 762 (by decide +kernel) rfl⟩
theorem lkX2_22 : q_LkS RX2 22 yX2_countChains cX2_countChains 5 (some .int) 3 := ⟨⟨TT_in 730 (by decide +kernel) rfl, TT_in 732 (by decide +kernel) rfl, TT_in 70 (by decide +kernel) rfl, ⟨by decide, by decide⟩, by decide +kernel, by decide⟩, TT_in 729 (by decide +kernel) rfl⟩
theorem lkX2_26 : q_LkS RX2 26 yX2_widened cX2_widened 4 (some .long) 3 := ⟨⟨TT_in 623 (by decide +kernel) rfl, TT_in 753 (by decide +kernel) rfl, TT_in 70 (by decide +kernel) rfl, ⟨by decide, by decide⟩, by decide +kernel, by decide⟩, TT_in 622 (by decide +kernel) rfl⟩
theorem lkX2_30 : q_LkS RX2 30 yX2_nearest cX2_nearest 4 (some .long) 3 := ⟨⟨TT_in 447 (by decide +kernel) rfl, TT_in 445 (by decide +kernel) rfl, TT_in 70 (by decide +kernel) rfl, ⟨by decide, by decide⟩, by decide +kernel, by decide⟩, TT_in 446 (by decide +kernel) rfl⟩
theorem lkX2_34 : q_LkS RX2 34 yX2_doubleOfFloat cX2_doubleOfFloat 6 (some .long) 1 := ⟨⟨TT_in 626 (by decide +kernel) rfl, TT_in 624 (by decide +kernel) rfl, TT_in 70 (by decide +kernel) rfl, ⟨by decide, by decide⟩, by decide +kernel, by decide⟩, TT_in 625 (by decide +kernel) rfl⟩
theorem lkX2_38 : q_LkS RX2 38 yX2_isBetween cX2_isBetween 3 (some .boolean) 2 := ⟨⟨TT_in 391 (by decide +kernel) rfl, TT_in 685 (by decide +kernel) rfl, TT_in 70 (by decide +kernel) rfl, ⟨by decide, by decide⟩, by decide +kernel, by decide⟩, TT_in 390 (by decide +kernel) rfl⟩
theorem lkX2_42 : q_LkS RX2 42 yX2_ofWhole cX2_ofWhole 3 (some .long) 2 := ⟨⟨TT_in 444 (by decide +kernel) rfl, TT_in 686 (by decide +kernel) rfl, TT_in 70 (by decide +kernel) rfl, ⟨by decide, by decide⟩, by decide +kernel, by decide⟩, TT_in 443 (by decide +kernel) rfl⟩
theorem lkX2_46 : q_LkS RX2 46 yX2_isWhole cX2_isWhole 7 (some .boolean) 3 := ⟨⟨TT_in 689 (by decide +kernel) rfl, TT_in 687 (by decide +kernel) rfl, TT_in 70 (by decide +kernel) rfl, ⟨by decide, by decide⟩, by decide +kernel, by decide⟩, TT_in 688 (by decide +kernel) rfl⟩
theorem lkX2_50 : q_LkS RX2 50 yX2_asDouble cX2_asDouble 3 (some .long) 2 := ⟨⟨TT_in 692 (by decide +kernel) rfl, TT_in 690 (by decide +kernel) rfl, TT_in 70 (by decide +kernel) rfl, ⟨by decide, by decide⟩, by decide +kernel, by decide⟩, TT_in 691 (by decide +kernel) rfl⟩
theorem lkX2_54 : q_LkS RX2 54 yX2_hasWhole cX2_hasWhole 3 (some .boolean) 1 := ⟨⟨TT_in 695 (by decide +kernel) rfl, TT_in 693 (by decide +kernel) rfl, TT_in 70 (by decide +kernel) rfl, ⟨by decide, by decide⟩, by decide +kernel, by decide⟩, TT_in 694 (by decide +kernel) rfl⟩
theorem lkX2_58 : q_LkS RX2 58 yX2_wholeOf cX2_wholeOf 7 (some .long) 1 := ⟨⟨TT_in 708 (by decide +kernel) rfl, TT_in 706 (by decide +kernel) rfl, TT_in 70 (by decide +kernel) rfl, ⟨by decide, by decide⟩, by decide +kernel, by decide⟩, TT_in 707 (by decide +kernel) rfl⟩
theorem lkX2_63 : q_LkS RX2 63 yX2_floatOfDouble cX2_floatOfDouble 6 (some .long) 1 := ⟨⟨TT_in 719 (by decide +kernel) rfl, TT_in 717 (by decide +kernel) rfl, TT_in 70 (by decide +kernel) rfl, ⟨by decide, by decide⟩, by decide +kernel, by decide⟩, TT_in 718 (by decide +kernel) rfl⟩
theorem lkX2_86 : q_LkS RX2 86 yX2_lowest cX2_lowest 1 (some .long) 1 := ⟨⟨TT_in 380 (by decide +kernel) rfl, TT_in 392 (by decide +kernel) rfl, TT_in 70 (by decide +kernel) rfl, ⟨by decide, by decide⟩, by decide +kernel, by decide⟩, TT_in 379 (by decide +kernel) rfl⟩
theorem lkX2_90 : q_LkS RX2 90 yX2_highest cX2_highest 1 (some .long) 1 := ⟨⟨TT_in 395 (by decide +kernel) rfl, TT_in 393 (by decide +kernel) rfl, TT_in 70 (by decide +kernel) rfl, ⟨by decide, by decide⟩, by decide +kernel, by decide⟩, TT_in 394 (by decide +kernel) rfl⟩
theorem lkX2_93 : q_LkS RX2 93 yX2_rounded cX2_rounded 15 (some .long) 4 := ⟨⟨TT_in 450 (by decide +kernel) rfl, TT_in 448 (by decide +kernel) rfl, TT_in 70 (by decide +kernel) rfl, ⟨by decide, by decide⟩, by decide +kernel, by decide⟩, TT_in 449 (by decide +kernel) rfl⟩
theorem lkX2_97 : q_LkS RX2 97 yX2_signedFloat cX2_signedFloat 3 (some .long) 2 := ⟨⟨TT_in 460 (by decide +kernel) rfl, TT_in 458 (by decide +kernel) rfl, TT_in 70 (by decide +kernel) rfl, ⟨by decide, by decide⟩, by decide +kernel, by decide⟩, TT_in 459 (by decide +kernel) rfl⟩
theorem lkX2_101 : q_LkS RX2 101 yX2_signedDouble cX2_signedDouble 3 (some .long) 2 := ⟨⟨TT_in 464 (by decide +kernel) rfl, TT_in 462 (by decide +kernel) rfl, TT_in 70 (by decide +kernel) rfl, ⟨by decide, by decide⟩, by decide +kernel, by decide⟩, TT_in 463 (by decide +kernel) rfl⟩
theorem lkX2_106 : q_LkS RX2 106 yJ13_numberOfLeadingZeros_95d88 cJ13_numberOfLeadingZeros_95d88 3 (some .int) 1 := ⟨⟨TT_in 453 (by decide +kernel) rfl, TT_in 451 (by decide +kernel) rfl, TT_in 71 (by decide +kernel) rfl, ⟨by decide, by decide⟩, by decide +kernel, by decide⟩, TT_in 452 (by decide +kernel) rfl⟩
theorem lkX2_122 : q_LkS RX2 122 yX2_exponentOf cX2_exponentOf 2 (some .int) 1 := ⟨⟨TT_in 698 (by decide +kernel) rfl, TT_in 696 (by decide +kernel) rfl, TT_in 70 (by decide +kernel) rfl, ⟨by decide, by decide⟩, by decide +kernel, by decide⟩, TT_in 697 (by decide +kernel) rfl⟩
theorem lkX2_127 : q_LkS RX2 127 yX2_significand cX2_significand 2 (some .long) 1 := ⟨⟨TT_in 703 (by decide +kernel) rfl, TT_in 701 (by decide +kernel) rfl, TT_in 70 (by decide +kernel) rfl, ⟨by decide, by decide⟩, by decide +kernel, by decide⟩, TT_in 702 (by decide +kernel) rfl⟩
theorem lkX3_35 : q_LkV RX3 35 yX3_letter cX3_letter 1 (some .int) 0 2 := ⟨⟨TT_in 265 (by decide +kernel) rfl, TT_in 262 (by decide +kernel) rfl, TT_in 58 (by decide +kernel) rfl, ⟨by decide, by decide⟩, by decide +kernel, by decide⟩, TT_in 264 (by decide +kernel) rfl, TT_in 0 (by decide +kernel) rfl, ⟨_, _, rfl⟩⟩
theorem lkX3_39 : q_LkS RX3 39 yX3_arrayTypeOf cX3_arrayTypeOf 1 (some .int) 1 := ⟨⟨TT_in 268 (by decide +kernel) rfl, TT_in 266 (by decide +kernel) rfl, TT_in 58 (by decide +kernel) rfl, ⟨by decide, by decide⟩, by decide +kernel, by decide⟩, TT_in 267 (by decide +kernel) rfl⟩
theorem lkX3_43 : q_LkV RX3 43 yX3_skip cX3_skip 2 (some .boolean) 1 2 := ⟨⟨TT_in 362 (by decide +kernel) rfl, TT_in 359 (by decide +kernel) rfl, TT_in 58 (by decide +kernel) rfl, ⟨by decide, by decide⟩, by decide +kernel, by decide⟩, TT_in 361 (by decide +kernel) rfl, TT_in 1 (by decide +kernel) rfl, ⟨_, _, rfl⟩⟩
theorem lkX3_47 : q_LkV RX3 47 yX3_readElement cX3_readElement 2 (some .boolean) 0 2 := ⟨⟨TT_in 366 (by decide +kernel) rfl, TT_in 363 (by decide +kernel) rfl, TT_in 58 (by decide +kernel) rfl, ⟨by decide, by decide⟩, by decide +kernel, by decide⟩, TT_in 365 (by decide +kernel) rfl, TT_in 2 (by decide +kernel) rfl, ⟨_, _, rfl⟩⟩
theorem lkX3_51 : q_LkS RX3 51 yX3_primitiveOf cX3_primitiveOf 2 (some .int) 1 := ⟨⟨TT_in 271 (by decide +kernel) rfl, TT_in 269 (by decide +kernel) rfl, TT_in 58 (by decide +kernel) rfl, ⟨by decide, by decide⟩, by decide +kernel, by decide⟩, TT_in 270 (by decide +kernel) rfl⟩
theorem lkX3_61 : q_LkN RX3 61 yX7_isPrimitive "WidenDesk" cX7_isPrimitive 1 (some .boolean) 1 := ⟨⟨TT_in 369 (by decide +kernel) rfl, by decide +kernel, TT_in 57 (by decide +kernel) rfl, ⟨by decide, by decide⟩, by decide +kernel, by decide⟩, TT_in 368 (by decide +kernel) rfl⟩
theorem lkX3_65 : q_LkV RX3 65 yX3_keep cX3_keep 4 none 2 2 := ⟨⟨TT_in 373 (by decide +kernel) rfl, TT_in 370 (by decide +kernel) rfl, TT_in 58 (by decide +kernel) rfl, ⟨by decide, by decide⟩, by decide +kernel, by decide⟩, TT_in 372 (by decide +kernel) rfl, TT_in 3 (by decide +kernel) rfl, ⟨_, _, rfl⟩⟩
theorem lkX3_69 : q_LkV RX3 69 yX3_readNumber cX3_readNumber 10 (some .boolean) 1 2 := ⟨⟨TT_in 377 (by decide +kernel) rfl, TT_in 374 (by decide +kernel) rfl, TT_in 58 (by decide +kernel) rfl, ⟨by decide, by decide⟩, by decide +kernel, by decide⟩, TT_in 376 (by decide +kernel) rfl, TT_in 4 (by decide +kernel) rfl, ⟨_, _, rfl⟩⟩
theorem lkX3_72 : q_LkS RX3 72 yX2_lowest cX2_lowest 1 (some .long) 1 := ⟨⟨TT_in 380 (by decide +kernel) rfl, TT_in 378 (by decide +kernel) rfl, TT_in 70 (by decide +kernel) rfl, ⟨by decide, by decide⟩, by decide +kernel, by decide⟩, TT_in 379 (by decide +kernel) rfl⟩
theorem lkX3_78 : q_LkS RX3 78 yX3_isDigit cX3_isDigit 1 (some .boolean) 1 := ⟨⟨TT_in 387 (by decide +kernel) rfl, TT_in 385 (by decide +kernel) rfl, TT_in 58 (by decide +kernel) rfl, ⟨by decide, by decide⟩, by decide +kernel, by decide⟩, TT_in 386 (by decide +kernel) rfl⟩
theorem lkX3_83 : q_LkN RX3 83 yX2_isBetween "WidenDesk" cX2_isBetween 3 (some .boolean) 2 := ⟨⟨TT_in 391 (by decide +kernel) rfl, by decide +kernel, TT_in 70 (by decide +kernel) rfl, ⟨by decide, by decide⟩, by decide +kernel, by decide⟩, TT_in 390 (by decide +kernel) rfl⟩
theorem lkX4_9 : q_LkN RX4 9 yX7_isPrimitive "WidenDesk" cX7_isPrimitive 1 (some .boolean) 1 := ⟨⟨TT_in 369 (by decide +kernel) rfl, by decide +kernel, TT_in 57 (by decide +kernel) rfl, ⟨by decide, by decide⟩, by decide +kernel, by decide⟩, TT_in 368 (by decide +kernel) rfl⟩
theorem lkX4_13 : q_LkS RX4 13 yX4_isMark cX4_isMark 1 (some .boolean) 1 := ⟨⟨TT_in 544 (by decide +kernel) rfl, TT_in 642 (by decide +kernel) rfl, TT_in 73 (by decide +kernel) rfl, ⟨by decide, by decide⟩, by decide +kernel, by decide⟩, TT_in 543 (by decide +kernel) rfl⟩
theorem lkX4_18 : q_LkS RX4 18 yX4_fetchFit cX4_fetchFit 1 (some .int) 1 := ⟨⟨TT_in 613 (by decide +kernel) rfl, TT_in 611 (by decide +kernel) rfl, TT_in 73 (by decide +kernel) rfl, ⟨by decide, by decide⟩, by decide +kernel, by decide⟩, TT_in 612 (by decide +kernel) rfl⟩
theorem lkX4_22 : q_LkS RX4 22 yX2_widens cX2_widens 2 (some .boolean) 2 := ⟨⟨TT_in 617 (by decide +kernel) rfl, TT_in 615 (by decide +kernel) rfl, TT_in 70 (by decide +kernel) rfl, ⟨by decide, by decide⟩, by decide +kernel, by decide⟩, TT_in 616 (by decide +kernel) rfl⟩
theorem lkX4_28 : q_LkS RX4 28 yX4_accepts cX4_accepts 2 (some .boolean) 2 := ⟨⟨TT_in 652 (by decide +kernel) rfl, TT_in 650 (by decide +kernel) rfl, TT_in 73 (by decide +kernel) rfl, ⟨by decide, by decide⟩, by decide +kernel, by decide⟩, TT_in 651 (by decide +kernel) rfl⟩
theorem lkX4_31 : q_LkS RX4 31 yX2_leastOfTwo cX2_leastOfTwo 2 (some .int) 2 := ⟨⟨TT_in 774 (by decide +kernel) rfl, TT_in 772 (by decide +kernel) rfl, TT_in 70 (by decide +kernel) rfl, ⟨by decide, by decide⟩, by decide +kernel, by decide⟩, TT_in 773 (by decide +kernel) rfl⟩
theorem lkX5_27 : q_LkN RX5 27 yX7_isPrimitive "WidenDesk" cX7_isPrimitive 1 (some .boolean) 1 := ⟨⟨TT_in 369 (by decide +kernel) rfl, by decide +kernel, TT_in 57 (by decide +kernel) rfl, ⟨by decide, by decide⟩, by decide +kernel, by decide⟩, TT_in 368 (by decide +kernel) rfl⟩
theorem lkX5_31 : q_LkV RX5 31 yX5_set cX5_set 6 none 4 3 := ⟨⟨TT_in 441 (by decide +kernel) rfl, TT_in 438 (by decide +kernel) rfl, TT_in 59 (by decide +kernel) rfl, ⟨by decide, by decide⟩, by decide +kernel, by decide⟩, TT_in 439 (by decide +kernel) rfl, TT_in 440 (by decide +kernel) rfl, ⟨_, _, rfl⟩⟩
theorem lkX5_35 : q_LkS RX5 35 yX2_widened cX2_widened 4 (some .long) 3 := ⟨⟨TT_in 623 (by decide +kernel) rfl, TT_in 663 (by decide +kernel) rfl, TT_in 70 (by decide +kernel) rfl, ⟨by decide, by decide⟩, by decide +kernel, by decide⟩, TT_in 622 (by decide +kernel) rfl⟩
theorem lkX5_41 : q_LkV RX5 41 yX5_typeAt cX5_typeAt 3 (some .int) 2 3 := ⟨⟨TT_in 533 (by decide +kernel) rfl, TT_in 780 (by decide +kernel) rfl, TT_in 59 (by decide +kernel) rfl, ⟨by decide, by decide⟩, by decide +kernel, by decide⟩, TT_in 531 (by decide +kernel) rfl, TT_in 532 (by decide +kernel) rfl, ⟨_, _, rfl⟩⟩
theorem lkX5_45 : q_LkV RX5 45 yX5_codeAt cX5_codeAt 3 (some .long) 2 3 := ⟨⟨TT_in 537 (by decide +kernel) rfl, TT_in 781 (by decide +kernel) rfl, TT_in 59 (by decide +kernel) rfl, ⟨by decide, by decide⟩, by decide +kernel, by decide⟩, TT_in 535 (by decide +kernel) rfl, TT_in 536 (by decide +kernel) rfl, ⟨_, _, rfl⟩⟩
theorem lkX5_49 : q_LkV RX5 49 yX5_put cX5_put 7 none 4 3 := ⟨⟨TT_in 662 (by decide +kernel) rfl, TT_in 782 (by decide +kernel) rfl, TT_in 59 (by decide +kernel) rfl, ⟨by decide, by decide⟩, by decide +kernel, by decide⟩, TT_in 660 (by decide +kernel) rfl, TT_in 661 (by decide +kernel) rfl, ⟨_, _, rfl⟩⟩
theorem lkX5_52 : q_LkS RX5 52 yX2_leastOfTwo cX2_leastOfTwo 2 (some .int) 2 := ⟨⟨TT_in 774 (by decide +kernel) rfl, TT_in 795 (by decide +kernel) rfl, TT_in 70 (by decide +kernel) rfl, ⟨by decide, by decide⟩, by decide +kernel, by decide⟩, TT_in 773 (by decide +kernel) rfl⟩
theorem lkX6_25 : q_LkS RX6 25 yX6_expected cX6_expected 3 (some .int) 3 := ⟨⟨TT_in 830 (by decide +kernel) rfl, TT_in 828 (by decide +kernel) rfl, TT_in 62 (by decide +kernel) rfl, ⟨by decide, by decide⟩, by decide +kernel, by decide⟩, TT_in 829 (by decide +kernel) rfl⟩
theorem lkX6_29 : q_LkS RX6 29 yX4_getFit cX4_getFit 3 (some .int) 2 := ⟨⟨TT_in 610 (by decide +kernel) rfl, TT_in 831 (by decide +kernel) rfl, TT_in 73 (by decide +kernel) rfl, ⟨by decide, by decide⟩, by decide +kernel, by decide⟩, TT_in 609 (by decide +kernel) rfl⟩
theorem lkX6_35 : q_LkS RX6 35 yX4_putFit cX4_putFit 4 (some .int) 3 := ⟨⟨TT_in 649 (by decide +kernel) rfl, TT_in 832 (by decide +kernel) rfl, TT_in 73 (by decide +kernel) rfl, ⟨by decide, by decide⟩, by decide +kernel, by decide⟩, TT_in 648 (by decide +kernel) rfl⟩
theorem lkX8_98 : q_LkS RX8 98 yX8_in cX8_in 6 (some .boolean) 3 := ⟨⟨TT_in 1002 (by decide +kernel) rfl, TT_in 1000 (by decide +kernel) rfl, TT_in 63 (by decide +kernel) rfl, ⟨by decide, by decide⟩, by decide +kernel, by decide⟩, TT_in 1001 (by decide +kernel) rfl⟩
theorem lkX8_114 : q_LkS RX8 114 yX8_lengthOf cX8_lengthOf 5 (some .int) 1 := ⟨⟨TT_in 1067 (by decide +kernel) rfl, TT_in 1065 (by decide +kernel) rfl, TT_in 63 (by decide +kernel) rfl, ⟨by decide, by decide⟩, by decide +kernel, by decide⟩, TT_in 1066 (by decide +kernel) rfl⟩
theorem lkX8_132 : q_LkV RX8 132 yX8_takeApart cX8_takeApart 11 none 2 6 := ⟨⟨TT_in 1220 (by decide +kernel) rfl, TT_in 1217 (by decide +kernel) rfl, TT_in 63 (by decide +kernel) rfl, ⟨by decide, by decide⟩, by decide +kernel, by decide⟩, TT_in 1219 (by decide +kernel) rfl, TT_in 42 (by decide +kernel) rfl, ⟨_, _, rfl⟩⟩
theorem lkX8_136 : q_LkS RX8 136 yX8_rounded cX8_rounded 21 (some .long) 3 := ⟨⟨TT_in 1062 (by decide +kernel) rfl, TT_in 1060 (by decide +kernel) rfl, TT_in 63 (by decide +kernel) rfl, ⟨by decide, by decide⟩, by decide +kernel, by decide⟩, TT_in 1061 (by decide +kernel) rfl⟩
theorem lkX8_158 : q_LkS RX8 158 yX8_fits cX8_fits 3 (some .boolean) 2 := ⟨⟨TT_in 1049 (by decide +kernel) rfl, TT_in 1047 (by decide +kernel) rfl, TT_in 63 (by decide +kernel) rfl, ⟨by decide, by decide⟩, by decide +kernel, by decide⟩, TT_in 1048 (by decide +kernel) rfl⟩
theorem lkX8_165 : q_LkS RX8 165 yX8_plainOf cX8_plainOf 1 (some .int) 1 := ⟨⟨TT_in 1024 (by decide +kernel) rfl, TT_in 1022 (by decide +kernel) rfl, TT_in 63 (by decide +kernel) rfl, ⟨by decide, by decide⟩, by decide +kernel, by decide⟩, TT_in 1023 (by decide +kernel) rfl⟩
theorem lkX8_172 : q_LkV RX8 172 yX8_letter cX8_letter 1 (some .int) 0 6 := ⟨⟨TT_in 1018 (by decide +kernel) rfl, TT_in 1015 (by decide +kernel) rfl, TT_in 63 (by decide +kernel) rfl, ⟨by decide, by decide⟩, by decide +kernel, by decide⟩, TT_in 1017 (by decide +kernel) rfl, TT_in 23 (by decide +kernel) rfl, ⟨_, _, rfl⟩⟩
theorem lkX8_180 : q_LkS RX8 180 yX8_isNumber cX8_isNumber 3 (some .boolean) 2 := ⟨⟨TT_in 1045 (by decide +kernel) rfl, TT_in 1043 (by decide +kernel) rfl, TT_in 63 (by decide +kernel) rfl, ⟨by decide, by decide⟩, by decide +kernel, by decide⟩, TT_in 1044 (by decide +kernel) rfl⟩
theorem lkX8_198 : q_LkS RX8 198 yX8_isPlain cX8_isPlain 1 (some .boolean) 1 := ⟨⟨TT_in 1031 (by decide +kernel) rfl, TT_in 1029 (by decide +kernel) rfl, TT_in 63 (by decide +kernel) rfl, ⟨by decide, by decide⟩, by decide +kernel, by decide⟩, TT_in 1030 (by decide +kernel) rfl⟩
theorem lkX8_202 : q_LkV RX8 202 yX8_putTold cX8_putTold 5 none 3 6 := ⟨⟨TT_in 1036 (by decide +kernel) rfl, TT_in 1033 (by decide +kernel) rfl, TT_in 63 (by decide +kernel) rfl, ⟨by decide, by decide⟩, by decide +kernel, by decide⟩, TT_in 1035 (by decide +kernel) rfl, TT_in 25 (by decide +kernel) rfl, ⟨_, _, rfl⟩⟩
theorem lkX8_206 : q_LkV RX8 206 yX8_readNumber cX8_readNumber 12 none 1 6 := ⟨⟨TT_in 1040 (by decide +kernel) rfl, TT_in 1037 (by decide +kernel) rfl, TT_in 63 (by decide +kernel) rfl, ⟨by decide, by decide⟩, by decide +kernel, by decide⟩, TT_in 1039 (by decide +kernel) rfl, TT_in 26 (by decide +kernel) rfl, ⟨_, _, rfl⟩⟩
theorem lkX8_210 : q_LkS RX8 210 yX8_toldOf cX8_toldOf 3 (some .long) 2 := ⟨⟨TT_in 1059 (by decide +kernel) rfl, TT_in 1057 (by decide +kernel) rfl, TT_in 63 (by decide +kernel) rfl, ⟨by decide, by decide⟩, by decide +kernel, by decide⟩, TT_in 1058 (by decide +kernel) rfl⟩
theorem lkX8_214 : q_LkS RX8 214 yX8_rowKindOf cX8_rowKindOf 1 (some .int) 1 := ⟨⟨TT_in 1021 (by decide +kernel) rfl, TT_in 1019 (by decide +kernel) rfl, TT_in 63 (by decide +kernel) rfl, ⟨by decide, by decide⟩, by decide +kernel, by decide⟩, TT_in 1020 (by decide +kernel) rfl⟩
theorem lkX8_217 : q_LkV RX8 217 yX8_readCell cX8_readCell 2 (some .boolean) 0 6 := ⟨⟨TT_in 1028 (by decide +kernel) rfl, TT_in 1025 (by decide +kernel) rfl, TT_in 63 (by decide +kernel) rfl, ⟨by decide, by decide⟩, by decide +kernel, by decide⟩, TT_in 1027 (by decide +kernel) rfl, TT_in 24 (by decide +kernel) rfl, ⟨_, _, rfl⟩⟩
theorem lkX8_221 : q_LkV RX8 221 yX8_readText cX8_readText 2 (some .int) 0 6 := ⟨⟨TT_in 1014 (by decide +kernel) rfl, TT_in 1011 (by decide +kernel) rfl, TT_in 63 (by decide +kernel) rfl, ⟨by decide, by decide⟩, by decide +kernel, by decide⟩, TT_in 1013 (by decide +kernel) rfl, TT_in 22 (by decide +kernel) rfl, ⟨_, _, rfl⟩⟩
theorem lkX8_224 : q_LkV RX8 224 yX8_isHeld cX8_isHeld 4 (some .boolean) 1 6 := ⟨⟨TT_in 1094 (by decide +kernel) rfl, TT_in 1091 (by decide +kernel) rfl, TT_in 63 (by decide +kernel) rfl, ⟨by decide, by decide⟩, by decide +kernel, by decide⟩, TT_in 1093 (by decide +kernel) rfl, TT_in 30 (by decide +kernel) rfl, ⟨_, _, rfl⟩⟩
theorem lkX8_236 : q_LkV RX8 236 yX8_note cX8_note 2 none 0 6 := ⟨⟨TT_in 1086 (by decide +kernel) rfl, TT_in 1083 (by decide +kernel) rfl, TT_in 63 (by decide +kernel) rfl, ⟨by decide, by decide⟩, by decide +kernel, by decide⟩, TT_in 1085 (by decide +kernel) rfl, TT_in 28 (by decide +kernel) rfl, ⟨_, _, rfl⟩⟩
theorem lkX8_239 : q_LkV RX8 239 yX8_freeRow cX8_freeRow 3 (some .int) 0 6 := ⟨⟨TT_in 1090 (by decide +kernel) rfl, TT_in 1087 (by decide +kernel) rfl, TT_in 63 (by decide +kernel) rfl, ⟨by decide, by decide⟩, by decide +kernel, by decide⟩, TT_in 1089 (by decide +kernel) rfl, TT_in 29 (by decide +kernel) rfl, ⟨_, _, rfl⟩⟩
theorem lkX8_242 : q_LkS RX8 242 yX8_isSlot cX8_isSlot 1 (some .boolean) 1 := ⟨⟨TT_in 1078 (by decide +kernel) rfl, TT_in 1076 (by decide +kernel) rfl, TT_in 63 (by decide +kernel) rfl, ⟨by decide, by decide⟩, by decide +kernel, by decide⟩, TT_in 1077 (by decide +kernel) rfl⟩
theorem lkX8_245 : q_LkV RX8 245 yX8_holdNew cX8_holdNew 4 none 1 6 := ⟨⟨TT_in 1082 (by decide +kernel) rfl, TT_in 1079 (by decide +kernel) rfl, TT_in 63 (by decide +kernel) rfl, ⟨by decide, by decide⟩, by decide +kernel, by decide⟩, TT_in 1081 (by decide +kernel) rfl, TT_in 27 (by decide +kernel) rfl, ⟨_, _, rfl⟩⟩
theorem lkX8_254 : q_LkV RX8 254 yX8_rowsHeld cX8_rowsHeld 4 (some .int) 1 6 := ⟨⟨TT_in 1102 (by decide +kernel) rfl, TT_in 1099 (by decide +kernel) rfl, TT_in 63 (by decide +kernel) rfl, ⟨by decide, by decide⟩, by decide +kernel, by decide⟩, TT_in 1101 (by decide +kernel) rfl, TT_in 31 (by decide +kernel) rfl, ⟨_, _, rfl⟩⟩
theorem lkX8_257 : q_LkV RX8 257 yX8_nothings cX8_nothings 3 (some .int) 0 6 := ⟨⟨TT_in 1106 (by decide +kernel) rfl, TT_in 1103 (by decide +kernel) rfl, TT_in 63 (by decide +kernel) rfl, ⟨by decide, by decide⟩, by decide +kernel, by decide⟩, TT_in 1105 (by decide +kernel) rfl, TT_in 32 (by decide +kernel) rfl, ⟨_, _, rfl⟩⟩
theorem lkX8_260 : q_LkV RX8 260 yX8_fineOnes cX8_fineOnes 3 (some .int) 0 6 := ⟨⟨TT_in 1110 (by decide +kernel) rfl, TT_in 1107 (by decide +kernel) rfl, TT_in 63 (by decide +kernel) rfl, ⟨by decide, by decide⟩, by decide +kernel, by decide⟩, TT_in 1109 (by decide +kernel) rfl, TT_in 33 (by decide +kernel) rfl, ⟨_, _, rfl⟩⟩
theorem lkX8_267 : q_LkV RX8 267 yX8_holdsRow cX8_holdsRow 2 (some .boolean) 1 6 := ⟨⟨TT_in 1128 (by decide +kernel) rfl, TT_in 1125 (by decide +kernel) rfl, TT_in 63 (by decide +kernel) rfl, ⟨by decide, by decide⟩, by decide +kernel, by decide⟩, TT_in 1127 (by decide +kernel) rfl, TT_in 34 (by decide +kernel) rfl, ⟨_, _, rfl⟩⟩
theorem lkX8_283 : q_LkV RX8 283 yX8_get cX8_get 4 none 2 6 := ⟨⟨TT_in 1143 (by decide +kernel) rfl, TT_in 1140 (by decide +kernel) rfl, TT_in 63 (by decide +kernel) rfl, ⟨by decide, by decide⟩, by decide +kernel, by decide⟩, TT_in 1142 (by decide +kernel) rfl, TT_in 35 (by decide +kernel) rfl, ⟨_, _, rfl⟩⟩
theorem lkX8_287 : q_LkV RX8 287 yX8_kindTold cX8_kindTold 5 (some .int) 3 6 := ⟨⟨TT_in 1147 (by decide +kernel) rfl, TT_in 1144 (by decide +kernel) rfl, TT_in 63 (by decide +kernel) rfl, ⟨by decide, by decide⟩, by decide +kernel, by decide⟩, TT_in 1146 (by decide +kernel) rfl, TT_in 36 (by decide +kernel) rfl, ⟨_, _, rfl⟩⟩
theorem lkX8_291 : q_LkV RX8 291 yX8_told cX8_told 4 (some .long) 2 6 := ⟨⟨TT_in 1151 (by decide +kernel) rfl, TT_in 1148 (by decide +kernel) rfl, TT_in 63 (by decide +kernel) rfl, ⟨by decide, by decide⟩, by decide +kernel, by decide⟩, TT_in 1150 (by decide +kernel) rfl, TT_in 37 (by decide +kernel) rfl, ⟨_, _, rfl⟩⟩
theorem lkX8_305 : q_LkS RX8 305 yX8_given cX8_given 3 (some .long) 2 := ⟨⟨TT_in 1159 (by decide +kernel) rfl, TT_in 1157 (by decide +kernel) rfl, TT_in 63 (by decide +kernel) rfl, ⟨by decide, by decide⟩, by decide +kernel, by decide⟩, TT_in 1158 (by decide +kernel) rfl⟩
theorem lkX8_308 : q_LkV RX8 308 yX8_hold cX8_hold 5 none 3 6 := ⟨⟨TT_in 1170 (by decide +kernel) rfl, TT_in 1167 (by decide +kernel) rfl, TT_in 63 (by decide +kernel) rfl, ⟨by decide, by decide⟩, by decide +kernel, by decide⟩, TT_in 1169 (by decide +kernel) rfl, TT_in 38 (by decide +kernel) rfl, ⟨_, _, rfl⟩⟩
theorem lkX8_313 : q_LkS RX8 313 yX8_widens cX8_widens 2 (some .boolean) 2 := ⟨⟨TT_in 1209 (by decide +kernel) rfl, TT_in 1207 (by decide +kernel) rfl, TT_in 63 (by decide +kernel) rfl, ⟨by decide, by decide⟩, by decide +kernel, by decide⟩, TT_in 1208 (by decide +kernel) rfl⟩
theorem lkX8_317 : q_LkV RX8 317 yX8_reasonOf cX8_reasonOf 2 (some .int) 1 6 := ⟨⟨TT_in 1203 (by decide +kernel) rfl, TT_in 1200 (by decide +kernel) rfl, TT_in 63 (by decide +kernel) rfl, ⟨by decide, by decide⟩, by decide +kernel, by decide⟩, TT_in 1202 (by decide +kernel) rfl, TT_in 40 (by decide +kernel) rfl, ⟨_, _, rfl⟩⟩
theorem lkX8_320 : q_LkS RX8 320 yX8_takeFrom cX8_takeFrom 2 (some .int) 2 := ⟨⟨TT_in 1206 (by decide +kernel) rfl, TT_in 1204 (by decide +kernel) rfl, TT_in 63 (by decide +kernel) rfl, ⟨by decide, by decide⟩, by decide +kernel, by decide⟩, TT_in 1205 (by decide +kernel) rfl⟩
theorem lkX8_324 : q_LkS RX8 324 yX8_withOut cX8_withOut 2 (some .int) 2 := ⟨⟨TT_in 1212 (by decide +kernel) rfl, TT_in 1210 (by decide +kernel) rfl, TT_in 63 (by decide +kernel) rfl, ⟨by decide, by decide⟩, by decide +kernel, by decide⟩, TT_in 1211 (by decide +kernel) rfl⟩
theorem lkX8_328 : q_LkV RX8 328 yX8_bring cX8_bring 7 (some .int) 4 6 := ⟨⟨TT_in 1240 (by decide +kernel) rfl, TT_in 1237 (by decide +kernel) rfl, TT_in 63 (by decide +kernel) rfl, ⟨by decide, by decide⟩, by decide +kernel, by decide⟩, TT_in 1239 (by decide +kernel) rfl, TT_in 45 (by decide +kernel) rfl, ⟨_, _, rfl⟩⟩
theorem lkX8_332 : q_LkV RX8 332 yX8_widened cX8_widened 5 (some .long) 3 6 := ⟨⟨TT_in 1216 (by decide +kernel) rfl, TT_in 1213 (by decide +kernel) rfl, TT_in 63 (by decide +kernel) rfl, ⟨by decide, by decide⟩, by decide +kernel, by decide⟩, TT_in 1215 (by decide +kernel) rfl, TT_in 41 (by decide +kernel) rfl, ⟨_, _, rfl⟩⟩
theorem lkX8_335 : q_LkV RX8 335 yX8_reasonToTake cX8_reasonToTake 6 (some .int) 3 6 := ⟨⟨TT_in 1199 (by decide +kernel) rfl, TT_in 1196 (by decide +kernel) rfl, TT_in 63 (by decide +kernel) rfl, ⟨by decide, by decide⟩, by decide +kernel, by decide⟩, TT_in 1198 (by decide +kernel) rfl, TT_in 39 (by decide +kernel) rfl, ⟨_, _, rfl⟩⟩
theorem lkX8_339 : q_LkV RX8 339 yX8_reasonToFetch cX8_reasonToFetch 4 (some .int) 2 6 := ⟨⟨TT_in 1228 (by decide +kernel) rfl, TT_in 1225 (by decide +kernel) rfl, TT_in 63 (by decide +kernel) rfl, ⟨by decide, by decide⟩, by decide +kernel, by decide⟩, TT_in 1227 (by decide +kernel) rfl, TT_in 43 (by decide +kernel) rfl, ⟨_, _, rfl⟩⟩
theorem lkX8_342 : q_LkV RX8 342 yX8_reasonToLay cX8_reasonToLay 10 (some .int) 5 6 := ⟨⟨TT_in 1236 (by decide +kernel) rfl, TT_in 1233 (by decide +kernel) rfl, TT_in 63 (by decide +kernel) rfl, ⟨by decide, by decide⟩, by decide +kernel, by decide⟩, TT_in 1235 (by decide +kernel) rfl, TT_in 44 (by decide +kernel) rfl, ⟨_, _, rfl⟩⟩
theorem lkX8_346 : q_LkV RX8 346 yX8_put cX8_put 9 none 5 6 := ⟨⟨TT_in 1244 (by decide +kernel) rfl, TT_in 1241 (by decide +kernel) rfl, TT_in 63 (by decide +kernel) rfl, ⟨by decide, by decide⟩, by decide +kernel, by decide⟩, TT_in 1243 (by decide +kernel) rfl, TT_in 46 (by decide +kernel) rfl, ⟨_, _, rfl⟩⟩
theorem lkX8_350 : q_LkV RX8 350 yX8_holdsPlain cX8_holdsPlain 2 (some .boolean) 1 6 := ⟨⟨TT_in 1252 (by decide +kernel) rfl, TT_in 1249 (by decide +kernel) rfl, TT_in 63 (by decide +kernel) rfl, ⟨by decide, by decide⟩, by decide +kernel, by decide⟩, TT_in 1251 (by decide +kernel) rfl, TT_in 47 (by decide +kernel) rfl, ⟨_, _, rfl⟩⟩
theorem lkX8_357 : q_LkV RX8 357 yX8_isOne cX8_isOne 6 (some .boolean) 3 6 := ⟨⟨TT_in 1267 (by decide +kernel) rfl, TT_in 1264 (by decide +kernel) rfl, TT_in 63 (by decide +kernel) rfl, ⟨by decide, by decide⟩, by decide +kernel, by decide⟩, TT_in 1266 (by decide +kernel) rfl, TT_in 49 (by decide +kernel) rfl, ⟨_, _, rfl⟩⟩
theorem lkX8_361 : q_LkV RX8 361 yX8_asOne cX8_asOne 5 (some .long) 3 6 := ⟨⟨TT_in 1271 (by decide +kernel) rfl, TT_in 1268 (by decide +kernel) rfl, TT_in 63 (by decide +kernel) rfl, ⟨by decide, by decide⟩, by decide +kernel, by decide⟩, TT_in 1270 (by decide +kernel) rfl, TT_in 50 (by decide +kernel) rfl, ⟨_, _, rfl⟩⟩
theorem lkX8_366 : q_LkV RX8 366 yX8_convertCell cX8_convertCell 10 (some .int) 4 6 := ⟨⟨TT_in 1263 (by decide +kernel) rfl, TT_in 1260 (by decide +kernel) rfl, TT_in 63 (by decide +kernel) rfl, ⟨by decide, by decide⟩, by decide +kernel, by decide⟩, TT_in 1262 (by decide +kernel) rfl, TT_in 48 (by decide +kernel) rfl, ⟨_, _, rfl⟩⟩
theorem lkX8_374 : q_LkS RX8 374 yX8_isWay cX8_isWay 3 (some .boolean) 1 := ⟨⟨TT_in 1286 (by decide +kernel) rfl, TT_in 1284 (by decide +kernel) rfl, TT_in 63 (by decide +kernel) rfl, ⟨by decide, by decide⟩, by decide +kernel, by decide⟩, TT_in 1285 (by decide +kernel) rfl⟩
theorem lkX8_378 : q_LkV RX8 378 yX8_addEnd cX8_addEnd 6 none 2 6 := ⟨⟨TT_in 1297 (by decide +kernel) rfl, TT_in 1294 (by decide +kernel) rfl, TT_in 63 (by decide +kernel) rfl, ⟨by decide, by decide⟩, by decide +kernel, by decide⟩, TT_in 1296 (by decide +kernel) rfl, TT_in 51 (by decide +kernel) rfl, ⟨_, _, rfl⟩⟩
theorem lkX8_383 : q_LkS RX8 383 yX8_has cX8_has 2 (some .boolean) 2 := ⟨⟨TT_in 1305 (by decide +kernel) rfl, TT_in 1303 (by decide +kernel) rfl, TT_in 63 (by decide +kernel) rfl, ⟨by decide, by decide⟩, by decide +kernel, by decide⟩, TT_in 1304 (by decide +kernel) rfl⟩
theorem lkX8_386 : q_LkS RX8 386 yX8_leastOf cX8_leastOf 4 (some .int) 2 := ⟨⟨TT_in 1315 (by decide +kernel) rfl, TT_in 1313 (by decide +kernel) rfl, TT_in 63 (by decide +kernel) rfl, ⟨by decide, by decide⟩, by decide +kernel, by decide⟩, TT_in 1314 (by decide +kernel) rfl⟩
theorem lkX8_389 : q_LkS RX8 389 yX8_joinedKind cX8_joinedKind 2 (some .int) 2 := ⟨⟨TT_in 1312 (by decide +kernel) rfl, TT_in 1310 (by decide +kernel) rfl, TT_in 63 (by decide +kernel) rfl, ⟨by decide, by decide⟩, by decide +kernel, by decide⟩, TT_in 1311 (by decide +kernel) rfl⟩
theorem lkX8_392 : q_LkV RX8 392 yX8_joinCells cX8_joinCells 4 none 1 6 := ⟨⟨TT_in 1319 (by decide +kernel) rfl, TT_in 1316 (by decide +kernel) rfl, TT_in 63 (by decide +kernel) rfl, ⟨by decide, by decide⟩, by decide +kernel, by decide⟩, TT_in 1318 (by decide +kernel) rfl, TT_in 52 (by decide +kernel) rfl, ⟨_, _, rfl⟩⟩
theorem lkX8_397 : q_LkV RX8 397 yX8_areAlike cX8_areAlike 5 (some .boolean) 2 6 := ⟨⟨TT_in 1332 (by decide +kernel) rfl, TT_in 1329 (by decide +kernel) rfl, TT_in 63 (by decide +kernel) rfl, ⟨by decide, by decide⟩, by decide +kernel, by decide⟩, TT_in 1331 (by decide +kernel) rfl, TT_in 53 (by decide +kernel) rfl, ⟨_, _, rfl⟩⟩
theorem lkX8_400 : q_LkV RX8 400 yX8_areSame cX8_areSame 3 (some .boolean) 2 6 := ⟨⟨TT_in 1340 (by decide +kernel) rfl, TT_in 1337 (by decide +kernel) rfl, TT_in 63 (by decide +kernel) rfl, ⟨by decide, by decide⟩, by decide +kernel, by decide⟩, TT_in 1339 (by decide +kernel) rfl, TT_in 54 (by decide +kernel) rfl, ⟨_, _, rfl⟩⟩
theorem lkX8_407 : q_LkV RX8 407 yX8_reasonBy cX8_reasonBy 4 (some .int) 3 6 := ⟨⟨TT_in 1362 (by decide +kernel) rfl, TT_in 1359 (by decide +kernel) rfl, TT_in 63 (by decide +kernel) rfl, ⟨by decide, by decide⟩, by decide +kernel, by decide⟩, TT_in 1361 (by decide +kernel) rfl, TT_in 55 (by decide +kernel) rfl, ⟨_, _, rfl⟩⟩
theorem lkJ13_308 : q_LkS RJ13 308 yJ6_numberOfLeadingZeros_0f7a4 cJ6_numberOfLeadingZeros_0f7a4 2 (some .int) 1 := ⟨⟨TT_in 456 (by decide +kernel) rfl, TT_in 454 (by decide +kernel) rfl, TT_in 72 (by decide +kernel) rfl, ⟨by decide, by decide⟩, by decide +kernel, by decide⟩, TT_in 455 (by decide +kernel) rfl⟩
theorem cnX7_135 : Cond.constantLong RX7 135 (-1) ∈ TT := TT_in 523 (by decide +kernel) rfl
theorem cnX7_137 : Cond.constantLong RX7 137 (-3) ∈ TT := TT_in 524 (by decide +kernel) rfl
theorem cnX7_143 : Cond.constantLong RX7 143 (-2) ∈ TT := TT_in 529 (by decide +kernel) rfl
theorem cnX7_217 : Cond.constantLong RX7 217 6364136223846793005 ∈ TT := TT_in 668 (by decide +kernel) rfl
theorem cnX7_219 : Cond.constantLong RX7 219 1442695040888963407 ∈ TT := TT_in 669 (by decide +kernel) rfl
theorem cnX7_291 : Cond.constant RX7 291 888888 ∈ TT := TT_in 740 (by decide +kernel) rfl
theorem cnX7_298 : Cond.constantLong RX7 298 (-9) ∈ TT := TT_in 552 (by decide +kernel) rfl
theorem cnX7_332 : Cond.constant RX7 332 100000 ∈ TT := TT_in 745 (by decide +kernel) rfl
theorem cnX2_61 : Cond.constantLong RX2 61 536870911 ∈ TT := TT_in 709 (by decide +kernel) rfl
theorem cnX2_66 : Cond.constantLong RX2 66 (-128) ∈ TT := TT_in 381 (by decide +kernel) rfl
theorem cnX2_68 : Cond.constantLong RX2 68 (-32768) ∈ TT := TT_in 382 (by decide +kernel) rfl
theorem cnX2_70 : Cond.constantLong RX2 70 (-2147483648) ∈ TT := TT_in 383 (by decide +kernel) rfl
theorem cnX2_72 : Cond.constantLong RX2 72 (-9223372036854775808) ∈ TT := TT_in 384 (by decide +kernel) rfl
theorem cnX2_74 : Cond.constantLong RX2 74 127 ∈ TT := TT_in 396 (by decide +kernel) rfl
theorem cnX2_76 : Cond.constantLong RX2 76 65535 ∈ TT := TT_in 397 (by decide +kernel) rfl
theorem cnX2_78 : Cond.constantLong RX2 78 32767 ∈ TT := TT_in 398 (by decide +kernel) rfl
theorem cnX2_80 : Cond.constantLong RX2 80 2147483647 ∈ TT := TT_in 399 (by decide +kernel) rfl
theorem cnX2_82 : Cond.constantLong RX2 82 9999 ∈ TT := TT_in 400 (by decide +kernel) rfl
theorem cnX2_84 : Cond.constantLong RX2 84 9223372036854775807 ∈ TT := TT_in 401 (by decide +kernel) rfl
theorem cnX2_104 : Cond.constantLong RX2 104 2147483648 ∈ TT := TT_in 461 (by decide +kernel) rfl
theorem cnX2_112 : Cond.constantLong RX2 112 255 ∈ TT := TT_in 627 (by decide +kernel) rfl
theorem cnX2_114 : Cond.constantLong RX2 114 896 ∈ TT := TT_in 628 (by decide +kernel) rfl
theorem cnX2_116 : Cond.constantLong RX2 116 8388607 ∈ TT := TT_in 629 (by decide +kernel) rfl
theorem cnX2_118 : Cond.constantLong RX2 118 2047 ∈ TT := TT_in 699 (by decide +kernel) rfl
theorem cnX2_120 : Cond.constantLong RX2 120 4503599627370495 ∈ TT := TT_in 704 (by decide +kernel) rfl
theorem cnX2_125 : Cond.constantLong RX2 125 (-4332462841530417152) ∈ TT := TT_in 700 (by decide +kernel) rfl
theorem cnX2_130 : Cond.constantLong RX2 130 4503599627370496 ∈ TT := TT_in 705 (by decide +kernel) rfl
theorem cnX3_81 : Cond.constantLong RX3 81 10 ∈ TT := TT_in 388 (by decide +kernel) rfl
theorem cnX8_96 : Cond.constantLong RX8 96 7 ∈ TT := TT_in 1032 (by decide +kernel) rfl
theorem cnX8_110 : Cond.constantLong RX8 110 2 ∈ TT := TT_in 1064 (by decide +kernel) rfl
theorem cnX8_112 : Cond.constantLong RX8 112 (-9223372036854775808) ∈ TT := TT_in 1063 (by decide +kernel) rfl
theorem cnX8_118 : Cond.constantLong RX8 118 (-128) ∈ TT := TT_in 1050 (by decide +kernel) rfl
theorem cnX8_120 : Cond.constantLong RX8 120 127 ∈ TT := TT_in 1051 (by decide +kernel) rfl
theorem cnX8_122 : Cond.constantLong RX8 122 65535 ∈ TT := TT_in 1052 (by decide +kernel) rfl
theorem cnX8_124 : Cond.constantLong RX8 124 (-32768) ∈ TT := TT_in 1053 (by decide +kernel) rfl
theorem cnX8_126 : Cond.constantLong RX8 126 32767 ∈ TT := TT_in 1054 (by decide +kernel) rfl
theorem cnX8_128 : Cond.constantLong RX8 128 (-2147483648) ∈ TT := TT_in 1055 (by decide +kernel) rfl
theorem cnX8_130 : Cond.constantLong RX8 130 2147483647 ∈ TT := TT_in 1056 (by decide +kernel) rfl
theorem cnX8_140 : Cond.constantLong RX8 140 255 ∈ TT := TT_in 999 (by decide +kernel) rfl
theorem cnX8_142 : Cond.constantLong RX8 142 128 ∈ TT := TT_in 1160 (by decide +kernel) rfl
theorem cnX8_144 : Cond.constantLong RX8 144 256 ∈ TT := TT_in 1161 (by decide +kernel) rfl
theorem cnX8_146 : Cond.constantLong RX8 146 32768 ∈ TT := TT_in 1162 (by decide +kernel) rfl
theorem cnX8_148 : Cond.constantLong RX8 148 65536 ∈ TT := TT_in 1163 (by decide +kernel) rfl
theorem cnX8_150 : Cond.constantLong RX8 150 4294967295 ∈ TT := TT_in 1164 (by decide +kernel) rfl
theorem cnX8_152 : Cond.constantLong RX8 152 2147483648 ∈ TT := TT_in 1165 (by decide +kernel) rfl
theorem cnX8_154 : Cond.constantLong RX8 154 4294967296 ∈ TT := TT_in 1166 (by decide +kernel) rfl
theorem cnX8_156 : Cond.constantLong RX8 156 (-1) ∈ TT := TT_in 1137 (by decide +kernel) rfl
theorem cnX8_176 : Cond.constantLong RX8 176 10 ∈ TT := TT_in 1041 (by decide +kernel) rfl
theorem cnX8_178 : Cond.constantLong RX8 178 9 ∈ TT := TT_in 1042 (by decide +kernel) rfl
theorem cnX8_190 : Cond.constantLong RX8 190 9999 ∈ TT := TT_in 1046 (by decide +kernel) rfl
theorem cnX8_263 : Cond.constantLong RX8 263 15 ∈ TT := TT_in 1115 (by decide +kernel) rfl
theorem cnX8_265 : Cond.constantLong RX8 265 6 ∈ TT := TT_in 1116 (by decide +kernel) rfl
theorem cnX8_279 : Cond.constantLong RX8 279 (-3) ∈ TT := TT_in 1138 (by decide +kernel) rfl
theorem cnX8_281 : Cond.constantLong RX8 281 (-2) ∈ TT := TT_in 1139 (by decide +kernel) rfl
theorem cnX8_294 : Cond.constantLong RX8 294 (-9) ∈ TT := TT_in 1152 (by decide +kernel) rfl
theorem cnX8_311 : Cond.constantLong RX8 311 999 ∈ TT := TT_in 1175 (by decide +kernel) rfl
theorem cnX8_353 : Cond.constantLong RX8 353 6364136223846793005 ∈ TT := TT_in 1253 (by decide +kernel) rfl
theorem cnX8_355 : Cond.constantLong RX8 355 1442695040888963407 ∈ TT := TT_in 1254 (by decide +kernel) rfl
theorem cnX8_364 : Cond.constantLong RX8 364 3 ∈ TT := TT_in 1259 (by decide +kernel) rfl
theorem cnX8_370 : Cond.constantLong RX8 370 888888 ∈ TT := TT_in 1287 (by decide +kernel) rfl
theorem cnX8_372 : Cond.constantLong RX8 372 8 ∈ TT := TT_in 1288 (by decide +kernel) rfl
theorem cnX8_377 : Cond.constant RX8 377 100000 ∈ TT := TT_in 1289 (by decide +kernel) rfl
theorem cnX8_381 : Cond.constantLong RX8 381 1023 ∈ TT := TT_in 1302 (by decide +kernel) rfl
theorem cnX8_395 : Cond.constantLong RX8 395 69 ∈ TT := TT_in 1324 (by decide +kernel) rfl
theorem cnX8_403 : Cond.constantLong RX8 403 4 ∈ TT := TT_in 1345 (by decide +kernel) rfl
theorem cnX8_405 : Cond.constantLong RX8 405 5 ∈ TT := TT_in 1346 (by decide +kernel) rfl
theorem cnJ6_264 : Cond.constant RJ6 264 65536 ∈ TT := TT_in 457 (by decide +kernel) rfl
