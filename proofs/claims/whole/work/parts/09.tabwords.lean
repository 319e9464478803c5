/-! ===== the tables' words by their places, by program ===== -/
theorem qin_0 {w : Cond} (h : w ∈ k2_sels lw_privs) : w ∈ lw_tbl := List.mem_append_left _ h
theorem qin_1 {w : Cond} (h : w ∈ tables_1_1) : w ∈ lw_tbl := List.mem_append_right _ (List.mem_append_left _ h)
theorem qin_2 {w : Cond} (h : w ∈ tables_1_2) : w ∈ lw_tbl := List.mem_append_right _ (List.mem_append_right _ (List.mem_append_left _ h))
theorem qin_3 {w : Cond} (h : w ∈ tables_1_3) : w ∈ lw_tbl := List.mem_append_right _ (List.mem_append_right _ (List.mem_append_right _ (List.mem_append_left _ h)))
theorem qin_4 {w : Cond} (h : w ∈ tables_1_4) : w ∈ lw_tbl := List.mem_append_right _ (List.mem_append_right _ (List.mem_append_right _ (List.mem_append_right _ (List.mem_append_left _ h))))
theorem qin_5 {w : Cond} (h : w ∈ tables_1_5) : w ∈ lw_tbl := List.mem_append_right _ (List.mem_append_right _ (List.mem_append_right _ (List.mem_append_right _ (List.mem_append_right _ (List.mem_append_left _ h)))))
theorem qin_6 {w : Cond} (h : w ∈ tables_1_6) : w ∈ lw_tbl := List.mem_append_right _ (List.mem_append_right _ (List.mem_append_right _ (List.mem_append_right _ (List.mem_append_right _ (List.mem_append_right _ h)))))
/-- the good words of the tables -/
def zT : List Cond := lw_tbl.filter goodWord
theorem zT_in {w : Cond} (h : w ∈ lw_tbl) (g : goodWord w = true) : w ∈ zT := List.mem_filter.mpr ⟨h, g⟩
/-- a method's words: its own code, and all good words -/
def wz (y : MethodName) (cc : ByteArray) (n : Nat) (r : Option FieldType) : List Cond := Cond.code y cc n r :: zT
theorem wz_in {y : MethodName} {cc : ByteArray} {n : Nat} {r : Option FieldType} {w : Cond} (h : w ∈ zT) : w ∈ wz y cc n r := List.mem_cons_of_mem _ h
theorem zG {y : MethodName} {cc : ByteArray} {n : Nat} {r : Option FieldType} {w : Cond} (h : w ∈ zT) : w ∈ wz y cc n r ∧ ((w.onTables && w.keeps) = true ∨ ∃ ty, w = .arrayClass ty) := ⟨wz_in h, good_of_word (List.mem_filter.mp h).2⟩
/-- a virtual call's words; a static one's -/
def ZV (own : String) (idx : Nat) (C : String) (y : MethodName) (cc : ByteArray) (n : Nat) (r : Option FieldType) : Prop := Cond.methodLink own idx y ∈ zT ∧ Cond.instanceMethod y ∈ zT ∧ Cond.selects C y y ∈ zT ∧ Cond.initialized C ∈ zT ∧ Cond.code y cc n r ∈ zT
def ZS (own : String) (idx : Nat) (y : MethodName) (cc : ByteArray) (n : Nat) (r : Option FieldType) : Prop := Cond.methodLink own idx y ∈ zT ∧ Cond.static y ∈ zT ∧ Cond.initialized y.cls ∈ zT ∧ Cond.code y cc n r ∈ zT
theorem zV {y0 : MethodName} {c0 : ByteArray} {n0 : Nat} {r0 : Option FieldType} {own : String} {idx : Nat} {C : String} {y : MethodName} {cc : ByteArray} {n : Nat} {r : Option FieldType} (h : ZV own idx C y cc n r) : GoodIn (wz y0 c0 n0 r0) (wsV own idx C y (wz y cc n r)) := by
  obtain ⟨h1, h2, h3, h4, h5⟩ := h
  intro w hw
  rcases List.mem_append.mp hw with hw | hw
  · rcases List.mem_cons.mp hw with rfl | hw
    · exact zG h1
    rcases List.mem_cons.mp hw with rfl | hw
    · exact zG h2
    rcases List.mem_cons.mp hw with rfl | hw
    · exact zG h3
    rcases List.mem_cons.mp hw with rfl | hw
    · exact zG h4
    cases hw
  · rcases List.mem_cons.mp hw with rfl | hw
    · exact zG h5
    · exact zG hw
theorem zS {y0 : MethodName} {c0 : ByteArray} {n0 : Nat} {r0 : Option FieldType} {own : String} {idx : Nat} {y : MethodName} {cc : ByteArray} {n : Nat} {r : Option FieldType} (h : ZS own idx y cc n r) : GoodIn (wz y0 c0 n0 r0) (va_wsS own idx y (wz y cc n r)) := by
  obtain ⟨h1, h2, h3, h5⟩ := h
  intro w hw
  rcases List.mem_append.mp hw with hw | hw
  · rcases List.mem_cons.mp hw with rfl | hw
    · exact zG h1
    rcases List.mem_cons.mp hw with rfl | hw
    · exact zG h2
    rcases List.mem_cons.mp hw with rfl | hw
    · exact zG h3
    cases hw
  · rcases List.mem_cons.mp hw with rfl | hw
    · exact zG h5
    · exact zG hw
theorem zN {y0 : MethodName} {c0 : ByteArray} {n0 : Nat} {r0 : Option FieldType} {y : MethodName} {cc : ByteArray} {n : Nat} {r : Option FieldType} (h : Cond.code y cc n r ∈ zT) : GoodIn (wz y0 c0 n0 r0) (wz y cc n r) := by
  intro w hw
  rcases List.mem_cons.mp hw with rfl | hw
  · exact zG h
  · exact zG hw

theorem zinX0 : ∀ w ∈ wsX00, w ∈ zT := fun w h => (List.all_eq_true.mp (by decide +kernel : (wsX00.all (fun w => decide (w ∈ lw_tbl) && goodWord w)) = true) w h |> fun h9 => zT_in (of_decide_eq_true (Bool.and_eq_true_iff.mp h9).1) (Bool.and_eq_true_iff.mp h9).2)
theorem zinX1 : ∀ w ∈ wsX10, w ∈ zT := fun w h => (List.all_eq_true.mp (by decide +kernel : (wsX10.all (fun w => decide (w ∈ lw_tbl) && goodWord w)) = true) w h |> fun h9 => zT_in (of_decide_eq_true (Bool.and_eq_true_iff.mp h9).1) (Bool.and_eq_true_iff.mp h9).2)
theorem zinX2 : ∀ w ∈ wsX20, w ∈ zT := fun w h => (List.all_eq_true.mp (by decide +kernel : (wsX20.all (fun w => decide (w ∈ lw_tbl) && goodWord w)) = true) w h |> fun h9 => zT_in (of_decide_eq_true (Bool.and_eq_true_iff.mp h9).1) (Bool.and_eq_true_iff.mp h9).2)
theorem zinX3 : ∀ w ∈ wsX30, w ∈ zT := fun w h => (List.all_eq_true.mp (by decide +kernel : (wsX30.all (fun w => decide (w ∈ lw_tbl) && goodWord w)) = true) w h |> fun h9 => zT_in (of_decide_eq_true (Bool.and_eq_true_iff.mp h9).1) (Bool.and_eq_true_iff.mp h9).2)
theorem zinX4 : ∀ w ∈ wsX40, w ∈ zT := fun w h => (List.all_eq_true.mp (by decide +kernel : (wsX40.all (fun w => decide (w ∈ lw_tbl) && goodWord w)) = true) w h |> fun h9 => zT_in (of_decide_eq_true (Bool.and_eq_true_iff.mp h9).1) (Bool.and_eq_true_iff.mp h9).2)
theorem zinX5 : ∀ w ∈ wsX50, w ∈ zT := fun w h => (List.all_eq_true.mp (by decide +kernel : (wsX50.all (fun w => decide (w ∈ lw_tbl) && goodWord w)) = true) w h |> fun h9 => zT_in (of_decide_eq_true (Bool.and_eq_true_iff.mp h9).1) (Bool.and_eq_true_iff.mp h9).2)
theorem zinX6 : ∀ w ∈ wsX60, w ∈ zT := fun w h => (List.all_eq_true.mp (by decide +kernel : (wsX60.all (fun w => decide (w ∈ lw_tbl) && goodWord w)) = true) w h |> fun h9 => zT_in (of_decide_eq_true (Bool.and_eq_true_iff.mp h9).1) (Bool.and_eq_true_iff.mp h9).2)
theorem zinX7 : ∀ w ∈ wsX70, w ∈ zT := fun w h => (List.all_eq_true.mp (by decide +kernel : (wsX70.all (fun w => decide (w ∈ lw_tbl) && goodWord w)) = true) w h |> fun h9 => zT_in (of_decide_eq_true (Bool.and_eq_true_iff.mp h9).1) (Bool.and_eq_true_iff.mp h9).2)
theorem qC_X0_forget : Cond.code yX0_forget cX0_forget 1 none ∈ zT := zT_in (qin_2 (List.mem_of_getElem? (i := 234) (by decide +kernel))) rfl
theorem qC_X0_remember : Cond.code yX0_remember cX0_remember 2 none ∈ zT := zT_in (qin_3 (List.mem_of_getElem? (i := 122) (by decide +kernel))) rfl
theorem qC_X0_size : Cond.code yX0_size cX0_size 1 (some .int) ∈ zT := zT_in (qin_4 (List.mem_of_getElem? (i := 39) (by decide +kernel))) rfl
theorem qC_X0_takeBack : Cond.code yX0_takeBack cX0_takeBack 2 none ∈ zT := zT_in (qin_4 (List.mem_of_getElem? (i := 43) (by decide +kernel))) rfl
theorem qC_X1_addSign : Cond.code yX1_addSign cX1_addSign 2 (some .int) ∈ zT := zT_in (qin_2 (List.mem_of_getElem? (i := 203) (by decide +kernel))) rfl
theorem qC_X1_emptyOut : Cond.code yX1_emptyOut cX1_emptyOut 2 (some .int) ∈ zT := zT_in (qin_1 (List.mem_of_getElem? (i := 210) (by decide +kernel))) rfl
theorem qC_X1_isAllowed : Cond.code yX1_isAllowed cX1_isAllowed 3 (some .boolean) ∈ zT := zT_in (qin_1 (List.mem_of_getElem? (i := 238) (by decide +kernel))) rfl
theorem qC_X1_isFull : Cond.code yX1_isFull cX1_isFull 1 (some .boolean) ∈ zT := zT_in (qin_2 (List.mem_of_getElem? (i := 180) (by decide +kernel))) rfl
theorem qC_X1_kilometer : Cond.code yX1_kilometer cX1_kilometer 5 (some .int) ∈ zT := zT_in (qin_2 (List.mem_of_getElem? (i := 31) (by decide +kernel))) rfl
theorem qC_X1_number : Cond.code yX1_number cX1_number 9 (some .int) ∈ zT := zT_in (qin_1 (List.mem_of_getElem? (i := 226) (by decide +kernel))) rfl
theorem qC_X1_readBay : Cond.code yX1_readBay cX1_readBay 4 none ∈ zT := zT_in (qin_2 (List.mem_of_getElem? (i := 56) (by decide +kernel))) rfl
theorem qC_X1_readDepot : Cond.code yX1_readDepot cX1_readDepot 4 none ∈ zT := zT_in (qin_2 (List.mem_of_getElem? (i := 64) (by decide +kernel))) rfl
theorem qC_X1_readGate : Cond.code yX1_readGate cX1_readGate 6 none ∈ zT := zT_in (qin_2 (List.mem_of_getElem? (i := 23) (by decide +kernel))) rfl
theorem qC_X1_readInto : Cond.code yX1_readInto cX1_readInto 4 (some .int) ∈ zT := zT_in (qin_1 (List.mem_of_getElem? (i := 218) (by decide +kernel))) rfl
theorem qC_X1_readPart : Cond.code yX1_readPart cX1_readPart 3 none ∈ zT := zT_in (qin_1 (List.mem_of_getElem? (i := 234) (by decide +kernel))) rfl
theorem qC_X1_readVehicle : Cond.code yX1_readVehicle cX1_readVehicle 6 none ∈ zT := zT_in (qin_2 (List.mem_of_getElem? (i := 76) (by decide +kernel))) rfl
theorem qC_X1_signAt : Cond.code yX1_signAt cX1_signAt 1 (some .int) ∈ zT := zT_in (qin_1 (List.mem_of_getElem? (i := 222) (by decide +kernel))) rfl
theorem qC_X2_copyFrom : Cond.code yX2_copyFrom cX2_copyFrom 2 none ∈ zT := zT_in (qin_2 (List.mem_of_getElem? (i := 228) (by decide +kernel))) rfl
theorem qC_X2_emptyLine : Cond.code yX2_emptyLine cX2_emptyLine 2 none ∈ zT := zT_in (qin_4 (List.mem_of_getElem? (i := 7) (by decide +kernel))) rfl
theorem qC_X2_emptyOut : Cond.code yX2_emptyOut cX2_emptyOut 2 none ∈ zT := zT_in (qin_1 (List.mem_of_getElem? (i := 186) (by decide +kernel))) rfl
theorem qC_X2_get : Cond.code yX2_get cX2_get 5 (some .int) ∈ zT := zT_in (qin_3 (List.mem_of_getElem? (i := 59) (by decide +kernel))) rfl
theorem qC_X2_join : Cond.code yX2_join cX2_join 3 none ∈ zT := zT_in (qin_2 (List.mem_of_getElem? (i := 88) (by decide +kernel))) rfl
theorem qC_X2_put : Cond.code yX2_put cX2_put 6 none ∈ zT := zT_in (qin_2 (List.mem_of_getElem? (i := 92) (by decide +kernel))) rfl
theorem qC_X2_remove : Cond.code yX2_remove cX2_remove 4 none ∈ zT := zT_in (qin_3 (List.mem_of_getElem? (i := 230) (by decide +kernel))) rfl
theorem qC_X2_size : Cond.code yX2_size cX2_size 2 (some .int) ∈ zT := zT_in (qin_2 (List.mem_of_getElem? (i := 19) (by decide +kernel))) rfl
theorem qC_X3_copyAt : Cond.code yX3_copyAt cX3_copyAt 2 (some (.object "WinterRoad$State")) ∈ zT := zT_in (qin_3 (List.mem_of_getElem? (i := 130) (by decide +kernel))) rfl
theorem qC_X3_emptyOut : Cond.code yX3_emptyOut cX3_emptyOut 2 none ∈ zT := zT_in (qin_2 (List.mem_of_getElem? (i := 238) (by decide +kernel))) rfl
theorem qC_X3_giveBack : Cond.code yX3_giveBack cX3_giveBack 4 none ∈ zT := zT_in (qin_4 (List.mem_of_getElem? (i := 47) (by decide +kernel))) rfl
theorem qC_X3_holds : Cond.code yX3_holds cX3_holds 2 (some .boolean) ∈ zT := zT_in (qin_4 (List.mem_of_getElem? (i := 149) (by decide +kernel))) rfl
theorem qC_X3_keep : Cond.code yX3_keep cX3_keep 4 none ∈ zT := zT_in (qin_3 (List.mem_of_getElem? (i := 126) (by decide +kernel))) rfl
theorem qC_X4_allArrive : Cond.code yX4_allArrive cX4_allArrive 2 (some .boolean) ∈ zT := zT_in (qin_4 (List.mem_of_getElem? (i := 87) (by decide +kernel))) rfl
theorem qC_X4_begin : Cond.code yX4_begin cX4_begin 2 none ∈ zT := zT_in (qin_1 (List.mem_of_getElem? (i := 178) (by decide +kernel))) rfl
theorem qC_X4_closedFor : Cond.code yX4_closedFor cX4_closedFor 4 (some .int) ∈ zT := zT_in (qin_3 (List.mem_of_getElem? (i := 94) (by decide +kernel))) rfl
theorem qC_X4_comesAhead : Cond.code yX4_comesAhead cX4_comesAhead 5 (some .boolean) ∈ zT := zT_in (qin_4 (List.mem_of_getElem? (i := 27) (by decide +kernel))) rfl
theorem qC_X4_copyFrom : Cond.code yX4_copyFrom cX4_copyFrom 2 none ∈ zT := zT_in (qin_2 (List.mem_of_getElem? (i := 214) (by decide +kernel))) rfl
theorem qC_X4_drive : Cond.code yX4_drive cX4_drive 4 none ∈ zT := zT_in (qin_3 (List.mem_of_getElem? (i := 206) (by decide +kernel))) rfl
theorem qC_X4_fillUp : Cond.code yX4_fillUp cX4_fillUp 7 none ∈ zT := zT_in (qin_3 (List.mem_of_getElem? (i := 211) (by decide +kernel))) rfl
theorem qC_X4_firstLeftBy : Cond.code yX4_firstLeftBy cX4_firstLeftBy 3 (some .int) ∈ zT := zT_in (qin_4 (List.mem_of_getElem? (i := 69) (by decide +kernel))) rfl
theorem qC_X4_giveFuel : Cond.code yX4_giveFuel cX4_giveFuel 6 none ∈ zT := zT_in (qin_4 (List.mem_of_getElem? (i := 19) (by decide +kernel))) rfl
theorem qC_X4_goOn : Cond.code yX4_goOn cX4_goOn 6 none ∈ zT := zT_in (qin_4 (List.mem_of_getElem? (i := 3) (by decide +kernel))) rfl
theorem qC_X4_hasRoomForVehicle : Cond.code yX4_hasRoomForVehicle cX4_hasRoomForVehicle 2 (some .boolean) ∈ zT := zT_in (qin_2 (List.mem_of_getElem? (i := 10) (by decide +kernel))) rfl
theorem qC_X4_hasTooLittle : Cond.code yX4_hasTooLittle cX4_hasTooLittle 2 (some .boolean) ∈ zT := zT_in (qin_3 (List.mem_of_getElem? (i := 226) (by decide +kernel))) rfl
theorem qC_X4_hours : Cond.code yX4_hours cX4_hours 1 (some .int) ∈ zT := zT_in (qin_3 (List.mem_of_getElem? (i := 11) (by decide +kernel))) rfl
theorem qC_X4_hoursToEnd : Cond.code yX4_hoursToEnd cX4_hoursToEnd 3 (some .int) ∈ zT := zT_in (qin_4 (List.mem_of_getElem? (i := 58) (by decide +kernel))) rfl
theorem qC_X4_howMany : Cond.code yX4_howMany cX4_howMany 4 (some .int) ∈ zT := zT_in (qin_3 (List.mem_of_getElem? (i := 15) (by decide +kernel))) rfl
theorem qC_X4_isAtEnd : Cond.code yX4_isAtEnd cX4_isAtEnd 2 (some .boolean) ∈ zT := zT_in (qin_3 (List.mem_of_getElem? (i := 68) (by decide +kernel))) rfl
theorem qC_X4_leaveStragglers : Cond.code yX4_leaveStragglers cX4_leaveStragglers 8 none ∈ zT := zT_in (qin_3 (List.mem_of_getElem? (i := 222) (by decide +kernel))) rfl
theorem qC_X4_length : Cond.code yX4_length cX4_length 1 (some .int) ∈ zT := zT_in (qin_2 (List.mem_of_getElem? (i := 27) (by decide +kernel))) rfl
theorem qC_X4_letGoBy : Cond.code yX4_letGoBy cX4_letGoBy 3 (some .boolean) ∈ zT := zT_in (qin_3 (List.mem_of_getElem? (i := 196) (by decide +kernel))) rfl
theorem qC_X4_letHourGoBy : Cond.code yX4_letHourGoBy cX4_letHourGoBy 2 none ∈ zT := zT_in (qin_3 (List.mem_of_getElem? (i := 201) (by decide +kernel))) rfl
theorem qC_X4_litersWith : Cond.code yX4_litersWith cX4_litersWith 4 (some .int) ∈ zT := zT_in (qin_3 (List.mem_of_getElem? (i := 64) (by decide +kernel))) rfl
theorem qC_X4_meetChance : Cond.code yX4_meetChance cX4_meetChance 5 none ∈ zT := zT_in (qin_4 (List.mem_of_getElem? (i := 125) (by decide +kernel))) rfl
theorem qC_X4_moveTo : Cond.code yX4_moveTo cX4_moveTo 4 none ∈ zT := zT_in (qin_2 (List.mem_of_getElem? (i := 84) (by decide +kernel))) rfl
theorem qC_X4_newBay : Cond.code yX4_newBay cX4_newBay 4 (some .int) ∈ zT := zT_in (qin_2 (List.mem_of_getElem? (i := 60) (by decide +kernel))) rfl
theorem qC_X4_newConvoy : Cond.code yX4_newConvoy cX4_newConvoy 1 (some .int) ∈ zT := zT_in (qin_2 (List.mem_of_getElem? (i := 72) (by decide +kernel))) rfl
theorem qC_X4_newDepot : Cond.code yX4_newDepot cX4_newDepot 4 (some .int) ∈ zT := zT_in (qin_2 (List.mem_of_getElem? (i := 68) (by decide +kernel))) rfl
theorem qC_X4_newGate : Cond.code yX4_newGate cX4_newGate 6 (some .int) ∈ zT := zT_in (qin_2 (List.mem_of_getElem? (i := 43) (by decide +kernel))) rfl
theorem qC_X4_newVehicle : Cond.code yX4_newVehicle cX4_newVehicle 7 (some .int) ∈ zT := zT_in (qin_2 (List.mem_of_getElem? (i := 80) (by decide +kernel))) rfl
theorem qC_X4_noteLeft : Cond.code yX4_noteLeft cX4_noteLeft 4 none ∈ zT := zT_in (qin_3 (List.mem_of_getElem? (i := 235) (by decide +kernel))) rfl
theorem qC_X4_obeys : Cond.code yX4_obeys cX4_obeys 9 (some .boolean) ∈ zT := zT_in (qin_4 (List.mem_of_getElem? (i := 103) (by decide +kernel))) rfl
theorem qC_X4_obeysHold : Cond.code yX4_obeysHold cX4_obeysHold 3 (some .boolean) ∈ zT := zT_in (qin_4 (List.mem_of_getElem? (i := 108) (by decide +kernel))) rfl
theorem qC_X4_obeysSupply : Cond.code yX4_obeysSupply cX4_obeysSupply 3 (some .boolean) ∈ zT := zT_in (qin_4 (List.mem_of_getElem? (i := 112) (by decide +kernel))) rfl
theorem qC_X4_putInOrder : Cond.code yX4_putInOrder cX4_putInOrder 5 none ∈ zT := zT_in (qin_4 (List.mem_of_getElem? (i := 23) (by decide +kernel))) rfl
theorem qC_X4_rescues : Cond.code yX4_rescues cX4_rescues 8 (some .boolean) ∈ zT := zT_in (qin_4 (List.mem_of_getElem? (i := 11) (by decide +kernel))) rfl
theorem qC_X4_richest : Cond.code yX4_richest cX4_richest 5 (some .int) ∈ zT := zT_in (qin_4 (List.mem_of_getElem? (i := 15) (by decide +kernel))) rfl
theorem qC_X4_slowestSpeed : Cond.code yX4_slowestSpeed cX4_slowestSpeed 5 (some .int) ∈ zT := zT_in (qin_3 (List.mem_of_getElem? (i := 55) (by decide +kernel))) rfl
theorem qC_X4_stands : Cond.code yX4_stands cX4_stands 4 (some .boolean) ∈ zT := zT_in (qin_3 (List.mem_of_getElem? (i := 239) (by decide +kernel))) rfl
theorem qC_X4_waitsAtGate : Cond.code yX4_waitsAtGate cX4_waitsAtGate 3 (some .boolean) ∈ zT := zT_in (qin_3 (List.mem_of_getElem? (i := 217) (by decide +kernel))) rfl
theorem qC_X5_addRow : Cond.code yX5_addRow cX5_addRow 2 (some .int) ∈ zT := zT_in (qin_2 (List.mem_of_getElem? (i := 47) (by decide +kernel))) rfl
theorem qC_X5_copyFrom : Cond.code yX5_copyFrom cX5_copyFrom 2 none ∈ zT := zT_in (qin_2 (List.mem_of_getElem? (i := 218) (by decide +kernel))) rfl
theorem qC_X5_count : Cond.code yX5_count cX5_count 1 (some .int) ∈ zT := zT_in (qin_2 (List.mem_of_getElem? (i := 6) (by decide +kernel))) rfl
theorem qC_X5_emptyOut : Cond.code yX5_emptyOut cX5_emptyOut 1 none ∈ zT := zT_in (qin_1 (List.mem_of_getElem? (i := 182) (by decide +kernel))) rfl
theorem qC_X5_get : Cond.code yX5_get cX5_get 5 (some .int) ∈ zT := zT_in (qin_2 (List.mem_of_getElem? (i := 39) (by decide +kernel))) rfl
theorem qC_X5_has : Cond.code yX5_has cX5_has 2 (some .boolean) ∈ zT := zT_in (qin_2 (List.mem_of_getElem? (i := 15) (by decide +kernel))) rfl
theorem qC_X5_isFull : Cond.code yX5_isFull cX5_isFull 1 (some .boolean) ∈ zT := zT_in (qin_2 (List.mem_of_getElem? (i := 2) (by decide +kernel))) rfl
theorem qC_X5_put : Cond.code yX5_put cX5_put 6 none ∈ zT := zT_in (qin_2 (List.mem_of_getElem? (i := 51) (by decide +kernel))) rfl
theorem qC_X5_raise : Cond.code yX5_raise cX5_raise 6 none ∈ zT := zT_in (qin_3 (List.mem_of_getElem? (i := 185) (by decide +kernel))) rfl
theorem qC_X5_rowAt : Cond.code yX5_rowAt cX5_rowAt 3 (some .int) ∈ zT := zT_in (qin_2 (List.mem_of_getElem? (i := 35) (by decide +kernel))) rfl
theorem qC_X5_sum : Cond.code yX5_sum cX5_sum 4 (some .int) ∈ zT := zT_in (qin_3 (List.mem_of_getElem? (i := 21) (by decide +kernel))) rfl
theorem qC_X6_checkExists : Cond.code yX6_checkExists cX6_checkExists 2 none ∈ zT := zT_in (qin_3 (List.mem_of_getElem? (i := 32) (by decide +kernel))) rfl
theorem qC_X6_checkRange : Cond.code yX6_checkRange cX6_checkRange 3 none ∈ zT := zT_in (qin_2 (List.mem_of_getElem? (i := 104) (by decide +kernel))) rfl
theorem qC_X6_checkSlot : Cond.code yX6_checkSlot cX6_checkSlot 1 none ∈ zT := zT_in (qin_4 (List.mem_of_getElem? (i := 136) (by decide +kernel))) rfl
theorem qC_X6_groupOf : Cond.code yX6_groupOf cX6_groupOf 6 (some .int) ∈ zT := zT_in (qin_4 (List.mem_of_getElem? (i := 99) (by decide +kernel))) rfl
theorem qC_X6_isWithin : Cond.code yX6_isWithin cX6_isWithin 3 (some .boolean) ∈ zT := zT_in (qin_1 (List.mem_of_getElem? (i := 229) (by decide +kernel))) rfl
theorem qC_X6_refuseArgumentIf : Cond.code yX6_refuseArgumentIf cX6_refuseArgumentIf 1 none ∈ zT := zT_in (qin_2 (List.mem_of_getElem? (i := 108) (by decide +kernel))) rfl
theorem qC_X6_refuseIf : Cond.code yX6_refuseIf cX6_refuseIf 1 none ∈ zT := zT_in (qin_2 (List.mem_of_getElem? (i := 183) (by decide +kernel))) rfl
theorem qC_X7_accept : Cond.code yX7_accept cX7_accept 2 none ∈ zT := zT_in (qin_4 (List.mem_of_getElem? (i := 235) (by decide +kernel))) rfl
theorem qC_X7_addBayTo : Cond.code yX7_addBayTo cX7_addBayTo 4 none ∈ zT := zT_in (qin_5 (List.mem_of_getElem? (i := 34) (by decide +kernel))) rfl
theorem qC_X7_addCarTo : Cond.code yX7_addCarTo cX7_addCarTo 7 none ∈ zT := zT_in (qin_5 (List.mem_of_getElem? (i := 63) (by decide +kernel))) rfl
theorem qC_X7_addConvoyTo : Cond.code yX7_addConvoyTo cX7_addConvoyTo 2 none ∈ zT := zT_in (qin_5 (List.mem_of_getElem? (i := 50) (by decide +kernel))) rfl
theorem qC_X7_addDepotTo : Cond.code yX7_addDepotTo cX7_addDepotTo 4 none ∈ zT := zT_in (qin_5 (List.mem_of_getElem? (i := 47) (by decide +kernel))) rfl
theorem qC_X7_addGateTo : Cond.code yX7_addGateTo cX7_addGateTo 6 none ∈ zT := zT_in (qin_5 (List.mem_of_getElem? (i := 21) (by decide +kernel))) rfl
theorem qC_X7_allArrive : Cond.code yX7_allArrive cX7_allArrive 2 (some .boolean) ∈ zT := zT_in (qin_6 (List.mem_of_getElem? (i := 24) (by decide +kernel))) rfl
theorem qC_X7_arrival : Cond.code yX7_arrival cX7_arrival 3 (some .int) ∈ zT := zT_in (qin_6 (List.mem_of_getElem? (i := 8) (by decide +kernel))) rfl
theorem qC_X7_arrive : Cond.code yX7_arrive cX7_arrive 3 none ∈ zT := zT_in (qin_5 (List.mem_of_getElem? (i := 220) (by decide +kernel))) rfl
theorem qC_X7_bayAt : Cond.code yX7_bayAt cX7_bayAt 2 (some .int) ∈ zT := zT_in (qin_5 (List.mem_of_getElem? (i := 31) (by decide +kernel))) rfl
theorem qC_X7_bayOn : Cond.code yX7_bayOn cX7_bayOn 4 (some .int) ∈ zT := zT_in (qin_5 (List.mem_of_getElem? (i := 28) (by decide +kernel))) rfl
theorem qC_X7_begin : Cond.code yX7_begin cX7_begin 1 none ∈ zT := zT_in (qin_6 (List.mem_of_getElem? (i := 4) (by decide +kernel))) rfl
theorem qC_X7_burn : Cond.code yX7_burn cX7_burn 4 none ∈ zT := zT_in (qin_5 (List.mem_of_getElem? (i := 217) (by decide +kernel))) rfl
theorem qC_X7_carAt : Cond.code yX7_carAt cX7_carAt 2 (some .int) ∈ zT := zT_in (qin_5 (List.mem_of_getElem? (i := 66) (by decide +kernel))) rfl
theorem qC_X7_closedFor : Cond.code yX7_closedFor cX7_closedFor 3 (some .int) ∈ zT := zT_in (qin_5 (List.mem_of_getElem? (i := 126) (by decide +kernel))) rfl
theorem qC_X7_convoyAt : Cond.code yX7_convoyAt cX7_convoyAt 2 (some .int) ∈ zT := zT_in (qin_5 (List.mem_of_getElem? (i := 53) (by decide +kernel))) rfl
theorem qC_X7_copy : Cond.code yX7_copy cX7_copy 6 none ∈ zT := zT_in (qin_5 (List.mem_of_getElem? (i := 73) (by decide +kernel))) rfl
theorem qC_X7_countAt : Cond.code yX7_countAt cX7_countAt 4 (some .int) ∈ zT := zT_in (qin_5 (List.mem_of_getElem? (i := 81) (by decide +kernel))) rfl
theorem qC_X7_demand : Cond.code yX7_demand cX7_demand 2 none ∈ zT := zT_in (qin_5 (List.mem_of_getElem? (i := 18) (by decide +kernel))) rfl
theorem qC_X7_depotAt : Cond.code yX7_depotAt cX7_depotAt 2 (some .int) ∈ zT := zT_in (qin_5 (List.mem_of_getElem? (i := 44) (by decide +kernel))) rfl
theorem qC_X7_depotOn : Cond.code yX7_depotOn cX7_depotOn 4 (some .int) ∈ zT := zT_in (qin_5 (List.mem_of_getElem? (i := 41) (by decide +kernel))) rfl
theorem qC_X7_depots : Cond.code yX7_depots cX7_depots 3 (some .int) ∈ zT := zT_in (qin_5 (List.mem_of_getElem? (i := 87) (by decide +kernel))) rfl
theorem qC_X7_digit : Cond.code yX7_digit cX7_digit 4 (some .int) ∈ zT := zT_in (qin_5 (List.mem_of_getElem? (i := 3) (by decide +kernel))) rfl
theorem qC_X7_does : Cond.code yX7_does cX7_does 8 (some .boolean) ∈ zT := zT_in (qin_6 (List.mem_of_getElem? (i := 37) (by decide +kernel))) rfl
theorem qC_X7_drop : Cond.code yX7_drop cX7_drop 5 none ∈ zT := zT_in (qin_5 (List.mem_of_getElem? (i := 214) (by decide +kernel))) rfl
theorem qC_X7_fill : Cond.code yX7_fill cX7_fill 7 none ∈ zT := zT_in (qin_5 (List.mem_of_getElem? (i := 204) (by decide +kernel))) rfl
theorem qC_X7_gateAt : Cond.code yX7_gateAt cX7_gateAt 2 (some .int) ∈ zT := zT_in (qin_5 (List.mem_of_getElem? (i := 14) (by decide +kernel))) rfl
theorem qC_X7_gateOn : Cond.code yX7_gateOn cX7_gateOn 4 (some .int) ∈ zT := zT_in (qin_5 (List.mem_of_getElem? (i := 11) (by decide +kernel))) rfl
theorem qC_X7_goConvoy : Cond.code yX7_goConvoy cX7_goConvoy 6 none ∈ zT := zT_in (qin_5 (List.mem_of_getElem? (i := 201) (by decide +kernel))) rfl
theorem qC_X7_goHour : Cond.code yX7_goHour cX7_goHour 3 none ∈ zT := zT_in (qin_5 (List.mem_of_getElem? (i := 197) (by decide +kernel))) rfl
theorem qC_X7_goHours : Cond.code yX7_goHours cX7_goHours 5 (some .int) ∈ zT := zT_in (qin_5 (List.mem_of_getElem? (i := 193) (by decide +kernel))) rfl
theorem qC_X7_helps : Cond.code yX7_helps cX7_helps 7 (some .boolean) ∈ zT := zT_in (qin_5 (List.mem_of_getElem? (i := 226) (by decide +kernel))) rfl
theorem qC_X7_in : Cond.code yX7_in cX7_in 6 (some .boolean) ∈ zT := zT_in (qin_4 (List.mem_of_getElem? (i := 211) (by decide +kernel))) rfl
theorem qC_X7_isBefore : Cond.code yX7_isBefore cX7_isBefore 4 (some .boolean) ∈ zT := zT_in (qin_5 (List.mem_of_getElem? (i := 232) (by decide +kernel))) rfl
theorem qC_X7_isClosed : Cond.code yX7_isClosed cX7_isClosed 2 (some .boolean) ∈ zT := zT_in (qin_5 (List.mem_of_getElem? (i := 129) (by decide +kernel))) rfl
theorem qC_X7_isConvoy : Cond.code yX7_isConvoy cX7_isConvoy 2 (some .boolean) ∈ zT := zT_in (qin_5 (List.mem_of_getElem? (i := 95) (by decide +kernel))) rfl
theorem qC_X7_isDepot : Cond.code yX7_isDepot cX7_isDepot 2 (some .boolean) ∈ zT := zT_in (qin_5 (List.mem_of_getElem? (i := 142) (by decide +kernel))) rfl
theorem qC_X7_isHold : Cond.code yX7_isHold cX7_isHold 1 (some .boolean) ∈ zT := zT_in (qin_5 (List.mem_of_getElem? (i := 179) (by decide +kernel))) rfl
theorem qC_X7_isNext : Cond.code yX7_isNext cX7_isNext 2 (some .boolean) ∈ zT := zT_in (qin_4 (List.mem_of_getElem? (i := 231) (by decide +kernel))) rfl
theorem qC_X7_isShort : Cond.code yX7_isShort cX7_isShort 2 (some .boolean) ∈ zT := zT_in (qin_5 (List.mem_of_getElem? (i := 211) (by decide +kernel))) rfl
theorem qC_X7_isThere : Cond.code yX7_isThere cX7_isThere 2 (some .boolean) ∈ zT := zT_in (qin_5 (List.mem_of_getElem? (i := 108) (by decide +kernel))) rfl
theorem qC_X7_litersOf : Cond.code yX7_litersOf cX7_litersOf 4 (some .int) ∈ zT := zT_in (qin_5 (List.mem_of_getElem? (i := 105) (by decide +kernel))) rfl
theorem qC_X7_order : Cond.code yX7_order cX7_order 6 none ∈ zT := zT_in (qin_5 (List.mem_of_getElem? (i := 229) (by decide +kernel))) rfl
theorem qC_X7_readBay : Cond.code yX7_readBay cX7_readBay 3 none ∈ zT := zT_in (qin_5 (List.mem_of_getElem? (i := 25) (by decide +kernel))) rfl
theorem qC_X7_readCar : Cond.code yX7_readCar cX7_readCar 6 none ∈ zT := zT_in (qin_5 (List.mem_of_getElem? (i := 57) (by decide +kernel))) rfl
theorem qC_X7_readDepot : Cond.code yX7_readDepot cX7_readDepot 4 none ∈ zT := zT_in (qin_5 (List.mem_of_getElem? (i := 38) (by decide +kernel))) rfl
theorem qC_X7_readGate : Cond.code yX7_readGate cX7_readGate 5 none ∈ zT := zT_in (qin_5 (List.mem_of_getElem? (i := 8) (by decide +kernel))) rfl
theorem qC_X7_readText : Cond.code yX7_readText cX7_readText 2 (some .int) ∈ zT := zT_in (qin_4 (List.mem_of_getElem? (i := 227) (by decide +kernel))) rfl
theorem qC_X7_refused : Cond.code yX7_refused cX7_refused 2 (some .boolean) ∈ zT := zT_in (qin_4 (List.mem_of_getElem? (i := 215) (by decide +kernel))) rfl
theorem qC_X7_remember : Cond.code yX7_remember cX7_remember 1 none ∈ zT := zT_in (qin_5 (List.mem_of_getElem? (i := 152) (by decide +kernel))) rfl
theorem qC_X7_rescue : Cond.code yX7_rescue cX7_rescue 5 none ∈ zT := zT_in (qin_5 (List.mem_of_getElem? (i := 223) (by decide +kernel))) rfl
theorem qC_X7_sheds : Cond.code yX7_sheds cX7_sheds 8 (some .boolean) ∈ zT := zT_in (qin_5 (List.mem_of_getElem? (i := 208) (by decide +kernel))) rfl
theorem qC_X7_sizeOf : Cond.code yX7_sizeOf cX7_sizeOf 2 (some .int) ∈ zT := zT_in (qin_5 (List.mem_of_getElem? (i := 60) (by decide +kernel))) rfl
theorem qC_X7_slowest : Cond.code yX7_slowest cX7_slowest 5 (some .int) ∈ zT := zT_in (qin_5 (List.mem_of_getElem? (i := 99) (by decide +kernel))) rfl
theorem qC_X7_stir : Cond.code yX7_stir cX7_stir 4 none ∈ zT := zT_in (qin_6 (List.mem_of_getElem? (i := 47) (by decide +kernel))) rfl
theorem qC_X7_tanks : Cond.code yX7_tanks cX7_tanks 3 (some .int) ∈ zT := zT_in (qin_5 (List.mem_of_getElem? (i := 84) (by decide +kernel))) rfl
theorem qC_X7_tenTo : Cond.code yX7_tenTo cX7_tenTo 4 (some .long) ∈ zT := zT_in (qin_6 (List.mem_of_getElem? (i := 31) (by decide +kernel))) rfl
theorem qC_X7_two : Cond.code yX7_two cX7_two 6 (some .int) ∈ zT := zT_in (qin_4 (List.mem_of_getElem? (i := 239) (by decide +kernel))) rfl
theorem qC_X7_who : Cond.code yX7_who cX7_who 3 (some .int) ∈ zT := zT_in (qin_5 (List.mem_of_getElem? (i := 102) (by decide +kernel))) rfl
theorem qC_max : Cond.code Lib.Math.max.name Lib.Math.max.code 2 (some .int) ∈ zT := zT_in (qin_1 (List.mem_of_getElem? (i := 59) (by decide +kernel))) rfl
theorem qC_min : Cond.code Lib.Math.min.name Lib.Math.min.code 2 (some .int) ∈ zT := zT_in (qin_2 (List.mem_of_getElem? (i := 221) (by decide +kernel))) rfl
theorem qF_X0_14 : Cond.fieldLink RX0 14 "WinterRoad$History" "shelf" "LWinterRoad$Shelf;" ∈ zT := zT_in (qin_1 (List.mem_of_getElem? (i := 163) (by decide +kernel))) rfl
theorem qF_X0_20 : Cond.fieldLink RX0 20 "WinterRoad$History" "size" "I" ∈ zT := zT_in (qin_1 (List.mem_of_getElem? (i := 165) (by decide +kernel))) rfl
theorem qF_X0_24 : Cond.fieldLink RX0 24 "WinterRoad$History" "next" "I" ∈ zT := zT_in (qin_1 (List.mem_of_getElem? (i := 164) (by decide +kernel))) rfl
theorem qF_X1_15 : Cond.fieldLink RX1 15 "WinterRoad$JourneyText" "length" "I" ∈ zT := zT_in (qin_1 (List.mem_of_getElem? (i := 32) (by decide +kernel))) rfl
theorem qF_X1_19 : Cond.fieldLink RX1 19 "WinterRoad$JourneyText" "at" "I" ∈ zT := zT_in (qin_1 (List.mem_of_getElem? (i := 33) (by decide +kernel))) rfl
theorem qF_X1_26 : Cond.fieldLink RX1 26 "WinterRoad$JourneyText" "wrong" "Z" ∈ zT := zT_in (qin_1 (List.mem_of_getElem? (i := 34) (by decide +kernel))) rfl
theorem qF_X1_63 : Cond.fieldLink RX1 63 "WinterRoad$State" "gates" "LWinterRoad$Table;" ∈ zT := zT_in (qin_1 (List.mem_of_getElem? (i := 93) (by decide +kernel))) rfl
theorem qF_X1_73 : Cond.fieldLink RX1 73 "WinterRoad$State" "bays" "LWinterRoad$Table;" ∈ zT := zT_in (qin_1 (List.mem_of_getElem? (i := 96) (by decide +kernel))) rfl
theorem qF_X1_76 : Cond.fieldLink RX1 76 "WinterRoad$State" "depots" "LWinterRoad$Table;" ∈ zT := zT_in (qin_1 (List.mem_of_getElem? (i := 99) (by decide +kernel))) rfl
theorem qF_X1_79 : Cond.fieldLink RX1 79 "WinterRoad$State" "convoys" "LWinterRoad$Table;" ∈ zT := zT_in (qin_1 (List.mem_of_getElem? (i := 102) (by decide +kernel))) rfl
theorem qF_X1_9 : Cond.fieldLink RX1 9 "WinterRoad$JourneyText" "signs" "[C" ∈ zT := zT_in (qin_1 (List.mem_of_getElem? (i := 31) (by decide +kernel))) rfl
theorem qF_X2_21 : Cond.fieldLink RX2 21 "WinterRoad$Lines" "sizes" "[I" ∈ zT := zT_in (qin_1 (List.mem_of_getElem? (i := 82) (by decide +kernel))) rfl
theorem qF_X2_25 : Cond.fieldLink RX2 25 "WinterRoad$Lines" "cells" "[I" ∈ zT := zT_in (qin_1 (List.mem_of_getElem? (i := 83) (by decide +kernel))) rfl
theorem qF_X2_9 : Cond.fieldLink RX2 9 "WinterRoad$Lines" "most" "I" ∈ zT := zT_in (qin_1 (List.mem_of_getElem? (i := 81) (by decide +kernel))) rfl
theorem qF_X3_15 : Cond.fieldLink RX3 15 "WinterRoad$Shelf" "copies" "[LWinterRoad$State;" ∈ zT := zT_in (qin_1 (List.mem_of_getElem? (i := 155) (by decide +kernel))) rfl
theorem qF_X3_21 : Cond.fieldLink RX3 21 "WinterRoad$Shelf" "taken" "[Z" ∈ zT := zT_in (qin_1 (List.mem_of_getElem? (i := 156) (by decide +kernel))) rfl
theorem qF_X4_14 : Cond.fieldLink RX4 14 "WinterRoad$State" "gates" "LWinterRoad$Table;" ∈ zT := zT_in (qin_1 (List.mem_of_getElem? (i := 91) (by decide +kernel))) rfl
theorem qF_X4_20 : Cond.fieldLink RX4 20 "WinterRoad$State" "bays" "LWinterRoad$Table;" ∈ zT := zT_in (qin_1 (List.mem_of_getElem? (i := 94) (by decide +kernel))) rfl
theorem qF_X4_23 : Cond.fieldLink RX4 23 "WinterRoad$State" "depots" "LWinterRoad$Table;" ∈ zT := zT_in (qin_1 (List.mem_of_getElem? (i := 97) (by decide +kernel))) rfl
theorem qF_X4_26 : Cond.fieldLink RX4 26 "WinterRoad$State" "convoys" "LWinterRoad$Table;" ∈ zT := zT_in (qin_1 (List.mem_of_getElem? (i := 100) (by decide +kernel))) rfl
theorem qF_X4_29 : Cond.fieldLink RX4 29 "WinterRoad$State" "vehicles" "LWinterRoad$Table;" ∈ zT := zT_in (qin_1 (List.mem_of_getElem? (i := 103) (by decide +kernel))) rfl
theorem qF_X4_35 : Cond.fieldLink RX4 35 "WinterRoad$State" "inConvoys" "LWinterRoad$Lines;" ∈ zT := zT_in (qin_1 (List.mem_of_getElem? (i := 105) (by decide +kernel))) rfl
theorem qF_X4_39 : Cond.fieldLink RX4 39 "WinterRoad$State" "inBays" "LWinterRoad$Lines;" ∈ zT := zT_in (qin_1 (List.mem_of_getElem? (i := 107) (by decide +kernel))) rfl
theorem qF_X4_42 : Cond.fieldLink RX4 42 "WinterRoad$State" "watched" "I" ∈ zT := zT_in (qin_1 (List.mem_of_getElem? (i := 112) (by decide +kernel))) rfl
theorem qF_X4_46 : Cond.fieldLink RX4 46 "WinterRoad$State" "firstLeft" "I" ∈ zT := zT_in (qin_1 (List.mem_of_getElem? (i := 113) (by decide +kernel))) rfl
theorem qF_X4_49 : Cond.fieldLink RX4 49 "WinterRoad$State" "length" "I" ∈ zT := zT_in (qin_1 (List.mem_of_getElem? (i := 109) (by decide +kernel))) rfl
theorem qF_X4_52 : Cond.fieldLink RX4 52 "WinterRoad$State" "hours" "I" ∈ zT := zT_in (qin_1 (List.mem_of_getElem? (i := 110) (by decide +kernel))) rfl
theorem qF_X4_66 : Cond.fieldLink RX4 66 "WinterRoad$State" "stirs" "Z" ∈ zT := zT_in (qin_1 (List.mem_of_getElem? (i := 111) (by decide +kernel))) rfl
theorem qF_X5_15 : Cond.fieldLink RX5 15 "WinterRoad$Table" "columns" "I" ∈ zT := zT_in (qin_1 (List.mem_of_getElem? (i := 61) (by decide +kernel))) rfl
theorem qF_X5_24 : Cond.fieldLink RX5 24 "WinterRoad$Table" "cells" "[I" ∈ zT := zT_in (qin_1 (List.mem_of_getElem? (i := 62) (by decide +kernel))) rfl
theorem qF_X5_28 : Cond.fieldLink RX5 28 "WinterRoad$Table" "count" "I" ∈ zT := zT_in (qin_1 (List.mem_of_getElem? (i := 63) (by decide +kernel))) rfl
theorem qF_X5_9 : Cond.fieldLink RX5 9 "WinterRoad$Table" "most" "I" ∈ zT := zT_in (qin_1 (List.mem_of_getElem? (i := 60) (by decide +kernel))) rfl
theorem qF_X6_10 : Cond.fieldLink RX6 10 "WinterRoad" "text" "LWinterRoad$JourneyText;" ∈ zT := zT_in (qin_1 (List.mem_of_getElem? (i := 187) (by decide +kernel))) rfl
theorem qF_X6_102 : Cond.fieldLink RX6 102 "WinterRoad$State" "convoys" "LWinterRoad$Table;" ∈ zT := zT_in (qin_1 (List.mem_of_getElem? (i := 101) (by decide +kernel))) rfl
theorem qF_X6_120 : Cond.fieldLink RX6 120 "WinterRoad$State" "inConvoys" "LWinterRoad$Lines;" ∈ zT := zT_in (qin_1 (List.mem_of_getElem? (i := 106) (by decide +kernel))) rfl
theorem qF_X6_146 : Cond.fieldLink RX6 146 "WinterRoad$State" "inBays" "LWinterRoad$Lines;" ∈ zT := zT_in (qin_1 (List.mem_of_getElem? (i := 108) (by decide +kernel))) rfl
theorem qF_X6_19 : Cond.fieldLink RX6 19 "WinterRoad" "now" "LWinterRoad$State;" ∈ zT := zT_in (qin_1 (List.mem_of_getElem? (i := 188) (by decide +kernel))) rfl
theorem qF_X6_23 : Cond.fieldLink RX6 23 "WinterRoad" "trial" "LWinterRoad$State;" ∈ zT := zT_in (qin_1 (List.mem_of_getElem? (i := 189) (by decide +kernel))) rfl
theorem qF_X6_29 : Cond.fieldLink RX6 29 "WinterRoad" "history" "LWinterRoad$History;" ∈ zT := zT_in (qin_1 (List.mem_of_getElem? (i := 190) (by decide +kernel))) rfl
theorem qF_X6_38 : Cond.fieldLink RX6 38 "WinterRoad" "slots" "LWinterRoad$Shelf;" ∈ zT := zT_in (qin_1 (List.mem_of_getElem? (i := 191) (by decide +kernel))) rfl
theorem qF_X6_78 : Cond.fieldLink RX6 78 "WinterRoad$State" "vehicles" "LWinterRoad$Table;" ∈ zT := zT_in (qin_1 (List.mem_of_getElem? (i := 104) (by decide +kernel))) rfl
theorem qF_X6_93 : Cond.fieldLink RX6 93 "WinterRoad$State" "gates" "LWinterRoad$Table;" ∈ zT := zT_in (qin_1 (List.mem_of_getElem? (i := 92) (by decide +kernel))) rfl
theorem qF_X6_96 : Cond.fieldLink RX6 96 "WinterRoad$State" "bays" "LWinterRoad$Table;" ∈ zT := zT_in (qin_1 (List.mem_of_getElem? (i := 95) (by decide +kernel))) rfl
theorem qF_X6_99 : Cond.fieldLink RX6 99 "WinterRoad$State" "depots" "LWinterRoad$Table;" ∈ zT := zT_in (qin_1 (List.mem_of_getElem? (i := 98) (by decide +kernel))) rfl
theorem qF_X7_13 : Cond.fieldLink RX7 13 "WinterRoadModel" "read" "[I" ∈ zT := zT_in (qin_4 (List.mem_of_getElem? (i := 162) (by decide +kernel))) rfl
theorem qF_X7_143 : Cond.fieldLink RX7 143 "WinterRoadModel" "scriptSize" "I" ∈ zT := zT_in (qin_4 (List.mem_of_getElem? (i := 159) (by decide +kernel))) rfl
theorem qF_X7_150 : Cond.fieldLink RX7 150 "WinterRoadModel" "spot" "I" ∈ zT := zT_in (qin_4 (List.mem_of_getElem? (i := 160) (by decide +kernel))) rfl
theorem qF_X7_153 : Cond.fieldLink RX7 153 "WinterRoadModel" "isGood" "Z" ∈ zT := zT_in (qin_4 (List.mem_of_getElem? (i := 161) (by decide +kernel))) rfl
theorem qF_X7_16 : Cond.fieldLink RX7 16 "WinterRoadModel" "now" "[I" ∈ zT := zT_in (qin_4 (List.mem_of_getElem? (i := 163) (by decide +kernel))) rfl
theorem qF_X7_19 : Cond.fieldLink RX7 19 "WinterRoadModel" "trial" "[I" ∈ zT := zT_in (qin_4 (List.mem_of_getElem? (i := 164) (by decide +kernel))) rfl
theorem qF_X7_22 : Cond.fieldLink RX7 22 "WinterRoadModel" "diary" "[I" ∈ zT := zT_in (qin_4 (List.mem_of_getElem? (i := 165) (by decide +kernel))) rfl
theorem qF_X7_25 : Cond.fieldLink RX7 25 "WinterRoadModel" "kept" "[I" ∈ zT := zT_in (qin_4 (List.mem_of_getElem? (i := 167) (by decide +kernel))) rfl
theorem qF_X7_28 : Cond.fieldLink RX7 28 "WinterRoadModel" "isKept" "[Z" ∈ zT := zT_in (qin_4 (List.mem_of_getElem? (i := 168) (by decide +kernel))) rfl
theorem qF_X7_32 : Cond.fieldLink RX7 32 "WinterRoadModel" "asked" "I" ∈ zT := zT_in (qin_4 (List.mem_of_getElem? (i := 169) (by decide +kernel))) rfl
theorem qF_X7_36 : Cond.fieldLink RX7 36 "WinterRoadModel" "found" "I" ∈ zT := zT_in (qin_4 (List.mem_of_getElem? (i := 170) (by decide +kernel))) rfl
theorem qF_X7_39 : Cond.fieldLink RX7 39 "WinterRoadModel" "refusal" "I" ∈ zT := zT_in (qin_4 (List.mem_of_getElem? (i := 157) (by decide +kernel))) rfl
theorem qF_X7_44 : Cond.fieldLink RX7 44 "WinterRoadModel" "acts" "I" ∈ zT := zT_in (qin_4 (List.mem_of_getElem? (i := 166) (by decide +kernel))) rfl
theorem qF_X7_7 : Cond.fieldLink RX7 7 "WinterRoadModel" "script" "[I" ∈ zT := zT_in (qin_4 (List.mem_of_getElem? (i := 158) (by decide +kernel))) rfl
theorem qI_X0_forget : Cond.instanceMethod yX0_forget ∈ zT := zT_in (qin_2 (List.mem_of_getElem? (i := 232) (by decide +kernel))) rfl
theorem qI_X0_remember : Cond.instanceMethod yX0_remember ∈ zT := zT_in (qin_3 (List.mem_of_getElem? (i := 120) (by decide +kernel))) rfl
theorem qI_X0_size : Cond.instanceMethod yX0_size ∈ zT := zT_in (qin_4 (List.mem_of_getElem? (i := 37) (by decide +kernel))) rfl
theorem qI_X0_takeBack : Cond.instanceMethod yX0_takeBack ∈ zT := zT_in (qin_4 (List.mem_of_getElem? (i := 41) (by decide +kernel))) rfl
theorem qI_X1_addSign : Cond.instanceMethod yX1_addSign ∈ zT := zT_in (qin_2 (List.mem_of_getElem? (i := 201) (by decide +kernel))) rfl
theorem qI_X1_emptyOut : Cond.instanceMethod yX1_emptyOut ∈ zT := zT_in (qin_1 (List.mem_of_getElem? (i := 208) (by decide +kernel))) rfl
theorem qI_X1_isAllowed : Cond.instanceMethod yX1_isAllowed ∈ zT := zT_in (qin_1 (List.mem_of_getElem? (i := 237) (by decide +kernel))) rfl
theorem qI_X1_isFull : Cond.instanceMethod yX1_isFull ∈ zT := zT_in (qin_2 (List.mem_of_getElem? (i := 178) (by decide +kernel))) rfl
theorem qI_X1_kilometer : Cond.instanceMethod yX1_kilometer ∈ zT := zT_in (qin_2 (List.mem_of_getElem? (i := 30) (by decide +kernel))) rfl
theorem qI_X1_number : Cond.instanceMethod yX1_number ∈ zT := zT_in (qin_1 (List.mem_of_getElem? (i := 225) (by decide +kernel))) rfl
theorem qI_X1_readBay : Cond.instanceMethod yX1_readBay ∈ zT := zT_in (qin_2 (List.mem_of_getElem? (i := 55) (by decide +kernel))) rfl
theorem qI_X1_readDepot : Cond.instanceMethod yX1_readDepot ∈ zT := zT_in (qin_2 (List.mem_of_getElem? (i := 63) (by decide +kernel))) rfl
theorem qI_X1_readGate : Cond.instanceMethod yX1_readGate ∈ zT := zT_in (qin_2 (List.mem_of_getElem? (i := 22) (by decide +kernel))) rfl
theorem qI_X1_readInto : Cond.instanceMethod yX1_readInto ∈ zT := zT_in (qin_1 (List.mem_of_getElem? (i := 216) (by decide +kernel))) rfl
theorem qI_X1_readPart : Cond.instanceMethod yX1_readPart ∈ zT := zT_in (qin_1 (List.mem_of_getElem? (i := 233) (by decide +kernel))) rfl
theorem qI_X1_readVehicle : Cond.instanceMethod yX1_readVehicle ∈ zT := zT_in (qin_2 (List.mem_of_getElem? (i := 75) (by decide +kernel))) rfl
theorem qI_X1_signAt : Cond.instanceMethod yX1_signAt ∈ zT := zT_in (qin_1 (List.mem_of_getElem? (i := 221) (by decide +kernel))) rfl
theorem qI_X2_copyFrom : Cond.instanceMethod yX2_copyFrom ∈ zT := zT_in (qin_2 (List.mem_of_getElem? (i := 226) (by decide +kernel))) rfl
theorem qI_X2_emptyLine : Cond.instanceMethod yX2_emptyLine ∈ zT := zT_in (qin_4 (List.mem_of_getElem? (i := 5) (by decide +kernel))) rfl
theorem qI_X2_emptyOut : Cond.instanceMethod yX2_emptyOut ∈ zT := zT_in (qin_1 (List.mem_of_getElem? (i := 184) (by decide +kernel))) rfl
theorem qI_X2_get : Cond.instanceMethod yX2_get ∈ zT := zT_in (qin_3 (List.mem_of_getElem? (i := 57) (by decide +kernel))) rfl
theorem qI_X2_join : Cond.instanceMethod yX2_join ∈ zT := zT_in (qin_2 (List.mem_of_getElem? (i := 86) (by decide +kernel))) rfl
theorem qI_X2_put : Cond.instanceMethod yX2_put ∈ zT := zT_in (qin_2 (List.mem_of_getElem? (i := 90) (by decide +kernel))) rfl
theorem qI_X2_remove : Cond.instanceMethod yX2_remove ∈ zT := zT_in (qin_3 (List.mem_of_getElem? (i := 228) (by decide +kernel))) rfl
theorem qI_X2_size : Cond.instanceMethod yX2_size ∈ zT := zT_in (qin_2 (List.mem_of_getElem? (i := 17) (by decide +kernel))) rfl
theorem qI_X3_copyAt : Cond.instanceMethod yX3_copyAt ∈ zT := zT_in (qin_3 (List.mem_of_getElem? (i := 129) (by decide +kernel))) rfl
theorem qI_X3_emptyOut : Cond.instanceMethod yX3_emptyOut ∈ zT := zT_in (qin_2 (List.mem_of_getElem? (i := 236) (by decide +kernel))) rfl
theorem qI_X3_giveBack : Cond.instanceMethod yX3_giveBack ∈ zT := zT_in (qin_4 (List.mem_of_getElem? (i := 45) (by decide +kernel))) rfl
theorem qI_X3_holds : Cond.instanceMethod yX3_holds ∈ zT := zT_in (qin_4 (List.mem_of_getElem? (i := 147) (by decide +kernel))) rfl
theorem qI_X3_keep : Cond.instanceMethod yX3_keep ∈ zT := zT_in (qin_3 (List.mem_of_getElem? (i := 124) (by decide +kernel))) rfl
theorem qI_X4_allArrive : Cond.instanceMethod yX4_allArrive ∈ zT := zT_in (qin_4 (List.mem_of_getElem? (i := 85) (by decide +kernel))) rfl
theorem qI_X4_begin : Cond.instanceMethod yX4_begin ∈ zT := zT_in (qin_1 (List.mem_of_getElem? (i := 176) (by decide +kernel))) rfl
theorem qI_X4_closedFor : Cond.instanceMethod yX4_closedFor ∈ zT := zT_in (qin_3 (List.mem_of_getElem? (i := 92) (by decide +kernel))) rfl
theorem qI_X4_comesAhead : Cond.instanceMethod yX4_comesAhead ∈ zT := zT_in (qin_4 (List.mem_of_getElem? (i := 26) (by decide +kernel))) rfl
theorem qI_X4_copyFrom : Cond.instanceMethod yX4_copyFrom ∈ zT := zT_in (qin_2 (List.mem_of_getElem? (i := 212) (by decide +kernel))) rfl
theorem qI_X4_drive : Cond.instanceMethod yX4_drive ∈ zT := zT_in (qin_3 (List.mem_of_getElem? (i := 205) (by decide +kernel))) rfl
theorem qI_X4_fillUp : Cond.instanceMethod yX4_fillUp ∈ zT := zT_in (qin_3 (List.mem_of_getElem? (i := 210) (by decide +kernel))) rfl
theorem qI_X4_firstLeftBy : Cond.instanceMethod yX4_firstLeftBy ∈ zT := zT_in (qin_4 (List.mem_of_getElem? (i := 67) (by decide +kernel))) rfl
theorem qI_X4_giveFuel : Cond.instanceMethod yX4_giveFuel ∈ zT := zT_in (qin_4 (List.mem_of_getElem? (i := 18) (by decide +kernel))) rfl
theorem qI_X4_goOn : Cond.instanceMethod yX4_goOn ∈ zT := zT_in (qin_4 (List.mem_of_getElem? (i := 2) (by decide +kernel))) rfl
theorem qI_X4_hasRoomForVehicle : Cond.instanceMethod yX4_hasRoomForVehicle ∈ zT := zT_in (qin_2 (List.mem_of_getElem? (i := 8) (by decide +kernel))) rfl
theorem qI_X4_hasTooLittle : Cond.instanceMethod yX4_hasTooLittle ∈ zT := zT_in (qin_3 (List.mem_of_getElem? (i := 225) (by decide +kernel))) rfl
theorem qI_X4_hours : Cond.instanceMethod yX4_hours ∈ zT := zT_in (qin_3 (List.mem_of_getElem? (i := 9) (by decide +kernel))) rfl
theorem qI_X4_hoursToEnd : Cond.instanceMethod yX4_hoursToEnd ∈ zT := zT_in (qin_4 (List.mem_of_getElem? (i := 56) (by decide +kernel))) rfl
theorem qI_X4_howMany : Cond.instanceMethod yX4_howMany ∈ zT := zT_in (qin_3 (List.mem_of_getElem? (i := 13) (by decide +kernel))) rfl
theorem qI_X4_isAtEnd : Cond.instanceMethod yX4_isAtEnd ∈ zT := zT_in (qin_3 (List.mem_of_getElem? (i := 66) (by decide +kernel))) rfl
theorem qI_X4_leaveStragglers : Cond.instanceMethod yX4_leaveStragglers ∈ zT := zT_in (qin_3 (List.mem_of_getElem? (i := 221) (by decide +kernel))) rfl
theorem qI_X4_length : Cond.instanceMethod yX4_length ∈ zT := zT_in (qin_2 (List.mem_of_getElem? (i := 25) (by decide +kernel))) rfl
theorem qI_X4_letGoBy : Cond.instanceMethod yX4_letGoBy ∈ zT := zT_in (qin_3 (List.mem_of_getElem? (i := 194) (by decide +kernel))) rfl
theorem qI_X4_letHourGoBy : Cond.instanceMethod yX4_letHourGoBy ∈ zT := zT_in (qin_3 (List.mem_of_getElem? (i := 199) (by decide +kernel))) rfl
theorem qI_X4_litersWith : Cond.instanceMethod yX4_litersWith ∈ zT := zT_in (qin_3 (List.mem_of_getElem? (i := 62) (by decide +kernel))) rfl
theorem qI_X4_meetChance : Cond.instanceMethod yX4_meetChance ∈ zT := zT_in (qin_4 (List.mem_of_getElem? (i := 123) (by decide +kernel))) rfl
theorem qI_X4_moveTo : Cond.instanceMethod yX4_moveTo ∈ zT := zT_in (qin_2 (List.mem_of_getElem? (i := 83) (by decide +kernel))) rfl
theorem qI_X4_newBay : Cond.instanceMethod yX4_newBay ∈ zT := zT_in (qin_2 (List.mem_of_getElem? (i := 58) (by decide +kernel))) rfl
theorem qI_X4_newConvoy : Cond.instanceMethod yX4_newConvoy ∈ zT := zT_in (qin_2 (List.mem_of_getElem? (i := 70) (by decide +kernel))) rfl
theorem qI_X4_newDepot : Cond.instanceMethod yX4_newDepot ∈ zT := zT_in (qin_2 (List.mem_of_getElem? (i := 66) (by decide +kernel))) rfl
theorem qI_X4_newGate : Cond.instanceMethod yX4_newGate ∈ zT := zT_in (qin_2 (List.mem_of_getElem? (i := 41) (by decide +kernel))) rfl
theorem qI_X4_newVehicle : Cond.instanceMethod yX4_newVehicle ∈ zT := zT_in (qin_2 (List.mem_of_getElem? (i := 78) (by decide +kernel))) rfl
theorem qI_X4_noteLeft : Cond.instanceMethod yX4_noteLeft ∈ zT := zT_in (qin_3 (List.mem_of_getElem? (i := 234) (by decide +kernel))) rfl
theorem qI_X4_obeys : Cond.instanceMethod yX4_obeys ∈ zT := zT_in (qin_4 (List.mem_of_getElem? (i := 101) (by decide +kernel))) rfl
theorem qI_X4_obeysHold : Cond.instanceMethod yX4_obeysHold ∈ zT := zT_in (qin_4 (List.mem_of_getElem? (i := 107) (by decide +kernel))) rfl
theorem qI_X4_obeysSupply : Cond.instanceMethod yX4_obeysSupply ∈ zT := zT_in (qin_4 (List.mem_of_getElem? (i := 111) (by decide +kernel))) rfl
theorem qI_X4_putInOrder : Cond.instanceMethod yX4_putInOrder ∈ zT := zT_in (qin_4 (List.mem_of_getElem? (i := 22) (by decide +kernel))) rfl
theorem qI_X4_rescues : Cond.instanceMethod yX4_rescues ∈ zT := zT_in (qin_4 (List.mem_of_getElem? (i := 10) (by decide +kernel))) rfl
theorem qI_X4_richest : Cond.instanceMethod yX4_richest ∈ zT := zT_in (qin_4 (List.mem_of_getElem? (i := 14) (by decide +kernel))) rfl
theorem qI_X4_slowestSpeed : Cond.instanceMethod yX4_slowestSpeed ∈ zT := zT_in (qin_3 (List.mem_of_getElem? (i := 53) (by decide +kernel))) rfl
theorem qI_X4_stands : Cond.instanceMethod yX4_stands ∈ zT := zT_in (qin_3 (List.mem_of_getElem? (i := 238) (by decide +kernel))) rfl
theorem qI_X4_waitsAtGate : Cond.instanceMethod yX4_waitsAtGate ∈ zT := zT_in (qin_3 (List.mem_of_getElem? (i := 216) (by decide +kernel))) rfl
theorem qI_X5_addRow : Cond.instanceMethod yX5_addRow ∈ zT := zT_in (qin_2 (List.mem_of_getElem? (i := 45) (by decide +kernel))) rfl
theorem qI_X5_copyFrom : Cond.instanceMethod yX5_copyFrom ∈ zT := zT_in (qin_2 (List.mem_of_getElem? (i := 216) (by decide +kernel))) rfl
theorem qI_X5_count : Cond.instanceMethod yX5_count ∈ zT := zT_in (qin_2 (List.mem_of_getElem? (i := 4) (by decide +kernel))) rfl
theorem qI_X5_emptyOut : Cond.instanceMethod yX5_emptyOut ∈ zT := zT_in (qin_1 (List.mem_of_getElem? (i := 180) (by decide +kernel))) rfl
theorem qI_X5_get : Cond.instanceMethod yX5_get ∈ zT := zT_in (qin_2 (List.mem_of_getElem? (i := 37) (by decide +kernel))) rfl
theorem qI_X5_has : Cond.instanceMethod yX5_has ∈ zT := zT_in (qin_2 (List.mem_of_getElem? (i := 13) (by decide +kernel))) rfl
theorem qI_X5_isFull : Cond.instanceMethod yX5_isFull ∈ zT := zT_in (qin_2 (List.mem_of_getElem? (i := 0) (by decide +kernel))) rfl
theorem qI_X5_put : Cond.instanceMethod yX5_put ∈ zT := zT_in (qin_2 (List.mem_of_getElem? (i := 49) (by decide +kernel))) rfl
theorem qI_X5_raise : Cond.instanceMethod yX5_raise ∈ zT := zT_in (qin_3 (List.mem_of_getElem? (i := 183) (by decide +kernel))) rfl
theorem qI_X5_rowAt : Cond.instanceMethod yX5_rowAt ∈ zT := zT_in (qin_2 (List.mem_of_getElem? (i := 33) (by decide +kernel))) rfl
theorem qI_X5_sum : Cond.instanceMethod yX5_sum ∈ zT := zT_in (qin_3 (List.mem_of_getElem? (i := 19) (by decide +kernel))) rfl
theorem qI_X7_accept : Cond.instanceMethod yX7_accept ∈ zT := zT_in (qin_4 (List.mem_of_getElem? (i := 234) (by decide +kernel))) rfl
theorem qI_X7_allArrive : Cond.instanceMethod yX7_allArrive ∈ zT := zT_in (qin_6 (List.mem_of_getElem? (i := 23) (by decide +kernel))) rfl
theorem qI_X7_arrival : Cond.instanceMethod yX7_arrival ∈ zT := zT_in (qin_6 (List.mem_of_getElem? (i := 7) (by decide +kernel))) rfl
theorem qI_X7_begin : Cond.instanceMethod yX7_begin ∈ zT := zT_in (qin_6 (List.mem_of_getElem? (i := 3) (by decide +kernel))) rfl
theorem qI_X7_closedFor : Cond.instanceMethod yX7_closedFor ∈ zT := zT_in (qin_5 (List.mem_of_getElem? (i := 125) (by decide +kernel))) rfl
theorem qI_X7_demand : Cond.instanceMethod yX7_demand ∈ zT := zT_in (qin_5 (List.mem_of_getElem? (i := 17) (by decide +kernel))) rfl
theorem qI_X7_digit : Cond.instanceMethod yX7_digit ∈ zT := zT_in (qin_5 (List.mem_of_getElem? (i := 2) (by decide +kernel))) rfl
theorem qI_X7_does : Cond.instanceMethod yX7_does ∈ zT := zT_in (qin_6 (List.mem_of_getElem? (i := 36) (by decide +kernel))) rfl
theorem qI_X7_goConvoy : Cond.instanceMethod yX7_goConvoy ∈ zT := zT_in (qin_5 (List.mem_of_getElem? (i := 200) (by decide +kernel))) rfl
theorem qI_X7_goHour : Cond.instanceMethod yX7_goHour ∈ zT := zT_in (qin_5 (List.mem_of_getElem? (i := 196) (by decide +kernel))) rfl
theorem qI_X7_goHours : Cond.instanceMethod yX7_goHours ∈ zT := zT_in (qin_5 (List.mem_of_getElem? (i := 192) (by decide +kernel))) rfl
theorem qI_X7_isConvoy : Cond.instanceMethod yX7_isConvoy ∈ zT := zT_in (qin_5 (List.mem_of_getElem? (i := 94) (by decide +kernel))) rfl
theorem qI_X7_isDepot : Cond.instanceMethod yX7_isDepot ∈ zT := zT_in (qin_5 (List.mem_of_getElem? (i := 141) (by decide +kernel))) rfl
theorem qI_X7_isNext : Cond.instanceMethod yX7_isNext ∈ zT := zT_in (qin_4 (List.mem_of_getElem? (i := 230) (by decide +kernel))) rfl
theorem qI_X7_readBay : Cond.instanceMethod yX7_readBay ∈ zT := zT_in (qin_5 (List.mem_of_getElem? (i := 24) (by decide +kernel))) rfl
theorem qI_X7_readCar : Cond.instanceMethod yX7_readCar ∈ zT := zT_in (qin_5 (List.mem_of_getElem? (i := 56) (by decide +kernel))) rfl
theorem qI_X7_readDepot : Cond.instanceMethod yX7_readDepot ∈ zT := zT_in (qin_5 (List.mem_of_getElem? (i := 37) (by decide +kernel))) rfl
theorem qI_X7_readGate : Cond.instanceMethod yX7_readGate ∈ zT := zT_in (qin_5 (List.mem_of_getElem? (i := 7) (by decide +kernel))) rfl
theorem qI_X7_readText : Cond.instanceMethod yX7_readText ∈ zT := zT_in (qin_4 (List.mem_of_getElem? (i := 226) (by decide +kernel))) rfl
theorem qI_X7_refused : Cond.instanceMethod yX7_refused ∈ zT := zT_in (qin_4 (List.mem_of_getElem? (i := 214) (by decide +kernel))) rfl
theorem qI_X7_remember : Cond.instanceMethod yX7_remember ∈ zT := zT_in (qin_5 (List.mem_of_getElem? (i := 151) (by decide +kernel))) rfl
theorem qI_X7_sheds : Cond.instanceMethod yX7_sheds ∈ zT := zT_in (qin_5 (List.mem_of_getElem? (i := 207) (by decide +kernel))) rfl
theorem qI_X7_stir : Cond.instanceMethod yX7_stir ∈ zT := zT_in (qin_6 (List.mem_of_getElem? (i := 46) (by decide +kernel))) rfl
theorem qI_X7_two : Cond.instanceMethod yX7_two ∈ zT := zT_in (qin_4 (List.mem_of_getElem? (i := 238) (by decide +kernel))) rfl
theorem qK_X6_199 : Cond.constantLong RX6 199 (lN 100000) ∈ zT := zT_in (qin_4 (List.mem_of_getElem? (i := 96) (by decide +kernel))) rfl
theorem qK_X6_208 : Cond.constantLong RX6 208 6364136223846793005 ∈ zT := zT_in (qin_4 (List.mem_of_getElem? (i := 120) (by decide +kernel))) rfl
theorem qK_X6_210 : Cond.constantLong RX6 210 1442695040888963407 ∈ zT := zT_in (qin_4 (List.mem_of_getElem? (i := 121) (by decide +kernel))) rfl
theorem qK_X7_137 : Cond.constantLong RX7 137 (lN 255) ∈ zT := zT_in (qin_4 (List.mem_of_getElem? (i := 208) (by decide +kernel))) rfl
theorem qK_X7_157 : Cond.constantLong RX7 157 (lN 9) ∈ zT := zT_in (qin_5 (List.mem_of_getElem? (i := 4) (by decide +kernel))) rfl
theorem qK_X7_209 : Cond.constantLong RX7 209 (lN 11) ∈ zT := zT_in (qin_5 (List.mem_of_getElem? (i := 78) (by decide +kernel))) rfl
theorem qK_X7_221 : Cond.constantLong RX7 221 (lN 7) ∈ zT := zT_in (qin_5 (List.mem_of_getElem? (i := 96) (by decide +kernel))) rfl
theorem qK_X7_226 : Cond.constantLong RX7 226 (lN 6) ∈ zT := zT_in (qin_5 (List.mem_of_getElem? (i := 117) (by decide +kernel))) rfl
theorem qK_X7_228 : Cond.constantLong RX7 228 (lN 5) ∈ zT := zT_in (qin_5 (List.mem_of_getElem? (i := 122) (by decide +kernel))) rfl
theorem qK_X7_234 : Cond.constantLong RX7 234 (lN 3) ∈ zT := zT_in (qin_5 (List.mem_of_getElem? (i := 134) (by decide +kernel))) rfl
theorem qK_X7_239 : Cond.constantLong RX7 239 (lN 2) ∈ zT := zT_in (qin_5 (List.mem_of_getElem? (i := 147) (by decide +kernel))) rfl
theorem qK_X7_241 : Cond.constantLong RX7 241 (lN 24) ∈ zT := zT_in (qin_5 (List.mem_of_getElem? (i := 148) (by decide +kernel))) rfl
theorem qK_X7_246 : Cond.constantLong RX7 246 (lN 999) ∈ zT := zT_in (qin_5 (List.mem_of_getElem? (i := 161) (by decide +kernel))) rfl
theorem qK_X7_248 : Cond.constantLong RX7 248 (lN 4) ∈ zT := zT_in (qin_5 (List.mem_of_getElem? (i := 170) (by decide +kernel))) rfl
theorem qK_X7_250 : Cond.constantLong RX7 250 (lN 20) ∈ zT := zT_in (qin_5 (List.mem_of_getElem? (i := 171) (by decide +kernel))) rfl
theorem qK_X7_252 : Cond.constantLong RX7 252 (lN 99) ∈ zT := zT_in (qin_5 (List.mem_of_getElem? (i := 172) (by decide +kernel))) rfl
theorem qK_X7_254 : Cond.constantLong RX7 254 (lN 23) ∈ zT := zT_in (qin_5 (List.mem_of_getElem? (i := 180) (by decide +kernel))) rfl
theorem qK_X7_259 : Cond.constantLong RX7 259 (lN 500) ∈ zT := zT_in (qin_5 (List.mem_of_getElem? (i := 185) (by decide +kernel))) rfl
theorem qK_X7_278 : Cond.constantLong RX7 278 (lN 100000) ∈ zT := zT_in (qin_6 (List.mem_of_getElem? (i := 33) (by decide +kernel))) rfl
theorem qK_X7_283 : Cond.constantLong RX7 283 6364136223846793005 ∈ zT := zT_in (qin_6 (List.mem_of_getElem? (i := 42) (by decide +kernel))) rfl
theorem qK_X7_285 : Cond.constantLong RX7 285 1442695040888963407 ∈ zT := zT_in (qin_6 (List.mem_of_getElem? (i := 43) (by decide +kernel))) rfl
theorem qK_X7_42 : Cond.constantLong RX7 42 (lN 10) ∈ zT := zT_in (qin_6 (List.mem_of_getElem? (i := 32) (by decide +kernel))) rfl
theorem qL_X6_234 : Cond.classLink RX6 234 "java/lang/IndexOutOfBoundsException" ∈ zT := zT_in (qin_3 (List.mem_of_getElem? (i := 34) (by decide +kernel))) rfl
theorem qL_X6_247 : Cond.classLink RX6 247 "java/lang/IllegalArgumentException" ∈ zT := zT_in (qin_2 (List.mem_of_getElem? (i := 109) (by decide +kernel))) rfl
theorem qL_X6_252 : Cond.classLink RX6 252 "java/lang/IllegalStateException" ∈ zT := zT_in (qin_2 (List.mem_of_getElem? (i := 184) (by decide +kernel))) rfl
theorem qM_X0_27 : Cond.methodLink RX0 27 yX3_keep ∈ zT := zT_in (qin_3 (List.mem_of_getElem? (i := 123) (by decide +kernel))) rfl
theorem qM_X0_31 : Cond.methodLink RX0 31 Lib.Math.min.name ∈ zT := zT_in (qin_3 (List.mem_of_getElem? (i := 132) (by decide +kernel))) rfl
theorem qM_X0_37 : Cond.methodLink RX0 37 yX3_giveBack ∈ zT := zT_in (qin_4 (List.mem_of_getElem? (i := 44) (by decide +kernel))) rfl
theorem qM_X1_103 : Cond.methodLink RX1 103 yX4_newDepot ∈ zT := zT_in (qin_2 (List.mem_of_getElem? (i := 65) (by decide +kernel))) rfl
theorem qM_X1_106 : Cond.methodLink RX1 106 yX4_newVehicle ∈ zT := zT_in (qin_2 (List.mem_of_getElem? (i := 77) (by decide +kernel))) rfl
theorem qM_X1_110 : Cond.methodLink RX1 110 yX5_rowAt ∈ zT := zT_in (qin_2 (List.mem_of_getElem? (i := 32) (by decide +kernel))) rfl
theorem qM_X1_22 : Cond.methodLink RX1 22 yX1_signAt ∈ zT := zT_in (qin_1 (List.mem_of_getElem? (i := 219) (by decide +kernel))) rfl
theorem qM_X1_30 : Cond.methodLink RX1 30 yX1_number ∈ zT := zT_in (qin_1 (List.mem_of_getElem? (i := 223) (by decide +kernel))) rfl
theorem qM_X1_34 : Cond.methodLink RX1 34 yX4_begin ∈ zT := zT_in (qin_1 (List.mem_of_getElem? (i := 230) (by decide +kernel))) rfl
theorem qM_X1_40 : Cond.methodLink RX1 40 yX1_readPart ∈ zT := zT_in (qin_1 (List.mem_of_getElem? (i := 231) (by decide +kernel))) rfl
theorem qM_X1_44 : Cond.methodLink RX1 44 yX1_isAllowed ∈ zT := zT_in (qin_1 (List.mem_of_getElem? (i := 235) (by decide +kernel))) rfl
theorem qM_X1_48 : Cond.methodLink RX1 48 yX1_readGate ∈ zT := zT_in (qin_2 (List.mem_of_getElem? (i := 20) (by decide +kernel))) rfl
theorem qM_X1_51 : Cond.methodLink RX1 51 yX1_readBay ∈ zT := zT_in (qin_2 (List.mem_of_getElem? (i := 53) (by decide +kernel))) rfl
theorem qM_X1_54 : Cond.methodLink RX1 54 yX1_readDepot ∈ zT := zT_in (qin_2 (List.mem_of_getElem? (i := 61) (by decide +kernel))) rfl
theorem qM_X1_57 : Cond.methodLink RX1 57 yX4_newConvoy ∈ zT := zT_in (qin_2 (List.mem_of_getElem? (i := 69) (by decide +kernel))) rfl
theorem qM_X1_60 : Cond.methodLink RX1 60 yX1_readVehicle ∈ zT := zT_in (qin_2 (List.mem_of_getElem? (i := 73) (by decide +kernel))) rfl
theorem qM_X1_67 : Cond.methodLink RX1 67 yX5_isFull ∈ zT := zT_in (qin_1 (List.mem_of_getElem? (i := 239) (by decide +kernel))) rfl
theorem qM_X1_82 : Cond.methodLink RX1 82 yX5_count ∈ zT := zT_in (qin_2 (List.mem_of_getElem? (i := 3) (by decide +kernel))) rfl
theorem qM_X1_85 : Cond.methodLink RX1 85 yX4_hasRoomForVehicle ∈ zT := zT_in (qin_2 (List.mem_of_getElem? (i := 7) (by decide +kernel))) rfl
theorem qM_X1_89 : Cond.methodLink RX1 89 yX4_length ∈ zT := zT_in (qin_2 (List.mem_of_getElem? (i := 24) (by decide +kernel))) rfl
theorem qM_X1_91 : Cond.methodLink RX1 91 yX1_kilometer ∈ zT := zT_in (qin_2 (List.mem_of_getElem? (i := 28) (by decide +kernel))) rfl
theorem qM_X1_95 : Cond.methodLink RX1 95 yX4_newGate ∈ zT := zT_in (qin_2 (List.mem_of_getElem? (i := 40) (by decide +kernel))) rfl
theorem qM_X1_99 : Cond.methodLink RX1 99 yX4_newBay ∈ zT := zT_in (qin_2 (List.mem_of_getElem? (i := 57) (by decide +kernel))) rfl
theorem qM_X2_28 : Cond.methodLink RX2 28 yX2_put ∈ zT := zT_in (qin_2 (List.mem_of_getElem? (i := 89) (by decide +kernel))) rfl
theorem qM_X2_32 : Cond.methodLink RX2 32 yX2_get ∈ zT := zT_in (qin_3 (List.mem_of_getElem? (i := 231) (by decide +kernel))) rfl
theorem qM_X2_35 : Cond.methodLink RX2 35 Lib.Math.min.name ∈ zT := zT_in (qin_2 (List.mem_of_getElem? (i := 229) (by decide +kernel))) rfl
theorem qM_X2_38 : Cond.methodLink RX2 38 arraycopyName ∈ zT := zT_in (qin_2 (List.mem_of_getElem? (i := 230) (by decide +kernel))) rfl
theorem qM_X3_26 : Cond.methodLink RX3 26 yX3_copyAt ∈ zT := zT_in (qin_3 (List.mem_of_getElem? (i := 127) (by decide +kernel))) rfl
theorem qM_X3_30 : Cond.methodLink RX3 30 yX4_copyFrom ∈ zT := zT_in (qin_3 (List.mem_of_getElem? (i := 131) (by decide +kernel))) rfl
theorem qM_X4_100 : Cond.methodLink RX4 100 Lib.Math.max.name ∈ zT := zT_in (qin_3 (List.mem_of_getElem? (i := 95) (by decide +kernel))) rfl
theorem qM_X4_105 : Cond.methodLink RX4 105 yX2_get ∈ zT := zT_in (qin_3 (List.mem_of_getElem? (i := 56) (by decide +kernel))) rfl
theorem qM_X4_106 : Cond.methodLink RX4 106 Lib.Math.min.name ∈ zT := zT_in (qin_3 (List.mem_of_getElem? (i := 60) (by decide +kernel))) rfl
theorem qM_X4_109 : Cond.methodLink RX4 109 yX5_count ∈ zT := zT_in (qin_3 (List.mem_of_getElem? (i := 16) (by decide +kernel))) rfl
theorem qM_X4_116 : Cond.methodLink RX4 116 yX4_letHourGoBy ∈ zT := zT_in (qin_3 (List.mem_of_getElem? (i := 198) (by decide +kernel))) rfl
theorem qM_X4_119 : Cond.methodLink RX4 119 yX4_isAtEnd ∈ zT := zT_in (qin_3 (List.mem_of_getElem? (i := 202) (by decide +kernel))) rfl
theorem qM_X4_122 : Cond.methodLink RX4 122 yX4_drive ∈ zT := zT_in (qin_3 (List.mem_of_getElem? (i := 203) (by decide +kernel))) rfl
theorem qM_X4_126 : Cond.methodLink RX4 126 yX5_raise ∈ zT := zT_in (qin_3 (List.mem_of_getElem? (i := 207) (by decide +kernel))) rfl
theorem qM_X4_129 : Cond.methodLink RX4 129 yX4_fillUp ∈ zT := zT_in (qin_3 (List.mem_of_getElem? (i := 208) (by decide +kernel))) rfl
theorem qM_X4_132 : Cond.methodLink RX4 132 yX4_slowestSpeed ∈ zT := zT_in (qin_3 (List.mem_of_getElem? (i := 213) (by decide +kernel))) rfl
theorem qM_X4_135 : Cond.methodLink RX4 135 yX4_waitsAtGate ∈ zT := zT_in (qin_3 (List.mem_of_getElem? (i := 214) (by decide +kernel))) rfl
theorem qM_X4_138 : Cond.methodLink RX4 138 yX4_leaveStragglers ∈ zT := zT_in (qin_3 (List.mem_of_getElem? (i := 219) (by decide +kernel))) rfl
theorem qM_X4_141 : Cond.methodLink RX4 141 yX4_stands ∈ zT := zT_in (qin_3 (List.mem_of_getElem? (i := 236) (by decide +kernel))) rfl
theorem qM_X4_144 : Cond.methodLink RX4 144 yX4_goOn ∈ zT := zT_in (qin_4 (List.mem_of_getElem? (i := 0) (by decide +kernel))) rfl
theorem qM_X4_147 : Cond.methodLink RX4 147 yX4_rescues ∈ zT := zT_in (qin_4 (List.mem_of_getElem? (i := 8) (by decide +kernel))) rfl
theorem qM_X4_150 : Cond.methodLink RX4 150 yX4_putInOrder ∈ zT := zT_in (qin_4 (List.mem_of_getElem? (i := 20) (by decide +kernel))) rfl
theorem qM_X4_153 : Cond.methodLink RX4 153 yX5_rowAt ∈ zT := zT_in (qin_3 (List.mem_of_getElem? (i := 212) (by decide +kernel))) rfl
theorem qM_X4_156 : Cond.methodLink RX4 156 yX4_closedFor ∈ zT := zT_in (qin_3 (List.mem_of_getElem? (i := 218) (by decide +kernel))) rfl
theorem qM_X4_159 : Cond.methodLink RX4 159 yX4_hasTooLittle ∈ zT := zT_in (qin_3 (List.mem_of_getElem? (i := 223) (by decide +kernel))) rfl
theorem qM_X4_162 : Cond.methodLink RX4 162 yX2_remove ∈ zT := zT_in (qin_3 (List.mem_of_getElem? (i := 227) (by decide +kernel))) rfl
theorem qM_X4_165 : Cond.methodLink RX4 165 yX4_noteLeft ∈ zT := zT_in (qin_3 (List.mem_of_getElem? (i := 232) (by decide +kernel))) rfl
theorem qM_X4_168 : Cond.methodLink RX4 168 yX2_emptyLine ∈ zT := zT_in (qin_4 (List.mem_of_getElem? (i := 4) (by decide +kernel))) rfl
theorem qM_X4_171 : Cond.methodLink RX4 171 yX4_richest ∈ zT := zT_in (qin_4 (List.mem_of_getElem? (i := 12) (by decide +kernel))) rfl
theorem qM_X4_174 : Cond.methodLink RX4 174 yX4_giveFuel ∈ zT := zT_in (qin_4 (List.mem_of_getElem? (i := 16) (by decide +kernel))) rfl
theorem qM_X4_177 : Cond.methodLink RX4 177 yX4_comesAhead ∈ zT := zT_in (qin_4 (List.mem_of_getElem? (i := 24) (by decide +kernel))) rfl
theorem qM_X4_181 : Cond.methodLink RX4 181 yX2_put ∈ zT := zT_in (qin_4 (List.mem_of_getElem? (i := 28) (by decide +kernel))) rfl
theorem qM_X4_182 : Cond.methodLink RX4 182 yX4_howMany ∈ zT := zT_in (qin_4 (List.mem_of_getElem? (i := 88) (by decide +kernel))) rfl
theorem qM_X4_185 : Cond.methodLink RX4 185 yX4_letGoBy ∈ zT := zT_in (qin_4 (List.mem_of_getElem? (i := 104) (by decide +kernel))) rfl
theorem qM_X4_188 : Cond.methodLink RX4 188 yX4_obeysHold ∈ zT := zT_in (qin_4 (List.mem_of_getElem? (i := 105) (by decide +kernel))) rfl
theorem qM_X4_191 : Cond.methodLink RX4 191 yX4_obeysSupply ∈ zT := zT_in (qin_4 (List.mem_of_getElem? (i := 109) (by decide +kernel))) rfl
theorem qM_X4_55 : Cond.methodLink RX4 55 yX5_emptyOut ∈ zT := zT_in (qin_1 (List.mem_of_getElem? (i := 179) (by decide +kernel))) rfl
theorem qM_X4_58 : Cond.methodLink RX4 58 yX2_emptyOut ∈ zT := zT_in (qin_1 (List.mem_of_getElem? (i := 183) (by decide +kernel))) rfl
theorem qM_X4_59 : Cond.methodLink RX4 59 yX5_copyFrom ∈ zT := zT_in (qin_2 (List.mem_of_getElem? (i := 215) (by decide +kernel))) rfl
theorem qM_X4_63 : Cond.methodLink RX4 63 yX2_copyFrom ∈ zT := zT_in (qin_2 (List.mem_of_getElem? (i := 225) (by decide +kernel))) rfl
theorem qM_X4_70 : Cond.methodLink RX4 70 yX5_addRow ∈ zT := zT_in (qin_2 (List.mem_of_getElem? (i := 44) (by decide +kernel))) rfl
theorem qM_X4_74 : Cond.methodLink RX4 74 yX5_put ∈ zT := zT_in (qin_2 (List.mem_of_getElem? (i := 52) (by decide +kernel))) rfl
theorem qM_X4_78 : Cond.methodLink RX4 78 yX4_moveTo ∈ zT := zT_in (qin_2 (List.mem_of_getElem? (i := 81) (by decide +kernel))) rfl
theorem qM_X4_81 : Cond.methodLink RX4 81 yX2_join ∈ zT := zT_in (qin_2 (List.mem_of_getElem? (i := 85) (by decide +kernel))) rfl
theorem qM_X4_84 : Cond.methodLink RX4 84 yX5_isFull ∈ zT := zT_in (qin_2 (List.mem_of_getElem? (i := 11) (by decide +kernel))) rfl
theorem qM_X4_88 : Cond.methodLink RX4 88 yX5_has ∈ zT := zT_in (qin_2 (List.mem_of_getElem? (i := 12) (by decide +kernel))) rfl
theorem qM_X4_92 : Cond.methodLink RX4 92 yX2_size ∈ zT := zT_in (qin_2 (List.mem_of_getElem? (i := 16) (by decide +kernel))) rfl
theorem qM_X4_96 : Cond.methodLink RX4 96 yX5_get ∈ zT := zT_in (qin_3 (List.mem_of_getElem? (i := 17) (by decide +kernel))) rfl
theorem qM_X5_31 : Cond.methodLink RX5 31 yX5_put ∈ zT := zT_in (qin_2 (List.mem_of_getElem? (i := 48) (by decide +kernel))) rfl
theorem qM_X5_35 : Cond.methodLink RX5 35 yX5_get ∈ zT := zT_in (qin_2 (List.mem_of_getElem? (i := 36) (by decide +kernel))) rfl
theorem qM_X5_38 : Cond.methodLink RX5 38 Lib.Math.min.name ∈ zT := zT_in (qin_2 (List.mem_of_getElem? (i := 219) (by decide +kernel))) rfl
theorem qM_X5_41 : Cond.methodLink RX5 41 arraycopyName ∈ zT := zT_in (qin_2 (List.mem_of_getElem? (i := 222) (by decide +kernel))) rfl
theorem qM_X6_105 : Cond.methodLink RX6 105 yX4_howMany ∈ zT := zT_in (qin_3 (List.mem_of_getElem? (i := 12) (by decide +kernel))) rfl
theorem qM_X6_109 : Cond.methodLink RX6 109 yX5_sum ∈ zT := zT_in (qin_3 (List.mem_of_getElem? (i := 18) (by decide +kernel))) rfl
theorem qM_X6_112 : Cond.methodLink RX6 112 yX6_checkExists ∈ zT := zT_in (qin_3 (List.mem_of_getElem? (i := 30) (by decide +kernel))) rfl
theorem qM_X6_116 : Cond.methodLink RX6 116 yX5_get ∈ zT := zT_in (qin_3 (List.mem_of_getElem? (i := 50) (by decide +kernel))) rfl
theorem qM_X6_124 : Cond.methodLink RX6 124 yX2_size ∈ zT := zT_in (qin_3 (List.mem_of_getElem? (i := 51) (by decide +kernel))) rfl
theorem qM_X6_129 : Cond.methodLink RX6 129 yX4_slowestSpeed ∈ zT := zT_in (qin_3 (List.mem_of_getElem? (i := 52) (by decide +kernel))) rfl
theorem qM_X6_132 : Cond.methodLink RX6 132 yX4_litersWith ∈ zT := zT_in (qin_3 (List.mem_of_getElem? (i := 61) (by decide +kernel))) rfl
theorem qM_X6_135 : Cond.methodLink RX6 135 yX4_isAtEnd ∈ zT := zT_in (qin_3 (List.mem_of_getElem? (i := 65) (by decide +kernel))) rfl
theorem qM_X6_139 : Cond.methodLink RX6 139 yX6_refuseArgumentIf ∈ zT := zT_in (qin_2 (List.mem_of_getElem? (i := 106) (by decide +kernel))) rfl
theorem qM_X6_142 : Cond.methodLink RX6 142 yX2_get ∈ zT := zT_in (qin_3 (List.mem_of_getElem? (i := 76) (by decide +kernel))) rfl
theorem qM_X6_143 : Cond.methodLink RX6 143 yX4_closedFor ∈ zT := zT_in (qin_3 (List.mem_of_getElem? (i := 91) (by decide +kernel))) rfl
theorem qM_X6_149 : Cond.methodLink RX6 149 yX5_isFull ∈ zT := zT_in (qin_3 (List.mem_of_getElem? (i := 117) (by decide +kernel))) rfl
theorem qM_X6_150 : Cond.methodLink RX6 150 yX5_rowAt ∈ zT := zT_in (qin_3 (List.mem_of_getElem? (i := 118) (by decide +kernel))) rfl
theorem qM_X6_153 : Cond.methodLink RX6 153 yX0_remember ∈ zT := zT_in (qin_3 (List.mem_of_getElem? (i := 119) (by decide +kernel))) rfl
theorem qM_X6_156 : Cond.methodLink RX6 156 yX4_newGate ∈ zT := zT_in (qin_3 (List.mem_of_getElem? (i := 133) (by decide +kernel))) rfl
theorem qM_X6_160 : Cond.methodLink RX6 160 yX4_newBay ∈ zT := zT_in (qin_3 (List.mem_of_getElem? (i := 141) (by decide +kernel))) rfl
theorem qM_X6_163 : Cond.methodLink RX6 163 yX4_newDepot ∈ zT := zT_in (qin_3 (List.mem_of_getElem? (i := 149) (by decide +kernel))) rfl
theorem qM_X6_166 : Cond.methodLink RX6 166 yX4_newConvoy ∈ zT := zT_in (qin_3 (List.mem_of_getElem? (i := 157) (by decide +kernel))) rfl
theorem qM_X6_169 : Cond.methodLink RX6 169 yX4_hasRoomForVehicle ∈ zT := zT_in (qin_3 (List.mem_of_getElem? (i := 165) (by decide +kernel))) rfl
theorem qM_X6_172 : Cond.methodLink RX6 172 yX4_newVehicle ∈ zT := zT_in (qin_3 (List.mem_of_getElem? (i := 166) (by decide +kernel))) rfl
theorem qM_X6_176 : Cond.methodLink RX6 176 yX5_put ∈ zT := zT_in (qin_3 (List.mem_of_getElem? (i := 174) (by decide +kernel))) rfl
theorem qM_X6_179 : Cond.methodLink RX6 179 yX5_raise ∈ zT := zT_in (qin_3 (List.mem_of_getElem? (i := 182) (by decide +kernel))) rfl
theorem qM_X6_182 : Cond.methodLink RX6 182 yX4_letGoBy ∈ zT := zT_in (qin_3 (List.mem_of_getElem? (i := 193) (by decide +kernel))) rfl
theorem qM_X6_185 : Cond.methodLink RX6 185 yX0_size ∈ zT := zT_in (qin_4 (List.mem_of_getElem? (i := 36) (by decide +kernel))) rfl
theorem qM_X6_187 : Cond.methodLink RX6 187 yX0_takeBack ∈ zT := zT_in (qin_4 (List.mem_of_getElem? (i := 40) (by decide +kernel))) rfl
theorem qM_X6_190 : Cond.methodLink RX6 190 yX4_hoursToEnd ∈ zT := zT_in (qin_4 (List.mem_of_getElem? (i := 55) (by decide +kernel))) rfl
theorem qM_X6_193 : Cond.methodLink RX6 193 yX4_firstLeftBy ∈ zT := zT_in (qin_4 (List.mem_of_getElem? (i := 66) (by decide +kernel))) rfl
theorem qM_X6_196 : Cond.methodLink RX6 196 yX4_allArrive ∈ zT := zT_in (qin_4 (List.mem_of_getElem? (i := 84) (by decide +kernel))) rfl
theorem qM_X6_201 : Cond.methodLink RX6 201 yX6_groupOf ∈ zT := zT_in (qin_4 (List.mem_of_getElem? (i := 97) (by decide +kernel))) rfl
theorem qM_X6_205 : Cond.methodLink RX6 205 yX4_obeys ∈ zT := zT_in (qin_4 (List.mem_of_getElem? (i := 100) (by decide +kernel))) rfl
theorem qM_X6_212 : Cond.methodLink RX6 212 yX4_meetChance ∈ zT := zT_in (qin_4 (List.mem_of_getElem? (i := 122) (by decide +kernel))) rfl
theorem qM_X6_215 : Cond.methodLink RX6 215 yX4_letHourGoBy ∈ zT := zT_in (qin_4 (List.mem_of_getElem? (i := 126) (by decide +kernel))) rfl
theorem qM_X6_218 : Cond.methodLink RX6 218 yX6_checkSlot ∈ zT := zT_in (qin_4 (List.mem_of_getElem? (i := 134) (by decide +kernel))) rfl
theorem qM_X6_221 : Cond.methodLink RX6 221 yX3_keep ∈ zT := zT_in (qin_4 (List.mem_of_getElem? (i := 138) (by decide +kernel))) rfl
theorem qM_X6_225 : Cond.methodLink RX6 225 yX3_holds ∈ zT := zT_in (qin_4 (List.mem_of_getElem? (i := 146) (by decide +kernel))) rfl
theorem qM_X6_228 : Cond.methodLink RX6 228 yX3_giveBack ∈ zT := zT_in (qin_4 (List.mem_of_getElem? (i := 150) (by decide +kernel))) rfl
theorem qM_X6_231 : Cond.methodLink RX6 231 yX5_has ∈ zT := zT_in (qin_3 (List.mem_of_getElem? (i := 33) (by decide +kernel))) rfl
theorem qM_X6_241 : Cond.methodLink RX6 241 yX6_isWithin ∈ zT := zT_in (qin_2 (List.mem_of_getElem? (i := 105) (by decide +kernel))) rfl
theorem qM_X6_45 : Cond.methodLink RX6 45 yX6_checkRange ∈ zT := zT_in (qin_2 (List.mem_of_getElem? (i := 102) (by decide +kernel))) rfl
theorem qM_X6_49 : Cond.methodLink RX6 49 yX1_isFull ∈ zT := zT_in (qin_2 (List.mem_of_getElem? (i := 177) (by decide +kernel))) rfl
theorem qM_X6_53 : Cond.methodLink RX6 53 yX6_refuseIf ∈ zT := zT_in (qin_2 (List.mem_of_getElem? (i := 181) (by decide +kernel))) rfl
theorem qM_X6_57 : Cond.methodLink RX6 57 yX1_addSign ∈ zT := zT_in (qin_2 (List.mem_of_getElem? (i := 200) (by decide +kernel))) rfl
theorem qM_X6_61 : Cond.methodLink RX6 61 yX1_emptyOut ∈ zT := zT_in (qin_1 (List.mem_of_getElem? (i := 207) (by decide +kernel))) rfl
theorem qM_X6_65 : Cond.methodLink RX6 65 yX1_readInto ∈ zT := zT_in (qin_1 (List.mem_of_getElem? (i := 215) (by decide +kernel))) rfl
theorem qM_X6_69 : Cond.methodLink RX6 69 yX4_copyFrom ∈ zT := zT_in (qin_2 (List.mem_of_getElem? (i := 211) (by decide +kernel))) rfl
theorem qM_X6_73 : Cond.methodLink RX6 73 yX0_forget ∈ zT := zT_in (qin_2 (List.mem_of_getElem? (i := 231) (by decide +kernel))) rfl
theorem qM_X6_76 : Cond.methodLink RX6 76 yX3_emptyOut ∈ zT := zT_in (qin_2 (List.mem_of_getElem? (i := 235) (by decide +kernel))) rfl
theorem qM_X6_82 : Cond.methodLink RX6 82 yX5_count ∈ zT := zT_in (qin_2 (List.mem_of_getElem? (i := 239) (by decide +kernel))) rfl
theorem qM_X6_87 : Cond.methodLink RX6 87 yX4_length ∈ zT := zT_in (qin_3 (List.mem_of_getElem? (i := 7) (by decide +kernel))) rfl
theorem qM_X6_90 : Cond.methodLink RX6 90 yX4_hours ∈ zT := zT_in (qin_3 (List.mem_of_getElem? (i := 8) (by decide +kernel))) rfl
theorem qM_X7_100 : Cond.methodLink RX7 100 yX7_fill ∈ zT := zT_in (qin_5 (List.mem_of_getElem? (i := 202) (by decide +kernel))) rfl
theorem qM_X7_103 : Cond.methodLink RX7 103 yX7_slowest ∈ zT := zT_in (qin_5 (List.mem_of_getElem? (i := 97) (by decide +kernel))) rfl
theorem qM_X7_106 : Cond.methodLink RX7 106 yX7_gateOn ∈ zT := zT_in (qin_5 (List.mem_of_getElem? (i := 9) (by decide +kernel))) rfl
theorem qM_X7_109 : Cond.methodLink RX7 109 yX7_isClosed ∈ zT := zT_in (qin_5 (List.mem_of_getElem? (i := 127) (by decide +kernel))) rfl
theorem qM_X7_112 : Cond.methodLink RX7 112 yX7_sheds ∈ zT := zT_in (qin_5 (List.mem_of_getElem? (i := 205) (by decide +kernel))) rfl
theorem qM_X7_115 : Cond.methodLink RX7 115 yX7_burn ∈ zT := zT_in (qin_5 (List.mem_of_getElem? (i := 215) (by decide +kernel))) rfl
theorem qM_X7_118 : Cond.methodLink RX7 118 yX7_isThere ∈ zT := zT_in (qin_5 (List.mem_of_getElem? (i := 106) (by decide +kernel))) rfl
theorem qM_X7_121 : Cond.methodLink RX7 121 yX7_arrive ∈ zT := zT_in (qin_5 (List.mem_of_getElem? (i := 218) (by decide +kernel))) rfl
theorem qM_X7_124 : Cond.methodLink RX7 124 yX7_rescue ∈ zT := zT_in (qin_5 (List.mem_of_getElem? (i := 221) (by decide +kernel))) rfl
theorem qM_X7_127 : Cond.methodLink RX7 127 yX7_goConvoy ∈ zT := zT_in (qin_5 (List.mem_of_getElem? (i := 198) (by decide +kernel))) rfl
theorem qM_X7_130 : Cond.methodLink RX7 130 yX7_countAt ∈ zT := zT_in (qin_5 (List.mem_of_getElem? (i := 79) (by decide +kernel))) rfl
theorem qM_X7_133 : Cond.methodLink RX7 133 yX7_goHour ∈ zT := zT_in (qin_5 (List.mem_of_getElem? (i := 194) (by decide +kernel))) rfl
theorem qM_X7_139 : Cond.methodLink RX7 139 yX7_in ∈ zT := zT_in (qin_4 (List.mem_of_getElem? (i := 209) (by decide +kernel))) rfl
theorem qM_X7_146 : Cond.methodLink RX7 146 yX7_refused ∈ zT := zT_in (qin_4 (List.mem_of_getElem? (i := 212) (by decide +kernel))) rfl
theorem qM_X7_159 : Cond.methodLink RX7 159 yX7_accept ∈ zT := zT_in (qin_4 (List.mem_of_getElem? (i := 232) (by decide +kernel))) rfl
theorem qM_X7_163 : Cond.methodLink RX7 163 yX7_digit ∈ zT := zT_in (qin_5 (List.mem_of_getElem? (i := 0) (by decide +kernel))) rfl
theorem qM_X7_166 : Cond.methodLink RX7 166 yX7_two ∈ zT := zT_in (qin_4 (List.mem_of_getElem? (i := 236) (by decide +kernel))) rfl
theorem qM_X7_169 : Cond.methodLink RX7 169 yX7_demand ∈ zT := zT_in (qin_5 (List.mem_of_getElem? (i := 15) (by decide +kernel))) rfl
theorem qM_X7_172 : Cond.methodLink RX7 172 yX7_addGateTo ∈ zT := zT_in (qin_5 (List.mem_of_getElem? (i := 19) (by decide +kernel))) rfl
theorem qM_X7_176 : Cond.methodLink RX7 176 yX7_addBayTo ∈ zT := zT_in (qin_5 (List.mem_of_getElem? (i := 32) (by decide +kernel))) rfl
theorem qM_X7_180 : Cond.methodLink RX7 180 yX7_addDepotTo ∈ zT := zT_in (qin_5 (List.mem_of_getElem? (i := 45) (by decide +kernel))) rfl
theorem qM_X7_183 : Cond.methodLink RX7 183 yX7_isNext ∈ zT := zT_in (qin_4 (List.mem_of_getElem? (i := 228) (by decide +kernel))) rfl
theorem qM_X7_186 : Cond.methodLink RX7 186 yX7_addCarTo ∈ zT := zT_in (qin_5 (List.mem_of_getElem? (i := 61) (by decide +kernel))) rfl
theorem qM_X7_190 : Cond.methodLink RX7 190 yX7_readGate ∈ zT := zT_in (qin_5 (List.mem_of_getElem? (i := 5) (by decide +kernel))) rfl
theorem qM_X7_193 : Cond.methodLink RX7 193 yX7_readBay ∈ zT := zT_in (qin_5 (List.mem_of_getElem? (i := 22) (by decide +kernel))) rfl
theorem qM_X7_196 : Cond.methodLink RX7 196 yX7_readDepot ∈ zT := zT_in (qin_5 (List.mem_of_getElem? (i := 35) (by decide +kernel))) rfl
theorem qM_X7_199 : Cond.methodLink RX7 199 yX7_addConvoyTo ∈ zT := zT_in (qin_5 (List.mem_of_getElem? (i := 48) (by decide +kernel))) rfl
theorem qM_X7_202 : Cond.methodLink RX7 202 yX7_readCar ∈ zT := zT_in (qin_5 (List.mem_of_getElem? (i := 54) (by decide +kernel))) rfl
theorem qM_X7_205 : Cond.methodLink RX7 205 yX7_readText ∈ zT := zT_in (qin_4 (List.mem_of_getElem? (i := 224) (by decide +kernel))) rfl
theorem qM_X7_211 : Cond.methodLink RX7 211 yX7_tanks ∈ zT := zT_in (qin_5 (List.mem_of_getElem? (i := 82) (by decide +kernel))) rfl
theorem qM_X7_215 : Cond.methodLink RX7 215 yX7_depots ∈ zT := zT_in (qin_5 (List.mem_of_getElem? (i := 85) (by decide +kernel))) rfl
theorem qM_X7_218 : Cond.methodLink RX7 218 yX7_isConvoy ∈ zT := zT_in (qin_5 (List.mem_of_getElem? (i := 92) (by decide +kernel))) rfl
theorem qM_X7_223 : Cond.methodLink RX7 223 yX7_litersOf ∈ zT := zT_in (qin_5 (List.mem_of_getElem? (i := 103) (by decide +kernel))) rfl
theorem qM_X7_230 : Cond.methodLink RX7 230 yX7_closedFor ∈ zT := zT_in (qin_5 (List.mem_of_getElem? (i := 123) (by decide +kernel))) rfl
theorem qM_X7_236 : Cond.methodLink RX7 236 yX7_isDepot ∈ zT := zT_in (qin_5 (List.mem_of_getElem? (i := 139) (by decide +kernel))) rfl
theorem qM_X7_243 : Cond.methodLink RX7 243 yX7_remember ∈ zT := zT_in (qin_5 (List.mem_of_getElem? (i := 149) (by decide +kernel))) rfl
theorem qM_X7_256 : Cond.methodLink RX7 256 yX7_isHold ∈ zT := zT_in (qin_5 (List.mem_of_getElem? (i := 177) (by decide +kernel))) rfl
theorem qM_X7_261 : Cond.methodLink RX7 261 yX7_goHours ∈ zT := zT_in (qin_5 (List.mem_of_getElem? (i := 190) (by decide +kernel))) rfl
theorem qM_X7_264 : Cond.methodLink RX7 264 yX7_begin ∈ zT := zT_in (qin_6 (List.mem_of_getElem? (i := 1) (by decide +kernel))) rfl
theorem qM_X7_267 : Cond.methodLink RX7 267 yX7_arrival ∈ zT := zT_in (qin_6 (List.mem_of_getElem? (i := 5) (by decide +kernel))) rfl
theorem qM_X7_270 : Cond.methodLink RX7 270 yX7_allArrive ∈ zT := zT_in (qin_6 (List.mem_of_getElem? (i := 21) (by decide +kernel))) rfl
theorem qM_X7_274 : Cond.methodLink RX7 274 yX7_tenTo ∈ zT := zT_in (qin_6 (List.mem_of_getElem? (i := 29) (by decide +kernel))) rfl
theorem qM_X7_280 : Cond.methodLink RX7 280 yX7_does ∈ zT := zT_in (qin_6 (List.mem_of_getElem? (i := 34) (by decide +kernel))) rfl
theorem qM_X7_287 : Cond.methodLink RX7 287 yX7_stir ∈ zT := zT_in (qin_6 (List.mem_of_getElem? (i := 44) (by decide +kernel))) rfl
theorem qM_X7_47 : Cond.methodLink RX7 47 yX7_copy ∈ zT := zT_in (qin_5 (List.mem_of_getElem? (i := 71) (by decide +kernel))) rfl
theorem qM_X7_51 : Cond.methodLink RX7 51 yX7_convoyAt ∈ zT := zT_in (qin_5 (List.mem_of_getElem? (i := 51) (by decide +kernel))) rfl
theorem qM_X7_55 : Cond.methodLink RX7 55 yX7_gateAt ∈ zT := zT_in (qin_5 (List.mem_of_getElem? (i := 12) (by decide +kernel))) rfl
theorem qM_X7_58 : Cond.methodLink RX7 58 yX7_bayAt ∈ zT := zT_in (qin_5 (List.mem_of_getElem? (i := 29) (by decide +kernel))) rfl
theorem qM_X7_61 : Cond.methodLink RX7 61 yX7_depotAt ∈ zT := zT_in (qin_5 (List.mem_of_getElem? (i := 42) (by decide +kernel))) rfl
theorem qM_X7_64 : Cond.methodLink RX7 64 yX7_sizeOf ∈ zT := zT_in (qin_5 (List.mem_of_getElem? (i := 58) (by decide +kernel))) rfl
theorem qM_X7_68 : Cond.methodLink RX7 68 yX7_who ∈ zT := zT_in (qin_5 (List.mem_of_getElem? (i := 100) (by decide +kernel))) rfl
theorem qM_X7_72 : Cond.methodLink RX7 72 yX7_carAt ∈ zT := zT_in (qin_5 (List.mem_of_getElem? (i := 64) (by decide +kernel))) rfl
theorem qM_X7_75 : Cond.methodLink RX7 75 yX7_depotOn ∈ zT := zT_in (qin_5 (List.mem_of_getElem? (i := 39) (by decide +kernel))) rfl
theorem qM_X7_78 : Cond.methodLink RX7 78 yX7_bayOn ∈ zT := zT_in (qin_5 (List.mem_of_getElem? (i := 26) (by decide +kernel))) rfl
theorem qM_X7_81 : Cond.methodLink RX7 81 yX7_isShort ∈ zT := zT_in (qin_5 (List.mem_of_getElem? (i := 209) (by decide +kernel))) rfl
theorem qM_X7_85 : Cond.methodLink RX7 85 yX7_drop ∈ zT := zT_in (qin_5 (List.mem_of_getElem? (i := 212) (by decide +kernel))) rfl
theorem qM_X7_89 : Cond.methodLink RX7 89 yX7_isBefore ∈ zT := zT_in (qin_5 (List.mem_of_getElem? (i := 230) (by decide +kernel))) rfl
theorem qM_X7_93 : Cond.methodLink RX7 93 yX7_helps ∈ zT := zT_in (qin_5 (List.mem_of_getElem? (i := 224) (by decide +kernel))) rfl
theorem qM_X7_96 : Cond.methodLink RX7 96 yX7_order ∈ zT := zT_in (qin_5 (List.mem_of_getElem? (i := 227) (by decide +kernel))) rfl
theorem qN_J10 : Cond.initialized RJ10 ∈ zT := zT_in (qin_1 (List.mem_of_getElem? (i := 15) (by decide +kernel))) rfl
theorem qN_J9 : Cond.initialized RJ9 ∈ zT := zT_in (qin_1 (List.mem_of_getElem? (i := 5) (by decide +kernel))) rfl
theorem qN_X0 : Cond.initialized RX0 ∈ zT := zT_in (qin_1 (List.mem_of_getElem? (i := 7) (by decide +kernel))) rfl
theorem qN_X1 : Cond.initialized RX1 ∈ zT := zT_in (qin_1 (List.mem_of_getElem? (i := 2) (by decide +kernel))) rfl
theorem qN_X2 : Cond.initialized RX2 ∈ zT := zT_in (qin_1 (List.mem_of_getElem? (i := 6) (by decide +kernel))) rfl
theorem qN_X3 : Cond.initialized RX3 ∈ zT := zT_in (qin_1 (List.mem_of_getElem? (i := 8) (by decide +kernel))) rfl
theorem qN_X4 : Cond.initialized RX4 ∈ zT := zT_in (qin_1 (List.mem_of_getElem? (i := 3) (by decide +kernel))) rfl
theorem qN_X5 : Cond.initialized RX5 ∈ zT := zT_in (qin_1 (List.mem_of_getElem? (i := 4) (by decide +kernel))) rfl
theorem qN_X6 : Cond.initialized RX6 ∈ zT := zT_in (qin_1 (List.mem_of_getElem? (i := 1) (by decide +kernel))) rfl
theorem qN_X7 : Cond.initialized RX7 ∈ zT := zT_in (qin_1 (List.mem_of_getElem? (i := 9) (by decide +kernel))) rfl
theorem qN_java_lang_IllegalArgumentException : Cond.initialized "java/lang/IllegalArgumentException" ∈ zT := zT_in (qin_1 (List.mem_of_getElem? (i := 13) (by decide +kernel))) rfl
theorem qN_java_lang_IllegalStateException : Cond.initialized "java/lang/IllegalStateException" ∈ zT := zT_in (qin_1 (List.mem_of_getElem? (i := 14) (by decide +kernel))) rfl
theorem qN_java_lang_IndexOutOfBoundsException : Cond.initialized "java/lang/IndexOutOfBoundsException" ∈ zT := zT_in (qin_1 (List.mem_of_getElem? (i := 16) (by decide +kernel))) rfl
theorem qO_arraycopy : Cond.native arraycopyName ∈ zT := zT_in (qin_2 (List.mem_of_getElem? (i := 224) (by decide +kernel))) rfl
theorem qS_X0_forget : Cond.selects RX0 yX0_forget yX0_forget ∈ zT := zT_in (qin_2 (List.mem_of_getElem? (i := 233) (by decide +kernel))) rfl
theorem qS_X0_remember : Cond.selects RX0 yX0_remember yX0_remember ∈ zT := zT_in (qin_3 (List.mem_of_getElem? (i := 121) (by decide +kernel))) rfl
theorem qS_X0_size : Cond.selects RX0 yX0_size yX0_size ∈ zT := zT_in (qin_4 (List.mem_of_getElem? (i := 38) (by decide +kernel))) rfl
theorem qS_X0_takeBack : Cond.selects RX0 yX0_takeBack yX0_takeBack ∈ zT := zT_in (qin_4 (List.mem_of_getElem? (i := 42) (by decide +kernel))) rfl
theorem qS_X1_addSign : Cond.selects RX1 yX1_addSign yX1_addSign ∈ zT := zT_in (qin_2 (List.mem_of_getElem? (i := 202) (by decide +kernel))) rfl
theorem qS_X1_emptyOut : Cond.selects RX1 yX1_emptyOut yX1_emptyOut ∈ zT := zT_in (qin_1 (List.mem_of_getElem? (i := 209) (by decide +kernel))) rfl
theorem qS_X1_isAllowed : Cond.selects RX1 yX1_isAllowed yX1_isAllowed ∈ zT := zT_in (qin_0 (List.mem_of_getElem? (i := 3) (by decide +kernel))) rfl
theorem qS_X1_isFull : Cond.selects RX1 yX1_isFull yX1_isFull ∈ zT := zT_in (qin_2 (List.mem_of_getElem? (i := 179) (by decide +kernel))) rfl
theorem qS_X1_kilometer : Cond.selects RX1 yX1_kilometer yX1_kilometer ∈ zT := zT_in (qin_0 (List.mem_of_getElem? (i := 5) (by decide +kernel))) rfl
theorem qS_X1_number : Cond.selects RX1 yX1_number yX1_number ∈ zT := zT_in (qin_0 (List.mem_of_getElem? (i := 1) (by decide +kernel))) rfl
theorem qS_X1_readBay : Cond.selects RX1 yX1_readBay yX1_readBay ∈ zT := zT_in (qin_0 (List.mem_of_getElem? (i := 6) (by decide +kernel))) rfl
theorem qS_X1_readDepot : Cond.selects RX1 yX1_readDepot yX1_readDepot ∈ zT := zT_in (qin_0 (List.mem_of_getElem? (i := 7) (by decide +kernel))) rfl
theorem qS_X1_readGate : Cond.selects RX1 yX1_readGate yX1_readGate ∈ zT := zT_in (qin_0 (List.mem_of_getElem? (i := 4) (by decide +kernel))) rfl
theorem qS_X1_readInto : Cond.selects RX1 yX1_readInto yX1_readInto ∈ zT := zT_in (qin_1 (List.mem_of_getElem? (i := 217) (by decide +kernel))) rfl
theorem qS_X1_readPart : Cond.selects RX1 yX1_readPart yX1_readPart ∈ zT := zT_in (qin_0 (List.mem_of_getElem? (i := 2) (by decide +kernel))) rfl
theorem qS_X1_readVehicle : Cond.selects RX1 yX1_readVehicle yX1_readVehicle ∈ zT := zT_in (qin_0 (List.mem_of_getElem? (i := 8) (by decide +kernel))) rfl
theorem qS_X1_signAt : Cond.selects RX1 yX1_signAt yX1_signAt ∈ zT := zT_in (qin_0 (List.mem_of_getElem? (i := 0) (by decide +kernel))) rfl
theorem qS_X2_copyFrom : Cond.selects RX2 yX2_copyFrom yX2_copyFrom ∈ zT := zT_in (qin_2 (List.mem_of_getElem? (i := 227) (by decide +kernel))) rfl
theorem qS_X2_emptyLine : Cond.selects RX2 yX2_emptyLine yX2_emptyLine ∈ zT := zT_in (qin_4 (List.mem_of_getElem? (i := 6) (by decide +kernel))) rfl
theorem qS_X2_emptyOut : Cond.selects RX2 yX2_emptyOut yX2_emptyOut ∈ zT := zT_in (qin_1 (List.mem_of_getElem? (i := 185) (by decide +kernel))) rfl
theorem qS_X2_get : Cond.selects RX2 yX2_get yX2_get ∈ zT := zT_in (qin_3 (List.mem_of_getElem? (i := 58) (by decide +kernel))) rfl
theorem qS_X2_join : Cond.selects RX2 yX2_join yX2_join ∈ zT := zT_in (qin_2 (List.mem_of_getElem? (i := 87) (by decide +kernel))) rfl
theorem qS_X2_put : Cond.selects RX2 yX2_put yX2_put ∈ zT := zT_in (qin_2 (List.mem_of_getElem? (i := 91) (by decide +kernel))) rfl
theorem qS_X2_remove : Cond.selects RX2 yX2_remove yX2_remove ∈ zT := zT_in (qin_3 (List.mem_of_getElem? (i := 229) (by decide +kernel))) rfl
theorem qS_X2_size : Cond.selects RX2 yX2_size yX2_size ∈ zT := zT_in (qin_2 (List.mem_of_getElem? (i := 18) (by decide +kernel))) rfl
theorem qS_X3_copyAt : Cond.selects RX3 yX3_copyAt yX3_copyAt ∈ zT := zT_in (qin_0 (List.mem_of_getElem? (i := 11) (by decide +kernel))) rfl
theorem qS_X3_emptyOut : Cond.selects RX3 yX3_emptyOut yX3_emptyOut ∈ zT := zT_in (qin_2 (List.mem_of_getElem? (i := 237) (by decide +kernel))) rfl
theorem qS_X3_giveBack : Cond.selects RX3 yX3_giveBack yX3_giveBack ∈ zT := zT_in (qin_4 (List.mem_of_getElem? (i := 46) (by decide +kernel))) rfl
theorem qS_X3_holds : Cond.selects RX3 yX3_holds yX3_holds ∈ zT := zT_in (qin_4 (List.mem_of_getElem? (i := 148) (by decide +kernel))) rfl
theorem qS_X3_keep : Cond.selects RX3 yX3_keep yX3_keep ∈ zT := zT_in (qin_3 (List.mem_of_getElem? (i := 125) (by decide +kernel))) rfl
theorem qS_X4_allArrive : Cond.selects RX4 yX4_allArrive yX4_allArrive ∈ zT := zT_in (qin_4 (List.mem_of_getElem? (i := 86) (by decide +kernel))) rfl
theorem qS_X4_begin : Cond.selects RX4 yX4_begin yX4_begin ∈ zT := zT_in (qin_1 (List.mem_of_getElem? (i := 177) (by decide +kernel))) rfl
theorem qS_X4_closedFor : Cond.selects RX4 yX4_closedFor yX4_closedFor ∈ zT := zT_in (qin_3 (List.mem_of_getElem? (i := 93) (by decide +kernel))) rfl
theorem qS_X4_comesAhead : Cond.selects RX4 yX4_comesAhead yX4_comesAhead ∈ zT := zT_in (qin_0 (List.mem_of_getElem? (i := 24) (by decide +kernel))) rfl
theorem qS_X4_copyFrom : Cond.selects RX4 yX4_copyFrom yX4_copyFrom ∈ zT := zT_in (qin_2 (List.mem_of_getElem? (i := 213) (by decide +kernel))) rfl
theorem qS_X4_drive : Cond.selects RX4 yX4_drive yX4_drive ∈ zT := zT_in (qin_0 (List.mem_of_getElem? (i := 12) (by decide +kernel))) rfl
theorem qS_X4_fillUp : Cond.selects RX4 yX4_fillUp yX4_fillUp ∈ zT := zT_in (qin_0 (List.mem_of_getElem? (i := 13) (by decide +kernel))) rfl
theorem qS_X4_firstLeftBy : Cond.selects RX4 yX4_firstLeftBy yX4_firstLeftBy ∈ zT := zT_in (qin_4 (List.mem_of_getElem? (i := 68) (by decide +kernel))) rfl
theorem qS_X4_giveFuel : Cond.selects RX4 yX4_giveFuel yX4_giveFuel ∈ zT := zT_in (qin_0 (List.mem_of_getElem? (i := 22) (by decide +kernel))) rfl
theorem qS_X4_goOn : Cond.selects RX4 yX4_goOn yX4_goOn ∈ zT := zT_in (qin_0 (List.mem_of_getElem? (i := 19) (by decide +kernel))) rfl
theorem qS_X4_hasRoomForVehicle : Cond.selects RX4 yX4_hasRoomForVehicle yX4_hasRoomForVehicle ∈ zT := zT_in (qin_2 (List.mem_of_getElem? (i := 9) (by decide +kernel))) rfl
theorem qS_X4_hasTooLittle : Cond.selects RX4 yX4_hasTooLittle yX4_hasTooLittle ∈ zT := zT_in (qin_0 (List.mem_of_getElem? (i := 16) (by decide +kernel))) rfl
theorem qS_X4_hours : Cond.selects RX4 yX4_hours yX4_hours ∈ zT := zT_in (qin_3 (List.mem_of_getElem? (i := 10) (by decide +kernel))) rfl
theorem qS_X4_hoursToEnd : Cond.selects RX4 yX4_hoursToEnd yX4_hoursToEnd ∈ zT := zT_in (qin_4 (List.mem_of_getElem? (i := 57) (by decide +kernel))) rfl
theorem qS_X4_howMany : Cond.selects RX4 yX4_howMany yX4_howMany ∈ zT := zT_in (qin_3 (List.mem_of_getElem? (i := 14) (by decide +kernel))) rfl
theorem qS_X4_isAtEnd : Cond.selects RX4 yX4_isAtEnd yX4_isAtEnd ∈ zT := zT_in (qin_3 (List.mem_of_getElem? (i := 67) (by decide +kernel))) rfl
theorem qS_X4_leaveStragglers : Cond.selects RX4 yX4_leaveStragglers yX4_leaveStragglers ∈ zT := zT_in (qin_0 (List.mem_of_getElem? (i := 15) (by decide +kernel))) rfl
theorem qS_X4_length : Cond.selects RX4 yX4_length yX4_length ∈ zT := zT_in (qin_2 (List.mem_of_getElem? (i := 26) (by decide +kernel))) rfl
theorem qS_X4_letGoBy : Cond.selects RX4 yX4_letGoBy yX4_letGoBy ∈ zT := zT_in (qin_3 (List.mem_of_getElem? (i := 195) (by decide +kernel))) rfl
theorem qS_X4_letHourGoBy : Cond.selects RX4 yX4_letHourGoBy yX4_letHourGoBy ∈ zT := zT_in (qin_3 (List.mem_of_getElem? (i := 200) (by decide +kernel))) rfl
theorem qS_X4_litersWith : Cond.selects RX4 yX4_litersWith yX4_litersWith ∈ zT := zT_in (qin_3 (List.mem_of_getElem? (i := 63) (by decide +kernel))) rfl
theorem qS_X4_meetChance : Cond.selects RX4 yX4_meetChance yX4_meetChance ∈ zT := zT_in (qin_4 (List.mem_of_getElem? (i := 124) (by decide +kernel))) rfl
theorem qS_X4_moveTo : Cond.selects RX4 yX4_moveTo yX4_moveTo ∈ zT := zT_in (qin_0 (List.mem_of_getElem? (i := 9) (by decide +kernel))) rfl
theorem qS_X4_newBay : Cond.selects RX4 yX4_newBay yX4_newBay ∈ zT := zT_in (qin_2 (List.mem_of_getElem? (i := 59) (by decide +kernel))) rfl
theorem qS_X4_newConvoy : Cond.selects RX4 yX4_newConvoy yX4_newConvoy ∈ zT := zT_in (qin_2 (List.mem_of_getElem? (i := 71) (by decide +kernel))) rfl
theorem qS_X4_newDepot : Cond.selects RX4 yX4_newDepot yX4_newDepot ∈ zT := zT_in (qin_2 (List.mem_of_getElem? (i := 67) (by decide +kernel))) rfl
theorem qS_X4_newGate : Cond.selects RX4 yX4_newGate yX4_newGate ∈ zT := zT_in (qin_2 (List.mem_of_getElem? (i := 42) (by decide +kernel))) rfl
theorem qS_X4_newVehicle : Cond.selects RX4 yX4_newVehicle yX4_newVehicle ∈ zT := zT_in (qin_2 (List.mem_of_getElem? (i := 79) (by decide +kernel))) rfl
theorem qS_X4_noteLeft : Cond.selects RX4 yX4_noteLeft yX4_noteLeft ∈ zT := zT_in (qin_0 (List.mem_of_getElem? (i := 17) (by decide +kernel))) rfl
theorem qS_X4_obeys : Cond.selects RX4 yX4_obeys yX4_obeys ∈ zT := zT_in (qin_4 (List.mem_of_getElem? (i := 102) (by decide +kernel))) rfl
theorem qS_X4_obeysHold : Cond.selects RX4 yX4_obeysHold yX4_obeysHold ∈ zT := zT_in (qin_0 (List.mem_of_getElem? (i := 25) (by decide +kernel))) rfl
theorem qS_X4_obeysSupply : Cond.selects RX4 yX4_obeysSupply yX4_obeysSupply ∈ zT := zT_in (qin_0 (List.mem_of_getElem? (i := 26) (by decide +kernel))) rfl
theorem qS_X4_putInOrder : Cond.selects RX4 yX4_putInOrder yX4_putInOrder ∈ zT := zT_in (qin_0 (List.mem_of_getElem? (i := 23) (by decide +kernel))) rfl
theorem qS_X4_rescues : Cond.selects RX4 yX4_rescues yX4_rescues ∈ zT := zT_in (qin_0 (List.mem_of_getElem? (i := 20) (by decide +kernel))) rfl
theorem qS_X4_richest : Cond.selects RX4 yX4_richest yX4_richest ∈ zT := zT_in (qin_0 (List.mem_of_getElem? (i := 21) (by decide +kernel))) rfl
theorem qS_X4_slowestSpeed : Cond.selects RX4 yX4_slowestSpeed yX4_slowestSpeed ∈ zT := zT_in (qin_3 (List.mem_of_getElem? (i := 54) (by decide +kernel))) rfl
theorem qS_X4_stands : Cond.selects RX4 yX4_stands yX4_stands ∈ zT := zT_in (qin_0 (List.mem_of_getElem? (i := 18) (by decide +kernel))) rfl
theorem qS_X4_waitsAtGate : Cond.selects RX4 yX4_waitsAtGate yX4_waitsAtGate ∈ zT := zT_in (qin_0 (List.mem_of_getElem? (i := 14) (by decide +kernel))) rfl
theorem qS_X5_addRow : Cond.selects RX5 yX5_addRow yX5_addRow ∈ zT := zT_in (qin_2 (List.mem_of_getElem? (i := 46) (by decide +kernel))) rfl
theorem qS_X5_copyFrom : Cond.selects RX5 yX5_copyFrom yX5_copyFrom ∈ zT := zT_in (qin_2 (List.mem_of_getElem? (i := 217) (by decide +kernel))) rfl
theorem qS_X5_count : Cond.selects RX5 yX5_count yX5_count ∈ zT := zT_in (qin_2 (List.mem_of_getElem? (i := 5) (by decide +kernel))) rfl
theorem qS_X5_emptyOut : Cond.selects RX5 yX5_emptyOut yX5_emptyOut ∈ zT := zT_in (qin_1 (List.mem_of_getElem? (i := 181) (by decide +kernel))) rfl
theorem qS_X5_get : Cond.selects RX5 yX5_get yX5_get ∈ zT := zT_in (qin_2 (List.mem_of_getElem? (i := 38) (by decide +kernel))) rfl
theorem qS_X5_has : Cond.selects RX5 yX5_has yX5_has ∈ zT := zT_in (qin_2 (List.mem_of_getElem? (i := 14) (by decide +kernel))) rfl
theorem qS_X5_isFull : Cond.selects RX5 yX5_isFull yX5_isFull ∈ zT := zT_in (qin_2 (List.mem_of_getElem? (i := 1) (by decide +kernel))) rfl
theorem qS_X5_put : Cond.selects RX5 yX5_put yX5_put ∈ zT := zT_in (qin_2 (List.mem_of_getElem? (i := 50) (by decide +kernel))) rfl
theorem qS_X5_raise : Cond.selects RX5 yX5_raise yX5_raise ∈ zT := zT_in (qin_3 (List.mem_of_getElem? (i := 184) (by decide +kernel))) rfl
theorem qS_X5_rowAt : Cond.selects RX5 yX5_rowAt yX5_rowAt ∈ zT := zT_in (qin_2 (List.mem_of_getElem? (i := 34) (by decide +kernel))) rfl
theorem qS_X5_sum : Cond.selects RX5 yX5_sum yX5_sum ∈ zT := zT_in (qin_3 (List.mem_of_getElem? (i := 20) (by decide +kernel))) rfl
theorem qS_X7_accept : Cond.selects RX7 yX7_accept yX7_accept ∈ zT := zT_in (qin_0 (List.mem_of_getElem? (i := 30) (by decide +kernel))) rfl
theorem qS_X7_allArrive : Cond.selects RX7 yX7_allArrive yX7_allArrive ∈ zT := zT_in (qin_0 (List.mem_of_getElem? (i := 48) (by decide +kernel))) rfl
theorem qS_X7_arrival : Cond.selects RX7 yX7_arrival yX7_arrival ∈ zT := zT_in (qin_0 (List.mem_of_getElem? (i := 47) (by decide +kernel))) rfl
theorem qS_X7_begin : Cond.selects RX7 yX7_begin yX7_begin ∈ zT := zT_in (qin_0 (List.mem_of_getElem? (i := 46) (by decide +kernel))) rfl
theorem qS_X7_closedFor : Cond.selects RX7 yX7_closedFor yX7_closedFor ∈ zT := zT_in (qin_0 (List.mem_of_getElem? (i := 39) (by decide +kernel))) rfl
theorem qS_X7_demand : Cond.selects RX7 yX7_demand yX7_demand ∈ zT := zT_in (qin_0 (List.mem_of_getElem? (i := 34) (by decide +kernel))) rfl
theorem qS_X7_digit : Cond.selects RX7 yX7_digit yX7_digit ∈ zT := zT_in (qin_0 (List.mem_of_getElem? (i := 32) (by decide +kernel))) rfl
theorem qS_X7_does : Cond.selects RX7 yX7_does yX7_does ∈ zT := zT_in (qin_0 (List.mem_of_getElem? (i := 49) (by decide +kernel))) rfl
theorem qS_X7_goConvoy : Cond.selects RX7 yX7_goConvoy yX7_goConvoy ∈ zT := zT_in (qin_0 (List.mem_of_getElem? (i := 44) (by decide +kernel))) rfl
theorem qS_X7_goHour : Cond.selects RX7 yX7_goHour yX7_goHour ∈ zT := zT_in (qin_0 (List.mem_of_getElem? (i := 43) (by decide +kernel))) rfl
theorem qS_X7_goHours : Cond.selects RX7 yX7_goHours yX7_goHours ∈ zT := zT_in (qin_0 (List.mem_of_getElem? (i := 42) (by decide +kernel))) rfl
theorem qS_X7_isConvoy : Cond.selects RX7 yX7_isConvoy yX7_isConvoy ∈ zT := zT_in (qin_0 (List.mem_of_getElem? (i := 38) (by decide +kernel))) rfl
theorem qS_X7_isDepot : Cond.selects RX7 yX7_isDepot yX7_isDepot ∈ zT := zT_in (qin_0 (List.mem_of_getElem? (i := 40) (by decide +kernel))) rfl
theorem qS_X7_isNext : Cond.selects RX7 yX7_isNext yX7_isNext ∈ zT := zT_in (qin_0 (List.mem_of_getElem? (i := 29) (by decide +kernel))) rfl
theorem qS_X7_readBay : Cond.selects RX7 yX7_readBay yX7_readBay ∈ zT := zT_in (qin_0 (List.mem_of_getElem? (i := 35) (by decide +kernel))) rfl
theorem qS_X7_readCar : Cond.selects RX7 yX7_readCar yX7_readCar ∈ zT := zT_in (qin_0 (List.mem_of_getElem? (i := 37) (by decide +kernel))) rfl
theorem qS_X7_readDepot : Cond.selects RX7 yX7_readDepot yX7_readDepot ∈ zT := zT_in (qin_0 (List.mem_of_getElem? (i := 36) (by decide +kernel))) rfl
theorem qS_X7_readGate : Cond.selects RX7 yX7_readGate yX7_readGate ∈ zT := zT_in (qin_0 (List.mem_of_getElem? (i := 33) (by decide +kernel))) rfl
theorem qS_X7_readText : Cond.selects RX7 yX7_readText yX7_readText ∈ zT := zT_in (qin_0 (List.mem_of_getElem? (i := 28) (by decide +kernel))) rfl
theorem qS_X7_refused : Cond.selects RX7 yX7_refused yX7_refused ∈ zT := zT_in (qin_0 (List.mem_of_getElem? (i := 27) (by decide +kernel))) rfl
theorem qS_X7_remember : Cond.selects RX7 yX7_remember yX7_remember ∈ zT := zT_in (qin_0 (List.mem_of_getElem? (i := 41) (by decide +kernel))) rfl
theorem qS_X7_sheds : Cond.selects RX7 yX7_sheds yX7_sheds ∈ zT := zT_in (qin_0 (List.mem_of_getElem? (i := 45) (by decide +kernel))) rfl
theorem qS_X7_stir : Cond.selects RX7 yX7_stir yX7_stir ∈ zT := zT_in (qin_0 (List.mem_of_getElem? (i := 50) (by decide +kernel))) rfl
theorem qS_X7_two : Cond.selects RX7 yX7_two yX7_two ∈ zT := zT_in (qin_0 (List.mem_of_getElem? (i := 31) (by decide +kernel))) rfl
theorem qT_X6_checkExists : Cond.static yX6_checkExists ∈ zT := zT_in (qin_3 (List.mem_of_getElem? (i := 31) (by decide +kernel))) rfl
theorem qT_X6_checkRange : Cond.static yX6_checkRange ∈ zT := zT_in (qin_2 (List.mem_of_getElem? (i := 103) (by decide +kernel))) rfl
theorem qT_X6_checkSlot : Cond.static yX6_checkSlot ∈ zT := zT_in (qin_4 (List.mem_of_getElem? (i := 135) (by decide +kernel))) rfl
theorem qT_X6_groupOf : Cond.static yX6_groupOf ∈ zT := zT_in (qin_4 (List.mem_of_getElem? (i := 98) (by decide +kernel))) rfl
theorem qT_X6_isWithin : Cond.static yX6_isWithin ∈ zT := zT_in (qin_1 (List.mem_of_getElem? (i := 228) (by decide +kernel))) rfl
theorem qT_X6_refuseArgumentIf : Cond.static yX6_refuseArgumentIf ∈ zT := zT_in (qin_2 (List.mem_of_getElem? (i := 107) (by decide +kernel))) rfl
theorem qT_X6_refuseIf : Cond.static yX6_refuseIf ∈ zT := zT_in (qin_2 (List.mem_of_getElem? (i := 182) (by decide +kernel))) rfl
theorem qT_X7_addBayTo : Cond.static yX7_addBayTo ∈ zT := zT_in (qin_5 (List.mem_of_getElem? (i := 33) (by decide +kernel))) rfl
theorem qT_X7_addCarTo : Cond.static yX7_addCarTo ∈ zT := zT_in (qin_5 (List.mem_of_getElem? (i := 62) (by decide +kernel))) rfl
theorem qT_X7_addConvoyTo : Cond.static yX7_addConvoyTo ∈ zT := zT_in (qin_5 (List.mem_of_getElem? (i := 49) (by decide +kernel))) rfl
theorem qT_X7_addDepotTo : Cond.static yX7_addDepotTo ∈ zT := zT_in (qin_5 (List.mem_of_getElem? (i := 46) (by decide +kernel))) rfl
theorem qT_X7_addGateTo : Cond.static yX7_addGateTo ∈ zT := zT_in (qin_5 (List.mem_of_getElem? (i := 20) (by decide +kernel))) rfl
theorem qT_X7_arrive : Cond.static yX7_arrive ∈ zT := zT_in (qin_5 (List.mem_of_getElem? (i := 219) (by decide +kernel))) rfl
theorem qT_X7_bayAt : Cond.static yX7_bayAt ∈ zT := zT_in (qin_5 (List.mem_of_getElem? (i := 30) (by decide +kernel))) rfl
theorem qT_X7_bayOn : Cond.static yX7_bayOn ∈ zT := zT_in (qin_5 (List.mem_of_getElem? (i := 27) (by decide +kernel))) rfl
theorem qT_X7_burn : Cond.static yX7_burn ∈ zT := zT_in (qin_5 (List.mem_of_getElem? (i := 216) (by decide +kernel))) rfl
theorem qT_X7_carAt : Cond.static yX7_carAt ∈ zT := zT_in (qin_5 (List.mem_of_getElem? (i := 65) (by decide +kernel))) rfl
theorem qT_X7_convoyAt : Cond.static yX7_convoyAt ∈ zT := zT_in (qin_5 (List.mem_of_getElem? (i := 52) (by decide +kernel))) rfl
theorem qT_X7_copy : Cond.static yX7_copy ∈ zT := zT_in (qin_5 (List.mem_of_getElem? (i := 72) (by decide +kernel))) rfl
theorem qT_X7_countAt : Cond.static yX7_countAt ∈ zT := zT_in (qin_5 (List.mem_of_getElem? (i := 80) (by decide +kernel))) rfl
theorem qT_X7_depotAt : Cond.static yX7_depotAt ∈ zT := zT_in (qin_5 (List.mem_of_getElem? (i := 43) (by decide +kernel))) rfl
theorem qT_X7_depotOn : Cond.static yX7_depotOn ∈ zT := zT_in (qin_5 (List.mem_of_getElem? (i := 40) (by decide +kernel))) rfl
theorem qT_X7_depots : Cond.static yX7_depots ∈ zT := zT_in (qin_5 (List.mem_of_getElem? (i := 86) (by decide +kernel))) rfl
theorem qT_X7_drop : Cond.static yX7_drop ∈ zT := zT_in (qin_5 (List.mem_of_getElem? (i := 213) (by decide +kernel))) rfl
theorem qT_X7_fill : Cond.static yX7_fill ∈ zT := zT_in (qin_5 (List.mem_of_getElem? (i := 203) (by decide +kernel))) rfl
theorem qT_X7_gateAt : Cond.static yX7_gateAt ∈ zT := zT_in (qin_5 (List.mem_of_getElem? (i := 13) (by decide +kernel))) rfl
theorem qT_X7_gateOn : Cond.static yX7_gateOn ∈ zT := zT_in (qin_5 (List.mem_of_getElem? (i := 10) (by decide +kernel))) rfl
theorem qT_X7_helps : Cond.static yX7_helps ∈ zT := zT_in (qin_5 (List.mem_of_getElem? (i := 225) (by decide +kernel))) rfl
theorem qT_X7_in : Cond.static yX7_in ∈ zT := zT_in (qin_4 (List.mem_of_getElem? (i := 210) (by decide +kernel))) rfl
theorem qT_X7_isBefore : Cond.static yX7_isBefore ∈ zT := zT_in (qin_5 (List.mem_of_getElem? (i := 231) (by decide +kernel))) rfl
theorem qT_X7_isClosed : Cond.static yX7_isClosed ∈ zT := zT_in (qin_5 (List.mem_of_getElem? (i := 128) (by decide +kernel))) rfl
theorem qT_X7_isHold : Cond.static yX7_isHold ∈ zT := zT_in (qin_5 (List.mem_of_getElem? (i := 178) (by decide +kernel))) rfl
theorem qT_X7_isShort : Cond.static yX7_isShort ∈ zT := zT_in (qin_5 (List.mem_of_getElem? (i := 210) (by decide +kernel))) rfl
theorem qT_X7_isThere : Cond.static yX7_isThere ∈ zT := zT_in (qin_5 (List.mem_of_getElem? (i := 107) (by decide +kernel))) rfl
theorem qT_X7_litersOf : Cond.static yX7_litersOf ∈ zT := zT_in (qin_5 (List.mem_of_getElem? (i := 104) (by decide +kernel))) rfl
theorem qT_X7_order : Cond.static yX7_order ∈ zT := zT_in (qin_5 (List.mem_of_getElem? (i := 228) (by decide +kernel))) rfl
theorem qT_X7_rescue : Cond.static yX7_rescue ∈ zT := zT_in (qin_5 (List.mem_of_getElem? (i := 222) (by decide +kernel))) rfl
theorem qT_X7_sizeOf : Cond.static yX7_sizeOf ∈ zT := zT_in (qin_5 (List.mem_of_getElem? (i := 59) (by decide +kernel))) rfl
theorem qT_X7_slowest : Cond.static yX7_slowest ∈ zT := zT_in (qin_5 (List.mem_of_getElem? (i := 98) (by decide +kernel))) rfl
theorem qT_X7_tanks : Cond.static yX7_tanks ∈ zT := zT_in (qin_5 (List.mem_of_getElem? (i := 83) (by decide +kernel))) rfl
theorem qT_X7_tenTo : Cond.static yX7_tenTo ∈ zT := zT_in (qin_6 (List.mem_of_getElem? (i := 30) (by decide +kernel))) rfl
theorem qT_X7_who : Cond.static yX7_who ∈ zT := zT_in (qin_5 (List.mem_of_getElem? (i := 101) (by decide +kernel))) rfl
theorem qT_arraycopy : Cond.static arraycopyName ∈ zT := zT_in (qin_2 (List.mem_of_getElem? (i := 223) (by decide +kernel))) rfl
theorem qT_max : Cond.static Lib.Math.max.name ∈ zT := zT_in (qin_1 (List.mem_of_getElem? (i := 58) (by decide +kernel))) rfl
theorem qT_min : Cond.static Lib.Math.min.name ∈ zT := zT_in (qin_2 (List.mem_of_getElem? (i := 220) (by decide +kernel))) rfl
theorem gS_X6_112 : ZS RX6 112 yX6_checkExists cX6_checkExists 2 none := ⟨qM_X6_112, qT_X6_checkExists, qN_X6, qC_X6_checkExists⟩
theorem gS_X6_139 : ZS RX6 139 yX6_refuseArgumentIf cX6_refuseArgumentIf 1 none := ⟨qM_X6_139, qT_X6_refuseArgumentIf, qN_X6, qC_X6_refuseArgumentIf⟩
theorem gS_X6_201 : ZS RX6 201 yX6_groupOf cX6_groupOf 6 (some .int) := ⟨qM_X6_201, qT_X6_groupOf, qN_X6, qC_X6_groupOf⟩
theorem gS_X6_218 : ZS RX6 218 yX6_checkSlot cX6_checkSlot 1 none := ⟨qM_X6_218, qT_X6_checkSlot, qN_X6, qC_X6_checkSlot⟩
theorem gS_X6_241 : ZS RX6 241 yX6_isWithin cX6_isWithin 3 (some .boolean) := ⟨qM_X6_241, qT_X6_isWithin, qN_X6, qC_X6_isWithin⟩
theorem gS_X6_45 : ZS RX6 45 yX6_checkRange cX6_checkRange 3 none := ⟨qM_X6_45, qT_X6_checkRange, qN_X6, qC_X6_checkRange⟩
theorem gS_X6_53 : ZS RX6 53 yX6_refuseIf cX6_refuseIf 1 none := ⟨qM_X6_53, qT_X6_refuseIf, qN_X6, qC_X6_refuseIf⟩
theorem gS_X7_100 : ZS RX7 100 yX7_fill cX7_fill 7 none := ⟨qM_X7_100, qT_X7_fill, qN_X7, qC_X7_fill⟩
theorem gS_X7_103 : ZS RX7 103 yX7_slowest cX7_slowest 5 (some .int) := ⟨qM_X7_103, qT_X7_slowest, qN_X7, qC_X7_slowest⟩
theorem gS_X7_106 : ZS RX7 106 yX7_gateOn cX7_gateOn 4 (some .int) := ⟨qM_X7_106, qT_X7_gateOn, qN_X7, qC_X7_gateOn⟩
theorem gS_X7_109 : ZS RX7 109 yX7_isClosed cX7_isClosed 2 (some .boolean) := ⟨qM_X7_109, qT_X7_isClosed, qN_X7, qC_X7_isClosed⟩
theorem gS_X7_115 : ZS RX7 115 yX7_burn cX7_burn 4 none := ⟨qM_X7_115, qT_X7_burn, qN_X7, qC_X7_burn⟩
theorem gS_X7_118 : ZS RX7 118 yX7_isThere cX7_isThere 2 (some .boolean) := ⟨qM_X7_118, qT_X7_isThere, qN_X7, qC_X7_isThere⟩
theorem gS_X7_121 : ZS RX7 121 yX7_arrive cX7_arrive 3 none := ⟨qM_X7_121, qT_X7_arrive, qN_X7, qC_X7_arrive⟩
theorem gS_X7_124 : ZS RX7 124 yX7_rescue cX7_rescue 5 none := ⟨qM_X7_124, qT_X7_rescue, qN_X7, qC_X7_rescue⟩
theorem gS_X7_130 : ZS RX7 130 yX7_countAt cX7_countAt 4 (some .int) := ⟨qM_X7_130, qT_X7_countAt, qN_X7, qC_X7_countAt⟩
theorem gS_X7_139 : ZS RX7 139 yX7_in cX7_in 6 (some .boolean) := ⟨qM_X7_139, qT_X7_in, qN_X7, qC_X7_in⟩
theorem gS_X7_172 : ZS RX7 172 yX7_addGateTo cX7_addGateTo 6 none := ⟨qM_X7_172, qT_X7_addGateTo, qN_X7, qC_X7_addGateTo⟩
theorem gS_X7_176 : ZS RX7 176 yX7_addBayTo cX7_addBayTo 4 none := ⟨qM_X7_176, qT_X7_addBayTo, qN_X7, qC_X7_addBayTo⟩
theorem gS_X7_180 : ZS RX7 180 yX7_addDepotTo cX7_addDepotTo 4 none := ⟨qM_X7_180, qT_X7_addDepotTo, qN_X7, qC_X7_addDepotTo⟩
theorem gS_X7_186 : ZS RX7 186 yX7_addCarTo cX7_addCarTo 7 none := ⟨qM_X7_186, qT_X7_addCarTo, qN_X7, qC_X7_addCarTo⟩
theorem gS_X7_199 : ZS RX7 199 yX7_addConvoyTo cX7_addConvoyTo 2 none := ⟨qM_X7_199, qT_X7_addConvoyTo, qN_X7, qC_X7_addConvoyTo⟩
theorem gS_X7_211 : ZS RX7 211 yX7_tanks cX7_tanks 3 (some .int) := ⟨qM_X7_211, qT_X7_tanks, qN_X7, qC_X7_tanks⟩
theorem gS_X7_215 : ZS RX7 215 yX7_depots cX7_depots 3 (some .int) := ⟨qM_X7_215, qT_X7_depots, qN_X7, qC_X7_depots⟩
theorem gS_X7_223 : ZS RX7 223 yX7_litersOf cX7_litersOf 4 (some .int) := ⟨qM_X7_223, qT_X7_litersOf, qN_X7, qC_X7_litersOf⟩
theorem gS_X7_256 : ZS RX7 256 yX7_isHold cX7_isHold 1 (some .boolean) := ⟨qM_X7_256, qT_X7_isHold, qN_X7, qC_X7_isHold⟩
theorem gS_X7_274 : ZS RX7 274 yX7_tenTo cX7_tenTo 4 (some .long) := ⟨qM_X7_274, qT_X7_tenTo, qN_X7, qC_X7_tenTo⟩
theorem gS_X7_47 : ZS RX7 47 yX7_copy cX7_copy 6 none := ⟨qM_X7_47, qT_X7_copy, qN_X7, qC_X7_copy⟩
theorem gS_X7_51 : ZS RX7 51 yX7_convoyAt cX7_convoyAt 2 (some .int) := ⟨qM_X7_51, qT_X7_convoyAt, qN_X7, qC_X7_convoyAt⟩
theorem gS_X7_55 : ZS RX7 55 yX7_gateAt cX7_gateAt 2 (some .int) := ⟨qM_X7_55, qT_X7_gateAt, qN_X7, qC_X7_gateAt⟩
theorem gS_X7_58 : ZS RX7 58 yX7_bayAt cX7_bayAt 2 (some .int) := ⟨qM_X7_58, qT_X7_bayAt, qN_X7, qC_X7_bayAt⟩
theorem gS_X7_61 : ZS RX7 61 yX7_depotAt cX7_depotAt 2 (some .int) := ⟨qM_X7_61, qT_X7_depotAt, qN_X7, qC_X7_depotAt⟩
theorem gS_X7_64 : ZS RX7 64 yX7_sizeOf cX7_sizeOf 2 (some .int) := ⟨qM_X7_64, qT_X7_sizeOf, qN_X7, qC_X7_sizeOf⟩
theorem gS_X7_68 : ZS RX7 68 yX7_who cX7_who 3 (some .int) := ⟨qM_X7_68, qT_X7_who, qN_X7, qC_X7_who⟩
theorem gS_X7_72 : ZS RX7 72 yX7_carAt cX7_carAt 2 (some .int) := ⟨qM_X7_72, qT_X7_carAt, qN_X7, qC_X7_carAt⟩
theorem gS_X7_75 : ZS RX7 75 yX7_depotOn cX7_depotOn 4 (some .int) := ⟨qM_X7_75, qT_X7_depotOn, qN_X7, qC_X7_depotOn⟩
theorem gS_X7_78 : ZS RX7 78 yX7_bayOn cX7_bayOn 4 (some .int) := ⟨qM_X7_78, qT_X7_bayOn, qN_X7, qC_X7_bayOn⟩
theorem gS_X7_81 : ZS RX7 81 yX7_isShort cX7_isShort 2 (some .boolean) := ⟨qM_X7_81, qT_X7_isShort, qN_X7, qC_X7_isShort⟩
theorem gS_X7_85 : ZS RX7 85 yX7_drop cX7_drop 5 none := ⟨qM_X7_85, qT_X7_drop, qN_X7, qC_X7_drop⟩
theorem gS_X7_89 : ZS RX7 89 yX7_isBefore cX7_isBefore 4 (some .boolean) := ⟨qM_X7_89, qT_X7_isBefore, qN_X7, qC_X7_isBefore⟩
theorem gS_X7_93 : ZS RX7 93 yX7_helps cX7_helps 7 (some .boolean) := ⟨qM_X7_93, qT_X7_helps, qN_X7, qC_X7_helps⟩
theorem gS_X7_96 : ZS RX7 96 yX7_order cX7_order 6 none := ⟨qM_X7_96, qT_X7_order, qN_X7, qC_X7_order⟩
theorem gV_X0_27 : ZV RX0 27 RX3 yX3_keep cX3_keep 4 none := ⟨qM_X0_27, qI_X3_keep, qS_X3_keep, qN_X3, qC_X3_keep⟩
theorem gV_X0_37 : ZV RX0 37 RX3 yX3_giveBack cX3_giveBack 4 none := ⟨qM_X0_37, qI_X3_giveBack, qS_X3_giveBack, qN_X3, qC_X3_giveBack⟩
theorem gV_X1_103 : ZV RX1 103 RX4 yX4_newDepot cX4_newDepot 4 (some .int) := ⟨qM_X1_103, qI_X4_newDepot, qS_X4_newDepot, qN_X4, qC_X4_newDepot⟩
theorem gV_X1_106 : ZV RX1 106 RX4 yX4_newVehicle cX4_newVehicle 7 (some .int) := ⟨qM_X1_106, qI_X4_newVehicle, qS_X4_newVehicle, qN_X4, qC_X4_newVehicle⟩
theorem gV_X1_110 : ZV RX1 110 RX5 yX5_rowAt cX5_rowAt 3 (some .int) := ⟨qM_X1_110, qI_X5_rowAt, qS_X5_rowAt, qN_X5, qC_X5_rowAt⟩
theorem gV_X1_22 : ZV RX1 22 RX1 yX1_signAt cX1_signAt 1 (some .int) := ⟨qM_X1_22, qI_X1_signAt, qS_X1_signAt, qN_X1, qC_X1_signAt⟩
theorem gV_X1_30 : ZV RX1 30 RX1 yX1_number cX1_number 9 (some .int) := ⟨qM_X1_30, qI_X1_number, qS_X1_number, qN_X1, qC_X1_number⟩
theorem gV_X1_34 : ZV RX1 34 RX4 yX4_begin cX4_begin 2 none := ⟨qM_X1_34, qI_X4_begin, qS_X4_begin, qN_X4, qC_X4_begin⟩
theorem gV_X1_40 : ZV RX1 40 RX1 yX1_readPart cX1_readPart 3 none := ⟨qM_X1_40, qI_X1_readPart, qS_X1_readPart, qN_X1, qC_X1_readPart⟩
theorem gV_X1_44 : ZV RX1 44 RX1 yX1_isAllowed cX1_isAllowed 3 (some .boolean) := ⟨qM_X1_44, qI_X1_isAllowed, qS_X1_isAllowed, qN_X1, qC_X1_isAllowed⟩
theorem gV_X1_48 : ZV RX1 48 RX1 yX1_readGate cX1_readGate 6 none := ⟨qM_X1_48, qI_X1_readGate, qS_X1_readGate, qN_X1, qC_X1_readGate⟩
theorem gV_X1_51 : ZV RX1 51 RX1 yX1_readBay cX1_readBay 4 none := ⟨qM_X1_51, qI_X1_readBay, qS_X1_readBay, qN_X1, qC_X1_readBay⟩
theorem gV_X1_54 : ZV RX1 54 RX1 yX1_readDepot cX1_readDepot 4 none := ⟨qM_X1_54, qI_X1_readDepot, qS_X1_readDepot, qN_X1, qC_X1_readDepot⟩
theorem gV_X1_57 : ZV RX1 57 RX4 yX4_newConvoy cX4_newConvoy 1 (some .int) := ⟨qM_X1_57, qI_X4_newConvoy, qS_X4_newConvoy, qN_X4, qC_X4_newConvoy⟩
theorem gV_X1_60 : ZV RX1 60 RX1 yX1_readVehicle cX1_readVehicle 6 none := ⟨qM_X1_60, qI_X1_readVehicle, qS_X1_readVehicle, qN_X1, qC_X1_readVehicle⟩
theorem gV_X1_67 : ZV RX1 67 RX5 yX5_isFull cX5_isFull 1 (some .boolean) := ⟨qM_X1_67, qI_X5_isFull, qS_X5_isFull, qN_X5, qC_X5_isFull⟩
theorem gV_X1_82 : ZV RX1 82 RX5 yX5_count cX5_count 1 (some .int) := ⟨qM_X1_82, qI_X5_count, qS_X5_count, qN_X5, qC_X5_count⟩
theorem gV_X1_85 : ZV RX1 85 RX4 yX4_hasRoomForVehicle cX4_hasRoomForVehicle 2 (some .boolean) := ⟨qM_X1_85, qI_X4_hasRoomForVehicle, qS_X4_hasRoomForVehicle, qN_X4, qC_X4_hasRoomForVehicle⟩
theorem gV_X1_89 : ZV RX1 89 RX4 yX4_length cX4_length 1 (some .int) := ⟨qM_X1_89, qI_X4_length, qS_X4_length, qN_X4, qC_X4_length⟩
theorem gV_X1_91 : ZV RX1 91 RX1 yX1_kilometer cX1_kilometer 5 (some .int) := ⟨qM_X1_91, qI_X1_kilometer, qS_X1_kilometer, qN_X1, qC_X1_kilometer⟩
theorem gV_X1_95 : ZV RX1 95 RX4 yX4_newGate cX4_newGate 6 (some .int) := ⟨qM_X1_95, qI_X4_newGate, qS_X4_newGate, qN_X4, qC_X4_newGate⟩
theorem gV_X1_99 : ZV RX1 99 RX4 yX4_newBay cX4_newBay 4 (some .int) := ⟨qM_X1_99, qI_X4_newBay, qS_X4_newBay, qN_X4, qC_X4_newBay⟩
theorem gV_X2_28 : ZV RX2 28 RX2 yX2_put cX2_put 6 none := ⟨qM_X2_28, qI_X2_put, qS_X2_put, qN_X2, qC_X2_put⟩
theorem gV_X2_32 : ZV RX2 32 RX2 yX2_get cX2_get 5 (some .int) := ⟨qM_X2_32, qI_X2_get, qS_X2_get, qN_X2, qC_X2_get⟩
theorem gV_X3_26 : ZV RX3 26 RX3 yX3_copyAt cX3_copyAt 2 (some (.object "WinterRoad$State")) := ⟨qM_X3_26, qI_X3_copyAt, qS_X3_copyAt, qN_X3, qC_X3_copyAt⟩
theorem gV_X3_30 : ZV RX3 30 RX4 yX4_copyFrom cX4_copyFrom 2 none := ⟨qM_X3_30, qI_X4_copyFrom, qS_X4_copyFrom, qN_X4, qC_X4_copyFrom⟩
theorem gV_X4_105 : ZV RX4 105 RX2 yX2_get cX2_get 5 (some .int) := ⟨qM_X4_105, qI_X2_get, qS_X2_get, qN_X2, qC_X2_get⟩
theorem gV_X4_109 : ZV RX4 109 RX5 yX5_count cX5_count 1 (some .int) := ⟨qM_X4_109, qI_X5_count, qS_X5_count, qN_X5, qC_X5_count⟩
theorem gV_X4_116 : ZV RX4 116 RX4 yX4_letHourGoBy cX4_letHourGoBy 2 none := ⟨qM_X4_116, qI_X4_letHourGoBy, qS_X4_letHourGoBy, qN_X4, qC_X4_letHourGoBy⟩
theorem gV_X4_119 : ZV RX4 119 RX4 yX4_isAtEnd cX4_isAtEnd 2 (some .boolean) := ⟨qM_X4_119, qI_X4_isAtEnd, qS_X4_isAtEnd, qN_X4, qC_X4_isAtEnd⟩
theorem gV_X4_122 : ZV RX4 122 RX4 yX4_drive cX4_drive 4 none := ⟨qM_X4_122, qI_X4_drive, qS_X4_drive, qN_X4, qC_X4_drive⟩
theorem gV_X4_126 : ZV RX4 126 RX5 yX5_raise cX5_raise 6 none := ⟨qM_X4_126, qI_X5_raise, qS_X5_raise, qN_X5, qC_X5_raise⟩
theorem gV_X4_129 : ZV RX4 129 RX4 yX4_fillUp cX4_fillUp 7 none := ⟨qM_X4_129, qI_X4_fillUp, qS_X4_fillUp, qN_X4, qC_X4_fillUp⟩
theorem gV_X4_132 : ZV RX4 132 RX4 yX4_slowestSpeed cX4_slowestSpeed 5 (some .int) := ⟨qM_X4_132, qI_X4_slowestSpeed, qS_X4_slowestSpeed, qN_X4, qC_X4_slowestSpeed⟩
theorem gV_X4_135 : ZV RX4 135 RX4 yX4_waitsAtGate cX4_waitsAtGate 3 (some .boolean) := ⟨qM_X4_135, qI_X4_waitsAtGate, qS_X4_waitsAtGate, qN_X4, qC_X4_waitsAtGate⟩
theorem gV_X4_138 : ZV RX4 138 RX4 yX4_leaveStragglers cX4_leaveStragglers 8 none := ⟨qM_X4_138, qI_X4_leaveStragglers, qS_X4_leaveStragglers, qN_X4, qC_X4_leaveStragglers⟩
theorem gV_X4_141 : ZV RX4 141 RX4 yX4_stands cX4_stands 4 (some .boolean) := ⟨qM_X4_141, qI_X4_stands, qS_X4_stands, qN_X4, qC_X4_stands⟩
theorem gV_X4_144 : ZV RX4 144 RX4 yX4_goOn cX4_goOn 6 none := ⟨qM_X4_144, qI_X4_goOn, qS_X4_goOn, qN_X4, qC_X4_goOn⟩
theorem gV_X4_147 : ZV RX4 147 RX4 yX4_rescues cX4_rescues 8 (some .boolean) := ⟨qM_X4_147, qI_X4_rescues, qS_X4_rescues, qN_X4, qC_X4_rescues⟩
theorem gV_X4_150 : ZV RX4 150 RX4 yX4_putInOrder cX4_putInOrder 5 none := ⟨qM_X4_150, qI_X4_putInOrder, qS_X4_putInOrder, qN_X4, qC_X4_putInOrder⟩
theorem gV_X4_153 : ZV RX4 153 RX5 yX5_rowAt cX5_rowAt 3 (some .int) := ⟨qM_X4_153, qI_X5_rowAt, qS_X5_rowAt, qN_X5, qC_X5_rowAt⟩
theorem gV_X4_156 : ZV RX4 156 RX4 yX4_closedFor cX4_closedFor 4 (some .int) := ⟨qM_X4_156, qI_X4_closedFor, qS_X4_closedFor, qN_X4, qC_X4_closedFor⟩
theorem gV_X4_159 : ZV RX4 159 RX4 yX4_hasTooLittle cX4_hasTooLittle 2 (some .boolean) := ⟨qM_X4_159, qI_X4_hasTooLittle, qS_X4_hasTooLittle, qN_X4, qC_X4_hasTooLittle⟩
theorem gV_X4_162 : ZV RX4 162 RX2 yX2_remove cX2_remove 4 none := ⟨qM_X4_162, qI_X2_remove, qS_X2_remove, qN_X2, qC_X2_remove⟩
theorem gV_X4_165 : ZV RX4 165 RX4 yX4_noteLeft cX4_noteLeft 4 none := ⟨qM_X4_165, qI_X4_noteLeft, qS_X4_noteLeft, qN_X4, qC_X4_noteLeft⟩
theorem gV_X4_168 : ZV RX4 168 RX2 yX2_emptyLine cX2_emptyLine 2 none := ⟨qM_X4_168, qI_X2_emptyLine, qS_X2_emptyLine, qN_X2, qC_X2_emptyLine⟩
theorem gV_X4_171 : ZV RX4 171 RX4 yX4_richest cX4_richest 5 (some .int) := ⟨qM_X4_171, qI_X4_richest, qS_X4_richest, qN_X4, qC_X4_richest⟩
theorem gV_X4_174 : ZV RX4 174 RX4 yX4_giveFuel cX4_giveFuel 6 none := ⟨qM_X4_174, qI_X4_giveFuel, qS_X4_giveFuel, qN_X4, qC_X4_giveFuel⟩
theorem gV_X4_177 : ZV RX4 177 RX4 yX4_comesAhead cX4_comesAhead 5 (some .boolean) := ⟨qM_X4_177, qI_X4_comesAhead, qS_X4_comesAhead, qN_X4, qC_X4_comesAhead⟩
theorem gV_X4_181 : ZV RX4 181 RX2 yX2_put cX2_put 6 none := ⟨qM_X4_181, qI_X2_put, qS_X2_put, qN_X2, qC_X2_put⟩
theorem gV_X4_182 : ZV RX4 182 RX4 yX4_howMany cX4_howMany 4 (some .int) := ⟨qM_X4_182, qI_X4_howMany, qS_X4_howMany, qN_X4, qC_X4_howMany⟩
theorem gV_X4_185 : ZV RX4 185 RX4 yX4_letGoBy cX4_letGoBy 3 (some .boolean) := ⟨qM_X4_185, qI_X4_letGoBy, qS_X4_letGoBy, qN_X4, qC_X4_letGoBy⟩
theorem gV_X4_188 : ZV RX4 188 RX4 yX4_obeysHold cX4_obeysHold 3 (some .boolean) := ⟨qM_X4_188, qI_X4_obeysHold, qS_X4_obeysHold, qN_X4, qC_X4_obeysHold⟩
theorem gV_X4_191 : ZV RX4 191 RX4 yX4_obeysSupply cX4_obeysSupply 3 (some .boolean) := ⟨qM_X4_191, qI_X4_obeysSupply, qS_X4_obeysSupply, qN_X4, qC_X4_obeysSupply⟩
theorem gV_X4_55 : ZV RX4 55 RX5 yX5_emptyOut cX5_emptyOut 1 none := ⟨qM_X4_55, qI_X5_emptyOut, qS_X5_emptyOut, qN_X5, qC_X5_emptyOut⟩
theorem gV_X4_58 : ZV RX4 58 RX2 yX2_emptyOut cX2_emptyOut 2 none := ⟨qM_X4_58, qI_X2_emptyOut, qS_X2_emptyOut, qN_X2, qC_X2_emptyOut⟩
theorem gV_X4_59 : ZV RX4 59 RX5 yX5_copyFrom cX5_copyFrom 2 none := ⟨qM_X4_59, qI_X5_copyFrom, qS_X5_copyFrom, qN_X5, qC_X5_copyFrom⟩
theorem gV_X4_63 : ZV RX4 63 RX2 yX2_copyFrom cX2_copyFrom 2 none := ⟨qM_X4_63, qI_X2_copyFrom, qS_X2_copyFrom, qN_X2, qC_X2_copyFrom⟩
theorem gV_X4_70 : ZV RX4 70 RX5 yX5_addRow cX5_addRow 2 (some .int) := ⟨qM_X4_70, qI_X5_addRow, qS_X5_addRow, qN_X5, qC_X5_addRow⟩
theorem gV_X4_74 : ZV RX4 74 RX5 yX5_put cX5_put 6 none := ⟨qM_X4_74, qI_X5_put, qS_X5_put, qN_X5, qC_X5_put⟩
theorem gV_X4_78 : ZV RX4 78 RX4 yX4_moveTo cX4_moveTo 4 none := ⟨qM_X4_78, qI_X4_moveTo, qS_X4_moveTo, qN_X4, qC_X4_moveTo⟩
theorem gV_X4_81 : ZV RX4 81 RX2 yX2_join cX2_join 3 none := ⟨qM_X4_81, qI_X2_join, qS_X2_join, qN_X2, qC_X2_join⟩
theorem gV_X4_84 : ZV RX4 84 RX5 yX5_isFull cX5_isFull 1 (some .boolean) := ⟨qM_X4_84, qI_X5_isFull, qS_X5_isFull, qN_X5, qC_X5_isFull⟩
theorem gV_X4_88 : ZV RX4 88 RX5 yX5_has cX5_has 2 (some .boolean) := ⟨qM_X4_88, qI_X5_has, qS_X5_has, qN_X5, qC_X5_has⟩
theorem gV_X4_92 : ZV RX4 92 RX2 yX2_size cX2_size 2 (some .int) := ⟨qM_X4_92, qI_X2_size, qS_X2_size, qN_X2, qC_X2_size⟩
theorem gV_X4_96 : ZV RX4 96 RX5 yX5_get cX5_get 5 (some .int) := ⟨qM_X4_96, qI_X5_get, qS_X5_get, qN_X5, qC_X5_get⟩
theorem gV_X5_31 : ZV RX5 31 RX5 yX5_put cX5_put 6 none := ⟨qM_X5_31, qI_X5_put, qS_X5_put, qN_X5, qC_X5_put⟩
theorem gV_X5_35 : ZV RX5 35 RX5 yX5_get cX5_get 5 (some .int) := ⟨qM_X5_35, qI_X5_get, qS_X5_get, qN_X5, qC_X5_get⟩
theorem gV_X6_105 : ZV RX6 105 RX4 yX4_howMany cX4_howMany 4 (some .int) := ⟨qM_X6_105, qI_X4_howMany, qS_X4_howMany, qN_X4, qC_X4_howMany⟩
theorem gV_X6_109 : ZV RX6 109 RX5 yX5_sum cX5_sum 4 (some .int) := ⟨qM_X6_109, qI_X5_sum, qS_X5_sum, qN_X5, qC_X5_sum⟩
theorem gV_X6_116 : ZV RX6 116 RX5 yX5_get cX5_get 5 (some .int) := ⟨qM_X6_116, qI_X5_get, qS_X5_get, qN_X5, qC_X5_get⟩
theorem gV_X6_124 : ZV RX6 124 RX2 yX2_size cX2_size 2 (some .int) := ⟨qM_X6_124, qI_X2_size, qS_X2_size, qN_X2, qC_X2_size⟩
theorem gV_X6_129 : ZV RX6 129 RX4 yX4_slowestSpeed cX4_slowestSpeed 5 (some .int) := ⟨qM_X6_129, qI_X4_slowestSpeed, qS_X4_slowestSpeed, qN_X4, qC_X4_slowestSpeed⟩
theorem gV_X6_132 : ZV RX6 132 RX4 yX4_litersWith cX4_litersWith 4 (some .int) := ⟨qM_X6_132, qI_X4_litersWith, qS_X4_litersWith, qN_X4, qC_X4_litersWith⟩
theorem gV_X6_135 : ZV RX6 135 RX4 yX4_isAtEnd cX4_isAtEnd 2 (some .boolean) := ⟨qM_X6_135, qI_X4_isAtEnd, qS_X4_isAtEnd, qN_X4, qC_X4_isAtEnd⟩
theorem gV_X6_142 : ZV RX6 142 RX2 yX2_get cX2_get 5 (some .int) := ⟨qM_X6_142, qI_X2_get, qS_X2_get, qN_X2, qC_X2_get⟩
theorem gV_X6_143 : ZV RX6 143 RX4 yX4_closedFor cX4_closedFor 4 (some .int) := ⟨qM_X6_143, qI_X4_closedFor, qS_X4_closedFor, qN_X4, qC_X4_closedFor⟩
theorem gV_X6_149 : ZV RX6 149 RX5 yX5_isFull cX5_isFull 1 (some .boolean) := ⟨qM_X6_149, qI_X5_isFull, qS_X5_isFull, qN_X5, qC_X5_isFull⟩
theorem gV_X6_150 : ZV RX6 150 RX5 yX5_rowAt cX5_rowAt 3 (some .int) := ⟨qM_X6_150, qI_X5_rowAt, qS_X5_rowAt, qN_X5, qC_X5_rowAt⟩
theorem gV_X6_153 : ZV RX6 153 RX0 yX0_remember cX0_remember 2 none := ⟨qM_X6_153, qI_X0_remember, qS_X0_remember, qN_X0, qC_X0_remember⟩
theorem gV_X6_156 : ZV RX6 156 RX4 yX4_newGate cX4_newGate 6 (some .int) := ⟨qM_X6_156, qI_X4_newGate, qS_X4_newGate, qN_X4, qC_X4_newGate⟩
theorem gV_X6_160 : ZV RX6 160 RX4 yX4_newBay cX4_newBay 4 (some .int) := ⟨qM_X6_160, qI_X4_newBay, qS_X4_newBay, qN_X4, qC_X4_newBay⟩
theorem gV_X6_163 : ZV RX6 163 RX4 yX4_newDepot cX4_newDepot 4 (some .int) := ⟨qM_X6_163, qI_X4_newDepot, qS_X4_newDepot, qN_X4, qC_X4_newDepot⟩
theorem gV_X6_166 : ZV RX6 166 RX4 yX4_newConvoy cX4_newConvoy 1 (some .int) := ⟨qM_X6_166, qI_X4_newConvoy, qS_X4_newConvoy, qN_X4, qC_X4_newConvoy⟩
theorem gV_X6_169 : ZV RX6 169 RX4 yX4_hasRoomForVehicle cX4_hasRoomForVehicle 2 (some .boolean) := ⟨qM_X6_169, qI_X4_hasRoomForVehicle, qS_X4_hasRoomForVehicle, qN_X4, qC_X4_hasRoomForVehicle⟩
theorem gV_X6_172 : ZV RX6 172 RX4 yX4_newVehicle cX4_newVehicle 7 (some .int) := ⟨qM_X6_172, qI_X4_newVehicle, qS_X4_newVehicle, qN_X4, qC_X4_newVehicle⟩
theorem gV_X6_176 : ZV RX6 176 RX5 yX5_put cX5_put 6 none := ⟨qM_X6_176, qI_X5_put, qS_X5_put, qN_X5, qC_X5_put⟩
theorem gV_X6_179 : ZV RX6 179 RX5 yX5_raise cX5_raise 6 none := ⟨qM_X6_179, qI_X5_raise, qS_X5_raise, qN_X5, qC_X5_raise⟩
theorem gV_X6_182 : ZV RX6 182 RX4 yX4_letGoBy cX4_letGoBy 3 (some .boolean) := ⟨qM_X6_182, qI_X4_letGoBy, qS_X4_letGoBy, qN_X4, qC_X4_letGoBy⟩
theorem gV_X6_185 : ZV RX6 185 RX0 yX0_size cX0_size 1 (some .int) := ⟨qM_X6_185, qI_X0_size, qS_X0_size, qN_X0, qC_X0_size⟩
theorem gV_X6_187 : ZV RX6 187 RX0 yX0_takeBack cX0_takeBack 2 none := ⟨qM_X6_187, qI_X0_takeBack, qS_X0_takeBack, qN_X0, qC_X0_takeBack⟩
theorem gV_X6_190 : ZV RX6 190 RX4 yX4_hoursToEnd cX4_hoursToEnd 3 (some .int) := ⟨qM_X6_190, qI_X4_hoursToEnd, qS_X4_hoursToEnd, qN_X4, qC_X4_hoursToEnd⟩
theorem gV_X6_193 : ZV RX6 193 RX4 yX4_firstLeftBy cX4_firstLeftBy 3 (some .int) := ⟨qM_X6_193, qI_X4_firstLeftBy, qS_X4_firstLeftBy, qN_X4, qC_X4_firstLeftBy⟩
theorem gV_X6_196 : ZV RX6 196 RX4 yX4_allArrive cX4_allArrive 2 (some .boolean) := ⟨qM_X6_196, qI_X4_allArrive, qS_X4_allArrive, qN_X4, qC_X4_allArrive⟩
theorem gV_X6_205 : ZV RX6 205 RX4 yX4_obeys cX4_obeys 9 (some .boolean) := ⟨qM_X6_205, qI_X4_obeys, qS_X4_obeys, qN_X4, qC_X4_obeys⟩
theorem gV_X6_212 : ZV RX6 212 RX4 yX4_meetChance cX4_meetChance 5 none := ⟨qM_X6_212, qI_X4_meetChance, qS_X4_meetChance, qN_X4, qC_X4_meetChance⟩
theorem gV_X6_215 : ZV RX6 215 RX4 yX4_letHourGoBy cX4_letHourGoBy 2 none := ⟨qM_X6_215, qI_X4_letHourGoBy, qS_X4_letHourGoBy, qN_X4, qC_X4_letHourGoBy⟩
theorem gV_X6_221 : ZV RX6 221 RX3 yX3_keep cX3_keep 4 none := ⟨qM_X6_221, qI_X3_keep, qS_X3_keep, qN_X3, qC_X3_keep⟩
theorem gV_X6_225 : ZV RX6 225 RX3 yX3_holds cX3_holds 2 (some .boolean) := ⟨qM_X6_225, qI_X3_holds, qS_X3_holds, qN_X3, qC_X3_holds⟩
theorem gV_X6_228 : ZV RX6 228 RX3 yX3_giveBack cX3_giveBack 4 none := ⟨qM_X6_228, qI_X3_giveBack, qS_X3_giveBack, qN_X3, qC_X3_giveBack⟩
theorem gV_X6_231 : ZV RX6 231 RX5 yX5_has cX5_has 2 (some .boolean) := ⟨qM_X6_231, qI_X5_has, qS_X5_has, qN_X5, qC_X5_has⟩
theorem gV_X6_49 : ZV RX6 49 RX1 yX1_isFull cX1_isFull 1 (some .boolean) := ⟨qM_X6_49, qI_X1_isFull, qS_X1_isFull, qN_X1, qC_X1_isFull⟩
theorem gV_X6_57 : ZV RX6 57 RX1 yX1_addSign cX1_addSign 2 (some .int) := ⟨qM_X6_57, qI_X1_addSign, qS_X1_addSign, qN_X1, qC_X1_addSign⟩
theorem gV_X6_61 : ZV RX6 61 RX1 yX1_emptyOut cX1_emptyOut 2 (some .int) := ⟨qM_X6_61, qI_X1_emptyOut, qS_X1_emptyOut, qN_X1, qC_X1_emptyOut⟩
theorem gV_X6_65 : ZV RX6 65 RX1 yX1_readInto cX1_readInto 4 (some .int) := ⟨qM_X6_65, qI_X1_readInto, qS_X1_readInto, qN_X1, qC_X1_readInto⟩
theorem gV_X6_69 : ZV RX6 69 RX4 yX4_copyFrom cX4_copyFrom 2 none := ⟨qM_X6_69, qI_X4_copyFrom, qS_X4_copyFrom, qN_X4, qC_X4_copyFrom⟩
theorem gV_X6_73 : ZV RX6 73 RX0 yX0_forget cX0_forget 1 none := ⟨qM_X6_73, qI_X0_forget, qS_X0_forget, qN_X0, qC_X0_forget⟩
theorem gV_X6_76 : ZV RX6 76 RX3 yX3_emptyOut cX3_emptyOut 2 none := ⟨qM_X6_76, qI_X3_emptyOut, qS_X3_emptyOut, qN_X3, qC_X3_emptyOut⟩
theorem gV_X6_82 : ZV RX6 82 RX5 yX5_count cX5_count 1 (some .int) := ⟨qM_X6_82, qI_X5_count, qS_X5_count, qN_X5, qC_X5_count⟩
theorem gV_X6_87 : ZV RX6 87 RX4 yX4_length cX4_length 1 (some .int) := ⟨qM_X6_87, qI_X4_length, qS_X4_length, qN_X4, qC_X4_length⟩
theorem gV_X6_90 : ZV RX6 90 RX4 yX4_hours cX4_hours 1 (some .int) := ⟨qM_X6_90, qI_X4_hours, qS_X4_hours, qN_X4, qC_X4_hours⟩
theorem gV_X7_112 : ZV RX7 112 RX7 yX7_sheds cX7_sheds 8 (some .boolean) := ⟨qM_X7_112, qI_X7_sheds, qS_X7_sheds, qN_X7, qC_X7_sheds⟩
theorem gV_X7_127 : ZV RX7 127 RX7 yX7_goConvoy cX7_goConvoy 6 none := ⟨qM_X7_127, qI_X7_goConvoy, qS_X7_goConvoy, qN_X7, qC_X7_goConvoy⟩
theorem gV_X7_133 : ZV RX7 133 RX7 yX7_goHour cX7_goHour 3 none := ⟨qM_X7_133, qI_X7_goHour, qS_X7_goHour, qN_X7, qC_X7_goHour⟩
theorem gV_X7_146 : ZV RX7 146 RX7 yX7_refused cX7_refused 2 (some .boolean) := ⟨qM_X7_146, qI_X7_refused, qS_X7_refused, qN_X7, qC_X7_refused⟩
theorem gV_X7_159 : ZV RX7 159 RX7 yX7_accept cX7_accept 2 none := ⟨qM_X7_159, qI_X7_accept, qS_X7_accept, qN_X7, qC_X7_accept⟩
theorem gV_X7_163 : ZV RX7 163 RX7 yX7_digit cX7_digit 4 (some .int) := ⟨qM_X7_163, qI_X7_digit, qS_X7_digit, qN_X7, qC_X7_digit⟩
theorem gV_X7_166 : ZV RX7 166 RX7 yX7_two cX7_two 6 (some .int) := ⟨qM_X7_166, qI_X7_two, qS_X7_two, qN_X7, qC_X7_two⟩
theorem gV_X7_169 : ZV RX7 169 RX7 yX7_demand cX7_demand 2 none := ⟨qM_X7_169, qI_X7_demand, qS_X7_demand, qN_X7, qC_X7_demand⟩
theorem gV_X7_183 : ZV RX7 183 RX7 yX7_isNext cX7_isNext 2 (some .boolean) := ⟨qM_X7_183, qI_X7_isNext, qS_X7_isNext, qN_X7, qC_X7_isNext⟩
theorem gV_X7_190 : ZV RX7 190 RX7 yX7_readGate cX7_readGate 5 none := ⟨qM_X7_190, qI_X7_readGate, qS_X7_readGate, qN_X7, qC_X7_readGate⟩
theorem gV_X7_193 : ZV RX7 193 RX7 yX7_readBay cX7_readBay 3 none := ⟨qM_X7_193, qI_X7_readBay, qS_X7_readBay, qN_X7, qC_X7_readBay⟩
theorem gV_X7_196 : ZV RX7 196 RX7 yX7_readDepot cX7_readDepot 4 none := ⟨qM_X7_196, qI_X7_readDepot, qS_X7_readDepot, qN_X7, qC_X7_readDepot⟩
theorem gV_X7_202 : ZV RX7 202 RX7 yX7_readCar cX7_readCar 6 none := ⟨qM_X7_202, qI_X7_readCar, qS_X7_readCar, qN_X7, qC_X7_readCar⟩
theorem gV_X7_205 : ZV RX7 205 RX7 yX7_readText cX7_readText 2 (some .int) := ⟨qM_X7_205, qI_X7_readText, qS_X7_readText, qN_X7, qC_X7_readText⟩
theorem gV_X7_218 : ZV RX7 218 RX7 yX7_isConvoy cX7_isConvoy 2 (some .boolean) := ⟨qM_X7_218, qI_X7_isConvoy, qS_X7_isConvoy, qN_X7, qC_X7_isConvoy⟩
theorem gV_X7_230 : ZV RX7 230 RX7 yX7_closedFor cX7_closedFor 3 (some .int) := ⟨qM_X7_230, qI_X7_closedFor, qS_X7_closedFor, qN_X7, qC_X7_closedFor⟩
theorem gV_X7_236 : ZV RX7 236 RX7 yX7_isDepot cX7_isDepot 2 (some .boolean) := ⟨qM_X7_236, qI_X7_isDepot, qS_X7_isDepot, qN_X7, qC_X7_isDepot⟩
theorem gV_X7_243 : ZV RX7 243 RX7 yX7_remember cX7_remember 1 none := ⟨qM_X7_243, qI_X7_remember, qS_X7_remember, qN_X7, qC_X7_remember⟩
theorem gV_X7_261 : ZV RX7 261 RX7 yX7_goHours cX7_goHours 5 (some .int) := ⟨qM_X7_261, qI_X7_goHours, qS_X7_goHours, qN_X7, qC_X7_goHours⟩
theorem gV_X7_264 : ZV RX7 264 RX7 yX7_begin cX7_begin 1 none := ⟨qM_X7_264, qI_X7_begin, qS_X7_begin, qN_X7, qC_X7_begin⟩
theorem gV_X7_267 : ZV RX7 267 RX7 yX7_arrival cX7_arrival 3 (some .int) := ⟨qM_X7_267, qI_X7_arrival, qS_X7_arrival, qN_X7, qC_X7_arrival⟩
theorem gV_X7_270 : ZV RX7 270 RX7 yX7_allArrive cX7_allArrive 2 (some .boolean) := ⟨qM_X7_270, qI_X7_allArrive, qS_X7_allArrive, qN_X7, qC_X7_allArrive⟩
theorem gV_X7_280 : ZV RX7 280 RX7 yX7_does cX7_does 8 (some .boolean) := ⟨qM_X7_280, qI_X7_does, qS_X7_does, qN_X7, qC_X7_does⟩
theorem gV_X7_287 : ZV RX7 287 RX7 yX7_stir cX7_stir 4 none := ⟨qM_X7_287, qI_X7_stir, qS_X7_stir, qN_X7, qC_X7_stir⟩
abbrev zzX0_size : List Cond := wz yX0_size cX0_size 1 (some .int)
abbrev zzX3_copyAt : List Cond := wz yX3_copyAt cX3_copyAt 2 (some (.object "WinterRoad$State"))
abbrev zzX2_copyFrom : List Cond := wz yX2_copyFrom cX2_copyFrom 2 none
abbrev zzX5_copyFrom : List Cond := wz yX5_copyFrom cX5_copyFrom 2 none
abbrev zzX4_copyFrom : List Cond := wz yX4_copyFrom cX4_copyFrom 2 none
abbrev zzX3_keep : List Cond := wz yX3_keep cX3_keep 4 none
abbrev zzX0_remember : List Cond := wz yX0_remember cX0_remember 2 none
abbrev zzX3_giveBack : List Cond := wz yX3_giveBack cX3_giveBack 4 none
abbrev zzX0_takeBack : List Cond := wz yX0_takeBack cX0_takeBack 2 none
abbrev zzX0_forget : List Cond := wz yX0_forget cX0_forget 1 none
abbrev zzX1_isFull : List Cond := wz yX1_isFull cX1_isFull 1 (some .boolean)
abbrev zzX1_addSign : List Cond := wz yX1_addSign cX1_addSign 2 (some .int)
abbrev zzX1_emptyOut : List Cond := wz yX1_emptyOut cX1_emptyOut 2 (some .int)
abbrev zzX1_signAt : List Cond := wz yX1_signAt cX1_signAt 1 (some .int)
abbrev zzX6_isWithin : List Cond := wz yX6_isWithin cX6_isWithin 3 (some .boolean)
abbrev zzX1_number : List Cond := wz yX1_number cX1_number 9 (some .int)
abbrev zzX2_size : List Cond := wz yX2_size cX2_size 2 (some .int)
abbrev zzX5_has : List Cond := wz yX5_has cX5_has 2 (some .boolean)
abbrev zzX5_isFull : List Cond := wz yX5_isFull cX5_isFull 1 (some .boolean)
abbrev zzX4_hasRoomForVehicle : List Cond := wz yX4_hasRoomForVehicle cX4_hasRoomForVehicle 2 (some .boolean)
abbrev zzX5_count : List Cond := wz yX5_count cX5_count 1 (some .int)
abbrev zzX1_isAllowed : List Cond := wz yX1_isAllowed cX1_isAllowed 3 (some .boolean)
abbrev zzX5_get : List Cond := wz yX5_get cX5_get 5 (some .int)
abbrev zzX5_rowAt : List Cond := wz yX5_rowAt cX5_rowAt 3 (some .int)
abbrev zzX1_kilometer : List Cond := wz yX1_kilometer cX1_kilometer 5 (some .int)
abbrev zzX4_length : List Cond := wz yX4_length cX4_length 1 (some .int)
abbrev zzX5_put : List Cond := wz yX5_put cX5_put 6 none
abbrev zzX5_addRow : List Cond := wz yX5_addRow cX5_addRow 2 (some .int)
abbrev zzX4_newBay : List Cond := wz yX4_newBay cX4_newBay 4 (some .int)
abbrev zzX1_readBay : List Cond := wz yX1_readBay cX1_readBay 4 none
abbrev zzX4_newDepot : List Cond := wz yX4_newDepot cX4_newDepot 4 (some .int)
abbrev zzX1_readDepot : List Cond := wz yX1_readDepot cX1_readDepot 4 none
abbrev zzX4_newGate : List Cond := wz yX4_newGate cX4_newGate 6 (some .int)
abbrev zzX1_readGate : List Cond := wz yX1_readGate cX1_readGate 6 none
abbrev zzX2_put : List Cond := wz yX2_put cX2_put 6 none
abbrev zzX2_join : List Cond := wz yX2_join cX2_join 3 none
abbrev zzX4_moveTo : List Cond := wz yX4_moveTo cX4_moveTo 4 none
abbrev zzX4_newVehicle : List Cond := wz yX4_newVehicle cX4_newVehicle 7 (some .int)
abbrev zzX1_readVehicle : List Cond := wz yX1_readVehicle cX1_readVehicle 6 none
abbrev zzX4_newConvoy : List Cond := wz yX4_newConvoy cX4_newConvoy 1 (some .int)
abbrev zzX1_readPart : List Cond := wz yX1_readPart cX1_readPart 3 none
abbrev zzX2_emptyOut : List Cond := wz yX2_emptyOut cX2_emptyOut 2 none
abbrev zzX5_emptyOut : List Cond := wz yX5_emptyOut cX5_emptyOut 1 none
abbrev zzX4_begin : List Cond := wz yX4_begin cX4_begin 2 none
abbrev zzX1_readInto : List Cond := wz yX1_readInto cX1_readInto 4 (some .int)
abbrev zzX2_get : List Cond := wz yX2_get cX2_get 5 (some .int)
abbrev zzX2_remove : List Cond := wz yX2_remove cX2_remove 4 none
abbrev zzX2_emptyLine : List Cond := wz yX2_emptyLine cX2_emptyLine 2 none
abbrev zzX3_holds : List Cond := wz yX3_holds cX3_holds 2 (some .boolean)
abbrev zzX3_emptyOut : List Cond := wz yX3_emptyOut cX3_emptyOut 2 none
abbrev zzX4_hours : List Cond := wz yX4_hours cX4_hours 1 (some .int)
abbrev zzX4_isAtEnd : List Cond := wz yX4_isAtEnd cX4_isAtEnd 2 (some .boolean)
abbrev zzX4_closedFor : List Cond := wz yX4_closedFor cX4_closedFor 4 (some .int)
abbrev zzX4_slowestSpeed : List Cond := wz yX4_slowestSpeed cX4_slowestSpeed 5 (some .int)
abbrev zzX4_litersWith : List Cond := wz yX4_litersWith cX4_litersWith 4 (some .int)
abbrev zzX4_howMany : List Cond := wz yX4_howMany cX4_howMany 4 (some .int)
abbrev zzX4_hasTooLittle : List Cond := wz yX4_hasTooLittle cX4_hasTooLittle 2 (some .boolean)
abbrev zzX5_raise : List Cond := wz yX5_raise cX5_raise 6 none
abbrev zzX4_fillUp : List Cond := wz yX4_fillUp cX4_fillUp 7 none
abbrev zzX4_goOn : List Cond := wz yX4_goOn cX4_goOn 6 none
abbrev zzX4_noteLeft : List Cond := wz yX4_noteLeft cX4_noteLeft 4 none
abbrev zzX4_leaveStragglers : List Cond := wz yX4_leaveStragglers cX4_leaveStragglers 8 none
abbrev zzX4_comesAhead : List Cond := wz yX4_comesAhead cX4_comesAhead 5 (some .boolean)
abbrev zzX4_putInOrder : List Cond := wz yX4_putInOrder cX4_putInOrder 5 none
abbrev zzX4_giveFuel : List Cond := wz yX4_giveFuel cX4_giveFuel 6 none
abbrev zzX4_richest : List Cond := wz yX4_richest cX4_richest 5 (some .int)
abbrev zzX4_rescues : List Cond := wz yX4_rescues cX4_rescues 8 (some .boolean)
abbrev zzX4_stands : List Cond := wz yX4_stands cX4_stands 4 (some .boolean)
abbrev zzX4_waitsAtGate : List Cond := wz yX4_waitsAtGate cX4_waitsAtGate 3 (some .boolean)
abbrev zzX4_drive : List Cond := wz yX4_drive cX4_drive 4 none
abbrev zzX4_letHourGoBy : List Cond := wz yX4_letHourGoBy cX4_letHourGoBy 2 none
abbrev zzX4_letGoBy : List Cond := wz yX4_letGoBy cX4_letGoBy 3 (some .boolean)
abbrev zzX4_hoursToEnd : List Cond := wz yX4_hoursToEnd cX4_hoursToEnd 3 (some .int)
abbrev zzX4_firstLeftBy : List Cond := wz yX4_firstLeftBy cX4_firstLeftBy 3 (some .int)
abbrev zzX4_allArrive : List Cond := wz yX4_allArrive cX4_allArrive 2 (some .boolean)
abbrev zzX4_obeysHold : List Cond := wz yX4_obeysHold cX4_obeysHold 3 (some .boolean)
abbrev zzX4_obeysSupply : List Cond := wz yX4_obeysSupply cX4_obeysSupply 3 (some .boolean)
abbrev zzX4_obeys : List Cond := wz yX4_obeys cX4_obeys 9 (some .boolean)
abbrev zzX4_meetChance : List Cond := wz yX4_meetChance cX4_meetChance 5 none
abbrev zzX5_sum : List Cond := wz yX5_sum cX5_sum 4 (some .int)
abbrev zzX7_thrown : List Cond := wz yX7_thrown cX7_thrown 1 (some .int)
abbrev zzX7_refused : List Cond := wz yX7_refused cX7_refused 2 (some .boolean)
abbrev zzX7_in : List Cond := wz yX7_in cX7_in 6 (some .boolean)
abbrev zzX7_copy : List Cond := wz yX7_copy cX7_copy 6 none
abbrev zzX7_tenTo : List Cond := wz yX7_tenTo cX7_tenTo 4 (some .long)
abbrev zzX7_remember : List Cond := wz yX7_remember cX7_remember 1 none
abbrev zzX7_begin : List Cond := wz yX7_begin cX7_begin 1 none
abbrev zzX7_gateAt : List Cond := wz yX7_gateAt cX7_gateAt 2 (some .int)
abbrev zzX7_bayAt : List Cond := wz yX7_bayAt cX7_bayAt 2 (some .int)
abbrev zzX7_depotAt : List Cond := wz yX7_depotAt cX7_depotAt 2 (some .int)
abbrev zzX7_convoyAt : List Cond := wz yX7_convoyAt cX7_convoyAt 2 (some .int)
abbrev zzX7_carAt : List Cond := wz yX7_carAt cX7_carAt 2 (some .int)
abbrev zzX7_who : List Cond := wz yX7_who cX7_who 3 (some .int)
abbrev zzX7_sizeOf : List Cond := wz yX7_sizeOf cX7_sizeOf 2 (some .int)
abbrev zzX7_isClosed : List Cond := wz yX7_isClosed cX7_isClosed 2 (some .boolean)
abbrev zzX7_bayOn : List Cond := wz yX7_bayOn cX7_bayOn 4 (some .int)
abbrev zzX7_depotOn : List Cond := wz yX7_depotOn cX7_depotOn 4 (some .int)
abbrev zzX7_gateOn : List Cond := wz yX7_gateOn cX7_gateOn 4 (some .int)
abbrev zzX7_slowest : List Cond := wz yX7_slowest cX7_slowest 5 (some .int)
abbrev zzX7_isThere : List Cond := wz yX7_isThere cX7_isThere 2 (some .boolean)
abbrev zzX7_fill : List Cond := wz yX7_fill cX7_fill 7 none
abbrev zzX7_isShort : List Cond := wz yX7_isShort cX7_isShort 2 (some .boolean)
abbrev zzX7_drop : List Cond := wz yX7_drop cX7_drop 5 none
abbrev zzX7_sheds : List Cond := wz yX7_sheds cX7_sheds 8 (some .boolean)
abbrev zzX7_burn : List Cond := wz yX7_burn cX7_burn 4 none
abbrev zzX7_arrive : List Cond := wz yX7_arrive cX7_arrive 3 none
abbrev zzX7_helps : List Cond := wz yX7_helps cX7_helps 7 (some .boolean)
abbrev zzX7_isBefore : List Cond := wz yX7_isBefore cX7_isBefore 4 (some .boolean)
abbrev zzX7_order : List Cond := wz yX7_order cX7_order 6 none
abbrev zzX7_rescue : List Cond := wz yX7_rescue cX7_rescue 5 none
abbrev zzX7_goConvoy : List Cond := wz yX7_goConvoy cX7_goConvoy 6 none
abbrev zzX7_goHour : List Cond := wz yX7_goHour cX7_goHour 3 none
abbrev zzX7_countAt : List Cond := wz yX7_countAt cX7_countAt 4 (some .int)
abbrev zzX7_goHours : List Cond := wz yX7_goHours cX7_goHours 5 (some .int)
abbrev zzX7_addGateTo : List Cond := wz yX7_addGateTo cX7_addGateTo 6 none
abbrev zzX7_addBayTo : List Cond := wz yX7_addBayTo cX7_addBayTo 4 none
abbrev zzX7_addDepotTo : List Cond := wz yX7_addDepotTo cX7_addDepotTo 4 none
abbrev zzX7_addConvoyTo : List Cond := wz yX7_addConvoyTo cX7_addConvoyTo 2 none
abbrev zzX7_addCarTo : List Cond := wz yX7_addCarTo cX7_addCarTo 7 none
abbrev zzX7_append : List Cond := wz yX7_append cX7_append 2 (some .int)
abbrev zzX7_clearText : List Cond := wz yX7_clearText cX7_clearText 2 (some .int)
abbrev zzX7_isNext : List Cond := wz yX7_isNext cX7_isNext 2 (some .boolean)
abbrev zzX7_accept : List Cond := wz yX7_accept cX7_accept 2 none
abbrev zzX7_digit : List Cond := wz yX7_digit cX7_digit 4 (some .int)
abbrev zzX7_two : List Cond := wz yX7_two cX7_two 6 (some .int)
abbrev zzX7_demand : List Cond := wz yX7_demand cX7_demand 2 none
abbrev zzX7_readGate : List Cond := wz yX7_readGate cX7_readGate 5 none
abbrev zzX7_readBay : List Cond := wz yX7_readBay cX7_readBay 3 none
abbrev zzX7_readDepot : List Cond := wz yX7_readDepot cX7_readDepot 4 none
abbrev zzX7_readCar : List Cond := wz yX7_readCar cX7_readCar 6 none
abbrev zzX7_readText : List Cond := wz yX7_readText cX7_readText 2 (some .int)
abbrev zzX7_errorPosition : List Cond := wz yX7_errorPosition cX7_errorPosition 1 (some .int)
abbrev zzX7_load : List Cond := wz yX7_load cX7_load 1 (some .int)
abbrev zzX7_tanks : List Cond := wz yX7_tanks cX7_tanks 3 (some .int)
abbrev zzX7_depots : List Cond := wz yX7_depots cX7_depots 3 (some .int)
abbrev zzX7_about : List Cond := wz yX7_about cX7_about 2 (some .int)
abbrev zzX7_isConvoy : List Cond := wz yX7_isConvoy cX7_isConvoy 2 (some .boolean)
abbrev zzX7_litersOf : List Cond := wz yX7_litersOf cX7_litersOf 4 (some .int)
abbrev zzX7_convoy : List Cond := wz yX7_convoy cX7_convoy 3 (some .int)
abbrev zzX7_member : List Cond := wz yX7_member cX7_member 3 (some .int)
abbrev zzX7_vehicle : List Cond := wz yX7_vehicle cX7_vehicle 3 (some .int)
abbrev zzX7_closedFor : List Cond := wz yX7_closedFor cX7_closedFor 3 (some .int)
abbrev zzX7_gate : List Cond := wz yX7_gate cX7_gate 3 (some .int)
abbrev zzX7_bay : List Cond := wz yX7_bay cX7_bay 3 (some .int)
abbrev zzX7_isDepot : List Cond := wz yX7_isDepot cX7_isDepot 2 (some .boolean)
abbrev zzX7_depot : List Cond := wz yX7_depot cX7_depot 3 (some .int)
abbrev zzX7_addGate : List Cond := wz yX7_addGate cX7_addGate 6 (some .int)
abbrev zzX7_addBay : List Cond := wz yX7_addBay cX7_addBay 4 (some .int)
abbrev zzX7_addDepot : List Cond := wz yX7_addDepot cX7_addDepot 4 (some .int)
abbrev zzX7_addConvoy : List Cond := wz yX7_addConvoy cX7_addConvoy 1 (some .int)
abbrev zzX7_addVehicle : List Cond := wz yX7_addVehicle cX7_addVehicle 7 (some .int)
abbrev zzX7_isHold : List Cond := wz yX7_isHold cX7_isHold 1 (some .boolean)
abbrev zzX7_hold : List Cond := wz yX7_hold cX7_hold 4 (some .int)
abbrev zzX7_supply : List Cond := wz yX7_supply cX7_supply 3 (some .int)
abbrev zzX7_pass : List Cond := wz yX7_pass cX7_pass 2 (some .int)
abbrev zzX7_undo : List Cond := wz yX7_undo cX7_undo 1 (some .int)
abbrev zzX7_arrival : List Cond := wz yX7_arrival cX7_arrival 3 (some .int)
abbrev zzX7_arrives : List Cond := wz yX7_arrives cX7_arrives 2 (some .int)
abbrev zzX7_leaves : List Cond := wz yX7_leaves cX7_leaves 3 (some .int)
abbrev zzX7_bestHold : List Cond := wz yX7_bestHold cX7_bestHold 6 (some .int)
abbrev zzX7_allArrive : List Cond := wz yX7_allArrive cX7_allArrive 2 (some .boolean)
abbrev zzX7_lacks : List Cond := wz yX7_lacks cX7_lacks 3 (some .int)
abbrev zzX7_does : List Cond := wz yX7_does cX7_does 8 (some .boolean)
abbrev zzX7_runScript : List Cond := wz yX7_runScript cX7_runScript 6 (some .int)
abbrev zzX7_stir : List Cond := wz yX7_stir cX7_stir 4 none
abbrev zzX7_simulate : List Cond := wz yX7_simulate cX7_simulate 7 (some .int)
abbrev zzX7_save : List Cond := wz yX7_save cX7_save 2 (some .int)
abbrev zzX7_restore : List Cond := wz yX7_restore cX7_restore 2 (some .int)
abbrev zzX6_groupOf : List Cond := wz yX6_groupOf cX6_groupOf 6 (some .int)
abbrev zzX6_refuseArgumentIf : List Cond := wz yX6_refuseArgumentIf cX6_refuseArgumentIf 1 none
abbrev zzX6_checkRange : List Cond := wz yX6_checkRange cX6_checkRange 3 none
abbrev zzX6_refuseIf : List Cond := wz yX6_refuseIf cX6_refuseIf 1 none
abbrev zzX6_append : List Cond := wz yX6_append cX6_append 2 (some .int)
abbrev zzX6_clearText : List Cond := wz yX6_clearText cX6_clearText 1 (some .int)
abbrev zzX6_errorPosition : List Cond := wz yX6_errorPosition cX6_errorPosition 1 (some .int)
abbrev zzX6_load : List Cond := wz yX6_load cX6_load 1 (some .int)
abbrev zzX6_about : List Cond := wz yX6_about cX6_about 2 (some .int)
abbrev zzX6_checkExists : List Cond := wz yX6_checkExists cX6_checkExists 2 none
abbrev zzX6_convoy : List Cond := wz yX6_convoy cX6_convoy 3 (some .int)
abbrev zzX6_member : List Cond := wz yX6_member cX6_member 3 (some .int)
abbrev zzX6_vehicle : List Cond := wz yX6_vehicle cX6_vehicle 3 (some .int)
abbrev zzX6_gate : List Cond := wz yX6_gate cX6_gate 3 (some .int)
abbrev zzX6_bay : List Cond := wz yX6_bay cX6_bay 3 (some .int)
abbrev zzX6_depot : List Cond := wz yX6_depot cX6_depot 3 (some .int)
abbrev zzX6_addGate : List Cond := wz yX6_addGate cX6_addGate 5 (some .int)
abbrev zzX6_addBay : List Cond := wz yX6_addBay cX6_addBay 3 (some .int)
abbrev zzX6_addDepot : List Cond := wz yX6_addDepot cX6_addDepot 3 (some .int)
abbrev zzX6_addConvoy : List Cond := wz yX6_addConvoy cX6_addConvoy 1 (some .int)
abbrev zzX6_addVehicle : List Cond := wz yX6_addVehicle cX6_addVehicle 6 (some .int)
abbrev zzX6_hold : List Cond := wz yX6_hold cX6_hold 4 (some .int)
abbrev zzX6_supply : List Cond := wz yX6_supply cX6_supply 3 (some .int)
abbrev zzX6_pass : List Cond := wz yX6_pass cX6_pass 3 (some .int)
abbrev zzX6_undo : List Cond := wz yX6_undo cX6_undo 1 (some .int)
abbrev zzX6_arrives : List Cond := wz yX6_arrives cX6_arrives 2 (some .int)
abbrev zzX6_leaves : List Cond := wz yX6_leaves cX6_leaves 2 (some .int)
abbrev zzX6_bestHold : List Cond := wz yX6_bestHold cX6_bestHold 6 (some .int)
abbrev zzX6_lacks : List Cond := wz yX6_lacks cX6_lacks 3 (some .int)
abbrev zzX6_runScript : List Cond := wz yX6_runScript cX6_runScript 7 (some .int)
abbrev zzX6_simulate : List Cond := wz yX6_simulate cX6_simulate 9 (some .int)
abbrev zzX6_checkSlot : List Cond := wz yX6_checkSlot cX6_checkSlot 1 none
abbrev zzX6_save : List Cond := wz yX6_save cX6_save 2 (some .int)
abbrev zzX6_restore : List Cond := wz yX6_restore cX6_restore 2 (some .int)
theorem ex238_g : ∀ w ∈ (vx_atS RX6 238 "java/lang/IndexOutOfBoundsException" ["java/lang/RuntimeException", "java/lang/Exception"]).filter goodWord, w ∈ zT := fun w h => zT_in (of_decide_eq_true (List.all_eq_true.mp (by decide +kernel : (((vx_atS RX6 238 "java/lang/IndexOutOfBoundsException" ["java/lang/RuntimeException", "java/lang/Exception"]).filter goodWord).all (fun w => decide (w ∈ lw_tbl))) = true) w h)) (List.mem_filter.mp h).2
theorem ex251_g : ∀ w ∈ (vx_atS RX6 251 "java/lang/IllegalArgumentException" ["java/lang/RuntimeException", "java/lang/Exception"]).filter goodWord, w ∈ zT := fun w h => zT_in (of_decide_eq_true (List.all_eq_true.mp (by decide +kernel : (((vx_atS RX6 251 "java/lang/IllegalArgumentException" ["java/lang/RuntimeException", "java/lang/Exception"]).filter goodWord).all (fun w => decide (w ∈ lw_tbl))) = true) w h)) (List.mem_filter.mp h).2
theorem ex256_g : ∀ w ∈ (vx_atS RX6 256 "java/lang/IllegalStateException" ["java/lang/RuntimeException", "java/lang/Exception"]).filter goodWord, w ∈ zT := fun w h => zT_in (of_decide_eq_true (List.all_eq_true.mp (by decide +kernel : (((vx_atS RX6 256 "java/lang/IllegalStateException" ["java/lang/RuntimeException", "java/lang/Exception"]).filter goodWord).all (fun w => decide (w ∈ lw_tbl))) = true) w h)) (List.mem_filter.mp h).2
