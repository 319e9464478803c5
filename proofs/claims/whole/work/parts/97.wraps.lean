/-! ===== words of the law; its methods that catch ===== -/
theorem qC_L_about : Cond.codeWith yL_about cL_about 4 (some .int) [(0, 9, 12, 13)] ∈ zT := zT_in (qin_3 (List.mem_of_getElem? (i := 2) (by decide +kernel))) rfl
theorem qC_L_addBay : Cond.codeWith yL_addBay cL_addBay 5 (some .int) [(0, 10, 13, 13), (0, 10, 17, 15)] ∈ zT := zT_in (qin_3 (List.mem_of_getElem? (i := 136) (by decide +kernel))) rfl
theorem qC_L_addConvoy : Cond.codeWith yL_addConvoy cL_addConvoy 3 (some .int) [(0, 8, 11, 15)] ∈ zT := zT_in (qin_3 (List.mem_of_getElem? (i := 152) (by decide +kernel))) rfl
theorem qC_L_addDepot : Cond.codeWith yL_addDepot cL_addDepot 5 (some .int) [(0, 10, 13, 13), (0, 10, 17, 15)] ∈ zT := zT_in (qin_3 (List.mem_of_getElem? (i := 144) (by decide +kernel))) rfl
theorem qC_L_addGate : Cond.codeWith yL_addGate cL_addGate 7 (some .int) [(0, 14, 17, 13), (0, 14, 21, 15)] ∈ zT := zT_in (qin_3 (List.mem_of_getElem? (i := 112) (by decide +kernel))) rfl
theorem qC_L_addVehicle : Cond.codeWith yL_addVehicle cL_addVehicle 8 (some .int) [(0, 16, 19, 28), (0, 16, 23, 13), (0, 16, 27, 15)] ∈ zT := zT_in (qin_3 (List.mem_of_getElem? (i := 160) (by decide +kernel))) rfl
theorem qC_L_append : Cond.codeWith yL_append cL_append 4 (some .int) [(0, 9, 12, 13), (0, 9, 15, 15)] ∈ zT := zT_in (qin_2 (List.mem_of_getElem? (i := 95) (by decide +kernel))) rfl
theorem qC_L_arrives : Cond.codeWith yL_arrives cL_arrives 4 (some .int) [(0, 9, 12, 28)] ∈ zT := zT_in (qin_4 (List.mem_of_getElem? (i := 50) (by decide +kernel))) rfl
theorem qC_L_bay : Cond.codeWith yL_bay cL_bay 5 (some .int) [(0, 10, 13, 28), (0, 10, 17, 13)] ∈ zT := zT_in (qin_3 (List.mem_of_getElem? (i := 98) (by decide +kernel))) rfl
theorem qC_L_bestHold : Cond.codeWith yL_bestHold cL_bestHold 4 (some .int) [(0, 9, 12, 28)] ∈ zT := zT_in (qin_4 (List.mem_of_getElem? (i := 72) (by decide +kernel))) rfl
theorem qC_L_convoy : Cond.codeWith yL_convoy cL_convoy 5 (some .int) [(0, 10, 13, 28), (0, 10, 17, 13)] ∈ zT := zT_in (qin_3 (List.mem_of_getElem? (i := 24) (by decide +kernel))) rfl
theorem qC_L_depot : Cond.codeWith yL_depot cL_depot 5 (some .int) [(0, 10, 13, 28), (0, 10, 17, 13)] ∈ zT := zT_in (qin_3 (List.mem_of_getElem? (i := 105) (by decide +kernel))) rfl
theorem qC_L_gate : Cond.codeWith yL_gate cL_gate 5 (some .int) [(0, 10, 13, 28), (0, 10, 17, 13)] ∈ zT := zT_in (qin_3 (List.mem_of_getElem? (i := 86) (by decide +kernel))) rfl
theorem qC_L_hold : Cond.codeWith yL_hold cL_hold 5 (some .int) [(0, 10, 13, 28), (0, 10, 17, 13)] ∈ zT := zT_in (qin_3 (List.mem_of_getElem? (i := 169) (by decide +kernel))) rfl
theorem qC_L_lacks : Cond.codeWith yL_lacks cL_lacks 4 (some .int) [(0, 9, 12, 28)] ∈ zT := zT_in (qin_4 (List.mem_of_getElem? (i := 79) (by decide +kernel))) rfl
theorem qC_L_leaves : Cond.codeWith yL_leaves cL_leaves 4 (some .int) [(0, 9, 12, 28)] ∈ zT := zT_in (qin_4 (List.mem_of_getElem? (i := 61) (by decide +kernel))) rfl
theorem qC_L_load : Cond.codeWith yL_load cL_load 3 (some .int) [(0, 8, 11, 15)] ∈ zT := zT_in (qin_2 (List.mem_of_getElem? (i := 206) (by decide +kernel))) rfl
theorem qC_L_member : Cond.codeWith yL_member cL_member 5 (some .int) [(0, 10, 13, 28), (0, 10, 17, 13)] ∈ zT := zT_in (qin_3 (List.mem_of_getElem? (i := 71) (by decide +kernel))) rfl
theorem qC_L_pass : Cond.codeWith yL_pass cL_pass 4 (some .int) [(0, 9, 12, 13)] ∈ zT := zT_in (qin_3 (List.mem_of_getElem? (i := 188) (by decide +kernel))) rfl
theorem qC_L_restore : Cond.codeWith yL_restore cL_restore 4 (some .int) [(0, 9, 12, 28), (0, 9, 15, 15)] ∈ zT := zT_in (qin_4 (List.mem_of_getElem? (i := 141) (by decide +kernel))) rfl
theorem qC_L_runScript : Cond.codeWith yL_runScript cL_runScript 6 (some .int) [(0, 11, 14, 13)] ∈ zT := zT_in (qin_4 (List.mem_of_getElem? (i := 91) (by decide +kernel))) rfl
theorem qC_L_save : Cond.codeWith yL_save cL_save 4 (some .int) [(0, 9, 12, 28)] ∈ zT := zT_in (qin_4 (List.mem_of_getElem? (i := 129) (by decide +kernel))) rfl
theorem qC_L_simulate : Cond.codeWith yL_simulate cL_simulate 6 (some .int) [(0, 11, 14, 13)] ∈ zT := zT_in (qin_4 (List.mem_of_getElem? (i := 115) (by decide +kernel))) rfl
theorem qC_L_supply : Cond.codeWith yL_supply cL_supply 5 (some .int) [(0, 10, 13, 28), (0, 10, 17, 13), (0, 10, 21, 15)] ∈ zT := zT_in (qin_3 (List.mem_of_getElem? (i := 177) (by decide +kernel))) rfl
theorem qC_L_undo : Cond.codeWith yL_undo cL_undo 3 (some .int) [(0, 8, 11, 15)] ∈ zT := zT_in (qin_4 (List.mem_of_getElem? (i := 31) (by decide +kernel))) rfl
theorem qC_L_vehicle : Cond.codeWith yL_vehicle cL_vehicle 5 (some .int) [(0, 10, 13, 28), (0, 10, 17, 13)] ∈ zT := zT_in (qin_3 (List.mem_of_getElem? (i := 79) (by decide +kernel))) rfl
theorem qC_X6_about : Cond.code yX6_about cX6_about 2 (some .int) ∈ zT := zT_in (qin_3 (List.mem_of_getElem? (i := 6) (by decide +kernel))) rfl
theorem qC_X6_addBay : Cond.code yX6_addBay cX6_addBay 3 (some .int) ∈ zT := zT_in (qin_3 (List.mem_of_getElem? (i := 140) (by decide +kernel))) rfl
theorem qC_X6_addConvoy : Cond.code yX6_addConvoy cX6_addConvoy 1 (some .int) ∈ zT := zT_in (qin_3 (List.mem_of_getElem? (i := 156) (by decide +kernel))) rfl
theorem qC_X6_addDepot : Cond.code yX6_addDepot cX6_addDepot 3 (some .int) ∈ zT := zT_in (qin_3 (List.mem_of_getElem? (i := 148) (by decide +kernel))) rfl
theorem qC_X6_addGate : Cond.code yX6_addGate cX6_addGate 5 (some .int) ∈ zT := zT_in (qin_3 (List.mem_of_getElem? (i := 116) (by decide +kernel))) rfl
theorem qC_X6_addVehicle : Cond.code yX6_addVehicle cX6_addVehicle 6 (some .int) ∈ zT := zT_in (qin_3 (List.mem_of_getElem? (i := 164) (by decide +kernel))) rfl
theorem qC_X6_append : Cond.code yX6_append cX6_append 2 (some .int) ∈ zT := zT_in (qin_2 (List.mem_of_getElem? (i := 101) (by decide +kernel))) rfl
theorem qC_X6_arrives : Cond.code yX6_arrives cX6_arrives 2 (some .int) ∈ zT := zT_in (qin_4 (List.mem_of_getElem? (i := 54) (by decide +kernel))) rfl
theorem qC_X6_bay : Cond.code yX6_bay cX6_bay 3 (some .int) ∈ zT := zT_in (qin_3 (List.mem_of_getElem? (i := 102) (by decide +kernel))) rfl
theorem qC_X6_bestHold : Cond.code yX6_bestHold cX6_bestHold 6 (some .int) ∈ zT := zT_in (qin_4 (List.mem_of_getElem? (i := 76) (by decide +kernel))) rfl
theorem qC_X6_convoy : Cond.code yX6_convoy cX6_convoy 3 (some .int) ∈ zT := zT_in (qin_3 (List.mem_of_getElem? (i := 29) (by decide +kernel))) rfl
theorem qC_X6_depot : Cond.code yX6_depot cX6_depot 3 (some .int) ∈ zT := zT_in (qin_3 (List.mem_of_getElem? (i := 109) (by decide +kernel))) rfl
theorem qC_X6_gate : Cond.code yX6_gate cX6_gate 3 (some .int) ∈ zT := zT_in (qin_3 (List.mem_of_getElem? (i := 90) (by decide +kernel))) rfl
theorem qC_X6_hold : Cond.code yX6_hold cX6_hold 4 (some .int) ∈ zT := zT_in (qin_3 (List.mem_of_getElem? (i := 173) (by decide +kernel))) rfl
theorem qC_X6_lacks : Cond.code yX6_lacks cX6_lacks 3 (some .int) ∈ zT := zT_in (qin_4 (List.mem_of_getElem? (i := 83) (by decide +kernel))) rfl
theorem qC_X6_leaves : Cond.code yX6_leaves cX6_leaves 2 (some .int) ∈ zT := zT_in (qin_4 (List.mem_of_getElem? (i := 65) (by decide +kernel))) rfl
theorem qC_X6_load : Cond.code yX6_load cX6_load 1 (some .int) ∈ zT := zT_in (qin_2 (List.mem_of_getElem? (i := 210) (by decide +kernel))) rfl
theorem qC_X6_member : Cond.code yX6_member cX6_member 3 (some .int) ∈ zT := zT_in (qin_3 (List.mem_of_getElem? (i := 75) (by decide +kernel))) rfl
theorem qC_X6_pass : Cond.code yX6_pass cX6_pass 3 (some .int) ∈ zT := zT_in (qin_3 (List.mem_of_getElem? (i := 192) (by decide +kernel))) rfl
theorem qC_X6_restore : Cond.code yX6_restore cX6_restore 2 (some .int) ∈ zT := zT_in (qin_4 (List.mem_of_getElem? (i := 145) (by decide +kernel))) rfl
theorem qC_X6_runScript : Cond.code yX6_runScript cX6_runScript 7 (some .int) ∈ zT := zT_in (qin_4 (List.mem_of_getElem? (i := 95) (by decide +kernel))) rfl
theorem qC_X6_save : Cond.code yX6_save cX6_save 2 (some .int) ∈ zT := zT_in (qin_4 (List.mem_of_getElem? (i := 133) (by decide +kernel))) rfl
theorem qC_X6_simulate : Cond.code yX6_simulate cX6_simulate 9 (some .int) ∈ zT := zT_in (qin_4 (List.mem_of_getElem? (i := 119) (by decide +kernel))) rfl
theorem qC_X6_supply : Cond.code yX6_supply cX6_supply 3 (some .int) ∈ zT := zT_in (qin_3 (List.mem_of_getElem? (i := 181) (by decide +kernel))) rfl
theorem qC_X6_undo : Cond.code yX6_undo cX6_undo 1 (some .int) ∈ zT := zT_in (qin_4 (List.mem_of_getElem? (i := 35) (by decide +kernel))) rfl
theorem qC_X6_vehicle : Cond.code yX6_vehicle cX6_vehicle 3 (some .int) ∈ zT := zT_in (qin_3 (List.mem_of_getElem? (i := 83) (by decide +kernel))) rfl
theorem qI_X6_about : Cond.instanceMethod yX6_about ∈ zT := zT_in (qin_3 (List.mem_of_getElem? (i := 4) (by decide +kernel))) rfl
theorem qI_X6_addBay : Cond.instanceMethod yX6_addBay ∈ zT := zT_in (qin_3 (List.mem_of_getElem? (i := 138) (by decide +kernel))) rfl
theorem qI_X6_addConvoy : Cond.instanceMethod yX6_addConvoy ∈ zT := zT_in (qin_3 (List.mem_of_getElem? (i := 154) (by decide +kernel))) rfl
theorem qI_X6_addDepot : Cond.instanceMethod yX6_addDepot ∈ zT := zT_in (qin_3 (List.mem_of_getElem? (i := 146) (by decide +kernel))) rfl
theorem qI_X6_addGate : Cond.instanceMethod yX6_addGate ∈ zT := zT_in (qin_3 (List.mem_of_getElem? (i := 114) (by decide +kernel))) rfl
theorem qI_X6_addVehicle : Cond.instanceMethod yX6_addVehicle ∈ zT := zT_in (qin_3 (List.mem_of_getElem? (i := 162) (by decide +kernel))) rfl
theorem qI_X6_append : Cond.instanceMethod yX6_append ∈ zT := zT_in (qin_2 (List.mem_of_getElem? (i := 99) (by decide +kernel))) rfl
theorem qI_X6_arrives : Cond.instanceMethod yX6_arrives ∈ zT := zT_in (qin_4 (List.mem_of_getElem? (i := 52) (by decide +kernel))) rfl
theorem qI_X6_bay : Cond.instanceMethod yX6_bay ∈ zT := zT_in (qin_3 (List.mem_of_getElem? (i := 100) (by decide +kernel))) rfl
theorem qI_X6_bestHold : Cond.instanceMethod yX6_bestHold ∈ zT := zT_in (qin_4 (List.mem_of_getElem? (i := 74) (by decide +kernel))) rfl
theorem qI_X6_convoy : Cond.instanceMethod yX6_convoy ∈ zT := zT_in (qin_3 (List.mem_of_getElem? (i := 27) (by decide +kernel))) rfl
theorem qI_X6_depot : Cond.instanceMethod yX6_depot ∈ zT := zT_in (qin_3 (List.mem_of_getElem? (i := 107) (by decide +kernel))) rfl
theorem qI_X6_gate : Cond.instanceMethod yX6_gate ∈ zT := zT_in (qin_3 (List.mem_of_getElem? (i := 88) (by decide +kernel))) rfl
theorem qI_X6_hold : Cond.instanceMethod yX6_hold ∈ zT := zT_in (qin_3 (List.mem_of_getElem? (i := 171) (by decide +kernel))) rfl
theorem qI_X6_lacks : Cond.instanceMethod yX6_lacks ∈ zT := zT_in (qin_4 (List.mem_of_getElem? (i := 81) (by decide +kernel))) rfl
theorem qI_X6_leaves : Cond.instanceMethod yX6_leaves ∈ zT := zT_in (qin_4 (List.mem_of_getElem? (i := 63) (by decide +kernel))) rfl
theorem qI_X6_load : Cond.instanceMethod yX6_load ∈ zT := zT_in (qin_2 (List.mem_of_getElem? (i := 208) (by decide +kernel))) rfl
theorem qI_X6_member : Cond.instanceMethod yX6_member ∈ zT := zT_in (qin_3 (List.mem_of_getElem? (i := 73) (by decide +kernel))) rfl
theorem qI_X6_pass : Cond.instanceMethod yX6_pass ∈ zT := zT_in (qin_3 (List.mem_of_getElem? (i := 190) (by decide +kernel))) rfl
theorem qI_X6_restore : Cond.instanceMethod yX6_restore ∈ zT := zT_in (qin_4 (List.mem_of_getElem? (i := 143) (by decide +kernel))) rfl
theorem qI_X6_runScript : Cond.instanceMethod yX6_runScript ∈ zT := zT_in (qin_4 (List.mem_of_getElem? (i := 93) (by decide +kernel))) rfl
theorem qI_X6_save : Cond.instanceMethod yX6_save ∈ zT := zT_in (qin_4 (List.mem_of_getElem? (i := 131) (by decide +kernel))) rfl
theorem qI_X6_simulate : Cond.instanceMethod yX6_simulate ∈ zT := zT_in (qin_4 (List.mem_of_getElem? (i := 117) (by decide +kernel))) rfl
theorem qI_X6_supply : Cond.instanceMethod yX6_supply ∈ zT := zT_in (qin_3 (List.mem_of_getElem? (i := 179) (by decide +kernel))) rfl
theorem qI_X6_undo : Cond.instanceMethod yX6_undo ∈ zT := zT_in (qin_4 (List.mem_of_getElem? (i := 33) (by decide +kernel))) rfl
theorem qI_X6_vehicle : Cond.instanceMethod yX6_vehicle ∈ zT := zT_in (qin_3 (List.mem_of_getElem? (i := 81) (by decide +kernel))) rfl
theorem qL_L_13 : Cond.classLink RL 13 "java/lang/IllegalArgumentException" ∈ zT := zT_in (qin_2 (List.mem_of_getElem? (i := 96) (by decide +kernel))) rfl
theorem qL_L_15 : Cond.classLink RL 15 "java/lang/IllegalStateException" ∈ zT := zT_in (qin_2 (List.mem_of_getElem? (i := 97) (by decide +kernel))) rfl
theorem qL_L_28 : Cond.classLink RL 28 "java/lang/IndexOutOfBoundsException" ∈ zT := zT_in (qin_3 (List.mem_of_getElem? (i := 25) (by decide +kernel))) rfl
theorem qM_L_17 : Cond.methodLink RL 17 yX6_load ∈ zT := zT_in (qin_2 (List.mem_of_getElem? (i := 207) (by decide +kernel))) rfl
theorem qM_L_21 : Cond.methodLink RL 21 yX6_about ∈ zT := zT_in (qin_3 (List.mem_of_getElem? (i := 3) (by decide +kernel))) rfl
theorem qM_L_24 : Cond.methodLink RL 24 yX6_convoy ∈ zT := zT_in (qin_3 (List.mem_of_getElem? (i := 26) (by decide +kernel))) rfl
theorem qM_L_30 : Cond.methodLink RL 30 yX6_member ∈ zT := zT_in (qin_3 (List.mem_of_getElem? (i := 72) (by decide +kernel))) rfl
theorem qM_L_33 : Cond.methodLink RL 33 yX6_vehicle ∈ zT := zT_in (qin_3 (List.mem_of_getElem? (i := 80) (by decide +kernel))) rfl
theorem qM_L_36 : Cond.methodLink RL 36 yX6_gate ∈ zT := zT_in (qin_3 (List.mem_of_getElem? (i := 87) (by decide +kernel))) rfl
theorem qM_L_39 : Cond.methodLink RL 39 yX6_bay ∈ zT := zT_in (qin_3 (List.mem_of_getElem? (i := 99) (by decide +kernel))) rfl
theorem qM_L_42 : Cond.methodLink RL 42 yX6_depot ∈ zT := zT_in (qin_3 (List.mem_of_getElem? (i := 106) (by decide +kernel))) rfl
theorem qM_L_45 : Cond.methodLink RL 45 yX6_addGate ∈ zT := zT_in (qin_3 (List.mem_of_getElem? (i := 113) (by decide +kernel))) rfl
theorem qM_L_49 : Cond.methodLink RL 49 yX6_addBay ∈ zT := zT_in (qin_3 (List.mem_of_getElem? (i := 137) (by decide +kernel))) rfl
theorem qM_L_52 : Cond.methodLink RL 52 yX6_addDepot ∈ zT := zT_in (qin_3 (List.mem_of_getElem? (i := 145) (by decide +kernel))) rfl
theorem qM_L_55 : Cond.methodLink RL 55 yX6_addConvoy ∈ zT := zT_in (qin_3 (List.mem_of_getElem? (i := 153) (by decide +kernel))) rfl
theorem qM_L_58 : Cond.methodLink RL 58 yX6_addVehicle ∈ zT := zT_in (qin_3 (List.mem_of_getElem? (i := 161) (by decide +kernel))) rfl
theorem qM_L_62 : Cond.methodLink RL 62 yX6_hold ∈ zT := zT_in (qin_3 (List.mem_of_getElem? (i := 170) (by decide +kernel))) rfl
theorem qM_L_65 : Cond.methodLink RL 65 yX6_supply ∈ zT := zT_in (qin_3 (List.mem_of_getElem? (i := 178) (by decide +kernel))) rfl
theorem qM_L_68 : Cond.methodLink RL 68 yX6_pass ∈ zT := zT_in (qin_3 (List.mem_of_getElem? (i := 189) (by decide +kernel))) rfl
theorem qM_L_7 : Cond.methodLink RL 7 yX6_append ∈ zT := zT_in (qin_2 (List.mem_of_getElem? (i := 98) (by decide +kernel))) rfl
theorem qM_L_71 : Cond.methodLink RL 71 yX6_undo ∈ zT := zT_in (qin_4 (List.mem_of_getElem? (i := 32) (by decide +kernel))) rfl
theorem qM_L_74 : Cond.methodLink RL 74 yX6_arrives ∈ zT := zT_in (qin_4 (List.mem_of_getElem? (i := 51) (by decide +kernel))) rfl
theorem qM_L_77 : Cond.methodLink RL 77 yX6_leaves ∈ zT := zT_in (qin_4 (List.mem_of_getElem? (i := 62) (by decide +kernel))) rfl
theorem qM_L_80 : Cond.methodLink RL 80 yX6_bestHold ∈ zT := zT_in (qin_4 (List.mem_of_getElem? (i := 73) (by decide +kernel))) rfl
theorem qM_L_83 : Cond.methodLink RL 83 yX6_lacks ∈ zT := zT_in (qin_4 (List.mem_of_getElem? (i := 80) (by decide +kernel))) rfl
theorem qM_L_86 : Cond.methodLink RL 86 yX6_runScript ∈ zT := zT_in (qin_4 (List.mem_of_getElem? (i := 92) (by decide +kernel))) rfl
theorem qM_L_90 : Cond.methodLink RL 90 yX6_simulate ∈ zT := zT_in (qin_4 (List.mem_of_getElem? (i := 116) (by decide +kernel))) rfl
theorem qM_L_94 : Cond.methodLink RL 94 yX6_save ∈ zT := zT_in (qin_4 (List.mem_of_getElem? (i := 130) (by decide +kernel))) rfl
theorem qM_L_97 : Cond.methodLink RL 97 yX6_restore ∈ zT := zT_in (qin_4 (List.mem_of_getElem? (i := 142) (by decide +kernel))) rfl
theorem qS_X6_about : Cond.selects RX6 yX6_about yX6_about ∈ zT := zT_in (qin_3 (List.mem_of_getElem? (i := 5) (by decide +kernel))) rfl
theorem qS_X6_addBay : Cond.selects RX6 yX6_addBay yX6_addBay ∈ zT := zT_in (qin_3 (List.mem_of_getElem? (i := 139) (by decide +kernel))) rfl
theorem qS_X6_addConvoy : Cond.selects RX6 yX6_addConvoy yX6_addConvoy ∈ zT := zT_in (qin_3 (List.mem_of_getElem? (i := 155) (by decide +kernel))) rfl
theorem qS_X6_addDepot : Cond.selects RX6 yX6_addDepot yX6_addDepot ∈ zT := zT_in (qin_3 (List.mem_of_getElem? (i := 147) (by decide +kernel))) rfl
theorem qS_X6_addGate : Cond.selects RX6 yX6_addGate yX6_addGate ∈ zT := zT_in (qin_3 (List.mem_of_getElem? (i := 115) (by decide +kernel))) rfl
theorem qS_X6_addVehicle : Cond.selects RX6 yX6_addVehicle yX6_addVehicle ∈ zT := zT_in (qin_3 (List.mem_of_getElem? (i := 163) (by decide +kernel))) rfl
theorem qS_X6_append : Cond.selects RX6 yX6_append yX6_append ∈ zT := zT_in (qin_2 (List.mem_of_getElem? (i := 100) (by decide +kernel))) rfl
theorem qS_X6_arrives : Cond.selects RX6 yX6_arrives yX6_arrives ∈ zT := zT_in (qin_4 (List.mem_of_getElem? (i := 53) (by decide +kernel))) rfl
theorem qS_X6_bay : Cond.selects RX6 yX6_bay yX6_bay ∈ zT := zT_in (qin_3 (List.mem_of_getElem? (i := 101) (by decide +kernel))) rfl
theorem qS_X6_bestHold : Cond.selects RX6 yX6_bestHold yX6_bestHold ∈ zT := zT_in (qin_4 (List.mem_of_getElem? (i := 75) (by decide +kernel))) rfl
theorem qS_X6_convoy : Cond.selects RX6 yX6_convoy yX6_convoy ∈ zT := zT_in (qin_3 (List.mem_of_getElem? (i := 28) (by decide +kernel))) rfl
theorem qS_X6_depot : Cond.selects RX6 yX6_depot yX6_depot ∈ zT := zT_in (qin_3 (List.mem_of_getElem? (i := 108) (by decide +kernel))) rfl
theorem qS_X6_gate : Cond.selects RX6 yX6_gate yX6_gate ∈ zT := zT_in (qin_3 (List.mem_of_getElem? (i := 89) (by decide +kernel))) rfl
theorem qS_X6_hold : Cond.selects RX6 yX6_hold yX6_hold ∈ zT := zT_in (qin_3 (List.mem_of_getElem? (i := 172) (by decide +kernel))) rfl
theorem qS_X6_lacks : Cond.selects RX6 yX6_lacks yX6_lacks ∈ zT := zT_in (qin_4 (List.mem_of_getElem? (i := 82) (by decide +kernel))) rfl
theorem qS_X6_leaves : Cond.selects RX6 yX6_leaves yX6_leaves ∈ zT := zT_in (qin_4 (List.mem_of_getElem? (i := 64) (by decide +kernel))) rfl
theorem qS_X6_load : Cond.selects RX6 yX6_load yX6_load ∈ zT := zT_in (qin_2 (List.mem_of_getElem? (i := 209) (by decide +kernel))) rfl
theorem qS_X6_member : Cond.selects RX6 yX6_member yX6_member ∈ zT := zT_in (qin_3 (List.mem_of_getElem? (i := 74) (by decide +kernel))) rfl
theorem qS_X6_pass : Cond.selects RX6 yX6_pass yX6_pass ∈ zT := zT_in (qin_3 (List.mem_of_getElem? (i := 191) (by decide +kernel))) rfl
theorem qS_X6_restore : Cond.selects RX6 yX6_restore yX6_restore ∈ zT := zT_in (qin_4 (List.mem_of_getElem? (i := 144) (by decide +kernel))) rfl
theorem qS_X6_runScript : Cond.selects RX6 yX6_runScript yX6_runScript ∈ zT := zT_in (qin_4 (List.mem_of_getElem? (i := 94) (by decide +kernel))) rfl
theorem qS_X6_save : Cond.selects RX6 yX6_save yX6_save ∈ zT := zT_in (qin_4 (List.mem_of_getElem? (i := 132) (by decide +kernel))) rfl
theorem qS_X6_simulate : Cond.selects RX6 yX6_simulate yX6_simulate ∈ zT := zT_in (qin_4 (List.mem_of_getElem? (i := 118) (by decide +kernel))) rfl
theorem qS_X6_supply : Cond.selects RX6 yX6_supply yX6_supply ∈ zT := zT_in (qin_3 (List.mem_of_getElem? (i := 180) (by decide +kernel))) rfl
theorem qS_X6_undo : Cond.selects RX6 yX6_undo yX6_undo ∈ zT := zT_in (qin_4 (List.mem_of_getElem? (i := 34) (by decide +kernel))) rfl
theorem qS_X6_vehicle : Cond.selects RX6 yX6_vehicle yX6_vehicle ∈ zT := zT_in (qin_3 (List.mem_of_getElem? (i := 82) (by decide +kernel))) rfl
theorem gV_L_17 : ZV RL 17 RX6 yX6_load cX6_load 1 (some .int) := ⟨qM_L_17, qI_X6_load, qS_X6_load, qN_X6, qC_X6_load⟩
theorem gV_L_21 : ZV RL 21 RX6 yX6_about cX6_about 2 (some .int) := ⟨qM_L_21, qI_X6_about, qS_X6_about, qN_X6, qC_X6_about⟩
theorem gV_L_24 : ZV RL 24 RX6 yX6_convoy cX6_convoy 3 (some .int) := ⟨qM_L_24, qI_X6_convoy, qS_X6_convoy, qN_X6, qC_X6_convoy⟩
theorem gV_L_30 : ZV RL 30 RX6 yX6_member cX6_member 3 (some .int) := ⟨qM_L_30, qI_X6_member, qS_X6_member, qN_X6, qC_X6_member⟩
theorem gV_L_33 : ZV RL 33 RX6 yX6_vehicle cX6_vehicle 3 (some .int) := ⟨qM_L_33, qI_X6_vehicle, qS_X6_vehicle, qN_X6, qC_X6_vehicle⟩
theorem gV_L_36 : ZV RL 36 RX6 yX6_gate cX6_gate 3 (some .int) := ⟨qM_L_36, qI_X6_gate, qS_X6_gate, qN_X6, qC_X6_gate⟩
theorem gV_L_39 : ZV RL 39 RX6 yX6_bay cX6_bay 3 (some .int) := ⟨qM_L_39, qI_X6_bay, qS_X6_bay, qN_X6, qC_X6_bay⟩
theorem gV_L_42 : ZV RL 42 RX6 yX6_depot cX6_depot 3 (some .int) := ⟨qM_L_42, qI_X6_depot, qS_X6_depot, qN_X6, qC_X6_depot⟩
theorem gV_L_45 : ZV RL 45 RX6 yX6_addGate cX6_addGate 5 (some .int) := ⟨qM_L_45, qI_X6_addGate, qS_X6_addGate, qN_X6, qC_X6_addGate⟩
theorem gV_L_49 : ZV RL 49 RX6 yX6_addBay cX6_addBay 3 (some .int) := ⟨qM_L_49, qI_X6_addBay, qS_X6_addBay, qN_X6, qC_X6_addBay⟩
theorem gV_L_52 : ZV RL 52 RX6 yX6_addDepot cX6_addDepot 3 (some .int) := ⟨qM_L_52, qI_X6_addDepot, qS_X6_addDepot, qN_X6, qC_X6_addDepot⟩
theorem gV_L_55 : ZV RL 55 RX6 yX6_addConvoy cX6_addConvoy 1 (some .int) := ⟨qM_L_55, qI_X6_addConvoy, qS_X6_addConvoy, qN_X6, qC_X6_addConvoy⟩
theorem gV_L_58 : ZV RL 58 RX6 yX6_addVehicle cX6_addVehicle 6 (some .int) := ⟨qM_L_58, qI_X6_addVehicle, qS_X6_addVehicle, qN_X6, qC_X6_addVehicle⟩
theorem gV_L_62 : ZV RL 62 RX6 yX6_hold cX6_hold 4 (some .int) := ⟨qM_L_62, qI_X6_hold, qS_X6_hold, qN_X6, qC_X6_hold⟩
theorem gV_L_65 : ZV RL 65 RX6 yX6_supply cX6_supply 3 (some .int) := ⟨qM_L_65, qI_X6_supply, qS_X6_supply, qN_X6, qC_X6_supply⟩
theorem gV_L_68 : ZV RL 68 RX6 yX6_pass cX6_pass 3 (some .int) := ⟨qM_L_68, qI_X6_pass, qS_X6_pass, qN_X6, qC_X6_pass⟩
theorem gV_L_7 : ZV RL 7 RX6 yX6_append cX6_append 2 (some .int) := ⟨qM_L_7, qI_X6_append, qS_X6_append, qN_X6, qC_X6_append⟩
theorem gV_L_71 : ZV RL 71 RX6 yX6_undo cX6_undo 1 (some .int) := ⟨qM_L_71, qI_X6_undo, qS_X6_undo, qN_X6, qC_X6_undo⟩
theorem gV_L_74 : ZV RL 74 RX6 yX6_arrives cX6_arrives 2 (some .int) := ⟨qM_L_74, qI_X6_arrives, qS_X6_arrives, qN_X6, qC_X6_arrives⟩
theorem gV_L_77 : ZV RL 77 RX6 yX6_leaves cX6_leaves 2 (some .int) := ⟨qM_L_77, qI_X6_leaves, qS_X6_leaves, qN_X6, qC_X6_leaves⟩
theorem gV_L_80 : ZV RL 80 RX6 yX6_bestHold cX6_bestHold 6 (some .int) := ⟨qM_L_80, qI_X6_bestHold, qS_X6_bestHold, qN_X6, qC_X6_bestHold⟩
theorem gV_L_83 : ZV RL 83 RX6 yX6_lacks cX6_lacks 3 (some .int) := ⟨qM_L_83, qI_X6_lacks, qS_X6_lacks, qN_X6, qC_X6_lacks⟩
theorem gV_L_86 : ZV RL 86 RX6 yX6_runScript cX6_runScript 7 (some .int) := ⟨qM_L_86, qI_X6_runScript, qS_X6_runScript, qN_X6, qC_X6_runScript⟩
theorem gV_L_90 : ZV RL 90 RX6 yX6_simulate cX6_simulate 9 (some .int) := ⟨qM_L_90, qI_X6_simulate, qS_X6_simulate, qN_X6, qC_X6_simulate⟩
theorem gV_L_94 : ZV RL 94 RX6 yX6_save cX6_save 2 (some .int) := ⟨qM_L_94, qI_X6_save, qS_X6_save, qN_X6, qC_X6_save⟩
theorem gV_L_97 : ZV RL 97 RX6 yX6_restore cX6_restore 2 (some .int) := ⟨qM_L_97, qI_X6_restore, qS_X6_restore, qN_X6, qC_X6_restore⟩
theorem kdX6_append : yX6_append.cls = RX6 ∧ yX6_append.cls ≠ "java/lang/invoke/MethodHandle" ∧ yX6_append.cls ≠ "java/lang/invoke/VarHandle" ∧ (parseMethodDescriptor yX6_append.desc).map (fun d => d.parameters.length) = some 1 := by decide +kernel
theorem kdX6_load : yX6_load.cls = RX6 ∧ yX6_load.cls ≠ "java/lang/invoke/MethodHandle" ∧ yX6_load.cls ≠ "java/lang/invoke/VarHandle" ∧ (parseMethodDescriptor yX6_load.desc).map (fun d => d.parameters.length) = some 0 := by decide +kernel
theorem kdX6_about : yX6_about.cls = RX6 ∧ yX6_about.cls ≠ "java/lang/invoke/MethodHandle" ∧ yX6_about.cls ≠ "java/lang/invoke/VarHandle" ∧ (parseMethodDescriptor yX6_about.desc).map (fun d => d.parameters.length) = some 1 := by decide +kernel
theorem kdX6_convoy : yX6_convoy.cls = RX6 ∧ yX6_convoy.cls ≠ "java/lang/invoke/MethodHandle" ∧ yX6_convoy.cls ≠ "java/lang/invoke/VarHandle" ∧ (parseMethodDescriptor yX6_convoy.desc).map (fun d => d.parameters.length) = some 2 := by decide +kernel
theorem kdX6_member : yX6_member.cls = RX6 ∧ yX6_member.cls ≠ "java/lang/invoke/MethodHandle" ∧ yX6_member.cls ≠ "java/lang/invoke/VarHandle" ∧ (parseMethodDescriptor yX6_member.desc).map (fun d => d.parameters.length) = some 2 := by decide +kernel
theorem kdX6_vehicle : yX6_vehicle.cls = RX6 ∧ yX6_vehicle.cls ≠ "java/lang/invoke/MethodHandle" ∧ yX6_vehicle.cls ≠ "java/lang/invoke/VarHandle" ∧ (parseMethodDescriptor yX6_vehicle.desc).map (fun d => d.parameters.length) = some 2 := by decide +kernel
theorem kdX6_gate : yX6_gate.cls = RX6 ∧ yX6_gate.cls ≠ "java/lang/invoke/MethodHandle" ∧ yX6_gate.cls ≠ "java/lang/invoke/VarHandle" ∧ (parseMethodDescriptor yX6_gate.desc).map (fun d => d.parameters.length) = some 2 := by decide +kernel
theorem kdX6_bay : yX6_bay.cls = RX6 ∧ yX6_bay.cls ≠ "java/lang/invoke/MethodHandle" ∧ yX6_bay.cls ≠ "java/lang/invoke/VarHandle" ∧ (parseMethodDescriptor yX6_bay.desc).map (fun d => d.parameters.length) = some 2 := by decide +kernel
theorem kdX6_depot : yX6_depot.cls = RX6 ∧ yX6_depot.cls ≠ "java/lang/invoke/MethodHandle" ∧ yX6_depot.cls ≠ "java/lang/invoke/VarHandle" ∧ (parseMethodDescriptor yX6_depot.desc).map (fun d => d.parameters.length) = some 2 := by decide +kernel
theorem kdX6_addGate : yX6_addGate.cls = RX6 ∧ yX6_addGate.cls ≠ "java/lang/invoke/MethodHandle" ∧ yX6_addGate.cls ≠ "java/lang/invoke/VarHandle" ∧ (parseMethodDescriptor yX6_addGate.desc).map (fun d => d.parameters.length) = some 4 := by decide +kernel
theorem kdX6_addBay : yX6_addBay.cls = RX6 ∧ yX6_addBay.cls ≠ "java/lang/invoke/MethodHandle" ∧ yX6_addBay.cls ≠ "java/lang/invoke/VarHandle" ∧ (parseMethodDescriptor yX6_addBay.desc).map (fun d => d.parameters.length) = some 2 := by decide +kernel
theorem kdX6_addDepot : yX6_addDepot.cls = RX6 ∧ yX6_addDepot.cls ≠ "java/lang/invoke/MethodHandle" ∧ yX6_addDepot.cls ≠ "java/lang/invoke/VarHandle" ∧ (parseMethodDescriptor yX6_addDepot.desc).map (fun d => d.parameters.length) = some 2 := by decide +kernel
theorem kdX6_addConvoy : yX6_addConvoy.cls = RX6 ∧ yX6_addConvoy.cls ≠ "java/lang/invoke/MethodHandle" ∧ yX6_addConvoy.cls ≠ "java/lang/invoke/VarHandle" ∧ (parseMethodDescriptor yX6_addConvoy.desc).map (fun d => d.parameters.length) = some 0 := by decide +kernel
theorem kdX6_addVehicle : yX6_addVehicle.cls = RX6 ∧ yX6_addVehicle.cls ≠ "java/lang/invoke/MethodHandle" ∧ yX6_addVehicle.cls ≠ "java/lang/invoke/VarHandle" ∧ (parseMethodDescriptor yX6_addVehicle.desc).map (fun d => d.parameters.length) = some 5 := by decide +kernel
theorem kdX6_hold : yX6_hold.cls = RX6 ∧ yX6_hold.cls ≠ "java/lang/invoke/MethodHandle" ∧ yX6_hold.cls ≠ "java/lang/invoke/VarHandle" ∧ (parseMethodDescriptor yX6_hold.desc).map (fun d => d.parameters.length) = some 2 := by decide +kernel
theorem kdX6_supply : yX6_supply.cls = RX6 ∧ yX6_supply.cls ≠ "java/lang/invoke/MethodHandle" ∧ yX6_supply.cls ≠ "java/lang/invoke/VarHandle" ∧ (parseMethodDescriptor yX6_supply.desc).map (fun d => d.parameters.length) = some 2 := by decide +kernel
theorem kdX6_pass : yX6_pass.cls = RX6 ∧ yX6_pass.cls ≠ "java/lang/invoke/MethodHandle" ∧ yX6_pass.cls ≠ "java/lang/invoke/VarHandle" ∧ (parseMethodDescriptor yX6_pass.desc).map (fun d => d.parameters.length) = some 1 := by decide +kernel
theorem kdX6_undo : yX6_undo.cls = RX6 ∧ yX6_undo.cls ≠ "java/lang/invoke/MethodHandle" ∧ yX6_undo.cls ≠ "java/lang/invoke/VarHandle" ∧ (parseMethodDescriptor yX6_undo.desc).map (fun d => d.parameters.length) = some 0 := by decide +kernel
theorem kdX6_arrives : yX6_arrives.cls = RX6 ∧ yX6_arrives.cls ≠ "java/lang/invoke/MethodHandle" ∧ yX6_arrives.cls ≠ "java/lang/invoke/VarHandle" ∧ (parseMethodDescriptor yX6_arrives.desc).map (fun d => d.parameters.length) = some 1 := by decide +kernel
theorem kdX6_leaves : yX6_leaves.cls = RX6 ∧ yX6_leaves.cls ≠ "java/lang/invoke/MethodHandle" ∧ yX6_leaves.cls ≠ "java/lang/invoke/VarHandle" ∧ (parseMethodDescriptor yX6_leaves.desc).map (fun d => d.parameters.length) = some 1 := by decide +kernel
theorem kdX6_bestHold : yX6_bestHold.cls = RX6 ∧ yX6_bestHold.cls ≠ "java/lang/invoke/MethodHandle" ∧ yX6_bestHold.cls ≠ "java/lang/invoke/VarHandle" ∧ (parseMethodDescriptor yX6_bestHold.desc).map (fun d => d.parameters.length) = some 1 := by decide +kernel
theorem kdX6_lacks : yX6_lacks.cls = RX6 ∧ yX6_lacks.cls ≠ "java/lang/invoke/MethodHandle" ∧ yX6_lacks.cls ≠ "java/lang/invoke/VarHandle" ∧ (parseMethodDescriptor yX6_lacks.desc).map (fun d => d.parameters.length) = some 1 := by decide +kernel
theorem kdX6_runScript : yX6_runScript.cls = RX6 ∧ yX6_runScript.cls ≠ "java/lang/invoke/MethodHandle" ∧ yX6_runScript.cls ≠ "java/lang/invoke/VarHandle" ∧ (parseMethodDescriptor yX6_runScript.desc).map (fun d => d.parameters.length) = some 2 := by decide +kernel
theorem kdX6_simulate : yX6_simulate.cls = RX6 ∧ yX6_simulate.cls ≠ "java/lang/invoke/MethodHandle" ∧ yX6_simulate.cls ≠ "java/lang/invoke/VarHandle" ∧ (parseMethodDescriptor yX6_simulate.desc).map (fun d => d.parameters.length) = some 2 := by decide +kernel
theorem kdX6_save : yX6_save.cls = RX6 ∧ yX6_save.cls ≠ "java/lang/invoke/MethodHandle" ∧ yX6_save.cls ≠ "java/lang/invoke/VarHandle" ∧ (parseMethodDescriptor yX6_save.desc).map (fun d => d.parameters.length) = some 1 := by decide +kernel
theorem kdX6_restore : yX6_restore.cls = RX6 ∧ yX6_restore.cls ≠ "java/lang/invoke/MethodHandle" ∧ yX6_restore.cls ≠ "java/lang/invoke/VarHandle" ∧ (parseMethodDescriptor yX6_restore.desc).map (fun d => d.parameters.length) = some 1 := by decide +kernel
set_option maxHeartbeats 4000000 in
set_option maxRecDepth 100000 in
theorem nL_append (l : Launch) (G : mG) {C C' D : mM} {f : Nat → Int32} {a1 : Int32} {r : Int32} (hN : gN G = 325) (hR : isWR G 0) (hO : gK G 324 = aJ G) (h : pX6_append a1 C = some (.inl r, C')) : ML l G yL_append (wy yL_append cL_append 4 (some .int) [(0, 9, 12, 13), (0, 9, 15, 15)]) [.ref (gA G 0), .int a1, .ref (gA G 324)] (lM C D f) (lM C' D (upd f 0 r)) (nI 0) := by
  have hC := mX6_append l G (β := 0) (M := lM C D f) (by omega) hR h
  simp only [lM_C] at hC
  refine l_of (cc := cL_append) (by decide) (Nat.le_of_ble_eq_true rfl) ?_
  intro p e s m args below meth c H ls hx hb hr hts hown hml hlocks htab hE hNc hw hl
  have hl : lv_has ls 4 [(0, .ref (gA G 0)), (1, .int a1), (2, .ref (gA G 324))] := hl
  refine lv_aload_n hx hb dL_append_0 rfl (lv_at hl 2 rfl) ?_
  refine lv_iconst (v := (nI 0)) hx hb dL_append_1 (by decide) ?_
  refine lv_aload_n hx hb dL_append_2 rfl (lv_at hl 0 rfl) ?_
  refine lv_iload_n hx hb dL_append_3 rfl (lv_at hl 1 rfl) ?_
  refine r_callV (As := [.int a1]) (rest := [.int (nI 0), .ref (gA G 324)]) (st1 := .int r :: [.int (nI 0), .ref (gA G 324)]) hx hb hml hown hts hE hw hl hC (cwV 1 hts (yV gV_L_7) rfl rfl rfl kdX6_append ⟨Nat.le_of_ble_eq_true rfl, Nat.le_of_ble_eq_true rfl⟩) (by omega) (congrFun hR.1 _) rfl rfl rfl rfl (Nat.le_of_ble_eq_true rfl) dL_append_4 ⟨Nat.zero_le _, Nat.zero_le _⟩ rfl (fun H locs hw => ?_)
  refine lv_i2l hx hb dL_append_7 rfl ?_
  refine l_last hx hb hE hw hN hO dL_append_8 (fun H locs hw => ?_)
  refine lv_goto (tgt := 18) hx hb dL_append_9 (by decide) ?_
  refine lv_iconst (v := (nI 0)) hx hb dL_append_18 (by decide) ?_
  exact l_ret hx hb hr hlocks hw dL_append_19 (by decide) (by decide)
set_option maxHeartbeats 4000000 in
set_option maxRecDepth 100000 in
theorem tL_append_0 (l : Launch) (hfl : l.stackTraces = false) (G : mG) {C C' D : mM} {f : Nat → Int32} {a1 : Int32} (hN : gN G = 325) (hR : isWR G 0) (h : pX6_append a1 C = some (.inr "java/lang/IllegalArgumentException", C')) : ML l G yL_append (wy yL_append cL_append 4 (some .int) [(0, 9, 12, 13), (0, 9, 15, 15)]) [.ref (gA G 0), .int a1, .ref (gA G 324)] (lM C D f) (lM C' D f) (nI 1) := by
  have hC := xX6_append l hfl G (β := 0) (M := lM C D f) (by omega) hR h
  simp only [lM_C] at hC
  refine l_of (cc := cL_append) (by decide) (Nat.le_of_ble_eq_true rfl) ?_
  intro p e s m args below meth c H ls hx hb hr hts hown hml hlocks htab hE hNc hw hl
  have hl : lv_has ls 4 [(0, .ref (gA G 0)), (1, .int a1), (2, .ref (gA G 324))] := hl
  refine lv_aload_n hx hb dL_append_0 rfl (lv_at hl 2 rfl) ?_
  refine lv_iconst (v := (nI 0)) hx hb dL_append_1 (by decide) ?_
  refine lv_aload_n hx hb dL_append_2 rfl (lv_at hl 0 rfl) ?_
  refine lv_iload_n hx hb dL_append_3 rfl (lv_at hl 1 rfl) ?_
  refine l_callX (As := [.int a1]) (rest := [.int (nI 0), .ref (gA G 324)]) hx hb hml hown hts hE hw hl hC (cwV 1 hts (yV gV_L_7) rfl rfl rfl kdX6_append ⟨Nat.le_of_ble_eq_true rfl, Nat.le_of_ble_eq_true rfl⟩) (by omega) (congrFun hR.1 _) rfl rfl rfl rfl (Nat.le_of_ble_eq_true rfl) dL_append_4 ⟨by decide, by decide⟩ [] ⟨0, 9, 12, 13⟩ [⟨0, 9, 15, 15⟩] (htab.trans rfl) (fun _ h9 => absurd h9 List.not_mem_nil) (by decide) (by decide) (hts _ (wy_in qL_L_13)) (va_Nw.use rfl hE.2.2.2.2.2.2.2.1) (fun q H locs hw => ?_)
  refine lv_astore_n hx hb dL_append_12 rfl hl (by decide) rfl (fun ls hl => ?_)
  refine lv_iconst (v := (nI 1)) hx hb dL_append_13 (by decide) ?_
  exact l_ret hx hb hr hlocks hw dL_append_14 (by decide) (by decide)
set_option maxHeartbeats 4000000 in
set_option maxRecDepth 100000 in
theorem tL_append_1 (l : Launch) (hfl : l.stackTraces = false) (G : mG) {C C' D : mM} {f : Nat → Int32} {a1 : Int32} (hN : gN G = 325) (hR : isWR G 0) (h : pX6_append a1 C = some (.inr "java/lang/IllegalStateException", C')) : ML l G yL_append (wy yL_append cL_append 4 (some .int) [(0, 9, 12, 13), (0, 9, 15, 15)]) [.ref (gA G 0), .int a1, .ref (gA G 324)] (lM C D f) (lM C' D f) (nI 2) := by
  have hC := xX6_append l hfl G (β := 0) (M := lM C D f) (by omega) hR h
  simp only [lM_C] at hC
  refine l_of (cc := cL_append) (by decide) (Nat.le_of_ble_eq_true rfl) ?_
  intro p e s m args below meth c H ls hx hb hr hts hown hml hlocks htab hE hNc hw hl
  have hl : lv_has ls 4 [(0, .ref (gA G 0)), (1, .int a1), (2, .ref (gA G 324))] := hl
  refine lv_aload_n hx hb dL_append_0 rfl (lv_at hl 2 rfl) ?_
  refine lv_iconst (v := (nI 0)) hx hb dL_append_1 (by decide) ?_
  refine lv_aload_n hx hb dL_append_2 rfl (lv_at hl 0 rfl) ?_
  refine lv_iload_n hx hb dL_append_3 rfl (lv_at hl 1 rfl) ?_
  refine l_callX (As := [.int a1]) (rest := [.int (nI 0), .ref (gA G 324)]) hx hb hml hown hts hE hw hl hC (cwV 1 hts (yV gV_L_7) rfl rfl rfl kdX6_append ⟨Nat.le_of_ble_eq_true rfl, Nat.le_of_ble_eq_true rfl⟩) (by omega) (congrFun hR.1 _) rfl rfl rfl rfl (Nat.le_of_ble_eq_true rfl) dL_append_4 ⟨by decide, by decide⟩ [⟨0, 9, 12, 13⟩] ⟨0, 9, 15, 15⟩ [] (htab.trans rfl) (fun z hz => by
      rcases List.mem_cons.mp hz with rfl | hz
      · exact Or.inr ⟨by decide, _, hts _ (wy_in qL_L_13), hNc.2.2⟩
      cases hz) (by decide) (by decide) (hts _ (wy_in qL_L_15)) (va_Nw.use rfl hE.2.2.2.2.2.2.2.2.1) (fun q H locs hw => ?_)
  refine lv_astore_n hx hb dL_append_15 rfl hl (by decide) rfl (fun ls hl => ?_)
  refine lv_iconst (v := (nI 2)) hx hb dL_append_16 (by decide) ?_
  exact l_ret hx hb hr hlocks hw dL_append_17 (by decide) (by decide)
set_option maxHeartbeats 4000000 in
set_option maxRecDepth 100000 in
theorem nL_load (l : Launch) (G : mG) {C C' D : mM} {f : Nat → Int32}  {r : Int32} (hN : gN G = 325) (hR : isWR G 0) (hO : gK G 324 = aJ G) (h : pX6_load  C = some (.inl r, C')) : ML l G yL_load (wy yL_load cL_load 3 (some .int) [(0, 8, 11, 15)]) [.ref (gA G 0), .ref (gA G 324)] (lM C D f) (lM C' D (upd f 0 r)) (nI 0) := by
  have hC := mX6_load l G (β := 0) (M := lM C D f) (by omega) hR h
  simp only [lM_C] at hC
  refine l_of (cc := cL_load) (by decide) (Nat.le_of_ble_eq_true rfl) ?_
  intro p e s m args below meth c H ls hx hb hr hts hown hml hlocks htab hE hNc hw hl
  have hl : lv_has ls 3 [(0, .ref (gA G 0)), (1, .ref (gA G 324))] := hl
  refine lv_aload_n hx hb dL_load_0 rfl (lv_at hl 1 rfl) ?_
  refine lv_iconst (v := (nI 0)) hx hb dL_load_1 (by decide) ?_
  refine lv_aload_n hx hb dL_load_2 rfl (lv_at hl 0 rfl) ?_
  refine r_callV (As := []) (rest := [.int (nI 0), .ref (gA G 324)]) (st1 := .int r :: [.int (nI 0), .ref (gA G 324)]) hx hb hml hown hts hE hw hl hC (cwV 0 hts (yV gV_L_17) rfl rfl rfl kdX6_load ⟨Nat.le_of_ble_eq_true rfl, Nat.le_of_ble_eq_true rfl⟩) (by omega) (congrFun hR.1 _) rfl rfl rfl rfl (Nat.le_of_ble_eq_true rfl) dL_load_3 ⟨Nat.zero_le _, Nat.zero_le _⟩ rfl (fun H locs hw => ?_)
  refine lv_i2l hx hb dL_load_6 rfl ?_
  refine l_last hx hb hE hw hN hO dL_load_7 (fun H locs hw => ?_)
  refine lv_goto (tgt := 14) hx hb dL_load_8 (by decide) ?_
  refine lv_iconst (v := (nI 0)) hx hb dL_load_14 (by decide) ?_
  exact l_ret hx hb hr hlocks hw dL_load_15 (by decide) (by decide)
set_option maxHeartbeats 4000000 in
set_option maxRecDepth 100000 in
theorem tL_load_0 (l : Launch) (hfl : l.stackTraces = false) (G : mG) {C C' D : mM} {f : Nat → Int32}  (hN : gN G = 325) (hR : isWR G 0) (h : pX6_load  C = some (.inr "java/lang/IllegalStateException", C')) : ML l G yL_load (wy yL_load cL_load 3 (some .int) [(0, 8, 11, 15)]) [.ref (gA G 0), .ref (gA G 324)] (lM C D f) (lM C' D f) (nI 1) := by
  have hC := xX6_load l hfl G (β := 0) (M := lM C D f) (by omega) hR h
  simp only [lM_C] at hC
  refine l_of (cc := cL_load) (by decide) (Nat.le_of_ble_eq_true rfl) ?_
  intro p e s m args below meth c H ls hx hb hr hts hown hml hlocks htab hE hNc hw hl
  have hl : lv_has ls 3 [(0, .ref (gA G 0)), (1, .ref (gA G 324))] := hl
  refine lv_aload_n hx hb dL_load_0 rfl (lv_at hl 1 rfl) ?_
  refine lv_iconst (v := (nI 0)) hx hb dL_load_1 (by decide) ?_
  refine lv_aload_n hx hb dL_load_2 rfl (lv_at hl 0 rfl) ?_
  refine l_callX (As := []) (rest := [.int (nI 0), .ref (gA G 324)]) hx hb hml hown hts hE hw hl hC (cwV 0 hts (yV gV_L_17) rfl rfl rfl kdX6_load ⟨Nat.le_of_ble_eq_true rfl, Nat.le_of_ble_eq_true rfl⟩) (by omega) (congrFun hR.1 _) rfl rfl rfl rfl (Nat.le_of_ble_eq_true rfl) dL_load_3 ⟨by decide, by decide⟩ [] ⟨0, 8, 11, 15⟩ [] (htab.trans rfl) (fun _ h9 => absurd h9 List.not_mem_nil) (by decide) (by decide) (hts _ (wy_in qL_L_15)) (va_Nw.use rfl hE.2.2.2.2.2.2.2.2.1) (fun q H locs hw => ?_)
  refine lv_astore_n hx hb dL_load_11 rfl hl (by decide) rfl (fun ls hl => ?_)
  refine lv_iconst (v := (nI 1)) hx hb dL_load_12 (by decide) ?_
  exact l_ret hx hb hr hlocks hw dL_load_13 (by decide) (by decide)
set_option maxHeartbeats 4000000 in
set_option maxRecDepth 100000 in
theorem nL_about (l : Launch) (G : mG) {C D : mM} {f : Nat → Int32} {a1 : Int32} {r : Int32} (hN : gN G = 325) (hR : isWR G 0) (hO : gK G 324 = aJ G) (h : pX6_about a1 C = some (.inl r)) : ML l G yL_about (wy yL_about cL_about 4 (some .int) [(0, 9, 12, 13)]) [.ref (gA G 0), .int a1, .ref (gA G 324)] (lM C D f) (lM C D (upd f 0 r)) (nI 0) := by
  have hC := mX6_about l G (β := 0) (M := lM C D f) (by omega) hR h
  simp only [lM_C] at hC
  refine l_of (cc := cL_about) (by decide) (Nat.le_of_ble_eq_true rfl) ?_
  intro p e s m args below meth c H ls hx hb hr hts hown hml hlocks htab hE hNc hw hl
  have hl : lv_has ls 4 [(0, .ref (gA G 0)), (1, .int a1), (2, .ref (gA G 324))] := hl
  refine lv_aload_n hx hb dL_about_0 rfl (lv_at hl 2 rfl) ?_
  refine lv_iconst (v := (nI 0)) hx hb dL_about_1 (by decide) ?_
  refine lv_aload_n hx hb dL_about_2 rfl (lv_at hl 0 rfl) ?_
  refine lv_iload_n hx hb dL_about_3 rfl (lv_at hl 1 rfl) ?_
  refine r_callV (As := [.int a1]) (rest := [.int (nI 0), .ref (gA G 324)]) (st1 := .int r :: [.int (nI 0), .ref (gA G 324)]) hx hb hml hown hts hE hw hl hC (cwV 1 hts (yV gV_L_21) rfl rfl rfl kdX6_about ⟨Nat.le_of_ble_eq_true rfl, Nat.le_of_ble_eq_true rfl⟩) (by omega) (congrFun hR.1 _) rfl rfl rfl rfl (Nat.le_of_ble_eq_true rfl) dL_about_4 ⟨Nat.zero_le _, Nat.zero_le _⟩ rfl (fun H locs hw => ?_)
  refine lv_i2l hx hb dL_about_7 rfl ?_
  refine l_last hx hb hE hw hN hO dL_about_8 (fun H locs hw => ?_)
  refine lv_goto (tgt := 15) hx hb dL_about_9 (by decide) ?_
  refine lv_iconst (v := (nI 0)) hx hb dL_about_15 (by decide) ?_
  exact l_ret hx hb hr hlocks hw dL_about_16 (by decide) (by decide)
set_option maxHeartbeats 4000000 in
set_option maxRecDepth 100000 in
theorem tL_about_0 (l : Launch) (hfl : l.stackTraces = false) (G : mG) {C D : mM} {f : Nat → Int32} {a1 : Int32} (hN : gN G = 325) (hR : isWR G 0) (h : pX6_about a1 C = some (.inr "java/lang/IllegalArgumentException")) : ML l G yL_about (wy yL_about cL_about 4 (some .int) [(0, 9, 12, 13)]) [.ref (gA G 0), .int a1, .ref (gA G 324)] (lM C D f) (lM C D f) (nI 1) := by
  have hC := xX6_about l hfl G (β := 0) (M := lM C D f) (by omega) hR h
  simp only [lM_C] at hC
  refine l_of (cc := cL_about) (by decide) (Nat.le_of_ble_eq_true rfl) ?_
  intro p e s m args below meth c H ls hx hb hr hts hown hml hlocks htab hE hNc hw hl
  have hl : lv_has ls 4 [(0, .ref (gA G 0)), (1, .int a1), (2, .ref (gA G 324))] := hl
  refine lv_aload_n hx hb dL_about_0 rfl (lv_at hl 2 rfl) ?_
  refine lv_iconst (v := (nI 0)) hx hb dL_about_1 (by decide) ?_
  refine lv_aload_n hx hb dL_about_2 rfl (lv_at hl 0 rfl) ?_
  refine lv_iload_n hx hb dL_about_3 rfl (lv_at hl 1 rfl) ?_
  refine l_callX (As := [.int a1]) (rest := [.int (nI 0), .ref (gA G 324)]) hx hb hml hown hts hE hw hl hC (cwV 1 hts (yV gV_L_21) rfl rfl rfl kdX6_about ⟨Nat.le_of_ble_eq_true rfl, Nat.le_of_ble_eq_true rfl⟩) (by omega) (congrFun hR.1 _) rfl rfl rfl rfl (Nat.le_of_ble_eq_true rfl) dL_about_4 ⟨by decide, by decide⟩ [] ⟨0, 9, 12, 13⟩ [] (htab.trans rfl) (fun _ h9 => absurd h9 List.not_mem_nil) (by decide) (by decide) (hts _ (wy_in qL_L_13)) (va_Nw.use rfl hE.2.2.2.2.2.2.2.1) (fun q H locs hw => ?_)
  refine lv_astore_n hx hb dL_about_12 rfl hl (by decide) rfl (fun ls hl => ?_)
  refine lv_iconst (v := (nI 1)) hx hb dL_about_13 (by decide) ?_
  exact l_ret hx hb hr hlocks hw dL_about_14 (by decide) (by decide)
set_option maxHeartbeats 4000000 in
set_option maxRecDepth 100000 in
theorem nL_convoy (l : Launch) (G : mG) {C D : mM} {f : Nat → Int32} {a1 : Int32} {a2 : Int32} {r : Int32} (hN : gN G = 325) (hR : isWR G 0) (hO : gK G 324 = aJ G) (h : pX6_convoy a1 a2 C = some (.inl r)) : ML l G yL_convoy (wy yL_convoy cL_convoy 5 (some .int) [(0, 10, 13, 28), (0, 10, 17, 13)]) [.ref (gA G 0), .int a1, .int a2, .ref (gA G 324)] (lM C D f) (lM C D (upd f 0 r)) (nI 0) := by
  have hC := mX6_convoy l G (β := 0) (M := lM C D f) (by omega) hR h
  simp only [lM_C] at hC
  refine l_of (cc := cL_convoy) (by decide) (Nat.le_of_ble_eq_true rfl) ?_
  intro p e s m args below meth c H ls hx hb hr hts hown hml hlocks htab hE hNc hw hl
  have hl : lv_has ls 5 [(0, .ref (gA G 0)), (1, .int a1), (2, .int a2), (3, .ref (gA G 324))] := hl
  refine lv_aload_n hx hb dL_convoy_0 rfl (lv_at hl 3 rfl) ?_
  refine lv_iconst (v := (nI 0)) hx hb dL_convoy_1 (by decide) ?_
  refine lv_aload_n hx hb dL_convoy_2 rfl (lv_at hl 0 rfl) ?_
  refine lv_iload_n hx hb dL_convoy_3 rfl (lv_at hl 1 rfl) ?_
  refine lv_iload_n hx hb dL_convoy_4 rfl (lv_at hl 2 rfl) ?_
  refine r_callV (As := [.int a1, .int a2]) (rest := [.int (nI 0), .ref (gA G 324)]) (st1 := .int r :: [.int (nI 0), .ref (gA G 324)]) hx hb hml hown hts hE hw hl hC (cwV 2 hts (yV gV_L_24) rfl rfl rfl kdX6_convoy ⟨Nat.le_of_ble_eq_true rfl, Nat.le_of_ble_eq_true rfl⟩) (by omega) (congrFun hR.1 _) rfl rfl rfl rfl (Nat.le_of_ble_eq_true rfl) dL_convoy_5 ⟨Nat.zero_le _, Nat.zero_le _⟩ rfl (fun H locs hw => ?_)
  refine lv_i2l hx hb dL_convoy_8 rfl ?_
  refine l_last hx hb hE hw hN hO dL_convoy_9 (fun H locs hw => ?_)
  refine lv_goto (tgt := 21) hx hb dL_convoy_10 (by decide) ?_
  refine lv_iconst (v := (nI 0)) hx hb dL_convoy_21 (by decide) ?_
  exact l_ret hx hb hr hlocks hw dL_convoy_22 (by decide) (by decide)
set_option maxHeartbeats 4000000 in
set_option maxRecDepth 100000 in
theorem tL_convoy_0 (l : Launch) (hfl : l.stackTraces = false) (G : mG) {C D : mM} {f : Nat → Int32} {a1 : Int32} {a2 : Int32} (hN : gN G = 325) (hR : isWR G 0) (h : pX6_convoy a1 a2 C = some (.inr "java/lang/IndexOutOfBoundsException")) : ML l G yL_convoy (wy yL_convoy cL_convoy 5 (some .int) [(0, 10, 13, 28), (0, 10, 17, 13)]) [.ref (gA G 0), .int a1, .int a2, .ref (gA G 324)] (lM C D f) (lM C D f) (nI 1) := by
  have hC := xX6_convoy l hfl G (β := 0) (M := lM C D f) (by omega) hR h
  simp only [lM_C] at hC
  refine l_of (cc := cL_convoy) (by decide) (Nat.le_of_ble_eq_true rfl) ?_
  intro p e s m args below meth c H ls hx hb hr hts hown hml hlocks htab hE hNc hw hl
  have hl : lv_has ls 5 [(0, .ref (gA G 0)), (1, .int a1), (2, .int a2), (3, .ref (gA G 324))] := hl
  refine lv_aload_n hx hb dL_convoy_0 rfl (lv_at hl 3 rfl) ?_
  refine lv_iconst (v := (nI 0)) hx hb dL_convoy_1 (by decide) ?_
  refine lv_aload_n hx hb dL_convoy_2 rfl (lv_at hl 0 rfl) ?_
  refine lv_iload_n hx hb dL_convoy_3 rfl (lv_at hl 1 rfl) ?_
  refine lv_iload_n hx hb dL_convoy_4 rfl (lv_at hl 2 rfl) ?_
  refine l_callX (As := [.int a1, .int a2]) (rest := [.int (nI 0), .ref (gA G 324)]) hx hb hml hown hts hE hw hl hC (cwV 2 hts (yV gV_L_24) rfl rfl rfl kdX6_convoy ⟨Nat.le_of_ble_eq_true rfl, Nat.le_of_ble_eq_true rfl⟩) (by omega) (congrFun hR.1 _) rfl rfl rfl rfl (Nat.le_of_ble_eq_true rfl) dL_convoy_5 ⟨by decide, by decide⟩ [] ⟨0, 10, 13, 28⟩ [⟨0, 10, 17, 13⟩] (htab.trans rfl) (fun _ h9 => absurd h9 List.not_mem_nil) (by decide) (by decide) (hts _ (wy_in qL_L_28)) (va_Nw.use rfl hE.2.2.2.2.2.2.1) (fun q H locs hw => ?_)
  refine lv_astore hx hb dL_convoy_13 hl (by decide) rfl (fun ls hl => ?_)
  refine lv_iconst (v := (nI 1)) hx hb dL_convoy_15 (by decide) ?_
  exact l_ret hx hb hr hlocks hw dL_convoy_16 (by decide) (by decide)
set_option maxHeartbeats 4000000 in
set_option maxRecDepth 100000 in
theorem tL_convoy_1 (l : Launch) (hfl : l.stackTraces = false) (G : mG) {C D : mM} {f : Nat → Int32} {a1 : Int32} {a2 : Int32} (hN : gN G = 325) (hR : isWR G 0) (h : pX6_convoy a1 a2 C = some (.inr "java/lang/IllegalArgumentException")) : ML l G yL_convoy (wy yL_convoy cL_convoy 5 (some .int) [(0, 10, 13, 28), (0, 10, 17, 13)]) [.ref (gA G 0), .int a1, .int a2, .ref (gA G 324)] (lM C D f) (lM C D f) (nI 2) := by
  have hC := xX6_convoy l hfl G (β := 0) (M := lM C D f) (by omega) hR h
  simp only [lM_C] at hC
  refine l_of (cc := cL_convoy) (by decide) (Nat.le_of_ble_eq_true rfl) ?_
  intro p e s m args below meth c H ls hx hb hr hts hown hml hlocks htab hE hNc hw hl
  have hl : lv_has ls 5 [(0, .ref (gA G 0)), (1, .int a1), (2, .int a2), (3, .ref (gA G 324))] := hl
  refine lv_aload_n hx hb dL_convoy_0 rfl (lv_at hl 3 rfl) ?_
  refine lv_iconst (v := (nI 0)) hx hb dL_convoy_1 (by decide) ?_
  refine lv_aload_n hx hb dL_convoy_2 rfl (lv_at hl 0 rfl) ?_
  refine lv_iload_n hx hb dL_convoy_3 rfl (lv_at hl 1 rfl) ?_
  refine lv_iload_n hx hb dL_convoy_4 rfl (lv_at hl 2 rfl) ?_
  refine l_callX (As := [.int a1, .int a2]) (rest := [.int (nI 0), .ref (gA G 324)]) hx hb hml hown hts hE hw hl hC (cwV 2 hts (yV gV_L_24) rfl rfl rfl kdX6_convoy ⟨Nat.le_of_ble_eq_true rfl, Nat.le_of_ble_eq_true rfl⟩) (by omega) (congrFun hR.1 _) rfl rfl rfl rfl (Nat.le_of_ble_eq_true rfl) dL_convoy_5 ⟨by decide, by decide⟩ [⟨0, 10, 13, 28⟩] ⟨0, 10, 17, 13⟩ [] (htab.trans rfl) (fun z hz => by
      rcases List.mem_cons.mp hz with rfl | hz
      · exact Or.inr ⟨by decide, _, hts _ (wy_in qL_L_28), hNc.1⟩
      cases hz) (by decide) (by decide) (hts _ (wy_in qL_L_13)) (va_Nw.use rfl hE.2.2.2.2.2.2.2.1) (fun q H locs hw => ?_)
  refine lv_astore hx hb dL_convoy_17 hl (by decide) rfl (fun ls hl => ?_)
  refine lv_iconst (v := (nI 2)) hx hb dL_convoy_19 (by decide) ?_
  exact l_ret hx hb hr hlocks hw dL_convoy_20 (by decide) (by decide)
set_option maxHeartbeats 4000000 in
set_option maxRecDepth 100000 in
theorem nL_member (l : Launch) (G : mG) {C D : mM} {f : Nat → Int32} {a1 : Int32} {a2 : Int32} {r : Int32} (hN : gN G = 325) (hR : isWR G 0) (hO : gK G 324 = aJ G) (h : pX6_member a1 a2 C = some (.inl r)) : ML l G yL_member (wy yL_member cL_member 5 (some .int) [(0, 10, 13, 28), (0, 10, 17, 13)]) [.ref (gA G 0), .int a1, .int a2, .ref (gA G 324)] (lM C D f) (lM C D (upd f 0 r)) (nI 0) := by
  have hC := mX6_member l G (β := 0) (M := lM C D f) (by omega) hR h
  simp only [lM_C] at hC
  refine l_of (cc := cL_member) (by decide) (Nat.le_of_ble_eq_true rfl) ?_
  intro p e s m args below meth c H ls hx hb hr hts hown hml hlocks htab hE hNc hw hl
  have hl : lv_has ls 5 [(0, .ref (gA G 0)), (1, .int a1), (2, .int a2), (3, .ref (gA G 324))] := hl
  refine lv_aload_n hx hb dL_member_0 rfl (lv_at hl 3 rfl) ?_
  refine lv_iconst (v := (nI 0)) hx hb dL_member_1 (by decide) ?_
  refine lv_aload_n hx hb dL_member_2 rfl (lv_at hl 0 rfl) ?_
  refine lv_iload_n hx hb dL_member_3 rfl (lv_at hl 1 rfl) ?_
  refine lv_iload_n hx hb dL_member_4 rfl (lv_at hl 2 rfl) ?_
  refine r_callV (As := [.int a1, .int a2]) (rest := [.int (nI 0), .ref (gA G 324)]) (st1 := .int r :: [.int (nI 0), .ref (gA G 324)]) hx hb hml hown hts hE hw hl hC (cwV 2 hts (yV gV_L_30) rfl rfl rfl kdX6_member ⟨Nat.le_of_ble_eq_true rfl, Nat.le_of_ble_eq_true rfl⟩) (by omega) (congrFun hR.1 _) rfl rfl rfl rfl (Nat.le_of_ble_eq_true rfl) dL_member_5 ⟨Nat.zero_le _, Nat.zero_le _⟩ rfl (fun H locs hw => ?_)
  refine lv_i2l hx hb dL_member_8 rfl ?_
  refine l_last hx hb hE hw hN hO dL_member_9 (fun H locs hw => ?_)
  refine lv_goto (tgt := 21) hx hb dL_member_10 (by decide) ?_
  refine lv_iconst (v := (nI 0)) hx hb dL_member_21 (by decide) ?_
  exact l_ret hx hb hr hlocks hw dL_member_22 (by decide) (by decide)
set_option maxHeartbeats 4000000 in
set_option maxRecDepth 100000 in
theorem tL_member_0 (l : Launch) (hfl : l.stackTraces = false) (G : mG) {C D : mM} {f : Nat → Int32} {a1 : Int32} {a2 : Int32} (hN : gN G = 325) (hR : isWR G 0) (h : pX6_member a1 a2 C = some (.inr "java/lang/IndexOutOfBoundsException")) : ML l G yL_member (wy yL_member cL_member 5 (some .int) [(0, 10, 13, 28), (0, 10, 17, 13)]) [.ref (gA G 0), .int a1, .int a2, .ref (gA G 324)] (lM C D f) (lM C D f) (nI 1) := by
  have hC := xX6_member l hfl G (β := 0) (M := lM C D f) (by omega) hR h
  simp only [lM_C] at hC
  refine l_of (cc := cL_member) (by decide) (Nat.le_of_ble_eq_true rfl) ?_
  intro p e s m args below meth c H ls hx hb hr hts hown hml hlocks htab hE hNc hw hl
  have hl : lv_has ls 5 [(0, .ref (gA G 0)), (1, .int a1), (2, .int a2), (3, .ref (gA G 324))] := hl
  refine lv_aload_n hx hb dL_member_0 rfl (lv_at hl 3 rfl) ?_
  refine lv_iconst (v := (nI 0)) hx hb dL_member_1 (by decide) ?_
  refine lv_aload_n hx hb dL_member_2 rfl (lv_at hl 0 rfl) ?_
  refine lv_iload_n hx hb dL_member_3 rfl (lv_at hl 1 rfl) ?_
  refine lv_iload_n hx hb dL_member_4 rfl (lv_at hl 2 rfl) ?_
  refine l_callX (As := [.int a1, .int a2]) (rest := [.int (nI 0), .ref (gA G 324)]) hx hb hml hown hts hE hw hl hC (cwV 2 hts (yV gV_L_30) rfl rfl rfl kdX6_member ⟨Nat.le_of_ble_eq_true rfl, Nat.le_of_ble_eq_true rfl⟩) (by omega) (congrFun hR.1 _) rfl rfl rfl rfl (Nat.le_of_ble_eq_true rfl) dL_member_5 ⟨by decide, by decide⟩ [] ⟨0, 10, 13, 28⟩ [⟨0, 10, 17, 13⟩] (htab.trans rfl) (fun _ h9 => absurd h9 List.not_mem_nil) (by decide) (by decide) (hts _ (wy_in qL_L_28)) (va_Nw.use rfl hE.2.2.2.2.2.2.1) (fun q H locs hw => ?_)
  refine lv_astore hx hb dL_member_13 hl (by decide) rfl (fun ls hl => ?_)
  refine lv_iconst (v := (nI 1)) hx hb dL_member_15 (by decide) ?_
  exact l_ret hx hb hr hlocks hw dL_member_16 (by decide) (by decide)
set_option maxHeartbeats 4000000 in
set_option maxRecDepth 100000 in
theorem tL_member_1 (l : Launch) (hfl : l.stackTraces = false) (G : mG) {C D : mM} {f : Nat → Int32} {a1 : Int32} {a2 : Int32} (hN : gN G = 325) (hR : isWR G 0) (h : pX6_member a1 a2 C = some (.inr "java/lang/IllegalArgumentException")) : ML l G yL_member (wy yL_member cL_member 5 (some .int) [(0, 10, 13, 28), (0, 10, 17, 13)]) [.ref (gA G 0), .int a1, .int a2, .ref (gA G 324)] (lM C D f) (lM C D f) (nI 2) := by
  have hC := xX6_member l hfl G (β := 0) (M := lM C D f) (by omega) hR h
  simp only [lM_C] at hC
  refine l_of (cc := cL_member) (by decide) (Nat.le_of_ble_eq_true rfl) ?_
  intro p e s m args below meth c H ls hx hb hr hts hown hml hlocks htab hE hNc hw hl
  have hl : lv_has ls 5 [(0, .ref (gA G 0)), (1, .int a1), (2, .int a2), (3, .ref (gA G 324))] := hl
  refine lv_aload_n hx hb dL_member_0 rfl (lv_at hl 3 rfl) ?_
  refine lv_iconst (v := (nI 0)) hx hb dL_member_1 (by decide) ?_
  refine lv_aload_n hx hb dL_member_2 rfl (lv_at hl 0 rfl) ?_
  refine lv_iload_n hx hb dL_member_3 rfl (lv_at hl 1 rfl) ?_
  refine lv_iload_n hx hb dL_member_4 rfl (lv_at hl 2 rfl) ?_
  refine l_callX (As := [.int a1, .int a2]) (rest := [.int (nI 0), .ref (gA G 324)]) hx hb hml hown hts hE hw hl hC (cwV 2 hts (yV gV_L_30) rfl rfl rfl kdX6_member ⟨Nat.le_of_ble_eq_true rfl, Nat.le_of_ble_eq_true rfl⟩) (by omega) (congrFun hR.1 _) rfl rfl rfl rfl (Nat.le_of_ble_eq_true rfl) dL_member_5 ⟨by decide, by decide⟩ [⟨0, 10, 13, 28⟩] ⟨0, 10, 17, 13⟩ [] (htab.trans rfl) (fun z hz => by
      rcases List.mem_cons.mp hz with rfl | hz
      · exact Or.inr ⟨by decide, _, hts _ (wy_in qL_L_28), hNc.1⟩
      cases hz) (by decide) (by decide) (hts _ (wy_in qL_L_13)) (va_Nw.use rfl hE.2.2.2.2.2.2.2.1) (fun q H locs hw => ?_)
  refine lv_astore hx hb dL_member_17 hl (by decide) rfl (fun ls hl => ?_)
  refine lv_iconst (v := (nI 2)) hx hb dL_member_19 (by decide) ?_
  exact l_ret hx hb hr hlocks hw dL_member_20 (by decide) (by decide)
set_option maxHeartbeats 4000000 in
set_option maxRecDepth 100000 in
theorem nL_vehicle (l : Launch) (G : mG) {C D : mM} {f : Nat → Int32} {a1 : Int32} {a2 : Int32} {r : Int32} (hN : gN G = 325) (hR : isWR G 0) (hO : gK G 324 = aJ G) (h : pX6_vehicle a1 a2 C = some (.inl r)) : ML l G yL_vehicle (wy yL_vehicle cL_vehicle 5 (some .int) [(0, 10, 13, 28), (0, 10, 17, 13)]) [.ref (gA G 0), .int a1, .int a2, .ref (gA G 324)] (lM C D f) (lM C D (upd f 0 r)) (nI 0) := by
  have hC := mX6_vehicle l G (β := 0) (M := lM C D f) (by omega) hR h
  simp only [lM_C] at hC
  refine l_of (cc := cL_vehicle) (by decide) (Nat.le_of_ble_eq_true rfl) ?_
  intro p e s m args below meth c H ls hx hb hr hts hown hml hlocks htab hE hNc hw hl
  have hl : lv_has ls 5 [(0, .ref (gA G 0)), (1, .int a1), (2, .int a2), (3, .ref (gA G 324))] := hl
  refine lv_aload_n hx hb dL_vehicle_0 rfl (lv_at hl 3 rfl) ?_
  refine lv_iconst (v := (nI 0)) hx hb dL_vehicle_1 (by decide) ?_
  refine lv_aload_n hx hb dL_vehicle_2 rfl (lv_at hl 0 rfl) ?_
  refine lv_iload_n hx hb dL_vehicle_3 rfl (lv_at hl 1 rfl) ?_
  refine lv_iload_n hx hb dL_vehicle_4 rfl (lv_at hl 2 rfl) ?_
  refine r_callV (As := [.int a1, .int a2]) (rest := [.int (nI 0), .ref (gA G 324)]) (st1 := .int r :: [.int (nI 0), .ref (gA G 324)]) hx hb hml hown hts hE hw hl hC (cwV 2 hts (yV gV_L_33) rfl rfl rfl kdX6_vehicle ⟨Nat.le_of_ble_eq_true rfl, Nat.le_of_ble_eq_true rfl⟩) (by omega) (congrFun hR.1 _) rfl rfl rfl rfl (Nat.le_of_ble_eq_true rfl) dL_vehicle_5 ⟨Nat.zero_le _, Nat.zero_le _⟩ rfl (fun H locs hw => ?_)
  refine lv_i2l hx hb dL_vehicle_8 rfl ?_
  refine l_last hx hb hE hw hN hO dL_vehicle_9 (fun H locs hw => ?_)
  refine lv_goto (tgt := 21) hx hb dL_vehicle_10 (by decide) ?_
  refine lv_iconst (v := (nI 0)) hx hb dL_vehicle_21 (by decide) ?_
  exact l_ret hx hb hr hlocks hw dL_vehicle_22 (by decide) (by decide)
set_option maxHeartbeats 4000000 in
set_option maxRecDepth 100000 in
theorem tL_vehicle_0 (l : Launch) (hfl : l.stackTraces = false) (G : mG) {C D : mM} {f : Nat → Int32} {a1 : Int32} {a2 : Int32} (hN : gN G = 325) (hR : isWR G 0) (h : pX6_vehicle a1 a2 C = some (.inr "java/lang/IndexOutOfBoundsException")) : ML l G yL_vehicle (wy yL_vehicle cL_vehicle 5 (some .int) [(0, 10, 13, 28), (0, 10, 17, 13)]) [.ref (gA G 0), .int a1, .int a2, .ref (gA G 324)] (lM C D f) (lM C D f) (nI 1) := by
  have hC := xX6_vehicle l hfl G (β := 0) (M := lM C D f) (by omega) hR h
  simp only [lM_C] at hC
  refine l_of (cc := cL_vehicle) (by decide) (Nat.le_of_ble_eq_true rfl) ?_
  intro p e s m args below meth c H ls hx hb hr hts hown hml hlocks htab hE hNc hw hl
  have hl : lv_has ls 5 [(0, .ref (gA G 0)), (1, .int a1), (2, .int a2), (3, .ref (gA G 324))] := hl
  refine lv_aload_n hx hb dL_vehicle_0 rfl (lv_at hl 3 rfl) ?_
  refine lv_iconst (v := (nI 0)) hx hb dL_vehicle_1 (by decide) ?_
  refine lv_aload_n hx hb dL_vehicle_2 rfl (lv_at hl 0 rfl) ?_
  refine lv_iload_n hx hb dL_vehicle_3 rfl (lv_at hl 1 rfl) ?_
  refine lv_iload_n hx hb dL_vehicle_4 rfl (lv_at hl 2 rfl) ?_
  refine l_callX (As := [.int a1, .int a2]) (rest := [.int (nI 0), .ref (gA G 324)]) hx hb hml hown hts hE hw hl hC (cwV 2 hts (yV gV_L_33) rfl rfl rfl kdX6_vehicle ⟨Nat.le_of_ble_eq_true rfl, Nat.le_of_ble_eq_true rfl⟩) (by omega) (congrFun hR.1 _) rfl rfl rfl rfl (Nat.le_of_ble_eq_true rfl) dL_vehicle_5 ⟨by decide, by decide⟩ [] ⟨0, 10, 13, 28⟩ [⟨0, 10, 17, 13⟩] (htab.trans rfl) (fun _ h9 => absurd h9 List.not_mem_nil) (by decide) (by decide) (hts _ (wy_in qL_L_28)) (va_Nw.use rfl hE.2.2.2.2.2.2.1) (fun q H locs hw => ?_)
  refine lv_astore hx hb dL_vehicle_13 hl (by decide) rfl (fun ls hl => ?_)
  refine lv_iconst (v := (nI 1)) hx hb dL_vehicle_15 (by decide) ?_
  exact l_ret hx hb hr hlocks hw dL_vehicle_16 (by decide) (by decide)
set_option maxHeartbeats 4000000 in
set_option maxRecDepth 100000 in
theorem tL_vehicle_1 (l : Launch) (hfl : l.stackTraces = false) (G : mG) {C D : mM} {f : Nat → Int32} {a1 : Int32} {a2 : Int32} (hN : gN G = 325) (hR : isWR G 0) (h : pX6_vehicle a1 a2 C = some (.inr "java/lang/IllegalArgumentException")) : ML l G yL_vehicle (wy yL_vehicle cL_vehicle 5 (some .int) [(0, 10, 13, 28), (0, 10, 17, 13)]) [.ref (gA G 0), .int a1, .int a2, .ref (gA G 324)] (lM C D f) (lM C D f) (nI 2) := by
  have hC := xX6_vehicle l hfl G (β := 0) (M := lM C D f) (by omega) hR h
  simp only [lM_C] at hC
  refine l_of (cc := cL_vehicle) (by decide) (Nat.le_of_ble_eq_true rfl) ?_
  intro p e s m args below meth c H ls hx hb hr hts hown hml hlocks htab hE hNc hw hl
  have hl : lv_has ls 5 [(0, .ref (gA G 0)), (1, .int a1), (2, .int a2), (3, .ref (gA G 324))] := hl
  refine lv_aload_n hx hb dL_vehicle_0 rfl (lv_at hl 3 rfl) ?_
  refine lv_iconst (v := (nI 0)) hx hb dL_vehicle_1 (by decide) ?_
  refine lv_aload_n hx hb dL_vehicle_2 rfl (lv_at hl 0 rfl) ?_
  refine lv_iload_n hx hb dL_vehicle_3 rfl (lv_at hl 1 rfl) ?_
  refine lv_iload_n hx hb dL_vehicle_4 rfl (lv_at hl 2 rfl) ?_
  refine l_callX (As := [.int a1, .int a2]) (rest := [.int (nI 0), .ref (gA G 324)]) hx hb hml hown hts hE hw hl hC (cwV 2 hts (yV gV_L_33) rfl rfl rfl kdX6_vehicle ⟨Nat.le_of_ble_eq_true rfl, Nat.le_of_ble_eq_true rfl⟩) (by omega) (congrFun hR.1 _) rfl rfl rfl rfl (Nat.le_of_ble_eq_true rfl) dL_vehicle_5 ⟨by decide, by decide⟩ [⟨0, 10, 13, 28⟩] ⟨0, 10, 17, 13⟩ [] (htab.trans rfl) (fun z hz => by
      rcases List.mem_cons.mp hz with rfl | hz
      · exact Or.inr ⟨by decide, _, hts _ (wy_in qL_L_28), hNc.1⟩
      cases hz) (by decide) (by decide) (hts _ (wy_in qL_L_13)) (va_Nw.use rfl hE.2.2.2.2.2.2.2.1) (fun q H locs hw => ?_)
  refine lv_astore hx hb dL_vehicle_17 hl (by decide) rfl (fun ls hl => ?_)
  refine lv_iconst (v := (nI 2)) hx hb dL_vehicle_19 (by decide) ?_
  exact l_ret hx hb hr hlocks hw dL_vehicle_20 (by decide) (by decide)
set_option maxHeartbeats 4000000 in
set_option maxRecDepth 100000 in
theorem nL_gate (l : Launch) (G : mG) {C D : mM} {f : Nat → Int32} {a1 : Int32} {a2 : Int32} {r : Int32} (hN : gN G = 325) (hR : isWR G 0) (hO : gK G 324 = aJ G) (h : pX6_gate a1 a2 C = some (.inl r)) : ML l G yL_gate (wy yL_gate cL_gate 5 (some .int) [(0, 10, 13, 28), (0, 10, 17, 13)]) [.ref (gA G 0), .int a1, .int a2, .ref (gA G 324)] (lM C D f) (lM C D (upd f 0 r)) (nI 0) := by
  have hC := mX6_gate l G (β := 0) (M := lM C D f) (by omega) hR h
  simp only [lM_C] at hC
  refine l_of (cc := cL_gate) (by decide) (Nat.le_of_ble_eq_true rfl) ?_
  intro p e s m args below meth c H ls hx hb hr hts hown hml hlocks htab hE hNc hw hl
  have hl : lv_has ls 5 [(0, .ref (gA G 0)), (1, .int a1), (2, .int a2), (3, .ref (gA G 324))] := hl
  refine lv_aload_n hx hb dL_gate_0 rfl (lv_at hl 3 rfl) ?_
  refine lv_iconst (v := (nI 0)) hx hb dL_gate_1 (by decide) ?_
  refine lv_aload_n hx hb dL_gate_2 rfl (lv_at hl 0 rfl) ?_
  refine lv_iload_n hx hb dL_gate_3 rfl (lv_at hl 1 rfl) ?_
  refine lv_iload_n hx hb dL_gate_4 rfl (lv_at hl 2 rfl) ?_
  refine r_callV (As := [.int a1, .int a2]) (rest := [.int (nI 0), .ref (gA G 324)]) (st1 := .int r :: [.int (nI 0), .ref (gA G 324)]) hx hb hml hown hts hE hw hl hC (cwV 2 hts (yV gV_L_36) rfl rfl rfl kdX6_gate ⟨Nat.le_of_ble_eq_true rfl, Nat.le_of_ble_eq_true rfl⟩) (by omega) (congrFun hR.1 _) rfl rfl rfl rfl (Nat.le_of_ble_eq_true rfl) dL_gate_5 ⟨Nat.zero_le _, Nat.zero_le _⟩ rfl (fun H locs hw => ?_)
  refine lv_i2l hx hb dL_gate_8 rfl ?_
  refine l_last hx hb hE hw hN hO dL_gate_9 (fun H locs hw => ?_)
  refine lv_goto (tgt := 21) hx hb dL_gate_10 (by decide) ?_
  refine lv_iconst (v := (nI 0)) hx hb dL_gate_21 (by decide) ?_
  exact l_ret hx hb hr hlocks hw dL_gate_22 (by decide) (by decide)
set_option maxHeartbeats 4000000 in
set_option maxRecDepth 100000 in
theorem tL_gate_0 (l : Launch) (hfl : l.stackTraces = false) (G : mG) {C D : mM} {f : Nat → Int32} {a1 : Int32} {a2 : Int32} (hN : gN G = 325) (hR : isWR G 0) (h : pX6_gate a1 a2 C = some (.inr "java/lang/IndexOutOfBoundsException")) : ML l G yL_gate (wy yL_gate cL_gate 5 (some .int) [(0, 10, 13, 28), (0, 10, 17, 13)]) [.ref (gA G 0), .int a1, .int a2, .ref (gA G 324)] (lM C D f) (lM C D f) (nI 1) := by
  have hC := xX6_gate l hfl G (β := 0) (M := lM C D f) (by omega) hR h
  simp only [lM_C] at hC
  refine l_of (cc := cL_gate) (by decide) (Nat.le_of_ble_eq_true rfl) ?_
  intro p e s m args below meth c H ls hx hb hr hts hown hml hlocks htab hE hNc hw hl
  have hl : lv_has ls 5 [(0, .ref (gA G 0)), (1, .int a1), (2, .int a2), (3, .ref (gA G 324))] := hl
  refine lv_aload_n hx hb dL_gate_0 rfl (lv_at hl 3 rfl) ?_
  refine lv_iconst (v := (nI 0)) hx hb dL_gate_1 (by decide) ?_
  refine lv_aload_n hx hb dL_gate_2 rfl (lv_at hl 0 rfl) ?_
  refine lv_iload_n hx hb dL_gate_3 rfl (lv_at hl 1 rfl) ?_
  refine lv_iload_n hx hb dL_gate_4 rfl (lv_at hl 2 rfl) ?_
  refine l_callX (As := [.int a1, .int a2]) (rest := [.int (nI 0), .ref (gA G 324)]) hx hb hml hown hts hE hw hl hC (cwV 2 hts (yV gV_L_36) rfl rfl rfl kdX6_gate ⟨Nat.le_of_ble_eq_true rfl, Nat.le_of_ble_eq_true rfl⟩) (by omega) (congrFun hR.1 _) rfl rfl rfl rfl (Nat.le_of_ble_eq_true rfl) dL_gate_5 ⟨by decide, by decide⟩ [] ⟨0, 10, 13, 28⟩ [⟨0, 10, 17, 13⟩] (htab.trans rfl) (fun _ h9 => absurd h9 List.not_mem_nil) (by decide) (by decide) (hts _ (wy_in qL_L_28)) (va_Nw.use rfl hE.2.2.2.2.2.2.1) (fun q H locs hw => ?_)
  refine lv_astore hx hb dL_gate_13 hl (by decide) rfl (fun ls hl => ?_)
  refine lv_iconst (v := (nI 1)) hx hb dL_gate_15 (by decide) ?_
  exact l_ret hx hb hr hlocks hw dL_gate_16 (by decide) (by decide)
set_option maxHeartbeats 4000000 in
set_option maxRecDepth 100000 in
theorem tL_gate_1 (l : Launch) (hfl : l.stackTraces = false) (G : mG) {C D : mM} {f : Nat → Int32} {a1 : Int32} {a2 : Int32} (hN : gN G = 325) (hR : isWR G 0) (h : pX6_gate a1 a2 C = some (.inr "java/lang/IllegalArgumentException")) : ML l G yL_gate (wy yL_gate cL_gate 5 (some .int) [(0, 10, 13, 28), (0, 10, 17, 13)]) [.ref (gA G 0), .int a1, .int a2, .ref (gA G 324)] (lM C D f) (lM C D f) (nI 2) := by
  have hC := xX6_gate l hfl G (β := 0) (M := lM C D f) (by omega) hR h
  simp only [lM_C] at hC
  refine l_of (cc := cL_gate) (by decide) (Nat.le_of_ble_eq_true rfl) ?_
  intro p e s m args below meth c H ls hx hb hr hts hown hml hlocks htab hE hNc hw hl
  have hl : lv_has ls 5 [(0, .ref (gA G 0)), (1, .int a1), (2, .int a2), (3, .ref (gA G 324))] := hl
  refine lv_aload_n hx hb dL_gate_0 rfl (lv_at hl 3 rfl) ?_
  refine lv_iconst (v := (nI 0)) hx hb dL_gate_1 (by decide) ?_
  refine lv_aload_n hx hb dL_gate_2 rfl (lv_at hl 0 rfl) ?_
  refine lv_iload_n hx hb dL_gate_3 rfl (lv_at hl 1 rfl) ?_
  refine lv_iload_n hx hb dL_gate_4 rfl (lv_at hl 2 rfl) ?_
  refine l_callX (As := [.int a1, .int a2]) (rest := [.int (nI 0), .ref (gA G 324)]) hx hb hml hown hts hE hw hl hC (cwV 2 hts (yV gV_L_36) rfl rfl rfl kdX6_gate ⟨Nat.le_of_ble_eq_true rfl, Nat.le_of_ble_eq_true rfl⟩) (by omega) (congrFun hR.1 _) rfl rfl rfl rfl (Nat.le_of_ble_eq_true rfl) dL_gate_5 ⟨by decide, by decide⟩ [⟨0, 10, 13, 28⟩] ⟨0, 10, 17, 13⟩ [] (htab.trans rfl) (fun z hz => by
      rcases List.mem_cons.mp hz with rfl | hz
      · exact Or.inr ⟨by decide, _, hts _ (wy_in qL_L_28), hNc.1⟩
      cases hz) (by decide) (by decide) (hts _ (wy_in qL_L_13)) (va_Nw.use rfl hE.2.2.2.2.2.2.2.1) (fun q H locs hw => ?_)
  refine lv_astore hx hb dL_gate_17 hl (by decide) rfl (fun ls hl => ?_)
  refine lv_iconst (v := (nI 2)) hx hb dL_gate_19 (by decide) ?_
  exact l_ret hx hb hr hlocks hw dL_gate_20 (by decide) (by decide)
set_option maxHeartbeats 4000000 in
set_option maxRecDepth 100000 in
theorem nL_bay (l : Launch) (G : mG) {C D : mM} {f : Nat → Int32} {a1 : Int32} {a2 : Int32} {r : Int32} (hN : gN G = 325) (hR : isWR G 0) (hO : gK G 324 = aJ G) (h : pX6_bay a1 a2 C = some (.inl r)) : ML l G yL_bay (wy yL_bay cL_bay 5 (some .int) [(0, 10, 13, 28), (0, 10, 17, 13)]) [.ref (gA G 0), .int a1, .int a2, .ref (gA G 324)] (lM C D f) (lM C D (upd f 0 r)) (nI 0) := by
  have hC := mX6_bay l G (β := 0) (M := lM C D f) (by omega) hR h
  simp only [lM_C] at hC
  refine l_of (cc := cL_bay) (by decide) (Nat.le_of_ble_eq_true rfl) ?_
  intro p e s m args below meth c H ls hx hb hr hts hown hml hlocks htab hE hNc hw hl
  have hl : lv_has ls 5 [(0, .ref (gA G 0)), (1, .int a1), (2, .int a2), (3, .ref (gA G 324))] := hl
  refine lv_aload_n hx hb dL_bay_0 rfl (lv_at hl 3 rfl) ?_
  refine lv_iconst (v := (nI 0)) hx hb dL_bay_1 (by decide) ?_
  refine lv_aload_n hx hb dL_bay_2 rfl (lv_at hl 0 rfl) ?_
  refine lv_iload_n hx hb dL_bay_3 rfl (lv_at hl 1 rfl) ?_
  refine lv_iload_n hx hb dL_bay_4 rfl (lv_at hl 2 rfl) ?_
  refine r_callV (As := [.int a1, .int a2]) (rest := [.int (nI 0), .ref (gA G 324)]) (st1 := .int r :: [.int (nI 0), .ref (gA G 324)]) hx hb hml hown hts hE hw hl hC (cwV 2 hts (yV gV_L_39) rfl rfl rfl kdX6_bay ⟨Nat.le_of_ble_eq_true rfl, Nat.le_of_ble_eq_true rfl⟩) (by omega) (congrFun hR.1 _) rfl rfl rfl rfl (Nat.le_of_ble_eq_true rfl) dL_bay_5 ⟨Nat.zero_le _, Nat.zero_le _⟩ rfl (fun H locs hw => ?_)
  refine lv_i2l hx hb dL_bay_8 rfl ?_
  refine l_last hx hb hE hw hN hO dL_bay_9 (fun H locs hw => ?_)
  refine lv_goto (tgt := 21) hx hb dL_bay_10 (by decide) ?_
  refine lv_iconst (v := (nI 0)) hx hb dL_bay_21 (by decide) ?_
  exact l_ret hx hb hr hlocks hw dL_bay_22 (by decide) (by decide)
set_option maxHeartbeats 4000000 in
set_option maxRecDepth 100000 in
theorem tL_bay_0 (l : Launch) (hfl : l.stackTraces = false) (G : mG) {C D : mM} {f : Nat → Int32} {a1 : Int32} {a2 : Int32} (hN : gN G = 325) (hR : isWR G 0) (h : pX6_bay a1 a2 C = some (.inr "java/lang/IndexOutOfBoundsException")) : ML l G yL_bay (wy yL_bay cL_bay 5 (some .int) [(0, 10, 13, 28), (0, 10, 17, 13)]) [.ref (gA G 0), .int a1, .int a2, .ref (gA G 324)] (lM C D f) (lM C D f) (nI 1) := by
  have hC := xX6_bay l hfl G (β := 0) (M := lM C D f) (by omega) hR h
  simp only [lM_C] at hC
  refine l_of (cc := cL_bay) (by decide) (Nat.le_of_ble_eq_true rfl) ?_
  intro p e s m args below meth c H ls hx hb hr hts hown hml hlocks htab hE hNc hw hl
  have hl : lv_has ls 5 [(0, .ref (gA G 0)), (1, .int a1), (2, .int a2), (3, .ref (gA G 324))] := hl
  refine lv_aload_n hx hb dL_bay_0 rfl (lv_at hl 3 rfl) ?_
  refine lv_iconst (v := (nI 0)) hx hb dL_bay_1 (by decide) ?_
  refine lv_aload_n hx hb dL_bay_2 rfl (lv_at hl 0 rfl) ?_
  refine lv_iload_n hx hb dL_bay_3 rfl (lv_at hl 1 rfl) ?_
  refine lv_iload_n hx hb dL_bay_4 rfl (lv_at hl 2 rfl) ?_
  refine l_callX (As := [.int a1, .int a2]) (rest := [.int (nI 0), .ref (gA G 324)]) hx hb hml hown hts hE hw hl hC (cwV 2 hts (yV gV_L_39) rfl rfl rfl kdX6_bay ⟨Nat.le_of_ble_eq_true rfl, Nat.le_of_ble_eq_true rfl⟩) (by omega) (congrFun hR.1 _) rfl rfl rfl rfl (Nat.le_of_ble_eq_true rfl) dL_bay_5 ⟨by decide, by decide⟩ [] ⟨0, 10, 13, 28⟩ [⟨0, 10, 17, 13⟩] (htab.trans rfl) (fun _ h9 => absurd h9 List.not_mem_nil) (by decide) (by decide) (hts _ (wy_in qL_L_28)) (va_Nw.use rfl hE.2.2.2.2.2.2.1) (fun q H locs hw => ?_)
  refine lv_astore hx hb dL_bay_13 hl (by decide) rfl (fun ls hl => ?_)
  refine lv_iconst (v := (nI 1)) hx hb dL_bay_15 (by decide) ?_
  exact l_ret hx hb hr hlocks hw dL_bay_16 (by decide) (by decide)
set_option maxHeartbeats 4000000 in
set_option maxRecDepth 100000 in
theorem tL_bay_1 (l : Launch) (hfl : l.stackTraces = false) (G : mG) {C D : mM} {f : Nat → Int32} {a1 : Int32} {a2 : Int32} (hN : gN G = 325) (hR : isWR G 0) (h : pX6_bay a1 a2 C = some (.inr "java/lang/IllegalArgumentException")) : ML l G yL_bay (wy yL_bay cL_bay 5 (some .int) [(0, 10, 13, 28), (0, 10, 17, 13)]) [.ref (gA G 0), .int a1, .int a2, .ref (gA G 324)] (lM C D f) (lM C D f) (nI 2) := by
  have hC := xX6_bay l hfl G (β := 0) (M := lM C D f) (by omega) hR h
  simp only [lM_C] at hC
  refine l_of (cc := cL_bay) (by decide) (Nat.le_of_ble_eq_true rfl) ?_
  intro p e s m args below meth c H ls hx hb hr hts hown hml hlocks htab hE hNc hw hl
  have hl : lv_has ls 5 [(0, .ref (gA G 0)), (1, .int a1), (2, .int a2), (3, .ref (gA G 324))] := hl
  refine lv_aload_n hx hb dL_bay_0 rfl (lv_at hl 3 rfl) ?_
  refine lv_iconst (v := (nI 0)) hx hb dL_bay_1 (by decide) ?_
  refine lv_aload_n hx hb dL_bay_2 rfl (lv_at hl 0 rfl) ?_
  refine lv_iload_n hx hb dL_bay_3 rfl (lv_at hl 1 rfl) ?_
  refine lv_iload_n hx hb dL_bay_4 rfl (lv_at hl 2 rfl) ?_
  refine l_callX (As := [.int a1, .int a2]) (rest := [.int (nI 0), .ref (gA G 324)]) hx hb hml hown hts hE hw hl hC (cwV 2 hts (yV gV_L_39) rfl rfl rfl kdX6_bay ⟨Nat.le_of_ble_eq_true rfl, Nat.le_of_ble_eq_true rfl⟩) (by omega) (congrFun hR.1 _) rfl rfl rfl rfl (Nat.le_of_ble_eq_true rfl) dL_bay_5 ⟨by decide, by decide⟩ [⟨0, 10, 13, 28⟩] ⟨0, 10, 17, 13⟩ [] (htab.trans rfl) (fun z hz => by
      rcases List.mem_cons.mp hz with rfl | hz
      · exact Or.inr ⟨by decide, _, hts _ (wy_in qL_L_28), hNc.1⟩
      cases hz) (by decide) (by decide) (hts _ (wy_in qL_L_13)) (va_Nw.use rfl hE.2.2.2.2.2.2.2.1) (fun q H locs hw => ?_)
  refine lv_astore hx hb dL_bay_17 hl (by decide) rfl (fun ls hl => ?_)
  refine lv_iconst (v := (nI 2)) hx hb dL_bay_19 (by decide) ?_
  exact l_ret hx hb hr hlocks hw dL_bay_20 (by decide) (by decide)
set_option maxHeartbeats 4000000 in
set_option maxRecDepth 100000 in
theorem nL_depot (l : Launch) (G : mG) {C D : mM} {f : Nat → Int32} {a1 : Int32} {a2 : Int32} {r : Int32} (hN : gN G = 325) (hR : isWR G 0) (hO : gK G 324 = aJ G) (h : pX6_depot a1 a2 C = some (.inl r)) : ML l G yL_depot (wy yL_depot cL_depot 5 (some .int) [(0, 10, 13, 28), (0, 10, 17, 13)]) [.ref (gA G 0), .int a1, .int a2, .ref (gA G 324)] (lM C D f) (lM C D (upd f 0 r)) (nI 0) := by
  have hC := mX6_depot l G (β := 0) (M := lM C D f) (by omega) hR h
  simp only [lM_C] at hC
  refine l_of (cc := cL_depot) (by decide) (Nat.le_of_ble_eq_true rfl) ?_
  intro p e s m args below meth c H ls hx hb hr hts hown hml hlocks htab hE hNc hw hl
  have hl : lv_has ls 5 [(0, .ref (gA G 0)), (1, .int a1), (2, .int a2), (3, .ref (gA G 324))] := hl
  refine lv_aload_n hx hb dL_depot_0 rfl (lv_at hl 3 rfl) ?_
  refine lv_iconst (v := (nI 0)) hx hb dL_depot_1 (by decide) ?_
  refine lv_aload_n hx hb dL_depot_2 rfl (lv_at hl 0 rfl) ?_
  refine lv_iload_n hx hb dL_depot_3 rfl (lv_at hl 1 rfl) ?_
  refine lv_iload_n hx hb dL_depot_4 rfl (lv_at hl 2 rfl) ?_
  refine r_callV (As := [.int a1, .int a2]) (rest := [.int (nI 0), .ref (gA G 324)]) (st1 := .int r :: [.int (nI 0), .ref (gA G 324)]) hx hb hml hown hts hE hw hl hC (cwV 2 hts (yV gV_L_42) rfl rfl rfl kdX6_depot ⟨Nat.le_of_ble_eq_true rfl, Nat.le_of_ble_eq_true rfl⟩) (by omega) (congrFun hR.1 _) rfl rfl rfl rfl (Nat.le_of_ble_eq_true rfl) dL_depot_5 ⟨Nat.zero_le _, Nat.zero_le _⟩ rfl (fun H locs hw => ?_)
  refine lv_i2l hx hb dL_depot_8 rfl ?_
  refine l_last hx hb hE hw hN hO dL_depot_9 (fun H locs hw => ?_)
  refine lv_goto (tgt := 21) hx hb dL_depot_10 (by decide) ?_
  refine lv_iconst (v := (nI 0)) hx hb dL_depot_21 (by decide) ?_
  exact l_ret hx hb hr hlocks hw dL_depot_22 (by decide) (by decide)
set_option maxHeartbeats 4000000 in
set_option maxRecDepth 100000 in
theorem tL_depot_0 (l : Launch) (hfl : l.stackTraces = false) (G : mG) {C D : mM} {f : Nat → Int32} {a1 : Int32} {a2 : Int32} (hN : gN G = 325) (hR : isWR G 0) (h : pX6_depot a1 a2 C = some (.inr "java/lang/IndexOutOfBoundsException")) : ML l G yL_depot (wy yL_depot cL_depot 5 (some .int) [(0, 10, 13, 28), (0, 10, 17, 13)]) [.ref (gA G 0), .int a1, .int a2, .ref (gA G 324)] (lM C D f) (lM C D f) (nI 1) := by
  have hC := xX6_depot l hfl G (β := 0) (M := lM C D f) (by omega) hR h
  simp only [lM_C] at hC
  refine l_of (cc := cL_depot) (by decide) (Nat.le_of_ble_eq_true rfl) ?_
  intro p e s m args below meth c H ls hx hb hr hts hown hml hlocks htab hE hNc hw hl
  have hl : lv_has ls 5 [(0, .ref (gA G 0)), (1, .int a1), (2, .int a2), (3, .ref (gA G 324))] := hl
  refine lv_aload_n hx hb dL_depot_0 rfl (lv_at hl 3 rfl) ?_
  refine lv_iconst (v := (nI 0)) hx hb dL_depot_1 (by decide) ?_
  refine lv_aload_n hx hb dL_depot_2 rfl (lv_at hl 0 rfl) ?_
  refine lv_iload_n hx hb dL_depot_3 rfl (lv_at hl 1 rfl) ?_
  refine lv_iload_n hx hb dL_depot_4 rfl (lv_at hl 2 rfl) ?_
  refine l_callX (As := [.int a1, .int a2]) (rest := [.int (nI 0), .ref (gA G 324)]) hx hb hml hown hts hE hw hl hC (cwV 2 hts (yV gV_L_42) rfl rfl rfl kdX6_depot ⟨Nat.le_of_ble_eq_true rfl, Nat.le_of_ble_eq_true rfl⟩) (by omega) (congrFun hR.1 _) rfl rfl rfl rfl (Nat.le_of_ble_eq_true rfl) dL_depot_5 ⟨by decide, by decide⟩ [] ⟨0, 10, 13, 28⟩ [⟨0, 10, 17, 13⟩] (htab.trans rfl) (fun _ h9 => absurd h9 List.not_mem_nil) (by decide) (by decide) (hts _ (wy_in qL_L_28)) (va_Nw.use rfl hE.2.2.2.2.2.2.1) (fun q H locs hw => ?_)
  refine lv_astore hx hb dL_depot_13 hl (by decide) rfl (fun ls hl => ?_)
  refine lv_iconst (v := (nI 1)) hx hb dL_depot_15 (by decide) ?_
  exact l_ret hx hb hr hlocks hw dL_depot_16 (by decide) (by decide)
set_option maxHeartbeats 4000000 in
set_option maxRecDepth 100000 in
theorem tL_depot_1 (l : Launch) (hfl : l.stackTraces = false) (G : mG) {C D : mM} {f : Nat → Int32} {a1 : Int32} {a2 : Int32} (hN : gN G = 325) (hR : isWR G 0) (h : pX6_depot a1 a2 C = some (.inr "java/lang/IllegalArgumentException")) : ML l G yL_depot (wy yL_depot cL_depot 5 (some .int) [(0, 10, 13, 28), (0, 10, 17, 13)]) [.ref (gA G 0), .int a1, .int a2, .ref (gA G 324)] (lM C D f) (lM C D f) (nI 2) := by
  have hC := xX6_depot l hfl G (β := 0) (M := lM C D f) (by omega) hR h
  simp only [lM_C] at hC
  refine l_of (cc := cL_depot) (by decide) (Nat.le_of_ble_eq_true rfl) ?_
  intro p e s m args below meth c H ls hx hb hr hts hown hml hlocks htab hE hNc hw hl
  have hl : lv_has ls 5 [(0, .ref (gA G 0)), (1, .int a1), (2, .int a2), (3, .ref (gA G 324))] := hl
  refine lv_aload_n hx hb dL_depot_0 rfl (lv_at hl 3 rfl) ?_
  refine lv_iconst (v := (nI 0)) hx hb dL_depot_1 (by decide) ?_
  refine lv_aload_n hx hb dL_depot_2 rfl (lv_at hl 0 rfl) ?_
  refine lv_iload_n hx hb dL_depot_3 rfl (lv_at hl 1 rfl) ?_
  refine lv_iload_n hx hb dL_depot_4 rfl (lv_at hl 2 rfl) ?_
  refine l_callX (As := [.int a1, .int a2]) (rest := [.int (nI 0), .ref (gA G 324)]) hx hb hml hown hts hE hw hl hC (cwV 2 hts (yV gV_L_42) rfl rfl rfl kdX6_depot ⟨Nat.le_of_ble_eq_true rfl, Nat.le_of_ble_eq_true rfl⟩) (by omega) (congrFun hR.1 _) rfl rfl rfl rfl (Nat.le_of_ble_eq_true rfl) dL_depot_5 ⟨by decide, by decide⟩ [⟨0, 10, 13, 28⟩] ⟨0, 10, 17, 13⟩ [] (htab.trans rfl) (fun z hz => by
      rcases List.mem_cons.mp hz with rfl | hz
      · exact Or.inr ⟨by decide, _, hts _ (wy_in qL_L_28), hNc.1⟩
      cases hz) (by decide) (by decide) (hts _ (wy_in qL_L_13)) (va_Nw.use rfl hE.2.2.2.2.2.2.2.1) (fun q H locs hw => ?_)
  refine lv_astore hx hb dL_depot_17 hl (by decide) rfl (fun ls hl => ?_)
  refine lv_iconst (v := (nI 2)) hx hb dL_depot_19 (by decide) ?_
  exact l_ret hx hb hr hlocks hw dL_depot_20 (by decide) (by decide)
set_option maxHeartbeats 4000000 in
set_option maxRecDepth 100000 in
theorem nL_addGate (l : Launch) (G : mG) {C C' D : mM} {f : Nat → Int32} {a1 : Int32} {a2 : Int32} {a3 : Int32} {a4 : Int32} {r : Int32} (hN : gN G = 325) (hR : isWR G 0) (hO : gK G 324 = aJ G) (h : pX6_addGate a1 a2 a3 a4 C = some (.inl r, C')) : ML l G yL_addGate (wy yL_addGate cL_addGate 7 (some .int) [(0, 14, 17, 13), (0, 14, 21, 15)]) [.ref (gA G 0), .int a1, .int a2, .int a3, .int a4, .ref (gA G 324)] (lM C D f) (lM C' D (upd f 0 r)) (nI 0) := by
  have hC := mX6_addGate l G (β := 0) (M := lM C D f) (by omega) hR h
  simp only [lM_C] at hC
  refine l_of (cc := cL_addGate) (by decide) (Nat.le_of_ble_eq_true rfl) ?_
  intro p e s m args below meth c H ls hx hb hr hts hown hml hlocks htab hE hNc hw hl
  have hl : lv_has ls 7 [(0, .ref (gA G 0)), (1, .int a1), (2, .int a2), (3, .int a3), (4, .int a4), (5, .ref (gA G 324))] := hl
  refine lv_aload hx hb dL_addGate_0 (lv_at hl 5 rfl) ?_
  refine lv_iconst (v := (nI 0)) hx hb dL_addGate_2 (by decide) ?_
  refine lv_aload_n hx hb dL_addGate_3 rfl (lv_at hl 0 rfl) ?_
  refine lv_iload_n hx hb dL_addGate_4 rfl (lv_at hl 1 rfl) ?_
  refine lv_iload_n hx hb dL_addGate_5 rfl (lv_at hl 2 rfl) ?_
  refine lv_iload_n hx hb dL_addGate_6 rfl (lv_at hl 3 rfl) ?_
  refine lv_iload hx hb dL_addGate_7 (lv_at hl 4 rfl) ?_
  refine r_callV (As := [.int a1, .int a2, .int a3, .int a4]) (rest := [.int (nI 0), .ref (gA G 324)]) (st1 := .int r :: [.int (nI 0), .ref (gA G 324)]) hx hb hml hown hts hE hw hl hC (cwV 4 hts (yV gV_L_45) rfl rfl rfl kdX6_addGate ⟨Nat.le_of_ble_eq_true rfl, Nat.le_of_ble_eq_true rfl⟩) (by omega) (congrFun hR.1 _) rfl rfl rfl rfl (Nat.le_of_ble_eq_true rfl) dL_addGate_9 ⟨Nat.zero_le _, Nat.zero_le _⟩ rfl (fun H locs hw => ?_)
  refine lv_i2l hx hb dL_addGate_12 rfl ?_
  refine l_last hx hb hE hw hN hO dL_addGate_13 (fun H locs hw => ?_)
  refine lv_goto (tgt := 25) hx hb dL_addGate_14 (by decide) ?_
  refine lv_iconst (v := (nI 0)) hx hb dL_addGate_25 (by decide) ?_
  exact l_ret hx hb hr hlocks hw dL_addGate_26 (by decide) (by decide)
set_option maxHeartbeats 4000000 in
set_option maxRecDepth 100000 in
theorem tL_addGate_0 (l : Launch) (hfl : l.stackTraces = false) (G : mG) {C C' D : mM} {f : Nat → Int32} {a1 : Int32} {a2 : Int32} {a3 : Int32} {a4 : Int32} (hN : gN G = 325) (hR : isWR G 0) (h : pX6_addGate a1 a2 a3 a4 C = some (.inr "java/lang/IllegalArgumentException", C')) : ML l G yL_addGate (wy yL_addGate cL_addGate 7 (some .int) [(0, 14, 17, 13), (0, 14, 21, 15)]) [.ref (gA G 0), .int a1, .int a2, .int a3, .int a4, .ref (gA G 324)] (lM C D f) (lM C' D f) (nI 1) := by
  have hC := xX6_addGate l hfl G (β := 0) (M := lM C D f) (by omega) hR h
  simp only [lM_C] at hC
  refine l_of (cc := cL_addGate) (by decide) (Nat.le_of_ble_eq_true rfl) ?_
  intro p e s m args below meth c H ls hx hb hr hts hown hml hlocks htab hE hNc hw hl
  have hl : lv_has ls 7 [(0, .ref (gA G 0)), (1, .int a1), (2, .int a2), (3, .int a3), (4, .int a4), (5, .ref (gA G 324))] := hl
  refine lv_aload hx hb dL_addGate_0 (lv_at hl 5 rfl) ?_
  refine lv_iconst (v := (nI 0)) hx hb dL_addGate_2 (by decide) ?_
  refine lv_aload_n hx hb dL_addGate_3 rfl (lv_at hl 0 rfl) ?_
  refine lv_iload_n hx hb dL_addGate_4 rfl (lv_at hl 1 rfl) ?_
  refine lv_iload_n hx hb dL_addGate_5 rfl (lv_at hl 2 rfl) ?_
  refine lv_iload_n hx hb dL_addGate_6 rfl (lv_at hl 3 rfl) ?_
  refine lv_iload hx hb dL_addGate_7 (lv_at hl 4 rfl) ?_
  refine l_callX (As := [.int a1, .int a2, .int a3, .int a4]) (rest := [.int (nI 0), .ref (gA G 324)]) hx hb hml hown hts hE hw hl hC (cwV 4 hts (yV gV_L_45) rfl rfl rfl kdX6_addGate ⟨Nat.le_of_ble_eq_true rfl, Nat.le_of_ble_eq_true rfl⟩) (by omega) (congrFun hR.1 _) rfl rfl rfl rfl (Nat.le_of_ble_eq_true rfl) dL_addGate_9 ⟨by decide, by decide⟩ [] ⟨0, 14, 17, 13⟩ [⟨0, 14, 21, 15⟩] (htab.trans rfl) (fun _ h9 => absurd h9 List.not_mem_nil) (by decide) (by decide) (hts _ (wy_in qL_L_13)) (va_Nw.use rfl hE.2.2.2.2.2.2.2.1) (fun q H locs hw => ?_)
  refine lv_astore hx hb dL_addGate_17 hl (by decide) rfl (fun ls hl => ?_)
  refine lv_iconst (v := (nI 1)) hx hb dL_addGate_19 (by decide) ?_
  exact l_ret hx hb hr hlocks hw dL_addGate_20 (by decide) (by decide)
set_option maxHeartbeats 4000000 in
set_option maxRecDepth 100000 in
theorem tL_addGate_1 (l : Launch) (hfl : l.stackTraces = false) (G : mG) {C C' D : mM} {f : Nat → Int32} {a1 : Int32} {a2 : Int32} {a3 : Int32} {a4 : Int32} (hN : gN G = 325) (hR : isWR G 0) (h : pX6_addGate a1 a2 a3 a4 C = some (.inr "java/lang/IllegalStateException", C')) : ML l G yL_addGate (wy yL_addGate cL_addGate 7 (some .int) [(0, 14, 17, 13), (0, 14, 21, 15)]) [.ref (gA G 0), .int a1, .int a2, .int a3, .int a4, .ref (gA G 324)] (lM C D f) (lM C' D f) (nI 2) := by
  have hC := xX6_addGate l hfl G (β := 0) (M := lM C D f) (by omega) hR h
  simp only [lM_C] at hC
  refine l_of (cc := cL_addGate) (by decide) (Nat.le_of_ble_eq_true rfl) ?_
  intro p e s m args below meth c H ls hx hb hr hts hown hml hlocks htab hE hNc hw hl
  have hl : lv_has ls 7 [(0, .ref (gA G 0)), (1, .int a1), (2, .int a2), (3, .int a3), (4, .int a4), (5, .ref (gA G 324))] := hl
  refine lv_aload hx hb dL_addGate_0 (lv_at hl 5 rfl) ?_
  refine lv_iconst (v := (nI 0)) hx hb dL_addGate_2 (by decide) ?_
  refine lv_aload_n hx hb dL_addGate_3 rfl (lv_at hl 0 rfl) ?_
  refine lv_iload_n hx hb dL_addGate_4 rfl (lv_at hl 1 rfl) ?_
  refine lv_iload_n hx hb dL_addGate_5 rfl (lv_at hl 2 rfl) ?_
  refine lv_iload_n hx hb dL_addGate_6 rfl (lv_at hl 3 rfl) ?_
  refine lv_iload hx hb dL_addGate_7 (lv_at hl 4 rfl) ?_
  refine l_callX (As := [.int a1, .int a2, .int a3, .int a4]) (rest := [.int (nI 0), .ref (gA G 324)]) hx hb hml hown hts hE hw hl hC (cwV 4 hts (yV gV_L_45) rfl rfl rfl kdX6_addGate ⟨Nat.le_of_ble_eq_true rfl, Nat.le_of_ble_eq_true rfl⟩) (by omega) (congrFun hR.1 _) rfl rfl rfl rfl (Nat.le_of_ble_eq_true rfl) dL_addGate_9 ⟨by decide, by decide⟩ [⟨0, 14, 17, 13⟩] ⟨0, 14, 21, 15⟩ [] (htab.trans rfl) (fun z hz => by
      rcases List.mem_cons.mp hz with rfl | hz
      · exact Or.inr ⟨by decide, _, hts _ (wy_in qL_L_13), hNc.2.2⟩
      cases hz) (by decide) (by decide) (hts _ (wy_in qL_L_15)) (va_Nw.use rfl hE.2.2.2.2.2.2.2.2.1) (fun q H locs hw => ?_)
  refine lv_astore hx hb dL_addGate_21 hl (by decide) rfl (fun ls hl => ?_)
  refine lv_iconst (v := (nI 2)) hx hb dL_addGate_23 (by decide) ?_
  exact l_ret hx hb hr hlocks hw dL_addGate_24 (by decide) (by decide)
set_option maxHeartbeats 4000000 in
set_option maxRecDepth 100000 in
theorem nL_addBay (l : Launch) (G : mG) {C C' D : mM} {f : Nat → Int32} {a1 : Int32} {a2 : Int32} {r : Int32} (hN : gN G = 325) (hR : isWR G 0) (hO : gK G 324 = aJ G) (h : pX6_addBay a1 a2 C = some (.inl r, C')) : ML l G yL_addBay (wy yL_addBay cL_addBay 5 (some .int) [(0, 10, 13, 13), (0, 10, 17, 15)]) [.ref (gA G 0), .int a1, .int a2, .ref (gA G 324)] (lM C D f) (lM C' D (upd f 0 r)) (nI 0) := by
  have hC := mX6_addBay l G (β := 0) (M := lM C D f) (by omega) hR h
  simp only [lM_C] at hC
  refine l_of (cc := cL_addBay) (by decide) (Nat.le_of_ble_eq_true rfl) ?_
  intro p e s m args below meth c H ls hx hb hr hts hown hml hlocks htab hE hNc hw hl
  have hl : lv_has ls 5 [(0, .ref (gA G 0)), (1, .int a1), (2, .int a2), (3, .ref (gA G 324))] := hl
  refine lv_aload_n hx hb dL_addBay_0 rfl (lv_at hl 3 rfl) ?_
  refine lv_iconst (v := (nI 0)) hx hb dL_addBay_1 (by decide) ?_
  refine lv_aload_n hx hb dL_addBay_2 rfl (lv_at hl 0 rfl) ?_
  refine lv_iload_n hx hb dL_addBay_3 rfl (lv_at hl 1 rfl) ?_
  refine lv_iload_n hx hb dL_addBay_4 rfl (lv_at hl 2 rfl) ?_
  refine r_callV (As := [.int a1, .int a2]) (rest := [.int (nI 0), .ref (gA G 324)]) (st1 := .int r :: [.int (nI 0), .ref (gA G 324)]) hx hb hml hown hts hE hw hl hC (cwV 2 hts (yV gV_L_49) rfl rfl rfl kdX6_addBay ⟨Nat.le_of_ble_eq_true rfl, Nat.le_of_ble_eq_true rfl⟩) (by omega) (congrFun hR.1 _) rfl rfl rfl rfl (Nat.le_of_ble_eq_true rfl) dL_addBay_5 ⟨Nat.zero_le _, Nat.zero_le _⟩ rfl (fun H locs hw => ?_)
  refine lv_i2l hx hb dL_addBay_8 rfl ?_
  refine l_last hx hb hE hw hN hO dL_addBay_9 (fun H locs hw => ?_)
  refine lv_goto (tgt := 21) hx hb dL_addBay_10 (by decide) ?_
  refine lv_iconst (v := (nI 0)) hx hb dL_addBay_21 (by decide) ?_
  exact l_ret hx hb hr hlocks hw dL_addBay_22 (by decide) (by decide)
set_option maxHeartbeats 4000000 in
set_option maxRecDepth 100000 in
theorem tL_addBay_0 (l : Launch) (hfl : l.stackTraces = false) (G : mG) {C C' D : mM} {f : Nat → Int32} {a1 : Int32} {a2 : Int32} (hN : gN G = 325) (hR : isWR G 0) (h : pX6_addBay a1 a2 C = some (.inr "java/lang/IllegalArgumentException", C')) : ML l G yL_addBay (wy yL_addBay cL_addBay 5 (some .int) [(0, 10, 13, 13), (0, 10, 17, 15)]) [.ref (gA G 0), .int a1, .int a2, .ref (gA G 324)] (lM C D f) (lM C' D f) (nI 1) := by
  have hC := xX6_addBay l hfl G (β := 0) (M := lM C D f) (by omega) hR h
  simp only [lM_C] at hC
  refine l_of (cc := cL_addBay) (by decide) (Nat.le_of_ble_eq_true rfl) ?_
  intro p e s m args below meth c H ls hx hb hr hts hown hml hlocks htab hE hNc hw hl
  have hl : lv_has ls 5 [(0, .ref (gA G 0)), (1, .int a1), (2, .int a2), (3, .ref (gA G 324))] := hl
  refine lv_aload_n hx hb dL_addBay_0 rfl (lv_at hl 3 rfl) ?_
  refine lv_iconst (v := (nI 0)) hx hb dL_addBay_1 (by decide) ?_
  refine lv_aload_n hx hb dL_addBay_2 rfl (lv_at hl 0 rfl) ?_
  refine lv_iload_n hx hb dL_addBay_3 rfl (lv_at hl 1 rfl) ?_
  refine lv_iload_n hx hb dL_addBay_4 rfl (lv_at hl 2 rfl) ?_
  refine l_callX (As := [.int a1, .int a2]) (rest := [.int (nI 0), .ref (gA G 324)]) hx hb hml hown hts hE hw hl hC (cwV 2 hts (yV gV_L_49) rfl rfl rfl kdX6_addBay ⟨Nat.le_of_ble_eq_true rfl, Nat.le_of_ble_eq_true rfl⟩) (by omega) (congrFun hR.1 _) rfl rfl rfl rfl (Nat.le_of_ble_eq_true rfl) dL_addBay_5 ⟨by decide, by decide⟩ [] ⟨0, 10, 13, 13⟩ [⟨0, 10, 17, 15⟩] (htab.trans rfl) (fun _ h9 => absurd h9 List.not_mem_nil) (by decide) (by decide) (hts _ (wy_in qL_L_13)) (va_Nw.use rfl hE.2.2.2.2.2.2.2.1) (fun q H locs hw => ?_)
  refine lv_astore hx hb dL_addBay_13 hl (by decide) rfl (fun ls hl => ?_)
  refine lv_iconst (v := (nI 1)) hx hb dL_addBay_15 (by decide) ?_
  exact l_ret hx hb hr hlocks hw dL_addBay_16 (by decide) (by decide)
set_option maxHeartbeats 4000000 in
set_option maxRecDepth 100000 in
theorem tL_addBay_1 (l : Launch) (hfl : l.stackTraces = false) (G : mG) {C C' D : mM} {f : Nat → Int32} {a1 : Int32} {a2 : Int32} (hN : gN G = 325) (hR : isWR G 0) (h : pX6_addBay a1 a2 C = some (.inr "java/lang/IllegalStateException", C')) : ML l G yL_addBay (wy yL_addBay cL_addBay 5 (some .int) [(0, 10, 13, 13), (0, 10, 17, 15)]) [.ref (gA G 0), .int a1, .int a2, .ref (gA G 324)] (lM C D f) (lM C' D f) (nI 2) := by
  have hC := xX6_addBay l hfl G (β := 0) (M := lM C D f) (by omega) hR h
  simp only [lM_C] at hC
  refine l_of (cc := cL_addBay) (by decide) (Nat.le_of_ble_eq_true rfl) ?_
  intro p e s m args below meth c H ls hx hb hr hts hown hml hlocks htab hE hNc hw hl
  have hl : lv_has ls 5 [(0, .ref (gA G 0)), (1, .int a1), (2, .int a2), (3, .ref (gA G 324))] := hl
  refine lv_aload_n hx hb dL_addBay_0 rfl (lv_at hl 3 rfl) ?_
  refine lv_iconst (v := (nI 0)) hx hb dL_addBay_1 (by decide) ?_
  refine lv_aload_n hx hb dL_addBay_2 rfl (lv_at hl 0 rfl) ?_
  refine lv_iload_n hx hb dL_addBay_3 rfl (lv_at hl 1 rfl) ?_
  refine lv_iload_n hx hb dL_addBay_4 rfl (lv_at hl 2 rfl) ?_
  refine l_callX (As := [.int a1, .int a2]) (rest := [.int (nI 0), .ref (gA G 324)]) hx hb hml hown hts hE hw hl hC (cwV 2 hts (yV gV_L_49) rfl rfl rfl kdX6_addBay ⟨Nat.le_of_ble_eq_true rfl, Nat.le_of_ble_eq_true rfl⟩) (by omega) (congrFun hR.1 _) rfl rfl rfl rfl (Nat.le_of_ble_eq_true rfl) dL_addBay_5 ⟨by decide, by decide⟩ [⟨0, 10, 13, 13⟩] ⟨0, 10, 17, 15⟩ [] (htab.trans rfl) (fun z hz => by
      rcases List.mem_cons.mp hz with rfl | hz
      · exact Or.inr ⟨by decide, _, hts _ (wy_in qL_L_13), hNc.2.2⟩
      cases hz) (by decide) (by decide) (hts _ (wy_in qL_L_15)) (va_Nw.use rfl hE.2.2.2.2.2.2.2.2.1) (fun q H locs hw => ?_)
  refine lv_astore hx hb dL_addBay_17 hl (by decide) rfl (fun ls hl => ?_)
  refine lv_iconst (v := (nI 2)) hx hb dL_addBay_19 (by decide) ?_
  exact l_ret hx hb hr hlocks hw dL_addBay_20 (by decide) (by decide)
set_option maxHeartbeats 4000000 in
set_option maxRecDepth 100000 in
theorem nL_addDepot (l : Launch) (G : mG) {C C' D : mM} {f : Nat → Int32} {a1 : Int32} {a2 : Int32} {r : Int32} (hN : gN G = 325) (hR : isWR G 0) (hO : gK G 324 = aJ G) (h : pX6_addDepot a1 a2 C = some (.inl r, C')) : ML l G yL_addDepot (wy yL_addDepot cL_addDepot 5 (some .int) [(0, 10, 13, 13), (0, 10, 17, 15)]) [.ref (gA G 0), .int a1, .int a2, .ref (gA G 324)] (lM C D f) (lM C' D (upd f 0 r)) (nI 0) := by
  have hC := mX6_addDepot l G (β := 0) (M := lM C D f) (by omega) hR h
  simp only [lM_C] at hC
  refine l_of (cc := cL_addDepot) (by decide) (Nat.le_of_ble_eq_true rfl) ?_
  intro p e s m args below meth c H ls hx hb hr hts hown hml hlocks htab hE hNc hw hl
  have hl : lv_has ls 5 [(0, .ref (gA G 0)), (1, .int a1), (2, .int a2), (3, .ref (gA G 324))] := hl
  refine lv_aload_n hx hb dL_addDepot_0 rfl (lv_at hl 3 rfl) ?_
  refine lv_iconst (v := (nI 0)) hx hb dL_addDepot_1 (by decide) ?_
  refine lv_aload_n hx hb dL_addDepot_2 rfl (lv_at hl 0 rfl) ?_
  refine lv_iload_n hx hb dL_addDepot_3 rfl (lv_at hl 1 rfl) ?_
  refine lv_iload_n hx hb dL_addDepot_4 rfl (lv_at hl 2 rfl) ?_
  refine r_callV (As := [.int a1, .int a2]) (rest := [.int (nI 0), .ref (gA G 324)]) (st1 := .int r :: [.int (nI 0), .ref (gA G 324)]) hx hb hml hown hts hE hw hl hC (cwV 2 hts (yV gV_L_52) rfl rfl rfl kdX6_addDepot ⟨Nat.le_of_ble_eq_true rfl, Nat.le_of_ble_eq_true rfl⟩) (by omega) (congrFun hR.1 _) rfl rfl rfl rfl (Nat.le_of_ble_eq_true rfl) dL_addDepot_5 ⟨Nat.zero_le _, Nat.zero_le _⟩ rfl (fun H locs hw => ?_)
  refine lv_i2l hx hb dL_addDepot_8 rfl ?_
  refine l_last hx hb hE hw hN hO dL_addDepot_9 (fun H locs hw => ?_)
  refine lv_goto (tgt := 21) hx hb dL_addDepot_10 (by decide) ?_
  refine lv_iconst (v := (nI 0)) hx hb dL_addDepot_21 (by decide) ?_
  exact l_ret hx hb hr hlocks hw dL_addDepot_22 (by decide) (by decide)
set_option maxHeartbeats 4000000 in
set_option maxRecDepth 100000 in
theorem tL_addDepot_0 (l : Launch) (hfl : l.stackTraces = false) (G : mG) {C C' D : mM} {f : Nat → Int32} {a1 : Int32} {a2 : Int32} (hN : gN G = 325) (hR : isWR G 0) (h : pX6_addDepot a1 a2 C = some (.inr "java/lang/IllegalArgumentException", C')) : ML l G yL_addDepot (wy yL_addDepot cL_addDepot 5 (some .int) [(0, 10, 13, 13), (0, 10, 17, 15)]) [.ref (gA G 0), .int a1, .int a2, .ref (gA G 324)] (lM C D f) (lM C' D f) (nI 1) := by
  have hC := xX6_addDepot l hfl G (β := 0) (M := lM C D f) (by omega) hR h
  simp only [lM_C] at hC
  refine l_of (cc := cL_addDepot) (by decide) (Nat.le_of_ble_eq_true rfl) ?_
  intro p e s m args below meth c H ls hx hb hr hts hown hml hlocks htab hE hNc hw hl
  have hl : lv_has ls 5 [(0, .ref (gA G 0)), (1, .int a1), (2, .int a2), (3, .ref (gA G 324))] := hl
  refine lv_aload_n hx hb dL_addDepot_0 rfl (lv_at hl 3 rfl) ?_
  refine lv_iconst (v := (nI 0)) hx hb dL_addDepot_1 (by decide) ?_
  refine lv_aload_n hx hb dL_addDepot_2 rfl (lv_at hl 0 rfl) ?_
  refine lv_iload_n hx hb dL_addDepot_3 rfl (lv_at hl 1 rfl) ?_
  refine lv_iload_n hx hb dL_addDepot_4 rfl (lv_at hl 2 rfl) ?_
  refine l_callX (As := [.int a1, .int a2]) (rest := [.int (nI 0), .ref (gA G 324)]) hx hb hml hown hts hE hw hl hC (cwV 2 hts (yV gV_L_52) rfl rfl rfl kdX6_addDepot ⟨Nat.le_of_ble_eq_true rfl, Nat.le_of_ble_eq_true rfl⟩) (by omega) (congrFun hR.1 _) rfl rfl rfl rfl (Nat.le_of_ble_eq_true rfl) dL_addDepot_5 ⟨by decide, by decide⟩ [] ⟨0, 10, 13, 13⟩ [⟨0, 10, 17, 15⟩] (htab.trans rfl) (fun _ h9 => absurd h9 List.not_mem_nil) (by decide) (by decide) (hts _ (wy_in qL_L_13)) (va_Nw.use rfl hE.2.2.2.2.2.2.2.1) (fun q H locs hw => ?_)
  refine lv_astore hx hb dL_addDepot_13 hl (by decide) rfl (fun ls hl => ?_)
  refine lv_iconst (v := (nI 1)) hx hb dL_addDepot_15 (by decide) ?_
  exact l_ret hx hb hr hlocks hw dL_addDepot_16 (by decide) (by decide)
set_option maxHeartbeats 4000000 in
set_option maxRecDepth 100000 in
theorem tL_addDepot_1 (l : Launch) (hfl : l.stackTraces = false) (G : mG) {C C' D : mM} {f : Nat → Int32} {a1 : Int32} {a2 : Int32} (hN : gN G = 325) (hR : isWR G 0) (h : pX6_addDepot a1 a2 C = some (.inr "java/lang/IllegalStateException", C')) : ML l G yL_addDepot (wy yL_addDepot cL_addDepot 5 (some .int) [(0, 10, 13, 13), (0, 10, 17, 15)]) [.ref (gA G 0), .int a1, .int a2, .ref (gA G 324)] (lM C D f) (lM C' D f) (nI 2) := by
  have hC := xX6_addDepot l hfl G (β := 0) (M := lM C D f) (by omega) hR h
  simp only [lM_C] at hC
  refine l_of (cc := cL_addDepot) (by decide) (Nat.le_of_ble_eq_true rfl) ?_
  intro p e s m args below meth c H ls hx hb hr hts hown hml hlocks htab hE hNc hw hl
  have hl : lv_has ls 5 [(0, .ref (gA G 0)), (1, .int a1), (2, .int a2), (3, .ref (gA G 324))] := hl
  refine lv_aload_n hx hb dL_addDepot_0 rfl (lv_at hl 3 rfl) ?_
  refine lv_iconst (v := (nI 0)) hx hb dL_addDepot_1 (by decide) ?_
  refine lv_aload_n hx hb dL_addDepot_2 rfl (lv_at hl 0 rfl) ?_
  refine lv_iload_n hx hb dL_addDepot_3 rfl (lv_at hl 1 rfl) ?_
  refine lv_iload_n hx hb dL_addDepot_4 rfl (lv_at hl 2 rfl) ?_
  refine l_callX (As := [.int a1, .int a2]) (rest := [.int (nI 0), .ref (gA G 324)]) hx hb hml hown hts hE hw hl hC (cwV 2 hts (yV gV_L_52) rfl rfl rfl kdX6_addDepot ⟨Nat.le_of_ble_eq_true rfl, Nat.le_of_ble_eq_true rfl⟩) (by omega) (congrFun hR.1 _) rfl rfl rfl rfl (Nat.le_of_ble_eq_true rfl) dL_addDepot_5 ⟨by decide, by decide⟩ [⟨0, 10, 13, 13⟩] ⟨0, 10, 17, 15⟩ [] (htab.trans rfl) (fun z hz => by
      rcases List.mem_cons.mp hz with rfl | hz
      · exact Or.inr ⟨by decide, _, hts _ (wy_in qL_L_13), hNc.2.2⟩
      cases hz) (by decide) (by decide) (hts _ (wy_in qL_L_15)) (va_Nw.use rfl hE.2.2.2.2.2.2.2.2.1) (fun q H locs hw => ?_)
  refine lv_astore hx hb dL_addDepot_17 hl (by decide) rfl (fun ls hl => ?_)
  refine lv_iconst (v := (nI 2)) hx hb dL_addDepot_19 (by decide) ?_
  exact l_ret hx hb hr hlocks hw dL_addDepot_20 (by decide) (by decide)
set_option maxHeartbeats 4000000 in
set_option maxRecDepth 100000 in
theorem nL_addConvoy (l : Launch) (G : mG) {C C' D : mM} {f : Nat → Int32}  {r : Int32} (hN : gN G = 325) (hR : isWR G 0) (hO : gK G 324 = aJ G) (h : pX6_addConvoy  C = some (.inl r, C')) : ML l G yL_addConvoy (wy yL_addConvoy cL_addConvoy 3 (some .int) [(0, 8, 11, 15)]) [.ref (gA G 0), .ref (gA G 324)] (lM C D f) (lM C' D (upd f 0 r)) (nI 0) := by
  have hC := mX6_addConvoy l G (β := 0) (M := lM C D f) (by omega) hR h
  simp only [lM_C] at hC
  refine l_of (cc := cL_addConvoy) (by decide) (Nat.le_of_ble_eq_true rfl) ?_
  intro p e s m args below meth c H ls hx hb hr hts hown hml hlocks htab hE hNc hw hl
  have hl : lv_has ls 3 [(0, .ref (gA G 0)), (1, .ref (gA G 324))] := hl
  refine lv_aload_n hx hb dL_addConvoy_0 rfl (lv_at hl 1 rfl) ?_
  refine lv_iconst (v := (nI 0)) hx hb dL_addConvoy_1 (by decide) ?_
  refine lv_aload_n hx hb dL_addConvoy_2 rfl (lv_at hl 0 rfl) ?_
  refine r_callV (As := []) (rest := [.int (nI 0), .ref (gA G 324)]) (st1 := .int r :: [.int (nI 0), .ref (gA G 324)]) hx hb hml hown hts hE hw hl hC (cwV 0 hts (yV gV_L_55) rfl rfl rfl kdX6_addConvoy ⟨Nat.le_of_ble_eq_true rfl, Nat.le_of_ble_eq_true rfl⟩) (by omega) (congrFun hR.1 _) rfl rfl rfl rfl (Nat.le_of_ble_eq_true rfl) dL_addConvoy_3 ⟨Nat.zero_le _, Nat.zero_le _⟩ rfl (fun H locs hw => ?_)
  refine lv_i2l hx hb dL_addConvoy_6 rfl ?_
  refine l_last hx hb hE hw hN hO dL_addConvoy_7 (fun H locs hw => ?_)
  refine lv_goto (tgt := 14) hx hb dL_addConvoy_8 (by decide) ?_
  refine lv_iconst (v := (nI 0)) hx hb dL_addConvoy_14 (by decide) ?_
  exact l_ret hx hb hr hlocks hw dL_addConvoy_15 (by decide) (by decide)
set_option maxHeartbeats 4000000 in
set_option maxRecDepth 100000 in
theorem tL_addConvoy_0 (l : Launch) (hfl : l.stackTraces = false) (G : mG) {C C' D : mM} {f : Nat → Int32}  (hN : gN G = 325) (hR : isWR G 0) (h : pX6_addConvoy  C = some (.inr "java/lang/IllegalStateException", C')) : ML l G yL_addConvoy (wy yL_addConvoy cL_addConvoy 3 (some .int) [(0, 8, 11, 15)]) [.ref (gA G 0), .ref (gA G 324)] (lM C D f) (lM C' D f) (nI 1) := by
  have hC := xX6_addConvoy l hfl G (β := 0) (M := lM C D f) (by omega) hR h
  simp only [lM_C] at hC
  refine l_of (cc := cL_addConvoy) (by decide) (Nat.le_of_ble_eq_true rfl) ?_
  intro p e s m args below meth c H ls hx hb hr hts hown hml hlocks htab hE hNc hw hl
  have hl : lv_has ls 3 [(0, .ref (gA G 0)), (1, .ref (gA G 324))] := hl
  refine lv_aload_n hx hb dL_addConvoy_0 rfl (lv_at hl 1 rfl) ?_
  refine lv_iconst (v := (nI 0)) hx hb dL_addConvoy_1 (by decide) ?_
  refine lv_aload_n hx hb dL_addConvoy_2 rfl (lv_at hl 0 rfl) ?_
  refine l_callX (As := []) (rest := [.int (nI 0), .ref (gA G 324)]) hx hb hml hown hts hE hw hl hC (cwV 0 hts (yV gV_L_55) rfl rfl rfl kdX6_addConvoy ⟨Nat.le_of_ble_eq_true rfl, Nat.le_of_ble_eq_true rfl⟩) (by omega) (congrFun hR.1 _) rfl rfl rfl rfl (Nat.le_of_ble_eq_true rfl) dL_addConvoy_3 ⟨by decide, by decide⟩ [] ⟨0, 8, 11, 15⟩ [] (htab.trans rfl) (fun _ h9 => absurd h9 List.not_mem_nil) (by decide) (by decide) (hts _ (wy_in qL_L_15)) (va_Nw.use rfl hE.2.2.2.2.2.2.2.2.1) (fun q H locs hw => ?_)
  refine lv_astore_n hx hb dL_addConvoy_11 rfl hl (by decide) rfl (fun ls hl => ?_)
  refine lv_iconst (v := (nI 1)) hx hb dL_addConvoy_12 (by decide) ?_
  exact l_ret hx hb hr hlocks hw dL_addConvoy_13 (by decide) (by decide)
set_option maxHeartbeats 4000000 in
set_option maxRecDepth 100000 in
theorem nL_addVehicle (l : Launch) (G : mG) {C C' D : mM} {f : Nat → Int32} {a1 : Int32} {a2 : Int32} {a3 : Int32} {a4 : Int32} {a5 : Int32} {r : Int32} (hN : gN G = 325) (hR : isWR G 0) (hO : gK G 324 = aJ G) (h : pX6_addVehicle a1 a2 a3 a4 a5 C = some (.inl r, C')) : ML l G yL_addVehicle (wy yL_addVehicle cL_addVehicle 8 (some .int) [(0, 16, 19, 28), (0, 16, 23, 13), (0, 16, 27, 15)]) [.ref (gA G 0), .int a1, .int a2, .int a3, .int a4, .int a5, .ref (gA G 324)] (lM C D f) (lM C' D (upd f 0 r)) (nI 0) := by
  have hC := mX6_addVehicle l G (β := 0) (M := lM C D f) (by omega) hR h
  simp only [lM_C] at hC
  refine l_of (cc := cL_addVehicle) (by decide) (Nat.le_of_ble_eq_true rfl) ?_
  intro p e s m args below meth c H ls hx hb hr hts hown hml hlocks htab hE hNc hw hl
  have hl : lv_has ls 8 [(0, .ref (gA G 0)), (1, .int a1), (2, .int a2), (3, .int a3), (4, .int a4), (5, .int a5), (6, .ref (gA G 324))] := hl
  refine lv_aload hx hb dL_addVehicle_0 (lv_at hl 6 rfl) ?_
  refine lv_iconst (v := (nI 0)) hx hb dL_addVehicle_2 (by decide) ?_
  refine lv_aload_n hx hb dL_addVehicle_3 rfl (lv_at hl 0 rfl) ?_
  refine lv_iload_n hx hb dL_addVehicle_4 rfl (lv_at hl 1 rfl) ?_
  refine lv_iload_n hx hb dL_addVehicle_5 rfl (lv_at hl 2 rfl) ?_
  refine lv_iload_n hx hb dL_addVehicle_6 rfl (lv_at hl 3 rfl) ?_
  refine lv_iload hx hb dL_addVehicle_7 (lv_at hl 4 rfl) ?_
  refine lv_iload hx hb dL_addVehicle_9 (lv_at hl 5 rfl) ?_
  refine r_callV (As := [.int a1, .int a2, .int a3, .int a4, .int a5]) (rest := [.int (nI 0), .ref (gA G 324)]) (st1 := .int r :: [.int (nI 0), .ref (gA G 324)]) hx hb hml hown hts hE hw hl hC (cwV 5 hts (yV gV_L_58) rfl rfl rfl kdX6_addVehicle ⟨Nat.le_of_ble_eq_true rfl, Nat.le_of_ble_eq_true rfl⟩) (by omega) (congrFun hR.1 _) rfl rfl rfl rfl (Nat.le_of_ble_eq_true rfl) dL_addVehicle_11 ⟨Nat.zero_le _, Nat.zero_le _⟩ rfl (fun H locs hw => ?_)
  refine lv_i2l hx hb dL_addVehicle_14 rfl ?_
  refine l_last hx hb hE hw hN hO dL_addVehicle_15 (fun H locs hw => ?_)
  refine lv_goto (tgt := 31) hx hb dL_addVehicle_16 (by decide) ?_
  refine lv_iconst (v := (nI 0)) hx hb dL_addVehicle_31 (by decide) ?_
  exact l_ret hx hb hr hlocks hw dL_addVehicle_32 (by decide) (by decide)
set_option maxHeartbeats 4000000 in
set_option maxRecDepth 100000 in
theorem tL_addVehicle_0 (l : Launch) (hfl : l.stackTraces = false) (G : mG) {C C' D : mM} {f : Nat → Int32} {a1 : Int32} {a2 : Int32} {a3 : Int32} {a4 : Int32} {a5 : Int32} (hN : gN G = 325) (hR : isWR G 0) (h : pX6_addVehicle a1 a2 a3 a4 a5 C = some (.inr "java/lang/IndexOutOfBoundsException", C')) : ML l G yL_addVehicle (wy yL_addVehicle cL_addVehicle 8 (some .int) [(0, 16, 19, 28), (0, 16, 23, 13), (0, 16, 27, 15)]) [.ref (gA G 0), .int a1, .int a2, .int a3, .int a4, .int a5, .ref (gA G 324)] (lM C D f) (lM C' D f) (nI 1) := by
  have hC := xX6_addVehicle l hfl G (β := 0) (M := lM C D f) (by omega) hR h
  simp only [lM_C] at hC
  refine l_of (cc := cL_addVehicle) (by decide) (Nat.le_of_ble_eq_true rfl) ?_
  intro p e s m args below meth c H ls hx hb hr hts hown hml hlocks htab hE hNc hw hl
  have hl : lv_has ls 8 [(0, .ref (gA G 0)), (1, .int a1), (2, .int a2), (3, .int a3), (4, .int a4), (5, .int a5), (6, .ref (gA G 324))] := hl
  refine lv_aload hx hb dL_addVehicle_0 (lv_at hl 6 rfl) ?_
  refine lv_iconst (v := (nI 0)) hx hb dL_addVehicle_2 (by decide) ?_
  refine lv_aload_n hx hb dL_addVehicle_3 rfl (lv_at hl 0 rfl) ?_
  refine lv_iload_n hx hb dL_addVehicle_4 rfl (lv_at hl 1 rfl) ?_
  refine lv_iload_n hx hb dL_addVehicle_5 rfl (lv_at hl 2 rfl) ?_
  refine lv_iload_n hx hb dL_addVehicle_6 rfl (lv_at hl 3 rfl) ?_
  refine lv_iload hx hb dL_addVehicle_7 (lv_at hl 4 rfl) ?_
  refine lv_iload hx hb dL_addVehicle_9 (lv_at hl 5 rfl) ?_
  refine l_callX (As := [.int a1, .int a2, .int a3, .int a4, .int a5]) (rest := [.int (nI 0), .ref (gA G 324)]) hx hb hml hown hts hE hw hl hC (cwV 5 hts (yV gV_L_58) rfl rfl rfl kdX6_addVehicle ⟨Nat.le_of_ble_eq_true rfl, Nat.le_of_ble_eq_true rfl⟩) (by omega) (congrFun hR.1 _) rfl rfl rfl rfl (Nat.le_of_ble_eq_true rfl) dL_addVehicle_11 ⟨by decide, by decide⟩ [] ⟨0, 16, 19, 28⟩ [⟨0, 16, 23, 13⟩, ⟨0, 16, 27, 15⟩] (htab.trans rfl) (fun _ h9 => absurd h9 List.not_mem_nil) (by decide) (by decide) (hts _ (wy_in qL_L_28)) (va_Nw.use rfl hE.2.2.2.2.2.2.1) (fun q H locs hw => ?_)
  refine lv_astore hx hb dL_addVehicle_19 hl (by decide) rfl (fun ls hl => ?_)
  refine lv_iconst (v := (nI 1)) hx hb dL_addVehicle_21 (by decide) ?_
  exact l_ret hx hb hr hlocks hw dL_addVehicle_22 (by decide) (by decide)
set_option maxHeartbeats 4000000 in
set_option maxRecDepth 100000 in
theorem tL_addVehicle_1 (l : Launch) (hfl : l.stackTraces = false) (G : mG) {C C' D : mM} {f : Nat → Int32} {a1 : Int32} {a2 : Int32} {a3 : Int32} {a4 : Int32} {a5 : Int32} (hN : gN G = 325) (hR : isWR G 0) (h : pX6_addVehicle a1 a2 a3 a4 a5 C = some (.inr "java/lang/IllegalArgumentException", C')) : ML l G yL_addVehicle (wy yL_addVehicle cL_addVehicle 8 (some .int) [(0, 16, 19, 28), (0, 16, 23, 13), (0, 16, 27, 15)]) [.ref (gA G 0), .int a1, .int a2, .int a3, .int a4, .int a5, .ref (gA G 324)] (lM C D f) (lM C' D f) (nI 2) := by
  have hC := xX6_addVehicle l hfl G (β := 0) (M := lM C D f) (by omega) hR h
  simp only [lM_C] at hC
  refine l_of (cc := cL_addVehicle) (by decide) (Nat.le_of_ble_eq_true rfl) ?_
  intro p e s m args below meth c H ls hx hb hr hts hown hml hlocks htab hE hNc hw hl
  have hl : lv_has ls 8 [(0, .ref (gA G 0)), (1, .int a1), (2, .int a2), (3, .int a3), (4, .int a4), (5, .int a5), (6, .ref (gA G 324))] := hl
  refine lv_aload hx hb dL_addVehicle_0 (lv_at hl 6 rfl) ?_
  refine lv_iconst (v := (nI 0)) hx hb dL_addVehicle_2 (by decide) ?_
  refine lv_aload_n hx hb dL_addVehicle_3 rfl (lv_at hl 0 rfl) ?_
  refine lv_iload_n hx hb dL_addVehicle_4 rfl (lv_at hl 1 rfl) ?_
  refine lv_iload_n hx hb dL_addVehicle_5 rfl (lv_at hl 2 rfl) ?_
  refine lv_iload_n hx hb dL_addVehicle_6 rfl (lv_at hl 3 rfl) ?_
  refine lv_iload hx hb dL_addVehicle_7 (lv_at hl 4 rfl) ?_
  refine lv_iload hx hb dL_addVehicle_9 (lv_at hl 5 rfl) ?_
  refine l_callX (As := [.int a1, .int a2, .int a3, .int a4, .int a5]) (rest := [.int (nI 0), .ref (gA G 324)]) hx hb hml hown hts hE hw hl hC (cwV 5 hts (yV gV_L_58) rfl rfl rfl kdX6_addVehicle ⟨Nat.le_of_ble_eq_true rfl, Nat.le_of_ble_eq_true rfl⟩) (by omega) (congrFun hR.1 _) rfl rfl rfl rfl (Nat.le_of_ble_eq_true rfl) dL_addVehicle_11 ⟨by decide, by decide⟩ [⟨0, 16, 19, 28⟩] ⟨0, 16, 23, 13⟩ [⟨0, 16, 27, 15⟩] (htab.trans rfl) (fun z hz => by
      rcases List.mem_cons.mp hz with rfl | hz
      · exact Or.inr ⟨by decide, _, hts _ (wy_in qL_L_28), hNc.1⟩
      cases hz) (by decide) (by decide) (hts _ (wy_in qL_L_13)) (va_Nw.use rfl hE.2.2.2.2.2.2.2.1) (fun q H locs hw => ?_)
  refine lv_astore hx hb dL_addVehicle_23 hl (by decide) rfl (fun ls hl => ?_)
  refine lv_iconst (v := (nI 2)) hx hb dL_addVehicle_25 (by decide) ?_
  exact l_ret hx hb hr hlocks hw dL_addVehicle_26 (by decide) (by decide)
set_option maxHeartbeats 4000000 in
set_option maxRecDepth 100000 in
theorem tL_addVehicle_2 (l : Launch) (hfl : l.stackTraces = false) (G : mG) {C C' D : mM} {f : Nat → Int32} {a1 : Int32} {a2 : Int32} {a3 : Int32} {a4 : Int32} {a5 : Int32} (hN : gN G = 325) (hR : isWR G 0) (h : pX6_addVehicle a1 a2 a3 a4 a5 C = some (.inr "java/lang/IllegalStateException", C')) : ML l G yL_addVehicle (wy yL_addVehicle cL_addVehicle 8 (some .int) [(0, 16, 19, 28), (0, 16, 23, 13), (0, 16, 27, 15)]) [.ref (gA G 0), .int a1, .int a2, .int a3, .int a4, .int a5, .ref (gA G 324)] (lM C D f) (lM C' D f) (nI 3) := by
  have hC := xX6_addVehicle l hfl G (β := 0) (M := lM C D f) (by omega) hR h
  simp only [lM_C] at hC
  refine l_of (cc := cL_addVehicle) (by decide) (Nat.le_of_ble_eq_true rfl) ?_
  intro p e s m args below meth c H ls hx hb hr hts hown hml hlocks htab hE hNc hw hl
  have hl : lv_has ls 8 [(0, .ref (gA G 0)), (1, .int a1), (2, .int a2), (3, .int a3), (4, .int a4), (5, .int a5), (6, .ref (gA G 324))] := hl
  refine lv_aload hx hb dL_addVehicle_0 (lv_at hl 6 rfl) ?_
  refine lv_iconst (v := (nI 0)) hx hb dL_addVehicle_2 (by decide) ?_
  refine lv_aload_n hx hb dL_addVehicle_3 rfl (lv_at hl 0 rfl) ?_
  refine lv_iload_n hx hb dL_addVehicle_4 rfl (lv_at hl 1 rfl) ?_
  refine lv_iload_n hx hb dL_addVehicle_5 rfl (lv_at hl 2 rfl) ?_
  refine lv_iload_n hx hb dL_addVehicle_6 rfl (lv_at hl 3 rfl) ?_
  refine lv_iload hx hb dL_addVehicle_7 (lv_at hl 4 rfl) ?_
  refine lv_iload hx hb dL_addVehicle_9 (lv_at hl 5 rfl) ?_
  refine l_callX (As := [.int a1, .int a2, .int a3, .int a4, .int a5]) (rest := [.int (nI 0), .ref (gA G 324)]) hx hb hml hown hts hE hw hl hC (cwV 5 hts (yV gV_L_58) rfl rfl rfl kdX6_addVehicle ⟨Nat.le_of_ble_eq_true rfl, Nat.le_of_ble_eq_true rfl⟩) (by omega) (congrFun hR.1 _) rfl rfl rfl rfl (Nat.le_of_ble_eq_true rfl) dL_addVehicle_11 ⟨by decide, by decide⟩ [⟨0, 16, 19, 28⟩, ⟨0, 16, 23, 13⟩] ⟨0, 16, 27, 15⟩ [] (htab.trans rfl) (fun z hz => by
      rcases List.mem_cons.mp hz with rfl | hz
      · exact Or.inr ⟨by decide, _, hts _ (wy_in qL_L_28), hNc.2.1⟩
      rcases List.mem_cons.mp hz with rfl | hz
      · exact Or.inr ⟨by decide, _, hts _ (wy_in qL_L_13), hNc.2.2⟩
      cases hz) (by decide) (by decide) (hts _ (wy_in qL_L_15)) (va_Nw.use rfl hE.2.2.2.2.2.2.2.2.1) (fun q H locs hw => ?_)
  refine lv_astore hx hb dL_addVehicle_27 hl (by decide) rfl (fun ls hl => ?_)
  refine lv_iconst (v := (nI 3)) hx hb dL_addVehicle_29 (by decide) ?_
  exact l_ret hx hb hr hlocks hw dL_addVehicle_30 (by decide) (by decide)
set_option maxHeartbeats 4000000 in
set_option maxRecDepth 100000 in
theorem nL_hold (l : Launch) (G : mG) {C C' D : mM} {f : Nat → Int32} {a1 : Int32} {a2 : Int32} {r : Int32} (hN : gN G = 325) (hR : isWR G 0) (hO : gK G 324 = aJ G) (h : pX6_hold a1 a2 C = some (.inl r, C')) : ML l G yL_hold (wy yL_hold cL_hold 5 (some .int) [(0, 10, 13, 28), (0, 10, 17, 13)]) [.ref (gA G 0), .int a1, .int a2, .ref (gA G 324)] (lM C D f) (lM C' D (upd f 0 r)) (nI 0) := by
  have hC := mX6_hold l G (β := 0) (M := lM C D f) (by omega) hR h
  simp only [lM_C] at hC
  refine l_of (cc := cL_hold) (by decide) (Nat.le_of_ble_eq_true rfl) ?_
  intro p e s m args below meth c H ls hx hb hr hts hown hml hlocks htab hE hNc hw hl
  have hl : lv_has ls 5 [(0, .ref (gA G 0)), (1, .int a1), (2, .int a2), (3, .ref (gA G 324))] := hl
  refine lv_aload_n hx hb dL_hold_0 rfl (lv_at hl 3 rfl) ?_
  refine lv_iconst (v := (nI 0)) hx hb dL_hold_1 (by decide) ?_
  refine lv_aload_n hx hb dL_hold_2 rfl (lv_at hl 0 rfl) ?_
  refine lv_iload_n hx hb dL_hold_3 rfl (lv_at hl 1 rfl) ?_
  refine lv_iload_n hx hb dL_hold_4 rfl (lv_at hl 2 rfl) ?_
  refine r_callV (As := [.int a1, .int a2]) (rest := [.int (nI 0), .ref (gA G 324)]) (st1 := .int r :: [.int (nI 0), .ref (gA G 324)]) hx hb hml hown hts hE hw hl hC (cwV 2 hts (yV gV_L_62) rfl rfl rfl kdX6_hold ⟨Nat.le_of_ble_eq_true rfl, Nat.le_of_ble_eq_true rfl⟩) (by omega) (congrFun hR.1 _) rfl rfl rfl rfl (Nat.le_of_ble_eq_true rfl) dL_hold_5 ⟨Nat.zero_le _, Nat.zero_le _⟩ rfl (fun H locs hw => ?_)
  refine lv_i2l hx hb dL_hold_8 rfl ?_
  refine l_last hx hb hE hw hN hO dL_hold_9 (fun H locs hw => ?_)
  refine lv_goto (tgt := 21) hx hb dL_hold_10 (by decide) ?_
  refine lv_iconst (v := (nI 0)) hx hb dL_hold_21 (by decide) ?_
  exact l_ret hx hb hr hlocks hw dL_hold_22 (by decide) (by decide)
set_option maxHeartbeats 4000000 in
set_option maxRecDepth 100000 in
theorem tL_hold_0 (l : Launch) (hfl : l.stackTraces = false) (G : mG) {C C' D : mM} {f : Nat → Int32} {a1 : Int32} {a2 : Int32} (hN : gN G = 325) (hR : isWR G 0) (h : pX6_hold a1 a2 C = some (.inr "java/lang/IndexOutOfBoundsException", C')) : ML l G yL_hold (wy yL_hold cL_hold 5 (some .int) [(0, 10, 13, 28), (0, 10, 17, 13)]) [.ref (gA G 0), .int a1, .int a2, .ref (gA G 324)] (lM C D f) (lM C' D f) (nI 1) := by
  have hC := xX6_hold l hfl G (β := 0) (M := lM C D f) (by omega) hR h
  simp only [lM_C] at hC
  refine l_of (cc := cL_hold) (by decide) (Nat.le_of_ble_eq_true rfl) ?_
  intro p e s m args below meth c H ls hx hb hr hts hown hml hlocks htab hE hNc hw hl
  have hl : lv_has ls 5 [(0, .ref (gA G 0)), (1, .int a1), (2, .int a2), (3, .ref (gA G 324))] := hl
  refine lv_aload_n hx hb dL_hold_0 rfl (lv_at hl 3 rfl) ?_
  refine lv_iconst (v := (nI 0)) hx hb dL_hold_1 (by decide) ?_
  refine lv_aload_n hx hb dL_hold_2 rfl (lv_at hl 0 rfl) ?_
  refine lv_iload_n hx hb dL_hold_3 rfl (lv_at hl 1 rfl) ?_
  refine lv_iload_n hx hb dL_hold_4 rfl (lv_at hl 2 rfl) ?_
  refine l_callX (As := [.int a1, .int a2]) (rest := [.int (nI 0), .ref (gA G 324)]) hx hb hml hown hts hE hw hl hC (cwV 2 hts (yV gV_L_62) rfl rfl rfl kdX6_hold ⟨Nat.le_of_ble_eq_true rfl, Nat.le_of_ble_eq_true rfl⟩) (by omega) (congrFun hR.1 _) rfl rfl rfl rfl (Nat.le_of_ble_eq_true rfl) dL_hold_5 ⟨by decide, by decide⟩ [] ⟨0, 10, 13, 28⟩ [⟨0, 10, 17, 13⟩] (htab.trans rfl) (fun _ h9 => absurd h9 List.not_mem_nil) (by decide) (by decide) (hts _ (wy_in qL_L_28)) (va_Nw.use rfl hE.2.2.2.2.2.2.1) (fun q H locs hw => ?_)
  refine lv_astore hx hb dL_hold_13 hl (by decide) rfl (fun ls hl => ?_)
  refine lv_iconst (v := (nI 1)) hx hb dL_hold_15 (by decide) ?_
  exact l_ret hx hb hr hlocks hw dL_hold_16 (by decide) (by decide)
set_option maxHeartbeats 4000000 in
set_option maxRecDepth 100000 in
theorem tL_hold_1 (l : Launch) (hfl : l.stackTraces = false) (G : mG) {C C' D : mM} {f : Nat → Int32} {a1 : Int32} {a2 : Int32} (hN : gN G = 325) (hR : isWR G 0) (h : pX6_hold a1 a2 C = some (.inr "java/lang/IllegalArgumentException", C')) : ML l G yL_hold (wy yL_hold cL_hold 5 (some .int) [(0, 10, 13, 28), (0, 10, 17, 13)]) [.ref (gA G 0), .int a1, .int a2, .ref (gA G 324)] (lM C D f) (lM C' D f) (nI 2) := by
  have hC := xX6_hold l hfl G (β := 0) (M := lM C D f) (by omega) hR h
  simp only [lM_C] at hC
  refine l_of (cc := cL_hold) (by decide) (Nat.le_of_ble_eq_true rfl) ?_
  intro p e s m args below meth c H ls hx hb hr hts hown hml hlocks htab hE hNc hw hl
  have hl : lv_has ls 5 [(0, .ref (gA G 0)), (1, .int a1), (2, .int a2), (3, .ref (gA G 324))] := hl
  refine lv_aload_n hx hb dL_hold_0 rfl (lv_at hl 3 rfl) ?_
  refine lv_iconst (v := (nI 0)) hx hb dL_hold_1 (by decide) ?_
  refine lv_aload_n hx hb dL_hold_2 rfl (lv_at hl 0 rfl) ?_
  refine lv_iload_n hx hb dL_hold_3 rfl (lv_at hl 1 rfl) ?_
  refine lv_iload_n hx hb dL_hold_4 rfl (lv_at hl 2 rfl) ?_
  refine l_callX (As := [.int a1, .int a2]) (rest := [.int (nI 0), .ref (gA G 324)]) hx hb hml hown hts hE hw hl hC (cwV 2 hts (yV gV_L_62) rfl rfl rfl kdX6_hold ⟨Nat.le_of_ble_eq_true rfl, Nat.le_of_ble_eq_true rfl⟩) (by omega) (congrFun hR.1 _) rfl rfl rfl rfl (Nat.le_of_ble_eq_true rfl) dL_hold_5 ⟨by decide, by decide⟩ [⟨0, 10, 13, 28⟩] ⟨0, 10, 17, 13⟩ [] (htab.trans rfl) (fun z hz => by
      rcases List.mem_cons.mp hz with rfl | hz
      · exact Or.inr ⟨by decide, _, hts _ (wy_in qL_L_28), hNc.1⟩
      cases hz) (by decide) (by decide) (hts _ (wy_in qL_L_13)) (va_Nw.use rfl hE.2.2.2.2.2.2.2.1) (fun q H locs hw => ?_)
  refine lv_astore hx hb dL_hold_17 hl (by decide) rfl (fun ls hl => ?_)
  refine lv_iconst (v := (nI 2)) hx hb dL_hold_19 (by decide) ?_
  exact l_ret hx hb hr hlocks hw dL_hold_20 (by decide) (by decide)
set_option maxHeartbeats 4000000 in
set_option maxRecDepth 100000 in
theorem nL_supply (l : Launch) (G : mG) {C C' D : mM} {f : Nat → Int32} {a1 : Int32} {a2 : Int32} {r : Int32} (hN : gN G = 325) (hR : isWR G 0) (hO : gK G 324 = aJ G) (h : pX6_supply a1 a2 C = some (.inl r, C')) : ML l G yL_supply (wy yL_supply cL_supply 5 (some .int) [(0, 10, 13, 28), (0, 10, 17, 13), (0, 10, 21, 15)]) [.ref (gA G 0), .int a1, .int a2, .ref (gA G 324)] (lM C D f) (lM C' D (upd f 0 r)) (nI 0) := by
  have hC := mX6_supply l G (β := 0) (M := lM C D f) (by omega) hR h
  simp only [lM_C] at hC
  refine l_of (cc := cL_supply) (by decide) (Nat.le_of_ble_eq_true rfl) ?_
  intro p e s m args below meth c H ls hx hb hr hts hown hml hlocks htab hE hNc hw hl
  have hl : lv_has ls 5 [(0, .ref (gA G 0)), (1, .int a1), (2, .int a2), (3, .ref (gA G 324))] := hl
  refine lv_aload_n hx hb dL_supply_0 rfl (lv_at hl 3 rfl) ?_
  refine lv_iconst (v := (nI 0)) hx hb dL_supply_1 (by decide) ?_
  refine lv_aload_n hx hb dL_supply_2 rfl (lv_at hl 0 rfl) ?_
  refine lv_iload_n hx hb dL_supply_3 rfl (lv_at hl 1 rfl) ?_
  refine lv_iload_n hx hb dL_supply_4 rfl (lv_at hl 2 rfl) ?_
  refine r_callV (As := [.int a1, .int a2]) (rest := [.int (nI 0), .ref (gA G 324)]) (st1 := .int r :: [.int (nI 0), .ref (gA G 324)]) hx hb hml hown hts hE hw hl hC (cwV 2 hts (yV gV_L_65) rfl rfl rfl kdX6_supply ⟨Nat.le_of_ble_eq_true rfl, Nat.le_of_ble_eq_true rfl⟩) (by omega) (congrFun hR.1 _) rfl rfl rfl rfl (Nat.le_of_ble_eq_true rfl) dL_supply_5 ⟨Nat.zero_le _, Nat.zero_le _⟩ rfl (fun H locs hw => ?_)
  refine lv_i2l hx hb dL_supply_8 rfl ?_
  refine l_last hx hb hE hw hN hO dL_supply_9 (fun H locs hw => ?_)
  refine lv_goto (tgt := 25) hx hb dL_supply_10 (by decide) ?_
  refine lv_iconst (v := (nI 0)) hx hb dL_supply_25 (by decide) ?_
  exact l_ret hx hb hr hlocks hw dL_supply_26 (by decide) (by decide)
set_option maxHeartbeats 4000000 in
set_option maxRecDepth 100000 in
theorem tL_supply_0 (l : Launch) (hfl : l.stackTraces = false) (G : mG) {C C' D : mM} {f : Nat → Int32} {a1 : Int32} {a2 : Int32} (hN : gN G = 325) (hR : isWR G 0) (h : pX6_supply a1 a2 C = some (.inr "java/lang/IndexOutOfBoundsException", C')) : ML l G yL_supply (wy yL_supply cL_supply 5 (some .int) [(0, 10, 13, 28), (0, 10, 17, 13), (0, 10, 21, 15)]) [.ref (gA G 0), .int a1, .int a2, .ref (gA G 324)] (lM C D f) (lM C' D f) (nI 1) := by
  have hC := xX6_supply l hfl G (β := 0) (M := lM C D f) (by omega) hR h
  simp only [lM_C] at hC
  refine l_of (cc := cL_supply) (by decide) (Nat.le_of_ble_eq_true rfl) ?_
  intro p e s m args below meth c H ls hx hb hr hts hown hml hlocks htab hE hNc hw hl
  have hl : lv_has ls 5 [(0, .ref (gA G 0)), (1, .int a1), (2, .int a2), (3, .ref (gA G 324))] := hl
  refine lv_aload_n hx hb dL_supply_0 rfl (lv_at hl 3 rfl) ?_
  refine lv_iconst (v := (nI 0)) hx hb dL_supply_1 (by decide) ?_
  refine lv_aload_n hx hb dL_supply_2 rfl (lv_at hl 0 rfl) ?_
  refine lv_iload_n hx hb dL_supply_3 rfl (lv_at hl 1 rfl) ?_
  refine lv_iload_n hx hb dL_supply_4 rfl (lv_at hl 2 rfl) ?_
  refine l_callX (As := [.int a1, .int a2]) (rest := [.int (nI 0), .ref (gA G 324)]) hx hb hml hown hts hE hw hl hC (cwV 2 hts (yV gV_L_65) rfl rfl rfl kdX6_supply ⟨Nat.le_of_ble_eq_true rfl, Nat.le_of_ble_eq_true rfl⟩) (by omega) (congrFun hR.1 _) rfl rfl rfl rfl (Nat.le_of_ble_eq_true rfl) dL_supply_5 ⟨by decide, by decide⟩ [] ⟨0, 10, 13, 28⟩ [⟨0, 10, 17, 13⟩, ⟨0, 10, 21, 15⟩] (htab.trans rfl) (fun _ h9 => absurd h9 List.not_mem_nil) (by decide) (by decide) (hts _ (wy_in qL_L_28)) (va_Nw.use rfl hE.2.2.2.2.2.2.1) (fun q H locs hw => ?_)
  refine lv_astore hx hb dL_supply_13 hl (by decide) rfl (fun ls hl => ?_)
  refine lv_iconst (v := (nI 1)) hx hb dL_supply_15 (by decide) ?_
  exact l_ret hx hb hr hlocks hw dL_supply_16 (by decide) (by decide)
set_option maxHeartbeats 4000000 in
set_option maxRecDepth 100000 in
theorem tL_supply_1 (l : Launch) (hfl : l.stackTraces = false) (G : mG) {C C' D : mM} {f : Nat → Int32} {a1 : Int32} {a2 : Int32} (hN : gN G = 325) (hR : isWR G 0) (h : pX6_supply a1 a2 C = some (.inr "java/lang/IllegalArgumentException", C')) : ML l G yL_supply (wy yL_supply cL_supply 5 (some .int) [(0, 10, 13, 28), (0, 10, 17, 13), (0, 10, 21, 15)]) [.ref (gA G 0), .int a1, .int a2, .ref (gA G 324)] (lM C D f) (lM C' D f) (nI 2) := by
  have hC := xX6_supply l hfl G (β := 0) (M := lM C D f) (by omega) hR h
  simp only [lM_C] at hC
  refine l_of (cc := cL_supply) (by decide) (Nat.le_of_ble_eq_true rfl) ?_
  intro p e s m args below meth c H ls hx hb hr hts hown hml hlocks htab hE hNc hw hl
  have hl : lv_has ls 5 [(0, .ref (gA G 0)), (1, .int a1), (2, .int a2), (3, .ref (gA G 324))] := hl
  refine lv_aload_n hx hb dL_supply_0 rfl (lv_at hl 3 rfl) ?_
  refine lv_iconst (v := (nI 0)) hx hb dL_supply_1 (by decide) ?_
  refine lv_aload_n hx hb dL_supply_2 rfl (lv_at hl 0 rfl) ?_
  refine lv_iload_n hx hb dL_supply_3 rfl (lv_at hl 1 rfl) ?_
  refine lv_iload_n hx hb dL_supply_4 rfl (lv_at hl 2 rfl) ?_
  refine l_callX (As := [.int a1, .int a2]) (rest := [.int (nI 0), .ref (gA G 324)]) hx hb hml hown hts hE hw hl hC (cwV 2 hts (yV gV_L_65) rfl rfl rfl kdX6_supply ⟨Nat.le_of_ble_eq_true rfl, Nat.le_of_ble_eq_true rfl⟩) (by omega) (congrFun hR.1 _) rfl rfl rfl rfl (Nat.le_of_ble_eq_true rfl) dL_supply_5 ⟨by decide, by decide⟩ [⟨0, 10, 13, 28⟩] ⟨0, 10, 17, 13⟩ [⟨0, 10, 21, 15⟩] (htab.trans rfl) (fun z hz => by
      rcases List.mem_cons.mp hz with rfl | hz
      · exact Or.inr ⟨by decide, _, hts _ (wy_in qL_L_28), hNc.1⟩
      cases hz) (by decide) (by decide) (hts _ (wy_in qL_L_13)) (va_Nw.use rfl hE.2.2.2.2.2.2.2.1) (fun q H locs hw => ?_)
  refine lv_astore hx hb dL_supply_17 hl (by decide) rfl (fun ls hl => ?_)
  refine lv_iconst (v := (nI 2)) hx hb dL_supply_19 (by decide) ?_
  exact l_ret hx hb hr hlocks hw dL_supply_20 (by decide) (by decide)
set_option maxHeartbeats 4000000 in
set_option maxRecDepth 100000 in
theorem tL_supply_2 (l : Launch) (hfl : l.stackTraces = false) (G : mG) {C C' D : mM} {f : Nat → Int32} {a1 : Int32} {a2 : Int32} (hN : gN G = 325) (hR : isWR G 0) (h : pX6_supply a1 a2 C = some (.inr "java/lang/IllegalStateException", C')) : ML l G yL_supply (wy yL_supply cL_supply 5 (some .int) [(0, 10, 13, 28), (0, 10, 17, 13), (0, 10, 21, 15)]) [.ref (gA G 0), .int a1, .int a2, .ref (gA G 324)] (lM C D f) (lM C' D f) (nI 3) := by
  have hC := xX6_supply l hfl G (β := 0) (M := lM C D f) (by omega) hR h
  simp only [lM_C] at hC
  refine l_of (cc := cL_supply) (by decide) (Nat.le_of_ble_eq_true rfl) ?_
  intro p e s m args below meth c H ls hx hb hr hts hown hml hlocks htab hE hNc hw hl
  have hl : lv_has ls 5 [(0, .ref (gA G 0)), (1, .int a1), (2, .int a2), (3, .ref (gA G 324))] := hl
  refine lv_aload_n hx hb dL_supply_0 rfl (lv_at hl 3 rfl) ?_
  refine lv_iconst (v := (nI 0)) hx hb dL_supply_1 (by decide) ?_
  refine lv_aload_n hx hb dL_supply_2 rfl (lv_at hl 0 rfl) ?_
  refine lv_iload_n hx hb dL_supply_3 rfl (lv_at hl 1 rfl) ?_
  refine lv_iload_n hx hb dL_supply_4 rfl (lv_at hl 2 rfl) ?_
  refine l_callX (As := [.int a1, .int a2]) (rest := [.int (nI 0), .ref (gA G 324)]) hx hb hml hown hts hE hw hl hC (cwV 2 hts (yV gV_L_65) rfl rfl rfl kdX6_supply ⟨Nat.le_of_ble_eq_true rfl, Nat.le_of_ble_eq_true rfl⟩) (by omega) (congrFun hR.1 _) rfl rfl rfl rfl (Nat.le_of_ble_eq_true rfl) dL_supply_5 ⟨by decide, by decide⟩ [⟨0, 10, 13, 28⟩, ⟨0, 10, 17, 13⟩] ⟨0, 10, 21, 15⟩ [] (htab.trans rfl) (fun z hz => by
      rcases List.mem_cons.mp hz with rfl | hz
      · exact Or.inr ⟨by decide, _, hts _ (wy_in qL_L_28), hNc.2.1⟩
      rcases List.mem_cons.mp hz with rfl | hz
      · exact Or.inr ⟨by decide, _, hts _ (wy_in qL_L_13), hNc.2.2⟩
      cases hz) (by decide) (by decide) (hts _ (wy_in qL_L_15)) (va_Nw.use rfl hE.2.2.2.2.2.2.2.2.1) (fun q H locs hw => ?_)
  refine lv_astore hx hb dL_supply_21 hl (by decide) rfl (fun ls hl => ?_)
  refine lv_iconst (v := (nI 3)) hx hb dL_supply_23 (by decide) ?_
  exact l_ret hx hb hr hlocks hw dL_supply_24 (by decide) (by decide)
set_option maxHeartbeats 4000000 in
set_option maxRecDepth 100000 in
theorem nL_pass (l : Launch) (G : mG) {C C' D : mM} {f : Nat → Int32} {a1 : Int32} {r : Int32} (hN : gN G = 325) (hR : isWR G 0) (hO : gK G 324 = aJ G) (h : pX6_pass a1 C = some (.inl r, C')) : ML l G yL_pass (wy yL_pass cL_pass 4 (some .int) [(0, 9, 12, 13)]) [.ref (gA G 0), .int a1, .ref (gA G 324)] (lM C D f) (lM C' D (upd f 0 r)) (nI 0) := by
  have hC := mX6_pass l G (β := 0) (M := lM C D f) (by omega) hR h
  simp only [lM_C] at hC
  refine l_of (cc := cL_pass) (by decide) (Nat.le_of_ble_eq_true rfl) ?_
  intro p e s m args below meth c H ls hx hb hr hts hown hml hlocks htab hE hNc hw hl
  have hl : lv_has ls 4 [(0, .ref (gA G 0)), (1, .int a1), (2, .ref (gA G 324))] := hl
  refine lv_aload_n hx hb dL_pass_0 rfl (lv_at hl 2 rfl) ?_
  refine lv_iconst (v := (nI 0)) hx hb dL_pass_1 (by decide) ?_
  refine lv_aload_n hx hb dL_pass_2 rfl (lv_at hl 0 rfl) ?_
  refine lv_iload_n hx hb dL_pass_3 rfl (lv_at hl 1 rfl) ?_
  refine r_callV (As := [.int a1]) (rest := [.int (nI 0), .ref (gA G 324)]) (st1 := .int r :: [.int (nI 0), .ref (gA G 324)]) hx hb hml hown hts hE hw hl hC (cwV 1 hts (yV gV_L_68) rfl rfl rfl kdX6_pass ⟨Nat.le_of_ble_eq_true rfl, Nat.le_of_ble_eq_true rfl⟩) (by omega) (congrFun hR.1 _) rfl rfl rfl rfl (Nat.le_of_ble_eq_true rfl) dL_pass_4 ⟨Nat.zero_le _, Nat.zero_le _⟩ rfl (fun H locs hw => ?_)
  refine lv_i2l hx hb dL_pass_7 rfl ?_
  refine l_last hx hb hE hw hN hO dL_pass_8 (fun H locs hw => ?_)
  refine lv_goto (tgt := 15) hx hb dL_pass_9 (by decide) ?_
  refine lv_iconst (v := (nI 0)) hx hb dL_pass_15 (by decide) ?_
  exact l_ret hx hb hr hlocks hw dL_pass_16 (by decide) (by decide)
set_option maxHeartbeats 4000000 in
set_option maxRecDepth 100000 in
theorem tL_pass_0 (l : Launch) (hfl : l.stackTraces = false) (G : mG) {C C' D : mM} {f : Nat → Int32} {a1 : Int32} (hN : gN G = 325) (hR : isWR G 0) (h : pX6_pass a1 C = some (.inr "java/lang/IllegalArgumentException", C')) : ML l G yL_pass (wy yL_pass cL_pass 4 (some .int) [(0, 9, 12, 13)]) [.ref (gA G 0), .int a1, .ref (gA G 324)] (lM C D f) (lM C' D f) (nI 1) := by
  have hC := xX6_pass l hfl G (β := 0) (M := lM C D f) (by omega) hR h
  simp only [lM_C] at hC
  refine l_of (cc := cL_pass) (by decide) (Nat.le_of_ble_eq_true rfl) ?_
  intro p e s m args below meth c H ls hx hb hr hts hown hml hlocks htab hE hNc hw hl
  have hl : lv_has ls 4 [(0, .ref (gA G 0)), (1, .int a1), (2, .ref (gA G 324))] := hl
  refine lv_aload_n hx hb dL_pass_0 rfl (lv_at hl 2 rfl) ?_
  refine lv_iconst (v := (nI 0)) hx hb dL_pass_1 (by decide) ?_
  refine lv_aload_n hx hb dL_pass_2 rfl (lv_at hl 0 rfl) ?_
  refine lv_iload_n hx hb dL_pass_3 rfl (lv_at hl 1 rfl) ?_
  refine l_callX (As := [.int a1]) (rest := [.int (nI 0), .ref (gA G 324)]) hx hb hml hown hts hE hw hl hC (cwV 1 hts (yV gV_L_68) rfl rfl rfl kdX6_pass ⟨Nat.le_of_ble_eq_true rfl, Nat.le_of_ble_eq_true rfl⟩) (by omega) (congrFun hR.1 _) rfl rfl rfl rfl (Nat.le_of_ble_eq_true rfl) dL_pass_4 ⟨by decide, by decide⟩ [] ⟨0, 9, 12, 13⟩ [] (htab.trans rfl) (fun _ h9 => absurd h9 List.not_mem_nil) (by decide) (by decide) (hts _ (wy_in qL_L_13)) (va_Nw.use rfl hE.2.2.2.2.2.2.2.1) (fun q H locs hw => ?_)
  refine lv_astore_n hx hb dL_pass_12 rfl hl (by decide) rfl (fun ls hl => ?_)
  refine lv_iconst (v := (nI 1)) hx hb dL_pass_13 (by decide) ?_
  exact l_ret hx hb hr hlocks hw dL_pass_14 (by decide) (by decide)
set_option maxHeartbeats 4000000 in
set_option maxRecDepth 100000 in
theorem nL_undo (l : Launch) (G : mG) {C C' D : mM} {f : Nat → Int32}  {r : Int32} (hN : gN G = 325) (hR : isWR G 0) (hO : gK G 324 = aJ G) (h : pX6_undo  C = some (.inl r, C')) : ML l G yL_undo (wy yL_undo cL_undo 3 (some .int) [(0, 8, 11, 15)]) [.ref (gA G 0), .ref (gA G 324)] (lM C D f) (lM C' D (upd f 0 r)) (nI 0) := by
  have hC := mX6_undo l G (β := 0) (M := lM C D f) (by omega) hR h
  simp only [lM_C] at hC
  refine l_of (cc := cL_undo) (by decide) (Nat.le_of_ble_eq_true rfl) ?_
  intro p e s m args below meth c H ls hx hb hr hts hown hml hlocks htab hE hNc hw hl
  have hl : lv_has ls 3 [(0, .ref (gA G 0)), (1, .ref (gA G 324))] := hl
  refine lv_aload_n hx hb dL_undo_0 rfl (lv_at hl 1 rfl) ?_
  refine lv_iconst (v := (nI 0)) hx hb dL_undo_1 (by decide) ?_
  refine lv_aload_n hx hb dL_undo_2 rfl (lv_at hl 0 rfl) ?_
  refine r_callV (As := []) (rest := [.int (nI 0), .ref (gA G 324)]) (st1 := .int r :: [.int (nI 0), .ref (gA G 324)]) hx hb hml hown hts hE hw hl hC (cwV 0 hts (yV gV_L_71) rfl rfl rfl kdX6_undo ⟨Nat.le_of_ble_eq_true rfl, Nat.le_of_ble_eq_true rfl⟩) (by omega) (congrFun hR.1 _) rfl rfl rfl rfl (Nat.le_of_ble_eq_true rfl) dL_undo_3 ⟨Nat.zero_le _, Nat.zero_le _⟩ rfl (fun H locs hw => ?_)
  refine lv_i2l hx hb dL_undo_6 rfl ?_
  refine l_last hx hb hE hw hN hO dL_undo_7 (fun H locs hw => ?_)
  refine lv_goto (tgt := 14) hx hb dL_undo_8 (by decide) ?_
  refine lv_iconst (v := (nI 0)) hx hb dL_undo_14 (by decide) ?_
  exact l_ret hx hb hr hlocks hw dL_undo_15 (by decide) (by decide)
set_option maxHeartbeats 4000000 in
set_option maxRecDepth 100000 in
theorem tL_undo_0 (l : Launch) (hfl : l.stackTraces = false) (G : mG) {C C' D : mM} {f : Nat → Int32}  (hN : gN G = 325) (hR : isWR G 0) (h : pX6_undo  C = some (.inr "java/lang/IllegalStateException", C')) : ML l G yL_undo (wy yL_undo cL_undo 3 (some .int) [(0, 8, 11, 15)]) [.ref (gA G 0), .ref (gA G 324)] (lM C D f) (lM C' D f) (nI 1) := by
  have hC := xX6_undo l hfl G (β := 0) (M := lM C D f) (by omega) hR h
  simp only [lM_C] at hC
  refine l_of (cc := cL_undo) (by decide) (Nat.le_of_ble_eq_true rfl) ?_
  intro p e s m args below meth c H ls hx hb hr hts hown hml hlocks htab hE hNc hw hl
  have hl : lv_has ls 3 [(0, .ref (gA G 0)), (1, .ref (gA G 324))] := hl
  refine lv_aload_n hx hb dL_undo_0 rfl (lv_at hl 1 rfl) ?_
  refine lv_iconst (v := (nI 0)) hx hb dL_undo_1 (by decide) ?_
  refine lv_aload_n hx hb dL_undo_2 rfl (lv_at hl 0 rfl) ?_
  refine l_callX (As := []) (rest := [.int (nI 0), .ref (gA G 324)]) hx hb hml hown hts hE hw hl hC (cwV 0 hts (yV gV_L_71) rfl rfl rfl kdX6_undo ⟨Nat.le_of_ble_eq_true rfl, Nat.le_of_ble_eq_true rfl⟩) (by omega) (congrFun hR.1 _) rfl rfl rfl rfl (Nat.le_of_ble_eq_true rfl) dL_undo_3 ⟨by decide, by decide⟩ [] ⟨0, 8, 11, 15⟩ [] (htab.trans rfl) (fun _ h9 => absurd h9 List.not_mem_nil) (by decide) (by decide) (hts _ (wy_in qL_L_15)) (va_Nw.use rfl hE.2.2.2.2.2.2.2.2.1) (fun q H locs hw => ?_)
  refine lv_astore_n hx hb dL_undo_11 rfl hl (by decide) rfl (fun ls hl => ?_)
  refine lv_iconst (v := (nI 1)) hx hb dL_undo_12 (by decide) ?_
  exact l_ret hx hb hr hlocks hw dL_undo_13 (by decide) (by decide)
set_option maxHeartbeats 4000000 in
set_option maxRecDepth 100000 in
theorem nL_arrives (l : Launch) (G : mG) {C C' D : mM} {f : Nat → Int32} {a1 : Int32} {r : Int32} (hN : gN G = 325) (hR : isWR G 0) (hO : gK G 324 = aJ G) (h : pX6_arrives a1 C = some (.inl r, C')) : ML l G yL_arrives (wy yL_arrives cL_arrives 4 (some .int) [(0, 9, 12, 28)]) [.ref (gA G 0), .int a1, .ref (gA G 324)] (lM C D f) (lM C' D (upd f 0 r)) (nI 0) := by
  have hC := mX6_arrives l G (β := 0) (M := lM C D f) (by omega) hR h
  simp only [lM_C] at hC
  refine l_of (cc := cL_arrives) (by decide) (Nat.le_of_ble_eq_true rfl) ?_
  intro p e s m args below meth c H ls hx hb hr hts hown hml hlocks htab hE hNc hw hl
  have hl : lv_has ls 4 [(0, .ref (gA G 0)), (1, .int a1), (2, .ref (gA G 324))] := hl
  refine lv_aload_n hx hb dL_arrives_0 rfl (lv_at hl 2 rfl) ?_
  refine lv_iconst (v := (nI 0)) hx hb dL_arrives_1 (by decide) ?_
  refine lv_aload_n hx hb dL_arrives_2 rfl (lv_at hl 0 rfl) ?_
  refine lv_iload_n hx hb dL_arrives_3 rfl (lv_at hl 1 rfl) ?_
  refine r_callV (As := [.int a1]) (rest := [.int (nI 0), .ref (gA G 324)]) (st1 := .int r :: [.int (nI 0), .ref (gA G 324)]) hx hb hml hown hts hE hw hl hC (cwV 1 hts (yV gV_L_74) rfl rfl rfl kdX6_arrives ⟨Nat.le_of_ble_eq_true rfl, Nat.le_of_ble_eq_true rfl⟩) (by omega) (congrFun hR.1 _) rfl rfl rfl rfl (Nat.le_of_ble_eq_true rfl) dL_arrives_4 ⟨Nat.zero_le _, Nat.zero_le _⟩ rfl (fun H locs hw => ?_)
  refine lv_i2l hx hb dL_arrives_7 rfl ?_
  refine l_last hx hb hE hw hN hO dL_arrives_8 (fun H locs hw => ?_)
  refine lv_goto (tgt := 15) hx hb dL_arrives_9 (by decide) ?_
  refine lv_iconst (v := (nI 0)) hx hb dL_arrives_15 (by decide) ?_
  exact l_ret hx hb hr hlocks hw dL_arrives_16 (by decide) (by decide)
set_option maxHeartbeats 4000000 in
set_option maxRecDepth 100000 in
theorem tL_arrives_0 (l : Launch) (hfl : l.stackTraces = false) (G : mG) {C C' D : mM} {f : Nat → Int32} {a1 : Int32} (hN : gN G = 325) (hR : isWR G 0) (h : pX6_arrives a1 C = some (.inr "java/lang/IndexOutOfBoundsException", C')) : ML l G yL_arrives (wy yL_arrives cL_arrives 4 (some .int) [(0, 9, 12, 28)]) [.ref (gA G 0), .int a1, .ref (gA G 324)] (lM C D f) (lM C' D f) (nI 1) := by
  have hC := xX6_arrives l hfl G (β := 0) (M := lM C D f) (by omega) hR h
  simp only [lM_C] at hC
  refine l_of (cc := cL_arrives) (by decide) (Nat.le_of_ble_eq_true rfl) ?_
  intro p e s m args below meth c H ls hx hb hr hts hown hml hlocks htab hE hNc hw hl
  have hl : lv_has ls 4 [(0, .ref (gA G 0)), (1, .int a1), (2, .ref (gA G 324))] := hl
  refine lv_aload_n hx hb dL_arrives_0 rfl (lv_at hl 2 rfl) ?_
  refine lv_iconst (v := (nI 0)) hx hb dL_arrives_1 (by decide) ?_
  refine lv_aload_n hx hb dL_arrives_2 rfl (lv_at hl 0 rfl) ?_
  refine lv_iload_n hx hb dL_arrives_3 rfl (lv_at hl 1 rfl) ?_
  refine l_callX (As := [.int a1]) (rest := [.int (nI 0), .ref (gA G 324)]) hx hb hml hown hts hE hw hl hC (cwV 1 hts (yV gV_L_74) rfl rfl rfl kdX6_arrives ⟨Nat.le_of_ble_eq_true rfl, Nat.le_of_ble_eq_true rfl⟩) (by omega) (congrFun hR.1 _) rfl rfl rfl rfl (Nat.le_of_ble_eq_true rfl) dL_arrives_4 ⟨by decide, by decide⟩ [] ⟨0, 9, 12, 28⟩ [] (htab.trans rfl) (fun _ h9 => absurd h9 List.not_mem_nil) (by decide) (by decide) (hts _ (wy_in qL_L_28)) (va_Nw.use rfl hE.2.2.2.2.2.2.1) (fun q H locs hw => ?_)
  refine lv_astore_n hx hb dL_arrives_12 rfl hl (by decide) rfl (fun ls hl => ?_)
  refine lv_iconst (v := (nI 1)) hx hb dL_arrives_13 (by decide) ?_
  exact l_ret hx hb hr hlocks hw dL_arrives_14 (by decide) (by decide)
set_option maxHeartbeats 4000000 in
set_option maxRecDepth 100000 in
theorem nL_leaves (l : Launch) (G : mG) {C C' D : mM} {f : Nat → Int32} {a1 : Int32} {r : Int32} (hN : gN G = 325) (hR : isWR G 0) (hO : gK G 324 = aJ G) (h : pX6_leaves a1 C = some (.inl r, C')) : ML l G yL_leaves (wy yL_leaves cL_leaves 4 (some .int) [(0, 9, 12, 28)]) [.ref (gA G 0), .int a1, .ref (gA G 324)] (lM C D f) (lM C' D (upd f 0 r)) (nI 0) := by
  have hC := mX6_leaves l G (β := 0) (M := lM C D f) (by omega) hR h
  simp only [lM_C] at hC
  refine l_of (cc := cL_leaves) (by decide) (Nat.le_of_ble_eq_true rfl) ?_
  intro p e s m args below meth c H ls hx hb hr hts hown hml hlocks htab hE hNc hw hl
  have hl : lv_has ls 4 [(0, .ref (gA G 0)), (1, .int a1), (2, .ref (gA G 324))] := hl
  refine lv_aload_n hx hb dL_leaves_0 rfl (lv_at hl 2 rfl) ?_
  refine lv_iconst (v := (nI 0)) hx hb dL_leaves_1 (by decide) ?_
  refine lv_aload_n hx hb dL_leaves_2 rfl (lv_at hl 0 rfl) ?_
  refine lv_iload_n hx hb dL_leaves_3 rfl (lv_at hl 1 rfl) ?_
  refine r_callV (As := [.int a1]) (rest := [.int (nI 0), .ref (gA G 324)]) (st1 := .int r :: [.int (nI 0), .ref (gA G 324)]) hx hb hml hown hts hE hw hl hC (cwV 1 hts (yV gV_L_77) rfl rfl rfl kdX6_leaves ⟨Nat.le_of_ble_eq_true rfl, Nat.le_of_ble_eq_true rfl⟩) (by omega) (congrFun hR.1 _) rfl rfl rfl rfl (Nat.le_of_ble_eq_true rfl) dL_leaves_4 ⟨Nat.zero_le _, Nat.zero_le _⟩ rfl (fun H locs hw => ?_)
  refine lv_i2l hx hb dL_leaves_7 rfl ?_
  refine l_last hx hb hE hw hN hO dL_leaves_8 (fun H locs hw => ?_)
  refine lv_goto (tgt := 15) hx hb dL_leaves_9 (by decide) ?_
  refine lv_iconst (v := (nI 0)) hx hb dL_leaves_15 (by decide) ?_
  exact l_ret hx hb hr hlocks hw dL_leaves_16 (by decide) (by decide)
set_option maxHeartbeats 4000000 in
set_option maxRecDepth 100000 in
theorem tL_leaves_0 (l : Launch) (hfl : l.stackTraces = false) (G : mG) {C C' D : mM} {f : Nat → Int32} {a1 : Int32} (hN : gN G = 325) (hR : isWR G 0) (h : pX6_leaves a1 C = some (.inr "java/lang/IndexOutOfBoundsException", C')) : ML l G yL_leaves (wy yL_leaves cL_leaves 4 (some .int) [(0, 9, 12, 28)]) [.ref (gA G 0), .int a1, .ref (gA G 324)] (lM C D f) (lM C' D f) (nI 1) := by
  have hC := xX6_leaves l hfl G (β := 0) (M := lM C D f) (by omega) hR h
  simp only [lM_C] at hC
  refine l_of (cc := cL_leaves) (by decide) (Nat.le_of_ble_eq_true rfl) ?_
  intro p e s m args below meth c H ls hx hb hr hts hown hml hlocks htab hE hNc hw hl
  have hl : lv_has ls 4 [(0, .ref (gA G 0)), (1, .int a1), (2, .ref (gA G 324))] := hl
  refine lv_aload_n hx hb dL_leaves_0 rfl (lv_at hl 2 rfl) ?_
  refine lv_iconst (v := (nI 0)) hx hb dL_leaves_1 (by decide) ?_
  refine lv_aload_n hx hb dL_leaves_2 rfl (lv_at hl 0 rfl) ?_
  refine lv_iload_n hx hb dL_leaves_3 rfl (lv_at hl 1 rfl) ?_
  refine l_callX (As := [.int a1]) (rest := [.int (nI 0), .ref (gA G 324)]) hx hb hml hown hts hE hw hl hC (cwV 1 hts (yV gV_L_77) rfl rfl rfl kdX6_leaves ⟨Nat.le_of_ble_eq_true rfl, Nat.le_of_ble_eq_true rfl⟩) (by omega) (congrFun hR.1 _) rfl rfl rfl rfl (Nat.le_of_ble_eq_true rfl) dL_leaves_4 ⟨by decide, by decide⟩ [] ⟨0, 9, 12, 28⟩ [] (htab.trans rfl) (fun _ h9 => absurd h9 List.not_mem_nil) (by decide) (by decide) (hts _ (wy_in qL_L_28)) (va_Nw.use rfl hE.2.2.2.2.2.2.1) (fun q H locs hw => ?_)
  refine lv_astore_n hx hb dL_leaves_12 rfl hl (by decide) rfl (fun ls hl => ?_)
  refine lv_iconst (v := (nI 1)) hx hb dL_leaves_13 (by decide) ?_
  exact l_ret hx hb hr hlocks hw dL_leaves_14 (by decide) (by decide)
set_option maxHeartbeats 4000000 in
set_option maxRecDepth 100000 in
theorem nL_bestHold (l : Launch) (G : mG) {C C' D : mM} {f : Nat → Int32} {a1 : Int32} {r : Int32} (hN : gN G = 325) (hR : isWR G 0) (hO : gK G 324 = aJ G) (h : pX6_bestHold a1 C = some (.inl r, C')) : ML l G yL_bestHold (wy yL_bestHold cL_bestHold 4 (some .int) [(0, 9, 12, 28)]) [.ref (gA G 0), .int a1, .ref (gA G 324)] (lM C D f) (lM C' D (upd f 0 r)) (nI 0) := by
  have hC := mX6_bestHold l G (β := 0) (M := lM C D f) (by omega) hR h
  simp only [lM_C] at hC
  refine l_of (cc := cL_bestHold) (by decide) (Nat.le_of_ble_eq_true rfl) ?_
  intro p e s m args below meth c H ls hx hb hr hts hown hml hlocks htab hE hNc hw hl
  have hl : lv_has ls 4 [(0, .ref (gA G 0)), (1, .int a1), (2, .ref (gA G 324))] := hl
  refine lv_aload_n hx hb dL_bestHold_0 rfl (lv_at hl 2 rfl) ?_
  refine lv_iconst (v := (nI 0)) hx hb dL_bestHold_1 (by decide) ?_
  refine lv_aload_n hx hb dL_bestHold_2 rfl (lv_at hl 0 rfl) ?_
  refine lv_iload_n hx hb dL_bestHold_3 rfl (lv_at hl 1 rfl) ?_
  refine r_callV (As := [.int a1]) (rest := [.int (nI 0), .ref (gA G 324)]) (st1 := .int r :: [.int (nI 0), .ref (gA G 324)]) hx hb hml hown hts hE hw hl hC (cwV 1 hts (yV gV_L_80) rfl rfl rfl kdX6_bestHold ⟨Nat.le_of_ble_eq_true rfl, Nat.le_of_ble_eq_true rfl⟩) (by omega) (congrFun hR.1 _) rfl rfl rfl rfl (Nat.le_of_ble_eq_true rfl) dL_bestHold_4 ⟨Nat.zero_le _, Nat.zero_le _⟩ rfl (fun H locs hw => ?_)
  refine lv_i2l hx hb dL_bestHold_7 rfl ?_
  refine l_last hx hb hE hw hN hO dL_bestHold_8 (fun H locs hw => ?_)
  refine lv_goto (tgt := 15) hx hb dL_bestHold_9 (by decide) ?_
  refine lv_iconst (v := (nI 0)) hx hb dL_bestHold_15 (by decide) ?_
  exact l_ret hx hb hr hlocks hw dL_bestHold_16 (by decide) (by decide)
set_option maxHeartbeats 4000000 in
set_option maxRecDepth 100000 in
theorem tL_bestHold_0 (l : Launch) (hfl : l.stackTraces = false) (G : mG) {C C' D : mM} {f : Nat → Int32} {a1 : Int32} (hN : gN G = 325) (hR : isWR G 0) (h : pX6_bestHold a1 C = some (.inr "java/lang/IndexOutOfBoundsException", C')) : ML l G yL_bestHold (wy yL_bestHold cL_bestHold 4 (some .int) [(0, 9, 12, 28)]) [.ref (gA G 0), .int a1, .ref (gA G 324)] (lM C D f) (lM C' D f) (nI 1) := by
  have hC := xX6_bestHold l hfl G (β := 0) (M := lM C D f) (by omega) hR h
  simp only [lM_C] at hC
  refine l_of (cc := cL_bestHold) (by decide) (Nat.le_of_ble_eq_true rfl) ?_
  intro p e s m args below meth c H ls hx hb hr hts hown hml hlocks htab hE hNc hw hl
  have hl : lv_has ls 4 [(0, .ref (gA G 0)), (1, .int a1), (2, .ref (gA G 324))] := hl
  refine lv_aload_n hx hb dL_bestHold_0 rfl (lv_at hl 2 rfl) ?_
  refine lv_iconst (v := (nI 0)) hx hb dL_bestHold_1 (by decide) ?_
  refine lv_aload_n hx hb dL_bestHold_2 rfl (lv_at hl 0 rfl) ?_
  refine lv_iload_n hx hb dL_bestHold_3 rfl (lv_at hl 1 rfl) ?_
  refine l_callX (As := [.int a1]) (rest := [.int (nI 0), .ref (gA G 324)]) hx hb hml hown hts hE hw hl hC (cwV 1 hts (yV gV_L_80) rfl rfl rfl kdX6_bestHold ⟨Nat.le_of_ble_eq_true rfl, Nat.le_of_ble_eq_true rfl⟩) (by omega) (congrFun hR.1 _) rfl rfl rfl rfl (Nat.le_of_ble_eq_true rfl) dL_bestHold_4 ⟨by decide, by decide⟩ [] ⟨0, 9, 12, 28⟩ [] (htab.trans rfl) (fun _ h9 => absurd h9 List.not_mem_nil) (by decide) (by decide) (hts _ (wy_in qL_L_28)) (va_Nw.use rfl hE.2.2.2.2.2.2.1) (fun q H locs hw => ?_)
  refine lv_astore_n hx hb dL_bestHold_12 rfl hl (by decide) rfl (fun ls hl => ?_)
  refine lv_iconst (v := (nI 1)) hx hb dL_bestHold_13 (by decide) ?_
  exact l_ret hx hb hr hlocks hw dL_bestHold_14 (by decide) (by decide)
set_option maxHeartbeats 4000000 in
set_option maxRecDepth 100000 in
theorem nL_lacks (l : Launch) (G : mG) {C C' D : mM} {f : Nat → Int32} {a1 : Int32} {r : Int32} (hN : gN G = 325) (hR : isWR G 0) (hO : gK G 324 = aJ G) (h : pX6_lacks a1 C = some (.inl r, C')) : ML l G yL_lacks (wy yL_lacks cL_lacks 4 (some .int) [(0, 9, 12, 28)]) [.ref (gA G 0), .int a1, .ref (gA G 324)] (lM C D f) (lM C' D (upd f 0 r)) (nI 0) := by
  have hC := mX6_lacks l G (β := 0) (M := lM C D f) (by omega) hR h
  simp only [lM_C] at hC
  refine l_of (cc := cL_lacks) (by decide) (Nat.le_of_ble_eq_true rfl) ?_
  intro p e s m args below meth c H ls hx hb hr hts hown hml hlocks htab hE hNc hw hl
  have hl : lv_has ls 4 [(0, .ref (gA G 0)), (1, .int a1), (2, .ref (gA G 324))] := hl
  refine lv_aload_n hx hb dL_lacks_0 rfl (lv_at hl 2 rfl) ?_
  refine lv_iconst (v := (nI 0)) hx hb dL_lacks_1 (by decide) ?_
  refine lv_aload_n hx hb dL_lacks_2 rfl (lv_at hl 0 rfl) ?_
  refine lv_iload_n hx hb dL_lacks_3 rfl (lv_at hl 1 rfl) ?_
  refine r_callV (As := [.int a1]) (rest := [.int (nI 0), .ref (gA G 324)]) (st1 := .int r :: [.int (nI 0), .ref (gA G 324)]) hx hb hml hown hts hE hw hl hC (cwV 1 hts (yV gV_L_83) rfl rfl rfl kdX6_lacks ⟨Nat.le_of_ble_eq_true rfl, Nat.le_of_ble_eq_true rfl⟩) (by omega) (congrFun hR.1 _) rfl rfl rfl rfl (Nat.le_of_ble_eq_true rfl) dL_lacks_4 ⟨Nat.zero_le _, Nat.zero_le _⟩ rfl (fun H locs hw => ?_)
  refine lv_i2l hx hb dL_lacks_7 rfl ?_
  refine l_last hx hb hE hw hN hO dL_lacks_8 (fun H locs hw => ?_)
  refine lv_goto (tgt := 15) hx hb dL_lacks_9 (by decide) ?_
  refine lv_iconst (v := (nI 0)) hx hb dL_lacks_15 (by decide) ?_
  exact l_ret hx hb hr hlocks hw dL_lacks_16 (by decide) (by decide)
set_option maxHeartbeats 4000000 in
set_option maxRecDepth 100000 in
theorem tL_lacks_0 (l : Launch) (hfl : l.stackTraces = false) (G : mG) {C C' D : mM} {f : Nat → Int32} {a1 : Int32} (hN : gN G = 325) (hR : isWR G 0) (h : pX6_lacks a1 C = some (.inr "java/lang/IndexOutOfBoundsException", C')) : ML l G yL_lacks (wy yL_lacks cL_lacks 4 (some .int) [(0, 9, 12, 28)]) [.ref (gA G 0), .int a1, .ref (gA G 324)] (lM C D f) (lM C' D f) (nI 1) := by
  have hC := xX6_lacks l hfl G (β := 0) (M := lM C D f) (by omega) hR h
  simp only [lM_C] at hC
  refine l_of (cc := cL_lacks) (by decide) (Nat.le_of_ble_eq_true rfl) ?_
  intro p e s m args below meth c H ls hx hb hr hts hown hml hlocks htab hE hNc hw hl
  have hl : lv_has ls 4 [(0, .ref (gA G 0)), (1, .int a1), (2, .ref (gA G 324))] := hl
  refine lv_aload_n hx hb dL_lacks_0 rfl (lv_at hl 2 rfl) ?_
  refine lv_iconst (v := (nI 0)) hx hb dL_lacks_1 (by decide) ?_
  refine lv_aload_n hx hb dL_lacks_2 rfl (lv_at hl 0 rfl) ?_
  refine lv_iload_n hx hb dL_lacks_3 rfl (lv_at hl 1 rfl) ?_
  refine l_callX (As := [.int a1]) (rest := [.int (nI 0), .ref (gA G 324)]) hx hb hml hown hts hE hw hl hC (cwV 1 hts (yV gV_L_83) rfl rfl rfl kdX6_lacks ⟨Nat.le_of_ble_eq_true rfl, Nat.le_of_ble_eq_true rfl⟩) (by omega) (congrFun hR.1 _) rfl rfl rfl rfl (Nat.le_of_ble_eq_true rfl) dL_lacks_4 ⟨by decide, by decide⟩ [] ⟨0, 9, 12, 28⟩ [] (htab.trans rfl) (fun _ h9 => absurd h9 List.not_mem_nil) (by decide) (by decide) (hts _ (wy_in qL_L_28)) (va_Nw.use rfl hE.2.2.2.2.2.2.1) (fun q H locs hw => ?_)
  refine lv_astore_n hx hb dL_lacks_12 rfl hl (by decide) rfl (fun ls hl => ?_)
  refine lv_iconst (v := (nI 1)) hx hb dL_lacks_13 (by decide) ?_
  exact l_ret hx hb hr hlocks hw dL_lacks_14 (by decide) (by decide)
set_option maxHeartbeats 4000000 in
set_option maxRecDepth 100000 in
theorem nL_runScript (l : Launch) (G : mG) {C C' D : mM} {f : Nat → Int32} {a1 : Int32} {a2 : Int64} {r : Int32} (hN : gN G = 325) (hR : isWR G 0) (hO : gK G 324 = aJ G) (h : pX6_runScript a1 a2 C = some (.inl r, C')) : ML l G yL_runScript (wy yL_runScript cL_runScript 6 (some .int) [(0, 11, 14, 13)]) [.ref (gA G 0), .int a1, .long a2, .ref (gA G 324)] (lM C D f) (lM C' D (upd f 0 r)) (nI 0) := by
  have hC := mX6_runScript l G (β := 0) (M := lM C D f) (by omega) hR h
  simp only [lM_C] at hC
  refine l_of (cc := cL_runScript) (by decide) (Nat.le_of_ble_eq_true rfl) ?_
  intro p e s m args below meth c H ls hx hb hr hts hown hml hlocks htab hE hNc hw hl
  have hl : lv_has ls 6 [(0, .ref (gA G 0)), (1, .int a1), (2, .long a2), (4, .ref (gA G 324))] := hl
  refine lv_aload hx hb dL_runScript_0 (lv_at hl 3 rfl) ?_
  refine lv_iconst (v := (nI 0)) hx hb dL_runScript_2 (by decide) ?_
  refine lv_aload_n hx hb dL_runScript_3 rfl (lv_at hl 0 rfl) ?_
  refine lv_iload_n hx hb dL_runScript_4 rfl (lv_at hl 1 rfl) ?_
  refine lv_lload_n hx hb dL_runScript_5 rfl (lv_at hl 2 rfl) ?_
  refine r_callV (As := [.int a1, .long a2]) (rest := [.int (nI 0), .ref (gA G 324)]) (st1 := .int r :: [.int (nI 0), .ref (gA G 324)]) hx hb hml hown hts hE hw hl hC (cwV 2 hts (yV gV_L_86) rfl rfl rfl kdX6_runScript ⟨Nat.le_of_ble_eq_true rfl, Nat.le_of_ble_eq_true rfl⟩) (by omega) (congrFun hR.1 _) rfl rfl rfl rfl (Nat.le_of_ble_eq_true rfl) dL_runScript_6 ⟨Nat.zero_le _, Nat.zero_le _⟩ rfl (fun H locs hw => ?_)
  refine lv_i2l hx hb dL_runScript_9 rfl ?_
  refine l_last hx hb hE hw hN hO dL_runScript_10 (fun H locs hw => ?_)
  refine lv_goto (tgt := 18) hx hb dL_runScript_11 (by decide) ?_
  refine lv_iconst (v := (nI 0)) hx hb dL_runScript_18 (by decide) ?_
  exact l_ret hx hb hr hlocks hw dL_runScript_19 (by decide) (by decide)
set_option maxHeartbeats 4000000 in
set_option maxRecDepth 100000 in
theorem tL_runScript_0 (l : Launch) (hfl : l.stackTraces = false) (G : mG) {C C' D : mM} {f : Nat → Int32} {a1 : Int32} {a2 : Int64} (hN : gN G = 325) (hR : isWR G 0) (h : pX6_runScript a1 a2 C = some (.inr "java/lang/IllegalArgumentException", C')) : ML l G yL_runScript (wy yL_runScript cL_runScript 6 (some .int) [(0, 11, 14, 13)]) [.ref (gA G 0), .int a1, .long a2, .ref (gA G 324)] (lM C D f) (lM C' D f) (nI 1) := by
  have hC := xX6_runScript l hfl G (β := 0) (M := lM C D f) (by omega) hR h
  simp only [lM_C] at hC
  refine l_of (cc := cL_runScript) (by decide) (Nat.le_of_ble_eq_true rfl) ?_
  intro p e s m args below meth c H ls hx hb hr hts hown hml hlocks htab hE hNc hw hl
  have hl : lv_has ls 6 [(0, .ref (gA G 0)), (1, .int a1), (2, .long a2), (4, .ref (gA G 324))] := hl
  refine lv_aload hx hb dL_runScript_0 (lv_at hl 3 rfl) ?_
  refine lv_iconst (v := (nI 0)) hx hb dL_runScript_2 (by decide) ?_
  refine lv_aload_n hx hb dL_runScript_3 rfl (lv_at hl 0 rfl) ?_
  refine lv_iload_n hx hb dL_runScript_4 rfl (lv_at hl 1 rfl) ?_
  refine lv_lload_n hx hb dL_runScript_5 rfl (lv_at hl 2 rfl) ?_
  refine l_callX (As := [.int a1, .long a2]) (rest := [.int (nI 0), .ref (gA G 324)]) hx hb hml hown hts hE hw hl hC (cwV 2 hts (yV gV_L_86) rfl rfl rfl kdX6_runScript ⟨Nat.le_of_ble_eq_true rfl, Nat.le_of_ble_eq_true rfl⟩) (by omega) (congrFun hR.1 _) rfl rfl rfl rfl (Nat.le_of_ble_eq_true rfl) dL_runScript_6 ⟨by decide, by decide⟩ [] ⟨0, 11, 14, 13⟩ [] (htab.trans rfl) (fun _ h9 => absurd h9 List.not_mem_nil) (by decide) (by decide) (hts _ (wy_in qL_L_13)) (va_Nw.use rfl hE.2.2.2.2.2.2.2.1) (fun q H locs hw => ?_)
  refine lv_astore hx hb dL_runScript_14 hl (by decide) rfl (fun ls hl => ?_)
  refine lv_iconst (v := (nI 1)) hx hb dL_runScript_16 (by decide) ?_
  exact l_ret hx hb hr hlocks hw dL_runScript_17 (by decide) (by decide)
set_option maxHeartbeats 4000000 in
set_option maxRecDepth 100000 in
theorem nL_simulate (l : Launch) (G : mG) {C C' D : mM} {f : Nat → Int32} {a1 : Int64} {a2 : Int32} {r : Int32} (hN : gN G = 325) (hR : isWR G 0) (hO : gK G 324 = aJ G) (h : pX6_simulate a1 a2 C = some (.inl r, C')) : ML l G yL_simulate (wy yL_simulate cL_simulate 6 (some .int) [(0, 11, 14, 13)]) [.ref (gA G 0), .long a1, .int a2, .ref (gA G 324)] (lM C D f) (lM C' D (upd f 0 r)) (nI 0) := by
  have hC := mX6_simulate l G (β := 0) (M := lM C D f) (by omega) hR h
  simp only [lM_C] at hC
  refine l_of (cc := cL_simulate) (by decide) (Nat.le_of_ble_eq_true rfl) ?_
  intro p e s m args below meth c H ls hx hb hr hts hown hml hlocks htab hE hNc hw hl
  have hl : lv_has ls 6 [(0, .ref (gA G 0)), (1, .long a1), (3, .int a2), (4, .ref (gA G 324))] := hl
  refine lv_aload hx hb dL_simulate_0 (lv_at hl 3 rfl) ?_
  refine lv_iconst (v := (nI 0)) hx hb dL_simulate_2 (by decide) ?_
  refine lv_aload_n hx hb dL_simulate_3 rfl (lv_at hl 0 rfl) ?_
  refine lv_lload_n hx hb dL_simulate_4 rfl (lv_at hl 1 rfl) ?_
  refine lv_iload_n hx hb dL_simulate_5 rfl (lv_at hl 2 rfl) ?_
  refine r_callV (As := [.long a1, .int a2]) (rest := [.int (nI 0), .ref (gA G 324)]) (st1 := .int r :: [.int (nI 0), .ref (gA G 324)]) hx hb hml hown hts hE hw hl hC (cwV 2 hts (yV gV_L_90) rfl rfl rfl kdX6_simulate ⟨Nat.le_of_ble_eq_true rfl, Nat.le_of_ble_eq_true rfl⟩) (by omega) (congrFun hR.1 _) rfl rfl rfl rfl (Nat.le_of_ble_eq_true rfl) dL_simulate_6 ⟨Nat.zero_le _, Nat.zero_le _⟩ rfl (fun H locs hw => ?_)
  refine lv_i2l hx hb dL_simulate_9 rfl ?_
  refine l_last hx hb hE hw hN hO dL_simulate_10 (fun H locs hw => ?_)
  refine lv_goto (tgt := 18) hx hb dL_simulate_11 (by decide) ?_
  refine lv_iconst (v := (nI 0)) hx hb dL_simulate_18 (by decide) ?_
  exact l_ret hx hb hr hlocks hw dL_simulate_19 (by decide) (by decide)
set_option maxHeartbeats 4000000 in
set_option maxRecDepth 100000 in
theorem tL_simulate_0 (l : Launch) (hfl : l.stackTraces = false) (G : mG) {C C' D : mM} {f : Nat → Int32} {a1 : Int64} {a2 : Int32} (hN : gN G = 325) (hR : isWR G 0) (h : pX6_simulate a1 a2 C = some (.inr "java/lang/IllegalArgumentException", C')) : ML l G yL_simulate (wy yL_simulate cL_simulate 6 (some .int) [(0, 11, 14, 13)]) [.ref (gA G 0), .long a1, .int a2, .ref (gA G 324)] (lM C D f) (lM C' D f) (nI 1) := by
  have hC := xX6_simulate l hfl G (β := 0) (M := lM C D f) (by omega) hR h
  simp only [lM_C] at hC
  refine l_of (cc := cL_simulate) (by decide) (Nat.le_of_ble_eq_true rfl) ?_
  intro p e s m args below meth c H ls hx hb hr hts hown hml hlocks htab hE hNc hw hl
  have hl : lv_has ls 6 [(0, .ref (gA G 0)), (1, .long a1), (3, .int a2), (4, .ref (gA G 324))] := hl
  refine lv_aload hx hb dL_simulate_0 (lv_at hl 3 rfl) ?_
  refine lv_iconst (v := (nI 0)) hx hb dL_simulate_2 (by decide) ?_
  refine lv_aload_n hx hb dL_simulate_3 rfl (lv_at hl 0 rfl) ?_
  refine lv_lload_n hx hb dL_simulate_4 rfl (lv_at hl 1 rfl) ?_
  refine lv_iload_n hx hb dL_simulate_5 rfl (lv_at hl 2 rfl) ?_
  refine l_callX (As := [.long a1, .int a2]) (rest := [.int (nI 0), .ref (gA G 324)]) hx hb hml hown hts hE hw hl hC (cwV 2 hts (yV gV_L_90) rfl rfl rfl kdX6_simulate ⟨Nat.le_of_ble_eq_true rfl, Nat.le_of_ble_eq_true rfl⟩) (by omega) (congrFun hR.1 _) rfl rfl rfl rfl (Nat.le_of_ble_eq_true rfl) dL_simulate_6 ⟨by decide, by decide⟩ [] ⟨0, 11, 14, 13⟩ [] (htab.trans rfl) (fun _ h9 => absurd h9 List.not_mem_nil) (by decide) (by decide) (hts _ (wy_in qL_L_13)) (va_Nw.use rfl hE.2.2.2.2.2.2.2.1) (fun q H locs hw => ?_)
  refine lv_astore hx hb dL_simulate_14 hl (by decide) rfl (fun ls hl => ?_)
  refine lv_iconst (v := (nI 1)) hx hb dL_simulate_16 (by decide) ?_
  exact l_ret hx hb hr hlocks hw dL_simulate_17 (by decide) (by decide)
set_option maxHeartbeats 4000000 in
set_option maxRecDepth 100000 in
theorem nL_save (l : Launch) (G : mG) {C C' D : mM} {f : Nat → Int32} {a1 : Int32} {r : Int32} (hN : gN G = 325) (hR : isWR G 0) (hO : gK G 324 = aJ G) (h : pX6_save a1 C = some (.inl r, C')) : ML l G yL_save (wy yL_save cL_save 4 (some .int) [(0, 9, 12, 28)]) [.ref (gA G 0), .int a1, .ref (gA G 324)] (lM C D f) (lM C' D (upd f 0 r)) (nI 0) := by
  have hC := mX6_save l G (β := 0) (M := lM C D f) (by omega) hR h
  simp only [lM_C] at hC
  refine l_of (cc := cL_save) (by decide) (Nat.le_of_ble_eq_true rfl) ?_
  intro p e s m args below meth c H ls hx hb hr hts hown hml hlocks htab hE hNc hw hl
  have hl : lv_has ls 4 [(0, .ref (gA G 0)), (1, .int a1), (2, .ref (gA G 324))] := hl
  refine lv_aload_n hx hb dL_save_0 rfl (lv_at hl 2 rfl) ?_
  refine lv_iconst (v := (nI 0)) hx hb dL_save_1 (by decide) ?_
  refine lv_aload_n hx hb dL_save_2 rfl (lv_at hl 0 rfl) ?_
  refine lv_iload_n hx hb dL_save_3 rfl (lv_at hl 1 rfl) ?_
  refine r_callV (As := [.int a1]) (rest := [.int (nI 0), .ref (gA G 324)]) (st1 := .int r :: [.int (nI 0), .ref (gA G 324)]) hx hb hml hown hts hE hw hl hC (cwV 1 hts (yV gV_L_94) rfl rfl rfl kdX6_save ⟨Nat.le_of_ble_eq_true rfl, Nat.le_of_ble_eq_true rfl⟩) (by omega) (congrFun hR.1 _) rfl rfl rfl rfl (Nat.le_of_ble_eq_true rfl) dL_save_4 ⟨Nat.zero_le _, Nat.zero_le _⟩ rfl (fun H locs hw => ?_)
  refine lv_i2l hx hb dL_save_7 rfl ?_
  refine l_last hx hb hE hw hN hO dL_save_8 (fun H locs hw => ?_)
  refine lv_goto (tgt := 15) hx hb dL_save_9 (by decide) ?_
  refine lv_iconst (v := (nI 0)) hx hb dL_save_15 (by decide) ?_
  exact l_ret hx hb hr hlocks hw dL_save_16 (by decide) (by decide)
set_option maxHeartbeats 4000000 in
set_option maxRecDepth 100000 in
theorem tL_save_0 (l : Launch) (hfl : l.stackTraces = false) (G : mG) {C C' D : mM} {f : Nat → Int32} {a1 : Int32} (hN : gN G = 325) (hR : isWR G 0) (h : pX6_save a1 C = some (.inr "java/lang/IndexOutOfBoundsException", C')) : ML l G yL_save (wy yL_save cL_save 4 (some .int) [(0, 9, 12, 28)]) [.ref (gA G 0), .int a1, .ref (gA G 324)] (lM C D f) (lM C' D f) (nI 1) := by
  have hC := xX6_save l hfl G (β := 0) (M := lM C D f) (by omega) hR h
  simp only [lM_C] at hC
  refine l_of (cc := cL_save) (by decide) (Nat.le_of_ble_eq_true rfl) ?_
  intro p e s m args below meth c H ls hx hb hr hts hown hml hlocks htab hE hNc hw hl
  have hl : lv_has ls 4 [(0, .ref (gA G 0)), (1, .int a1), (2, .ref (gA G 324))] := hl
  refine lv_aload_n hx hb dL_save_0 rfl (lv_at hl 2 rfl) ?_
  refine lv_iconst (v := (nI 0)) hx hb dL_save_1 (by decide) ?_
  refine lv_aload_n hx hb dL_save_2 rfl (lv_at hl 0 rfl) ?_
  refine lv_iload_n hx hb dL_save_3 rfl (lv_at hl 1 rfl) ?_
  refine l_callX (As := [.int a1]) (rest := [.int (nI 0), .ref (gA G 324)]) hx hb hml hown hts hE hw hl hC (cwV 1 hts (yV gV_L_94) rfl rfl rfl kdX6_save ⟨Nat.le_of_ble_eq_true rfl, Nat.le_of_ble_eq_true rfl⟩) (by omega) (congrFun hR.1 _) rfl rfl rfl rfl (Nat.le_of_ble_eq_true rfl) dL_save_4 ⟨by decide, by decide⟩ [] ⟨0, 9, 12, 28⟩ [] (htab.trans rfl) (fun _ h9 => absurd h9 List.not_mem_nil) (by decide) (by decide) (hts _ (wy_in qL_L_28)) (va_Nw.use rfl hE.2.2.2.2.2.2.1) (fun q H locs hw => ?_)
  refine lv_astore_n hx hb dL_save_12 rfl hl (by decide) rfl (fun ls hl => ?_)
  refine lv_iconst (v := (nI 1)) hx hb dL_save_13 (by decide) ?_
  exact l_ret hx hb hr hlocks hw dL_save_14 (by decide) (by decide)
set_option maxHeartbeats 4000000 in
set_option maxRecDepth 100000 in
theorem nL_restore (l : Launch) (G : mG) {C C' D : mM} {f : Nat → Int32} {a1 : Int32} {r : Int32} (hN : gN G = 325) (hR : isWR G 0) (hO : gK G 324 = aJ G) (h : pX6_restore a1 C = some (.inl r, C')) : ML l G yL_restore (wy yL_restore cL_restore 4 (some .int) [(0, 9, 12, 28), (0, 9, 15, 15)]) [.ref (gA G 0), .int a1, .ref (gA G 324)] (lM C D f) (lM C' D (upd f 0 r)) (nI 0) := by
  have hC := mX6_restore l G (β := 0) (M := lM C D f) (by omega) hR h
  simp only [lM_C] at hC
  refine l_of (cc := cL_restore) (by decide) (Nat.le_of_ble_eq_true rfl) ?_
  intro p e s m args below meth c H ls hx hb hr hts hown hml hlocks htab hE hNc hw hl
  have hl : lv_has ls 4 [(0, .ref (gA G 0)), (1, .int a1), (2, .ref (gA G 324))] := hl
  refine lv_aload_n hx hb dL_restore_0 rfl (lv_at hl 2 rfl) ?_
  refine lv_iconst (v := (nI 0)) hx hb dL_restore_1 (by decide) ?_
  refine lv_aload_n hx hb dL_restore_2 rfl (lv_at hl 0 rfl) ?_
  refine lv_iload_n hx hb dL_restore_3 rfl (lv_at hl 1 rfl) ?_
  refine r_callV (As := [.int a1]) (rest := [.int (nI 0), .ref (gA G 324)]) (st1 := .int r :: [.int (nI 0), .ref (gA G 324)]) hx hb hml hown hts hE hw hl hC (cwV 1 hts (yV gV_L_97) rfl rfl rfl kdX6_restore ⟨Nat.le_of_ble_eq_true rfl, Nat.le_of_ble_eq_true rfl⟩) (by omega) (congrFun hR.1 _) rfl rfl rfl rfl (Nat.le_of_ble_eq_true rfl) dL_restore_4 ⟨Nat.zero_le _, Nat.zero_le _⟩ rfl (fun H locs hw => ?_)
  refine lv_i2l hx hb dL_restore_7 rfl ?_
  refine l_last hx hb hE hw hN hO dL_restore_8 (fun H locs hw => ?_)
  refine lv_goto (tgt := 18) hx hb dL_restore_9 (by decide) ?_
  refine lv_iconst (v := (nI 0)) hx hb dL_restore_18 (by decide) ?_
  exact l_ret hx hb hr hlocks hw dL_restore_19 (by decide) (by decide)
set_option maxHeartbeats 4000000 in
set_option maxRecDepth 100000 in
theorem tL_restore_0 (l : Launch) (hfl : l.stackTraces = false) (G : mG) {C C' D : mM} {f : Nat → Int32} {a1 : Int32} (hN : gN G = 325) (hR : isWR G 0) (h : pX6_restore a1 C = some (.inr "java/lang/IndexOutOfBoundsException", C')) : ML l G yL_restore (wy yL_restore cL_restore 4 (some .int) [(0, 9, 12, 28), (0, 9, 15, 15)]) [.ref (gA G 0), .int a1, .ref (gA G 324)] (lM C D f) (lM C' D f) (nI 1) := by
  have hC := xX6_restore l hfl G (β := 0) (M := lM C D f) (by omega) hR h
  simp only [lM_C] at hC
  refine l_of (cc := cL_restore) (by decide) (Nat.le_of_ble_eq_true rfl) ?_
  intro p e s m args below meth c H ls hx hb hr hts hown hml hlocks htab hE hNc hw hl
  have hl : lv_has ls 4 [(0, .ref (gA G 0)), (1, .int a1), (2, .ref (gA G 324))] := hl
  refine lv_aload_n hx hb dL_restore_0 rfl (lv_at hl 2 rfl) ?_
  refine lv_iconst (v := (nI 0)) hx hb dL_restore_1 (by decide) ?_
  refine lv_aload_n hx hb dL_restore_2 rfl (lv_at hl 0 rfl) ?_
  refine lv_iload_n hx hb dL_restore_3 rfl (lv_at hl 1 rfl) ?_
  refine l_callX (As := [.int a1]) (rest := [.int (nI 0), .ref (gA G 324)]) hx hb hml hown hts hE hw hl hC (cwV 1 hts (yV gV_L_97) rfl rfl rfl kdX6_restore ⟨Nat.le_of_ble_eq_true rfl, Nat.le_of_ble_eq_true rfl⟩) (by omega) (congrFun hR.1 _) rfl rfl rfl rfl (Nat.le_of_ble_eq_true rfl) dL_restore_4 ⟨by decide, by decide⟩ [] ⟨0, 9, 12, 28⟩ [⟨0, 9, 15, 15⟩] (htab.trans rfl) (fun _ h9 => absurd h9 List.not_mem_nil) (by decide) (by decide) (hts _ (wy_in qL_L_28)) (va_Nw.use rfl hE.2.2.2.2.2.2.1) (fun q H locs hw => ?_)
  refine lv_astore_n hx hb dL_restore_12 rfl hl (by decide) rfl (fun ls hl => ?_)
  refine lv_iconst (v := (nI 1)) hx hb dL_restore_13 (by decide) ?_
  exact l_ret hx hb hr hlocks hw dL_restore_14 (by decide) (by decide)
set_option maxHeartbeats 4000000 in
set_option maxRecDepth 100000 in
theorem tL_restore_1 (l : Launch) (hfl : l.stackTraces = false) (G : mG) {C C' D : mM} {f : Nat → Int32} {a1 : Int32} (hN : gN G = 325) (hR : isWR G 0) (h : pX6_restore a1 C = some (.inr "java/lang/IllegalStateException", C')) : ML l G yL_restore (wy yL_restore cL_restore 4 (some .int) [(0, 9, 12, 28), (0, 9, 15, 15)]) [.ref (gA G 0), .int a1, .ref (gA G 324)] (lM C D f) (lM C' D f) (nI 2) := by
  have hC := xX6_restore l hfl G (β := 0) (M := lM C D f) (by omega) hR h
  simp only [lM_C] at hC
  refine l_of (cc := cL_restore) (by decide) (Nat.le_of_ble_eq_true rfl) ?_
  intro p e s m args below meth c H ls hx hb hr hts hown hml hlocks htab hE hNc hw hl
  have hl : lv_has ls 4 [(0, .ref (gA G 0)), (1, .int a1), (2, .ref (gA G 324))] := hl
  refine lv_aload_n hx hb dL_restore_0 rfl (lv_at hl 2 rfl) ?_
  refine lv_iconst (v := (nI 0)) hx hb dL_restore_1 (by decide) ?_
  refine lv_aload_n hx hb dL_restore_2 rfl (lv_at hl 0 rfl) ?_
  refine lv_iload_n hx hb dL_restore_3 rfl (lv_at hl 1 rfl) ?_
  refine l_callX (As := [.int a1]) (rest := [.int (nI 0), .ref (gA G 324)]) hx hb hml hown hts hE hw hl hC (cwV 1 hts (yV gV_L_97) rfl rfl rfl kdX6_restore ⟨Nat.le_of_ble_eq_true rfl, Nat.le_of_ble_eq_true rfl⟩) (by omega) (congrFun hR.1 _) rfl rfl rfl rfl (Nat.le_of_ble_eq_true rfl) dL_restore_4 ⟨by decide, by decide⟩ [⟨0, 9, 12, 28⟩] ⟨0, 9, 15, 15⟩ [] (htab.trans rfl) (fun z hz => by
      rcases List.mem_cons.mp hz with rfl | hz
      · exact Or.inr ⟨by decide, _, hts _ (wy_in qL_L_28), hNc.2.1⟩
      cases hz) (by decide) (by decide) (hts _ (wy_in qL_L_15)) (va_Nw.use rfl hE.2.2.2.2.2.2.2.2.1) (fun q H locs hw => ?_)
  refine lv_astore_n hx hb dL_restore_15 rfl hl (by decide) rfl (fun ls hl => ?_)
  refine lv_iconst (v := (nI 2)) hx hb dL_restore_16 (by decide) ?_
  exact l_ret hx hb hr hlocks hw dL_restore_17 (by decide) (by decide)
