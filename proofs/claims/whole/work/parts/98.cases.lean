/-! ===== more words of the law; its cases ===== -/
theorem qC_X6_clearText : Cond.code yX6_clearText cX6_clearText 1 (some .int) ∈ zT := zT_in (qin_1 (List.mem_of_getElem? (i := 206) (by decide +kernel))) rfl
theorem qC_X6_errorPosition : Cond.code yX6_errorPosition cX6_errorPosition 1 (some .int) ∈ zT := zT_in (qin_1 (List.mem_of_getElem? (i := 214) (by decide +kernel))) rfl
theorem qC_X7_about : Cond.code yX7_about cX7_about 2 (some .int) ∈ zT := zT_in (qin_5 (List.mem_of_getElem? (i := 77) (by decide +kernel))) rfl
theorem qC_X7_addBay : Cond.code yX7_addBay cX7_addBay 4 (some .int) ∈ zT := zT_in (qin_5 (List.mem_of_getElem? (i := 156) (by decide +kernel))) rfl
theorem qC_X7_addConvoy : Cond.code yX7_addConvoy cX7_addConvoy 1 (some .int) ∈ zT := zT_in (qin_5 (List.mem_of_getElem? (i := 165) (by decide +kernel))) rfl
theorem qC_X7_addDepot : Cond.code yX7_addDepot cX7_addDepot 4 (some .int) ∈ zT := zT_in (qin_5 (List.mem_of_getElem? (i := 160) (by decide +kernel))) rfl
theorem qC_X7_addGate : Cond.code yX7_addGate cX7_addGate 6 (some .int) ∈ zT := zT_in (qin_5 (List.mem_of_getElem? (i := 146) (by decide +kernel))) rfl
theorem qC_X7_addVehicle : Cond.code yX7_addVehicle cX7_addVehicle 7 (some .int) ∈ zT := zT_in (qin_5 (List.mem_of_getElem? (i := 169) (by decide +kernel))) rfl
theorem qC_X7_append : Cond.code yX7_append cX7_append 2 (some .int) ∈ zT := zT_in (qin_4 (List.mem_of_getElem? (i := 207) (by decide +kernel))) rfl
theorem qC_X7_arrives : Cond.code yX7_arrives cX7_arrives 2 (some .int) ∈ zT := zT_in (qin_6 (List.mem_of_getElem? (i := 0) (by decide +kernel))) rfl
theorem qC_X7_bay : Cond.code yX7_bay cX7_bay 3 (some .int) ∈ zT := zT_in (qin_5 (List.mem_of_getElem? (i := 133) (by decide +kernel))) rfl
theorem qC_X7_bestHold : Cond.code yX7_bestHold cX7_bestHold 6 (some .int) ∈ zT := zT_in (qin_6 (List.mem_of_getElem? (i := 16) (by decide +kernel))) rfl
theorem qC_X7_clearText : Cond.code yX7_clearText cX7_clearText 2 (some .int) ∈ zT := zT_in (qin_4 (List.mem_of_getElem? (i := 219) (by decide +kernel))) rfl
theorem qC_X7_convoy : Cond.code yX7_convoy cX7_convoy 3 (some .int) ∈ zT := zT_in (qin_5 (List.mem_of_getElem? (i := 91) (by decide +kernel))) rfl
theorem qC_X7_depot : Cond.code yX7_depot cX7_depot 3 (some .int) ∈ zT := zT_in (qin_5 (List.mem_of_getElem? (i := 138) (by decide +kernel))) rfl
theorem qC_X7_errorPosition : Cond.code yX7_errorPosition cX7_errorPosition 1 (some .int) ∈ zT := zT_in (qin_4 (List.mem_of_getElem? (i := 223) (by decide +kernel))) rfl
theorem qC_X7_gate : Cond.code yX7_gate cX7_gate 3 (some .int) ∈ zT := zT_in (qin_5 (List.mem_of_getElem? (i := 121) (by decide +kernel))) rfl
theorem qC_X7_hold : Cond.code yX7_hold cX7_hold 4 (some .int) ∈ zT := zT_in (qin_5 (List.mem_of_getElem? (i := 176) (by decide +kernel))) rfl
theorem qC_X7_lacks : Cond.code yX7_lacks cX7_lacks 3 (some .int) ∈ zT := zT_in (qin_6 (List.mem_of_getElem? (i := 20) (by decide +kernel))) rfl
theorem qC_X7_leaves : Cond.code yX7_leaves cX7_leaves 3 (some .int) ∈ zT := zT_in (qin_6 (List.mem_of_getElem? (i := 12) (by decide +kernel))) rfl
theorem qC_X7_load : Cond.code yX7_load cX7_load 1 (some .int) ∈ zT := zT_in (qin_5 (List.mem_of_getElem? (i := 70) (by decide +kernel))) rfl
theorem qC_X7_member : Cond.code yX7_member cX7_member 3 (some .int) ∈ zT := zT_in (qin_5 (List.mem_of_getElem? (i := 112) (by decide +kernel))) rfl
theorem qC_X7_pass : Cond.code yX7_pass cX7_pass 2 (some .int) ∈ zT := zT_in (qin_5 (List.mem_of_getElem? (i := 189) (by decide +kernel))) rfl
theorem qC_X7_restore : Cond.code yX7_restore cX7_restore 2 (some .int) ∈ zT := zT_in (qin_6 (List.mem_of_getElem? (i := 55) (by decide +kernel))) rfl
theorem qC_X7_runScript : Cond.code yX7_runScript cX7_runScript 6 (some .int) ∈ zT := zT_in (qin_6 (List.mem_of_getElem? (i := 28) (by decide +kernel))) rfl
theorem qC_X7_save : Cond.code yX7_save cX7_save 2 (some .int) ∈ zT := zT_in (qin_6 (List.mem_of_getElem? (i := 51) (by decide +kernel))) rfl
theorem qC_X7_simulate : Cond.code yX7_simulate cX7_simulate 7 (some .int) ∈ zT := zT_in (qin_6 (List.mem_of_getElem? (i := 41) (by decide +kernel))) rfl
theorem qC_X7_supply : Cond.code yX7_supply cX7_supply 3 (some .int) ∈ zT := zT_in (qin_5 (List.mem_of_getElem? (i := 184) (by decide +kernel))) rfl
theorem qC_X7_thrown : Cond.code yX7_thrown cX7_thrown 1 (some .int) ∈ zT := zT_in (qin_4 (List.mem_of_getElem? (i := 203) (by decide +kernel))) rfl
theorem qC_X7_undo : Cond.code yX7_undo cX7_undo 1 (some .int) ∈ zT := zT_in (qin_5 (List.mem_of_getElem? (i := 236) (by decide +kernel))) rfl
theorem qC_X7_vehicle : Cond.code yX7_vehicle cX7_vehicle 3 (some .int) ∈ zT := zT_in (qin_5 (List.mem_of_getElem? (i := 116) (by decide +kernel))) rfl
theorem qI_X6_clearText : Cond.instanceMethod yX6_clearText ∈ zT := zT_in (qin_1 (List.mem_of_getElem? (i := 204) (by decide +kernel))) rfl
theorem qI_X6_errorPosition : Cond.instanceMethod yX6_errorPosition ∈ zT := zT_in (qin_1 (List.mem_of_getElem? (i := 212) (by decide +kernel))) rfl
theorem qI_X7_about : Cond.instanceMethod yX7_about ∈ zT := zT_in (qin_5 (List.mem_of_getElem? (i := 75) (by decide +kernel))) rfl
theorem qI_X7_addBay : Cond.instanceMethod yX7_addBay ∈ zT := zT_in (qin_5 (List.mem_of_getElem? (i := 154) (by decide +kernel))) rfl
theorem qI_X7_addConvoy : Cond.instanceMethod yX7_addConvoy ∈ zT := zT_in (qin_5 (List.mem_of_getElem? (i := 163) (by decide +kernel))) rfl
theorem qI_X7_addDepot : Cond.instanceMethod yX7_addDepot ∈ zT := zT_in (qin_5 (List.mem_of_getElem? (i := 158) (by decide +kernel))) rfl
theorem qI_X7_addGate : Cond.instanceMethod yX7_addGate ∈ zT := zT_in (qin_5 (List.mem_of_getElem? (i := 144) (by decide +kernel))) rfl
theorem qI_X7_addVehicle : Cond.instanceMethod yX7_addVehicle ∈ zT := zT_in (qin_5 (List.mem_of_getElem? (i := 167) (by decide +kernel))) rfl
theorem qI_X7_append : Cond.instanceMethod yX7_append ∈ zT := zT_in (qin_4 (List.mem_of_getElem? (i := 205) (by decide +kernel))) rfl
theorem qI_X7_arrives : Cond.instanceMethod yX7_arrives ∈ zT := zT_in (qin_5 (List.mem_of_getElem? (i := 238) (by decide +kernel))) rfl
theorem qI_X7_bay : Cond.instanceMethod yX7_bay ∈ zT := zT_in (qin_5 (List.mem_of_getElem? (i := 131) (by decide +kernel))) rfl
theorem qI_X7_bestHold : Cond.instanceMethod yX7_bestHold ∈ zT := zT_in (qin_6 (List.mem_of_getElem? (i := 14) (by decide +kernel))) rfl
theorem qI_X7_clearText : Cond.instanceMethod yX7_clearText ∈ zT := zT_in (qin_4 (List.mem_of_getElem? (i := 217) (by decide +kernel))) rfl
theorem qI_X7_convoy : Cond.instanceMethod yX7_convoy ∈ zT := zT_in (qin_5 (List.mem_of_getElem? (i := 89) (by decide +kernel))) rfl
theorem qI_X7_depot : Cond.instanceMethod yX7_depot ∈ zT := zT_in (qin_5 (List.mem_of_getElem? (i := 136) (by decide +kernel))) rfl
theorem qI_X7_errorPosition : Cond.instanceMethod yX7_errorPosition ∈ zT := zT_in (qin_4 (List.mem_of_getElem? (i := 221) (by decide +kernel))) rfl
theorem qI_X7_gate : Cond.instanceMethod yX7_gate ∈ zT := zT_in (qin_5 (List.mem_of_getElem? (i := 119) (by decide +kernel))) rfl
theorem qI_X7_hold : Cond.instanceMethod yX7_hold ∈ zT := zT_in (qin_5 (List.mem_of_getElem? (i := 174) (by decide +kernel))) rfl
theorem qI_X7_lacks : Cond.instanceMethod yX7_lacks ∈ zT := zT_in (qin_6 (List.mem_of_getElem? (i := 18) (by decide +kernel))) rfl
theorem qI_X7_leaves : Cond.instanceMethod yX7_leaves ∈ zT := zT_in (qin_6 (List.mem_of_getElem? (i := 10) (by decide +kernel))) rfl
theorem qI_X7_load : Cond.instanceMethod yX7_load ∈ zT := zT_in (qin_5 (List.mem_of_getElem? (i := 68) (by decide +kernel))) rfl
theorem qI_X7_member : Cond.instanceMethod yX7_member ∈ zT := zT_in (qin_5 (List.mem_of_getElem? (i := 110) (by decide +kernel))) rfl
theorem qI_X7_pass : Cond.instanceMethod yX7_pass ∈ zT := zT_in (qin_5 (List.mem_of_getElem? (i := 187) (by decide +kernel))) rfl
theorem qI_X7_restore : Cond.instanceMethod yX7_restore ∈ zT := zT_in (qin_6 (List.mem_of_getElem? (i := 53) (by decide +kernel))) rfl
theorem qI_X7_runScript : Cond.instanceMethod yX7_runScript ∈ zT := zT_in (qin_6 (List.mem_of_getElem? (i := 26) (by decide +kernel))) rfl
theorem qI_X7_save : Cond.instanceMethod yX7_save ∈ zT := zT_in (qin_6 (List.mem_of_getElem? (i := 49) (by decide +kernel))) rfl
theorem qI_X7_simulate : Cond.instanceMethod yX7_simulate ∈ zT := zT_in (qin_6 (List.mem_of_getElem? (i := 39) (by decide +kernel))) rfl
theorem qI_X7_supply : Cond.instanceMethod yX7_supply ∈ zT := zT_in (qin_5 (List.mem_of_getElem? (i := 182) (by decide +kernel))) rfl
theorem qI_X7_thrown : Cond.instanceMethod yX7_thrown ∈ zT := zT_in (qin_4 (List.mem_of_getElem? (i := 201) (by decide +kernel))) rfl
theorem qI_X7_undo : Cond.instanceMethod yX7_undo ∈ zT := zT_in (qin_5 (List.mem_of_getElem? (i := 234) (by decide +kernel))) rfl
theorem qI_X7_vehicle : Cond.instanceMethod yX7_vehicle ∈ zT := zT_in (qin_5 (List.mem_of_getElem? (i := 114) (by decide +kernel))) rfl
theorem qK_L_188 : Cond.constantLong RL 188 (lN 4294967295) ∈ zT := zT_in (qin_6 (List.mem_of_getElem? (i := 56) (by decide +kernel))) rfl
theorem qM_L_104 : Cond.methodLink RL 104 yL_append ∈ zT := zT_in (qin_2 (List.mem_of_getElem? (i := 93) (by decide +kernel))) rfl
theorem qM_L_109 : Cond.methodLink RL 109 yX7_append ∈ zT := zT_in (qin_4 (List.mem_of_getElem? (i := 204) (by decide +kernel))) rfl
theorem qM_L_110 : Cond.methodLink RL 110 yX7_thrown ∈ zT := zT_in (qin_4 (List.mem_of_getElem? (i := 200) (by decide +kernel))) rfl
theorem qM_L_113 : Cond.methodLink RL 113 yX6_clearText ∈ zT := zT_in (qin_1 (List.mem_of_getElem? (i := 203) (by decide +kernel))) rfl
theorem qM_L_116 : Cond.methodLink RL 116 yX7_clearText ∈ zT := zT_in (qin_4 (List.mem_of_getElem? (i := 216) (by decide +kernel))) rfl
theorem qM_L_117 : Cond.methodLink RL 117 yX6_errorPosition ∈ zT := zT_in (qin_1 (List.mem_of_getElem? (i := 211) (by decide +kernel))) rfl
theorem qM_L_120 : Cond.methodLink RL 120 yX7_errorPosition ∈ zT := zT_in (qin_4 (List.mem_of_getElem? (i := 220) (by decide +kernel))) rfl
theorem qM_L_121 : Cond.methodLink RL 121 yL_load ∈ zT := zT_in (qin_2 (List.mem_of_getElem? (i := 204) (by decide +kernel))) rfl
theorem qM_L_124 : Cond.methodLink RL 124 yX7_load ∈ zT := zT_in (qin_5 (List.mem_of_getElem? (i := 67) (by decide +kernel))) rfl
theorem qM_L_125 : Cond.methodLink RL 125 yL_about ∈ zT := zT_in (qin_3 (List.mem_of_getElem? (i := 0) (by decide +kernel))) rfl
theorem qM_L_127 : Cond.methodLink RL 127 yX7_about ∈ zT := zT_in (qin_5 (List.mem_of_getElem? (i := 74) (by decide +kernel))) rfl
theorem qM_L_128 : Cond.methodLink RL 128 yL_convoy ∈ zT := zT_in (qin_3 (List.mem_of_getElem? (i := 22) (by decide +kernel))) rfl
theorem qM_L_131 : Cond.methodLink RL 131 yX7_convoy ∈ zT := zT_in (qin_5 (List.mem_of_getElem? (i := 88) (by decide +kernel))) rfl
theorem qM_L_132 : Cond.methodLink RL 132 yL_member ∈ zT := zT_in (qin_3 (List.mem_of_getElem? (i := 69) (by decide +kernel))) rfl
theorem qM_L_134 : Cond.methodLink RL 134 yX7_member ∈ zT := zT_in (qin_5 (List.mem_of_getElem? (i := 109) (by decide +kernel))) rfl
theorem qM_L_135 : Cond.methodLink RL 135 yL_vehicle ∈ zT := zT_in (qin_3 (List.mem_of_getElem? (i := 77) (by decide +kernel))) rfl
theorem qM_L_137 : Cond.methodLink RL 137 yX7_vehicle ∈ zT := zT_in (qin_5 (List.mem_of_getElem? (i := 113) (by decide +kernel))) rfl
theorem qM_L_138 : Cond.methodLink RL 138 yL_gate ∈ zT := zT_in (qin_3 (List.mem_of_getElem? (i := 84) (by decide +kernel))) rfl
theorem qM_L_140 : Cond.methodLink RL 140 yX7_gate ∈ zT := zT_in (qin_5 (List.mem_of_getElem? (i := 118) (by decide +kernel))) rfl
theorem qM_L_141 : Cond.methodLink RL 141 yL_bay ∈ zT := zT_in (qin_3 (List.mem_of_getElem? (i := 96) (by decide +kernel))) rfl
theorem qM_L_143 : Cond.methodLink RL 143 yX7_bay ∈ zT := zT_in (qin_5 (List.mem_of_getElem? (i := 130) (by decide +kernel))) rfl
theorem qM_L_144 : Cond.methodLink RL 144 yL_depot ∈ zT := zT_in (qin_3 (List.mem_of_getElem? (i := 103) (by decide +kernel))) rfl
theorem qM_L_146 : Cond.methodLink RL 146 yX7_depot ∈ zT := zT_in (qin_5 (List.mem_of_getElem? (i := 135) (by decide +kernel))) rfl
theorem qM_L_147 : Cond.methodLink RL 147 yL_addGate ∈ zT := zT_in (qin_3 (List.mem_of_getElem? (i := 110) (by decide +kernel))) rfl
theorem qM_L_150 : Cond.methodLink RL 150 yX7_addGate ∈ zT := zT_in (qin_5 (List.mem_of_getElem? (i := 143) (by decide +kernel))) rfl
theorem qM_L_151 : Cond.methodLink RL 151 yL_addBay ∈ zT := zT_in (qin_3 (List.mem_of_getElem? (i := 134) (by decide +kernel))) rfl
theorem qM_L_153 : Cond.methodLink RL 153 yX7_addBay ∈ zT := zT_in (qin_5 (List.mem_of_getElem? (i := 153) (by decide +kernel))) rfl
theorem qM_L_154 : Cond.methodLink RL 154 yL_addDepot ∈ zT := zT_in (qin_3 (List.mem_of_getElem? (i := 142) (by decide +kernel))) rfl
theorem qM_L_156 : Cond.methodLink RL 156 yX7_addDepot ∈ zT := zT_in (qin_5 (List.mem_of_getElem? (i := 157) (by decide +kernel))) rfl
theorem qM_L_157 : Cond.methodLink RL 157 yL_addConvoy ∈ zT := zT_in (qin_3 (List.mem_of_getElem? (i := 150) (by decide +kernel))) rfl
theorem qM_L_159 : Cond.methodLink RL 159 yX7_addConvoy ∈ zT := zT_in (qin_5 (List.mem_of_getElem? (i := 162) (by decide +kernel))) rfl
theorem qM_L_160 : Cond.methodLink RL 160 yL_addVehicle ∈ zT := zT_in (qin_3 (List.mem_of_getElem? (i := 158) (by decide +kernel))) rfl
theorem qM_L_163 : Cond.methodLink RL 163 yX7_addVehicle ∈ zT := zT_in (qin_5 (List.mem_of_getElem? (i := 166) (by decide +kernel))) rfl
theorem qM_L_164 : Cond.methodLink RL 164 yL_hold ∈ zT := zT_in (qin_3 (List.mem_of_getElem? (i := 167) (by decide +kernel))) rfl
theorem qM_L_166 : Cond.methodLink RL 166 yX7_hold ∈ zT := zT_in (qin_5 (List.mem_of_getElem? (i := 173) (by decide +kernel))) rfl
theorem qM_L_167 : Cond.methodLink RL 167 yL_supply ∈ zT := zT_in (qin_3 (List.mem_of_getElem? (i := 175) (by decide +kernel))) rfl
theorem qM_L_169 : Cond.methodLink RL 169 yX7_supply ∈ zT := zT_in (qin_5 (List.mem_of_getElem? (i := 181) (by decide +kernel))) rfl
theorem qM_L_170 : Cond.methodLink RL 170 yL_pass ∈ zT := zT_in (qin_3 (List.mem_of_getElem? (i := 186) (by decide +kernel))) rfl
theorem qM_L_172 : Cond.methodLink RL 172 yX7_pass ∈ zT := zT_in (qin_5 (List.mem_of_getElem? (i := 186) (by decide +kernel))) rfl
theorem qM_L_173 : Cond.methodLink RL 173 yL_undo ∈ zT := zT_in (qin_4 (List.mem_of_getElem? (i := 29) (by decide +kernel))) rfl
theorem qM_L_175 : Cond.methodLink RL 175 yX7_undo ∈ zT := zT_in (qin_5 (List.mem_of_getElem? (i := 233) (by decide +kernel))) rfl
theorem qM_L_176 : Cond.methodLink RL 176 yL_arrives ∈ zT := zT_in (qin_4 (List.mem_of_getElem? (i := 48) (by decide +kernel))) rfl
theorem qM_L_178 : Cond.methodLink RL 178 yX7_arrives ∈ zT := zT_in (qin_5 (List.mem_of_getElem? (i := 237) (by decide +kernel))) rfl
theorem qM_L_179 : Cond.methodLink RL 179 yL_leaves ∈ zT := zT_in (qin_4 (List.mem_of_getElem? (i := 59) (by decide +kernel))) rfl
theorem qM_L_181 : Cond.methodLink RL 181 yX7_leaves ∈ zT := zT_in (qin_6 (List.mem_of_getElem? (i := 9) (by decide +kernel))) rfl
theorem qM_L_182 : Cond.methodLink RL 182 yL_bestHold ∈ zT := zT_in (qin_4 (List.mem_of_getElem? (i := 70) (by decide +kernel))) rfl
theorem qM_L_184 : Cond.methodLink RL 184 yX7_bestHold ∈ zT := zT_in (qin_6 (List.mem_of_getElem? (i := 13) (by decide +kernel))) rfl
theorem qM_L_185 : Cond.methodLink RL 185 yL_lacks ∈ zT := zT_in (qin_4 (List.mem_of_getElem? (i := 77) (by decide +kernel))) rfl
theorem qM_L_187 : Cond.methodLink RL 187 yX7_lacks ∈ zT := zT_in (qin_6 (List.mem_of_getElem? (i := 17) (by decide +kernel))) rfl
theorem qM_L_190 : Cond.methodLink RL 190 yL_runScript ∈ zT := zT_in (qin_4 (List.mem_of_getElem? (i := 89) (by decide +kernel))) rfl
theorem qM_L_193 : Cond.methodLink RL 193 yX7_runScript ∈ zT := zT_in (qin_6 (List.mem_of_getElem? (i := 25) (by decide +kernel))) rfl
theorem qM_L_194 : Cond.methodLink RL 194 yL_simulate ∈ zT := zT_in (qin_4 (List.mem_of_getElem? (i := 113) (by decide +kernel))) rfl
theorem qM_L_197 : Cond.methodLink RL 197 yX7_simulate ∈ zT := zT_in (qin_6 (List.mem_of_getElem? (i := 38) (by decide +kernel))) rfl
theorem qM_L_198 : Cond.methodLink RL 198 yL_save ∈ zT := zT_in (qin_4 (List.mem_of_getElem? (i := 127) (by decide +kernel))) rfl
theorem qM_L_200 : Cond.methodLink RL 200 yX7_save ∈ zT := zT_in (qin_6 (List.mem_of_getElem? (i := 48) (by decide +kernel))) rfl
theorem qM_L_201 : Cond.methodLink RL 201 yL_restore ∈ zT := zT_in (qin_4 (List.mem_of_getElem? (i := 139) (by decide +kernel))) rfl
theorem qM_L_203 : Cond.methodLink RL 203 yX7_restore ∈ zT := zT_in (qin_6 (List.mem_of_getElem? (i := 52) (by decide +kernel))) rfl
theorem qN_L : Cond.initialized RL ∈ zT := zT_in (qin_1 (List.mem_of_getElem? (i := 0) (by decide +kernel))) rfl
theorem qS_X6_clearText : Cond.selects RX6 yX6_clearText yX6_clearText ∈ zT := zT_in (qin_1 (List.mem_of_getElem? (i := 205) (by decide +kernel))) rfl
theorem qS_X6_errorPosition : Cond.selects RX6 yX6_errorPosition yX6_errorPosition ∈ zT := zT_in (qin_1 (List.mem_of_getElem? (i := 213) (by decide +kernel))) rfl
theorem qS_X7_about : Cond.selects RX7 yX7_about yX7_about ∈ zT := zT_in (qin_5 (List.mem_of_getElem? (i := 76) (by decide +kernel))) rfl
theorem qS_X7_addBay : Cond.selects RX7 yX7_addBay yX7_addBay ∈ zT := zT_in (qin_5 (List.mem_of_getElem? (i := 155) (by decide +kernel))) rfl
theorem qS_X7_addConvoy : Cond.selects RX7 yX7_addConvoy yX7_addConvoy ∈ zT := zT_in (qin_5 (List.mem_of_getElem? (i := 164) (by decide +kernel))) rfl
theorem qS_X7_addDepot : Cond.selects RX7 yX7_addDepot yX7_addDepot ∈ zT := zT_in (qin_5 (List.mem_of_getElem? (i := 159) (by decide +kernel))) rfl
theorem qS_X7_addGate : Cond.selects RX7 yX7_addGate yX7_addGate ∈ zT := zT_in (qin_5 (List.mem_of_getElem? (i := 145) (by decide +kernel))) rfl
theorem qS_X7_addVehicle : Cond.selects RX7 yX7_addVehicle yX7_addVehicle ∈ zT := zT_in (qin_5 (List.mem_of_getElem? (i := 168) (by decide +kernel))) rfl
theorem qS_X7_append : Cond.selects RX7 yX7_append yX7_append ∈ zT := zT_in (qin_4 (List.mem_of_getElem? (i := 206) (by decide +kernel))) rfl
theorem qS_X7_arrives : Cond.selects RX7 yX7_arrives yX7_arrives ∈ zT := zT_in (qin_5 (List.mem_of_getElem? (i := 239) (by decide +kernel))) rfl
theorem qS_X7_bay : Cond.selects RX7 yX7_bay yX7_bay ∈ zT := zT_in (qin_5 (List.mem_of_getElem? (i := 132) (by decide +kernel))) rfl
theorem qS_X7_bestHold : Cond.selects RX7 yX7_bestHold yX7_bestHold ∈ zT := zT_in (qin_6 (List.mem_of_getElem? (i := 15) (by decide +kernel))) rfl
theorem qS_X7_clearText : Cond.selects RX7 yX7_clearText yX7_clearText ∈ zT := zT_in (qin_4 (List.mem_of_getElem? (i := 218) (by decide +kernel))) rfl
theorem qS_X7_convoy : Cond.selects RX7 yX7_convoy yX7_convoy ∈ zT := zT_in (qin_5 (List.mem_of_getElem? (i := 90) (by decide +kernel))) rfl
theorem qS_X7_depot : Cond.selects RX7 yX7_depot yX7_depot ∈ zT := zT_in (qin_5 (List.mem_of_getElem? (i := 137) (by decide +kernel))) rfl
theorem qS_X7_errorPosition : Cond.selects RX7 yX7_errorPosition yX7_errorPosition ∈ zT := zT_in (qin_4 (List.mem_of_getElem? (i := 222) (by decide +kernel))) rfl
theorem qS_X7_gate : Cond.selects RX7 yX7_gate yX7_gate ∈ zT := zT_in (qin_5 (List.mem_of_getElem? (i := 120) (by decide +kernel))) rfl
theorem qS_X7_hold : Cond.selects RX7 yX7_hold yX7_hold ∈ zT := zT_in (qin_5 (List.mem_of_getElem? (i := 175) (by decide +kernel))) rfl
theorem qS_X7_lacks : Cond.selects RX7 yX7_lacks yX7_lacks ∈ zT := zT_in (qin_6 (List.mem_of_getElem? (i := 19) (by decide +kernel))) rfl
theorem qS_X7_leaves : Cond.selects RX7 yX7_leaves yX7_leaves ∈ zT := zT_in (qin_6 (List.mem_of_getElem? (i := 11) (by decide +kernel))) rfl
theorem qS_X7_load : Cond.selects RX7 yX7_load yX7_load ∈ zT := zT_in (qin_5 (List.mem_of_getElem? (i := 69) (by decide +kernel))) rfl
theorem qS_X7_member : Cond.selects RX7 yX7_member yX7_member ∈ zT := zT_in (qin_5 (List.mem_of_getElem? (i := 111) (by decide +kernel))) rfl
theorem qS_X7_pass : Cond.selects RX7 yX7_pass yX7_pass ∈ zT := zT_in (qin_5 (List.mem_of_getElem? (i := 188) (by decide +kernel))) rfl
theorem qS_X7_restore : Cond.selects RX7 yX7_restore yX7_restore ∈ zT := zT_in (qin_6 (List.mem_of_getElem? (i := 54) (by decide +kernel))) rfl
theorem qS_X7_runScript : Cond.selects RX7 yX7_runScript yX7_runScript ∈ zT := zT_in (qin_6 (List.mem_of_getElem? (i := 27) (by decide +kernel))) rfl
theorem qS_X7_save : Cond.selects RX7 yX7_save yX7_save ∈ zT := zT_in (qin_6 (List.mem_of_getElem? (i := 50) (by decide +kernel))) rfl
theorem qS_X7_simulate : Cond.selects RX7 yX7_simulate yX7_simulate ∈ zT := zT_in (qin_6 (List.mem_of_getElem? (i := 40) (by decide +kernel))) rfl
theorem qS_X7_supply : Cond.selects RX7 yX7_supply yX7_supply ∈ zT := zT_in (qin_5 (List.mem_of_getElem? (i := 183) (by decide +kernel))) rfl
theorem qS_X7_thrown : Cond.selects RX7 yX7_thrown yX7_thrown ∈ zT := zT_in (qin_4 (List.mem_of_getElem? (i := 202) (by decide +kernel))) rfl
theorem qS_X7_undo : Cond.selects RX7 yX7_undo yX7_undo ∈ zT := zT_in (qin_5 (List.mem_of_getElem? (i := 235) (by decide +kernel))) rfl
theorem qS_X7_vehicle : Cond.selects RX7 yX7_vehicle yX7_vehicle ∈ zT := zT_in (qin_5 (List.mem_of_getElem? (i := 115) (by decide +kernel))) rfl
theorem qT_L_about : Cond.static yL_about ∈ zT := zT_in (qin_3 (List.mem_of_getElem? (i := 1) (by decide +kernel))) rfl
theorem qT_L_addBay : Cond.static yL_addBay ∈ zT := zT_in (qin_3 (List.mem_of_getElem? (i := 135) (by decide +kernel))) rfl
theorem qT_L_addConvoy : Cond.static yL_addConvoy ∈ zT := zT_in (qin_3 (List.mem_of_getElem? (i := 151) (by decide +kernel))) rfl
theorem qT_L_addDepot : Cond.static yL_addDepot ∈ zT := zT_in (qin_3 (List.mem_of_getElem? (i := 143) (by decide +kernel))) rfl
theorem qT_L_addGate : Cond.static yL_addGate ∈ zT := zT_in (qin_3 (List.mem_of_getElem? (i := 111) (by decide +kernel))) rfl
theorem qT_L_addVehicle : Cond.static yL_addVehicle ∈ zT := zT_in (qin_3 (List.mem_of_getElem? (i := 159) (by decide +kernel))) rfl
theorem qT_L_append : Cond.static yL_append ∈ zT := zT_in (qin_2 (List.mem_of_getElem? (i := 94) (by decide +kernel))) rfl
theorem qT_L_arrives : Cond.static yL_arrives ∈ zT := zT_in (qin_4 (List.mem_of_getElem? (i := 49) (by decide +kernel))) rfl
theorem qT_L_bay : Cond.static yL_bay ∈ zT := zT_in (qin_3 (List.mem_of_getElem? (i := 97) (by decide +kernel))) rfl
theorem qT_L_bestHold : Cond.static yL_bestHold ∈ zT := zT_in (qin_4 (List.mem_of_getElem? (i := 71) (by decide +kernel))) rfl
theorem qT_L_convoy : Cond.static yL_convoy ∈ zT := zT_in (qin_3 (List.mem_of_getElem? (i := 23) (by decide +kernel))) rfl
theorem qT_L_depot : Cond.static yL_depot ∈ zT := zT_in (qin_3 (List.mem_of_getElem? (i := 104) (by decide +kernel))) rfl
theorem qT_L_gate : Cond.static yL_gate ∈ zT := zT_in (qin_3 (List.mem_of_getElem? (i := 85) (by decide +kernel))) rfl
theorem qT_L_hold : Cond.static yL_hold ∈ zT := zT_in (qin_3 (List.mem_of_getElem? (i := 168) (by decide +kernel))) rfl
theorem qT_L_lacks : Cond.static yL_lacks ∈ zT := zT_in (qin_4 (List.mem_of_getElem? (i := 78) (by decide +kernel))) rfl
theorem qT_L_leaves : Cond.static yL_leaves ∈ zT := zT_in (qin_4 (List.mem_of_getElem? (i := 60) (by decide +kernel))) rfl
theorem qT_L_load : Cond.static yL_load ∈ zT := zT_in (qin_2 (List.mem_of_getElem? (i := 205) (by decide +kernel))) rfl
theorem qT_L_member : Cond.static yL_member ∈ zT := zT_in (qin_3 (List.mem_of_getElem? (i := 70) (by decide +kernel))) rfl
theorem qT_L_pass : Cond.static yL_pass ∈ zT := zT_in (qin_3 (List.mem_of_getElem? (i := 187) (by decide +kernel))) rfl
theorem qT_L_restore : Cond.static yL_restore ∈ zT := zT_in (qin_4 (List.mem_of_getElem? (i := 140) (by decide +kernel))) rfl
theorem qT_L_runScript : Cond.static yL_runScript ∈ zT := zT_in (qin_4 (List.mem_of_getElem? (i := 90) (by decide +kernel))) rfl
theorem qT_L_save : Cond.static yL_save ∈ zT := zT_in (qin_4 (List.mem_of_getElem? (i := 128) (by decide +kernel))) rfl
theorem qT_L_simulate : Cond.static yL_simulate ∈ zT := zT_in (qin_4 (List.mem_of_getElem? (i := 114) (by decide +kernel))) rfl
theorem qT_L_supply : Cond.static yL_supply ∈ zT := zT_in (qin_3 (List.mem_of_getElem? (i := 176) (by decide +kernel))) rfl
theorem qT_L_undo : Cond.static yL_undo ∈ zT := zT_in (qin_4 (List.mem_of_getElem? (i := 30) (by decide +kernel))) rfl
theorem qT_L_vehicle : Cond.static yL_vehicle ∈ zT := zT_in (qin_3 (List.mem_of_getElem? (i := 78) (by decide +kernel))) rfl
theorem gV_L_109 : ZV RL 109 RX7 yX7_append cX7_append 2 (some .int) := ⟨qM_L_109, qI_X7_append, qS_X7_append, qN_X7, qC_X7_append⟩
theorem gV_L_110 : ZV RL 110 RX7 yX7_thrown cX7_thrown 1 (some .int) := ⟨qM_L_110, qI_X7_thrown, qS_X7_thrown, qN_X7, qC_X7_thrown⟩
theorem gV_L_113 : ZV RL 113 RX6 yX6_clearText cX6_clearText 1 (some .int) := ⟨qM_L_113, qI_X6_clearText, qS_X6_clearText, qN_X6, qC_X6_clearText⟩
theorem gV_L_116 : ZV RL 116 RX7 yX7_clearText cX7_clearText 2 (some .int) := ⟨qM_L_116, qI_X7_clearText, qS_X7_clearText, qN_X7, qC_X7_clearText⟩
theorem gV_L_117 : ZV RL 117 RX6 yX6_errorPosition cX6_errorPosition 1 (some .int) := ⟨qM_L_117, qI_X6_errorPosition, qS_X6_errorPosition, qN_X6, qC_X6_errorPosition⟩
theorem gV_L_120 : ZV RL 120 RX7 yX7_errorPosition cX7_errorPosition 1 (some .int) := ⟨qM_L_120, qI_X7_errorPosition, qS_X7_errorPosition, qN_X7, qC_X7_errorPosition⟩
theorem gV_L_124 : ZV RL 124 RX7 yX7_load cX7_load 1 (some .int) := ⟨qM_L_124, qI_X7_load, qS_X7_load, qN_X7, qC_X7_load⟩
theorem gV_L_127 : ZV RL 127 RX7 yX7_about cX7_about 2 (some .int) := ⟨qM_L_127, qI_X7_about, qS_X7_about, qN_X7, qC_X7_about⟩
theorem gV_L_131 : ZV RL 131 RX7 yX7_convoy cX7_convoy 3 (some .int) := ⟨qM_L_131, qI_X7_convoy, qS_X7_convoy, qN_X7, qC_X7_convoy⟩
theorem gV_L_134 : ZV RL 134 RX7 yX7_member cX7_member 3 (some .int) := ⟨qM_L_134, qI_X7_member, qS_X7_member, qN_X7, qC_X7_member⟩
theorem gV_L_137 : ZV RL 137 RX7 yX7_vehicle cX7_vehicle 3 (some .int) := ⟨qM_L_137, qI_X7_vehicle, qS_X7_vehicle, qN_X7, qC_X7_vehicle⟩
theorem gV_L_140 : ZV RL 140 RX7 yX7_gate cX7_gate 3 (some .int) := ⟨qM_L_140, qI_X7_gate, qS_X7_gate, qN_X7, qC_X7_gate⟩
theorem gV_L_143 : ZV RL 143 RX7 yX7_bay cX7_bay 3 (some .int) := ⟨qM_L_143, qI_X7_bay, qS_X7_bay, qN_X7, qC_X7_bay⟩
theorem gV_L_146 : ZV RL 146 RX7 yX7_depot cX7_depot 3 (some .int) := ⟨qM_L_146, qI_X7_depot, qS_X7_depot, qN_X7, qC_X7_depot⟩
theorem gV_L_150 : ZV RL 150 RX7 yX7_addGate cX7_addGate 6 (some .int) := ⟨qM_L_150, qI_X7_addGate, qS_X7_addGate, qN_X7, qC_X7_addGate⟩
theorem gV_L_153 : ZV RL 153 RX7 yX7_addBay cX7_addBay 4 (some .int) := ⟨qM_L_153, qI_X7_addBay, qS_X7_addBay, qN_X7, qC_X7_addBay⟩
theorem gV_L_156 : ZV RL 156 RX7 yX7_addDepot cX7_addDepot 4 (some .int) := ⟨qM_L_156, qI_X7_addDepot, qS_X7_addDepot, qN_X7, qC_X7_addDepot⟩
theorem gV_L_159 : ZV RL 159 RX7 yX7_addConvoy cX7_addConvoy 1 (some .int) := ⟨qM_L_159, qI_X7_addConvoy, qS_X7_addConvoy, qN_X7, qC_X7_addConvoy⟩
theorem gV_L_163 : ZV RL 163 RX7 yX7_addVehicle cX7_addVehicle 7 (some .int) := ⟨qM_L_163, qI_X7_addVehicle, qS_X7_addVehicle, qN_X7, qC_X7_addVehicle⟩
theorem gV_L_166 : ZV RL 166 RX7 yX7_hold cX7_hold 4 (some .int) := ⟨qM_L_166, qI_X7_hold, qS_X7_hold, qN_X7, qC_X7_hold⟩
theorem gV_L_169 : ZV RL 169 RX7 yX7_supply cX7_supply 3 (some .int) := ⟨qM_L_169, qI_X7_supply, qS_X7_supply, qN_X7, qC_X7_supply⟩
theorem gV_L_172 : ZV RL 172 RX7 yX7_pass cX7_pass 2 (some .int) := ⟨qM_L_172, qI_X7_pass, qS_X7_pass, qN_X7, qC_X7_pass⟩
theorem gV_L_175 : ZV RL 175 RX7 yX7_undo cX7_undo 1 (some .int) := ⟨qM_L_175, qI_X7_undo, qS_X7_undo, qN_X7, qC_X7_undo⟩
theorem gV_L_178 : ZV RL 178 RX7 yX7_arrives cX7_arrives 2 (some .int) := ⟨qM_L_178, qI_X7_arrives, qS_X7_arrives, qN_X7, qC_X7_arrives⟩
theorem gV_L_181 : ZV RL 181 RX7 yX7_leaves cX7_leaves 3 (some .int) := ⟨qM_L_181, qI_X7_leaves, qS_X7_leaves, qN_X7, qC_X7_leaves⟩
theorem gV_L_184 : ZV RL 184 RX7 yX7_bestHold cX7_bestHold 6 (some .int) := ⟨qM_L_184, qI_X7_bestHold, qS_X7_bestHold, qN_X7, qC_X7_bestHold⟩
theorem gV_L_187 : ZV RL 187 RX7 yX7_lacks cX7_lacks 3 (some .int) := ⟨qM_L_187, qI_X7_lacks, qS_X7_lacks, qN_X7, qC_X7_lacks⟩
theorem gV_L_193 : ZV RL 193 RX7 yX7_runScript cX7_runScript 6 (some .int) := ⟨qM_L_193, qI_X7_runScript, qS_X7_runScript, qN_X7, qC_X7_runScript⟩
theorem gV_L_197 : ZV RL 197 RX7 yX7_simulate cX7_simulate 7 (some .int) := ⟨qM_L_197, qI_X7_simulate, qS_X7_simulate, qN_X7, qC_X7_simulate⟩
theorem gV_L_200 : ZV RL 200 RX7 yX7_save cX7_save 2 (some .int) := ⟨qM_L_200, qI_X7_save, qS_X7_save, qN_X7, qC_X7_save⟩
theorem gV_L_203 : ZV RL 203 RX7 yX7_restore cX7_restore 2 (some .int) := ⟨qM_L_203, qI_X7_restore, qS_X7_restore, qN_X7, qC_X7_restore⟩
theorem gW_L_104 : ZW RL 104 yL_append cL_append 4 (some .int) [(0, 9, 12, 13), (0, 9, 15, 15)] := ⟨qM_L_104, qT_L_append, qN_L, qC_L_append⟩
theorem gW_L_121 : ZW RL 121 yL_load cL_load 3 (some .int) [(0, 8, 11, 15)] := ⟨qM_L_121, qT_L_load, qN_L, qC_L_load⟩
theorem gW_L_125 : ZW RL 125 yL_about cL_about 4 (some .int) [(0, 9, 12, 13)] := ⟨qM_L_125, qT_L_about, qN_L, qC_L_about⟩
theorem gW_L_128 : ZW RL 128 yL_convoy cL_convoy 5 (some .int) [(0, 10, 13, 28), (0, 10, 17, 13)] := ⟨qM_L_128, qT_L_convoy, qN_L, qC_L_convoy⟩
theorem gW_L_132 : ZW RL 132 yL_member cL_member 5 (some .int) [(0, 10, 13, 28), (0, 10, 17, 13)] := ⟨qM_L_132, qT_L_member, qN_L, qC_L_member⟩
theorem gW_L_135 : ZW RL 135 yL_vehicle cL_vehicle 5 (some .int) [(0, 10, 13, 28), (0, 10, 17, 13)] := ⟨qM_L_135, qT_L_vehicle, qN_L, qC_L_vehicle⟩
theorem gW_L_138 : ZW RL 138 yL_gate cL_gate 5 (some .int) [(0, 10, 13, 28), (0, 10, 17, 13)] := ⟨qM_L_138, qT_L_gate, qN_L, qC_L_gate⟩
theorem gW_L_141 : ZW RL 141 yL_bay cL_bay 5 (some .int) [(0, 10, 13, 28), (0, 10, 17, 13)] := ⟨qM_L_141, qT_L_bay, qN_L, qC_L_bay⟩
theorem gW_L_144 : ZW RL 144 yL_depot cL_depot 5 (some .int) [(0, 10, 13, 28), (0, 10, 17, 13)] := ⟨qM_L_144, qT_L_depot, qN_L, qC_L_depot⟩
theorem gW_L_147 : ZW RL 147 yL_addGate cL_addGate 7 (some .int) [(0, 14, 17, 13), (0, 14, 21, 15)] := ⟨qM_L_147, qT_L_addGate, qN_L, qC_L_addGate⟩
theorem gW_L_151 : ZW RL 151 yL_addBay cL_addBay 5 (some .int) [(0, 10, 13, 13), (0, 10, 17, 15)] := ⟨qM_L_151, qT_L_addBay, qN_L, qC_L_addBay⟩
theorem gW_L_154 : ZW RL 154 yL_addDepot cL_addDepot 5 (some .int) [(0, 10, 13, 13), (0, 10, 17, 15)] := ⟨qM_L_154, qT_L_addDepot, qN_L, qC_L_addDepot⟩
theorem gW_L_157 : ZW RL 157 yL_addConvoy cL_addConvoy 3 (some .int) [(0, 8, 11, 15)] := ⟨qM_L_157, qT_L_addConvoy, qN_L, qC_L_addConvoy⟩
theorem gW_L_160 : ZW RL 160 yL_addVehicle cL_addVehicle 8 (some .int) [(0, 16, 19, 28), (0, 16, 23, 13), (0, 16, 27, 15)] := ⟨qM_L_160, qT_L_addVehicle, qN_L, qC_L_addVehicle⟩
theorem gW_L_164 : ZW RL 164 yL_hold cL_hold 5 (some .int) [(0, 10, 13, 28), (0, 10, 17, 13)] := ⟨qM_L_164, qT_L_hold, qN_L, qC_L_hold⟩
theorem gW_L_167 : ZW RL 167 yL_supply cL_supply 5 (some .int) [(0, 10, 13, 28), (0, 10, 17, 13), (0, 10, 21, 15)] := ⟨qM_L_167, qT_L_supply, qN_L, qC_L_supply⟩
theorem gW_L_170 : ZW RL 170 yL_pass cL_pass 4 (some .int) [(0, 9, 12, 13)] := ⟨qM_L_170, qT_L_pass, qN_L, qC_L_pass⟩
theorem gW_L_173 : ZW RL 173 yL_undo cL_undo 3 (some .int) [(0, 8, 11, 15)] := ⟨qM_L_173, qT_L_undo, qN_L, qC_L_undo⟩
theorem gW_L_176 : ZW RL 176 yL_arrives cL_arrives 4 (some .int) [(0, 9, 12, 28)] := ⟨qM_L_176, qT_L_arrives, qN_L, qC_L_arrives⟩
theorem gW_L_179 : ZW RL 179 yL_leaves cL_leaves 4 (some .int) [(0, 9, 12, 28)] := ⟨qM_L_179, qT_L_leaves, qN_L, qC_L_leaves⟩
theorem gW_L_182 : ZW RL 182 yL_bestHold cL_bestHold 4 (some .int) [(0, 9, 12, 28)] := ⟨qM_L_182, qT_L_bestHold, qN_L, qC_L_bestHold⟩
theorem gW_L_185 : ZW RL 185 yL_lacks cL_lacks 4 (some .int) [(0, 9, 12, 28)] := ⟨qM_L_185, qT_L_lacks, qN_L, qC_L_lacks⟩
theorem gW_L_190 : ZW RL 190 yL_runScript cL_runScript 6 (some .int) [(0, 11, 14, 13)] := ⟨qM_L_190, qT_L_runScript, qN_L, qC_L_runScript⟩
theorem gW_L_194 : ZW RL 194 yL_simulate cL_simulate 6 (some .int) [(0, 11, 14, 13)] := ⟨qM_L_194, qT_L_simulate, qN_L, qC_L_simulate⟩
theorem gW_L_198 : ZW RL 198 yL_save cL_save 4 (some .int) [(0, 9, 12, 28)] := ⟨qM_L_198, qT_L_save, qN_L, qC_L_save⟩
theorem gW_L_201 : ZW RL 201 yL_restore cL_restore 4 (some .int) [(0, 9, 12, 28), (0, 9, 15, 15)] := ⟨qM_L_201, qT_L_restore, qN_L, qC_L_restore⟩
theorem kdX7_thrown : yX7_thrown.cls = RX7 ∧ yX7_thrown.cls ≠ "java/lang/invoke/MethodHandle" ∧ yX7_thrown.cls ≠ "java/lang/invoke/VarHandle" ∧ (parseMethodDescriptor yX7_thrown.desc).map (fun d => d.parameters.length) = some 0 := by decide +kernel
theorem kdX7_append : yX7_append.cls = RX7 ∧ yX7_append.cls ≠ "java/lang/invoke/MethodHandle" ∧ yX7_append.cls ≠ "java/lang/invoke/VarHandle" ∧ (parseMethodDescriptor yX7_append.desc).map (fun d => d.parameters.length) = some 1 := by decide +kernel
theorem kdL_append : yL_append.cls ≠ "java/lang/invoke/MethodHandle" ∧ yL_append.cls ≠ "java/lang/invoke/VarHandle" ∧ (parseMethodDescriptor yL_append.desc).map (fun d => d.parameters.length) = some 3 := by decide +kernel
theorem kdX6_clearText : yX6_clearText.cls = RX6 ∧ yX6_clearText.cls ≠ "java/lang/invoke/MethodHandle" ∧ yX6_clearText.cls ≠ "java/lang/invoke/VarHandle" ∧ (parseMethodDescriptor yX6_clearText.desc).map (fun d => d.parameters.length) = some 0 := by decide +kernel
theorem kdX7_clearText : yX7_clearText.cls = RX7 ∧ yX7_clearText.cls ≠ "java/lang/invoke/MethodHandle" ∧ yX7_clearText.cls ≠ "java/lang/invoke/VarHandle" ∧ (parseMethodDescriptor yX7_clearText.desc).map (fun d => d.parameters.length) = some 0 := by decide +kernel
theorem kdX6_errorPosition : yX6_errorPosition.cls = RX6 ∧ yX6_errorPosition.cls ≠ "java/lang/invoke/MethodHandle" ∧ yX6_errorPosition.cls ≠ "java/lang/invoke/VarHandle" ∧ (parseMethodDescriptor yX6_errorPosition.desc).map (fun d => d.parameters.length) = some 0 := by decide +kernel
theorem kdX7_errorPosition : yX7_errorPosition.cls = RX7 ∧ yX7_errorPosition.cls ≠ "java/lang/invoke/MethodHandle" ∧ yX7_errorPosition.cls ≠ "java/lang/invoke/VarHandle" ∧ (parseMethodDescriptor yX7_errorPosition.desc).map (fun d => d.parameters.length) = some 0 := by decide +kernel
theorem kdX7_load : yX7_load.cls = RX7 ∧ yX7_load.cls ≠ "java/lang/invoke/MethodHandle" ∧ yX7_load.cls ≠ "java/lang/invoke/VarHandle" ∧ (parseMethodDescriptor yX7_load.desc).map (fun d => d.parameters.length) = some 0 := by decide +kernel
theorem kdL_load : yL_load.cls ≠ "java/lang/invoke/MethodHandle" ∧ yL_load.cls ≠ "java/lang/invoke/VarHandle" ∧ (parseMethodDescriptor yL_load.desc).map (fun d => d.parameters.length) = some 2 := by decide +kernel
theorem kdX7_about : yX7_about.cls = RX7 ∧ yX7_about.cls ≠ "java/lang/invoke/MethodHandle" ∧ yX7_about.cls ≠ "java/lang/invoke/VarHandle" ∧ (parseMethodDescriptor yX7_about.desc).map (fun d => d.parameters.length) = some 1 := by decide +kernel
theorem kdL_about : yL_about.cls ≠ "java/lang/invoke/MethodHandle" ∧ yL_about.cls ≠ "java/lang/invoke/VarHandle" ∧ (parseMethodDescriptor yL_about.desc).map (fun d => d.parameters.length) = some 3 := by decide +kernel
theorem kdX7_convoy : yX7_convoy.cls = RX7 ∧ yX7_convoy.cls ≠ "java/lang/invoke/MethodHandle" ∧ yX7_convoy.cls ≠ "java/lang/invoke/VarHandle" ∧ (parseMethodDescriptor yX7_convoy.desc).map (fun d => d.parameters.length) = some 2 := by decide +kernel
theorem kdL_convoy : yL_convoy.cls ≠ "java/lang/invoke/MethodHandle" ∧ yL_convoy.cls ≠ "java/lang/invoke/VarHandle" ∧ (parseMethodDescriptor yL_convoy.desc).map (fun d => d.parameters.length) = some 4 := by decide +kernel
theorem kdX7_member : yX7_member.cls = RX7 ∧ yX7_member.cls ≠ "java/lang/invoke/MethodHandle" ∧ yX7_member.cls ≠ "java/lang/invoke/VarHandle" ∧ (parseMethodDescriptor yX7_member.desc).map (fun d => d.parameters.length) = some 2 := by decide +kernel
theorem kdL_member : yL_member.cls ≠ "java/lang/invoke/MethodHandle" ∧ yL_member.cls ≠ "java/lang/invoke/VarHandle" ∧ (parseMethodDescriptor yL_member.desc).map (fun d => d.parameters.length) = some 4 := by decide +kernel
theorem kdX7_vehicle : yX7_vehicle.cls = RX7 ∧ yX7_vehicle.cls ≠ "java/lang/invoke/MethodHandle" ∧ yX7_vehicle.cls ≠ "java/lang/invoke/VarHandle" ∧ (parseMethodDescriptor yX7_vehicle.desc).map (fun d => d.parameters.length) = some 2 := by decide +kernel
theorem kdL_vehicle : yL_vehicle.cls ≠ "java/lang/invoke/MethodHandle" ∧ yL_vehicle.cls ≠ "java/lang/invoke/VarHandle" ∧ (parseMethodDescriptor yL_vehicle.desc).map (fun d => d.parameters.length) = some 4 := by decide +kernel
theorem kdX7_gate : yX7_gate.cls = RX7 ∧ yX7_gate.cls ≠ "java/lang/invoke/MethodHandle" ∧ yX7_gate.cls ≠ "java/lang/invoke/VarHandle" ∧ (parseMethodDescriptor yX7_gate.desc).map (fun d => d.parameters.length) = some 2 := by decide +kernel
theorem kdL_gate : yL_gate.cls ≠ "java/lang/invoke/MethodHandle" ∧ yL_gate.cls ≠ "java/lang/invoke/VarHandle" ∧ (parseMethodDescriptor yL_gate.desc).map (fun d => d.parameters.length) = some 4 := by decide +kernel
theorem kdX7_bay : yX7_bay.cls = RX7 ∧ yX7_bay.cls ≠ "java/lang/invoke/MethodHandle" ∧ yX7_bay.cls ≠ "java/lang/invoke/VarHandle" ∧ (parseMethodDescriptor yX7_bay.desc).map (fun d => d.parameters.length) = some 2 := by decide +kernel
theorem kdL_bay : yL_bay.cls ≠ "java/lang/invoke/MethodHandle" ∧ yL_bay.cls ≠ "java/lang/invoke/VarHandle" ∧ (parseMethodDescriptor yL_bay.desc).map (fun d => d.parameters.length) = some 4 := by decide +kernel
theorem kdX7_depot : yX7_depot.cls = RX7 ∧ yX7_depot.cls ≠ "java/lang/invoke/MethodHandle" ∧ yX7_depot.cls ≠ "java/lang/invoke/VarHandle" ∧ (parseMethodDescriptor yX7_depot.desc).map (fun d => d.parameters.length) = some 2 := by decide +kernel
theorem kdL_depot : yL_depot.cls ≠ "java/lang/invoke/MethodHandle" ∧ yL_depot.cls ≠ "java/lang/invoke/VarHandle" ∧ (parseMethodDescriptor yL_depot.desc).map (fun d => d.parameters.length) = some 4 := by decide +kernel
theorem kdX7_addGate : yX7_addGate.cls = RX7 ∧ yX7_addGate.cls ≠ "java/lang/invoke/MethodHandle" ∧ yX7_addGate.cls ≠ "java/lang/invoke/VarHandle" ∧ (parseMethodDescriptor yX7_addGate.desc).map (fun d => d.parameters.length) = some 4 := by decide +kernel
theorem kdL_addGate : yL_addGate.cls ≠ "java/lang/invoke/MethodHandle" ∧ yL_addGate.cls ≠ "java/lang/invoke/VarHandle" ∧ (parseMethodDescriptor yL_addGate.desc).map (fun d => d.parameters.length) = some 6 := by decide +kernel
theorem kdX7_addBay : yX7_addBay.cls = RX7 ∧ yX7_addBay.cls ≠ "java/lang/invoke/MethodHandle" ∧ yX7_addBay.cls ≠ "java/lang/invoke/VarHandle" ∧ (parseMethodDescriptor yX7_addBay.desc).map (fun d => d.parameters.length) = some 2 := by decide +kernel
theorem kdL_addBay : yL_addBay.cls ≠ "java/lang/invoke/MethodHandle" ∧ yL_addBay.cls ≠ "java/lang/invoke/VarHandle" ∧ (parseMethodDescriptor yL_addBay.desc).map (fun d => d.parameters.length) = some 4 := by decide +kernel
theorem kdX7_addDepot : yX7_addDepot.cls = RX7 ∧ yX7_addDepot.cls ≠ "java/lang/invoke/MethodHandle" ∧ yX7_addDepot.cls ≠ "java/lang/invoke/VarHandle" ∧ (parseMethodDescriptor yX7_addDepot.desc).map (fun d => d.parameters.length) = some 2 := by decide +kernel
theorem kdL_addDepot : yL_addDepot.cls ≠ "java/lang/invoke/MethodHandle" ∧ yL_addDepot.cls ≠ "java/lang/invoke/VarHandle" ∧ (parseMethodDescriptor yL_addDepot.desc).map (fun d => d.parameters.length) = some 4 := by decide +kernel
theorem kdX7_addConvoy : yX7_addConvoy.cls = RX7 ∧ yX7_addConvoy.cls ≠ "java/lang/invoke/MethodHandle" ∧ yX7_addConvoy.cls ≠ "java/lang/invoke/VarHandle" ∧ (parseMethodDescriptor yX7_addConvoy.desc).map (fun d => d.parameters.length) = some 0 := by decide +kernel
theorem kdL_addConvoy : yL_addConvoy.cls ≠ "java/lang/invoke/MethodHandle" ∧ yL_addConvoy.cls ≠ "java/lang/invoke/VarHandle" ∧ (parseMethodDescriptor yL_addConvoy.desc).map (fun d => d.parameters.length) = some 2 := by decide +kernel
theorem kdX7_addVehicle : yX7_addVehicle.cls = RX7 ∧ yX7_addVehicle.cls ≠ "java/lang/invoke/MethodHandle" ∧ yX7_addVehicle.cls ≠ "java/lang/invoke/VarHandle" ∧ (parseMethodDescriptor yX7_addVehicle.desc).map (fun d => d.parameters.length) = some 5 := by decide +kernel
theorem kdL_addVehicle : yL_addVehicle.cls ≠ "java/lang/invoke/MethodHandle" ∧ yL_addVehicle.cls ≠ "java/lang/invoke/VarHandle" ∧ (parseMethodDescriptor yL_addVehicle.desc).map (fun d => d.parameters.length) = some 7 := by decide +kernel
theorem kdX7_hold : yX7_hold.cls = RX7 ∧ yX7_hold.cls ≠ "java/lang/invoke/MethodHandle" ∧ yX7_hold.cls ≠ "java/lang/invoke/VarHandle" ∧ (parseMethodDescriptor yX7_hold.desc).map (fun d => d.parameters.length) = some 2 := by decide +kernel
theorem kdL_hold : yL_hold.cls ≠ "java/lang/invoke/MethodHandle" ∧ yL_hold.cls ≠ "java/lang/invoke/VarHandle" ∧ (parseMethodDescriptor yL_hold.desc).map (fun d => d.parameters.length) = some 4 := by decide +kernel
theorem kdX7_supply : yX7_supply.cls = RX7 ∧ yX7_supply.cls ≠ "java/lang/invoke/MethodHandle" ∧ yX7_supply.cls ≠ "java/lang/invoke/VarHandle" ∧ (parseMethodDescriptor yX7_supply.desc).map (fun d => d.parameters.length) = some 2 := by decide +kernel
theorem kdL_supply : yL_supply.cls ≠ "java/lang/invoke/MethodHandle" ∧ yL_supply.cls ≠ "java/lang/invoke/VarHandle" ∧ (parseMethodDescriptor yL_supply.desc).map (fun d => d.parameters.length) = some 4 := by decide +kernel
theorem kdX7_pass : yX7_pass.cls = RX7 ∧ yX7_pass.cls ≠ "java/lang/invoke/MethodHandle" ∧ yX7_pass.cls ≠ "java/lang/invoke/VarHandle" ∧ (parseMethodDescriptor yX7_pass.desc).map (fun d => d.parameters.length) = some 1 := by decide +kernel
theorem kdL_pass : yL_pass.cls ≠ "java/lang/invoke/MethodHandle" ∧ yL_pass.cls ≠ "java/lang/invoke/VarHandle" ∧ (parseMethodDescriptor yL_pass.desc).map (fun d => d.parameters.length) = some 3 := by decide +kernel
theorem kdX7_undo : yX7_undo.cls = RX7 ∧ yX7_undo.cls ≠ "java/lang/invoke/MethodHandle" ∧ yX7_undo.cls ≠ "java/lang/invoke/VarHandle" ∧ (parseMethodDescriptor yX7_undo.desc).map (fun d => d.parameters.length) = some 0 := by decide +kernel
theorem kdL_undo : yL_undo.cls ≠ "java/lang/invoke/MethodHandle" ∧ yL_undo.cls ≠ "java/lang/invoke/VarHandle" ∧ (parseMethodDescriptor yL_undo.desc).map (fun d => d.parameters.length) = some 2 := by decide +kernel
theorem kdX7_arrives : yX7_arrives.cls = RX7 ∧ yX7_arrives.cls ≠ "java/lang/invoke/MethodHandle" ∧ yX7_arrives.cls ≠ "java/lang/invoke/VarHandle" ∧ (parseMethodDescriptor yX7_arrives.desc).map (fun d => d.parameters.length) = some 1 := by decide +kernel
theorem kdL_arrives : yL_arrives.cls ≠ "java/lang/invoke/MethodHandle" ∧ yL_arrives.cls ≠ "java/lang/invoke/VarHandle" ∧ (parseMethodDescriptor yL_arrives.desc).map (fun d => d.parameters.length) = some 3 := by decide +kernel
theorem kdX7_leaves : yX7_leaves.cls = RX7 ∧ yX7_leaves.cls ≠ "java/lang/invoke/MethodHandle" ∧ yX7_leaves.cls ≠ "java/lang/invoke/VarHandle" ∧ (parseMethodDescriptor yX7_leaves.desc).map (fun d => d.parameters.length) = some 1 := by decide +kernel
theorem kdL_leaves : yL_leaves.cls ≠ "java/lang/invoke/MethodHandle" ∧ yL_leaves.cls ≠ "java/lang/invoke/VarHandle" ∧ (parseMethodDescriptor yL_leaves.desc).map (fun d => d.parameters.length) = some 3 := by decide +kernel
theorem kdX7_bestHold : yX7_bestHold.cls = RX7 ∧ yX7_bestHold.cls ≠ "java/lang/invoke/MethodHandle" ∧ yX7_bestHold.cls ≠ "java/lang/invoke/VarHandle" ∧ (parseMethodDescriptor yX7_bestHold.desc).map (fun d => d.parameters.length) = some 1 := by decide +kernel
theorem kdL_bestHold : yL_bestHold.cls ≠ "java/lang/invoke/MethodHandle" ∧ yL_bestHold.cls ≠ "java/lang/invoke/VarHandle" ∧ (parseMethodDescriptor yL_bestHold.desc).map (fun d => d.parameters.length) = some 3 := by decide +kernel
theorem kdX7_lacks : yX7_lacks.cls = RX7 ∧ yX7_lacks.cls ≠ "java/lang/invoke/MethodHandle" ∧ yX7_lacks.cls ≠ "java/lang/invoke/VarHandle" ∧ (parseMethodDescriptor yX7_lacks.desc).map (fun d => d.parameters.length) = some 1 := by decide +kernel
theorem kdL_lacks : yL_lacks.cls ≠ "java/lang/invoke/MethodHandle" ∧ yL_lacks.cls ≠ "java/lang/invoke/VarHandle" ∧ (parseMethodDescriptor yL_lacks.desc).map (fun d => d.parameters.length) = some 3 := by decide +kernel
theorem kdX7_runScript : yX7_runScript.cls = RX7 ∧ yX7_runScript.cls ≠ "java/lang/invoke/MethodHandle" ∧ yX7_runScript.cls ≠ "java/lang/invoke/VarHandle" ∧ (parseMethodDescriptor yX7_runScript.desc).map (fun d => d.parameters.length) = some 2 := by decide +kernel
theorem kdL_runScript : yL_runScript.cls ≠ "java/lang/invoke/MethodHandle" ∧ yL_runScript.cls ≠ "java/lang/invoke/VarHandle" ∧ (parseMethodDescriptor yL_runScript.desc).map (fun d => d.parameters.length) = some 4 := by decide +kernel
theorem kdX7_simulate : yX7_simulate.cls = RX7 ∧ yX7_simulate.cls ≠ "java/lang/invoke/MethodHandle" ∧ yX7_simulate.cls ≠ "java/lang/invoke/VarHandle" ∧ (parseMethodDescriptor yX7_simulate.desc).map (fun d => d.parameters.length) = some 2 := by decide +kernel
theorem kdL_simulate : yL_simulate.cls ≠ "java/lang/invoke/MethodHandle" ∧ yL_simulate.cls ≠ "java/lang/invoke/VarHandle" ∧ (parseMethodDescriptor yL_simulate.desc).map (fun d => d.parameters.length) = some 4 := by decide +kernel
theorem kdX7_save : yX7_save.cls = RX7 ∧ yX7_save.cls ≠ "java/lang/invoke/MethodHandle" ∧ yX7_save.cls ≠ "java/lang/invoke/VarHandle" ∧ (parseMethodDescriptor yX7_save.desc).map (fun d => d.parameters.length) = some 1 := by decide +kernel
theorem kdL_save : yL_save.cls ≠ "java/lang/invoke/MethodHandle" ∧ yL_save.cls ≠ "java/lang/invoke/VarHandle" ∧ (parseMethodDescriptor yL_save.desc).map (fun d => d.parameters.length) = some 3 := by decide +kernel
theorem kdX7_restore : yX7_restore.cls = RX7 ∧ yX7_restore.cls ≠ "java/lang/invoke/MethodHandle" ∧ yX7_restore.cls ≠ "java/lang/invoke/VarHandle" ∧ (parseMethodDescriptor yX7_restore.desc).map (fun d => d.parameters.length) = some 1 := by decide +kernel
theorem kdL_restore : yL_restore.cls ≠ "java/lang/invoke/MethodHandle" ∧ yL_restore.cls ≠ "java/lang/invoke/VarHandle" ∧ (parseMethodDescriptor yL_restore.desc).map (fun d => d.parameters.length) = some 3 := by decide +kernel
/-- what stays in the law's walk -/
def lE (p : Program) (s : State) (m : MethodId) (args : Array Value) (c : Code) (b L : Nat) (xs : Nat → Int32) (G : mG) : Prop :=
  p.tables.exec = Jvm.exec ∧ c.code = cL_law ∧ c.maxLocals = 7 ∧ s.vm.findClass RL = some m.cls ∧ (∀ w ∈ zT, w.before args s = true) ∧ (mE G s ∧ lNc s) ∧ (gN G = 325 ∧ isWR G 0 ∧ isMod G 316 ∧ gK G 324 = aJ G) ∧ (va_X b L xs s s.heap ∧ b < s.heap.size ∧ gZ G = s.heap.size) ∧ L ≤ 3072
def lB (G : mG) (b k : Nat) : List (Nat × Value) := [(0, .ref b), (1, .ref (gA G 0)), (2, .ref (gA G 316)), (3, .ref (gA G 324)), (4, .int (nI (6 * k)))]
/-- the law goes on behind its k-th call -/
def lK (p : Program) (l : Launch) (e : Env) (s : State) (m : MethodId) (args : Array Value) (below : List Frame) (meth : Method) (c : Code) (b k : Nat) (G : mG) (Q : State → Prop) : Prop :=
  ∀ (C D : mM) (f : Nat → Int32) (H : Heap) (locs : List Loc) (ls : Array Slot) (cells slots : Nat), PI C D → mW G s (lM C D f) H locs → lv_has ls 7 (lB G b k) → cells ≤ 325 + (k + 1) → slots ≤ 10135 + 6 * (k + 1) → W p l e room_1 s m args below meth c H locs cells slots Q (F0 m 1906 ls [])
section LAWWALK
variable {p : Program} {l : Launch} {e : Env} {s : State} {m : MethodId} {args : Array Value} {below : List Frame} {meth : Method} {c : Code} {H : Heap} {locs : List Loc} {cells slots : Nat} {Q : State → Prop}
variable {pc b L k : Nat} {xs : Nat → Int32} {ls : Array Slot} {rest : List Value} {G : mG} {C D M : mM} {f : Nat → Int32}
/-- a number of the script -/
theorem l_ld (hE : lE p s m args c b L xs G) (hw : mW G s M H locs) (j : Nat) {lv : List (Nat × Value)} (hl : lv_has ls 7 lv) (q0 q4 : Nat) (h0 : lv[q0]? = some (0, .ref b)) (h4 : lv[q4]? = some (4, .int (nI (6 * k)))) (hj : 6 * k + j < L) {n : Int} (hv : Int32.ofInt n = nI j)
    (d0 : decode cL_law pc = .ok (.aload_n 0, 1)) (d1 : decode cL_law (pc + 1) = .ok (.iload 4, 2)) (d2 : decode cL_law (pc + 3) = .ok (.iconst n, 1)) (d3 : decode cL_law (pc + 4) = .ok (.iadd, 1)) (d4 : decode cL_law (pc + 5) = .ok (.iaload, 1))
    (kk : W p l e room_1 s m args below meth c H locs cells slots Q (F0 m (pc + 6) ls (.int (xs (6 * k + j)) :: rest))) : W p l e room_1 s m args below meth c H locs cells slots Q (F0 m pc ls rest) := by
  obtain ⟨hx, hb, hml, hown, hts, _, _, ⟨hX, hbl, hz⟩, hL⟩ := hE
  refine lv_aload_n hx hb d0 rfl (lv_at hl q0 h0) ?_
  refine lv_iload hx hb d1 (lv_at hl q4 h4) ?_
  refine lv_iconst (v := nI j) hx hb d2 hv ?_
  refine lv_iadd hx hb d3 ?_
  rw [nI_add]
  refine va_sld hx hb hX hbl (by show ¬ gZ G ≤ b; omega) hw.2 (vp_in_nI hj (by omega)) d4 ?_
  rw [nI_clamp (by omega)]
  exact kk
/-- two numbers of the script as a long -/
def lgW (x y : Int32) : Int64 := (x.toInt64 <<< ((nI 32).toInt64 &&& 63)) ||| (y.toInt64 &&& lN 4294967295)
theorem l_long (hE : lE p s m args c b L xs G) (hw : mW G s M H locs) (j1 j2 : Nat) {lv : List (Nat × Value)} (hl : lv_has ls 7 lv) (q0 q4 : Nat) (h0 : lv[q0]? = some (0, .ref b)) (h4 : lv[q4]? = some (4, .int (nI (6 * k)))) (hj1 : 6 * k + j1 < L) (hj2 : 6 * k + j2 < L) {n1 n2 : Int} (hv1 : Int32.ofInt n1 = nI j1) (hv2 : Int32.ofInt n2 = nI j2) (hq : Cond.constantLong RL 188 (lN 4294967295) ∈ zT)
    (d0 : decode cL_law pc = .ok (.aload_n 0, 1)) (d1 : decode cL_law (pc + 1) = .ok (.iload 4, 2)) (d2 : decode cL_law (pc + 3) = .ok (.iconst n1, 1)) (d3 : decode cL_law (pc + 4) = .ok (.iadd, 1)) (d4 : decode cL_law (pc + 5) = .ok (.iaload, 1))
    (d5 : decode cL_law (pc + 6) = .ok (.i2l, 1)) (d6 : decode cL_law (pc + 7) = .ok (.bipush 32, 2)) (d7 : decode cL_law (pc + 9) = .ok (.lshl, 1))
    (c0 : decode cL_law (pc + 10) = .ok (.aload_n 0, 1)) (c1 : decode cL_law (pc + 11) = .ok (.iload 4, 2)) (c2 : decode cL_law (pc + 13) = .ok (.iconst n2, 1)) (c3 : decode cL_law (pc + 14) = .ok (.iadd, 1)) (c4 : decode cL_law (pc + 15) = .ok (.iaload, 1))
    (c5 : decode cL_law (pc + 16) = .ok (.i2l, 1)) (c6 : decode cL_law (pc + 17) = .ok (.ldc2_w 188, 3)) (c7 : decode cL_law (pc + 20) = .ok (.land, 1)) (c8 : decode cL_law (pc + 21) = .ok (.lor, 1))
    (kk : W p l e room_1 s m args below meth c H locs cells slots Q (F0 m (pc + 22) ls (.long (lgW (xs (6 * k + j1)) (xs (6 * k + j2))) :: rest))) : W p l e room_1 s m args below meth c H locs cells slots Q (F0 m pc ls rest) := by
  refine l_ld hE hw j1 hl q0 q4 h0 h4 hj1 hv1 d0 d1 d2 d3 d4 ?_
  refine lv_i2l hE.1 hE.2.1 d5 rfl ?_
  refine lv_bipush (v := nI 32) hE.1 hE.2.1 d6 (by decide) ?_
  refine lv_lshl hE.1 hE.2.1 d7 rfl ?_
  refine l_ld (pc := pc + 10) hE hw j2 hl q0 q4 h0 h4 hj2 hv2 c0 c1 c2 c3 c4 ?_
  refine lv_i2l hE.1 hE.2.1 c5 rfl ?_
  refine lv_ldc2 (v := lN 4294967295) hE.1 hE.2.1 hE.2.2.2.1 (hE.2.2.2.2.1 _ hq) c6 ?_
  refine lv_land hE.1 hE.2.1 c7 ?_
  exact lv_lor hE.1 hE.2.1 c8 kk
/-- behind both calls: the numbers thrown are the same, and the answers -/
theorem l_tail (hE : lE p s m args c b L xs G) (K : lK p l e s m args below meth c b k G Q) (h : PI C D) {kv bv : Int32} (hk : D 0 0 = kv) (hf : kv = nI 0 → f 0 = bv) (hw : mW G s (lM C D f) H locs) (hl : lv_has ls 7 ((6, .int bv) :: (5, .int kv) :: lB G b k)) (hc : cells ≤ 325 + (k + 1)) (hs : slots ≤ 10135 + 6 * (k + 1)) (hcr : cells ≤ room_1.cells ∧ slots ≤ room_1.slots) {off : Int} (hg : ZV RL 110 RX7 yX7_thrown cX7_thrown 1 (some .int))
    (d0 : decode cL_law pc = .ok (.aload_n 2, 1)) (d1 : decode cL_law (pc + 1) = .ok (.invokevirtual 110, 3)) (d4 : decode cL_law (pc + 4) = .ok (.iload 5, 2)) (d6 : decode cL_law (pc + 6) = .ok (.if_icmp .eq 5, 3)) (d11 : decode cL_law (pc + 11) = .ok (.iload 5, 2)) (d13 : decode cL_law (pc + 13) = .ok (.ifCond .ne 15, 3))
    (d16 : decode cL_law (pc + 16) = .ok (.aload_n 3, 1)) (d17 : decode cL_law (pc + 17) = .ok (.iconst 0, 1)) (d18 : decode cL_law (pc + 18) = .ok (.laload, 1)) (d19 : decode cL_law (pc + 19) = .ok (.iload 6, 2)) (d21 : decode cL_law (pc + 21) = .ok (.i2l, 1)) (d22 : decode cL_law (pc + 22) = .ok (.lcmp, 1)) (d23 : decode cL_law (pc + 23) = .ok (.ifCond .eq 5, 3)) (d28 : decode cL_law (pc + 28) = .ok (.goto off, 3)) (hoff : ((pc + 28 : Nat) : Int) + off = ((1906 : Nat) : Int)) :
    W p l e room_1 s m args below meth c H locs cells slots Q (F0 m pc ls []) := by
  obtain ⟨hx, hb, hml, hown, hts, ⟨hE1, hNc⟩, ⟨hN, hR, hMd, hO⟩, _, hL⟩ := id hE
  have hT := mX7_thrown l G (β := 316) (M := lM C D f) (S := D) (r := D 0 0) (by omega) hMd rfl
  simp only [lM_D] at hT
  have hend : W p l e room_1 s m args below meth c H locs cells slots Q (F0 m (pc + 28) ls []) := lv_goto hx hb d28 hoff (K C D f H locs ls cells slots h hw (lv_sub hl [2, 3, 4, 5, 6] rfl) hc hs)
  refine lv_aload_n hx hb d0 rfl (lv_at hl 4 rfl) ?_
  refine r_callV (As := []) (rest := []) (st1 := [.int (D 0 0)]) hx hb hml hown hts hE1 hw hl hT (cwV 0 hts (tV hg) rfl rfl rfl kdX7_thrown ⟨Nat.le_of_ble_eq_true rfl, Nat.le_of_ble_eq_true rfl⟩) (by omega) (congrFun hMd.1 _) rfl rfl rfl rfl (Nat.le_of_ble_eq_true rfl) d1 hcr rfl (fun H locs hw => ?_)
  have hend : W p l e room_1 s m args below meth c H locs cells slots Q (F0 m (pc + 28) ls []) := lv_goto hx hb d28 hoff (K C D f H locs ls cells slots h hw (lv_sub hl [2, 3, 4, 5, 6] rfl) hc hs)
  refine lv_iload hx hb d4 (lv_at hl 1 rfl) ?_
  refine lv_icmp_eq (tgt := pc + 11) hx hb d6 (by omega) (fun _ => ?_) (fun q => absurd hk q)
  refine lv_iload hx hb d11 (lv_at hl 1 rfl) ?_
  refine lv_if_ne (tgt := pc + 28) hx hb d13 (by omega) (fun _ => hend) (fun q => ?_)
  have q0 : kv = nI 0 := q
  refine lv_aload_n hx hb d16 rfl (lv_at hl 5 rfl) ?_
  refine lv_iconst (v := nI 0) hx hb d17 (by decide) ?_
  refine l_lald hx hb hE1 hw hN hO d18 ?_
  refine lv_iload hx hb d19 (lv_at hl 0 rfl) ?_
  refine lv_i2l hx hb d21 rfl ?_
  refine W.lcmp hx hb d22 ?_
  refine lv_if_eq (tgt := pc + 28) hx hb d23 (by omega) (fun _ => hend) (fun z => ?_)
  exact absurd ((lg_cmp_eq _ _).mpr (by rw [hf q0])) z
set_option maxHeartbeats 4000000 in
set_option maxRecDepth 100000 in
theorem k_append (hfl : l.stackTraces = false) (hE : lE p s m args c b L xs G) (K : lK p l e s m args below meth c b k G Q) (hk : 6 * k + 6 ≤ L) (h : PI C D) (hw : mW G s (lM C D f) H locs) (hl : lv_has ls 7 (lB G b k)) (hc : cells ≤ 325 + k) (hs : slots ≤ 10135 + 6 * k) : W p l e room_1 s m args below meth c H locs cells slots Q (F0 m 168 ls []) := by
  obtain ⟨hx, hb, hml, hown, hts, ⟨hE1, hNc⟩, ⟨hN, hR, hMd, hO⟩, hX, hL⟩ := id hE
  have hcr : cells + 1 ≤ room_1.cells ∧ slots + 6 ≤ room_1.slots := ⟨by show _ ≤ 601024; omega, by show _ ≤ 7293034; omega⟩
  obtain ⟨r, C1, bv, D1, h6, h7, hP, hA⟩ := a_append h (xs (6 * k + 1))
  obtain ⟨kv, f1, hM, h0, hv⟩ : ∃ (kv : Int32) (f1 : Nat → Int32), ML l G yL_append (wy yL_append cL_append 4 (some .int) [(0, 9, 12, 13), (0, 9, 15, 15)]) [.ref (gA G 0), .int (xs (6 * k + 1)), .ref (gA G 324)] (lM C D f) (lM C1 D f1) kv ∧ D1 0 0 = kv ∧ (kv = nI 0 → f1 0 = bv) := by
    rcases hA with ⟨v, rfl, rfl, h0⟩ | ⟨i, hi, rfl, h0⟩
    · exact ⟨nI 0, _, nL_append l G hN hR hO h6, h0, fun _ => upd_s _ _ _⟩
    · have hi : i < 2 := hi
      rcases (show i = 0 ∨ i = 1 by omega) with rfl | rfl
      · exact ⟨nI 1, _, tL_append_0 l hfl G hN hR h6, h0, fun z => absurd z (by decide)⟩
      · exact ⟨nI 2, _, tL_append_1 l hfl G hN hR h6, h0, fun z => absurd z (by decide)⟩
  have hD := mX7_append l G (β := 316) (M := lM C1 D f1) (by omega) hMd h7
  simp only [lM_D] at hD
  refine lv_aload_n hx hb dL_law_168 rfl (lv_at hl 1 rfl) ?_
  refine l_ld (pc := 169) hE hw 1 hl 0 4 rfl rfl (by omega) (by decide) dL_law_169 dL_law_170 dL_law_172 dL_law_173 dL_law_174 ?_
  refine lv_aload_n hx hb dL_law_175 rfl (lv_at hl 3 rfl) ?_
  refine l_callS (As := [.ref (gA G 0), .int (xs (6 * k + 1)), .ref (gA G 324)]) (rest := []) hx hb hml hown hts hE1 hNc hw hl hM (vx_cwSW 3 hts (tW gW_L_104) rfl rfl rfl kdL_append ⟨Nat.le_of_ble_eq_true rfl, Nat.le_of_ble_eq_true rfl⟩) rfl rfl (Nat.le_of_ble_eq_true rfl) dL_law_176 hcr (fun H locs hw => ?_)
  refine lv_istore (lv' := (5, .int kv) :: lB G b k) hx hb dL_law_179 hl (by decide) rfl (fun ls hl => ?_)
  refine lv_aload_n hx hb dL_law_181 rfl (lv_at hl 3 rfl) ?_
  refine l_ld (pc := 182) hE hw 1 hl 1 5 rfl rfl (by omega) (by decide) dL_law_182 dL_law_183 dL_law_185 dL_law_186 dL_law_187 ?_
  refine r_callV (As := [.int (xs (6 * k + 1))]) (rest := []) (st1 := [.int bv]) hx hb hml hown hts hE1 hw hl hD (cwV 1 hts (tV gV_L_109) rfl rfl rfl kdX7_append ⟨Nat.le_of_ble_eq_true rfl, Nat.le_of_ble_eq_true rfl⟩) (by omega) (congrFun hMd.1 _) rfl rfl rfl rfl (Nat.le_of_ble_eq_true rfl) dL_law_188 hcr rfl (fun H locs hw => ?_)
  refine lv_istore (lv' := (6, .int bv) :: (5, .int kv) :: lB G b k) hx hb dL_law_191 hl (by decide) rfl (fun ls hl => ?_)
  exact l_tail (pc := 193) hE K hP h0 hv hw hl (by omega) (by omega) hcr gV_L_110 dL_law_193 dL_law_194 dL_law_197 dL_law_199 dL_law_204 dL_law_206 dL_law_209 dL_law_210 dL_law_211 dL_law_212 dL_law_214 dL_law_215 dL_law_216 dL_law_221 (by decide)
set_option maxHeartbeats 4000000 in
set_option maxRecDepth 100000 in
theorem k_clearText (hfl : l.stackTraces = false) (hE : lE p s m args c b L xs G) (K : lK p l e s m args below meth c b k G Q) (hk : 6 * k + 6 ≤ L) (h : PI C D) (hw : mW G s (lM C D f) H locs) (hl : lv_has ls 7 (lB G b k)) (hc : cells ≤ 325 + k) (hs : slots ≤ 10135 + 6 * k) : W p l e room_1 s m args below meth c H locs cells slots Q (F0 m 224 ls []) := by
  obtain ⟨hx, hb, hml, hown, hts, ⟨hE1, hNc⟩, ⟨hN, hR, hMd, hO⟩, hX, hL⟩ := id hE
  have hcr : cells + 1 ≤ room_1.cells ∧ slots + 6 ≤ room_1.slots := ⟨by show _ ≤ 601024; omega, by show _ ≤ 7293034; omega⟩
  obtain ⟨v, C1, D1, h6, h7, hP⟩ := a_clearText h
  have hC := mX6_clearText l G (β := 0) (M := lM C D f) (by omega) hR h6
  simp only [lM_C] at hC
  have hD := mX7_clearText l G (β := 316) (M := lM C1 D f) (by omega) hMd h7
  simp only [lM_D] at hD
  refine lv_aload_n hx hb dL_law_224 rfl (lv_at hl 1 rfl) ?_
  refine r_callV (As := []) (rest := []) (st1 := [.int v]) hx hb hml hown hts hE1 hw hl hC (cwV 0 hts (tV gV_L_113) rfl rfl rfl kdX6_clearText ⟨Nat.le_of_ble_eq_true rfl, Nat.le_of_ble_eq_true rfl⟩) (by omega) (congrFun hR.1 _) rfl rfl rfl rfl (Nat.le_of_ble_eq_true rfl) dL_law_225 ⟨Nat.le_trans (Nat.le_succ _) hcr.1, Nat.le_trans (Nat.le_add_right _ _) hcr.2⟩ rfl (fun H locs hw => ?_)
  refine lv_aload_n hx hb dL_law_228 rfl (lv_at hl 2 rfl) ?_
  refine r_callV (As := []) (rest := [.int v]) (st1 := [.int v, .int v]) hx hb hml hown hts hE1 hw hl hD (cwV 0 hts (tV gV_L_116) rfl rfl rfl kdX7_clearText ⟨Nat.le_of_ble_eq_true rfl, Nat.le_of_ble_eq_true rfl⟩) (by omega) (congrFun hMd.1 _) rfl rfl rfl rfl (Nat.le_of_ble_eq_true rfl) dL_law_229 ⟨Nat.le_trans (Nat.le_succ _) hcr.1, Nat.le_trans (Nat.le_add_right _ _) hcr.2⟩ rfl (fun H locs hw => ?_)
  refine lv_icmp_eq (tgt := 1906) hx hb dL_law_232 (by decide) (fun _ => ?_) (fun q => absurd rfl q)
  exact K C1 D1 f H locs ls cells slots hP hw hl (by omega) (by omega)
set_option maxHeartbeats 4000000 in
set_option maxRecDepth 100000 in
theorem k_errorPosition (hfl : l.stackTraces = false) (hE : lE p s m args c b L xs G) (K : lK p l e s m args below meth c b k G Q) (hk : 6 * k + 6 ≤ L) (h : PI C D) (hw : mW G s (lM C D f) H locs) (hl : lv_has ls 7 (lB G b k)) (hc : cells ≤ 325 + k) (hs : slots ≤ 10135 + 6 * k) : W p l e room_1 s m args below meth c H locs cells slots Q (F0 m 237 ls []) := by
  obtain ⟨hx, hb, hml, hown, hts, ⟨hE1, hNc⟩, ⟨hN, hR, hMd, hO⟩, hX, hL⟩ := id hE
  have hcr : cells + 1 ≤ room_1.cells ∧ slots + 6 ≤ room_1.slots := ⟨by show _ ≤ 601024; omega, by show _ ≤ 7293034; omega⟩
  obtain ⟨v, C1, D1, h6, h7, hP⟩ := a_errorPosition h
  have hC := mX6_errorPosition l G (β := 0) (M := lM C D f) (by omega) hR h6
  simp only [lM_C] at hC
  have hD := mX7_errorPosition l G (β := 316) (M := lM C1 D f) (by omega) hMd h7
  simp only [lM_D] at hD
  refine lv_aload_n hx hb dL_law_237 rfl (lv_at hl 1 rfl) ?_
  refine r_callV (As := []) (rest := []) (st1 := [.int v]) hx hb hml hown hts hE1 hw hl hC (cwV 0 hts (tV gV_L_117) rfl rfl rfl kdX6_errorPosition ⟨Nat.le_of_ble_eq_true rfl, Nat.le_of_ble_eq_true rfl⟩) (by omega) (congrFun hR.1 _) rfl rfl rfl rfl (Nat.le_of_ble_eq_true rfl) dL_law_238 ⟨Nat.le_trans (Nat.le_succ _) hcr.1, Nat.le_trans (Nat.le_add_right _ _) hcr.2⟩ rfl (fun H locs hw => ?_)
  refine lv_aload_n hx hb dL_law_241 rfl (lv_at hl 2 rfl) ?_
  refine r_callV (As := []) (rest := [.int v]) (st1 := [.int v, .int v]) hx hb hml hown hts hE1 hw hl hD (cwV 0 hts (tV gV_L_120) rfl rfl rfl kdX7_errorPosition ⟨Nat.le_of_ble_eq_true rfl, Nat.le_of_ble_eq_true rfl⟩) (by omega) (congrFun hMd.1 _) rfl rfl rfl rfl (Nat.le_of_ble_eq_true rfl) dL_law_242 ⟨Nat.le_trans (Nat.le_succ _) hcr.1, Nat.le_trans (Nat.le_add_right _ _) hcr.2⟩ rfl (fun H locs hw => ?_)
  refine lv_icmp_eq (tgt := 1906) hx hb dL_law_245 (by decide) (fun _ => ?_) (fun q => absurd rfl q)
  exact K C1 D1 f H locs ls cells slots hP hw hl (by omega) (by omega)
set_option maxHeartbeats 4000000 in
set_option maxRecDepth 100000 in
theorem k_load (hfl : l.stackTraces = false) (hE : lE p s m args c b L xs G) (K : lK p l e s m args below meth c b k G Q) (hk : 6 * k + 6 ≤ L) (h : PI C D) (hw : mW G s (lM C D f) H locs) (hl : lv_has ls 7 (lB G b k)) (hc : cells ≤ 325 + k) (hs : slots ≤ 10135 + 6 * k) : W p l e room_1 s m args below meth c H locs cells slots Q (F0 m 250 ls []) := by
  obtain ⟨hx, hb, hml, hown, hts, ⟨hE1, hNc⟩, ⟨hN, hR, hMd, hO⟩, hX, hL⟩ := id hE
  have hcr : cells + 1 ≤ room_1.cells ∧ slots + 6 ≤ room_1.slots := ⟨by show _ ≤ 601024; omega, by show _ ≤ 7293034; omega⟩
  obtain ⟨r, C1, bv, D1, h6, h7, hP, hA⟩ := a_load h 
  obtain ⟨kv, f1, hM, h0, hv⟩ : ∃ (kv : Int32) (f1 : Nat → Int32), ML l G yL_load (wy yL_load cL_load 3 (some .int) [(0, 8, 11, 15)]) [.ref (gA G 0), .ref (gA G 324)] (lM C D f) (lM C1 D f1) kv ∧ D1 0 0 = kv ∧ (kv = nI 0 → f1 0 = bv) := by
    rcases hA with ⟨v, rfl, rfl, h0⟩ | ⟨i, hi, rfl, h0⟩
    · exact ⟨nI 0, _, nL_load l G hN hR hO h6, h0, fun _ => upd_s _ _ _⟩
    · have hi : i < 1 := hi
      obtain rfl : i = 0 := by omega
      exact ⟨nI 1, _, tL_load_0 l hfl G hN hR h6, h0, fun z => absurd z (by decide)⟩
  have hD := mX7_load l G (β := 316) (M := lM C1 D f1) (by omega) hMd h7
  simp only [lM_D] at hD
  refine lv_aload_n hx hb dL_law_250 rfl (lv_at hl 1 rfl) ?_
  refine lv_aload_n hx hb dL_law_251 rfl (lv_at hl 3 rfl) ?_
  refine l_callS (As := [.ref (gA G 0), .ref (gA G 324)]) (rest := []) hx hb hml hown hts hE1 hNc hw hl hM (vx_cwSW 2 hts (tW gW_L_121) rfl rfl rfl kdL_load ⟨Nat.le_of_ble_eq_true rfl, Nat.le_of_ble_eq_true rfl⟩) rfl rfl (Nat.le_of_ble_eq_true rfl) dL_law_252 hcr (fun H locs hw => ?_)
  refine lv_istore (lv' := (5, .int kv) :: lB G b k) hx hb dL_law_255 hl (by decide) rfl (fun ls hl => ?_)
  refine lv_aload_n hx hb dL_law_257 rfl (lv_at hl 3 rfl) ?_
  refine r_callV (As := []) (rest := []) (st1 := [.int bv]) hx hb hml hown hts hE1 hw hl hD (cwV 0 hts (tV gV_L_124) rfl rfl rfl kdX7_load ⟨Nat.le_of_ble_eq_true rfl, Nat.le_of_ble_eq_true rfl⟩) (by omega) (congrFun hMd.1 _) rfl rfl rfl rfl (Nat.le_of_ble_eq_true rfl) dL_law_258 hcr rfl (fun H locs hw => ?_)
  refine lv_istore (lv' := (6, .int bv) :: (5, .int kv) :: lB G b k) hx hb dL_law_261 hl (by decide) rfl (fun ls hl => ?_)
  exact l_tail (pc := 263) hE K hP h0 hv hw hl (by omega) (by omega) hcr gV_L_110 dL_law_263 dL_law_264 dL_law_267 dL_law_269 dL_law_274 dL_law_276 dL_law_279 dL_law_280 dL_law_281 dL_law_282 dL_law_284 dL_law_285 dL_law_286 dL_law_291 (by decide)
set_option maxHeartbeats 4000000 in
set_option maxRecDepth 100000 in
theorem k_about (hfl : l.stackTraces = false) (hE : lE p s m args c b L xs G) (K : lK p l e s m args below meth c b k G Q) (hk : 6 * k + 6 ≤ L) (h : PI C D) (hw : mW G s (lM C D f) H locs) (hl : lv_has ls 7 (lB G b k)) (hc : cells ≤ 325 + k) (hs : slots ≤ 10135 + 6 * k) : W p l e room_1 s m args below meth c H locs cells slots Q (F0 m 294 ls []) := by
  obtain ⟨hx, hb, hml, hown, hts, ⟨hE1, hNc⟩, ⟨hN, hR, hMd, hO⟩, hX, hL⟩ := id hE
  have hcr : cells + 1 ≤ room_1.cells ∧ slots + 6 ≤ room_1.slots := ⟨by show _ ≤ 601024; omega, by show _ ≤ 7293034; omega⟩
  obtain ⟨r, bv, D1, h6, h7, hP, hA⟩ := a_about h (xs (6 * k + 1))
  obtain ⟨kv, f1, hM, h0, hv⟩ : ∃ (kv : Int32) (f1 : Nat → Int32), ML l G yL_about (wy yL_about cL_about 4 (some .int) [(0, 9, 12, 13)]) [.ref (gA G 0), .int (xs (6 * k + 1)), .ref (gA G 324)] (lM C D f) (lM C D f1) kv ∧ D1 0 0 = kv ∧ (kv = nI 0 → f1 0 = bv) := by
    rcases hA with ⟨v, rfl, rfl, h0⟩ | ⟨i, hi, rfl, h0⟩
    · exact ⟨nI 0, _, nL_about l G hN hR hO h6, h0, fun _ => upd_s _ _ _⟩
    · have hi : i < 1 := hi
      obtain rfl : i = 0 := by omega
      exact ⟨nI 1, _, tL_about_0 l hfl G hN hR h6, h0, fun z => absurd z (by decide)⟩
  have hD := mX7_about l G (β := 316) (M := lM C D f1) (by omega) hMd h7
  simp only [lM_D] at hD
  refine lv_aload_n hx hb dL_law_294 rfl (lv_at hl 1 rfl) ?_
  refine l_ld (pc := 295) hE hw 1 hl 0 4 rfl rfl (by omega) (by decide) dL_law_295 dL_law_296 dL_law_298 dL_law_299 dL_law_300 ?_
  refine lv_aload_n hx hb dL_law_301 rfl (lv_at hl 3 rfl) ?_
  refine l_callS (As := [.ref (gA G 0), .int (xs (6 * k + 1)), .ref (gA G 324)]) (rest := []) hx hb hml hown hts hE1 hNc hw hl hM (vx_cwSW 3 hts (tW gW_L_125) rfl rfl rfl kdL_about ⟨Nat.le_of_ble_eq_true rfl, Nat.le_of_ble_eq_true rfl⟩) rfl rfl (Nat.le_of_ble_eq_true rfl) dL_law_302 hcr (fun H locs hw => ?_)
  refine lv_istore (lv' := (5, .int kv) :: lB G b k) hx hb dL_law_305 hl (by decide) rfl (fun ls hl => ?_)
  refine lv_aload_n hx hb dL_law_307 rfl (lv_at hl 3 rfl) ?_
  refine l_ld (pc := 308) hE hw 1 hl 1 5 rfl rfl (by omega) (by decide) dL_law_308 dL_law_309 dL_law_311 dL_law_312 dL_law_313 ?_
  refine r_callV (As := [.int (xs (6 * k + 1))]) (rest := []) (st1 := [.int bv]) hx hb hml hown hts hE1 hw hl hD (cwV 1 hts (tV gV_L_127) rfl rfl rfl kdX7_about ⟨Nat.le_of_ble_eq_true rfl, Nat.le_of_ble_eq_true rfl⟩) (by omega) (congrFun hMd.1 _) rfl rfl rfl rfl (Nat.le_of_ble_eq_true rfl) dL_law_314 hcr rfl (fun H locs hw => ?_)
  refine lv_istore (lv' := (6, .int bv) :: (5, .int kv) :: lB G b k) hx hb dL_law_317 hl (by decide) rfl (fun ls hl => ?_)
  exact l_tail (pc := 319) hE K hP h0 hv hw hl (by omega) (by omega) hcr gV_L_110 dL_law_319 dL_law_320 dL_law_323 dL_law_325 dL_law_330 dL_law_332 dL_law_335 dL_law_336 dL_law_337 dL_law_338 dL_law_340 dL_law_341 dL_law_342 dL_law_347 (by decide)
set_option maxHeartbeats 4000000 in
set_option maxRecDepth 100000 in
theorem k_convoy (hfl : l.stackTraces = false) (hE : lE p s m args c b L xs G) (K : lK p l e s m args below meth c b k G Q) (hk : 6 * k + 6 ≤ L) (h : PI C D) (hw : mW G s (lM C D f) H locs) (hl : lv_has ls 7 (lB G b k)) (hc : cells ≤ 325 + k) (hs : slots ≤ 10135 + 6 * k) : W p l e room_1 s m args below meth c H locs cells slots Q (F0 m 350 ls []) := by
  obtain ⟨hx, hb, hml, hown, hts, ⟨hE1, hNc⟩, ⟨hN, hR, hMd, hO⟩, hX, hL⟩ := id hE
  have hcr : cells + 1 ≤ room_1.cells ∧ slots + 6 ≤ room_1.slots := ⟨by show _ ≤ 601024; omega, by show _ ≤ 7293034; omega⟩
  obtain ⟨r, bv, D1, h6, h7, hP, hA⟩ := a_convoy h (xs (6 * k + 1)) (xs (6 * k + 2))
  obtain ⟨kv, f1, hM, h0, hv⟩ : ∃ (kv : Int32) (f1 : Nat → Int32), ML l G yL_convoy (wy yL_convoy cL_convoy 5 (some .int) [(0, 10, 13, 28), (0, 10, 17, 13)]) [.ref (gA G 0), .int (xs (6 * k + 1)), .int (xs (6 * k + 2)), .ref (gA G 324)] (lM C D f) (lM C D f1) kv ∧ D1 0 0 = kv ∧ (kv = nI 0 → f1 0 = bv) := by
    rcases hA with ⟨v, rfl, rfl, h0⟩ | ⟨i, hi, rfl, h0⟩
    · exact ⟨nI 0, _, nL_convoy l G hN hR hO h6, h0, fun _ => upd_s _ _ _⟩
    · have hi : i < 2 := hi
      rcases (show i = 0 ∨ i = 1 by omega) with rfl | rfl
      · exact ⟨nI 1, _, tL_convoy_0 l hfl G hN hR h6, h0, fun z => absurd z (by decide)⟩
      · exact ⟨nI 2, _, tL_convoy_1 l hfl G hN hR h6, h0, fun z => absurd z (by decide)⟩
  have hD := mX7_convoy l G (β := 316) (M := lM C D f1) (by omega) hMd h7
  simp only [lM_D] at hD
  refine lv_aload_n hx hb dL_law_350 rfl (lv_at hl 1 rfl) ?_
  refine l_ld (pc := 351) hE hw 1 hl 0 4 rfl rfl (by omega) (by decide) dL_law_351 dL_law_352 dL_law_354 dL_law_355 dL_law_356 ?_
  refine l_ld (pc := 357) hE hw 2 hl 0 4 rfl rfl (by omega) (by decide) dL_law_357 dL_law_358 dL_law_360 dL_law_361 dL_law_362 ?_
  refine lv_aload_n hx hb dL_law_363 rfl (lv_at hl 3 rfl) ?_
  refine l_callS (As := [.ref (gA G 0), .int (xs (6 * k + 1)), .int (xs (6 * k + 2)), .ref (gA G 324)]) (rest := []) hx hb hml hown hts hE1 hNc hw hl hM (vx_cwSW 4 hts (tW gW_L_128) rfl rfl rfl kdL_convoy ⟨Nat.le_of_ble_eq_true rfl, Nat.le_of_ble_eq_true rfl⟩) rfl rfl (Nat.le_of_ble_eq_true rfl) dL_law_364 hcr (fun H locs hw => ?_)
  refine lv_istore (lv' := (5, .int kv) :: lB G b k) hx hb dL_law_367 hl (by decide) rfl (fun ls hl => ?_)
  refine lv_aload_n hx hb dL_law_369 rfl (lv_at hl 3 rfl) ?_
  refine l_ld (pc := 370) hE hw 1 hl 1 5 rfl rfl (by omega) (by decide) dL_law_370 dL_law_371 dL_law_373 dL_law_374 dL_law_375 ?_
  refine l_ld (pc := 376) hE hw 2 hl 1 5 rfl rfl (by omega) (by decide) dL_law_376 dL_law_377 dL_law_379 dL_law_380 dL_law_381 ?_
  refine r_callV (As := [.int (xs (6 * k + 1)), .int (xs (6 * k + 2))]) (rest := []) (st1 := [.int bv]) hx hb hml hown hts hE1 hw hl hD (cwV 2 hts (tV gV_L_131) rfl rfl rfl kdX7_convoy ⟨Nat.le_of_ble_eq_true rfl, Nat.le_of_ble_eq_true rfl⟩) (by omega) (congrFun hMd.1 _) rfl rfl rfl rfl (Nat.le_of_ble_eq_true rfl) dL_law_382 hcr rfl (fun H locs hw => ?_)
  refine lv_istore (lv' := (6, .int bv) :: (5, .int kv) :: lB G b k) hx hb dL_law_385 hl (by decide) rfl (fun ls hl => ?_)
  exact l_tail (pc := 387) hE K hP h0 hv hw hl (by omega) (by omega) hcr gV_L_110 dL_law_387 dL_law_388 dL_law_391 dL_law_393 dL_law_398 dL_law_400 dL_law_403 dL_law_404 dL_law_405 dL_law_406 dL_law_408 dL_law_409 dL_law_410 dL_law_415 (by decide)
set_option maxHeartbeats 4000000 in
set_option maxRecDepth 100000 in
theorem k_member (hfl : l.stackTraces = false) (hE : lE p s m args c b L xs G) (K : lK p l e s m args below meth c b k G Q) (hk : 6 * k + 6 ≤ L) (h : PI C D) (hw : mW G s (lM C D f) H locs) (hl : lv_has ls 7 (lB G b k)) (hc : cells ≤ 325 + k) (hs : slots ≤ 10135 + 6 * k) : W p l e room_1 s m args below meth c H locs cells slots Q (F0 m 418 ls []) := by
  obtain ⟨hx, hb, hml, hown, hts, ⟨hE1, hNc⟩, ⟨hN, hR, hMd, hO⟩, hX, hL⟩ := id hE
  have hcr : cells + 1 ≤ room_1.cells ∧ slots + 6 ≤ room_1.slots := ⟨by show _ ≤ 601024; omega, by show _ ≤ 7293034; omega⟩
  obtain ⟨r, bv, D1, h6, h7, hP, hA⟩ := a_member h (xs (6 * k + 1)) (xs (6 * k + 2))
  obtain ⟨kv, f1, hM, h0, hv⟩ : ∃ (kv : Int32) (f1 : Nat → Int32), ML l G yL_member (wy yL_member cL_member 5 (some .int) [(0, 10, 13, 28), (0, 10, 17, 13)]) [.ref (gA G 0), .int (xs (6 * k + 1)), .int (xs (6 * k + 2)), .ref (gA G 324)] (lM C D f) (lM C D f1) kv ∧ D1 0 0 = kv ∧ (kv = nI 0 → f1 0 = bv) := by
    rcases hA with ⟨v, rfl, rfl, h0⟩ | ⟨i, hi, rfl, h0⟩
    · exact ⟨nI 0, _, nL_member l G hN hR hO h6, h0, fun _ => upd_s _ _ _⟩
    · have hi : i < 2 := hi
      rcases (show i = 0 ∨ i = 1 by omega) with rfl | rfl
      · exact ⟨nI 1, _, tL_member_0 l hfl G hN hR h6, h0, fun z => absurd z (by decide)⟩
      · exact ⟨nI 2, _, tL_member_1 l hfl G hN hR h6, h0, fun z => absurd z (by decide)⟩
  have hD := mX7_member l G (β := 316) (M := lM C D f1) (by omega) hMd h7
  simp only [lM_D] at hD
  refine lv_aload_n hx hb dL_law_418 rfl (lv_at hl 1 rfl) ?_
  refine l_ld (pc := 419) hE hw 1 hl 0 4 rfl rfl (by omega) (by decide) dL_law_419 dL_law_420 dL_law_422 dL_law_423 dL_law_424 ?_
  refine l_ld (pc := 425) hE hw 2 hl 0 4 rfl rfl (by omega) (by decide) dL_law_425 dL_law_426 dL_law_428 dL_law_429 dL_law_430 ?_
  refine lv_aload_n hx hb dL_law_431 rfl (lv_at hl 3 rfl) ?_
  refine l_callS (As := [.ref (gA G 0), .int (xs (6 * k + 1)), .int (xs (6 * k + 2)), .ref (gA G 324)]) (rest := []) hx hb hml hown hts hE1 hNc hw hl hM (vx_cwSW 4 hts (tW gW_L_132) rfl rfl rfl kdL_member ⟨Nat.le_of_ble_eq_true rfl, Nat.le_of_ble_eq_true rfl⟩) rfl rfl (Nat.le_of_ble_eq_true rfl) dL_law_432 hcr (fun H locs hw => ?_)
  refine lv_istore (lv' := (5, .int kv) :: lB G b k) hx hb dL_law_435 hl (by decide) rfl (fun ls hl => ?_)
  refine lv_aload_n hx hb dL_law_437 rfl (lv_at hl 3 rfl) ?_
  refine l_ld (pc := 438) hE hw 1 hl 1 5 rfl rfl (by omega) (by decide) dL_law_438 dL_law_439 dL_law_441 dL_law_442 dL_law_443 ?_
  refine l_ld (pc := 444) hE hw 2 hl 1 5 rfl rfl (by omega) (by decide) dL_law_444 dL_law_445 dL_law_447 dL_law_448 dL_law_449 ?_
  refine r_callV (As := [.int (xs (6 * k + 1)), .int (xs (6 * k + 2))]) (rest := []) (st1 := [.int bv]) hx hb hml hown hts hE1 hw hl hD (cwV 2 hts (tV gV_L_134) rfl rfl rfl kdX7_member ⟨Nat.le_of_ble_eq_true rfl, Nat.le_of_ble_eq_true rfl⟩) (by omega) (congrFun hMd.1 _) rfl rfl rfl rfl (Nat.le_of_ble_eq_true rfl) dL_law_450 hcr rfl (fun H locs hw => ?_)
  refine lv_istore (lv' := (6, .int bv) :: (5, .int kv) :: lB G b k) hx hb dL_law_453 hl (by decide) rfl (fun ls hl => ?_)
  exact l_tail (pc := 455) hE K hP h0 hv hw hl (by omega) (by omega) hcr gV_L_110 dL_law_455 dL_law_456 dL_law_459 dL_law_461 dL_law_466 dL_law_468 dL_law_471 dL_law_472 dL_law_473 dL_law_474 dL_law_476 dL_law_477 dL_law_478 dL_law_483 (by decide)
set_option maxHeartbeats 4000000 in
set_option maxRecDepth 100000 in
theorem k_vehicle (hfl : l.stackTraces = false) (hE : lE p s m args c b L xs G) (K : lK p l e s m args below meth c b k G Q) (hk : 6 * k + 6 ≤ L) (h : PI C D) (hw : mW G s (lM C D f) H locs) (hl : lv_has ls 7 (lB G b k)) (hc : cells ≤ 325 + k) (hs : slots ≤ 10135 + 6 * k) : W p l e room_1 s m args below meth c H locs cells slots Q (F0 m 486 ls []) := by
  obtain ⟨hx, hb, hml, hown, hts, ⟨hE1, hNc⟩, ⟨hN, hR, hMd, hO⟩, hX, hL⟩ := id hE
  have hcr : cells + 1 ≤ room_1.cells ∧ slots + 6 ≤ room_1.slots := ⟨by show _ ≤ 601024; omega, by show _ ≤ 7293034; omega⟩
  obtain ⟨r, bv, D1, h6, h7, hP, hA⟩ := a_vehicle h (xs (6 * k + 1)) (xs (6 * k + 2))
  obtain ⟨kv, f1, hM, h0, hv⟩ : ∃ (kv : Int32) (f1 : Nat → Int32), ML l G yL_vehicle (wy yL_vehicle cL_vehicle 5 (some .int) [(0, 10, 13, 28), (0, 10, 17, 13)]) [.ref (gA G 0), .int (xs (6 * k + 1)), .int (xs (6 * k + 2)), .ref (gA G 324)] (lM C D f) (lM C D f1) kv ∧ D1 0 0 = kv ∧ (kv = nI 0 → f1 0 = bv) := by
    rcases hA with ⟨v, rfl, rfl, h0⟩ | ⟨i, hi, rfl, h0⟩
    · exact ⟨nI 0, _, nL_vehicle l G hN hR hO h6, h0, fun _ => upd_s _ _ _⟩
    · have hi : i < 2 := hi
      rcases (show i = 0 ∨ i = 1 by omega) with rfl | rfl
      · exact ⟨nI 1, _, tL_vehicle_0 l hfl G hN hR h6, h0, fun z => absurd z (by decide)⟩
      · exact ⟨nI 2, _, tL_vehicle_1 l hfl G hN hR h6, h0, fun z => absurd z (by decide)⟩
  have hD := mX7_vehicle l G (β := 316) (M := lM C D f1) (by omega) hMd h7
  simp only [lM_D] at hD
  refine lv_aload_n hx hb dL_law_486 rfl (lv_at hl 1 rfl) ?_
  refine l_ld (pc := 487) hE hw 1 hl 0 4 rfl rfl (by omega) (by decide) dL_law_487 dL_law_488 dL_law_490 dL_law_491 dL_law_492 ?_
  refine l_ld (pc := 493) hE hw 2 hl 0 4 rfl rfl (by omega) (by decide) dL_law_493 dL_law_494 dL_law_496 dL_law_497 dL_law_498 ?_
  refine lv_aload_n hx hb dL_law_499 rfl (lv_at hl 3 rfl) ?_
  refine l_callS (As := [.ref (gA G 0), .int (xs (6 * k + 1)), .int (xs (6 * k + 2)), .ref (gA G 324)]) (rest := []) hx hb hml hown hts hE1 hNc hw hl hM (vx_cwSW 4 hts (tW gW_L_135) rfl rfl rfl kdL_vehicle ⟨Nat.le_of_ble_eq_true rfl, Nat.le_of_ble_eq_true rfl⟩) rfl rfl (Nat.le_of_ble_eq_true rfl) dL_law_500 hcr (fun H locs hw => ?_)
  refine lv_istore (lv' := (5, .int kv) :: lB G b k) hx hb dL_law_503 hl (by decide) rfl (fun ls hl => ?_)
  refine lv_aload_n hx hb dL_law_505 rfl (lv_at hl 3 rfl) ?_
  refine l_ld (pc := 506) hE hw 1 hl 1 5 rfl rfl (by omega) (by decide) dL_law_506 dL_law_507 dL_law_509 dL_law_510 dL_law_511 ?_
  refine l_ld (pc := 512) hE hw 2 hl 1 5 rfl rfl (by omega) (by decide) dL_law_512 dL_law_513 dL_law_515 dL_law_516 dL_law_517 ?_
  refine r_callV (As := [.int (xs (6 * k + 1)), .int (xs (6 * k + 2))]) (rest := []) (st1 := [.int bv]) hx hb hml hown hts hE1 hw hl hD (cwV 2 hts (tV gV_L_137) rfl rfl rfl kdX7_vehicle ⟨Nat.le_of_ble_eq_true rfl, Nat.le_of_ble_eq_true rfl⟩) (by omega) (congrFun hMd.1 _) rfl rfl rfl rfl (Nat.le_of_ble_eq_true rfl) dL_law_518 hcr rfl (fun H locs hw => ?_)
  refine lv_istore (lv' := (6, .int bv) :: (5, .int kv) :: lB G b k) hx hb dL_law_521 hl (by decide) rfl (fun ls hl => ?_)
  exact l_tail (pc := 523) hE K hP h0 hv hw hl (by omega) (by omega) hcr gV_L_110 dL_law_523 dL_law_524 dL_law_527 dL_law_529 dL_law_534 dL_law_536 dL_law_539 dL_law_540 dL_law_541 dL_law_542 dL_law_544 dL_law_545 dL_law_546 dL_law_551 (by decide)
set_option maxHeartbeats 4000000 in
set_option maxRecDepth 100000 in
theorem k_gate (hfl : l.stackTraces = false) (hE : lE p s m args c b L xs G) (K : lK p l e s m args below meth c b k G Q) (hk : 6 * k + 6 ≤ L) (h : PI C D) (hw : mW G s (lM C D f) H locs) (hl : lv_has ls 7 (lB G b k)) (hc : cells ≤ 325 + k) (hs : slots ≤ 10135 + 6 * k) : W p l e room_1 s m args below meth c H locs cells slots Q (F0 m 554 ls []) := by
  obtain ⟨hx, hb, hml, hown, hts, ⟨hE1, hNc⟩, ⟨hN, hR, hMd, hO⟩, hX, hL⟩ := id hE
  have hcr : cells + 1 ≤ room_1.cells ∧ slots + 6 ≤ room_1.slots := ⟨by show _ ≤ 601024; omega, by show _ ≤ 7293034; omega⟩
  obtain ⟨r, bv, D1, h6, h7, hP, hA⟩ := a_gate h (xs (6 * k + 1)) (xs (6 * k + 2))
  obtain ⟨kv, f1, hM, h0, hv⟩ : ∃ (kv : Int32) (f1 : Nat → Int32), ML l G yL_gate (wy yL_gate cL_gate 5 (some .int) [(0, 10, 13, 28), (0, 10, 17, 13)]) [.ref (gA G 0), .int (xs (6 * k + 1)), .int (xs (6 * k + 2)), .ref (gA G 324)] (lM C D f) (lM C D f1) kv ∧ D1 0 0 = kv ∧ (kv = nI 0 → f1 0 = bv) := by
    rcases hA with ⟨v, rfl, rfl, h0⟩ | ⟨i, hi, rfl, h0⟩
    · exact ⟨nI 0, _, nL_gate l G hN hR hO h6, h0, fun _ => upd_s _ _ _⟩
    · have hi : i < 2 := hi
      rcases (show i = 0 ∨ i = 1 by omega) with rfl | rfl
      · exact ⟨nI 1, _, tL_gate_0 l hfl G hN hR h6, h0, fun z => absurd z (by decide)⟩
      · exact ⟨nI 2, _, tL_gate_1 l hfl G hN hR h6, h0, fun z => absurd z (by decide)⟩
  have hD := mX7_gate l G (β := 316) (M := lM C D f1) (by omega) hMd h7
  simp only [lM_D] at hD
  refine lv_aload_n hx hb dL_law_554 rfl (lv_at hl 1 rfl) ?_
  refine l_ld (pc := 555) hE hw 1 hl 0 4 rfl rfl (by omega) (by decide) dL_law_555 dL_law_556 dL_law_558 dL_law_559 dL_law_560 ?_
  refine l_ld (pc := 561) hE hw 2 hl 0 4 rfl rfl (by omega) (by decide) dL_law_561 dL_law_562 dL_law_564 dL_law_565 dL_law_566 ?_
  refine lv_aload_n hx hb dL_law_567 rfl (lv_at hl 3 rfl) ?_
  refine l_callS (As := [.ref (gA G 0), .int (xs (6 * k + 1)), .int (xs (6 * k + 2)), .ref (gA G 324)]) (rest := []) hx hb hml hown hts hE1 hNc hw hl hM (vx_cwSW 4 hts (tW gW_L_138) rfl rfl rfl kdL_gate ⟨Nat.le_of_ble_eq_true rfl, Nat.le_of_ble_eq_true rfl⟩) rfl rfl (Nat.le_of_ble_eq_true rfl) dL_law_568 hcr (fun H locs hw => ?_)
  refine lv_istore (lv' := (5, .int kv) :: lB G b k) hx hb dL_law_571 hl (by decide) rfl (fun ls hl => ?_)
  refine lv_aload_n hx hb dL_law_573 rfl (lv_at hl 3 rfl) ?_
  refine l_ld (pc := 574) hE hw 1 hl 1 5 rfl rfl (by omega) (by decide) dL_law_574 dL_law_575 dL_law_577 dL_law_578 dL_law_579 ?_
  refine l_ld (pc := 580) hE hw 2 hl 1 5 rfl rfl (by omega) (by decide) dL_law_580 dL_law_581 dL_law_583 dL_law_584 dL_law_585 ?_
  refine r_callV (As := [.int (xs (6 * k + 1)), .int (xs (6 * k + 2))]) (rest := []) (st1 := [.int bv]) hx hb hml hown hts hE1 hw hl hD (cwV 2 hts (tV gV_L_140) rfl rfl rfl kdX7_gate ⟨Nat.le_of_ble_eq_true rfl, Nat.le_of_ble_eq_true rfl⟩) (by omega) (congrFun hMd.1 _) rfl rfl rfl rfl (Nat.le_of_ble_eq_true rfl) dL_law_586 hcr rfl (fun H locs hw => ?_)
  refine lv_istore (lv' := (6, .int bv) :: (5, .int kv) :: lB G b k) hx hb dL_law_589 hl (by decide) rfl (fun ls hl => ?_)
  exact l_tail (pc := 591) hE K hP h0 hv hw hl (by omega) (by omega) hcr gV_L_110 dL_law_591 dL_law_592 dL_law_595 dL_law_597 dL_law_602 dL_law_604 dL_law_607 dL_law_608 dL_law_609 dL_law_610 dL_law_612 dL_law_613 dL_law_614 dL_law_619 (by decide)
set_option maxHeartbeats 4000000 in
set_option maxRecDepth 100000 in
theorem k_bay (hfl : l.stackTraces = false) (hE : lE p s m args c b L xs G) (K : lK p l e s m args below meth c b k G Q) (hk : 6 * k + 6 ≤ L) (h : PI C D) (hw : mW G s (lM C D f) H locs) (hl : lv_has ls 7 (lB G b k)) (hc : cells ≤ 325 + k) (hs : slots ≤ 10135 + 6 * k) : W p l e room_1 s m args below meth c H locs cells slots Q (F0 m 622 ls []) := by
  obtain ⟨hx, hb, hml, hown, hts, ⟨hE1, hNc⟩, ⟨hN, hR, hMd, hO⟩, hX, hL⟩ := id hE
  have hcr : cells + 1 ≤ room_1.cells ∧ slots + 6 ≤ room_1.slots := ⟨by show _ ≤ 601024; omega, by show _ ≤ 7293034; omega⟩
  obtain ⟨r, bv, D1, h6, h7, hP, hA⟩ := a_bay h (xs (6 * k + 1)) (xs (6 * k + 2))
  obtain ⟨kv, f1, hM, h0, hv⟩ : ∃ (kv : Int32) (f1 : Nat → Int32), ML l G yL_bay (wy yL_bay cL_bay 5 (some .int) [(0, 10, 13, 28), (0, 10, 17, 13)]) [.ref (gA G 0), .int (xs (6 * k + 1)), .int (xs (6 * k + 2)), .ref (gA G 324)] (lM C D f) (lM C D f1) kv ∧ D1 0 0 = kv ∧ (kv = nI 0 → f1 0 = bv) := by
    rcases hA with ⟨v, rfl, rfl, h0⟩ | ⟨i, hi, rfl, h0⟩
    · exact ⟨nI 0, _, nL_bay l G hN hR hO h6, h0, fun _ => upd_s _ _ _⟩
    · have hi : i < 2 := hi
      rcases (show i = 0 ∨ i = 1 by omega) with rfl | rfl
      · exact ⟨nI 1, _, tL_bay_0 l hfl G hN hR h6, h0, fun z => absurd z (by decide)⟩
      · exact ⟨nI 2, _, tL_bay_1 l hfl G hN hR h6, h0, fun z => absurd z (by decide)⟩
  have hD := mX7_bay l G (β := 316) (M := lM C D f1) (by omega) hMd h7
  simp only [lM_D] at hD
  refine lv_aload_n hx hb dL_law_622 rfl (lv_at hl 1 rfl) ?_
  refine l_ld (pc := 623) hE hw 1 hl 0 4 rfl rfl (by omega) (by decide) dL_law_623 dL_law_624 dL_law_626 dL_law_627 dL_law_628 ?_
  refine l_ld (pc := 629) hE hw 2 hl 0 4 rfl rfl (by omega) (by decide) dL_law_629 dL_law_630 dL_law_632 dL_law_633 dL_law_634 ?_
  refine lv_aload_n hx hb dL_law_635 rfl (lv_at hl 3 rfl) ?_
  refine l_callS (As := [.ref (gA G 0), .int (xs (6 * k + 1)), .int (xs (6 * k + 2)), .ref (gA G 324)]) (rest := []) hx hb hml hown hts hE1 hNc hw hl hM (vx_cwSW 4 hts (tW gW_L_141) rfl rfl rfl kdL_bay ⟨Nat.le_of_ble_eq_true rfl, Nat.le_of_ble_eq_true rfl⟩) rfl rfl (Nat.le_of_ble_eq_true rfl) dL_law_636 hcr (fun H locs hw => ?_)
  refine lv_istore (lv' := (5, .int kv) :: lB G b k) hx hb dL_law_639 hl (by decide) rfl (fun ls hl => ?_)
  refine lv_aload_n hx hb dL_law_641 rfl (lv_at hl 3 rfl) ?_
  refine l_ld (pc := 642) hE hw 1 hl 1 5 rfl rfl (by omega) (by decide) dL_law_642 dL_law_643 dL_law_645 dL_law_646 dL_law_647 ?_
  refine l_ld (pc := 648) hE hw 2 hl 1 5 rfl rfl (by omega) (by decide) dL_law_648 dL_law_649 dL_law_651 dL_law_652 dL_law_653 ?_
  refine r_callV (As := [.int (xs (6 * k + 1)), .int (xs (6 * k + 2))]) (rest := []) (st1 := [.int bv]) hx hb hml hown hts hE1 hw hl hD (cwV 2 hts (tV gV_L_143) rfl rfl rfl kdX7_bay ⟨Nat.le_of_ble_eq_true rfl, Nat.le_of_ble_eq_true rfl⟩) (by omega) (congrFun hMd.1 _) rfl rfl rfl rfl (Nat.le_of_ble_eq_true rfl) dL_law_654 hcr rfl (fun H locs hw => ?_)
  refine lv_istore (lv' := (6, .int bv) :: (5, .int kv) :: lB G b k) hx hb dL_law_657 hl (by decide) rfl (fun ls hl => ?_)
  exact l_tail (pc := 659) hE K hP h0 hv hw hl (by omega) (by omega) hcr gV_L_110 dL_law_659 dL_law_660 dL_law_663 dL_law_665 dL_law_670 dL_law_672 dL_law_675 dL_law_676 dL_law_677 dL_law_678 dL_law_680 dL_law_681 dL_law_682 dL_law_687 (by decide)
set_option maxHeartbeats 4000000 in
set_option maxRecDepth 100000 in
theorem k_depot (hfl : l.stackTraces = false) (hE : lE p s m args c b L xs G) (K : lK p l e s m args below meth c b k G Q) (hk : 6 * k + 6 ≤ L) (h : PI C D) (hw : mW G s (lM C D f) H locs) (hl : lv_has ls 7 (lB G b k)) (hc : cells ≤ 325 + k) (hs : slots ≤ 10135 + 6 * k) : W p l e room_1 s m args below meth c H locs cells slots Q (F0 m 690 ls []) := by
  obtain ⟨hx, hb, hml, hown, hts, ⟨hE1, hNc⟩, ⟨hN, hR, hMd, hO⟩, hX, hL⟩ := id hE
  have hcr : cells + 1 ≤ room_1.cells ∧ slots + 6 ≤ room_1.slots := ⟨by show _ ≤ 601024; omega, by show _ ≤ 7293034; omega⟩
  obtain ⟨r, bv, D1, h6, h7, hP, hA⟩ := a_depot h (xs (6 * k + 1)) (xs (6 * k + 2))
  obtain ⟨kv, f1, hM, h0, hv⟩ : ∃ (kv : Int32) (f1 : Nat → Int32), ML l G yL_depot (wy yL_depot cL_depot 5 (some .int) [(0, 10, 13, 28), (0, 10, 17, 13)]) [.ref (gA G 0), .int (xs (6 * k + 1)), .int (xs (6 * k + 2)), .ref (gA G 324)] (lM C D f) (lM C D f1) kv ∧ D1 0 0 = kv ∧ (kv = nI 0 → f1 0 = bv) := by
    rcases hA with ⟨v, rfl, rfl, h0⟩ | ⟨i, hi, rfl, h0⟩
    · exact ⟨nI 0, _, nL_depot l G hN hR hO h6, h0, fun _ => upd_s _ _ _⟩
    · have hi : i < 2 := hi
      rcases (show i = 0 ∨ i = 1 by omega) with rfl | rfl
      · exact ⟨nI 1, _, tL_depot_0 l hfl G hN hR h6, h0, fun z => absurd z (by decide)⟩
      · exact ⟨nI 2, _, tL_depot_1 l hfl G hN hR h6, h0, fun z => absurd z (by decide)⟩
  have hD := mX7_depot l G (β := 316) (M := lM C D f1) (by omega) hMd h7
  simp only [lM_D] at hD
  refine lv_aload_n hx hb dL_law_690 rfl (lv_at hl 1 rfl) ?_
  refine l_ld (pc := 691) hE hw 1 hl 0 4 rfl rfl (by omega) (by decide) dL_law_691 dL_law_692 dL_law_694 dL_law_695 dL_law_696 ?_
  refine l_ld (pc := 697) hE hw 2 hl 0 4 rfl rfl (by omega) (by decide) dL_law_697 dL_law_698 dL_law_700 dL_law_701 dL_law_702 ?_
  refine lv_aload_n hx hb dL_law_703 rfl (lv_at hl 3 rfl) ?_
  refine l_callS (As := [.ref (gA G 0), .int (xs (6 * k + 1)), .int (xs (6 * k + 2)), .ref (gA G 324)]) (rest := []) hx hb hml hown hts hE1 hNc hw hl hM (vx_cwSW 4 hts (tW gW_L_144) rfl rfl rfl kdL_depot ⟨Nat.le_of_ble_eq_true rfl, Nat.le_of_ble_eq_true rfl⟩) rfl rfl (Nat.le_of_ble_eq_true rfl) dL_law_704 hcr (fun H locs hw => ?_)
  refine lv_istore (lv' := (5, .int kv) :: lB G b k) hx hb dL_law_707 hl (by decide) rfl (fun ls hl => ?_)
  refine lv_aload_n hx hb dL_law_709 rfl (lv_at hl 3 rfl) ?_
  refine l_ld (pc := 710) hE hw 1 hl 1 5 rfl rfl (by omega) (by decide) dL_law_710 dL_law_711 dL_law_713 dL_law_714 dL_law_715 ?_
  refine l_ld (pc := 716) hE hw 2 hl 1 5 rfl rfl (by omega) (by decide) dL_law_716 dL_law_717 dL_law_719 dL_law_720 dL_law_721 ?_
  refine r_callV (As := [.int (xs (6 * k + 1)), .int (xs (6 * k + 2))]) (rest := []) (st1 := [.int bv]) hx hb hml hown hts hE1 hw hl hD (cwV 2 hts (tV gV_L_146) rfl rfl rfl kdX7_depot ⟨Nat.le_of_ble_eq_true rfl, Nat.le_of_ble_eq_true rfl⟩) (by omega) (congrFun hMd.1 _) rfl rfl rfl rfl (Nat.le_of_ble_eq_true rfl) dL_law_722 hcr rfl (fun H locs hw => ?_)
  refine lv_istore (lv' := (6, .int bv) :: (5, .int kv) :: lB G b k) hx hb dL_law_725 hl (by decide) rfl (fun ls hl => ?_)
  exact l_tail (pc := 727) hE K hP h0 hv hw hl (by omega) (by omega) hcr gV_L_110 dL_law_727 dL_law_728 dL_law_731 dL_law_733 dL_law_738 dL_law_740 dL_law_743 dL_law_744 dL_law_745 dL_law_746 dL_law_748 dL_law_749 dL_law_750 dL_law_755 (by decide)
set_option maxHeartbeats 4000000 in
set_option maxRecDepth 100000 in
theorem k_addGate (hfl : l.stackTraces = false) (hE : lE p s m args c b L xs G) (K : lK p l e s m args below meth c b k G Q) (hk : 6 * k + 6 ≤ L) (h : PI C D) (hw : mW G s (lM C D f) H locs) (hl : lv_has ls 7 (lB G b k)) (hc : cells ≤ 325 + k) (hs : slots ≤ 10135 + 6 * k) : W p l e room_1 s m args below meth c H locs cells slots Q (F0 m 758 ls []) := by
  obtain ⟨hx, hb, hml, hown, hts, ⟨hE1, hNc⟩, ⟨hN, hR, hMd, hO⟩, hX, hL⟩ := id hE
  have hcr : cells + 1 ≤ room_1.cells ∧ slots + 6 ≤ room_1.slots := ⟨by show _ ≤ 601024; omega, by show _ ≤ 7293034; omega⟩
  obtain ⟨r, C1, bv, D1, h6, h7, hP, hA⟩ := a_addGate h (xs (6 * k + 1)) (xs (6 * k + 2)) (xs (6 * k + 3)) (xs (6 * k + 4))
  obtain ⟨kv, f1, hM, h0, hv⟩ : ∃ (kv : Int32) (f1 : Nat → Int32), ML l G yL_addGate (wy yL_addGate cL_addGate 7 (some .int) [(0, 14, 17, 13), (0, 14, 21, 15)]) [.ref (gA G 0), .int (xs (6 * k + 1)), .int (xs (6 * k + 2)), .int (xs (6 * k + 3)), .int (xs (6 * k + 4)), .ref (gA G 324)] (lM C D f) (lM C1 D f1) kv ∧ D1 0 0 = kv ∧ (kv = nI 0 → f1 0 = bv) := by
    rcases hA with ⟨v, rfl, rfl, h0⟩ | ⟨i, hi, rfl, h0⟩
    · exact ⟨nI 0, _, nL_addGate l G hN hR hO h6, h0, fun _ => upd_s _ _ _⟩
    · have hi : i < 2 := hi
      rcases (show i = 0 ∨ i = 1 by omega) with rfl | rfl
      · exact ⟨nI 1, _, tL_addGate_0 l hfl G hN hR h6, h0, fun z => absurd z (by decide)⟩
      · exact ⟨nI 2, _, tL_addGate_1 l hfl G hN hR h6, h0, fun z => absurd z (by decide)⟩
  have hD := mX7_addGate l G (β := 316) (M := lM C1 D f1) (by omega) hMd h7
  simp only [lM_D] at hD
  refine lv_aload_n hx hb dL_law_758 rfl (lv_at hl 1 rfl) ?_
  refine l_ld (pc := 759) hE hw 1 hl 0 4 rfl rfl (by omega) (by decide) dL_law_759 dL_law_760 dL_law_762 dL_law_763 dL_law_764 ?_
  refine l_ld (pc := 765) hE hw 2 hl 0 4 rfl rfl (by omega) (by decide) dL_law_765 dL_law_766 dL_law_768 dL_law_769 dL_law_770 ?_
  refine l_ld (pc := 771) hE hw 3 hl 0 4 rfl rfl (by omega) (by decide) dL_law_771 dL_law_772 dL_law_774 dL_law_775 dL_law_776 ?_
  refine l_ld (pc := 777) hE hw 4 hl 0 4 rfl rfl (by omega) (by decide) dL_law_777 dL_law_778 dL_law_780 dL_law_781 dL_law_782 ?_
  refine lv_aload_n hx hb dL_law_783 rfl (lv_at hl 3 rfl) ?_
  refine l_callS (As := [.ref (gA G 0), .int (xs (6 * k + 1)), .int (xs (6 * k + 2)), .int (xs (6 * k + 3)), .int (xs (6 * k + 4)), .ref (gA G 324)]) (rest := []) hx hb hml hown hts hE1 hNc hw hl hM (vx_cwSW 6 hts (tW gW_L_147) rfl rfl rfl kdL_addGate ⟨Nat.le_of_ble_eq_true rfl, Nat.le_of_ble_eq_true rfl⟩) rfl rfl (Nat.le_of_ble_eq_true rfl) dL_law_784 hcr (fun H locs hw => ?_)
  refine lv_istore (lv' := (5, .int kv) :: lB G b k) hx hb dL_law_787 hl (by decide) rfl (fun ls hl => ?_)
  refine lv_aload_n hx hb dL_law_789 rfl (lv_at hl 3 rfl) ?_
  refine l_ld (pc := 790) hE hw 1 hl 1 5 rfl rfl (by omega) (by decide) dL_law_790 dL_law_791 dL_law_793 dL_law_794 dL_law_795 ?_
  refine l_ld (pc := 796) hE hw 2 hl 1 5 rfl rfl (by omega) (by decide) dL_law_796 dL_law_797 dL_law_799 dL_law_800 dL_law_801 ?_
  refine l_ld (pc := 802) hE hw 3 hl 1 5 rfl rfl (by omega) (by decide) dL_law_802 dL_law_803 dL_law_805 dL_law_806 dL_law_807 ?_
  refine l_ld (pc := 808) hE hw 4 hl 1 5 rfl rfl (by omega) (by decide) dL_law_808 dL_law_809 dL_law_811 dL_law_812 dL_law_813 ?_
  refine r_callV (As := [.int (xs (6 * k + 1)), .int (xs (6 * k + 2)), .int (xs (6 * k + 3)), .int (xs (6 * k + 4))]) (rest := []) (st1 := [.int bv]) hx hb hml hown hts hE1 hw hl hD (cwV 4 hts (tV gV_L_150) rfl rfl rfl kdX7_addGate ⟨Nat.le_of_ble_eq_true rfl, Nat.le_of_ble_eq_true rfl⟩) (by omega) (congrFun hMd.1 _) rfl rfl rfl rfl (Nat.le_of_ble_eq_true rfl) dL_law_814 hcr rfl (fun H locs hw => ?_)
  refine lv_istore (lv' := (6, .int bv) :: (5, .int kv) :: lB G b k) hx hb dL_law_817 hl (by decide) rfl (fun ls hl => ?_)
  exact l_tail (pc := 819) hE K hP h0 hv hw hl (by omega) (by omega) hcr gV_L_110 dL_law_819 dL_law_820 dL_law_823 dL_law_825 dL_law_830 dL_law_832 dL_law_835 dL_law_836 dL_law_837 dL_law_838 dL_law_840 dL_law_841 dL_law_842 dL_law_847 (by decide)
set_option maxHeartbeats 4000000 in
set_option maxRecDepth 100000 in
theorem k_addBay (hfl : l.stackTraces = false) (hE : lE p s m args c b L xs G) (K : lK p l e s m args below meth c b k G Q) (hk : 6 * k + 6 ≤ L) (h : PI C D) (hw : mW G s (lM C D f) H locs) (hl : lv_has ls 7 (lB G b k)) (hc : cells ≤ 325 + k) (hs : slots ≤ 10135 + 6 * k) : W p l e room_1 s m args below meth c H locs cells slots Q (F0 m 850 ls []) := by
  obtain ⟨hx, hb, hml, hown, hts, ⟨hE1, hNc⟩, ⟨hN, hR, hMd, hO⟩, hX, hL⟩ := id hE
  have hcr : cells + 1 ≤ room_1.cells ∧ slots + 6 ≤ room_1.slots := ⟨by show _ ≤ 601024; omega, by show _ ≤ 7293034; omega⟩
  obtain ⟨r, C1, bv, D1, h6, h7, hP, hA⟩ := a_addBay h (xs (6 * k + 1)) (xs (6 * k + 2))
  obtain ⟨kv, f1, hM, h0, hv⟩ : ∃ (kv : Int32) (f1 : Nat → Int32), ML l G yL_addBay (wy yL_addBay cL_addBay 5 (some .int) [(0, 10, 13, 13), (0, 10, 17, 15)]) [.ref (gA G 0), .int (xs (6 * k + 1)), .int (xs (6 * k + 2)), .ref (gA G 324)] (lM C D f) (lM C1 D f1) kv ∧ D1 0 0 = kv ∧ (kv = nI 0 → f1 0 = bv) := by
    rcases hA with ⟨v, rfl, rfl, h0⟩ | ⟨i, hi, rfl, h0⟩
    · exact ⟨nI 0, _, nL_addBay l G hN hR hO h6, h0, fun _ => upd_s _ _ _⟩
    · have hi : i < 2 := hi
      rcases (show i = 0 ∨ i = 1 by omega) with rfl | rfl
      · exact ⟨nI 1, _, tL_addBay_0 l hfl G hN hR h6, h0, fun z => absurd z (by decide)⟩
      · exact ⟨nI 2, _, tL_addBay_1 l hfl G hN hR h6, h0, fun z => absurd z (by decide)⟩
  have hD := mX7_addBay l G (β := 316) (M := lM C1 D f1) (by omega) hMd h7
  simp only [lM_D] at hD
  refine lv_aload_n hx hb dL_law_850 rfl (lv_at hl 1 rfl) ?_
  refine l_ld (pc := 851) hE hw 1 hl 0 4 rfl rfl (by omega) (by decide) dL_law_851 dL_law_852 dL_law_854 dL_law_855 dL_law_856 ?_
  refine l_ld (pc := 857) hE hw 2 hl 0 4 rfl rfl (by omega) (by decide) dL_law_857 dL_law_858 dL_law_860 dL_law_861 dL_law_862 ?_
  refine lv_aload_n hx hb dL_law_863 rfl (lv_at hl 3 rfl) ?_
  refine l_callS (As := [.ref (gA G 0), .int (xs (6 * k + 1)), .int (xs (6 * k + 2)), .ref (gA G 324)]) (rest := []) hx hb hml hown hts hE1 hNc hw hl hM (vx_cwSW 4 hts (tW gW_L_151) rfl rfl rfl kdL_addBay ⟨Nat.le_of_ble_eq_true rfl, Nat.le_of_ble_eq_true rfl⟩) rfl rfl (Nat.le_of_ble_eq_true rfl) dL_law_864 hcr (fun H locs hw => ?_)
  refine lv_istore (lv' := (5, .int kv) :: lB G b k) hx hb dL_law_867 hl (by decide) rfl (fun ls hl => ?_)
  refine lv_aload_n hx hb dL_law_869 rfl (lv_at hl 3 rfl) ?_
  refine l_ld (pc := 870) hE hw 1 hl 1 5 rfl rfl (by omega) (by decide) dL_law_870 dL_law_871 dL_law_873 dL_law_874 dL_law_875 ?_
  refine l_ld (pc := 876) hE hw 2 hl 1 5 rfl rfl (by omega) (by decide) dL_law_876 dL_law_877 dL_law_879 dL_law_880 dL_law_881 ?_
  refine r_callV (As := [.int (xs (6 * k + 1)), .int (xs (6 * k + 2))]) (rest := []) (st1 := [.int bv]) hx hb hml hown hts hE1 hw hl hD (cwV 2 hts (tV gV_L_153) rfl rfl rfl kdX7_addBay ⟨Nat.le_of_ble_eq_true rfl, Nat.le_of_ble_eq_true rfl⟩) (by omega) (congrFun hMd.1 _) rfl rfl rfl rfl (Nat.le_of_ble_eq_true rfl) dL_law_882 hcr rfl (fun H locs hw => ?_)
  refine lv_istore (lv' := (6, .int bv) :: (5, .int kv) :: lB G b k) hx hb dL_law_885 hl (by decide) rfl (fun ls hl => ?_)
  exact l_tail (pc := 887) hE K hP h0 hv hw hl (by omega) (by omega) hcr gV_L_110 dL_law_887 dL_law_888 dL_law_891 dL_law_893 dL_law_898 dL_law_900 dL_law_903 dL_law_904 dL_law_905 dL_law_906 dL_law_908 dL_law_909 dL_law_910 dL_law_915 (by decide)
set_option maxHeartbeats 4000000 in
set_option maxRecDepth 100000 in
theorem k_addDepot (hfl : l.stackTraces = false) (hE : lE p s m args c b L xs G) (K : lK p l e s m args below meth c b k G Q) (hk : 6 * k + 6 ≤ L) (h : PI C D) (hw : mW G s (lM C D f) H locs) (hl : lv_has ls 7 (lB G b k)) (hc : cells ≤ 325 + k) (hs : slots ≤ 10135 + 6 * k) : W p l e room_1 s m args below meth c H locs cells slots Q (F0 m 918 ls []) := by
  obtain ⟨hx, hb, hml, hown, hts, ⟨hE1, hNc⟩, ⟨hN, hR, hMd, hO⟩, hX, hL⟩ := id hE
  have hcr : cells + 1 ≤ room_1.cells ∧ slots + 6 ≤ room_1.slots := ⟨by show _ ≤ 601024; omega, by show _ ≤ 7293034; omega⟩
  obtain ⟨r, C1, bv, D1, h6, h7, hP, hA⟩ := a_addDepot h (xs (6 * k + 1)) (xs (6 * k + 2))
  obtain ⟨kv, f1, hM, h0, hv⟩ : ∃ (kv : Int32) (f1 : Nat → Int32), ML l G yL_addDepot (wy yL_addDepot cL_addDepot 5 (some .int) [(0, 10, 13, 13), (0, 10, 17, 15)]) [.ref (gA G 0), .int (xs (6 * k + 1)), .int (xs (6 * k + 2)), .ref (gA G 324)] (lM C D f) (lM C1 D f1) kv ∧ D1 0 0 = kv ∧ (kv = nI 0 → f1 0 = bv) := by
    rcases hA with ⟨v, rfl, rfl, h0⟩ | ⟨i, hi, rfl, h0⟩
    · exact ⟨nI 0, _, nL_addDepot l G hN hR hO h6, h0, fun _ => upd_s _ _ _⟩
    · have hi : i < 2 := hi
      rcases (show i = 0 ∨ i = 1 by omega) with rfl | rfl
      · exact ⟨nI 1, _, tL_addDepot_0 l hfl G hN hR h6, h0, fun z => absurd z (by decide)⟩
      · exact ⟨nI 2, _, tL_addDepot_1 l hfl G hN hR h6, h0, fun z => absurd z (by decide)⟩
  have hD := mX7_addDepot l G (β := 316) (M := lM C1 D f1) (by omega) hMd h7
  simp only [lM_D] at hD
  refine lv_aload_n hx hb dL_law_918 rfl (lv_at hl 1 rfl) ?_
  refine l_ld (pc := 919) hE hw 1 hl 0 4 rfl rfl (by omega) (by decide) dL_law_919 dL_law_920 dL_law_922 dL_law_923 dL_law_924 ?_
  refine l_ld (pc := 925) hE hw 2 hl 0 4 rfl rfl (by omega) (by decide) dL_law_925 dL_law_926 dL_law_928 dL_law_929 dL_law_930 ?_
  refine lv_aload_n hx hb dL_law_931 rfl (lv_at hl 3 rfl) ?_
  refine l_callS (As := [.ref (gA G 0), .int (xs (6 * k + 1)), .int (xs (6 * k + 2)), .ref (gA G 324)]) (rest := []) hx hb hml hown hts hE1 hNc hw hl hM (vx_cwSW 4 hts (tW gW_L_154) rfl rfl rfl kdL_addDepot ⟨Nat.le_of_ble_eq_true rfl, Nat.le_of_ble_eq_true rfl⟩) rfl rfl (Nat.le_of_ble_eq_true rfl) dL_law_932 hcr (fun H locs hw => ?_)
  refine lv_istore (lv' := (5, .int kv) :: lB G b k) hx hb dL_law_935 hl (by decide) rfl (fun ls hl => ?_)
  refine lv_aload_n hx hb dL_law_937 rfl (lv_at hl 3 rfl) ?_
  refine l_ld (pc := 938) hE hw 1 hl 1 5 rfl rfl (by omega) (by decide) dL_law_938 dL_law_939 dL_law_941 dL_law_942 dL_law_943 ?_
  refine l_ld (pc := 944) hE hw 2 hl 1 5 rfl rfl (by omega) (by decide) dL_law_944 dL_law_945 dL_law_947 dL_law_948 dL_law_949 ?_
  refine r_callV (As := [.int (xs (6 * k + 1)), .int (xs (6 * k + 2))]) (rest := []) (st1 := [.int bv]) hx hb hml hown hts hE1 hw hl hD (cwV 2 hts (tV gV_L_156) rfl rfl rfl kdX7_addDepot ⟨Nat.le_of_ble_eq_true rfl, Nat.le_of_ble_eq_true rfl⟩) (by omega) (congrFun hMd.1 _) rfl rfl rfl rfl (Nat.le_of_ble_eq_true rfl) dL_law_950 hcr rfl (fun H locs hw => ?_)
  refine lv_istore (lv' := (6, .int bv) :: (5, .int kv) :: lB G b k) hx hb dL_law_953 hl (by decide) rfl (fun ls hl => ?_)
  exact l_tail (pc := 955) hE K hP h0 hv hw hl (by omega) (by omega) hcr gV_L_110 dL_law_955 dL_law_956 dL_law_959 dL_law_961 dL_law_966 dL_law_968 dL_law_971 dL_law_972 dL_law_973 dL_law_974 dL_law_976 dL_law_977 dL_law_978 dL_law_983 (by decide)
set_option maxHeartbeats 4000000 in
set_option maxRecDepth 100000 in
theorem k_addConvoy (hfl : l.stackTraces = false) (hE : lE p s m args c b L xs G) (K : lK p l e s m args below meth c b k G Q) (hk : 6 * k + 6 ≤ L) (h : PI C D) (hw : mW G s (lM C D f) H locs) (hl : lv_has ls 7 (lB G b k)) (hc : cells ≤ 325 + k) (hs : slots ≤ 10135 + 6 * k) : W p l e room_1 s m args below meth c H locs cells slots Q (F0 m 986 ls []) := by
  obtain ⟨hx, hb, hml, hown, hts, ⟨hE1, hNc⟩, ⟨hN, hR, hMd, hO⟩, hX, hL⟩ := id hE
  have hcr : cells + 1 ≤ room_1.cells ∧ slots + 6 ≤ room_1.slots := ⟨by show _ ≤ 601024; omega, by show _ ≤ 7293034; omega⟩
  obtain ⟨r, C1, bv, D1, h6, h7, hP, hA⟩ := a_addConvoy h 
  obtain ⟨kv, f1, hM, h0, hv⟩ : ∃ (kv : Int32) (f1 : Nat → Int32), ML l G yL_addConvoy (wy yL_addConvoy cL_addConvoy 3 (some .int) [(0, 8, 11, 15)]) [.ref (gA G 0), .ref (gA G 324)] (lM C D f) (lM C1 D f1) kv ∧ D1 0 0 = kv ∧ (kv = nI 0 → f1 0 = bv) := by
    rcases hA with ⟨v, rfl, rfl, h0⟩ | ⟨i, hi, rfl, h0⟩
    · exact ⟨nI 0, _, nL_addConvoy l G hN hR hO h6, h0, fun _ => upd_s _ _ _⟩
    · have hi : i < 1 := hi
      obtain rfl : i = 0 := by omega
      exact ⟨nI 1, _, tL_addConvoy_0 l hfl G hN hR h6, h0, fun z => absurd z (by decide)⟩
  have hD := mX7_addConvoy l G (β := 316) (M := lM C1 D f1) (by omega) hMd h7
  simp only [lM_D] at hD
  refine lv_aload_n hx hb dL_law_986 rfl (lv_at hl 1 rfl) ?_
  refine lv_aload_n hx hb dL_law_987 rfl (lv_at hl 3 rfl) ?_
  refine l_callS (As := [.ref (gA G 0), .ref (gA G 324)]) (rest := []) hx hb hml hown hts hE1 hNc hw hl hM (vx_cwSW 2 hts (tW gW_L_157) rfl rfl rfl kdL_addConvoy ⟨Nat.le_of_ble_eq_true rfl, Nat.le_of_ble_eq_true rfl⟩) rfl rfl (Nat.le_of_ble_eq_true rfl) dL_law_988 hcr (fun H locs hw => ?_)
  refine lv_istore (lv' := (5, .int kv) :: lB G b k) hx hb dL_law_991 hl (by decide) rfl (fun ls hl => ?_)
  refine lv_aload_n hx hb dL_law_993 rfl (lv_at hl 3 rfl) ?_
  refine r_callV (As := []) (rest := []) (st1 := [.int bv]) hx hb hml hown hts hE1 hw hl hD (cwV 0 hts (tV gV_L_159) rfl rfl rfl kdX7_addConvoy ⟨Nat.le_of_ble_eq_true rfl, Nat.le_of_ble_eq_true rfl⟩) (by omega) (congrFun hMd.1 _) rfl rfl rfl rfl (Nat.le_of_ble_eq_true rfl) dL_law_994 hcr rfl (fun H locs hw => ?_)
  refine lv_istore (lv' := (6, .int bv) :: (5, .int kv) :: lB G b k) hx hb dL_law_997 hl (by decide) rfl (fun ls hl => ?_)
  exact l_tail (pc := 999) hE K hP h0 hv hw hl (by omega) (by omega) hcr gV_L_110 dL_law_999 dL_law_1000 dL_law_1003 dL_law_1005 dL_law_1010 dL_law_1012 dL_law_1015 dL_law_1016 dL_law_1017 dL_law_1018 dL_law_1020 dL_law_1021 dL_law_1022 dL_law_1027 (by decide)
set_option maxHeartbeats 4000000 in
set_option maxRecDepth 100000 in
theorem k_addVehicle (hfl : l.stackTraces = false) (hE : lE p s m args c b L xs G) (K : lK p l e s m args below meth c b k G Q) (hk : 6 * k + 6 ≤ L) (h : PI C D) (hw : mW G s (lM C D f) H locs) (hl : lv_has ls 7 (lB G b k)) (hc : cells ≤ 325 + k) (hs : slots ≤ 10135 + 6 * k) : W p l e room_1 s m args below meth c H locs cells slots Q (F0 m 1030 ls []) := by
  obtain ⟨hx, hb, hml, hown, hts, ⟨hE1, hNc⟩, ⟨hN, hR, hMd, hO⟩, hX, hL⟩ := id hE
  have hcr : cells + 1 ≤ room_1.cells ∧ slots + 6 ≤ room_1.slots := ⟨by show _ ≤ 601024; omega, by show _ ≤ 7293034; omega⟩
  obtain ⟨r, C1, bv, D1, h6, h7, hP, hA⟩ := a_addVehicle h (xs (6 * k + 1)) (xs (6 * k + 2)) (xs (6 * k + 3)) (xs (6 * k + 4)) (xs (6 * k + 5))
  obtain ⟨kv, f1, hM, h0, hv⟩ : ∃ (kv : Int32) (f1 : Nat → Int32), ML l G yL_addVehicle (wy yL_addVehicle cL_addVehicle 8 (some .int) [(0, 16, 19, 28), (0, 16, 23, 13), (0, 16, 27, 15)]) [.ref (gA G 0), .int (xs (6 * k + 1)), .int (xs (6 * k + 2)), .int (xs (6 * k + 3)), .int (xs (6 * k + 4)), .int (xs (6 * k + 5)), .ref (gA G 324)] (lM C D f) (lM C1 D f1) kv ∧ D1 0 0 = kv ∧ (kv = nI 0 → f1 0 = bv) := by
    rcases hA with ⟨v, rfl, rfl, h0⟩ | ⟨i, hi, rfl, h0⟩
    · exact ⟨nI 0, _, nL_addVehicle l G hN hR hO h6, h0, fun _ => upd_s _ _ _⟩
    · have hi : i < 3 := hi
      rcases (show i = 0 ∨ i = 1 ∨ i = 2 by omega) with rfl | rfl | rfl
      · exact ⟨nI 1, _, tL_addVehicle_0 l hfl G hN hR h6, h0, fun z => absurd z (by decide)⟩
      · exact ⟨nI 2, _, tL_addVehicle_1 l hfl G hN hR h6, h0, fun z => absurd z (by decide)⟩
      · exact ⟨nI 3, _, tL_addVehicle_2 l hfl G hN hR h6, h0, fun z => absurd z (by decide)⟩
  have hD := mX7_addVehicle l G (β := 316) (M := lM C1 D f1) (by omega) hMd h7
  simp only [lM_D] at hD
  refine lv_aload_n hx hb dL_law_1030 rfl (lv_at hl 1 rfl) ?_
  refine l_ld (pc := 1031) hE hw 1 hl 0 4 rfl rfl (by omega) (by decide) dL_law_1031 dL_law_1032 dL_law_1034 dL_law_1035 dL_law_1036 ?_
  refine l_ld (pc := 1037) hE hw 2 hl 0 4 rfl rfl (by omega) (by decide) dL_law_1037 dL_law_1038 dL_law_1040 dL_law_1041 dL_law_1042 ?_
  refine l_ld (pc := 1043) hE hw 3 hl 0 4 rfl rfl (by omega) (by decide) dL_law_1043 dL_law_1044 dL_law_1046 dL_law_1047 dL_law_1048 ?_
  refine l_ld (pc := 1049) hE hw 4 hl 0 4 rfl rfl (by omega) (by decide) dL_law_1049 dL_law_1050 dL_law_1052 dL_law_1053 dL_law_1054 ?_
  refine l_ld (pc := 1055) hE hw 5 hl 0 4 rfl rfl (by omega) (by decide) dL_law_1055 dL_law_1056 dL_law_1058 dL_law_1059 dL_law_1060 ?_
  refine lv_aload_n hx hb dL_law_1061 rfl (lv_at hl 3 rfl) ?_
  refine l_callS (As := [.ref (gA G 0), .int (xs (6 * k + 1)), .int (xs (6 * k + 2)), .int (xs (6 * k + 3)), .int (xs (6 * k + 4)), .int (xs (6 * k + 5)), .ref (gA G 324)]) (rest := []) hx hb hml hown hts hE1 hNc hw hl hM (vx_cwSW 7 hts (tW gW_L_160) rfl rfl rfl kdL_addVehicle ⟨Nat.le_of_ble_eq_true rfl, Nat.le_of_ble_eq_true rfl⟩) rfl rfl (Nat.le_of_ble_eq_true rfl) dL_law_1062 hcr (fun H locs hw => ?_)
  refine lv_istore (lv' := (5, .int kv) :: lB G b k) hx hb dL_law_1065 hl (by decide) rfl (fun ls hl => ?_)
  refine lv_aload_n hx hb dL_law_1067 rfl (lv_at hl 3 rfl) ?_
  refine l_ld (pc := 1068) hE hw 1 hl 1 5 rfl rfl (by omega) (by decide) dL_law_1068 dL_law_1069 dL_law_1071 dL_law_1072 dL_law_1073 ?_
  refine l_ld (pc := 1074) hE hw 2 hl 1 5 rfl rfl (by omega) (by decide) dL_law_1074 dL_law_1075 dL_law_1077 dL_law_1078 dL_law_1079 ?_
  refine l_ld (pc := 1080) hE hw 3 hl 1 5 rfl rfl (by omega) (by decide) dL_law_1080 dL_law_1081 dL_law_1083 dL_law_1084 dL_law_1085 ?_
  refine l_ld (pc := 1086) hE hw 4 hl 1 5 rfl rfl (by omega) (by decide) dL_law_1086 dL_law_1087 dL_law_1089 dL_law_1090 dL_law_1091 ?_
  refine l_ld (pc := 1092) hE hw 5 hl 1 5 rfl rfl (by omega) (by decide) dL_law_1092 dL_law_1093 dL_law_1095 dL_law_1096 dL_law_1097 ?_
  refine r_callV (As := [.int (xs (6 * k + 1)), .int (xs (6 * k + 2)), .int (xs (6 * k + 3)), .int (xs (6 * k + 4)), .int (xs (6 * k + 5))]) (rest := []) (st1 := [.int bv]) hx hb hml hown hts hE1 hw hl hD (cwV 5 hts (tV gV_L_163) rfl rfl rfl kdX7_addVehicle ⟨Nat.le_of_ble_eq_true rfl, Nat.le_of_ble_eq_true rfl⟩) (by omega) (congrFun hMd.1 _) rfl rfl rfl rfl (Nat.le_of_ble_eq_true rfl) dL_law_1098 hcr rfl (fun H locs hw => ?_)
  refine lv_istore (lv' := (6, .int bv) :: (5, .int kv) :: lB G b k) hx hb dL_law_1101 hl (by decide) rfl (fun ls hl => ?_)
  exact l_tail (pc := 1103) hE K hP h0 hv hw hl (by omega) (by omega) hcr gV_L_110 dL_law_1103 dL_law_1104 dL_law_1107 dL_law_1109 dL_law_1114 dL_law_1116 dL_law_1119 dL_law_1120 dL_law_1121 dL_law_1122 dL_law_1124 dL_law_1125 dL_law_1126 dL_law_1131 (by decide)
set_option maxHeartbeats 4000000 in
set_option maxRecDepth 100000 in
theorem k_hold (hfl : l.stackTraces = false) (hE : lE p s m args c b L xs G) (K : lK p l e s m args below meth c b k G Q) (hk : 6 * k + 6 ≤ L) (h : PI C D) (hw : mW G s (lM C D f) H locs) (hl : lv_has ls 7 (lB G b k)) (hc : cells ≤ 325 + k) (hs : slots ≤ 10135 + 6 * k) : W p l e room_1 s m args below meth c H locs cells slots Q (F0 m 1134 ls []) := by
  obtain ⟨hx, hb, hml, hown, hts, ⟨hE1, hNc⟩, ⟨hN, hR, hMd, hO⟩, hX, hL⟩ := id hE
  have hcr : cells + 1 ≤ room_1.cells ∧ slots + 6 ≤ room_1.slots := ⟨by show _ ≤ 601024; omega, by show _ ≤ 7293034; omega⟩
  obtain ⟨r, C1, bv, D1, h6, h7, hP, hA⟩ := a_hold h (xs (6 * k + 1)) (xs (6 * k + 2))
  obtain ⟨kv, f1, hM, h0, hv⟩ : ∃ (kv : Int32) (f1 : Nat → Int32), ML l G yL_hold (wy yL_hold cL_hold 5 (some .int) [(0, 10, 13, 28), (0, 10, 17, 13)]) [.ref (gA G 0), .int (xs (6 * k + 1)), .int (xs (6 * k + 2)), .ref (gA G 324)] (lM C D f) (lM C1 D f1) kv ∧ D1 0 0 = kv ∧ (kv = nI 0 → f1 0 = bv) := by
    rcases hA with ⟨v, rfl, rfl, h0⟩ | ⟨i, hi, rfl, h0⟩
    · exact ⟨nI 0, _, nL_hold l G hN hR hO h6, h0, fun _ => upd_s _ _ _⟩
    · have hi : i < 2 := hi
      rcases (show i = 0 ∨ i = 1 by omega) with rfl | rfl
      · exact ⟨nI 1, _, tL_hold_0 l hfl G hN hR h6, h0, fun z => absurd z (by decide)⟩
      · exact ⟨nI 2, _, tL_hold_1 l hfl G hN hR h6, h0, fun z => absurd z (by decide)⟩
  have hD := mX7_hold l G (β := 316) (M := lM C1 D f1) (by omega) hMd h7
  simp only [lM_D] at hD
  refine lv_aload_n hx hb dL_law_1134 rfl (lv_at hl 1 rfl) ?_
  refine l_ld (pc := 1135) hE hw 1 hl 0 4 rfl rfl (by omega) (by decide) dL_law_1135 dL_law_1136 dL_law_1138 dL_law_1139 dL_law_1140 ?_
  refine l_ld (pc := 1141) hE hw 2 hl 0 4 rfl rfl (by omega) (by decide) dL_law_1141 dL_law_1142 dL_law_1144 dL_law_1145 dL_law_1146 ?_
  refine lv_aload_n hx hb dL_law_1147 rfl (lv_at hl 3 rfl) ?_
  refine l_callS (As := [.ref (gA G 0), .int (xs (6 * k + 1)), .int (xs (6 * k + 2)), .ref (gA G 324)]) (rest := []) hx hb hml hown hts hE1 hNc hw hl hM (vx_cwSW 4 hts (tW gW_L_164) rfl rfl rfl kdL_hold ⟨Nat.le_of_ble_eq_true rfl, Nat.le_of_ble_eq_true rfl⟩) rfl rfl (Nat.le_of_ble_eq_true rfl) dL_law_1148 hcr (fun H locs hw => ?_)
  refine lv_istore (lv' := (5, .int kv) :: lB G b k) hx hb dL_law_1151 hl (by decide) rfl (fun ls hl => ?_)
  refine lv_aload_n hx hb dL_law_1153 rfl (lv_at hl 3 rfl) ?_
  refine l_ld (pc := 1154) hE hw 1 hl 1 5 rfl rfl (by omega) (by decide) dL_law_1154 dL_law_1155 dL_law_1157 dL_law_1158 dL_law_1159 ?_
  refine l_ld (pc := 1160) hE hw 2 hl 1 5 rfl rfl (by omega) (by decide) dL_law_1160 dL_law_1161 dL_law_1163 dL_law_1164 dL_law_1165 ?_
  refine r_callV (As := [.int (xs (6 * k + 1)), .int (xs (6 * k + 2))]) (rest := []) (st1 := [.int bv]) hx hb hml hown hts hE1 hw hl hD (cwV 2 hts (tV gV_L_166) rfl rfl rfl kdX7_hold ⟨Nat.le_of_ble_eq_true rfl, Nat.le_of_ble_eq_true rfl⟩) (by omega) (congrFun hMd.1 _) rfl rfl rfl rfl (Nat.le_of_ble_eq_true rfl) dL_law_1166 hcr rfl (fun H locs hw => ?_)
  refine lv_istore (lv' := (6, .int bv) :: (5, .int kv) :: lB G b k) hx hb dL_law_1169 hl (by decide) rfl (fun ls hl => ?_)
  exact l_tail (pc := 1171) hE K hP h0 hv hw hl (by omega) (by omega) hcr gV_L_110 dL_law_1171 dL_law_1172 dL_law_1175 dL_law_1177 dL_law_1182 dL_law_1184 dL_law_1187 dL_law_1188 dL_law_1189 dL_law_1190 dL_law_1192 dL_law_1193 dL_law_1194 dL_law_1199 (by decide)
set_option maxHeartbeats 4000000 in
set_option maxRecDepth 100000 in
theorem k_supply (hfl : l.stackTraces = false) (hE : lE p s m args c b L xs G) (K : lK p l e s m args below meth c b k G Q) (hk : 6 * k + 6 ≤ L) (h : PI C D) (hw : mW G s (lM C D f) H locs) (hl : lv_has ls 7 (lB G b k)) (hc : cells ≤ 325 + k) (hs : slots ≤ 10135 + 6 * k) : W p l e room_1 s m args below meth c H locs cells slots Q (F0 m 1202 ls []) := by
  obtain ⟨hx, hb, hml, hown, hts, ⟨hE1, hNc⟩, ⟨hN, hR, hMd, hO⟩, hX, hL⟩ := id hE
  have hcr : cells + 1 ≤ room_1.cells ∧ slots + 6 ≤ room_1.slots := ⟨by show _ ≤ 601024; omega, by show _ ≤ 7293034; omega⟩
  obtain ⟨r, C1, bv, D1, h6, h7, hP, hA⟩ := a_supply h (xs (6 * k + 1)) (xs (6 * k + 2))
  obtain ⟨kv, f1, hM, h0, hv⟩ : ∃ (kv : Int32) (f1 : Nat → Int32), ML l G yL_supply (wy yL_supply cL_supply 5 (some .int) [(0, 10, 13, 28), (0, 10, 17, 13), (0, 10, 21, 15)]) [.ref (gA G 0), .int (xs (6 * k + 1)), .int (xs (6 * k + 2)), .ref (gA G 324)] (lM C D f) (lM C1 D f1) kv ∧ D1 0 0 = kv ∧ (kv = nI 0 → f1 0 = bv) := by
    rcases hA with ⟨v, rfl, rfl, h0⟩ | ⟨i, hi, rfl, h0⟩
    · exact ⟨nI 0, _, nL_supply l G hN hR hO h6, h0, fun _ => upd_s _ _ _⟩
    · have hi : i < 3 := hi
      rcases (show i = 0 ∨ i = 1 ∨ i = 2 by omega) with rfl | rfl | rfl
      · exact ⟨nI 1, _, tL_supply_0 l hfl G hN hR h6, h0, fun z => absurd z (by decide)⟩
      · exact ⟨nI 2, _, tL_supply_1 l hfl G hN hR h6, h0, fun z => absurd z (by decide)⟩
      · exact ⟨nI 3, _, tL_supply_2 l hfl G hN hR h6, h0, fun z => absurd z (by decide)⟩
  have hD := mX7_supply l G (β := 316) (M := lM C1 D f1) (by omega) hMd h7
  simp only [lM_D] at hD
  refine lv_aload_n hx hb dL_law_1202 rfl (lv_at hl 1 rfl) ?_
  refine l_ld (pc := 1203) hE hw 1 hl 0 4 rfl rfl (by omega) (by decide) dL_law_1203 dL_law_1204 dL_law_1206 dL_law_1207 dL_law_1208 ?_
  refine l_ld (pc := 1209) hE hw 2 hl 0 4 rfl rfl (by omega) (by decide) dL_law_1209 dL_law_1210 dL_law_1212 dL_law_1213 dL_law_1214 ?_
  refine lv_aload_n hx hb dL_law_1215 rfl (lv_at hl 3 rfl) ?_
  refine l_callS (As := [.ref (gA G 0), .int (xs (6 * k + 1)), .int (xs (6 * k + 2)), .ref (gA G 324)]) (rest := []) hx hb hml hown hts hE1 hNc hw hl hM (vx_cwSW 4 hts (tW gW_L_167) rfl rfl rfl kdL_supply ⟨Nat.le_of_ble_eq_true rfl, Nat.le_of_ble_eq_true rfl⟩) rfl rfl (Nat.le_of_ble_eq_true rfl) dL_law_1216 hcr (fun H locs hw => ?_)
  refine lv_istore (lv' := (5, .int kv) :: lB G b k) hx hb dL_law_1219 hl (by decide) rfl (fun ls hl => ?_)
  refine lv_aload_n hx hb dL_law_1221 rfl (lv_at hl 3 rfl) ?_
  refine l_ld (pc := 1222) hE hw 1 hl 1 5 rfl rfl (by omega) (by decide) dL_law_1222 dL_law_1223 dL_law_1225 dL_law_1226 dL_law_1227 ?_
  refine l_ld (pc := 1228) hE hw 2 hl 1 5 rfl rfl (by omega) (by decide) dL_law_1228 dL_law_1229 dL_law_1231 dL_law_1232 dL_law_1233 ?_
  refine r_callV (As := [.int (xs (6 * k + 1)), .int (xs (6 * k + 2))]) (rest := []) (st1 := [.int bv]) hx hb hml hown hts hE1 hw hl hD (cwV 2 hts (tV gV_L_169) rfl rfl rfl kdX7_supply ⟨Nat.le_of_ble_eq_true rfl, Nat.le_of_ble_eq_true rfl⟩) (by omega) (congrFun hMd.1 _) rfl rfl rfl rfl (Nat.le_of_ble_eq_true rfl) dL_law_1234 hcr rfl (fun H locs hw => ?_)
  refine lv_istore (lv' := (6, .int bv) :: (5, .int kv) :: lB G b k) hx hb dL_law_1237 hl (by decide) rfl (fun ls hl => ?_)
  exact l_tail (pc := 1239) hE K hP h0 hv hw hl (by omega) (by omega) hcr gV_L_110 dL_law_1239 dL_law_1240 dL_law_1243 dL_law_1245 dL_law_1250 dL_law_1252 dL_law_1255 dL_law_1256 dL_law_1257 dL_law_1258 dL_law_1260 dL_law_1261 dL_law_1262 dL_law_1267 (by decide)
set_option maxHeartbeats 4000000 in
set_option maxRecDepth 100000 in
theorem k_pass (hfl : l.stackTraces = false) (hE : lE p s m args c b L xs G) (K : lK p l e s m args below meth c b k G Q) (hk : 6 * k + 6 ≤ L) (h : PI C D) (hw : mW G s (lM C D f) H locs) (hl : lv_has ls 7 (lB G b k)) (hc : cells ≤ 325 + k) (hs : slots ≤ 10135 + 6 * k) : W p l e room_1 s m args below meth c H locs cells slots Q (F0 m 1270 ls []) := by
  obtain ⟨hx, hb, hml, hown, hts, ⟨hE1, hNc⟩, ⟨hN, hR, hMd, hO⟩, hX, hL⟩ := id hE
  have hcr : cells + 1 ≤ room_1.cells ∧ slots + 6 ≤ room_1.slots := ⟨by show _ ≤ 601024; omega, by show _ ≤ 7293034; omega⟩
  obtain ⟨r, C1, bv, D1, h6, h7, hP, hA⟩ := a_pass h (xs (6 * k + 1))
  obtain ⟨kv, f1, hM, h0, hv⟩ : ∃ (kv : Int32) (f1 : Nat → Int32), ML l G yL_pass (wy yL_pass cL_pass 4 (some .int) [(0, 9, 12, 13)]) [.ref (gA G 0), .int (xs (6 * k + 1)), .ref (gA G 324)] (lM C D f) (lM C1 D f1) kv ∧ D1 0 0 = kv ∧ (kv = nI 0 → f1 0 = bv) := by
    rcases hA with ⟨v, rfl, rfl, h0⟩ | ⟨i, hi, rfl, h0⟩
    · exact ⟨nI 0, _, nL_pass l G hN hR hO h6, h0, fun _ => upd_s _ _ _⟩
    · have hi : i < 1 := hi
      obtain rfl : i = 0 := by omega
      exact ⟨nI 1, _, tL_pass_0 l hfl G hN hR h6, h0, fun z => absurd z (by decide)⟩
  have hD := mX7_pass l G (β := 316) (M := lM C1 D f1) (by omega) hMd h7
  simp only [lM_D] at hD
  refine lv_aload_n hx hb dL_law_1270 rfl (lv_at hl 1 rfl) ?_
  refine l_ld (pc := 1271) hE hw 1 hl 0 4 rfl rfl (by omega) (by decide) dL_law_1271 dL_law_1272 dL_law_1274 dL_law_1275 dL_law_1276 ?_
  refine lv_aload_n hx hb dL_law_1277 rfl (lv_at hl 3 rfl) ?_
  refine l_callS (As := [.ref (gA G 0), .int (xs (6 * k + 1)), .ref (gA G 324)]) (rest := []) hx hb hml hown hts hE1 hNc hw hl hM (vx_cwSW 3 hts (tW gW_L_170) rfl rfl rfl kdL_pass ⟨Nat.le_of_ble_eq_true rfl, Nat.le_of_ble_eq_true rfl⟩) rfl rfl (Nat.le_of_ble_eq_true rfl) dL_law_1278 hcr (fun H locs hw => ?_)
  refine lv_istore (lv' := (5, .int kv) :: lB G b k) hx hb dL_law_1281 hl (by decide) rfl (fun ls hl => ?_)
  refine lv_aload_n hx hb dL_law_1283 rfl (lv_at hl 3 rfl) ?_
  refine l_ld (pc := 1284) hE hw 1 hl 1 5 rfl rfl (by omega) (by decide) dL_law_1284 dL_law_1285 dL_law_1287 dL_law_1288 dL_law_1289 ?_
  refine r_callV (As := [.int (xs (6 * k + 1))]) (rest := []) (st1 := [.int bv]) hx hb hml hown hts hE1 hw hl hD (cwV 1 hts (tV gV_L_172) rfl rfl rfl kdX7_pass ⟨Nat.le_of_ble_eq_true rfl, Nat.le_of_ble_eq_true rfl⟩) (by omega) (congrFun hMd.1 _) rfl rfl rfl rfl (Nat.le_of_ble_eq_true rfl) dL_law_1290 hcr rfl (fun H locs hw => ?_)
  refine lv_istore (lv' := (6, .int bv) :: (5, .int kv) :: lB G b k) hx hb dL_law_1293 hl (by decide) rfl (fun ls hl => ?_)
  exact l_tail (pc := 1295) hE K hP h0 hv hw hl (by omega) (by omega) hcr gV_L_110 dL_law_1295 dL_law_1296 dL_law_1299 dL_law_1301 dL_law_1306 dL_law_1308 dL_law_1311 dL_law_1312 dL_law_1313 dL_law_1314 dL_law_1316 dL_law_1317 dL_law_1318 dL_law_1323 (by decide)
set_option maxHeartbeats 4000000 in
set_option maxRecDepth 100000 in
theorem k_undo (hfl : l.stackTraces = false) (hE : lE p s m args c b L xs G) (K : lK p l e s m args below meth c b k G Q) (hk : 6 * k + 6 ≤ L) (h : PI C D) (hw : mW G s (lM C D f) H locs) (hl : lv_has ls 7 (lB G b k)) (hc : cells ≤ 325 + k) (hs : slots ≤ 10135 + 6 * k) : W p l e room_1 s m args below meth c H locs cells slots Q (F0 m 1326 ls []) := by
  obtain ⟨hx, hb, hml, hown, hts, ⟨hE1, hNc⟩, ⟨hN, hR, hMd, hO⟩, hX, hL⟩ := id hE
  have hcr : cells + 1 ≤ room_1.cells ∧ slots + 6 ≤ room_1.slots := ⟨by show _ ≤ 601024; omega, by show _ ≤ 7293034; omega⟩
  obtain ⟨r, C1, bv, D1, h6, h7, hP, hA⟩ := a_undo h 
  obtain ⟨kv, f1, hM, h0, hv⟩ : ∃ (kv : Int32) (f1 : Nat → Int32), ML l G yL_undo (wy yL_undo cL_undo 3 (some .int) [(0, 8, 11, 15)]) [.ref (gA G 0), .ref (gA G 324)] (lM C D f) (lM C1 D f1) kv ∧ D1 0 0 = kv ∧ (kv = nI 0 → f1 0 = bv) := by
    rcases hA with ⟨v, rfl, rfl, h0⟩ | ⟨i, hi, rfl, h0⟩
    · exact ⟨nI 0, _, nL_undo l G hN hR hO h6, h0, fun _ => upd_s _ _ _⟩
    · have hi : i < 1 := hi
      obtain rfl : i = 0 := by omega
      exact ⟨nI 1, _, tL_undo_0 l hfl G hN hR h6, h0, fun z => absurd z (by decide)⟩
  have hD := mX7_undo l G (β := 316) (M := lM C1 D f1) (by omega) hMd h7
  simp only [lM_D] at hD
  refine lv_aload_n hx hb dL_law_1326 rfl (lv_at hl 1 rfl) ?_
  refine lv_aload_n hx hb dL_law_1327 rfl (lv_at hl 3 rfl) ?_
  refine l_callS (As := [.ref (gA G 0), .ref (gA G 324)]) (rest := []) hx hb hml hown hts hE1 hNc hw hl hM (vx_cwSW 2 hts (tW gW_L_173) rfl rfl rfl kdL_undo ⟨Nat.le_of_ble_eq_true rfl, Nat.le_of_ble_eq_true rfl⟩) rfl rfl (Nat.le_of_ble_eq_true rfl) dL_law_1328 hcr (fun H locs hw => ?_)
  refine lv_istore (lv' := (5, .int kv) :: lB G b k) hx hb dL_law_1331 hl (by decide) rfl (fun ls hl => ?_)
  refine lv_aload_n hx hb dL_law_1333 rfl (lv_at hl 3 rfl) ?_
  refine r_callV (As := []) (rest := []) (st1 := [.int bv]) hx hb hml hown hts hE1 hw hl hD (cwV 0 hts (tV gV_L_175) rfl rfl rfl kdX7_undo ⟨Nat.le_of_ble_eq_true rfl, Nat.le_of_ble_eq_true rfl⟩) (by omega) (congrFun hMd.1 _) rfl rfl rfl rfl (Nat.le_of_ble_eq_true rfl) dL_law_1334 hcr rfl (fun H locs hw => ?_)
  refine lv_istore (lv' := (6, .int bv) :: (5, .int kv) :: lB G b k) hx hb dL_law_1337 hl (by decide) rfl (fun ls hl => ?_)
  exact l_tail (pc := 1339) hE K hP h0 hv hw hl (by omega) (by omega) hcr gV_L_110 dL_law_1339 dL_law_1340 dL_law_1343 dL_law_1345 dL_law_1350 dL_law_1352 dL_law_1355 dL_law_1356 dL_law_1357 dL_law_1358 dL_law_1360 dL_law_1361 dL_law_1362 dL_law_1367 (by decide)
set_option maxHeartbeats 4000000 in
set_option maxRecDepth 100000 in
theorem k_arrives (hfl : l.stackTraces = false) (hE : lE p s m args c b L xs G) (K : lK p l e s m args below meth c b k G Q) (hk : 6 * k + 6 ≤ L) (h : PI C D) (hw : mW G s (lM C D f) H locs) (hl : lv_has ls 7 (lB G b k)) (hc : cells ≤ 325 + k) (hs : slots ≤ 10135 + 6 * k) : W p l e room_1 s m args below meth c H locs cells slots Q (F0 m 1370 ls []) := by
  obtain ⟨hx, hb, hml, hown, hts, ⟨hE1, hNc⟩, ⟨hN, hR, hMd, hO⟩, hX, hL⟩ := id hE
  have hcr : cells + 1 ≤ room_1.cells ∧ slots + 6 ≤ room_1.slots := ⟨by show _ ≤ 601024; omega, by show _ ≤ 7293034; omega⟩
  obtain ⟨r, C1, bv, D1, h6, h7, hP, hA⟩ := a_arrives h (xs (6 * k + 1))
  obtain ⟨kv, f1, hM, h0, hv⟩ : ∃ (kv : Int32) (f1 : Nat → Int32), ML l G yL_arrives (wy yL_arrives cL_arrives 4 (some .int) [(0, 9, 12, 28)]) [.ref (gA G 0), .int (xs (6 * k + 1)), .ref (gA G 324)] (lM C D f) (lM C1 D f1) kv ∧ D1 0 0 = kv ∧ (kv = nI 0 → f1 0 = bv) := by
    rcases hA with ⟨v, rfl, rfl, h0⟩ | ⟨i, hi, rfl, h0⟩
    · exact ⟨nI 0, _, nL_arrives l G hN hR hO h6, h0, fun _ => upd_s _ _ _⟩
    · have hi : i < 1 := hi
      obtain rfl : i = 0 := by omega
      exact ⟨nI 1, _, tL_arrives_0 l hfl G hN hR h6, h0, fun z => absurd z (by decide)⟩
  have hD := mX7_arrives l G (β := 316) (M := lM C1 D f1) (by omega) hMd h7
  simp only [lM_D] at hD
  refine lv_aload_n hx hb dL_law_1370 rfl (lv_at hl 1 rfl) ?_
  refine l_ld (pc := 1371) hE hw 1 hl 0 4 rfl rfl (by omega) (by decide) dL_law_1371 dL_law_1372 dL_law_1374 dL_law_1375 dL_law_1376 ?_
  refine lv_aload_n hx hb dL_law_1377 rfl (lv_at hl 3 rfl) ?_
  refine l_callS (As := [.ref (gA G 0), .int (xs (6 * k + 1)), .ref (gA G 324)]) (rest := []) hx hb hml hown hts hE1 hNc hw hl hM (vx_cwSW 3 hts (tW gW_L_176) rfl rfl rfl kdL_arrives ⟨Nat.le_of_ble_eq_true rfl, Nat.le_of_ble_eq_true rfl⟩) rfl rfl (Nat.le_of_ble_eq_true rfl) dL_law_1378 hcr (fun H locs hw => ?_)
  refine lv_istore (lv' := (5, .int kv) :: lB G b k) hx hb dL_law_1381 hl (by decide) rfl (fun ls hl => ?_)
  refine lv_aload_n hx hb dL_law_1383 rfl (lv_at hl 3 rfl) ?_
  refine l_ld (pc := 1384) hE hw 1 hl 1 5 rfl rfl (by omega) (by decide) dL_law_1384 dL_law_1385 dL_law_1387 dL_law_1388 dL_law_1389 ?_
  refine r_callV (As := [.int (xs (6 * k + 1))]) (rest := []) (st1 := [.int bv]) hx hb hml hown hts hE1 hw hl hD (cwV 1 hts (tV gV_L_178) rfl rfl rfl kdX7_arrives ⟨Nat.le_of_ble_eq_true rfl, Nat.le_of_ble_eq_true rfl⟩) (by omega) (congrFun hMd.1 _) rfl rfl rfl rfl (Nat.le_of_ble_eq_true rfl) dL_law_1390 hcr rfl (fun H locs hw => ?_)
  refine lv_istore (lv' := (6, .int bv) :: (5, .int kv) :: lB G b k) hx hb dL_law_1393 hl (by decide) rfl (fun ls hl => ?_)
  exact l_tail (pc := 1395) hE K hP h0 hv hw hl (by omega) (by omega) hcr gV_L_110 dL_law_1395 dL_law_1396 dL_law_1399 dL_law_1401 dL_law_1406 dL_law_1408 dL_law_1411 dL_law_1412 dL_law_1413 dL_law_1414 dL_law_1416 dL_law_1417 dL_law_1418 dL_law_1423 (by decide)
set_option maxHeartbeats 4000000 in
set_option maxRecDepth 100000 in
theorem k_leaves (hfl : l.stackTraces = false) (hE : lE p s m args c b L xs G) (K : lK p l e s m args below meth c b k G Q) (hk : 6 * k + 6 ≤ L) (h : PI C D) (hw : mW G s (lM C D f) H locs) (hl : lv_has ls 7 (lB G b k)) (hc : cells ≤ 325 + k) (hs : slots ≤ 10135 + 6 * k) : W p l e room_1 s m args below meth c H locs cells slots Q (F0 m 1426 ls []) := by
  obtain ⟨hx, hb, hml, hown, hts, ⟨hE1, hNc⟩, ⟨hN, hR, hMd, hO⟩, hX, hL⟩ := id hE
  have hcr : cells + 1 ≤ room_1.cells ∧ slots + 6 ≤ room_1.slots := ⟨by show _ ≤ 601024; omega, by show _ ≤ 7293034; omega⟩
  obtain ⟨r, C1, bv, D1, h6, h7, hP, hA⟩ := a_leaves h (xs (6 * k + 1))
  obtain ⟨kv, f1, hM, h0, hv⟩ : ∃ (kv : Int32) (f1 : Nat → Int32), ML l G yL_leaves (wy yL_leaves cL_leaves 4 (some .int) [(0, 9, 12, 28)]) [.ref (gA G 0), .int (xs (6 * k + 1)), .ref (gA G 324)] (lM C D f) (lM C1 D f1) kv ∧ D1 0 0 = kv ∧ (kv = nI 0 → f1 0 = bv) := by
    rcases hA with ⟨v, rfl, rfl, h0⟩ | ⟨i, hi, rfl, h0⟩
    · exact ⟨nI 0, _, nL_leaves l G hN hR hO h6, h0, fun _ => upd_s _ _ _⟩
    · have hi : i < 1 := hi
      obtain rfl : i = 0 := by omega
      exact ⟨nI 1, _, tL_leaves_0 l hfl G hN hR h6, h0, fun z => absurd z (by decide)⟩
  have hD := mX7_leaves l G (β := 316) (M := lM C1 D f1) (by omega) hMd h7
  simp only [lM_D] at hD
  refine lv_aload_n hx hb dL_law_1426 rfl (lv_at hl 1 rfl) ?_
  refine l_ld (pc := 1427) hE hw 1 hl 0 4 rfl rfl (by omega) (by decide) dL_law_1427 dL_law_1428 dL_law_1430 dL_law_1431 dL_law_1432 ?_
  refine lv_aload_n hx hb dL_law_1433 rfl (lv_at hl 3 rfl) ?_
  refine l_callS (As := [.ref (gA G 0), .int (xs (6 * k + 1)), .ref (gA G 324)]) (rest := []) hx hb hml hown hts hE1 hNc hw hl hM (vx_cwSW 3 hts (tW gW_L_179) rfl rfl rfl kdL_leaves ⟨Nat.le_of_ble_eq_true rfl, Nat.le_of_ble_eq_true rfl⟩) rfl rfl (Nat.le_of_ble_eq_true rfl) dL_law_1434 hcr (fun H locs hw => ?_)
  refine lv_istore (lv' := (5, .int kv) :: lB G b k) hx hb dL_law_1437 hl (by decide) rfl (fun ls hl => ?_)
  refine lv_aload_n hx hb dL_law_1439 rfl (lv_at hl 3 rfl) ?_
  refine l_ld (pc := 1440) hE hw 1 hl 1 5 rfl rfl (by omega) (by decide) dL_law_1440 dL_law_1441 dL_law_1443 dL_law_1444 dL_law_1445 ?_
  refine r_callV (As := [.int (xs (6 * k + 1))]) (rest := []) (st1 := [.int bv]) hx hb hml hown hts hE1 hw hl hD (cwV 1 hts (tV gV_L_181) rfl rfl rfl kdX7_leaves ⟨Nat.le_of_ble_eq_true rfl, Nat.le_of_ble_eq_true rfl⟩) (by omega) (congrFun hMd.1 _) rfl rfl rfl rfl (Nat.le_of_ble_eq_true rfl) dL_law_1446 hcr rfl (fun H locs hw => ?_)
  refine lv_istore (lv' := (6, .int bv) :: (5, .int kv) :: lB G b k) hx hb dL_law_1449 hl (by decide) rfl (fun ls hl => ?_)
  exact l_tail (pc := 1451) hE K hP h0 hv hw hl (by omega) (by omega) hcr gV_L_110 dL_law_1451 dL_law_1452 dL_law_1455 dL_law_1457 dL_law_1462 dL_law_1464 dL_law_1467 dL_law_1468 dL_law_1469 dL_law_1470 dL_law_1472 dL_law_1473 dL_law_1474 dL_law_1479 (by decide)
set_option maxHeartbeats 4000000 in
set_option maxRecDepth 100000 in
theorem k_bestHold (hfl : l.stackTraces = false) (hE : lE p s m args c b L xs G) (K : lK p l e s m args below meth c b k G Q) (hk : 6 * k + 6 ≤ L) (h : PI C D) (hw : mW G s (lM C D f) H locs) (hl : lv_has ls 7 (lB G b k)) (hc : cells ≤ 325 + k) (hs : slots ≤ 10135 + 6 * k) : W p l e room_1 s m args below meth c H locs cells slots Q (F0 m 1482 ls []) := by
  obtain ⟨hx, hb, hml, hown, hts, ⟨hE1, hNc⟩, ⟨hN, hR, hMd, hO⟩, hX, hL⟩ := id hE
  have hcr : cells + 1 ≤ room_1.cells ∧ slots + 6 ≤ room_1.slots := ⟨by show _ ≤ 601024; omega, by show _ ≤ 7293034; omega⟩
  obtain ⟨r, C1, bv, D1, h6, h7, hP, hA⟩ := a_bestHold h (xs (6 * k + 1))
  obtain ⟨kv, f1, hM, h0, hv⟩ : ∃ (kv : Int32) (f1 : Nat → Int32), ML l G yL_bestHold (wy yL_bestHold cL_bestHold 4 (some .int) [(0, 9, 12, 28)]) [.ref (gA G 0), .int (xs (6 * k + 1)), .ref (gA G 324)] (lM C D f) (lM C1 D f1) kv ∧ D1 0 0 = kv ∧ (kv = nI 0 → f1 0 = bv) := by
    rcases hA with ⟨v, rfl, rfl, h0⟩ | ⟨i, hi, rfl, h0⟩
    · exact ⟨nI 0, _, nL_bestHold l G hN hR hO h6, h0, fun _ => upd_s _ _ _⟩
    · have hi : i < 1 := hi
      obtain rfl : i = 0 := by omega
      exact ⟨nI 1, _, tL_bestHold_0 l hfl G hN hR h6, h0, fun z => absurd z (by decide)⟩
  have hD := mX7_bestHold l G (β := 316) (M := lM C1 D f1) (by omega) hMd h7
  simp only [lM_D] at hD
  refine lv_aload_n hx hb dL_law_1482 rfl (lv_at hl 1 rfl) ?_
  refine l_ld (pc := 1483) hE hw 1 hl 0 4 rfl rfl (by omega) (by decide) dL_law_1483 dL_law_1484 dL_law_1486 dL_law_1487 dL_law_1488 ?_
  refine lv_aload_n hx hb dL_law_1489 rfl (lv_at hl 3 rfl) ?_
  refine l_callS (As := [.ref (gA G 0), .int (xs (6 * k + 1)), .ref (gA G 324)]) (rest := []) hx hb hml hown hts hE1 hNc hw hl hM (vx_cwSW 3 hts (tW gW_L_182) rfl rfl rfl kdL_bestHold ⟨Nat.le_of_ble_eq_true rfl, Nat.le_of_ble_eq_true rfl⟩) rfl rfl (Nat.le_of_ble_eq_true rfl) dL_law_1490 hcr (fun H locs hw => ?_)
  refine lv_istore (lv' := (5, .int kv) :: lB G b k) hx hb dL_law_1493 hl (by decide) rfl (fun ls hl => ?_)
  refine lv_aload_n hx hb dL_law_1495 rfl (lv_at hl 3 rfl) ?_
  refine l_ld (pc := 1496) hE hw 1 hl 1 5 rfl rfl (by omega) (by decide) dL_law_1496 dL_law_1497 dL_law_1499 dL_law_1500 dL_law_1501 ?_
  refine r_callV (As := [.int (xs (6 * k + 1))]) (rest := []) (st1 := [.int bv]) hx hb hml hown hts hE1 hw hl hD (cwV 1 hts (tV gV_L_184) rfl rfl rfl kdX7_bestHold ⟨Nat.le_of_ble_eq_true rfl, Nat.le_of_ble_eq_true rfl⟩) (by omega) (congrFun hMd.1 _) rfl rfl rfl rfl (Nat.le_of_ble_eq_true rfl) dL_law_1502 hcr rfl (fun H locs hw => ?_)
  refine lv_istore (lv' := (6, .int bv) :: (5, .int kv) :: lB G b k) hx hb dL_law_1505 hl (by decide) rfl (fun ls hl => ?_)
  exact l_tail (pc := 1507) hE K hP h0 hv hw hl (by omega) (by omega) hcr gV_L_110 dL_law_1507 dL_law_1508 dL_law_1511 dL_law_1513 dL_law_1518 dL_law_1520 dL_law_1523 dL_law_1524 dL_law_1525 dL_law_1526 dL_law_1528 dL_law_1529 dL_law_1530 dL_law_1535 (by decide)
set_option maxHeartbeats 4000000 in
set_option maxRecDepth 100000 in
theorem k_lacks (hfl : l.stackTraces = false) (hE : lE p s m args c b L xs G) (K : lK p l e s m args below meth c b k G Q) (hk : 6 * k + 6 ≤ L) (h : PI C D) (hw : mW G s (lM C D f) H locs) (hl : lv_has ls 7 (lB G b k)) (hc : cells ≤ 325 + k) (hs : slots ≤ 10135 + 6 * k) : W p l e room_1 s m args below meth c H locs cells slots Q (F0 m 1538 ls []) := by
  obtain ⟨hx, hb, hml, hown, hts, ⟨hE1, hNc⟩, ⟨hN, hR, hMd, hO⟩, hX, hL⟩ := id hE
  have hcr : cells + 1 ≤ room_1.cells ∧ slots + 6 ≤ room_1.slots := ⟨by show _ ≤ 601024; omega, by show _ ≤ 7293034; omega⟩
  obtain ⟨r, C1, bv, D1, h6, h7, hP, hA⟩ := a_lacks h (xs (6 * k + 1))
  obtain ⟨kv, f1, hM, h0, hv⟩ : ∃ (kv : Int32) (f1 : Nat → Int32), ML l G yL_lacks (wy yL_lacks cL_lacks 4 (some .int) [(0, 9, 12, 28)]) [.ref (gA G 0), .int (xs (6 * k + 1)), .ref (gA G 324)] (lM C D f) (lM C1 D f1) kv ∧ D1 0 0 = kv ∧ (kv = nI 0 → f1 0 = bv) := by
    rcases hA with ⟨v, rfl, rfl, h0⟩ | ⟨i, hi, rfl, h0⟩
    · exact ⟨nI 0, _, nL_lacks l G hN hR hO h6, h0, fun _ => upd_s _ _ _⟩
    · have hi : i < 1 := hi
      obtain rfl : i = 0 := by omega
      exact ⟨nI 1, _, tL_lacks_0 l hfl G hN hR h6, h0, fun z => absurd z (by decide)⟩
  have hD := mX7_lacks l G (β := 316) (M := lM C1 D f1) (by omega) hMd h7
  simp only [lM_D] at hD
  refine lv_aload_n hx hb dL_law_1538 rfl (lv_at hl 1 rfl) ?_
  refine l_ld (pc := 1539) hE hw 1 hl 0 4 rfl rfl (by omega) (by decide) dL_law_1539 dL_law_1540 dL_law_1542 dL_law_1543 dL_law_1544 ?_
  refine lv_aload_n hx hb dL_law_1545 rfl (lv_at hl 3 rfl) ?_
  refine l_callS (As := [.ref (gA G 0), .int (xs (6 * k + 1)), .ref (gA G 324)]) (rest := []) hx hb hml hown hts hE1 hNc hw hl hM (vx_cwSW 3 hts (tW gW_L_185) rfl rfl rfl kdL_lacks ⟨Nat.le_of_ble_eq_true rfl, Nat.le_of_ble_eq_true rfl⟩) rfl rfl (Nat.le_of_ble_eq_true rfl) dL_law_1546 hcr (fun H locs hw => ?_)
  refine lv_istore (lv' := (5, .int kv) :: lB G b k) hx hb dL_law_1549 hl (by decide) rfl (fun ls hl => ?_)
  refine lv_aload_n hx hb dL_law_1551 rfl (lv_at hl 3 rfl) ?_
  refine l_ld (pc := 1552) hE hw 1 hl 1 5 rfl rfl (by omega) (by decide) dL_law_1552 dL_law_1553 dL_law_1555 dL_law_1556 dL_law_1557 ?_
  refine r_callV (As := [.int (xs (6 * k + 1))]) (rest := []) (st1 := [.int bv]) hx hb hml hown hts hE1 hw hl hD (cwV 1 hts (tV gV_L_187) rfl rfl rfl kdX7_lacks ⟨Nat.le_of_ble_eq_true rfl, Nat.le_of_ble_eq_true rfl⟩) (by omega) (congrFun hMd.1 _) rfl rfl rfl rfl (Nat.le_of_ble_eq_true rfl) dL_law_1558 hcr rfl (fun H locs hw => ?_)
  refine lv_istore (lv' := (6, .int bv) :: (5, .int kv) :: lB G b k) hx hb dL_law_1561 hl (by decide) rfl (fun ls hl => ?_)
  exact l_tail (pc := 1563) hE K hP h0 hv hw hl (by omega) (by omega) hcr gV_L_110 dL_law_1563 dL_law_1564 dL_law_1567 dL_law_1569 dL_law_1574 dL_law_1576 dL_law_1579 dL_law_1580 dL_law_1581 dL_law_1582 dL_law_1584 dL_law_1585 dL_law_1586 dL_law_1591 (by decide)
set_option maxHeartbeats 4000000 in
set_option maxRecDepth 100000 in
theorem k_runScript (hfl : l.stackTraces = false) (hE : lE p s m args c b L xs G) (K : lK p l e s m args below meth c b k G Q) (hk : 6 * k + 6 ≤ L) (h : PI C D) (hw : mW G s (lM C D f) H locs) (hl : lv_has ls 7 (lB G b k)) (hc : cells ≤ 325 + k) (hs : slots ≤ 10135 + 6 * k) : W p l e room_1 s m args below meth c H locs cells slots Q (F0 m 1594 ls []) := by
  obtain ⟨hx, hb, hml, hown, hts, ⟨hE1, hNc⟩, ⟨hN, hR, hMd, hO⟩, hX, hL⟩ := id hE
  have hcr : cells + 1 ≤ room_1.cells ∧ slots + 6 ≤ room_1.slots := ⟨by show _ ≤ 601024; omega, by show _ ≤ 7293034; omega⟩
  obtain ⟨r, C1, bv, D1, h6, h7, hP, hA⟩ := a_runScript h (xs (6 * k + 1)) (lgW (xs (6 * k + 2)) (xs (6 * k + 3)))
  obtain ⟨kv, f1, hM, h0, hv⟩ : ∃ (kv : Int32) (f1 : Nat → Int32), ML l G yL_runScript (wy yL_runScript cL_runScript 6 (some .int) [(0, 11, 14, 13)]) [.ref (gA G 0), .int (xs (6 * k + 1)), .long (lgW (xs (6 * k + 2)) (xs (6 * k + 3))), .ref (gA G 324)] (lM C D f) (lM C1 D f1) kv ∧ D1 0 0 = kv ∧ (kv = nI 0 → f1 0 = bv) := by
    rcases hA with ⟨v, rfl, rfl, h0⟩ | ⟨i, hi, rfl, h0⟩
    · exact ⟨nI 0, _, nL_runScript l G hN hR hO h6, h0, fun _ => upd_s _ _ _⟩
    · have hi : i < 1 := hi
      obtain rfl : i = 0 := by omega
      exact ⟨nI 1, _, tL_runScript_0 l hfl G hN hR h6, h0, fun z => absurd z (by decide)⟩
  have hD := mX7_runScript l G (β := 316) (M := lM C1 D f1) (by omega) hMd h7
  simp only [lM_D] at hD
  refine lv_aload_n hx hb dL_law_1594 rfl (lv_at hl 1 rfl) ?_
  refine l_ld (pc := 1595) hE hw 1 hl 0 4 rfl rfl (by omega) (by decide) dL_law_1595 dL_law_1596 dL_law_1598 dL_law_1599 dL_law_1600 ?_
  refine l_long (pc := 1601) hE hw 2 3 hl 0 4 rfl rfl (by omega) (by omega) (by decide) (by decide) qK_L_188 dL_law_1601 dL_law_1602 dL_law_1604 dL_law_1605 dL_law_1606 dL_law_1607 dL_law_1608 dL_law_1610 dL_law_1611 dL_law_1612 dL_law_1614 dL_law_1615 dL_law_1616 dL_law_1617 dL_law_1618 dL_law_1621 dL_law_1622 ?_
  refine lv_aload_n hx hb dL_law_1623 rfl (lv_at hl 3 rfl) ?_
  refine l_callS (As := [.ref (gA G 0), .int (xs (6 * k + 1)), .long (lgW (xs (6 * k + 2)) (xs (6 * k + 3))), .ref (gA G 324)]) (rest := []) hx hb hml hown hts hE1 hNc hw hl hM (vx_cwSW 4 hts (tW gW_L_190) rfl rfl rfl kdL_runScript ⟨Nat.le_of_ble_eq_true rfl, Nat.le_of_ble_eq_true rfl⟩) rfl rfl (Nat.le_of_ble_eq_true rfl) dL_law_1624 hcr (fun H locs hw => ?_)
  refine lv_istore (lv' := (5, .int kv) :: lB G b k) hx hb dL_law_1627 hl (by decide) rfl (fun ls hl => ?_)
  refine lv_aload_n hx hb dL_law_1629 rfl (lv_at hl 3 rfl) ?_
  refine l_ld (pc := 1630) hE hw 1 hl 1 5 rfl rfl (by omega) (by decide) dL_law_1630 dL_law_1631 dL_law_1633 dL_law_1634 dL_law_1635 ?_
  refine l_long (pc := 1636) hE hw 2 3 hl 1 5 rfl rfl (by omega) (by omega) (by decide) (by decide) qK_L_188 dL_law_1636 dL_law_1637 dL_law_1639 dL_law_1640 dL_law_1641 dL_law_1642 dL_law_1643 dL_law_1645 dL_law_1646 dL_law_1647 dL_law_1649 dL_law_1650 dL_law_1651 dL_law_1652 dL_law_1653 dL_law_1656 dL_law_1657 ?_
  refine r_callV (As := [.int (xs (6 * k + 1)), .long (lgW (xs (6 * k + 2)) (xs (6 * k + 3)))]) (rest := []) (st1 := [.int bv]) hx hb hml hown hts hE1 hw hl hD (cwV 2 hts (tV gV_L_193) rfl rfl rfl kdX7_runScript ⟨Nat.le_of_ble_eq_true rfl, Nat.le_of_ble_eq_true rfl⟩) (by omega) (congrFun hMd.1 _) rfl rfl rfl rfl (Nat.le_of_ble_eq_true rfl) dL_law_1658 hcr rfl (fun H locs hw => ?_)
  refine lv_istore (lv' := (6, .int bv) :: (5, .int kv) :: lB G b k) hx hb dL_law_1661 hl (by decide) rfl (fun ls hl => ?_)
  exact l_tail (pc := 1663) hE K hP h0 hv hw hl (by omega) (by omega) hcr gV_L_110 dL_law_1663 dL_law_1664 dL_law_1667 dL_law_1669 dL_law_1674 dL_law_1676 dL_law_1679 dL_law_1680 dL_law_1681 dL_law_1682 dL_law_1684 dL_law_1685 dL_law_1686 dL_law_1691 (by decide)
set_option maxHeartbeats 4000000 in
set_option maxRecDepth 100000 in
theorem k_simulate (hfl : l.stackTraces = false) (hE : lE p s m args c b L xs G) (K : lK p l e s m args below meth c b k G Q) (hk : 6 * k + 6 ≤ L) (h : PI C D) (hw : mW G s (lM C D f) H locs) (hl : lv_has ls 7 (lB G b k)) (hc : cells ≤ 325 + k) (hs : slots ≤ 10135 + 6 * k) : W p l e room_1 s m args below meth c H locs cells slots Q (F0 m 1694 ls []) := by
  obtain ⟨hx, hb, hml, hown, hts, ⟨hE1, hNc⟩, ⟨hN, hR, hMd, hO⟩, hX, hL⟩ := id hE
  have hcr : cells + 1 ≤ room_1.cells ∧ slots + 6 ≤ room_1.slots := ⟨by show _ ≤ 601024; omega, by show _ ≤ 7293034; omega⟩
  obtain ⟨r, C1, bv, D1, h6, h7, hP, hA⟩ := a_simulate h (lgW (xs (6 * k + 1)) (xs (6 * k + 2))) (xs (6 * k + 3))
  obtain ⟨kv, f1, hM, h0, hv⟩ : ∃ (kv : Int32) (f1 : Nat → Int32), ML l G yL_simulate (wy yL_simulate cL_simulate 6 (some .int) [(0, 11, 14, 13)]) [.ref (gA G 0), .long (lgW (xs (6 * k + 1)) (xs (6 * k + 2))), .int (xs (6 * k + 3)), .ref (gA G 324)] (lM C D f) (lM C1 D f1) kv ∧ D1 0 0 = kv ∧ (kv = nI 0 → f1 0 = bv) := by
    rcases hA with ⟨v, rfl, rfl, h0⟩ | ⟨i, hi, rfl, h0⟩
    · exact ⟨nI 0, _, nL_simulate l G hN hR hO h6, h0, fun _ => upd_s _ _ _⟩
    · have hi : i < 1 := hi
      obtain rfl : i = 0 := by omega
      exact ⟨nI 1, _, tL_simulate_0 l hfl G hN hR h6, h0, fun z => absurd z (by decide)⟩
  have hD := mX7_simulate l G (β := 316) (M := lM C1 D f1) (by omega) hMd h7
  simp only [lM_D] at hD
  refine lv_aload_n hx hb dL_law_1694 rfl (lv_at hl 1 rfl) ?_
  refine l_long (pc := 1695) hE hw 1 2 hl 0 4 rfl rfl (by omega) (by omega) (by decide) (by decide) qK_L_188 dL_law_1695 dL_law_1696 dL_law_1698 dL_law_1699 dL_law_1700 dL_law_1701 dL_law_1702 dL_law_1704 dL_law_1705 dL_law_1706 dL_law_1708 dL_law_1709 dL_law_1710 dL_law_1711 dL_law_1712 dL_law_1715 dL_law_1716 ?_
  refine l_ld (pc := 1717) hE hw 3 hl 0 4 rfl rfl (by omega) (by decide) dL_law_1717 dL_law_1718 dL_law_1720 dL_law_1721 dL_law_1722 ?_
  refine lv_aload_n hx hb dL_law_1723 rfl (lv_at hl 3 rfl) ?_
  refine l_callS (As := [.ref (gA G 0), .long (lgW (xs (6 * k + 1)) (xs (6 * k + 2))), .int (xs (6 * k + 3)), .ref (gA G 324)]) (rest := []) hx hb hml hown hts hE1 hNc hw hl hM (vx_cwSW 4 hts (tW gW_L_194) rfl rfl rfl kdL_simulate ⟨Nat.le_of_ble_eq_true rfl, Nat.le_of_ble_eq_true rfl⟩) rfl rfl (Nat.le_of_ble_eq_true rfl) dL_law_1724 hcr (fun H locs hw => ?_)
  refine lv_istore (lv' := (5, .int kv) :: lB G b k) hx hb dL_law_1727 hl (by decide) rfl (fun ls hl => ?_)
  refine lv_aload_n hx hb dL_law_1729 rfl (lv_at hl 3 rfl) ?_
  refine l_long (pc := 1730) hE hw 1 2 hl 1 5 rfl rfl (by omega) (by omega) (by decide) (by decide) qK_L_188 dL_law_1730 dL_law_1731 dL_law_1733 dL_law_1734 dL_law_1735 dL_law_1736 dL_law_1737 dL_law_1739 dL_law_1740 dL_law_1741 dL_law_1743 dL_law_1744 dL_law_1745 dL_law_1746 dL_law_1747 dL_law_1750 dL_law_1751 ?_
  refine l_ld (pc := 1752) hE hw 3 hl 1 5 rfl rfl (by omega) (by decide) dL_law_1752 dL_law_1753 dL_law_1755 dL_law_1756 dL_law_1757 ?_
  refine r_callV (As := [.long (lgW (xs (6 * k + 1)) (xs (6 * k + 2))), .int (xs (6 * k + 3))]) (rest := []) (st1 := [.int bv]) hx hb hml hown hts hE1 hw hl hD (cwV 2 hts (tV gV_L_197) rfl rfl rfl kdX7_simulate ⟨Nat.le_of_ble_eq_true rfl, Nat.le_of_ble_eq_true rfl⟩) (by omega) (congrFun hMd.1 _) rfl rfl rfl rfl (Nat.le_of_ble_eq_true rfl) dL_law_1758 hcr rfl (fun H locs hw => ?_)
  refine lv_istore (lv' := (6, .int bv) :: (5, .int kv) :: lB G b k) hx hb dL_law_1761 hl (by decide) rfl (fun ls hl => ?_)
  exact l_tail (pc := 1763) hE K hP h0 hv hw hl (by omega) (by omega) hcr gV_L_110 dL_law_1763 dL_law_1764 dL_law_1767 dL_law_1769 dL_law_1774 dL_law_1776 dL_law_1779 dL_law_1780 dL_law_1781 dL_law_1782 dL_law_1784 dL_law_1785 dL_law_1786 dL_law_1791 (by decide)
set_option maxHeartbeats 4000000 in
set_option maxRecDepth 100000 in
theorem k_save (hfl : l.stackTraces = false) (hE : lE p s m args c b L xs G) (K : lK p l e s m args below meth c b k G Q) (hk : 6 * k + 6 ≤ L) (h : PI C D) (hw : mW G s (lM C D f) H locs) (hl : lv_has ls 7 (lB G b k)) (hc : cells ≤ 325 + k) (hs : slots ≤ 10135 + 6 * k) : W p l e room_1 s m args below meth c H locs cells slots Q (F0 m 1794 ls []) := by
  obtain ⟨hx, hb, hml, hown, hts, ⟨hE1, hNc⟩, ⟨hN, hR, hMd, hO⟩, hX, hL⟩ := id hE
  have hcr : cells + 1 ≤ room_1.cells ∧ slots + 6 ≤ room_1.slots := ⟨by show _ ≤ 601024; omega, by show _ ≤ 7293034; omega⟩
  obtain ⟨r, C1, bv, D1, h6, h7, hP, hA⟩ := a_save h (xs (6 * k + 1))
  obtain ⟨kv, f1, hM, h0, hv⟩ : ∃ (kv : Int32) (f1 : Nat → Int32), ML l G yL_save (wy yL_save cL_save 4 (some .int) [(0, 9, 12, 28)]) [.ref (gA G 0), .int (xs (6 * k + 1)), .ref (gA G 324)] (lM C D f) (lM C1 D f1) kv ∧ D1 0 0 = kv ∧ (kv = nI 0 → f1 0 = bv) := by
    rcases hA with ⟨v, rfl, rfl, h0⟩ | ⟨i, hi, rfl, h0⟩
    · exact ⟨nI 0, _, nL_save l G hN hR hO h6, h0, fun _ => upd_s _ _ _⟩
    · have hi : i < 1 := hi
      obtain rfl : i = 0 := by omega
      exact ⟨nI 1, _, tL_save_0 l hfl G hN hR h6, h0, fun z => absurd z (by decide)⟩
  have hD := mX7_save l G (β := 316) (M := lM C1 D f1) (by omega) hMd h7
  simp only [lM_D] at hD
  refine lv_aload_n hx hb dL_law_1794 rfl (lv_at hl 1 rfl) ?_
  refine l_ld (pc := 1795) hE hw 1 hl 0 4 rfl rfl (by omega) (by decide) dL_law_1795 dL_law_1796 dL_law_1798 dL_law_1799 dL_law_1800 ?_
  refine lv_aload_n hx hb dL_law_1801 rfl (lv_at hl 3 rfl) ?_
  refine l_callS (As := [.ref (gA G 0), .int (xs (6 * k + 1)), .ref (gA G 324)]) (rest := []) hx hb hml hown hts hE1 hNc hw hl hM (vx_cwSW 3 hts (tW gW_L_198) rfl rfl rfl kdL_save ⟨Nat.le_of_ble_eq_true rfl, Nat.le_of_ble_eq_true rfl⟩) rfl rfl (Nat.le_of_ble_eq_true rfl) dL_law_1802 hcr (fun H locs hw => ?_)
  refine lv_istore (lv' := (5, .int kv) :: lB G b k) hx hb dL_law_1805 hl (by decide) rfl (fun ls hl => ?_)
  refine lv_aload_n hx hb dL_law_1807 rfl (lv_at hl 3 rfl) ?_
  refine l_ld (pc := 1808) hE hw 1 hl 1 5 rfl rfl (by omega) (by decide) dL_law_1808 dL_law_1809 dL_law_1811 dL_law_1812 dL_law_1813 ?_
  refine r_callV (As := [.int (xs (6 * k + 1))]) (rest := []) (st1 := [.int bv]) hx hb hml hown hts hE1 hw hl hD (cwV 1 hts (tV gV_L_200) rfl rfl rfl kdX7_save ⟨Nat.le_of_ble_eq_true rfl, Nat.le_of_ble_eq_true rfl⟩) (by omega) (congrFun hMd.1 _) rfl rfl rfl rfl (Nat.le_of_ble_eq_true rfl) dL_law_1814 hcr rfl (fun H locs hw => ?_)
  refine lv_istore (lv' := (6, .int bv) :: (5, .int kv) :: lB G b k) hx hb dL_law_1817 hl (by decide) rfl (fun ls hl => ?_)
  exact l_tail (pc := 1819) hE K hP h0 hv hw hl (by omega) (by omega) hcr gV_L_110 dL_law_1819 dL_law_1820 dL_law_1823 dL_law_1825 dL_law_1830 dL_law_1832 dL_law_1835 dL_law_1836 dL_law_1837 dL_law_1838 dL_law_1840 dL_law_1841 dL_law_1842 dL_law_1847 (by decide)
set_option maxHeartbeats 4000000 in
set_option maxRecDepth 100000 in
theorem k_restore (hfl : l.stackTraces = false) (hE : lE p s m args c b L xs G) (K : lK p l e s m args below meth c b k G Q) (hk : 6 * k + 6 ≤ L) (h : PI C D) (hw : mW G s (lM C D f) H locs) (hl : lv_has ls 7 (lB G b k)) (hc : cells ≤ 325 + k) (hs : slots ≤ 10135 + 6 * k) : W p l e room_1 s m args below meth c H locs cells slots Q (F0 m 1850 ls []) := by
  obtain ⟨hx, hb, hml, hown, hts, ⟨hE1, hNc⟩, ⟨hN, hR, hMd, hO⟩, hX, hL⟩ := id hE
  have hcr : cells + 1 ≤ room_1.cells ∧ slots + 6 ≤ room_1.slots := ⟨by show _ ≤ 601024; omega, by show _ ≤ 7293034; omega⟩
  obtain ⟨r, C1, bv, D1, h6, h7, hP, hA⟩ := a_restore h (xs (6 * k + 1))
  obtain ⟨kv, f1, hM, h0, hv⟩ : ∃ (kv : Int32) (f1 : Nat → Int32), ML l G yL_restore (wy yL_restore cL_restore 4 (some .int) [(0, 9, 12, 28), (0, 9, 15, 15)]) [.ref (gA G 0), .int (xs (6 * k + 1)), .ref (gA G 324)] (lM C D f) (lM C1 D f1) kv ∧ D1 0 0 = kv ∧ (kv = nI 0 → f1 0 = bv) := by
    rcases hA with ⟨v, rfl, rfl, h0⟩ | ⟨i, hi, rfl, h0⟩
    · exact ⟨nI 0, _, nL_restore l G hN hR hO h6, h0, fun _ => upd_s _ _ _⟩
    · have hi : i < 2 := hi
      rcases (show i = 0 ∨ i = 1 by omega) with rfl | rfl
      · exact ⟨nI 1, _, tL_restore_0 l hfl G hN hR h6, h0, fun z => absurd z (by decide)⟩
      · exact ⟨nI 2, _, tL_restore_1 l hfl G hN hR h6, h0, fun z => absurd z (by decide)⟩
  have hD := mX7_restore l G (β := 316) (M := lM C1 D f1) (by omega) hMd h7
  simp only [lM_D] at hD
  refine lv_aload_n hx hb dL_law_1850 rfl (lv_at hl 1 rfl) ?_
  refine l_ld (pc := 1851) hE hw 1 hl 0 4 rfl rfl (by omega) (by decide) dL_law_1851 dL_law_1852 dL_law_1854 dL_law_1855 dL_law_1856 ?_
  refine lv_aload_n hx hb dL_law_1857 rfl (lv_at hl 3 rfl) ?_
  refine l_callS (As := [.ref (gA G 0), .int (xs (6 * k + 1)), .ref (gA G 324)]) (rest := []) hx hb hml hown hts hE1 hNc hw hl hM (vx_cwSW 3 hts (tW gW_L_201) rfl rfl rfl kdL_restore ⟨Nat.le_of_ble_eq_true rfl, Nat.le_of_ble_eq_true rfl⟩) rfl rfl (Nat.le_of_ble_eq_true rfl) dL_law_1858 hcr (fun H locs hw => ?_)
  refine lv_istore (lv' := (5, .int kv) :: lB G b k) hx hb dL_law_1861 hl (by decide) rfl (fun ls hl => ?_)
  refine lv_aload_n hx hb dL_law_1863 rfl (lv_at hl 3 rfl) ?_
  refine l_ld (pc := 1864) hE hw 1 hl 1 5 rfl rfl (by omega) (by decide) dL_law_1864 dL_law_1865 dL_law_1867 dL_law_1868 dL_law_1869 ?_
  refine r_callV (As := [.int (xs (6 * k + 1))]) (rest := []) (st1 := [.int bv]) hx hb hml hown hts hE1 hw hl hD (cwV 1 hts (tV gV_L_203) rfl rfl rfl kdX7_restore ⟨Nat.le_of_ble_eq_true rfl, Nat.le_of_ble_eq_true rfl⟩) (by omega) (congrFun hMd.1 _) rfl rfl rfl rfl (Nat.le_of_ble_eq_true rfl) dL_law_1870 hcr rfl (fun H locs hw => ?_)
  refine lv_istore (lv' := (6, .int bv) :: (5, .int kv) :: lB G b k) hx hb dL_law_1873 hl (by decide) rfl (fun ls hl => ?_)
  exact l_tail (pc := 1875) hE K hP h0 hv hw hl (by omega) (by omega) hcr gV_L_110 dL_law_1875 dL_law_1876 dL_law_1879 dL_law_1881 dL_law_1886 dL_law_1888 dL_law_1891 dL_law_1892 dL_law_1893 dL_law_1894 dL_law_1896 dL_law_1897 dL_law_1898 dL_law_1903 (by decide)
end LAWWALK
