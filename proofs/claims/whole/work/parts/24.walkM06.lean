/-! ===== walks, by program ===== -/
set_option maxHeartbeats 4000000 in
set_option maxRecDepth 100000 in
theorem mX7_does (l : Launch) (G : mG) {β : Nat} {M S S' : mM} {a1 : Int32} {r : Int32} (hn : β + 8 ≤ gN G) (hR : isMod G β) (h : pX7_does a1 S = some (r, S')) : MC l G yX7_does zzX7_does 7 164 [.ref (gA G (β + 0)), .int a1] (wB M β 8 S) (wB M β 8 S') (some (.int r)) := by
  refine mc_of (cc := cX7_does) (maxL := 8) (ret := (some .boolean)) (by decide) rfl (Nat.le_of_ble_eq_true rfl) ?_
  intro p e s m args below meth c H ls hx hb hr hts hown hml hlocks hE hw hl
  have hl : lv_has ls 8 [(0, .ref (gA G (β + 0))), (1, .int a1)] := hl
  have hinX7 : ∀ w ∈ wsX70, w ∈ zzX7_does := fun w h9 => wz_in (zinX7 w h9)
  have k367 : ∀ (t0 : Int32) (t1 : Int32) (S : mM) (H : Heap) (locs : List Loc) (ls : Array Slot), pX7_does_b367  t0 t1 S = some (r, S') → mW G s (wB M β 8 S) H locs → lv_has ls 8 [] → W p l e { frames := 7, cells := 0, slots := 0, locals := 164 } s m args below meth c H locs 0 0 (mZ below G (some (.int r)) (wB M β 8 S') args s) (F0 m 367 ls [.int t1, .int t0]) := by
    intro t0 t1 S H locs ls h hw hl
    unfold pX7_does_b367 at h
    refine bi_ne (tgt := 374) hx hb dX7_does_367 (by decide) h (fun h => ?_) (fun h => ?_)
    · refine lv_iconst (v := (nI 0)) hx hb dX7_does_374 (by decide) ?_
      exact e_zw hx hb hr hlocks hw dX7_does_375 h
    · refine lv_iconst (v := (nI 1)) hx hb dX7_does_370 (by decide) ?_
      refine lv_goto (tgt := 375) hx hb dX7_does_371 (by decide) ?_
      exact e_zw hx hb hr hlocks hw dX7_does_375 h
  unfold pX7_does at h
  refine lv_iload_n hx hb dX7_does_0 rfl (lv_at hl 1 rfl) ?_
  refine lv_sipush (v := (nI 10000)) hx hb dX7_does_1 (by decide) ?_
  refine lv_idiv hx hb dX7_does_4 (by decide) ?_
  refine p_topi h (fun v5 h => ?_)
  refine lv_istore_n (lv' := [(2, .int v5), (0, .ref (gA G (β + 0))), (1, .int a1)]) hx hb dX7_does_5 rfl hl (by decide) rfl (fun ls hl => ?_)
  refine lv_iload_n hx hb dX7_does_6 rfl (lv_at hl 2 rfl) ?_
  refine lv_sipush (v := (nI 1000)) hx hb dX7_does_7 (by decide) ?_
  refine lv_idiv hx hb dX7_does_10 (by decide) ?_
  refine lv_bipush (v := (nI 10)) hx hb dX7_does_11 (by decide) ?_
  refine lv_irem hx hb dX7_does_13 (by decide) ?_
  refine p_topi h (fun v14 h => ?_)
  refine lv_istore_n (lv' := [(3, .int v14), (2, .int v5), (0, .ref (gA G (β + 0))), (1, .int a1)]) hx hb dX7_does_14 rfl hl (by decide) rfl (fun ls hl => ?_)
  refine lv_iload_n hx hb dX7_does_15 rfl (lv_at hl 3 rfl) ?_
  refine lv_bipush (v := (nI 100)) hx hb dX7_does_16 (by decide) ?_
  refine lv_idiv hx hb dX7_does_18 (by decide) ?_
  refine lv_bipush (v := (nI 10)) hx hb dX7_does_19 (by decide) ?_
  refine lv_irem hx hb dX7_does_21 (by decide) ?_
  refine p_topi h (fun v22 h => ?_)
  refine lv_istore (lv' := [(4, .int v22), (3, .int v14), (2, .int v5), (0, .ref (gA G (β + 0))), (1, .int a1)]) hx hb dX7_does_22 hl (by decide) rfl (fun ls hl => ?_)
  refine lv_iload_n hx hb dX7_does_24 rfl (lv_at hl 4 rfl) ?_
  refine lv_bipush (v := (nI 100)) hx hb dX7_does_25 (by decide) ?_
  refine lv_irem hx hb dX7_does_27 (by decide) ?_
  refine p_topi h (fun v28 h => ?_)
  refine lv_istore (lv' := [(5, .int v28), (4, .int v22), (3, .int v14), (2, .int v5), (0, .ref (gA G (β + 0))), (1, .int a1)]) hx hb dX7_does_28 hl (by decide) rfl (fun ls hl => ?_)
  refine lv_iload_n hx hb dX7_does_30 rfl (lv_at hl 5 rfl) ?_
  refine lv_bipush (v := (nI 100)) hx hb dX7_does_31 (by decide) ?_
  refine lv_idiv hx hb dX7_does_33 (by decide) ?_
  refine lv_bipush (v := (nI 100)) hx hb dX7_does_34 (by decide) ?_
  refine lv_irem hx hb dX7_does_36 (by decide) ?_
  refine p_topi h (fun v37 h => ?_)
  refine lv_istore (lv' := [(6, .int v37), (5, .int v28), (4, .int v22), (3, .int v14), (2, .int v5), (0, .ref (gA G (β + 0))), (1, .int a1)]) hx hb dX7_does_37 hl (by decide) rfl (fun ls hl => ?_)
  refine lv_iload_n hx hb dX7_does_39 rfl (lv_at hl 6 rfl) ?_
  refine lv_sipush (v := (nI 1000)) hx hb dX7_does_40 (by decide) ?_
  refine lv_irem hx hb dX7_does_43 (by decide) ?_
  refine p_topi h (fun v44 h => ?_)
  refine lv_istore (lv' := [(7, .int v44), (6, .int v37), (5, .int v28), (4, .int v22), (3, .int v14), (2, .int v5), (0, .ref (gA G (β + 0))), (1, .int a1)]) hx hb dX7_does_44 hl (by decide) rfl (fun ls hl => ?_)
  refine lv_iload_n hx hb dX7_does_46 rfl (lv_at hl 5 rfl) ?_
  refine sw_if h (fun hc1 h => ?_) (fun hc1 h => ?_)
  · rw [hc1]
    refine lv_tableIn (off := 49) (tgt := 96) hx hb dX7_does_47 (by decide) (by decide) rfl (by decide) ?_
    refine lv_iload hx hb dX7_does_96 (lv_at hl 1 rfl) ?_
    refine b_ne (tgt := 106) hx hb dX7_does_98 (by decide) h (fun h => ?_) (fun h => ?_)
    · refine lv_iconst (v := (nI 0)) hx hb dX7_does_106 (by decide) ?_
      exact e_zw hx hb hr hlocks hw dX7_does_107 h
    · refine lv_iload hx hb dX7_does_101 (lv_at hl 2 rfl) ?_
      refine b_ne (tgt := 108) hx hb dX7_does_103 (by decide) h (fun h => ?_) (fun h => ?_)
      · refine lv_aload_n hx hb dX7_does_108 rfl (lv_at hl 6 rfl) ?_
        refine lv_aload_n hx hb dX7_does_109 rfl (lv_at hl 6 rfl) ?_
        refine r_get (v := .ref (gA G (β + 4))) hx hb hts hinX7 hown hE hw hn 0 (by decide) (congrFun hR.1 _) rfl 7 (by decide) (hts _ (wz_in qF_X7_19)) rfl dX7_does_110 ?_
        refine lv_iload hx hb dX7_does_113 (lv_at hl 2 rfl) ?_
        obtain ⟨v115, S115, h115, h⟩ := cw2_some h
        refine r_callV (As := [.ref (gA G (β + 4)), .int v28]) (rest := []) (st1 := [.int v115]) hx hb hml hown hts hE hw hl (mX7_goHours l G (by omega) hR (by decide) hR.2.2.2.2.1 h115) (cwV 2 hts (zV gV_X7_261) rfl rfl rfl kdX7_goHours ⟨Nat.le_of_ble_eq_true rfl, Nat.le_of_ble_eq_true rfl⟩) (by omega) (congrFun hR.1 _) rfl rfl rfl rfl (Nat.le_of_ble_eq_true rfl) dX7_does_115 ⟨Nat.zero_le _, Nat.zero_le _⟩ rfl (fun H locs hw => ?_)
        refine lv_pop hx hb dX7_does_118 rfl ?_
        refine lv_iconst (v := (nI 1)) hx hb dX7_does_119 (by decide) ?_
        exact e_zw hx hb hr hlocks hw dX7_does_120 h
      · refine lv_iconst (v := (nI 0)) hx hb dX7_does_106 (by decide) ?_
        exact e_zw hx hb hr hlocks hw dX7_does_107 h
  refine sw_if h (fun hc2 h => ?_) (fun hc2 h => ?_)
  · rw [hc2]
    refine lv_tableIn (off := 74) (tgt := 121) hx hb dX7_does_47 (by decide) (by decide) rfl (by decide) ?_
    refine lv_iload_n hx hb dX7_does_121 rfl (lv_at hl 4 rfl) ?_
    refine lv_aload_n hx hb dX7_does_122 rfl (lv_at hl 6 rfl) ?_
    refine r_get (v := .ref (gA G (β + 4))) hx hb hts hinX7 hown hE hw hn 0 (by decide) (congrFun hR.1 _) rfl 7 (by decide) (hts _ (wz_in qF_X7_19)) rfl dX7_does_123 ?_
    refine lv_iconst (v := (nI 5)) hx hb dX7_does_126 (by decide) ?_
    refine p_iald hx hb hE hw hn 4 (by decide) (congrFun hR.2.2.2.2.1) dX7_does_127 h (fun v127 h => ?_)
    refine bi_ge (tgt := 144) hx hb dX7_does_128 (by decide) h (fun h => ?_) (fun h => ?_)
    · refine lv_iconst (v := (nI 0)) hx hb dX7_does_144 (by decide) ?_
      exact e_zw hx hb hr hlocks hw dX7_does_145 h
    · refine lv_iload hx hb dX7_does_131 (lv_at hl 3 rfl) ?_
      refine b_ne (tgt := 144) hx hb dX7_does_133 (by decide) h (fun h => ?_) (fun h => ?_)
      · refine lv_iconst (v := (nI 0)) hx hb dX7_does_144 (by decide) ?_
        exact e_zw hx hb hr hlocks hw dX7_does_145 h
      · refine lv_iload hx hb dX7_does_136 (lv_at hl 2 rfl) ?_
        obtain ⟨v138, h138, h⟩ := cr1_some h
        refine r_callS (As := [.int v28]) (rest := []) (st1 := [.int v138]) hx hb hml hown hts hE hw hl (mX7_isHold l G (M := (wB M β 8 S)) h138) (va_cwS 1 hts (zS gS_X7_256) rfl rfl rfl kdX7_isHold ⟨Nat.le_of_ble_eq_true rfl, Nat.le_of_ble_eq_true rfl⟩) rfl rfl (Nat.le_of_ble_eq_true rfl) dX7_does_138 ⟨Nat.zero_le _, Nat.zero_le _⟩ rfl (fun H locs hw => ?_)
        refine b_ne (tgt := 146) hx hb dX7_does_141 (by decide) h (fun h => ?_) (fun h => ?_)
        · refine lv_aload_n hx hb dX7_does_146 rfl (lv_at hl 6 rfl) ?_
          refine r_get (v := .ref (gA G (β + 4))) hx hb hts hinX7 hown hE hw hn 0 (by decide) (congrFun hR.1 _) rfl 7 (by decide) (hts _ (wz_in qF_X7_19)) rfl dX7_does_147 ?_
          refine lv_iload_n hx hb dX7_does_150 rfl (lv_at hl 4 rfl) ?_
          refine lv_iconst (v := (nI 2)) hx hb dX7_does_151 (by decide) ?_
          obtain ⟨v152, h152, h⟩ := cr1_some h
          refine r_callS (As := [.int v14, .int (nI 2)]) (rest := [.ref (gA G (β + 4))]) (st1 := [.int v152, .ref (gA G (β + 4))]) hx hb hml hown hts hE hw hl (mX7_convoyAt l G (M := (wB M β 8 S)) h152) (va_cwS 2 hts (zS gS_X7_51) rfl rfl rfl kdX7_convoyAt ⟨Nat.le_of_ble_eq_true rfl, Nat.le_of_ble_eq_true rfl⟩) rfl rfl (Nat.le_of_ble_eq_true rfl) dX7_does_152 ⟨Nat.zero_le _, Nat.zero_le _⟩ rfl (fun H locs hw => ?_)
          refine lv_iload hx hb dX7_does_155 (lv_at hl 2 rfl) ?_
          refine p_iast hx hb hE hw hn 4 (by decide) (congrFun hR.2.2.2.2.1) dX7_does_157 h (fun S157 h H locs hw => ?_)
          refine lv_iconst (v := (nI 1)) hx hb dX7_does_158 (by decide) ?_
          exact e_zw hx hb hr hlocks hw dX7_does_159 h
        · refine lv_iconst (v := (nI 0)) hx hb dX7_does_144 (by decide) ?_
          exact e_zw hx hb hr hlocks hw dX7_does_145 h
  refine sw_if h (fun hc3 h => ?_) (fun hc3 h => ?_)
  · rw [hc3]
    refine lv_tableIn (off := 113) (tgt := 160) hx hb dX7_does_47 (by decide) (by decide) rfl (by decide) ?_
    refine lv_iload_n hx hb dX7_does_160 rfl (lv_at hl 4 rfl) ?_
    refine lv_aload_n hx hb dX7_does_161 rfl (lv_at hl 6 rfl) ?_
    refine r_get (v := .ref (gA G (β + 4))) hx hb hts hinX7 hown hE hw hn 0 (by decide) (congrFun hR.1 _) rfl 7 (by decide) (hts _ (wz_in qF_X7_19)) rfl dX7_does_162 ?_
    refine lv_iconst (v := (nI 4)) hx hb dX7_does_165 (by decide) ?_
    refine p_iald hx hb hE hw hn 4 (by decide) (congrFun hR.2.2.2.2.1) dX7_does_166 h (fun v166 h => ?_)
    refine bi_ge (tgt := 202) hx hb dX7_does_167 (by decide) h (fun h => ?_) (fun h => ?_)
    · refine lv_iconst (v := (nI 0)) hx hb dX7_does_202 (by decide) ?_
      exact e_zw hx hb hr hlocks hw dX7_does_203 h
    · refine lv_iload hx hb dX7_does_170 (lv_at hl 0 rfl) ?_
      refine lv_i2l hx hb dX7_does_172 rfl ?_
      refine lv_lconst (v := (lN 1)) hx hb dX7_does_173 (by decide) ?_
      refine lv_ldc2 (v := (lN 500)) hx hb hown (hts _ (wz_in qK_X7_259)) dX7_does_174 ?_
      obtain ⟨v177, h177, h⟩ := cr1_some h
      refine r_callS (As := [.long (v44.toInt64), .long (lN 1), .long (lN 500)]) (rest := []) (st1 := [.int v177]) hx hb hml hown hts hE hw hl (mX7_in l G (M := (wB M β 8 S)) h177) (va_cwS 3 hts (zS gS_X7_139) rfl rfl rfl kdX7_in ⟨Nat.le_of_ble_eq_true rfl, Nat.le_of_ble_eq_true rfl⟩) rfl rfl (Nat.le_of_ble_eq_true rfl) dX7_does_177 ⟨Nat.zero_le _, Nat.zero_le _⟩ rfl (fun H locs hw => ?_)
      refine b_eq (tgt := 202) hx hb dX7_does_180 (by decide) h (fun h => ?_) (fun h => ?_)
      · refine lv_iconst (v := (nI 0)) hx hb dX7_does_202 (by decide) ?_
        exact e_zw hx hb hr hlocks hw dX7_does_203 h
      · refine lv_aload_n hx hb dX7_does_183 rfl (lv_at hl 6 rfl) ?_
        refine r_get (v := .ref (gA G (β + 4))) hx hb hts hinX7 hown hE hw hn 0 (by decide) (congrFun hR.1 _) rfl 7 (by decide) (hts _ (wz_in qF_X7_19)) rfl dX7_does_184 ?_
        refine lv_iload_n hx hb dX7_does_187 rfl (lv_at hl 4 rfl) ?_
        refine lv_iconst (v := (nI 1)) hx hb dX7_does_188 (by decide) ?_
        obtain ⟨v189, h189, h⟩ := cr1_some h
        refine r_callS (As := [.int v14, .int (nI 1)]) (rest := [.ref (gA G (β + 4))]) (st1 := [.int v189, .ref (gA G (β + 4))]) hx hb hml hown hts hE hw hl (mX7_depotAt l G (M := (wB M β 8 S)) h189) (va_cwS 2 hts (zS gS_X7_61) rfl rfl rfl kdX7_depotAt ⟨Nat.le_of_ble_eq_true rfl, Nat.le_of_ble_eq_true rfl⟩) rfl rfl (Nat.le_of_ble_eq_true rfl) dX7_does_189 ⟨Nat.zero_le _, Nat.zero_le _⟩ rfl (fun H locs hw => ?_)
        refine p_iald hx hb hE hw hn 4 (by decide) (congrFun hR.2.2.2.2.1) dX7_does_192 h (fun v192 h => ?_)
        refine lv_iload hx hb dX7_does_193 (lv_at hl 0 rfl) ?_
        refine lv_iadd hx hb dX7_does_195 ?_
        refine lv_sipush (v := (nI 999)) hx hb dX7_does_196 (by decide) ?_
        refine bi_le (tgt := 204) hx hb dX7_does_199 (by decide) h (fun h => ?_) (fun h => ?_)
        · refine lv_aload_n hx hb dX7_does_204 rfl (lv_at hl 6 rfl) ?_
          refine r_get (v := .ref (gA G (β + 4))) hx hb hts hinX7 hown hE hw hn 0 (by decide) (congrFun hR.1 _) rfl 7 (by decide) (hts _ (wz_in qF_X7_19)) rfl dX7_does_205 ?_
          refine lv_iload_n hx hb dX7_does_208 rfl (lv_at hl 4 rfl) ?_
          refine lv_iconst (v := (nI 1)) hx hb dX7_does_209 (by decide) ?_
          obtain ⟨v210, h210, h⟩ := cr1_some h
          refine r_callS (As := [.int v14, .int (nI 1)]) (rest := [.ref (gA G (β + 4))]) (st1 := [.int v210, .ref (gA G (β + 4))]) hx hb hml hown hts hE hw hl (mX7_depotAt l G (M := (wB M β 8 S)) h210) (va_cwS 2 hts (zS gS_X7_61) rfl rfl rfl kdX7_depotAt ⟨Nat.le_of_ble_eq_true rfl, Nat.le_of_ble_eq_true rfl⟩) rfl rfl (Nat.le_of_ble_eq_true rfl) dX7_does_210 ⟨Nat.zero_le _, Nat.zero_le _⟩ rfl (fun H locs hw => ?_)
          refine lv_dup2_11 hx hb dX7_does_213 rfl rfl ?_
          refine p_iald hx hb hE hw hn 4 (by decide) (congrFun hR.2.2.2.2.1) dX7_does_214 h (fun v214 h => ?_)
          refine lv_iload hx hb dX7_does_215 (lv_at hl 0 rfl) ?_
          refine lv_iadd hx hb dX7_does_217 ?_
          refine p_iast hx hb hE hw hn 4 (by decide) (congrFun hR.2.2.2.2.1) dX7_does_218 h (fun S218 h H locs hw => ?_)
          refine lv_iconst (v := (nI 1)) hx hb dX7_does_219 (by decide) ?_
          exact e_zw hx hb hr hlocks hw dX7_does_220 h
        · refine lv_iconst (v := (nI 0)) hx hb dX7_does_202 (by decide) ?_
          exact e_zw hx hb hr hlocks hw dX7_does_203 h
  refine sw_if h (fun hc4 h => ?_) (fun hc4 h => ?_)
  · rw [hc4]
    refine lv_tableIn (off := 174) (tgt := 221) hx hb dX7_does_47 (by decide) (by decide) rfl (by decide) ?_
    refine lv_iload_n hx hb dX7_does_221 rfl (lv_at hl 4 rfl) ?_
    refine lv_aload_n hx hb dX7_does_222 rfl (lv_at hl 6 rfl) ?_
    refine r_get (v := .ref (gA G (β + 4))) hx hb hts hinX7 hown hE hw hn 0 (by decide) (congrFun hR.1 _) rfl 7 (by decide) (hts _ (wz_in qF_X7_19)) rfl dX7_does_223 ?_
    refine lv_iconst (v := (nI 5)) hx hb dX7_does_226 (by decide) ?_
    refine p_iald hx hb hE hw hn 4 (by decide) (congrFun hR.2.2.2.2.1) dX7_does_227 h (fun v227 h => ?_)
    refine bi_ge (tgt := 255) hx hb dX7_does_228 (by decide) h (fun h => ?_) (fun h => ?_)
    · refine lv_iconst (v := (nI 0)) hx hb dX7_does_255 (by decide) ?_
      exact e_zw hx hb hr hlocks hw dX7_does_256 h
    · refine lv_iload hx hb dX7_does_231 (lv_at hl 3 rfl) ?_
      refine b_ne (tgt := 255) hx hb dX7_does_233 (by decide) h (fun h => ?_) (fun h => ?_)
      · refine lv_iconst (v := (nI 0)) hx hb dX7_does_255 (by decide) ?_
        exact e_zw hx hb hr hlocks hw dX7_does_256 h
      · refine lv_aload_n hx hb dX7_does_236 rfl (lv_at hl 6 rfl) ?_
        refine r_get (v := .ref (gA G (β + 4))) hx hb hts hinX7 hown hE hw hn 0 (by decide) (congrFun hR.1 _) rfl 7 (by decide) (hts _ (wz_in qF_X7_19)) rfl dX7_does_237 ?_
        refine lv_iload_n hx hb dX7_does_240 rfl (lv_at hl 4 rfl) ?_
        refine lv_iconst (v := (nI 0)) hx hb dX7_does_241 (by decide) ?_
        obtain ⟨v242, h242, h⟩ := cr1_some h
        refine r_callS (As := [.int v14, .int (nI 0)]) (rest := [.ref (gA G (β + 4))]) (st1 := [.int v242, .ref (gA G (β + 4))]) hx hb hml hown hts hE hw hl (mX7_convoyAt l G (M := (wB M β 8 S)) h242) (va_cwS 2 hts (zS gS_X7_51) rfl rfl rfl kdX7_convoyAt ⟨Nat.le_of_ble_eq_true rfl, Nat.le_of_ble_eq_true rfl⟩) rfl rfl (Nat.le_of_ble_eq_true rfl) dX7_does_242 ⟨Nat.zero_le _, Nat.zero_le _⟩ rfl (fun H locs hw => ?_)
        refine p_iald hx hb hE hw hn 4 (by decide) (congrFun hR.2.2.2.2.1) dX7_does_245 h (fun v245 h => ?_)
        refine lv_iload hx hb dX7_does_246 (lv_at hl 2 rfl) ?_
        refine bi_lt (tgt := 255) hx hb dX7_does_248 (by decide) h (fun h => ?_) (fun h => ?_)
        · refine lv_iconst (v := (nI 0)) hx hb dX7_does_255 (by decide) ?_
          exact e_zw hx hb hr hlocks hw dX7_does_256 h
        · refine lv_iconst (v := (nI 1)) hx hb dX7_does_251 (by decide) ?_
          refine lv_goto (tgt := 256) hx hb dX7_does_252 (by decide) ?_
          exact e_zw hx hb hr hlocks hw dX7_does_256 h
  refine sw_if h (fun hc5 h => ?_) (fun hc5 h => ?_)
  · rw [hc5]
    refine lv_tableIn (off := 210) (tgt := 257) hx hb dX7_does_47 (by decide) (by decide) rfl (by decide) ?_
    refine lv_iload hx hb dX7_does_257 (lv_at hl 1 rfl) ?_
    refine lv_aload_n hx hb dX7_does_259 rfl (lv_at hl 6 rfl) ?_
    refine r_get (v := .ref (gA G (β + 4))) hx hb hts hinX7 hown hE hw hn 0 (by decide) (congrFun hR.1 _) rfl 7 (by decide) (hts _ (wz_in qF_X7_19)) rfl dX7_does_260 ?_
    refine lv_bipush (v := (nI 6)) hx hb dX7_does_263 (by decide) ?_
    refine p_iald hx hb hE hw hn 4 (by decide) (congrFun hR.2.2.2.2.1) dX7_does_265 h (fun v265 h => ?_)
    refine bi_ge (tgt := 289) hx hb dX7_does_266 (by decide) h (fun h => ?_) (fun h => ?_)
    · refine lv_iconst (v := (nI 0)) hx hb dX7_does_289 (by decide) ?_
      exact e_zw hx hb hr hlocks hw dX7_does_290 h
    · refine lv_aload_n hx hb dX7_does_269 rfl (lv_at hl 6 rfl) ?_
      refine r_get (v := .ref (gA G (β + 4))) hx hb hts hinX7 hown hE hw hn 0 (by decide) (congrFun hR.1 _) rfl 7 (by decide) (hts _ (wz_in qF_X7_19)) rfl dX7_does_270 ?_
      refine lv_iload hx hb dX7_does_273 (lv_at hl 1 rfl) ?_
      refine lv_iconst (v := (nI 3)) hx hb dX7_does_275 (by decide) ?_
      obtain ⟨v276, h276, h⟩ := cr1_some h
      refine r_callS (As := [.int v37, .int (nI 3)]) (rest := [.ref (gA G (β + 4))]) (st1 := [.int v276, .ref (gA G (β + 4))]) hx hb hml hown hts hE hw hl (mX7_carAt l G (M := (wB M β 8 S)) h276) (va_cwS 2 hts (zS gS_X7_72) rfl rfl rfl kdX7_carAt ⟨Nat.le_of_ble_eq_true rfl, Nat.le_of_ble_eq_true rfl⟩) rfl rfl (Nat.le_of_ble_eq_true rfl) dX7_does_276 ⟨Nat.zero_le _, Nat.zero_le _⟩ rfl (fun H locs hw => ?_)
      refine p_iald hx hb hE hw hn 4 (by decide) (congrFun hR.2.2.2.2.1) dX7_does_279 h (fun v279 h => ?_)
      refine lv_iload hx hb dX7_does_280 (lv_at hl 2 rfl) ?_
      refine bi_lt (tgt := 289) hx hb dX7_does_282 (by decide) h (fun h => ?_) (fun h => ?_)
      · refine lv_iconst (v := (nI 0)) hx hb dX7_does_289 (by decide) ?_
        exact e_zw hx hb hr hlocks hw dX7_does_290 h
      · refine lv_iconst (v := (nI 1)) hx hb dX7_does_285 (by decide) ?_
        refine lv_goto (tgt := 290) hx hb dX7_does_286 (by decide) ?_
        exact e_zw hx hb hr hlocks hw dX7_does_290 h
  refine sw_if h (fun hc6 h => ?_) (fun hc6 h => ?_)
  · rw [hc6]
    refine lv_tableIn (off := 244) (tgt := 291) hx hb dX7_does_47 (by decide) (by decide) rfl (by decide) ?_
    refine lv_iload hx hb dX7_does_291 (lv_at hl 1 rfl) ?_
    refine lv_aload_n hx hb dX7_does_293 rfl (lv_at hl 6 rfl) ?_
    refine r_get (v := .ref (gA G (β + 4))) hx hb hts hinX7 hown hE hw hn 0 (by decide) (congrFun hR.1 _) rfl 7 (by decide) (hts _ (wz_in qF_X7_19)) rfl dX7_does_294 ?_
    refine lv_bipush (v := (nI 6)) hx hb dX7_does_297 (by decide) ?_
    refine p_iald hx hb hE hw hn 4 (by decide) (congrFun hR.2.2.2.2.1) dX7_does_299 h (fun v299 h => ?_)
    refine bi_ge (tgt := 330) hx hb dX7_does_300 (by decide) h (fun h => ?_) (fun h => ?_)
    · refine lv_iconst (v := (nI 0)) hx hb dX7_does_330 (by decide) ?_
      exact e_zw hx hb hr hlocks hw dX7_does_331 h
    · refine lv_iload hx hb dX7_does_303 (lv_at hl 2 rfl) ?_
      refine lv_bipush (v := (nI 10)) hx hb dX7_does_305 (by decide) ?_
      refine bi_ge (tgt := 330) hx hb dX7_does_307 (by decide) h (fun h => ?_) (fun h => ?_)
      · refine lv_iconst (v := (nI 0)) hx hb dX7_does_330 (by decide) ?_
        exact e_zw hx hb hr hlocks hw dX7_does_331 h
      · refine lv_aload_n hx hb dX7_does_310 rfl (lv_at hl 6 rfl) ?_
        refine r_get (v := .ref (gA G (β + 4))) hx hb hts hinX7 hown hE hw hn 0 (by decide) (congrFun hR.1 _) rfl 7 (by decide) (hts _ (wz_in qF_X7_19)) rfl dX7_does_311 ?_
        refine lv_iload hx hb dX7_does_314 (lv_at hl 1 rfl) ?_
        refine lv_iconst (v := (nI 4)) hx hb dX7_does_316 (by decide) ?_
        obtain ⟨v317, h317, h⟩ := cr1_some h
        refine r_callS (As := [.int v37, .int (nI 4)]) (rest := [.ref (gA G (β + 4))]) (st1 := [.int v317, .ref (gA G (β + 4))]) hx hb hml hown hts hE hw hl (mX7_carAt l G (M := (wB M β 8 S)) h317) (va_cwS 2 hts (zS gS_X7_72) rfl rfl rfl kdX7_carAt ⟨Nat.le_of_ble_eq_true rfl, Nat.le_of_ble_eq_true rfl⟩) rfl rfl (Nat.le_of_ble_eq_true rfl) dX7_does_317 ⟨Nat.zero_le _, Nat.zero_le _⟩ rfl (fun H locs hw => ?_)
        refine p_iald hx hb hE hw hn 4 (by decide) (congrFun hR.2.2.2.2.1) dX7_does_320 h (fun v320 h => ?_)
        refine lv_iload hx hb dX7_does_321 (lv_at hl 2 rfl) ?_
        refine bi_ne (tgt := 330) hx hb dX7_does_323 (by decide) h (fun h => ?_) (fun h => ?_)
        · refine lv_iconst (v := (nI 0)) hx hb dX7_does_330 (by decide) ?_
          exact e_zw hx hb hr hlocks hw dX7_does_331 h
        · refine lv_iconst (v := (nI 1)) hx hb dX7_does_326 (by decide) ?_
          refine lv_goto (tgt := 331) hx hb dX7_does_327 (by decide) ?_
          exact e_zw hx hb hr hlocks hw dX7_does_331 h
  refine sw_if h (fun hc7 h => ?_) (fun hc7 h => ?_)
  · rw [hc7]
    refine lv_tableIn (off := 285) (tgt := 332) hx hb dX7_does_47 (by decide) (by decide) rfl (by decide) ?_
    refine lv_iload_n hx hb dX7_does_332 rfl (lv_at hl 4 rfl) ?_
    refine lv_aload_n hx hb dX7_does_333 rfl (lv_at hl 6 rfl) ?_
    refine r_get (v := .ref (gA G (β + 4))) hx hb hts hinX7 hown hE hw hn 0 (by decide) (congrFun hR.1 _) rfl 7 (by decide) (hts _ (wz_in qF_X7_19)) rfl dX7_does_334 ?_
    refine lv_iconst (v := (nI 2)) hx hb dX7_does_337 (by decide) ?_
    refine p_iald hx hb hE hw hn 4 (by decide) (congrFun hR.2.2.2.2.1) dX7_does_338 h (fun v338 h => ?_)
    refine bi_ge (tgt := 374) hx hb dX7_does_339 (by decide) h (fun h => ?_) (fun h => ?_)
    · refine lv_iconst (v := (nI 0)) hx hb dX7_does_374 (by decide) ?_
      exact e_zw hx hb hr hlocks hw dX7_does_375 h
    · refine lv_iload hx hb dX7_does_342 (lv_at hl 0 rfl) ?_
      refine lv_iconst (v := (nI 2)) hx hb dX7_does_344 (by decide) ?_
      refine bi_ge (tgt := 374) hx hb dX7_does_345 (by decide) h (fun h => ?_) (fun h => ?_)
      · refine lv_iconst (v := (nI 0)) hx hb dX7_does_374 (by decide) ?_
        exact e_zw hx hb hr hlocks hw dX7_does_375 h
      · refine lv_aload_n hx hb dX7_does_348 rfl (lv_at hl 6 rfl) ?_
        refine r_get (v := .ref (gA G (β + 4))) hx hb hts hinX7 hown hE hw hn 0 (by decide) (congrFun hR.1 _) rfl 7 (by decide) (hts _ (wz_in qF_X7_19)) rfl dX7_does_349 ?_
        refine lv_iload_n hx hb dX7_does_352 rfl (lv_at hl 4 rfl) ?_
        obtain ⟨v353, h353, h⟩ := cr1_some h
        refine r_callS (As := [.ref (gA G (β + 4)), .int v14]) (rest := []) (st1 := [.int v353]) hx hb hml hown hts hE hw hl (mc_subR 4 1 (by decide) (mX7_isClosed l G (by show β + 4 + 1 ≤ _; omega) hR.2.2.2.2.1 h353)) (va_cwS 2 hts (zS gS_X7_109) rfl rfl rfl kdX7_isClosed ⟨Nat.le_of_ble_eq_true rfl, Nat.le_of_ble_eq_true rfl⟩) rfl rfl (Nat.le_of_ble_eq_true rfl) dX7_does_353 ⟨Nat.zero_le _, Nat.zero_le _⟩ rfl (fun H locs hw => ?_)
        refine lv_iload hx hb dX7_does_356 (lv_at hl 0 rfl) ?_
        refine lv_iconst (v := (nI 1)) hx hb dX7_does_358 (by decide) ?_
        refine bi_ne (tgt := 366) hx hb dX7_does_359 (by decide) h (fun h => ?_) (fun h => ?_)
        · refine lv_iconst (v := (nI 0)) hx hb dX7_does_366 (by decide) ?_
          exact k367  v353 (nI 0) S _ _ _ h hw (lv_sub hl [] rfl)
        · refine lv_iconst (v := (nI 1)) hx hb dX7_does_362 (by decide) ?_
          refine lv_goto (tgt := 367) hx hb dX7_does_363 (by decide) ?_
          exact k367  v353 (nI 1) S _ _ _ h hw (lv_sub hl [] rfl)
  refine sw_if h (fun hc8 h => ?_) (fun hc8 h => ?_)
  · rw [hc8]
    refine lv_tableIn (off := 329) (tgt := 376) hx hb dX7_does_47 (by decide) (by decide) rfl (by decide) ?_
    refine lv_iload_n hx hb dX7_does_376 rfl (lv_at hl 4 rfl) ?_
    refine lv_aload_n hx hb dX7_does_377 rfl (lv_at hl 6 rfl) ?_
    refine r_get (v := .ref (gA G (β + 4))) hx hb hts hinX7 hown hE hw hn 0 (by decide) (congrFun hR.1 _) rfl 7 (by decide) (hts _ (wz_in qF_X7_19)) rfl dX7_does_378 ?_
    refine lv_iconst (v := (nI 3)) hx hb dX7_does_381 (by decide) ?_
    refine p_iald hx hb hE hw hn 4 (by decide) (congrFun hR.2.2.2.2.1) dX7_does_382 h (fun v382 h => ?_)
    refine bi_ge (tgt := 412) hx hb dX7_does_383 (by decide) h (fun h => ?_) (fun h => ?_)
    · refine lv_iconst (v := (nI 0)) hx hb dX7_does_412 (by decide) ?_
      exact e_zw hx hb hr hlocks hw dX7_does_413 h
    · refine lv_iload hx hb dX7_does_386 (lv_at hl 0 rfl) ?_
      refine lv_bipush (v := (nI 10)) hx hb dX7_does_388 (by decide) ?_
      refine bi_ge (tgt := 412) hx hb dX7_does_390 (by decide) h (fun h => ?_) (fun h => ?_)
      · refine lv_iconst (v := (nI 0)) hx hb dX7_does_412 (by decide) ?_
        exact e_zw hx hb hr hlocks hw dX7_does_413 h
      · refine lv_aload_n hx hb dX7_does_393 rfl (lv_at hl 6 rfl) ?_
        refine r_get (v := .ref (gA G (β + 4))) hx hb hts hinX7 hown hE hw hn 0 (by decide) (congrFun hR.1 _) rfl 7 (by decide) (hts _ (wz_in qF_X7_19)) rfl dX7_does_394 ?_
        refine lv_iload_n hx hb dX7_does_397 rfl (lv_at hl 4 rfl) ?_
        refine lv_iconst (v := (nI 2)) hx hb dX7_does_398 (by decide) ?_
        obtain ⟨v399, h399, h⟩ := cr1_some h
        refine r_callS (As := [.int v14, .int (nI 2)]) (rest := [.ref (gA G (β + 4))]) (st1 := [.int v399, .ref (gA G (β + 4))]) hx hb hml hown hts hE hw hl (mX7_bayAt l G (M := (wB M β 8 S)) h399) (va_cwS 2 hts (zS gS_X7_58) rfl rfl rfl kdX7_bayAt ⟨Nat.le_of_ble_eq_true rfl, Nat.le_of_ble_eq_true rfl⟩) rfl rfl (Nat.le_of_ble_eq_true rfl) dX7_does_399 ⟨Nat.zero_le _, Nat.zero_le _⟩ rfl (fun H locs hw => ?_)
        refine p_iald hx hb hE hw hn 4 (by decide) (congrFun hR.2.2.2.2.1) dX7_does_402 h (fun v402 h => ?_)
        refine lv_iload hx hb dX7_does_403 (lv_at hl 0 rfl) ?_
        refine bi_lt (tgt := 412) hx hb dX7_does_405 (by decide) h (fun h => ?_) (fun h => ?_)
        · refine lv_iconst (v := (nI 0)) hx hb dX7_does_412 (by decide) ?_
          exact e_zw hx hb hr hlocks hw dX7_does_413 h
        · refine lv_iconst (v := (nI 1)) hx hb dX7_does_408 (by decide) ?_
          refine lv_goto (tgt := 413) hx hb dX7_does_409 (by decide) ?_
          exact e_zw hx hb hr hlocks hw dX7_does_413 h
  refine sw_if h (fun hc9 h => ?_) (fun hc9 h => ?_)
  · rw [hc9]
    refine lv_tableIn (off := 367) (tgt := 414) hx hb dX7_does_47 (by decide) (by decide) rfl (by decide) ?_
    refine lv_iload hx hb dX7_does_414 (lv_at hl 1 rfl) ?_
    refine b_ne (tgt := 436) hx hb dX7_does_416 (by decide) h (fun h => ?_) (fun h => ?_)
    · refine lv_iconst (v := (nI 0)) hx hb dX7_does_436 (by decide) ?_
      exact e_zw hx hb hr hlocks hw dX7_does_437 h
    · refine lv_aload_n hx hb dX7_does_419 rfl (lv_at hl 6 rfl) ?_
      refine r_get (v := .ref (gA G (β + 4))) hx hb hts hinX7 hown hE hw hn 0 (by decide) (congrFun hR.1 _) rfl 7 (by decide) (hts _ (wz_in qF_X7_19)) rfl dX7_does_420 ?_
      refine lv_iconst (v := (nI 2)) hx hb dX7_does_423 (by decide) ?_
      obtain ⟨v424, h424, h⟩ := cr1_some h
      refine r_callS (As := [.ref (gA G (β + 4)), .int (nI 2)]) (rest := []) (st1 := [.int v424]) hx hb hml hown hts hE hw hl (mc_subR 4 1 (by decide) (mX7_countAt l G (by show β + 4 + 1 ≤ _; omega) hR.2.2.2.2.1 h424)) (va_cwS 2 hts (zS gS_X7_130) rfl rfl rfl kdX7_countAt ⟨Nat.le_of_ble_eq_true rfl, Nat.le_of_ble_eq_true rfl⟩) rfl rfl (Nat.le_of_ble_eq_true rfl) dX7_does_424 ⟨Nat.zero_le _, Nat.zero_le _⟩ rfl (fun H locs hw => ?_)
      refine lv_iload hx hb dX7_does_427 (lv_at hl 2 rfl) ?_
      refine bi_lt (tgt := 436) hx hb dX7_does_429 (by decide) h (fun h => ?_) (fun h => ?_)
      · refine lv_iconst (v := (nI 0)) hx hb dX7_does_436 (by decide) ?_
        exact e_zw hx hb hr hlocks hw dX7_does_437 h
      · refine lv_iconst (v := (nI 1)) hx hb dX7_does_432 (by decide) ?_
        refine lv_goto (tgt := 437) hx hb dX7_does_433 (by decide) ?_
        exact e_zw hx hb hr hlocks hw dX7_does_437 h
  · refine lv_tableOut (tgt := 438) hx hb dX7_does_47 (by have q0 := lv_neT hc1 (by decide : ((nI 1) : Int32).toInt = 1); have q1 := lv_neT hc2 (by decide : ((nI 2) : Int32).toInt = 2); have q2 := lv_neT hc3 (by decide : ((nI 3) : Int32).toInt = 3); have q3 := lv_neT hc4 (by decide : ((nI 4) : Int32).toInt = 4); have q4 := lv_neT hc5 (by decide : ((nI 5) : Int32).toInt = 5); have q5 := lv_neT hc6 (by decide : ((nI 6) : Int32).toInt = 6); have q6 := lv_neT hc7 (by decide : ((nI 7) : Int32).toInt = 7); have q7 := lv_neT hc8 (by decide : ((nI 8) : Int32).toInt = 8); have q8 := lv_neT hc9 (by decide : ((nI 9) : Int32).toInt = 9); omega) (by decide) ?_
    refine lv_iconst (v := (nI 0)) hx hb dX7_does_438 (by decide) ?_
    exact e_zw hx hb hr hlocks hw dX7_does_439 h

set_option maxHeartbeats 4000000 in
set_option maxRecDepth 100000 in
theorem mX7_runScript (l : Launch) (G : mG) {β : Nat} {M S S' : mM} {a1 : Int32} {a2 : Int64} {r : Int32} (hn : β + 8 ≤ gN G) (hR : isMod G β) (h : pX7_runScript a1 a2 S = some (r, S')) : MC l G yX7_runScript zzX7_runScript 8 191 [.ref (gA G (β + 0)), .int a1, .long a2] (wB M β 8 S) (wB M β 8 S') (some (.int r)) := by
  refine mc_of (cc := cX7_runScript) (maxL := 6) (ret := (some .int)) (by decide) rfl (Nat.le_of_ble_eq_true rfl) ?_
  intro p e s m args below meth c H ls hx hb hr hts hown hml hlocks hE hw hl
  have hl : lv_has ls 6 [(0, .ref (gA G (β + 0))), (1, .int a1), (2, .long a2)] := hl
  have k62 : ∀ (k : Nat), ∀ (x1 : Int32) (x2 : Int64) (x5 : Int32) (S : mM) (H : Heap) (locs : List Loc) (ls : Array Slot), pX7_runScript_l62  k x1 x2 x5 S = some (r, S') → mW G s (wB M β 8 S) H locs → lv_has ls 6 [(0, .ref (gA G (β + 0))), (1, .int x1), (2, .long x2), (5, .int x5)] → W p l e { frames := 8, cells := 0, slots := 0, locals := 191 } s m args below meth c H locs 0 0 (mZ below G (some (.int r)) (wB M β 8 S') args s) (F0 m 62 ls []) := by
    intro k
    induction k with
    | zero => intro x1 x2 x5 S H locs ls h; cases h
    | succ k hih62 =>
      intro x1 x2 x5 S H locs ls h hw hl
      obtain ⟨ih62, hk62⟩ : ∃ f, f = pX7_runScript_l62  k := ⟨_, rfl⟩
      replace h : pX7_runScript_lb62  (pX7_runScript_l62  k) x1 x2 x5 S = some (r, S') := h
      rw [← hk62] at h hih62
      clear hk62
      unfold pX7_runScript_lb62 at h
      refine lv_iload hx hb dX7_runScript_62 (lv_at hl 3 rfl) ?_
      refine lv_iload_n hx hb dX7_runScript_64 rfl (lv_at hl 1 rfl) ?_
      refine bi_ge (tgt := 102) hx hb dX7_runScript_65 (by decide) h (fun h => ?_) (fun h => ?_)
      · refine lv_bipush (v := (-9)) hx hb dX7_runScript_102 (by decide) ?_
        exact e_iw hx hb hr hlocks hw dX7_runScript_104 h
      · refine lv_aload_n hx hb dX7_runScript_68 rfl (lv_at hl 0 rfl) ?_
        refine lv_lload_n hx hb dX7_runScript_69 rfl (lv_at hl 2 rfl) ?_
        refine lv_iconst (v := (nI 5)) hx hb dX7_runScript_70 (by decide) ?_
        refine lv_iload_n hx hb dX7_runScript_71 rfl (lv_at hl 1 rfl) ?_
        refine lv_iconst (v := (nI 1)) hx hb dX7_runScript_72 (by decide) ?_
        refine lv_isub hx hb dX7_runScript_73 ?_
        refine lv_iload hx hb dX7_runScript_74 (lv_at hl 3 rfl) ?_
        refine lv_isub hx hb dX7_runScript_76 ?_
        refine lv_imul hx hb dX7_runScript_77 ?_
        obtain ⟨v78, h78, h⟩ := cr1_some h
        refine r_callS (As := [.int ((nI 5) * ((x1 - (nI 1)) - x5))]) (rest := [.long x2, .ref (gA G (β + 0))]) (st1 := [.long v78, .long x2, .ref (gA G (β + 0))]) hx hb hml hown hts hE hw hl (mX7_tenTo l G (M := (wB M β 8 S)) h78) (va_cwS 1 hts (zS gS_X7_274) rfl rfl rfl kdX7_tenTo ⟨Nat.le_of_ble_eq_true rfl, Nat.le_of_ble_eq_true rfl⟩) rfl rfl (Nat.le_of_ble_eq_true rfl) dX7_runScript_78 ⟨Nat.zero_le _, Nat.zero_le _⟩ rfl (fun H locs hw => ?_)
        obtain ⟨hz81, h⟩ := nzL_some h
        refine lv_ldiv hx hb dX7_runScript_81 hz81 ?_
        refine lv_ldc2 (v := (lN 100000)) hx hb hown (hts _ (wz_in qK_X7_278)) dX7_runScript_82 ?_
        refine lv_lrem hx hb dX7_runScript_85 (by decide) ?_
        refine lv_l2i hx hb dX7_runScript_86 rfl ?_
        obtain ⟨v87, S87, h87, h⟩ := cw2_some h
        refine r_callV (As := [.int (((x2 / v78) - (x2 / v78) / (lN 100000) * (lN 100000)).toInt32)]) (rest := []) (st1 := [.int v87]) hx hb hml hown hts hE hw hl (mX7_does l G (by omega) hR h87) (cwV 1 hts (zV gV_X7_280) rfl rfl rfl kdX7_does ⟨Nat.le_of_ble_eq_true rfl, Nat.le_of_ble_eq_true rfl⟩) (by omega) (congrFun hR.1 _) rfl rfl rfl rfl (Nat.le_of_ble_eq_true rfl) dX7_runScript_87 ⟨Nat.zero_le _, Nat.zero_le _⟩ rfl (fun H locs hw => ?_)
        refine b_ne (tgt := 96) hx hb dX7_runScript_90 (by decide) h (fun h => ?_) (fun h => ?_)
        · refine p_iinc (w := (nI 1)) 3 (fun v96 => [(5, .int v96), (0, .ref (gA G (β + 0))), (1, .int x1), (2, .long x2)]) hx hb dX7_runScript_96 hl rfl (by decide) (by decide) h (fun _ => rfl) (fun v96 h ls hl => ?_)
          refine lv_goto (tgt := 62) hx hb dX7_runScript_99 (by decide) ?_
          exact hih62 x1 x2 v96 S87 _ _ _ h hw (lv_sub hl [1, 2, 3, 0] rfl)
        · refine lv_iload hx hb dX7_runScript_93 (lv_at hl 3 rfl) ?_
          exact e_iw hx hb hr hlocks hw dX7_runScript_95 h
  have k47 : ∀ (x1 : Int32) (x2 : Int64) (t1 : Int32) (S : mM) (H : Heap) (locs : List Loc) (ls : Array Slot), pX7_runScript_b47  x1 x2 t1 S = some (r, S') → mW G s (wB M β 8 S) H locs → lv_has ls 6 [(0, .ref (gA G (β + 0))), (1, .int x1), (2, .long x2)] → W p l e { frames := 8, cells := 0, slots := 0, locals := 191 } s m args below meth c H locs 0 0 (mZ below G (some (.int r)) (wB M β 8 S') args s) (F0 m 47 ls [.int t1, .ref (gA G (β + 0))]) := by
    intro x1 x2 t1 S H locs ls h hw hl
    unfold pX7_runScript_b47 at h
    obtain ⟨v47, S47, h47, h⟩ := cw2_some h
    refine r_callV (As := [.int t1]) (rest := []) (st1 := [.int v47]) hx hb hml hown hts hE hw hl (mX7_refused l G (by omega) hR h47) (cwV 1 hts (zV gV_X7_146) rfl rfl rfl kdX7_refused ⟨Nat.le_of_ble_eq_true rfl, Nat.le_of_ble_eq_true rfl⟩) (by omega) (congrFun hR.1 _) rfl rfl rfl rfl (Nat.le_of_ble_eq_true rfl) dX7_runScript_47 ⟨Nat.zero_le _, Nat.zero_le _⟩ rfl (fun H locs hw => ?_)
    refine b_eq (tgt := 55) hx hb dX7_runScript_50 (by decide) h (fun h => ?_) (fun h => ?_)
    · refine lv_aload_n hx hb dX7_runScript_55 rfl (lv_at hl 0 rfl) ?_
      obtain ⟨S56, h56, h⟩ := cr1_some h
      refine r_callV (As := []) (rest := []) (st1 := []) hx hb hml hown hts hE hw hl (mX7_begin l G (by omega) hR h56) (cwV 0 hts (zV gV_X7_264) rfl rfl rfl kdX7_begin ⟨Nat.le_of_ble_eq_true rfl, Nat.le_of_ble_eq_true rfl⟩) (by omega) (congrFun hR.1 _) rfl rfl rfl rfl (Nat.le_of_ble_eq_true rfl) dX7_runScript_56 ⟨Nat.zero_le _, Nat.zero_le _⟩ rfl (fun H locs hw => ?_)
      refine lv_iconst (v := (nI 0)) hx hb dX7_runScript_59 (by decide) ?_
      refine lv_istore (lv' := [(5, .int (nI 0)), (0, .ref (gA G (β + 0))), (1, .int x1), (2, .long x2)]) hx hb dX7_runScript_60 hl (by decide) rfl (fun ls hl => ?_)
      exact k62 fuel x1 x2 (nI 0) S56 _ _ _ h hw (lv_sub hl [1, 2, 3, 0] rfl)
    · refine lv_iconst (v := (nI 0)) hx hb dX7_runScript_53 (by decide) ?_
      exact e_iw hx hb hr hlocks hw dX7_runScript_54 h
  have k46 : ∀ (x1 : Int32) (x2 : Int64) (S : mM) (H : Heap) (locs : List Loc) (ls : Array Slot), pX7_runScript_b46  x1 x2 S = some (r, S') → mW G s (wB M β 8 S) H locs → lv_has ls 6 [(0, .ref (gA G (β + 0))), (1, .int x1), (2, .long x2)] → W p l e { frames := 8, cells := 0, slots := 0, locals := 191 } s m args below meth c H locs 0 0 (mZ below G (some (.int r)) (wB M β 8 S') args s) (F0 m 46 ls [.ref (gA G (β + 0))]) := by
    intro x1 x2 S H locs ls h hw hl
    unfold pX7_runScript_b46 at h
    refine lv_iconst (v := (nI 1)) hx hb dX7_runScript_46 (by decide) ?_
    exact k47  x1 x2 (nI 1) S _ _ _ h hw (lv_sub hl [0, 1, 2] rfl)
  have k31 : ∀ (x1 : Int32) (x2 : Int64) (t1 : Int64) (t2 : Int64) (t3 : Int32) (S : mM) (H : Heap) (locs : List Loc) (ls : Array Slot), pX7_runScript_b31  x1 x2 t1 t2 t3 S = some (r, S') → mW G s (wB M β 8 S) H locs → lv_has ls 6 [(0, .ref (gA G (β + 0))), (1, .int x1), (2, .long x2)] → W p l e { frames := 8, cells := 0, slots := 0, locals := 191 } s m args below meth c H locs 0 0 (mZ below G (some (.int r)) (wB M β 8 S') args s) (F0 m 31 ls [.int t3, .long t2, .long t1, .ref (gA G (β + 0))]) := by
    intro x1 x2 t1 t2 t3 S H locs ls h hw hl
    unfold pX7_runScript_b31 at h
    obtain ⟨v31, h31, h⟩ := cr1_some h
    refine r_callS (As := [.int t3]) (rest := [.long t2, .long t1, .ref (gA G (β + 0))]) (st1 := [.long v31, .long t2, .long t1, .ref (gA G (β + 0))]) hx hb hml hown hts hE hw hl (mX7_tenTo l G (M := (wB M β 8 S)) h31) (va_cwS 1 hts (zS gS_X7_274) rfl rfl rfl kdX7_tenTo ⟨Nat.le_of_ble_eq_true rfl, Nat.le_of_ble_eq_true rfl⟩) rfl rfl (Nat.le_of_ble_eq_true rfl) dX7_runScript_31 ⟨Nat.zero_le _, Nat.zero_le _⟩ rfl (fun H locs hw => ?_)
    refine lv_lconst (v := (lN 1)) hx hb dX7_runScript_34 (by decide) ?_
    refine lv_lsub hx hb dX7_runScript_35 ?_
    obtain ⟨v36, h36, h⟩ := cr1_some h
    refine r_callS (As := [.long t1, .long t2, .long (v31 - (lN 1))]) (rest := [.ref (gA G (β + 0))]) (st1 := [.int v36, .ref (gA G (β + 0))]) hx hb hml hown hts hE hw hl (mX7_in l G (M := (wB M β 8 S)) h36) (va_cwS 3 hts (zS gS_X7_139) rfl rfl rfl kdX7_in ⟨Nat.le_of_ble_eq_true rfl, Nat.le_of_ble_eq_true rfl⟩) rfl rfl (Nat.le_of_ble_eq_true rfl) dX7_runScript_36 ⟨Nat.zero_le _, Nat.zero_le _⟩ rfl (fun H locs hw => ?_)
    refine b_eq (tgt := 46) hx hb dX7_runScript_39 (by decide) h (fun h => ?_) (fun h => ?_)
    · exact k46  x1 x2 S _ _ _ h hw (lv_sub hl [0, 1, 2] rfl)
    · refine lv_iconst (v := (nI 0)) hx hb dX7_runScript_42 (by decide) ?_
      refine lv_goto (tgt := 47) hx hb dX7_runScript_43 (by decide) ?_
      exact k47  x1 x2 (nI 0) S _ _ _ h hw (lv_sub hl [0, 1, 2] rfl)
  unfold pX7_runScript at h
  refine lv_iload_n hx hb dX7_runScript_0 rfl (lv_at hl 1 rfl) ?_
  refine lv_i2l hx hb dX7_runScript_1 rfl ?_
  refine lv_lconst (v := (lN 1)) hx hb dX7_runScript_2 (by decide) ?_
  refine lv_ldc2 (v := (lN 3)) hx hb hown (hts _ (wz_in qK_X7_234)) dX7_runScript_3 ?_
  obtain ⟨v6, h6, h⟩ := cr1_some h
  refine r_callS (As := [.long (a1.toInt64), .long (lN 1), .long (lN 3)]) (rest := []) (st1 := [.int v6]) hx hb hml hown hts hE hw hl (mX7_in l G (M := (wB M β 8 S)) h6) (va_cwS 3 hts (zS gS_X7_139) rfl rfl rfl kdX7_in ⟨Nat.le_of_ble_eq_true rfl, Nat.le_of_ble_eq_true rfl⟩) rfl rfl (Nat.le_of_ble_eq_true rfl) dX7_runScript_6 ⟨Nat.zero_le _, Nat.zero_le _⟩ rfl (fun H locs hw => ?_)
  refine lv_istore (lv' := [(4, .int v6), (0, .ref (gA G (β + 0))), (1, .int a1), (2, .long a2)]) hx hb dX7_runScript_9 hl (by decide) rfl (fun ls hl => ?_)
  refine lv_aload_n hx hb dX7_runScript_11 rfl (lv_at hl 1 rfl) ?_
  refine lv_iload hx hb dX7_runScript_12 (lv_at hl 0 rfl) ?_
  refine b_eq (tgt := 46) hx hb dX7_runScript_14 (by decide) h (fun h => ?_) (fun h => ?_)
  · exact k46  a1 a2 S _ _ _ h hw (lv_sub hl [1, 2, 3] rfl)
  · refine lv_lload_n hx hb dX7_runScript_17 rfl (lv_at hl 3 rfl) ?_
    refine lv_lconst (v := (lN 0)) hx hb dX7_runScript_18 (by decide) ?_
    refine lv_iload hx hb dX7_runScript_19 (lv_at hl 0 rfl) ?_
    refine b_eq (tgt := 30) hx hb dX7_runScript_21 (by decide) h (fun h => ?_) (fun h => ?_)
    · refine lv_iconst (v := (nI 0)) hx hb dX7_runScript_30 (by decide) ?_
      exact k31  a1 a2 a2 (lN 0) (nI 0) S _ _ _ h hw (lv_sub hl [1, 2, 3] rfl)
    · refine lv_iconst (v := (nI 5)) hx hb dX7_runScript_24 (by decide) ?_
      refine lv_iload_n hx hb dX7_runScript_25 rfl (lv_at hl 2 rfl) ?_
      refine lv_imul hx hb dX7_runScript_26 ?_
      refine lv_goto (tgt := 31) hx hb dX7_runScript_27 (by decide) ?_
      exact k31  a1 a2 a2 (lN 0) ((nI 5) * a1) S _ _ _ h hw (lv_sub hl [1, 2, 3] rfl)

set_option maxHeartbeats 4000000 in
set_option maxRecDepth 100000 in
theorem mX7_stir (l : Launch) (G : mG) {β : Nat} {M S S' : mM} {a1 : Int32} (hn : β + 8 ≤ gN G) (hR : isMod G β) (h : pX7_stir a1 S = some S') : MC l G yX7_stir zzX7_stir 1 21 [.ref (gA G (β + 0)), .int a1] (wB M β 8 S) (wB M β 8 S') none := by
  refine mc_of (cc := cX7_stir) (maxL := 4) (ret := none) (by decide) rfl (Nat.le_of_ble_eq_true rfl) ?_
  intro p e s m args below meth c H ls hx hb hr hts hown hml hlocks hE hw hl
  have hl : lv_has ls 4 [(0, .ref (gA G (β + 0))), (1, .int a1)] := hl
  have hinX7 : ∀ w ∈ wsX70, w ∈ zzX7_stir := fun w h9 => wz_in (zinX7 w h9)
  have k42 : ∀ (x1 : Int32) (S : mM) (H : Heap) (locs : List Loc) (ls : Array Slot), pX7_stir_b42  x1 S = some S' → mW G s (wB M β 8 S) H locs → lv_has ls 4 [(0, .ref (gA G (β + 0))), (1, .int x1)] → W p l e { frames := 1, cells := 0, slots := 0, locals := 21 } s m args below meth c H locs 0 0 (mZ below G none (wB M β 8 S') args s) (F0 m 42 ls []) := by
    intro x1 S H locs ls h hw hl
    unfold pX7_stir_b42 at h
    refine lv_iload_n hx hb dX7_stir_42 rfl (lv_at hl 1 rfl) ?_
    refine lv_iconst (v := (nI 5)) hx hb dX7_stir_43 (by decide) ?_
    refine lv_irem hx hb dX7_stir_44 (by decide) ?_
    refine lv_iconst (v := (nI 1)) hx hb dX7_stir_45 (by decide) ?_
    refine bi_ne (tgt := 109) hx hb dX7_stir_46 (by decide) h (fun h => ?_) (fun h => ?_)
    · exact e_vw hx hb hr hlocks hw dX7_stir_109 h
    · refine lv_aload_n hx hb dX7_stir_49 rfl (lv_at hl 0 rfl) ?_
      refine r_get (v := .ref (gA G (β + 4))) hx hb hts hinX7 hown hE hw hn 0 (by decide) (congrFun hR.1 _) rfl 7 (by decide) (hts _ (wz_in qF_X7_19)) rfl dX7_stir_50 ?_
      refine lv_iconst (v := (nI 4)) hx hb dX7_stir_53 (by decide) ?_
      refine p_iald hx hb hE hw hn 4 (by decide) (congrFun hR.2.2.2.2.1) dX7_stir_54 h (fun v54 h => ?_)
      refine b_le (tgt := 109) hx hb dX7_stir_55 (by decide) h (fun h => ?_) (fun h => ?_)
      · exact e_vw hx hb hr hlocks hw dX7_stir_109 h
      · refine lv_iload_n hx hb dX7_stir_58 rfl (lv_at hl 1 rfl) ?_
        refine lv_bipush (v := (nI 8)) hx hb dX7_stir_59 (by decide) ?_
        refine lv_idiv hx hb dX7_stir_61 (by decide) ?_
        refine lv_aload_n hx hb dX7_stir_62 rfl (lv_at hl 0 rfl) ?_
        refine r_get (v := .ref (gA G (β + 4))) hx hb hts hinX7 hown hE hw hn 0 (by decide) (congrFun hR.1 _) rfl 7 (by decide) (hts _ (wz_in qF_X7_19)) rfl dX7_stir_63 ?_
        refine lv_iconst (v := (nI 4)) hx hb dX7_stir_66 (by decide) ?_
        refine p_iald hx hb hE hw hn 4 (by decide) (congrFun hR.2.2.2.2.1) dX7_stir_67 h (fun v67 h => ?_)
        obtain ⟨hz68, h⟩ := nz_some h
        refine lv_irem hx hb dX7_stir_68 hz68 ?_
        refine lv_iconst (v := (nI 1)) hx hb dX7_stir_69 (by decide) ?_
        obtain ⟨v70, h70, h⟩ := cr1_some h
        refine r_callS (As := [.int ((x1 / (nI 8)) - (x1 / (nI 8)) / v67 * v67), .int (nI 1)]) (rest := []) (st1 := [.int v70]) hx hb hml hown hts hE hw hl (mX7_depotAt l G (M := (wB M β 8 S)) h70) (va_cwS 2 hts (zS gS_X7_61) rfl rfl rfl kdX7_depotAt ⟨Nat.le_of_ble_eq_true rfl, Nat.le_of_ble_eq_true rfl⟩) rfl rfl (Nat.le_of_ble_eq_true rfl) dX7_stir_70 ⟨Nat.zero_le _, Nat.zero_le _⟩ rfl (fun H locs hw => ?_)
        refine lv_istore_n (lv' := [(2, .int v70), (0, .ref (gA G (β + 0))), (1, .int x1)]) hx hb dX7_stir_73 rfl hl (by decide) rfl (fun ls hl => ?_)
        refine lv_aload_n hx hb dX7_stir_74 rfl (lv_at hl 1 rfl) ?_
        refine r_get (v := .ref (gA G (β + 4))) hx hb hts hinX7 hown hE hw hn 0 (by decide) (congrFun hR.1 _) rfl 7 (by decide) (hts _ (wz_in qF_X7_19)) rfl dX7_stir_75 ?_
        refine lv_iload_n hx hb dX7_stir_78 rfl (lv_at hl 0 rfl) ?_
        refine p_iald hx hb hE hw hn 4 (by decide) (congrFun hR.2.2.2.2.1) dX7_stir_79 h (fun v79 h => ?_)
        refine lv_iload_n hx hb dX7_stir_80 rfl (lv_at hl 2 rfl) ?_
        refine lv_bipush (v := (nI 64)) hx hb dX7_stir_81 (by decide) ?_
        refine lv_idiv hx hb dX7_stir_83 (by decide) ?_
        refine lv_bipush (v := (nI 30)) hx hb dX7_stir_84 (by decide) ?_
        refine lv_irem hx hb dX7_stir_86 (by decide) ?_
        refine lv_iadd hx hb dX7_stir_87 ?_
        refine p_topi h (fun v88 h => ?_)
        refine lv_istore_n (lv' := [(3, .int v88), (2, .int v70), (0, .ref (gA G (β + 0))), (1, .int x1)]) hx hb dX7_stir_88 rfl hl (by decide) rfl (fun ls hl => ?_)
        refine lv_aload_n hx hb dX7_stir_89 rfl (lv_at hl 2 rfl) ?_
        refine r_get (v := .ref (gA G (β + 4))) hx hb hts hinX7 hown hE hw hn 0 (by decide) (congrFun hR.1 _) rfl 7 (by decide) (hts _ (wz_in qF_X7_19)) rfl dX7_stir_90 ?_
        refine lv_iload_n hx hb dX7_stir_93 rfl (lv_at hl 1 rfl) ?_
        refine lv_iload_n hx hb dX7_stir_94 rfl (lv_at hl 0 rfl) ?_
        refine lv_sipush (v := (nI 999)) hx hb dX7_stir_95 (by decide) ?_
        refine bi_le (tgt := 107) hx hb dX7_stir_98 (by decide) h (fun h => ?_) (fun h => ?_)
        · refine lv_iload_n hx hb dX7_stir_107 rfl (lv_at hl 0 rfl) ?_
          refine p_iast hx hb hE hw hn 4 (by decide) (congrFun hR.2.2.2.2.1) dX7_stir_108 h (fun S108 h H locs hw => ?_)
          exact e_vw hx hb hr hlocks hw dX7_stir_109 h
        · refine lv_sipush (v := (nI 999)) hx hb dX7_stir_101 (by decide) ?_
          refine lv_goto (tgt := 108) hx hb dX7_stir_104 (by decide) ?_
          refine p_iast hx hb hE hw hn 4 (by decide) (congrFun hR.2.2.2.2.1) dX7_stir_108 h (fun S108 h H locs hw => ?_)
          exact e_vw hx hb hr hlocks hw dX7_stir_109 h
  unfold pX7_stir at h
  refine lv_iload_n hx hb dX7_stir_0 rfl (lv_at hl 1 rfl) ?_
  refine lv_iconst (v := (nI 5)) hx hb dX7_stir_1 (by decide) ?_
  refine lv_irem hx hb dX7_stir_2 (by decide) ?_
  refine b_ne (tgt := 42) hx hb dX7_stir_3 (by decide) h (fun h => ?_) (fun h => ?_)
  · exact k42  a1 S _ _ _ h hw (lv_sub hl [0, 1] rfl)
  · refine lv_aload_n hx hb dX7_stir_6 rfl (lv_at hl 0 rfl) ?_
    refine r_get (v := .ref (gA G (β + 4))) hx hb hts hinX7 hown hE hw hn 0 (by decide) (congrFun hR.1 _) rfl 7 (by decide) (hts _ (wz_in qF_X7_19)) rfl dX7_stir_7 ?_
    refine lv_iconst (v := (nI 5)) hx hb dX7_stir_10 (by decide) ?_
    refine p_iald hx hb hE hw hn 4 (by decide) (congrFun hR.2.2.2.2.1) dX7_stir_11 h (fun v11 h => ?_)
    refine b_le (tgt := 42) hx hb dX7_stir_12 (by decide) h (fun h => ?_) (fun h => ?_)
    · exact k42  a1 S _ _ _ h hw (lv_sub hl [0, 1] rfl)
    · refine lv_aload_n hx hb dX7_stir_15 rfl (lv_at hl 0 rfl) ?_
      refine r_get (v := .ref (gA G (β + 4))) hx hb hts hinX7 hown hE hw hn 0 (by decide) (congrFun hR.1 _) rfl 7 (by decide) (hts _ (wz_in qF_X7_19)) rfl dX7_stir_16 ?_
      refine lv_iload_n hx hb dX7_stir_19 rfl (lv_at hl 1 rfl) ?_
      refine lv_bipush (v := (nI 8)) hx hb dX7_stir_20 (by decide) ?_
      refine lv_idiv hx hb dX7_stir_22 (by decide) ?_
      refine lv_aload_n hx hb dX7_stir_23 rfl (lv_at hl 0 rfl) ?_
      refine r_get (v := .ref (gA G (β + 4))) hx hb hts hinX7 hown hE hw hn 0 (by decide) (congrFun hR.1 _) rfl 7 (by decide) (hts _ (wz_in qF_X7_19)) rfl dX7_stir_24 ?_
      refine lv_iconst (v := (nI 5)) hx hb dX7_stir_27 (by decide) ?_
      refine p_iald hx hb hE hw hn 4 (by decide) (congrFun hR.2.2.2.2.1) dX7_stir_28 h (fun v28 h => ?_)
      obtain ⟨hz29, h⟩ := nz_some h
      refine lv_irem hx hb dX7_stir_29 hz29 ?_
      refine lv_iconst (v := (nI 2)) hx hb dX7_stir_30 (by decide) ?_
      obtain ⟨v31, h31, h⟩ := cr1_some h
      refine r_callS (As := [.int ((a1 / (nI 8)) - (a1 / (nI 8)) / v28 * v28), .int (nI 2)]) (rest := [.ref (gA G (β + 4))]) (st1 := [.int v31, .ref (gA G (β + 4))]) hx hb hml hown hts hE hw hl (mX7_convoyAt l G (M := (wB M β 8 S)) h31) (va_cwS 2 hts (zS gS_X7_51) rfl rfl rfl kdX7_convoyAt ⟨Nat.le_of_ble_eq_true rfl, Nat.le_of_ble_eq_true rfl⟩) rfl rfl (Nat.le_of_ble_eq_true rfl) dX7_stir_31 ⟨Nat.zero_le _, Nat.zero_le _⟩ rfl (fun H locs hw => ?_)
      refine lv_iload_n hx hb dX7_stir_34 rfl (lv_at hl 1 rfl) ?_
      refine lv_bipush (v := (nI 64)) hx hb dX7_stir_35 (by decide) ?_
      refine lv_idiv hx hb dX7_stir_37 (by decide) ?_
      refine lv_bipush (v := (nI 6)) hx hb dX7_stir_38 (by decide) ?_
      refine lv_irem hx hb dX7_stir_40 (by decide) ?_
      refine p_iast hx hb hE hw hn 4 (by decide) (congrFun hR.2.2.2.2.1) dX7_stir_41 h (fun S41 h H locs hw => ?_)
      exact k42  a1 S41 _ _ _ h hw (lv_sub hl [0, 1] rfl)

set_option maxHeartbeats 4000000 in
set_option maxRecDepth 100000 in
theorem mX7_simulate (l : Launch) (G : mG) {β : Nat} {M S S' : mM} {a1 : Int64} {a2 : Int32} {r : Int32} (hn : β + 8 ≤ gN G) (hR : isMod G β) (h : pX7_simulate a1 a2 S = some (r, S')) : MC l G yX7_simulate zzX7_simulate 6 140 [.ref (gA G (β + 0)), .long a1, .int a2] (wB M β 8 S) (wB M β 8 S') (some (.int r)) := by
  refine mc_of (cc := cX7_simulate) (maxL := 7) (ret := (some .int)) (by decide) rfl (Nat.le_of_ble_eq_true rfl) ?_
  intro p e s m args below meth c H ls hx hb hr hts hown hml hlocks hE hw hl
  have hl : lv_has ls 7 [(0, .ref (gA G (β + 0))), (1, .long a1), (3, .int a2)] := hl
  have hinX7 : ∀ w ∈ wsX70, w ∈ zzX7_simulate := fun w h9 => wz_in (zinX7 w h9)
  have k36 : ∀ (k : Nat), ∀ (x3 : Int32) (x4 : Int64) (x6 : Int32) (S : mM) (H : Heap) (locs : List Loc) (ls : Array Slot), pX7_simulate_l36  k x3 x4 x6 S = some (r, S') → mW G s (wB M β 8 S) H locs → lv_has ls 7 [(0, .ref (gA G (β + 0))), (3, .int x3), (4, .long x4), (6, .int x6)] → W p l e { frames := 6, cells := 0, slots := 0, locals := 140 } s m args below meth c H locs 0 0 (mZ below G (some (.int r)) (wB M β 8 S') args s) (F0 m 36 ls []) := by
    intro k
    induction k with
    | zero => intro x3 x4 x6 S H locs ls h; cases h
    | succ k hih36 =>
      intro x3 x4 x6 S H locs ls h hw hl
      obtain ⟨ih36, hk36⟩ : ∃ f, f = pX7_simulate_l36  k := ⟨_, rfl⟩
      replace h : pX7_simulate_lb36  (pX7_simulate_l36  k) x3 x4 x6 S = some (r, S') := h
      rw [← hk36] at h hih36
      clear hk36
      unfold pX7_simulate_lb36 at h
      refine lv_iload hx hb dX7_simulate_36 (lv_at hl 3 rfl) ?_
      refine lv_iload_n hx hb dX7_simulate_38 rfl (lv_at hl 1 rfl) ?_
      refine bi_ge (tgt := 78) hx hb dX7_simulate_39 (by decide) h (fun h => ?_) (fun h => ?_)
      · refine lv_sipush (v := (nI 10000)) hx hb dX7_simulate_78 (by decide) ?_
        refine lv_aload_n hx hb dX7_simulate_81 rfl (lv_at hl 0 rfl) ?_
        refine r_get (v := .ref (gA G (β + 4))) hx hb hts hinX7 hown hE hw hn 0 (by decide) (congrFun hR.1 _) rfl 7 (by decide) (hts _ (wz_in qF_X7_19)) rfl dX7_simulate_82 ?_
        refine lv_iconst (v := (nI 2)) hx hb dX7_simulate_85 (by decide) ?_
        obtain ⟨v86, h86, h⟩ := cr1_some h
        refine r_callS (As := [.ref (gA G (β + 4)), .int (nI 2)]) (rest := [.int (nI 10000)]) (st1 := [.int v86, .int (nI 10000)]) hx hb hml hown hts hE hw hl (mc_subR 4 1 (by decide) (mX7_countAt l G (by show β + 4 + 1 ≤ _; omega) hR.2.2.2.2.1 h86)) (va_cwS 2 hts (zS gS_X7_130) rfl rfl rfl kdX7_countAt ⟨Nat.le_of_ble_eq_true rfl, Nat.le_of_ble_eq_true rfl⟩) rfl rfl (Nat.le_of_ble_eq_true rfl) dX7_simulate_86 ⟨Nat.zero_le _, Nat.zero_le _⟩ rfl (fun H locs hw => ?_)
        refine lv_aload_n hx hb dX7_simulate_89 rfl (lv_at hl 0 rfl) ?_
        refine r_get (v := .ref (gA G (β + 3))) hx hb hts hinX7 hown hE hw hn 0 (by decide) (congrFun hR.1 _) rfl 6 (by decide) (hts _ (wz_in qF_X7_16)) rfl dX7_simulate_90 ?_
        refine lv_iconst (v := (nI 2)) hx hb dX7_simulate_93 (by decide) ?_
        obtain ⟨v94, h94, h⟩ := cr1_some h
        refine r_callS (As := [.ref (gA G (β + 3)), .int (nI 2)]) (rest := [.int v86, .int (nI 10000)]) (st1 := [.int v94, .int v86, .int (nI 10000)]) hx hb hml hown hts hE hw hl (mc_subR 3 1 (by decide) (mX7_countAt l G (by show β + 3 + 1 ≤ _; omega) hR.2.2.2.1 h94)) (va_cwS 2 hts (zS gS_X7_130) rfl rfl rfl kdX7_countAt ⟨Nat.le_of_ble_eq_true rfl, Nat.le_of_ble_eq_true rfl⟩) rfl rfl (Nat.le_of_ble_eq_true rfl) dX7_simulate_94 ⟨Nat.zero_le _, Nat.zero_le _⟩ rfl (fun H locs hw => ?_)
        refine lv_isub hx hb dX7_simulate_97 ?_
        refine lv_imul hx hb dX7_simulate_98 ?_
        refine lv_aload_n hx hb dX7_simulate_99 rfl (lv_at hl 0 rfl) ?_
        refine r_get (v := .ref (gA G (β + 4))) hx hb hts hinX7 hown hE hw hn 0 (by decide) (congrFun hR.1 _) rfl 7 (by decide) (hts _ (wz_in qF_X7_19)) rfl dX7_simulate_100 ?_
        refine lv_bipush (v := (nI 7)) hx hb dX7_simulate_103 (by decide) ?_
        refine p_iald hx hb hE hw hn 4 (by decide) (congrFun hR.2.2.2.2.1) dX7_simulate_105 h (fun v105 h => ?_)
        refine lv_iadd hx hb dX7_simulate_106 ?_
        refine lv_aload_n hx hb dX7_simulate_107 rfl (lv_at hl 0 rfl) ?_
        refine r_get (v := .ref (gA G (β + 3))) hx hb hts hinX7 hown hE hw hn 0 (by decide) (congrFun hR.1 _) rfl 6 (by decide) (hts _ (wz_in qF_X7_16)) rfl dX7_simulate_108 ?_
        refine lv_bipush (v := (nI 7)) hx hb dX7_simulate_111 (by decide) ?_
        refine p_iald hx hb hE hw hn 3 (by decide) (congrFun hR.2.2.2.1) dX7_simulate_113 h (fun v113 h => ?_)
        refine lv_isub hx hb dX7_simulate_114 ?_
        exact e_iw hx hb hr hlocks hw dX7_simulate_115 h
      · refine lv_lload hx hb dX7_simulate_42 (lv_at hl 2 rfl) ?_
        refine lv_ldc2 (v := 6364136223846793005) hx hb hown (hts _ (wz_in qK_X7_283)) dX7_simulate_44 ?_
        refine lv_lmul hx hb dX7_simulate_47 ?_
        refine lv_ldc2 (v := 1442695040888963407) hx hb hown (hts _ (wz_in qK_X7_285)) dX7_simulate_48 ?_
        refine lv_ladd hx hb dX7_simulate_51 ?_
        refine p_topl h (fun v52 h => ?_)
        refine lv_lstore (lv' := [(4, .long v52), (0, .ref (gA G (β + 0))), (3, .int x3), (6, .int x6)]) hx hb dX7_simulate_52 hl (by decide) rfl (fun ls hl => ?_)
        refine lv_aload_n hx hb dX7_simulate_54 rfl (lv_at hl 1 rfl) ?_
        refine lv_lload hx hb dX7_simulate_55 (lv_at hl 0 rfl) ?_
        refine lv_bipush (v := (nI 33)) hx hb dX7_simulate_57 (by decide) ?_
        refine lv_lushr hx hb dX7_simulate_59 rfl ?_
        refine lv_l2i hx hb dX7_simulate_60 rfl ?_
        obtain ⟨S61, h61, h⟩ := cr1_some h
        refine r_callV (As := [.int (((v52.toUInt64 >>> (((nI 33).toInt64).toUInt64 &&& Int64.toUInt64 63)).toInt64).toInt32)]) (rest := []) (st1 := []) hx hb hml hown hts hE hw hl (mX7_stir l G (by omega) hR h61) (cwV 1 hts (zV gV_X7_287) rfl rfl rfl kdX7_stir ⟨Nat.le_of_ble_eq_true rfl, Nat.le_of_ble_eq_true rfl⟩) (by omega) (congrFun hR.1 _) rfl rfl rfl rfl (Nat.le_of_ble_eq_true rfl) dX7_simulate_61 ⟨Nat.zero_le _, Nat.zero_le _⟩ rfl (fun H locs hw => ?_)
        refine lv_aload_n hx hb dX7_simulate_64 rfl (lv_at hl 1 rfl) ?_
        refine lv_aload_n hx hb dX7_simulate_65 rfl (lv_at hl 1 rfl) ?_
        refine r_get (v := .ref (gA G (β + 4))) hx hb hts hinX7 hown hE hw hn 0 (by decide) (congrFun hR.1 _) rfl 7 (by decide) (hts _ (wz_in qF_X7_19)) rfl dX7_simulate_66 ?_
        obtain ⟨S69, h69, h⟩ := cr1_some h
        refine r_callV (As := [.ref (gA G (β + 4))]) (rest := []) (st1 := []) hx hb hml hown hts hE hw hl (mX7_goHour l G (by omega) hR (by decide) hR.2.2.2.2.1 h69) (cwV 1 hts (zV gV_X7_133) rfl rfl rfl kdX7_goHour ⟨Nat.le_of_ble_eq_true rfl, Nat.le_of_ble_eq_true rfl⟩) (by omega) (congrFun hR.1 _) rfl rfl rfl rfl (Nat.le_of_ble_eq_true rfl) dX7_simulate_69 ⟨Nat.zero_le _, Nat.zero_le _⟩ rfl (fun H locs hw => ?_)
        refine p_iinc (w := (nI 1)) 3 (fun v72 => [(6, .int v72), (4, .long v52), (0, .ref (gA G (β + 0))), (3, .int x3)]) hx hb dX7_simulate_72 hl rfl (by decide) (by decide) h (fun _ => rfl) (fun v72 h ls hl => ?_)
        refine lv_goto (tgt := 36) hx hb dX7_simulate_75 (by decide) ?_
        exact hih36 x3 v52 v72 S69 _ _ _ h hw (lv_sub hl [2, 3, 1, 0] rfl)
  have k18 : ∀ (x1 : Int64) (x3 : Int32) (t1 : Int32) (S : mM) (H : Heap) (locs : List Loc) (ls : Array Slot), pX7_simulate_b18  x1 x3 t1 S = some (r, S') → mW G s (wB M β 8 S) H locs → lv_has ls 7 [(0, .ref (gA G (β + 0))), (1, .long x1), (3, .int x3)] → W p l e { frames := 6, cells := 0, slots := 0, locals := 140 } s m args below meth c H locs 0 0 (mZ below G (some (.int r)) (wB M β 8 S') args s) (F0 m 18 ls [.int t1, .ref (gA G (β + 0))]) := by
    intro x1 x3 t1 S H locs ls h hw hl
    unfold pX7_simulate_b18 at h
    obtain ⟨v18, S18, h18, h⟩ := cw2_some h
    refine r_callV (As := [.int t1]) (rest := []) (st1 := [.int v18]) hx hb hml hown hts hE hw hl (mX7_refused l G (by omega) hR h18) (cwV 1 hts (zV gV_X7_146) rfl rfl rfl kdX7_refused ⟨Nat.le_of_ble_eq_true rfl, Nat.le_of_ble_eq_true rfl⟩) (by omega) (congrFun hR.1 _) rfl rfl rfl rfl (Nat.le_of_ble_eq_true rfl) dX7_simulate_18 ⟨Nat.zero_le _, Nat.zero_le _⟩ rfl (fun H locs hw => ?_)
    refine b_eq (tgt := 26) hx hb dX7_simulate_21 (by decide) h (fun h => ?_) (fun h => ?_)
    · refine lv_aload_n hx hb dX7_simulate_26 rfl (lv_at hl 0 rfl) ?_
      obtain ⟨S27, h27, h⟩ := cr1_some h
      refine r_callV (As := []) (rest := []) (st1 := []) hx hb hml hown hts hE hw hl (mX7_begin l G (by omega) hR h27) (cwV 0 hts (zV gV_X7_264) rfl rfl rfl kdX7_begin ⟨Nat.le_of_ble_eq_true rfl, Nat.le_of_ble_eq_true rfl⟩) (by omega) (congrFun hR.1 _) rfl rfl rfl rfl (Nat.le_of_ble_eq_true rfl) dX7_simulate_27 ⟨Nat.zero_le _, Nat.zero_le _⟩ rfl (fun H locs hw => ?_)
      refine lv_lload_n hx hb dX7_simulate_30 rfl (lv_at hl 1 rfl) ?_
      refine lv_lstore (lv' := [(4, .long x1), (0, .ref (gA G (β + 0))), (1, .long x1), (3, .int x3)]) hx hb dX7_simulate_31 hl (by decide) rfl (fun ls hl => ?_)
      refine lv_iconst (v := (nI 0)) hx hb dX7_simulate_33 (by decide) ?_
      refine lv_istore (lv' := [(6, .int (nI 0)), (4, .long x1), (0, .ref (gA G (β + 0))), (1, .long x1), (3, .int x3)]) hx hb dX7_simulate_34 hl (by decide) rfl (fun ls hl => ?_)
      exact k36 fuel x3 x1 (nI 0) S27 _ _ _ h hw (lv_sub hl [2, 4, 1, 0] rfl)
    · refine lv_iconst (v := (nI 0)) hx hb dX7_simulate_24 (by decide) ?_
      exact e_iw hx hb hr hlocks hw dX7_simulate_25 h
  unfold pX7_simulate at h
  refine lv_aload_n hx hb dX7_simulate_0 rfl (lv_at hl 0 rfl) ?_
  refine lv_iload_n hx hb dX7_simulate_1 rfl (lv_at hl 2 rfl) ?_
  refine lv_i2l hx hb dX7_simulate_2 rfl ?_
  refine lv_lconst (v := (lN 1)) hx hb dX7_simulate_3 (by decide) ?_
  refine lv_ldc2 (v := (lN 99)) hx hb hown (hts _ (wz_in qK_X7_252)) dX7_simulate_4 ?_
  obtain ⟨v7, h7, h⟩ := cr1_some h
  refine r_callS (As := [.long (a2.toInt64), .long (lN 1), .long (lN 99)]) (rest := [.ref (gA G (β + 0))]) (st1 := [.int v7, .ref (gA G (β + 0))]) hx hb hml hown hts hE hw hl (mX7_in l G (M := (wB M β 8 S)) h7) (va_cwS 3 hts (zS gS_X7_139) rfl rfl rfl kdX7_in ⟨Nat.le_of_ble_eq_true rfl, Nat.le_of_ble_eq_true rfl⟩) rfl rfl (Nat.le_of_ble_eq_true rfl) dX7_simulate_7 ⟨Nat.zero_le _, Nat.zero_le _⟩ rfl (fun H locs hw => ?_)
  refine b_eq (tgt := 17) hx hb dX7_simulate_10 (by decide) h (fun h => ?_) (fun h => ?_)
  · refine lv_iconst (v := (nI 1)) hx hb dX7_simulate_17 (by decide) ?_
    exact k18  a1 a2 (nI 1) S _ _ _ h hw (lv_sub hl [0, 1, 2] rfl)
  · refine lv_iconst (v := (nI 0)) hx hb dX7_simulate_13 (by decide) ?_
    refine lv_goto (tgt := 18) hx hb dX7_simulate_14 (by decide) ?_
    exact k18  a1 a2 (nI 0) S _ _ _ h hw (lv_sub hl [0, 1, 2] rfl)

set_option maxHeartbeats 4000000 in
set_option maxRecDepth 100000 in
theorem mX7_save (l : Launch) (G : mG) {β : Nat} {M S S' : mM} {a1 : Int32} {r : Int32} (hn : β + 8 ≤ gN G) (hR : isMod G β) (h : pX7_save a1 S = some (r, S')) : MC l G yX7_save zzX7_save 1 25 [.ref (gA G (β + 0)), .int a1] (wB M β 8 S) (wB M β 8 S') (some (.int r)) := by
  refine mc_of (cc := cX7_save) (maxL := 2) (ret := (some .int)) (by decide) rfl (Nat.le_of_ble_eq_true rfl) ?_
  intro p e s m args below meth c H ls hx hb hr hts hown hml hlocks hE hw hl
  have hl : lv_has ls 2 [(0, .ref (gA G (β + 0))), (1, .int a1)] := hl
  have hinX7 : ∀ w ∈ wsX70, w ∈ zzX7_save := fun w h9 => wz_in (zinX7 w h9)
  have k16 : ∀ (x1 : Int32) (t1 : Int32) (S : mM) (H : Heap) (locs : List Loc) (ls : Array Slot), pX7_save_b16  x1 t1 S = some (r, S') → mW G s (wB M β 8 S) H locs → lv_has ls 2 [(0, .ref (gA G (β + 0))), (1, .int x1)] → W p l e { frames := 1, cells := 0, slots := 0, locals := 25 } s m args below meth c H locs 0 0 (mZ below G (some (.int r)) (wB M β 8 S') args s) (F0 m 16 ls [.int t1, .ref (gA G (β + 0))]) := by
    intro x1 t1 S H locs ls h hw hl
    unfold pX7_save_b16 at h
    obtain ⟨v16, S16, h16, h⟩ := cw2_some h
    refine r_callV (As := [.int t1]) (rest := []) (st1 := [.int v16]) hx hb hml hown hts hE hw hl (mX7_refused l G (by omega) hR h16) (cwV 1 hts (zV gV_X7_146) rfl rfl rfl kdX7_refused ⟨Nat.le_of_ble_eq_true rfl, Nat.le_of_ble_eq_true rfl⟩) (by omega) (congrFun hR.1 _) rfl rfl rfl rfl (Nat.le_of_ble_eq_true rfl) dX7_save_16 ⟨Nat.zero_le _, Nat.zero_le _⟩ rfl (fun H locs hw => ?_)
    refine b_eq (tgt := 24) hx hb dX7_save_19 (by decide) h (fun h => ?_) (fun h => ?_)
    · refine lv_aload_n hx hb dX7_save_24 rfl (lv_at hl 0 rfl) ?_
      refine r_get (v := .ref (gA G (β + 3))) hx hb hts hinX7 hown hE hw hn 0 (by decide) (congrFun hR.1 _) rfl 6 (by decide) (hts _ (wz_in qF_X7_16)) rfl dX7_save_25 ?_
      refine lv_iconst (v := (nI 0)) hx hb dX7_save_28 (by decide) ?_
      refine lv_aload_n hx hb dX7_save_29 rfl (lv_at hl 0 rfl) ?_
      refine r_get (v := .ref (gA G (β + 6))) hx hb hts hinX7 hown hE hw hn 0 (by decide) (congrFun hR.1 _) rfl 10 (by decide) (hts _ (wz_in qF_X7_25)) rfl dX7_save_30 ?_
      refine lv_sipush (v := (nI 250)) hx hb dX7_save_33 (by decide) ?_
      refine lv_iload_n hx hb dX7_save_36 rfl (lv_at hl 1 rfl) ?_
      refine lv_imul hx hb dX7_save_37 ?_
      refine lv_sipush (v := (nI 250)) hx hb dX7_save_38 (by decide) ?_
      obtain ⟨S41, h41, h⟩ := cr1_some h
      refine r_callS (As := [.ref (gA G (β + 3)), .int (nI 0), .ref (gA G (β + 6)), .int ((nI 250) * x1), .int (nI 250)]) (rest := []) (st1 := []) hx hb hml hown hts hE hw hl (mX7_copy l G (by omega) hR (by decide) (by decide) hR.2.2.2.1 hR.2.2.2.2.2.2.1 h41) (va_cwS 5 hts (zS gS_X7_47) rfl rfl rfl kdX7_copy ⟨Nat.le_of_ble_eq_true rfl, Nat.le_of_ble_eq_true rfl⟩) rfl rfl (Nat.le_of_ble_eq_true rfl) dX7_save_41 ⟨Nat.zero_le _, Nat.zero_le _⟩ rfl (fun H locs hw => ?_)
      refine lv_aload_n hx hb dX7_save_44 rfl (lv_at hl 0 rfl) ?_
      refine r_get (v := .ref (gA G (β + 7))) hx hb hts hinX7 hown hE hw hn 0 (by decide) (congrFun hR.1 _) rfl 11 (by decide) (hts _ (wz_in qF_X7_28)) rfl dX7_save_45 ?_
      refine lv_iload_n hx hb dX7_save_48 rfl (lv_at hl 1 rfl) ?_
      refine lv_iconst (v := (nI 1)) hx hb dX7_save_49 (by decide) ?_
      refine p_zast hx hb hE hw hn 7 (by decide) (congrFun hR.2.2.2.2.2.2.2) dX7_save_50 h (fun S50 h H locs hw => ?_)
      refine lv_aload_n hx hb dX7_save_51 rfl (lv_at hl 0 rfl) ?_
      refine r_get (v := .ref (gA G (β + 3))) hx hb hts hinX7 hown hE hw hn 0 (by decide) (congrFun hR.1 _) rfl 6 (by decide) (hts _ (wz_in qF_X7_16)) rfl dX7_save_52 ?_
      refine lv_iconst (v := (nI 1)) hx hb dX7_save_55 (by decide) ?_
      refine p_iald hx hb hE hw hn 3 (by decide) (congrFun hR.2.2.2.1) dX7_save_56 h (fun v56 h => ?_)
      exact e_iw hx hb hr hlocks hw dX7_save_57 h
    · refine lv_iconst (v := (nI 0)) hx hb dX7_save_22 (by decide) ?_
      exact e_iw hx hb hr hlocks hw dX7_save_23 h
  unfold pX7_save at h
  refine lv_aload_n hx hb dX7_save_0 rfl (lv_at hl 0 rfl) ?_
  refine lv_iload_n hx hb dX7_save_1 rfl (lv_at hl 1 rfl) ?_
  refine lv_i2l hx hb dX7_save_2 rfl ?_
  refine lv_lconst (v := (lN 0)) hx hb dX7_save_3 (by decide) ?_
  refine lv_lconst (v := (lN 1)) hx hb dX7_save_4 (by decide) ?_
  obtain ⟨v5, h5, h⟩ := cr1_some h
  refine r_callS (As := [.long (a1.toInt64), .long (lN 0), .long (lN 1)]) (rest := [.ref (gA G (β + 0))]) (st1 := [.int v5, .ref (gA G (β + 0))]) hx hb hml hown hts hE hw hl (mX7_in l G (M := (wB M β 8 S)) h5) (va_cwS 3 hts (zS gS_X7_139) rfl rfl rfl kdX7_in ⟨Nat.le_of_ble_eq_true rfl, Nat.le_of_ble_eq_true rfl⟩) rfl rfl (Nat.le_of_ble_eq_true rfl) dX7_save_5 ⟨Nat.zero_le _, Nat.zero_le _⟩ rfl (fun H locs hw => ?_)
  refine b_eq (tgt := 15) hx hb dX7_save_8 (by decide) h (fun h => ?_) (fun h => ?_)
  · refine lv_iconst (v := (nI 1)) hx hb dX7_save_15 (by decide) ?_
    exact k16  a1 (nI 1) S _ _ _ h hw (lv_sub hl [0, 1] rfl)
  · refine lv_iconst (v := (nI 0)) hx hb dX7_save_11 (by decide) ?_
    refine lv_goto (tgt := 16) hx hb dX7_save_12 (by decide) ?_
    exact k16  a1 (nI 0) S _ _ _ h hw (lv_sub hl [0, 1] rfl)

set_option maxHeartbeats 4000000 in
set_option maxRecDepth 100000 in
theorem mX7_restore (l : Launch) (G : mG) {β : Nat} {M S S' : mM} {a1 : Int32} {r : Int32} (hn : β + 8 ≤ gN G) (hR : isMod G β) (h : pX7_restore a1 S = some (r, S')) : MC l G yX7_restore zzX7_restore 1 25 [.ref (gA G (β + 0)), .int a1] (wB M β 8 S) (wB M β 8 S') (some (.int r)) := by
  refine mc_of (cc := cX7_restore) (maxL := 2) (ret := (some .int)) (by decide) rfl (Nat.le_of_ble_eq_true rfl) ?_
  intro p e s m args below meth c H ls hx hb hr hts hown hml hlocks hE hw hl
  have hl : lv_has ls 2 [(0, .ref (gA G (β + 0))), (1, .int a1)] := hl
  have hinX7 : ∀ w ∈ wsX70, w ∈ zzX7_restore := fun w h9 => wz_in (zinX7 w h9)
  have k29 : ∀ (x1 : Int32) (t1 : Int32) (S : mM) (H : Heap) (locs : List Loc) (ls : Array Slot), pX7_restore_b29  x1 t1 S = some (r, S') → mW G s (wB M β 8 S) H locs → lv_has ls 2 [(0, .ref (gA G (β + 0))), (1, .int x1)] → W p l e { frames := 1, cells := 0, slots := 0, locals := 25 } s m args below meth c H locs 0 0 (mZ below G (some (.int r)) (wB M β 8 S') args s) (F0 m 29 ls [.int t1, .ref (gA G (β + 0))]) := by
    intro x1 t1 S H locs ls h hw hl
    unfold pX7_restore_b29 at h
    obtain ⟨v29, S29, h29, h⟩ := cw2_some h
    refine r_callV (As := [.int t1]) (rest := []) (st1 := [.int v29]) hx hb hml hown hts hE hw hl (mX7_refused l G (by omega) hR h29) (cwV 1 hts (zV gV_X7_146) rfl rfl rfl kdX7_refused ⟨Nat.le_of_ble_eq_true rfl, Nat.le_of_ble_eq_true rfl⟩) (by omega) (congrFun hR.1 _) rfl rfl rfl rfl (Nat.le_of_ble_eq_true rfl) dX7_restore_29 ⟨Nat.zero_le _, Nat.zero_le _⟩ rfl (fun H locs hw => ?_)
    refine b_eq (tgt := 37) hx hb dX7_restore_32 (by decide) h (fun h => ?_) (fun h => ?_)
    · refine lv_aload_n hx hb dX7_restore_37 rfl (lv_at hl 0 rfl) ?_
      refine r_get (v := .ref (gA G (β + 6))) hx hb hts hinX7 hown hE hw hn 0 (by decide) (congrFun hR.1 _) rfl 10 (by decide) (hts _ (wz_in qF_X7_25)) rfl dX7_restore_38 ?_
      refine lv_sipush (v := (nI 250)) hx hb dX7_restore_41 (by decide) ?_
      refine lv_iload_n hx hb dX7_restore_44 rfl (lv_at hl 1 rfl) ?_
      refine lv_imul hx hb dX7_restore_45 ?_
      refine lv_aload_n hx hb dX7_restore_46 rfl (lv_at hl 0 rfl) ?_
      refine r_get (v := .ref (gA G (β + 3))) hx hb hts hinX7 hown hE hw hn 0 (by decide) (congrFun hR.1 _) rfl 6 (by decide) (hts _ (wz_in qF_X7_16)) rfl dX7_restore_47 ?_
      refine lv_iconst (v := (nI 0)) hx hb dX7_restore_50 (by decide) ?_
      refine lv_sipush (v := (nI 250)) hx hb dX7_restore_51 (by decide) ?_
      obtain ⟨S54, h54, h⟩ := cr1_some h
      refine r_callS (As := [.ref (gA G (β + 6)), .int ((nI 250) * x1), .ref (gA G (β + 3)), .int (nI 0), .int (nI 250)]) (rest := []) (st1 := []) hx hb hml hown hts hE hw hl (mX7_copy l G (by omega) hR (by decide) (by decide) hR.2.2.2.2.2.2.1 hR.2.2.2.1 h54) (va_cwS 5 hts (zS gS_X7_47) rfl rfl rfl kdX7_copy ⟨Nat.le_of_ble_eq_true rfl, Nat.le_of_ble_eq_true rfl⟩) rfl rfl (Nat.le_of_ble_eq_true rfl) dX7_restore_54 ⟨Nat.zero_le _, Nat.zero_le _⟩ rfl (fun H locs hw => ?_)
      refine lv_aload_n hx hb dX7_restore_57 rfl (lv_at hl 0 rfl) ?_
      refine lv_iconst (v := (nI 0)) hx hb dX7_restore_58 (by decide) ?_
      refine p_put hx hb hts hinX7 tyX7 tyX7_ok nmX7 hown hE hw hn 0 (by decide) (congrFun hR.1 _) rfl 9 (by decide) (hts _ (wz_in qF_X7_44)) rfl (by decide +kernel) (Nat.le_of_ble_eq_true rfl) (congrFun hR.1 _) dX7_restore_59 h (fun S59 h H locs hw => ?_)
      refine lv_aload_n hx hb dX7_restore_62 rfl (lv_at hl 0 rfl) ?_
      refine r_get (v := .ref (gA G (β + 3))) hx hb hts hinX7 hown hE hw hn 0 (by decide) (congrFun hR.1 _) rfl 6 (by decide) (hts _ (wz_in qF_X7_16)) rfl dX7_restore_63 ?_
      refine lv_iconst (v := (nI 1)) hx hb dX7_restore_66 (by decide) ?_
      refine p_iald hx hb hE hw hn 3 (by decide) (congrFun hR.2.2.2.1) dX7_restore_67 h (fun v67 h => ?_)
      exact e_iw hx hb hr hlocks hw dX7_restore_68 h
    · refine lv_iconst (v := (nI 0)) hx hb dX7_restore_35 (by decide) ?_
      exact e_iw hx hb hr hlocks hw dX7_restore_36 h
  unfold pX7_restore at h
  refine lv_aload_n hx hb dX7_restore_0 rfl (lv_at hl 0 rfl) ?_
  refine lv_iload_n hx hb dX7_restore_1 rfl (lv_at hl 1 rfl) ?_
  refine lv_i2l hx hb dX7_restore_2 rfl ?_
  refine lv_lconst (v := (lN 0)) hx hb dX7_restore_3 (by decide) ?_
  refine lv_lconst (v := (lN 1)) hx hb dX7_restore_4 (by decide) ?_
  obtain ⟨v5, h5, h⟩ := cr1_some h
  refine r_callS (As := [.long (a1.toInt64), .long (lN 0), .long (lN 1)]) (rest := [.ref (gA G (β + 0))]) (st1 := [.int v5, .ref (gA G (β + 0))]) hx hb hml hown hts hE hw hl (mX7_in l G (M := (wB M β 8 S)) h5) (va_cwS 3 hts (zS gS_X7_139) rfl rfl rfl kdX7_in ⟨Nat.le_of_ble_eq_true rfl, Nat.le_of_ble_eq_true rfl⟩) rfl rfl (Nat.le_of_ble_eq_true rfl) dX7_restore_5 ⟨Nat.zero_le _, Nat.zero_le _⟩ rfl (fun H locs hw => ?_)
  refine b_ne (tgt := 15) hx hb dX7_restore_8 (by decide) h (fun h => ?_) (fun h => ?_)
  · refine lv_aload_n hx hb dX7_restore_15 rfl (lv_at hl 0 rfl) ?_
    refine r_get (v := .ref (gA G (β + 7))) hx hb hts hinX7 hown hE hw hn 0 (by decide) (congrFun hR.1 _) rfl 11 (by decide) (hts _ (wz_in qF_X7_28)) rfl dX7_restore_16 ?_
    refine lv_iload_n hx hb dX7_restore_19 rfl (lv_at hl 1 rfl) ?_
    refine p_zald hx hb hE hw hn 7 (by decide) (congrFun hR.2.2.2.2.2.2.2) dX7_restore_20 h (fun v20 h => ?_)
    refine b_eq (tgt := 28) hx hb dX7_restore_21 (by decide) h (fun h => ?_) (fun h => ?_)
    · refine lv_iconst (v := (nI 2)) hx hb dX7_restore_28 (by decide) ?_
      exact k29  a1 (nI 2) S _ _ _ h hw (lv_sub hl [0, 1] rfl)
    · refine lv_iconst (v := (nI 0)) hx hb dX7_restore_24 (by decide) ?_
      refine lv_goto (tgt := 29) hx hb dX7_restore_25 (by decide) ?_
      exact k29  a1 (nI 0) S _ _ _ h hw (lv_sub hl [0, 1] rfl)
  · refine lv_iconst (v := (nI 1)) hx hb dX7_restore_11 (by decide) ?_
    refine lv_goto (tgt := 29) hx hb dX7_restore_12 (by decide) ?_
    exact k29  a1 (nI 1) S _ _ _ h hw (lv_sub hl [0, 1] rfl)
