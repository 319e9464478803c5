/-! ===== walks, by program ===== -/
set_option maxHeartbeats 4000000 in
set_option maxRecDepth 100000 in
theorem mX7_convoy (l : Launch) (G : mG) {β : Nat} {M S S' : mM} {a1 : Int32} {a2 : Int32} {r : Int32} (hn : β + 8 ≤ gN G) (hR : isMod G β) (h : pX7_convoy a1 a2 S = some (r, S')) : MC l G yX7_convoy zzX7_convoy 3 67 [.ref (gA G (β + 0)), .int a1, .int a2] (wB M β 8 S) (wB M β 8 S') (some (.int r)) := by
  refine mc_of (cc := cX7_convoy) (maxL := 3) (ret := (some .int)) (by decide) rfl (Nat.le_of_ble_eq_true rfl) ?_
  intro p e s m args below meth c H ls hx hb hr hts hown hml hlocks hE hw hl
  have hl : lv_has ls 3 [(0, .ref (gA G (β + 0))), (1, .int a1), (2, .int a2)] := hl
  have hinX7 : ∀ w ∈ wsX70, w ∈ zzX7_convoy := fun w h9 => wz_in (zinX7 w h9)
  have k30 : ∀ (x1 : Int32) (x2 : Int32) (t1 : Int32) (S : mM) (H : Heap) (locs : List Loc) (ls : Array Slot), pX7_convoy_b30  x1 x2 t1 S = some (r, S') → mW G s (wB M β 8 S) H locs → lv_has ls 3 [(0, .ref (gA G (β + 0))), (1, .int x1), (2, .int x2)] → W p l e { frames := 3, cells := 0, slots := 0, locals := 67 } s m args below meth c H locs 0 0 (mZ below G (some (.int r)) (wB M β 8 S') args s) (F0 m 30 ls [.int t1, .ref (gA G (β + 0))]) := by
    intro x1 x2 t1 S H locs ls h hw hl
    unfold pX7_convoy_b30 at h
    obtain ⟨v30, S30, h30, h⟩ := cw2_some h
    refine r_callV (As := [.int t1]) (rest := []) (st1 := [.int v30]) hx hb hml hown hts hE hw hl (mX7_refused l G (by omega) hR h30) (cwV 1 hts (zV gV_X7_146) rfl rfl rfl kdX7_refused ⟨Nat.le_of_ble_eq_true rfl, Nat.le_of_ble_eq_true rfl⟩) (by omega) (congrFun hR.1 _) rfl rfl rfl rfl (Nat.le_of_ble_eq_true rfl) dX7_convoy_30 ⟨Nat.zero_le _, Nat.zero_le _⟩ rfl (fun H locs hw => ?_)
    refine b_eq (tgt := 38) hx hb dX7_convoy_33 (by decide) h (fun h => ?_) (fun h => ?_)
    · refine lv_iload_n hx hb dX7_convoy_38 rfl (lv_at hl 2 rfl) ?_
      refine sw_if h (fun hc0 h => ?_) (fun hc0 h => ?_)
      · rw [hc0]
        refine lv_tableIn (off := 45) (tgt := 84) hx hb dX7_convoy_39 (by decide) (by decide) rfl (by decide) ?_
        refine lv_aload_n hx hb dX7_convoy_84 rfl (lv_at hl 0 rfl) ?_
        refine r_get (v := .ref (gA G (β + 3))) hx hb hts hinX7 hown hE hw hn 0 (by decide) (congrFun hR.1 _) rfl 6 (by decide) (hts _ (wz_in qF_X7_16)) rfl dX7_convoy_85 ?_
        refine lv_iload_n hx hb dX7_convoy_88 rfl (lv_at hl 1 rfl) ?_
        refine lv_iload_n hx hb dX7_convoy_89 rfl (lv_at hl 2 rfl) ?_
        obtain ⟨v90, h90, h⟩ := cr1_some h
        refine r_callS (As := [.int x1, .int x2]) (rest := [.ref (gA G (β + 3))]) (st1 := [.int v90, .ref (gA G (β + 3))]) hx hb hml hown hts hE hw hl (mX7_convoyAt l G (M := (wB M β 8 S30)) h90) (va_cwS 2 hts (zS gS_X7_51) rfl rfl rfl kdX7_convoyAt ⟨Nat.le_of_ble_eq_true rfl, Nat.le_of_ble_eq_true rfl⟩) rfl rfl (Nat.le_of_ble_eq_true rfl) dX7_convoy_90 ⟨Nat.zero_le _, Nat.zero_le _⟩ rfl (fun H locs hw => ?_)
        refine p_iald hx hb hE hw hn 3 (by decide) (congrFun hR.2.2.2.1) dX7_convoy_93 h (fun v93 h => ?_)
        exact e_iw hx hb hr hlocks hw dX7_convoy_94 h
      refine sw_if h (fun hc1 h => ?_) (fun hc1 h => ?_)
      · rw [hc1]
        refine lv_tableIn (off := 45) (tgt := 84) hx hb dX7_convoy_39 (by decide) (by decide) rfl (by decide) ?_
        refine lv_aload_n hx hb dX7_convoy_84 rfl (lv_at hl 0 rfl) ?_
        refine r_get (v := .ref (gA G (β + 3))) hx hb hts hinX7 hown hE hw hn 0 (by decide) (congrFun hR.1 _) rfl 6 (by decide) (hts _ (wz_in qF_X7_16)) rfl dX7_convoy_85 ?_
        refine lv_iload_n hx hb dX7_convoy_88 rfl (lv_at hl 1 rfl) ?_
        refine lv_iload_n hx hb dX7_convoy_89 rfl (lv_at hl 2 rfl) ?_
        obtain ⟨v90, h90, h⟩ := cr1_some h
        refine r_callS (As := [.int x1, .int x2]) (rest := [.ref (gA G (β + 3))]) (st1 := [.int v90, .ref (gA G (β + 3))]) hx hb hml hown hts hE hw hl (mX7_convoyAt l G (M := (wB M β 8 S30)) h90) (va_cwS 2 hts (zS gS_X7_51) rfl rfl rfl kdX7_convoyAt ⟨Nat.le_of_ble_eq_true rfl, Nat.le_of_ble_eq_true rfl⟩) rfl rfl (Nat.le_of_ble_eq_true rfl) dX7_convoy_90 ⟨Nat.zero_le _, Nat.zero_le _⟩ rfl (fun H locs hw => ?_)
        refine p_iald hx hb hE hw hn 3 (by decide) (congrFun hR.2.2.2.1) dX7_convoy_93 h (fun v93 h => ?_)
        exact e_iw hx hb hr hlocks hw dX7_convoy_94 h
      refine sw_if h (fun hc2 h => ?_) (fun hc2 h => ?_)
      · rw [hc2]
        refine lv_tableIn (off := 56) (tgt := 95) hx hb dX7_convoy_39 (by decide) (by decide) rfl (by decide) ?_
        refine lv_aload_n hx hb dX7_convoy_95 rfl (lv_at hl 0 rfl) ?_
        refine r_get (v := .ref (gA G (β + 3))) hx hb hts hinX7 hown hE hw hn 0 (by decide) (congrFun hR.1 _) rfl 6 (by decide) (hts _ (wz_in qF_X7_16)) rfl dX7_convoy_96 ?_
        refine lv_iload_n hx hb dX7_convoy_99 rfl (lv_at hl 1 rfl) ?_
        obtain ⟨v100, h100, h⟩ := cr1_some h
        refine r_callS (As := [.ref (gA G (β + 3)), .int x1]) (rest := []) (st1 := [.int v100]) hx hb hml hown hts hE hw hl (mc_subR 3 1 (by decide) (mX7_slowest l G (by show β + 3 + 1 ≤ _; omega) hR.2.2.2.1 h100)) (va_cwS 2 hts (zS gS_X7_103) rfl rfl rfl kdX7_slowest ⟨Nat.le_of_ble_eq_true rfl, Nat.le_of_ble_eq_true rfl⟩) rfl rfl (Nat.le_of_ble_eq_true rfl) dX7_convoy_100 ⟨Nat.zero_le _, Nat.zero_le _⟩ rfl (fun H locs hw => ?_)
        exact e_iw hx hb hr hlocks hw dX7_convoy_103 h
      refine sw_if h (fun hc3 h => ?_) (fun hc3 h => ?_)
      · rw [hc3]
        refine lv_tableIn (off := 91) (tgt := 130) hx hb dX7_convoy_39 (by decide) (by decide) rfl (by decide) ?_
        refine lv_aload_n hx hb dX7_convoy_130 rfl (lv_at hl 0 rfl) ?_
        refine r_get (v := .ref (gA G (β + 3))) hx hb hts hinX7 hown hE hw hn 0 (by decide) (congrFun hR.1 _) rfl 6 (by decide) (hts _ (wz_in qF_X7_16)) rfl dX7_convoy_131 ?_
        refine lv_iload_n hx hb dX7_convoy_134 rfl (lv_at hl 1 rfl) ?_
        refine lv_iload_n hx hb dX7_convoy_135 rfl (lv_at hl 2 rfl) ?_
        refine lv_iconst (v := (nI 1)) hx hb dX7_convoy_136 (by decide) ?_
        refine lv_isub hx hb dX7_convoy_137 ?_
        obtain ⟨v138, h138, h⟩ := cr1_some h
        refine r_callS (As := [.int x1, .int (x2 - (nI 1))]) (rest := [.ref (gA G (β + 3))]) (st1 := [.int v138, .ref (gA G (β + 3))]) hx hb hml hown hts hE hw hl (mX7_convoyAt l G (M := (wB M β 8 S30)) h138) (va_cwS 2 hts (zS gS_X7_51) rfl rfl rfl kdX7_convoyAt ⟨Nat.le_of_ble_eq_true rfl, Nat.le_of_ble_eq_true rfl⟩) rfl rfl (Nat.le_of_ble_eq_true rfl) dX7_convoy_138 ⟨Nat.zero_le _, Nat.zero_le _⟩ rfl (fun H locs hw => ?_)
        refine p_iald hx hb hE hw hn 3 (by decide) (congrFun hR.2.2.2.1) dX7_convoy_141 h (fun v141 h => ?_)
        exact e_iw hx hb hr hlocks hw dX7_convoy_142 h
      refine sw_if h (fun hc4 h => ?_) (fun hc4 h => ?_)
      · rw [hc4]
        refine lv_tableIn (off := 91) (tgt := 130) hx hb dX7_convoy_39 (by decide) (by decide) rfl (by decide) ?_
        refine lv_aload_n hx hb dX7_convoy_130 rfl (lv_at hl 0 rfl) ?_
        refine r_get (v := .ref (gA G (β + 3))) hx hb hts hinX7 hown hE hw hn 0 (by decide) (congrFun hR.1 _) rfl 6 (by decide) (hts _ (wz_in qF_X7_16)) rfl dX7_convoy_131 ?_
        refine lv_iload_n hx hb dX7_convoy_134 rfl (lv_at hl 1 rfl) ?_
        refine lv_iload_n hx hb dX7_convoy_135 rfl (lv_at hl 2 rfl) ?_
        refine lv_iconst (v := (nI 1)) hx hb dX7_convoy_136 (by decide) ?_
        refine lv_isub hx hb dX7_convoy_137 ?_
        obtain ⟨v138, h138, h⟩ := cr1_some h
        refine r_callS (As := [.int x1, .int (x2 - (nI 1))]) (rest := [.ref (gA G (β + 3))]) (st1 := [.int v138, .ref (gA G (β + 3))]) hx hb hml hown hts hE hw hl (mX7_convoyAt l G (M := (wB M β 8 S30)) h138) (va_cwS 2 hts (zS gS_X7_51) rfl rfl rfl kdX7_convoyAt ⟨Nat.le_of_ble_eq_true rfl, Nat.le_of_ble_eq_true rfl⟩) rfl rfl (Nat.le_of_ble_eq_true rfl) dX7_convoy_138 ⟨Nat.zero_le _, Nat.zero_le _⟩ rfl (fun H locs hw => ?_)
        refine p_iald hx hb hE hw hn 3 (by decide) (congrFun hR.2.2.2.1) dX7_convoy_141 h (fun v141 h => ?_)
        exact e_iw hx hb hr hlocks hw dX7_convoy_142 h
      refine sw_if h (fun hc5 h => ?_) (fun hc5 h => ?_)
      · rw [hc5]
        refine lv_tableIn (off := 91) (tgt := 130) hx hb dX7_convoy_39 (by decide) (by decide) rfl (by decide) ?_
        refine lv_aload_n hx hb dX7_convoy_130 rfl (lv_at hl 0 rfl) ?_
        refine r_get (v := .ref (gA G (β + 3))) hx hb hts hinX7 hown hE hw hn 0 (by decide) (congrFun hR.1 _) rfl 6 (by decide) (hts _ (wz_in qF_X7_16)) rfl dX7_convoy_131 ?_
        refine lv_iload_n hx hb dX7_convoy_134 rfl (lv_at hl 1 rfl) ?_
        refine lv_iload_n hx hb dX7_convoy_135 rfl (lv_at hl 2 rfl) ?_
        refine lv_iconst (v := (nI 1)) hx hb dX7_convoy_136 (by decide) ?_
        refine lv_isub hx hb dX7_convoy_137 ?_
        obtain ⟨v138, h138, h⟩ := cr1_some h
        refine r_callS (As := [.int x1, .int (x2 - (nI 1))]) (rest := [.ref (gA G (β + 3))]) (st1 := [.int v138, .ref (gA G (β + 3))]) hx hb hml hown hts hE hw hl (mX7_convoyAt l G (M := (wB M β 8 S30)) h138) (va_cwS 2 hts (zS gS_X7_51) rfl rfl rfl kdX7_convoyAt ⟨Nat.le_of_ble_eq_true rfl, Nat.le_of_ble_eq_true rfl⟩) rfl rfl (Nat.le_of_ble_eq_true rfl) dX7_convoy_138 ⟨Nat.zero_le _, Nat.zero_le _⟩ rfl (fun H locs hw => ?_)
        refine p_iald hx hb hE hw hn 3 (by decide) (congrFun hR.2.2.2.1) dX7_convoy_141 h (fun v141 h => ?_)
        exact e_iw hx hb hr hlocks hw dX7_convoy_142 h
      refine sw_if h (fun hc6 h => ?_) (fun hc6 h => ?_)
      · rw [hc6]
        refine lv_tableIn (off := 65) (tgt := 104) hx hb dX7_convoy_39 (by decide) (by decide) rfl (by decide) ?_
        refine lv_aload_n hx hb dX7_convoy_104 rfl (lv_at hl 0 rfl) ?_
        refine r_get (v := .ref (gA G (β + 3))) hx hb hts hinX7 hown hE hw hn 0 (by decide) (congrFun hR.1 _) rfl 6 (by decide) (hts _ (wz_in qF_X7_16)) rfl dX7_convoy_105 ?_
        refine lv_iload_n hx hb dX7_convoy_108 rfl (lv_at hl 1 rfl) ?_
        obtain ⟨v109, h109, h⟩ := cr1_some h
        refine r_callS (As := [.ref (gA G (β + 3)), .int x1]) (rest := []) (st1 := [.int v109]) hx hb hml hown hts hE hw hl (mc_subR 3 1 (by decide) (mX7_litersOf l G (by show β + 3 + 1 ≤ _; omega) hR.2.2.2.1 h109)) (va_cwS 2 hts (zS gS_X7_223) rfl rfl rfl kdX7_litersOf ⟨Nat.le_of_ble_eq_true rfl, Nat.le_of_ble_eq_true rfl⟩) rfl rfl (Nat.le_of_ble_eq_true rfl) dX7_convoy_109 ⟨Nat.zero_le _, Nat.zero_le _⟩ rfl (fun H locs hw => ?_)
        exact e_iw hx hb hr hlocks hw dX7_convoy_112 h
      refine sw_if h (fun hc7 h => ?_) (fun hc7 h => ?_)
      · rw [hc7]
        refine lv_tableIn (off := 74) (tgt := 113) hx hb dX7_convoy_39 (by decide) (by decide) rfl (by decide) ?_
        refine lv_aload_n hx hb dX7_convoy_113 rfl (lv_at hl 0 rfl) ?_
        refine r_get (v := .ref (gA G (β + 3))) hx hb hts hinX7 hown hE hw hn 0 (by decide) (congrFun hR.1 _) rfl 6 (by decide) (hts _ (wz_in qF_X7_16)) rfl dX7_convoy_114 ?_
        refine lv_iload_n hx hb dX7_convoy_117 rfl (lv_at hl 1 rfl) ?_
        obtain ⟨v118, h118, h⟩ := cr1_some h
        refine r_callS (As := [.ref (gA G (β + 3)), .int x1]) (rest := []) (st1 := [.int v118]) hx hb hml hown hts hE hw hl (mc_subR 3 1 (by decide) (mX7_isThere l G (by show β + 3 + 1 ≤ _; omega) hR.2.2.2.1 h118)) (va_cwS 2 hts (zS gS_X7_118) rfl rfl rfl kdX7_isThere ⟨Nat.le_of_ble_eq_true rfl, Nat.le_of_ble_eq_true rfl⟩) rfl rfl (Nat.le_of_ble_eq_true rfl) dX7_convoy_118 ⟨Nat.zero_le _, Nat.zero_le _⟩ rfl (fun H locs hw => ?_)
        refine b_eq (tgt := 128) hx hb dX7_convoy_121 (by decide) h (fun h => ?_) (fun h => ?_)
        · refine lv_iconst (v := (nI 0)) hx hb dX7_convoy_128 (by decide) ?_
          exact e_iw hx hb hr hlocks hw dX7_convoy_129 h
        · refine lv_iconst (v := (nI 1)) hx hb dX7_convoy_124 (by decide) ?_
          refine lv_goto (tgt := 129) hx hb dX7_convoy_125 (by decide) ?_
          exact e_iw hx hb hr hlocks hw dX7_convoy_129 h
      · refine lv_tableOut (tgt := 130) hx hb dX7_convoy_39 (by have q0 := lv_neT hc0 (by decide : ((nI 0) : Int32).toInt = 0); have q1 := lv_neT hc1 (by decide : ((nI 1) : Int32).toInt = 1); have q2 := lv_neT hc2 (by decide : ((nI 2) : Int32).toInt = 2); have q3 := lv_neT hc3 (by decide : ((nI 3) : Int32).toInt = 3); have q4 := lv_neT hc4 (by decide : ((nI 4) : Int32).toInt = 4); have q5 := lv_neT hc5 (by decide : ((nI 5) : Int32).toInt = 5); have q6 := lv_neT hc6 (by decide : ((nI 6) : Int32).toInt = 6); have q7 := lv_neT hc7 (by decide : ((nI 7) : Int32).toInt = 7); omega) (by decide) ?_
        refine lv_aload_n hx hb dX7_convoy_130 rfl (lv_at hl 0 rfl) ?_
        refine r_get (v := .ref (gA G (β + 3))) hx hb hts hinX7 hown hE hw hn 0 (by decide) (congrFun hR.1 _) rfl 6 (by decide) (hts _ (wz_in qF_X7_16)) rfl dX7_convoy_131 ?_
        refine lv_iload_n hx hb dX7_convoy_134 rfl (lv_at hl 1 rfl) ?_
        refine lv_iload_n hx hb dX7_convoy_135 rfl (lv_at hl 2 rfl) ?_
        refine lv_iconst (v := (nI 1)) hx hb dX7_convoy_136 (by decide) ?_
        refine lv_isub hx hb dX7_convoy_137 ?_
        obtain ⟨v138, h138, h⟩ := cr1_some h
        refine r_callS (As := [.int x1, .int (x2 - (nI 1))]) (rest := [.ref (gA G (β + 3))]) (st1 := [.int v138, .ref (gA G (β + 3))]) hx hb hml hown hts hE hw hl (mX7_convoyAt l G (M := (wB M β 8 S30)) h138) (va_cwS 2 hts (zS gS_X7_51) rfl rfl rfl kdX7_convoyAt ⟨Nat.le_of_ble_eq_true rfl, Nat.le_of_ble_eq_true rfl⟩) rfl rfl (Nat.le_of_ble_eq_true rfl) dX7_convoy_138 ⟨Nat.zero_le _, Nat.zero_le _⟩ rfl (fun H locs hw => ?_)
        refine p_iald hx hb hE hw hn 3 (by decide) (congrFun hR.2.2.2.1) dX7_convoy_141 h (fun v141 h => ?_)
        exact e_iw hx hb hr hlocks hw dX7_convoy_142 h
    · refine lv_iconst (v := (nI 0)) hx hb dX7_convoy_36 (by decide) ?_
      exact e_iw hx hb hr hlocks hw dX7_convoy_37 h
  unfold pX7_convoy at h
  refine lv_aload_n hx hb dX7_convoy_0 rfl (lv_at hl 0 rfl) ?_
  refine lv_aload_n hx hb dX7_convoy_1 rfl (lv_at hl 0 rfl) ?_
  refine lv_iload_n hx hb dX7_convoy_2 rfl (lv_at hl 1 rfl) ?_
  obtain ⟨v3, h3, h⟩ := cr1_some h
  refine r_callV (As := [.int a1]) (rest := [.ref (gA G (β + 0))]) (st1 := [.int v3, .ref (gA G (β + 0))]) hx hb hml hown hts hE hw hl (mX7_isConvoy l G (by omega) hR h3) (cwV 1 hts (zV gV_X7_218) rfl rfl rfl kdX7_isConvoy ⟨Nat.le_of_ble_eq_true rfl, Nat.le_of_ble_eq_true rfl⟩) (by omega) (congrFun hR.1 _) rfl rfl rfl rfl (Nat.le_of_ble_eq_true rfl) dX7_convoy_3 ⟨Nat.zero_le _, Nat.zero_le _⟩ rfl (fun H locs hw => ?_)
  refine b_ne (tgt := 13) hx hb dX7_convoy_6 (by decide) h (fun h => ?_) (fun h => ?_)
  · refine lv_iload_n hx hb dX7_convoy_13 rfl (lv_at hl 2 rfl) ?_
    refine lv_i2l hx hb dX7_convoy_14 rfl ?_
    refine lv_lconst (v := (lN 0)) hx hb dX7_convoy_15 (by decide) ?_
    refine lv_ldc2 (v := (lN 7)) hx hb hown (hts _ (wz_in qK_X7_221)) dX7_convoy_16 ?_
    obtain ⟨v19, h19, h⟩ := cr1_some h
    refine r_callS (As := [.long (a2.toInt64), .long (lN 0), .long (lN 7)]) (rest := [.ref (gA G (β + 0))]) (st1 := [.int v19, .ref (gA G (β + 0))]) hx hb hml hown hts hE hw hl (mX7_in l G (M := (wB M β 8 S)) h19) (va_cwS 3 hts (zS gS_X7_139) rfl rfl rfl kdX7_in ⟨Nat.le_of_ble_eq_true rfl, Nat.le_of_ble_eq_true rfl⟩) rfl rfl (Nat.le_of_ble_eq_true rfl) dX7_convoy_19 ⟨Nat.zero_le _, Nat.zero_le _⟩ rfl (fun H locs hw => ?_)
    refine b_eq (tgt := 29) hx hb dX7_convoy_22 (by decide) h (fun h => ?_) (fun h => ?_)
    · refine lv_iconst (v := (nI 2)) hx hb dX7_convoy_29 (by decide) ?_
      exact k30  a1 a2 (nI 2) S _ _ _ h hw (lv_sub hl [0, 1, 2] rfl)
    · refine lv_iconst (v := (nI 0)) hx hb dX7_convoy_25 (by decide) ?_
      refine lv_goto (tgt := 30) hx hb dX7_convoy_26 (by decide) ?_
      exact k30  a1 a2 (nI 0) S _ _ _ h hw (lv_sub hl [0, 1, 2] rfl)
  · refine lv_iconst (v := (nI 1)) hx hb dX7_convoy_9 (by decide) ?_
    refine lv_goto (tgt := 30) hx hb dX7_convoy_10 (by decide) ?_
    exact k30  a1 a2 (nI 1) S _ _ _ h hw (lv_sub hl [0, 1, 2] rfl)

set_option maxHeartbeats 4000000 in
set_option maxRecDepth 100000 in
theorem mX7_member (l : Launch) (G : mG) {β : Nat} {M S S' : mM} {a1 : Int32} {a2 : Int32} {r : Int32} (hn : β + 8 ≤ gN G) (hR : isMod G β) (h : pX7_member a1 a2 S = some (r, S')) : MC l G yX7_member zzX7_member 2 46 [.ref (gA G (β + 0)), .int a1, .int a2] (wB M β 8 S) (wB M β 8 S') (some (.int r)) := by
  refine mc_of (cc := cX7_member) (maxL := 3) (ret := (some .int)) (by decide) rfl (Nat.le_of_ble_eq_true rfl) ?_
  intro p e s m args below meth c H ls hx hb hr hts hown hml hlocks hE hw hl
  have hl : lv_has ls 3 [(0, .ref (gA G (β + 0))), (1, .int a1), (2, .int a2)] := hl
  have hinX7 : ∀ w ∈ wsX70, w ∈ zzX7_member := fun w h9 => wz_in (zinX7 w h9)
  have k22 : ∀ (x1 : Int32) (x2 : Int32) (t1 : Int32) (S : mM) (H : Heap) (locs : List Loc) (ls : Array Slot), pX7_member_b22  x1 x2 t1 S = some (r, S') → mW G s (wB M β 8 S) H locs → lv_has ls 3 [(0, .ref (gA G (β + 0))), (1, .int x1), (2, .int x2)] → W p l e { frames := 2, cells := 0, slots := 0, locals := 46 } s m args below meth c H locs 0 0 (mZ below G (some (.int r)) (wB M β 8 S') args s) (F0 m 22 ls [.int t1, .ref (gA G (β + 0))]) := by
    intro x1 x2 t1 S H locs ls h hw hl
    unfold pX7_member_b22 at h
    obtain ⟨v22, S22, h22, h⟩ := cw2_some h
    refine r_callV (As := [.int t1]) (rest := []) (st1 := [.int v22]) hx hb hml hown hts hE hw hl (mX7_refused l G (by omega) hR h22) (cwV 1 hts (zV gV_X7_146) rfl rfl rfl kdX7_refused ⟨Nat.le_of_ble_eq_true rfl, Nat.le_of_ble_eq_true rfl⟩) (by omega) (congrFun hR.1 _) rfl rfl rfl rfl (Nat.le_of_ble_eq_true rfl) dX7_member_22 ⟨Nat.zero_le _, Nat.zero_le _⟩ rfl (fun H locs hw => ?_)
    refine b_eq (tgt := 30) hx hb dX7_member_25 (by decide) h (fun h => ?_) (fun h => ?_)
    · refine lv_iload_n hx hb dX7_member_30 rfl (lv_at hl 2 rfl) ?_
      refine lv_aload_n hx hb dX7_member_31 rfl (lv_at hl 0 rfl) ?_
      refine r_get (v := .ref (gA G (β + 3))) hx hb hts hinX7 hown hE hw hn 0 (by decide) (congrFun hR.1 _) rfl 6 (by decide) (hts _ (wz_in qF_X7_16)) rfl dX7_member_32 ?_
      refine lv_iload_n hx hb dX7_member_35 rfl (lv_at hl 1 rfl) ?_
      obtain ⟨v36, h36, h⟩ := cr1_some h
      refine r_callS (As := [.ref (gA G (β + 3)), .int x1]) (rest := [.int x2]) (st1 := [.int v36, .int x2]) hx hb hml hown hts hE hw hl (mc_subR 3 1 (by decide) (mX7_sizeOf l G (by show β + 3 + 1 ≤ _; omega) hR.2.2.2.1 h36)) (va_cwS 2 hts (zS gS_X7_64) rfl rfl rfl kdX7_sizeOf ⟨Nat.le_of_ble_eq_true rfl, Nat.le_of_ble_eq_true rfl⟩) rfl rfl (Nat.le_of_ble_eq_true rfl) dX7_member_36 ⟨Nat.zero_le _, Nat.zero_le _⟩ rfl (fun H locs hw => ?_)
      refine bi_ge (tgt := 54) hx hb dX7_member_39 (by decide) h (fun h => ?_) (fun h => ?_)
      · refine lv_bipush (v := (-9)) hx hb dX7_member_54 (by decide) ?_
        exact e_iw hx hb hr hlocks hw dX7_member_56 h
      · refine lv_aload_n hx hb dX7_member_42 rfl (lv_at hl 0 rfl) ?_
        refine r_get (v := .ref (gA G (β + 3))) hx hb hts hinX7 hown hE hw hn 0 (by decide) (congrFun hR.1 _) rfl 6 (by decide) (hts _ (wz_in qF_X7_16)) rfl dX7_member_43 ?_
        refine lv_iload_n hx hb dX7_member_46 rfl (lv_at hl 1 rfl) ?_
        refine lv_iload_n hx hb dX7_member_47 rfl (lv_at hl 2 rfl) ?_
        obtain ⟨v48, h48, h⟩ := cr1_some h
        refine r_callS (As := [.ref (gA G (β + 3)), .int x1, .int x2]) (rest := []) (st1 := [.int v48]) hx hb hml hown hts hE hw hl (mc_subR 3 1 (by decide) (mX7_who l G (by show β + 3 + 1 ≤ _; omega) hR.2.2.2.1 h48)) (va_cwS 3 hts (zS gS_X7_68) rfl rfl rfl kdX7_who ⟨Nat.le_of_ble_eq_true rfl, Nat.le_of_ble_eq_true rfl⟩) rfl rfl (Nat.le_of_ble_eq_true rfl) dX7_member_48 ⟨Nat.zero_le _, Nat.zero_le _⟩ rfl (fun H locs hw => ?_)
        refine lv_goto (tgt := 56) hx hb dX7_member_51 (by decide) ?_
        exact e_iw hx hb hr hlocks hw dX7_member_56 h
    · refine lv_iconst (v := (nI 0)) hx hb dX7_member_28 (by decide) ?_
      exact e_iw hx hb hr hlocks hw dX7_member_29 h
  unfold pX7_member at h
  refine lv_aload_n hx hb dX7_member_0 rfl (lv_at hl 0 rfl) ?_
  refine lv_aload_n hx hb dX7_member_1 rfl (lv_at hl 0 rfl) ?_
  refine lv_iload_n hx hb dX7_member_2 rfl (lv_at hl 1 rfl) ?_
  obtain ⟨v3, h3, h⟩ := cr1_some h
  refine r_callV (As := [.int a1]) (rest := [.ref (gA G (β + 0))]) (st1 := [.int v3, .ref (gA G (β + 0))]) hx hb hml hown hts hE hw hl (mX7_isConvoy l G (by omega) hR h3) (cwV 1 hts (zV gV_X7_218) rfl rfl rfl kdX7_isConvoy ⟨Nat.le_of_ble_eq_true rfl, Nat.le_of_ble_eq_true rfl⟩) (by omega) (congrFun hR.1 _) rfl rfl rfl rfl (Nat.le_of_ble_eq_true rfl) dX7_member_3 ⟨Nat.zero_le _, Nat.zero_le _⟩ rfl (fun H locs hw => ?_)
  refine b_ne (tgt := 13) hx hb dX7_member_6 (by decide) h (fun h => ?_) (fun h => ?_)
  · refine lv_iload_n hx hb dX7_member_13 rfl (lv_at hl 2 rfl) ?_
    refine b_ge (tgt := 21) hx hb dX7_member_14 (by decide) h (fun h => ?_) (fun h => ?_)
    · refine lv_iconst (v := (nI 0)) hx hb dX7_member_21 (by decide) ?_
      exact k22  a1 a2 (nI 0) S _ _ _ h hw (lv_sub hl [0, 1, 2] rfl)
    · refine lv_iconst (v := (nI 2)) hx hb dX7_member_17 (by decide) ?_
      refine lv_goto (tgt := 22) hx hb dX7_member_18 (by decide) ?_
      exact k22  a1 a2 (nI 2) S _ _ _ h hw (lv_sub hl [0, 1, 2] rfl)
  · refine lv_iconst (v := (nI 1)) hx hb dX7_member_9 (by decide) ?_
    refine lv_goto (tgt := 22) hx hb dX7_member_10 (by decide) ?_
    exact k22  a1 a2 (nI 1) S _ _ _ h hw (lv_sub hl [0, 1, 2] rfl)

set_option maxHeartbeats 4000000 in
set_option maxRecDepth 100000 in
theorem mX7_vehicle (l : Launch) (G : mG) {β : Nat} {M S S' : mM} {a1 : Int32} {a2 : Int32} {r : Int32} (hn : β + 8 ≤ gN G) (hR : isMod G β) (h : pX7_vehicle a1 a2 S = some (r, S')) : MC l G yX7_vehicle zzX7_vehicle 1 25 [.ref (gA G (β + 0)), .int a1, .int a2] (wB M β 8 S) (wB M β 8 S') (some (.int r)) := by
  refine mc_of (cc := cX7_vehicle) (maxL := 3) (ret := (some .int)) (by decide) rfl (Nat.le_of_ble_eq_true rfl) ?_
  intro p e s m args below meth c H ls hx hb hr hts hown hml hlocks hE hw hl
  have hl : lv_has ls 3 [(0, .ref (gA G (β + 0))), (1, .int a1), (2, .int a2)] := hl
  have hinX7 : ∀ w ∈ wsX70, w ∈ zzX7_vehicle := fun w h9 => wz_in (zinX7 w h9)
  have k41 : ∀ (x1 : Int32) (x2 : Int32) (t1 : Int32) (S : mM) (H : Heap) (locs : List Loc) (ls : Array Slot), pX7_vehicle_b41  x1 x2 t1 S = some (r, S') → mW G s (wB M β 8 S) H locs → lv_has ls 3 [(0, .ref (gA G (β + 0))), (1, .int x1), (2, .int x2)] → W p l e { frames := 1, cells := 0, slots := 0, locals := 25 } s m args below meth c H locs 0 0 (mZ below G (some (.int r)) (wB M β 8 S') args s) (F0 m 41 ls [.int t1, .ref (gA G (β + 0))]) := by
    intro x1 x2 t1 S H locs ls h hw hl
    unfold pX7_vehicle_b41 at h
    obtain ⟨v41, S41, h41, h⟩ := cw2_some h
    refine r_callV (As := [.int t1]) (rest := []) (st1 := [.int v41]) hx hb hml hown hts hE hw hl (mX7_refused l G (by omega) hR h41) (cwV 1 hts (zV gV_X7_146) rfl rfl rfl kdX7_refused ⟨Nat.le_of_ble_eq_true rfl, Nat.le_of_ble_eq_true rfl⟩) (by omega) (congrFun hR.1 _) rfl rfl rfl rfl (Nat.le_of_ble_eq_true rfl) dX7_vehicle_41 ⟨Nat.zero_le _, Nat.zero_le _⟩ rfl (fun H locs hw => ?_)
    refine b_eq (tgt := 49) hx hb dX7_vehicle_44 (by decide) h (fun h => ?_) (fun h => ?_)
    · refine lv_aload_n hx hb dX7_vehicle_49 rfl (lv_at hl 0 rfl) ?_
      refine r_get (v := .ref (gA G (β + 3))) hx hb hts hinX7 hown hE hw hn 0 (by decide) (congrFun hR.1 _) rfl 6 (by decide) (hts _ (wz_in qF_X7_16)) rfl dX7_vehicle_50 ?_
      refine lv_iload_n hx hb dX7_vehicle_53 rfl (lv_at hl 1 rfl) ?_
      refine lv_iload_n hx hb dX7_vehicle_54 rfl (lv_at hl 2 rfl) ?_
      obtain ⟨v55, h55, h⟩ := cr1_some h
      refine r_callS (As := [.int x1, .int x2]) (rest := [.ref (gA G (β + 3))]) (st1 := [.int v55, .ref (gA G (β + 3))]) hx hb hml hown hts hE hw hl (mX7_carAt l G (M := (wB M β 8 S41)) h55) (va_cwS 2 hts (zS gS_X7_72) rfl rfl rfl kdX7_carAt ⟨Nat.le_of_ble_eq_true rfl, Nat.le_of_ble_eq_true rfl⟩) rfl rfl (Nat.le_of_ble_eq_true rfl) dX7_vehicle_55 ⟨Nat.zero_le _, Nat.zero_le _⟩ rfl (fun H locs hw => ?_)
      refine p_iald hx hb hE hw hn 3 (by decide) (congrFun hR.2.2.2.1) dX7_vehicle_58 h (fun v58 h => ?_)
      exact e_iw hx hb hr hlocks hw dX7_vehicle_59 h
    · refine lv_iconst (v := (nI 0)) hx hb dX7_vehicle_47 (by decide) ?_
      exact e_iw hx hb hr hlocks hw dX7_vehicle_48 h
  unfold pX7_vehicle at h
  refine lv_aload_n hx hb dX7_vehicle_0 rfl (lv_at hl 0 rfl) ?_
  refine lv_iload_n hx hb dX7_vehicle_1 rfl (lv_at hl 1 rfl) ?_
  refine lv_i2l hx hb dX7_vehicle_2 rfl ?_
  refine lv_lconst (v := (lN 0)) hx hb dX7_vehicle_3 (by decide) ?_
  refine lv_aload_n hx hb dX7_vehicle_4 rfl (lv_at hl 0 rfl) ?_
  refine r_get (v := .ref (gA G (β + 3))) hx hb hts hinX7 hown hE hw hn 0 (by decide) (congrFun hR.1 _) rfl 6 (by decide) (hts _ (wz_in qF_X7_16)) rfl dX7_vehicle_5 ?_
  refine lv_bipush (v := (nI 6)) hx hb dX7_vehicle_8 (by decide) ?_
  refine p_iald hx hb hE hw hn 3 (by decide) (congrFun hR.2.2.2.1) dX7_vehicle_10 h (fun v10 h => ?_)
  refine lv_iconst (v := (nI 1)) hx hb dX7_vehicle_11 (by decide) ?_
  refine lv_isub hx hb dX7_vehicle_12 ?_
  refine lv_i2l hx hb dX7_vehicle_13 rfl ?_
  obtain ⟨v14, h14, h⟩ := cr1_some h
  refine r_callS (As := [.long (a1.toInt64), .long (lN 0), .long ((v10 - (nI 1)).toInt64)]) (rest := [.ref (gA G (β + 0))]) (st1 := [.int v14, .ref (gA G (β + 0))]) hx hb hml hown hts hE hw hl (mX7_in l G (M := (wB M β 8 S)) h14) (va_cwS 3 hts (zS gS_X7_139) rfl rfl rfl kdX7_in ⟨Nat.le_of_ble_eq_true rfl, Nat.le_of_ble_eq_true rfl⟩) rfl rfl (Nat.le_of_ble_eq_true rfl) dX7_vehicle_14 ⟨Nat.zero_le _, Nat.zero_le _⟩ rfl (fun H locs hw => ?_)
  refine b_ne (tgt := 24) hx hb dX7_vehicle_17 (by decide) h (fun h => ?_) (fun h => ?_)
  · refine lv_iload_n hx hb dX7_vehicle_24 rfl (lv_at hl 2 rfl) ?_
    refine lv_i2l hx hb dX7_vehicle_25 rfl ?_
    refine lv_lconst (v := (lN 0)) hx hb dX7_vehicle_26 (by decide) ?_
    refine lv_ldc2 (v := (lN 6)) hx hb hown (hts _ (wz_in qK_X7_226)) dX7_vehicle_27 ?_
    obtain ⟨v30, h30, h⟩ := cr1_some h
    refine r_callS (As := [.long (a2.toInt64), .long (lN 0), .long (lN 6)]) (rest := [.ref (gA G (β + 0))]) (st1 := [.int v30, .ref (gA G (β + 0))]) hx hb hml hown hts hE hw hl (mX7_in l G (M := (wB M β 8 S)) h30) (va_cwS 3 hts (zS gS_X7_139) rfl rfl rfl kdX7_in ⟨Nat.le_of_ble_eq_true rfl, Nat.le_of_ble_eq_true rfl⟩) rfl rfl (Nat.le_of_ble_eq_true rfl) dX7_vehicle_30 ⟨Nat.zero_le _, Nat.zero_le _⟩ rfl (fun H locs hw => ?_)
    refine b_eq (tgt := 40) hx hb dX7_vehicle_33 (by decide) h (fun h => ?_) (fun h => ?_)
    · refine lv_iconst (v := (nI 2)) hx hb dX7_vehicle_40 (by decide) ?_
      exact k41  a1 a2 (nI 2) S _ _ _ h hw (lv_sub hl [0, 1, 2] rfl)
    · refine lv_iconst (v := (nI 0)) hx hb dX7_vehicle_36 (by decide) ?_
      refine lv_goto (tgt := 41) hx hb dX7_vehicle_37 (by decide) ?_
      exact k41  a1 a2 (nI 0) S _ _ _ h hw (lv_sub hl [0, 1, 2] rfl)
  · refine lv_iconst (v := (nI 1)) hx hb dX7_vehicle_20 (by decide) ?_
    refine lv_goto (tgt := 41) hx hb dX7_vehicle_21 (by decide) ?_
    exact k41  a1 a2 (nI 1) S _ _ _ h hw (lv_sub hl [0, 1, 2] rfl)

set_option maxHeartbeats 4000000 in
set_option maxRecDepth 100000 in
theorem mX7_closedFor (l : Launch) (G : mG) {β : Nat} {M S : mM} {a1 : Int32} {r : Int32} (hn : β + 8 ≤ gN G) (hR : isMod G β) (h : pX7_closedFor a1 S = some r) : MC l G yX7_closedFor zzX7_closedFor 1 21 [.ref (gA G (β + 0)), .int a1] (wB M β 8 S) (wB M β 8 S) (some (.int r)) := by
  refine mc_of (cc := cX7_closedFor) (maxL := 3) (ret := (some .int)) (by decide) rfl (Nat.le_of_ble_eq_true rfl) ?_
  intro p e s m args below meth c H ls hx hb hr hts hown hml hlocks hE hw hl
  have hl : lv_has ls 3 [(0, .ref (gA G (β + 0))), (1, .int a1)] := hl
  have hinX7 : ∀ w ∈ wsX70, w ∈ zzX7_closedFor := fun w h9 => wz_in (zinX7 w h9)
  unfold pX7_closedFor at h
  refine lv_aload_n hx hb dX7_closedFor_0 rfl (lv_at hl 0 rfl) ?_
  refine r_get (v := .ref (gA G (β + 3))) hx hb hts hinX7 hown hE hw hn 0 (by decide) (congrFun hR.1 _) rfl 6 (by decide) (hts _ (wz_in qF_X7_16)) rfl dX7_closedFor_1 ?_
  refine lv_iconst (v := (nI 1)) hx hb dX7_closedFor_4 (by decide) ?_
  refine p_iald hx hb hE hw hn 3 (by decide) (congrFun hR.2.2.2.1) dX7_closedFor_5 h (fun v5 h => ?_)
  refine lv_aload_n hx hb dX7_closedFor_6 rfl (lv_at hl 0 rfl) ?_
  refine r_get (v := .ref (gA G (β + 3))) hx hb hts hinX7 hown hE hw hn 0 (by decide) (congrFun hR.1 _) rfl 6 (by decide) (hts _ (wz_in qF_X7_16)) rfl dX7_closedFor_7 ?_
  refine lv_iload_n hx hb dX7_closedFor_10 rfl (lv_at hl 1 rfl) ?_
  refine lv_iconst (v := (nI 3)) hx hb dX7_closedFor_11 (by decide) ?_
  obtain ⟨v12, h12, h⟩ := cr1_some h
  refine r_callS (As := [.int a1, .int (nI 3)]) (rest := [.ref (gA G (β + 3)), .int v5]) (st1 := [.int v12, .ref (gA G (β + 3)), .int v5]) hx hb hml hown hts hE hw hl (mX7_gateAt l G (M := (wB M β 8 S)) h12) (va_cwS 2 hts (zS gS_X7_55) rfl rfl rfl kdX7_gateAt ⟨Nat.le_of_ble_eq_true rfl, Nat.le_of_ble_eq_true rfl⟩) rfl rfl (Nat.le_of_ble_eq_true rfl) dX7_closedFor_12 ⟨Nat.zero_le _, Nat.zero_le _⟩ rfl (fun H locs hw => ?_)
  refine p_iald hx hb hE hw hn 3 (by decide) (congrFun hR.2.2.2.1) dX7_closedFor_15 h (fun v15 h => ?_)
  refine lv_iadd hx hb dX7_closedFor_16 ?_
  refine lv_aload_n hx hb dX7_closedFor_17 rfl (lv_at hl 0 rfl) ?_
  refine r_get (v := .ref (gA G (β + 3))) hx hb hts hinX7 hown hE hw hn 0 (by decide) (congrFun hR.1 _) rfl 6 (by decide) (hts _ (wz_in qF_X7_16)) rfl dX7_closedFor_18 ?_
  refine lv_iload_n hx hb dX7_closedFor_21 rfl (lv_at hl 1 rfl) ?_
  refine lv_iconst (v := (nI 1)) hx hb dX7_closedFor_22 (by decide) ?_
  obtain ⟨v23, h23, h⟩ := cr1_some h
  refine r_callS (As := [.int a1, .int (nI 1)]) (rest := [.ref (gA G (β + 3)), .int (v5 + v15)]) (st1 := [.int v23, .ref (gA G (β + 3)), .int (v5 + v15)]) hx hb hml hown hts hE hw hl (mX7_gateAt l G (M := (wB M β 8 S)) h23) (va_cwS 2 hts (zS gS_X7_55) rfl rfl rfl kdX7_gateAt ⟨Nat.le_of_ble_eq_true rfl, Nat.le_of_ble_eq_true rfl⟩) rfl rfl (Nat.le_of_ble_eq_true rfl) dX7_closedFor_23 ⟨Nat.zero_le _, Nat.zero_le _⟩ rfl (fun H locs hw => ?_)
  refine p_iald hx hb hE hw hn 3 (by decide) (congrFun hR.2.2.2.1) dX7_closedFor_26 h (fun v26 h => ?_)
  obtain ⟨hz27, h⟩ := nz_some h
  refine lv_irem hx hb dX7_closedFor_27 hz27 ?_
  refine p_topi h (fun v28 h => ?_)
  refine lv_istore_n (lv' := [(2, .int v28), (0, .ref (gA G (β + 0))), (1, .int a1)]) hx hb dX7_closedFor_28 rfl hl (by decide) rfl (fun ls hl => ?_)
  refine lv_iload_n hx hb dX7_closedFor_29 rfl (lv_at hl 0 rfl) ?_
  refine lv_aload_n hx hb dX7_closedFor_30 rfl (lv_at hl 1 rfl) ?_
  refine r_get (v := .ref (gA G (β + 3))) hx hb hts hinX7 hown hE hw hn 0 (by decide) (congrFun hR.1 _) rfl 6 (by decide) (hts _ (wz_in qF_X7_16)) rfl dX7_closedFor_31 ?_
  refine lv_iload_n hx hb dX7_closedFor_34 rfl (lv_at hl 2 rfl) ?_
  refine lv_iconst (v := (nI 2)) hx hb dX7_closedFor_35 (by decide) ?_
  obtain ⟨v36, h36, h⟩ := cr1_some h
  refine r_callS (As := [.int a1, .int (nI 2)]) (rest := [.ref (gA G (β + 3)), .int v28]) (st1 := [.int v36, .ref (gA G (β + 3)), .int v28]) hx hb hml hown hts hE hw hl (mX7_gateAt l G (M := (wB M β 8 S)) h36) (va_cwS 2 hts (zS gS_X7_55) rfl rfl rfl kdX7_gateAt ⟨Nat.le_of_ble_eq_true rfl, Nat.le_of_ble_eq_true rfl⟩) rfl rfl (Nat.le_of_ble_eq_true rfl) dX7_closedFor_36 ⟨Nat.zero_le _, Nat.zero_le _⟩ rfl (fun H locs hw => ?_)
  refine p_iald hx hb hE hw hn 3 (by decide) (congrFun hR.2.2.2.1) dX7_closedFor_39 h (fun v39 h => ?_)
  refine bi_ge (tgt := 58) hx hb dX7_closedFor_40 (by decide) h (fun h => ?_) (fun h => ?_)
  · refine lv_iconst (v := (nI 0)) hx hb dX7_closedFor_58 (by decide) ?_
    exact e_i hx hb hr hlocks hw dX7_closedFor_59 h
  · refine lv_aload_n hx hb dX7_closedFor_43 rfl (lv_at hl 1 rfl) ?_
    refine r_get (v := .ref (gA G (β + 3))) hx hb hts hinX7 hown hE hw hn 0 (by decide) (congrFun hR.1 _) rfl 6 (by decide) (hts _ (wz_in qF_X7_16)) rfl dX7_closedFor_44 ?_
    refine lv_iload_n hx hb dX7_closedFor_47 rfl (lv_at hl 2 rfl) ?_
    refine lv_iconst (v := (nI 2)) hx hb dX7_closedFor_48 (by decide) ?_
    obtain ⟨v49, h49, h⟩ := cr1_some h
    refine r_callS (As := [.int a1, .int (nI 2)]) (rest := [.ref (gA G (β + 3))]) (st1 := [.int v49, .ref (gA G (β + 3))]) hx hb hml hown hts hE hw hl (mX7_gateAt l G (M := (wB M β 8 S)) h49) (va_cwS 2 hts (zS gS_X7_55) rfl rfl rfl kdX7_gateAt ⟨Nat.le_of_ble_eq_true rfl, Nat.le_of_ble_eq_true rfl⟩) rfl rfl (Nat.le_of_ble_eq_true rfl) dX7_closedFor_49 ⟨Nat.zero_le _, Nat.zero_le _⟩ rfl (fun H locs hw => ?_)
    refine p_iald hx hb hE hw hn 3 (by decide) (congrFun hR.2.2.2.1) dX7_closedFor_52 h (fun v52 h => ?_)
    refine lv_iload_n hx hb dX7_closedFor_53 rfl (lv_at hl 0 rfl) ?_
    refine lv_isub hx hb dX7_closedFor_54 ?_
    refine lv_goto (tgt := 59) hx hb dX7_closedFor_55 (by decide) ?_
    exact e_i hx hb hr hlocks hw dX7_closedFor_59 h

set_option maxHeartbeats 4000000 in
set_option maxRecDepth 100000 in
theorem mX7_gate (l : Launch) (G : mG) {β : Nat} {M S S' : mM} {a1 : Int32} {a2 : Int32} {r : Int32} (hn : β + 8 ≤ gN G) (hR : isMod G β) (h : pX7_gate a1 a2 S = some (r, S')) : MC l G yX7_gate zzX7_gate 2 43 [.ref (gA G (β + 0)), .int a1, .int a2] (wB M β 8 S) (wB M β 8 S') (some (.int r)) := by
  refine mc_of (cc := cX7_gate) (maxL := 3) (ret := (some .int)) (by decide) rfl (Nat.le_of_ble_eq_true rfl) ?_
  intro p e s m args below meth c H ls hx hb hr hts hown hml hlocks hE hw hl
  have hl : lv_has ls 3 [(0, .ref (gA G (β + 0))), (1, .int a1), (2, .int a2)] := hl
  have hinX7 : ∀ w ∈ wsX70, w ∈ zzX7_gate := fun w h9 => wz_in (zinX7 w h9)
  have k40 : ∀ (x1 : Int32) (x2 : Int32) (t1 : Int32) (S : mM) (H : Heap) (locs : List Loc) (ls : Array Slot), pX7_gate_b40  x1 x2 t1 S = some (r, S') → mW G s (wB M β 8 S) H locs → lv_has ls 3 [(0, .ref (gA G (β + 0))), (1, .int x1), (2, .int x2)] → W p l e { frames := 2, cells := 0, slots := 0, locals := 43 } s m args below meth c H locs 0 0 (mZ below G (some (.int r)) (wB M β 8 S') args s) (F0 m 40 ls [.int t1, .ref (gA G (β + 0))]) := by
    intro x1 x2 t1 S H locs ls h hw hl
    unfold pX7_gate_b40 at h
    obtain ⟨v40, S40, h40, h⟩ := cw2_some h
    refine r_callV (As := [.int t1]) (rest := []) (st1 := [.int v40]) hx hb hml hown hts hE hw hl (mX7_refused l G (by omega) hR h40) (cwV 1 hts (zV gV_X7_146) rfl rfl rfl kdX7_refused ⟨Nat.le_of_ble_eq_true rfl, Nat.le_of_ble_eq_true rfl⟩) (by omega) (congrFun hR.1 _) rfl rfl rfl rfl (Nat.le_of_ble_eq_true rfl) dX7_gate_40 ⟨Nat.zero_le _, Nat.zero_le _⟩ rfl (fun H locs hw => ?_)
    refine b_eq (tgt := 48) hx hb dX7_gate_43 (by decide) h (fun h => ?_) (fun h => ?_)
    · refine lv_iload_n hx hb dX7_gate_48 rfl (lv_at hl 2 rfl) ?_
      refine lv_iconst (v := (nI 4)) hx hb dX7_gate_49 (by decide) ?_
      refine bi_ge (tgt := 66) hx hb dX7_gate_50 (by decide) h (fun h => ?_) (fun h => ?_)
      · refine lv_iload_n hx hb dX7_gate_66 rfl (lv_at hl 2 rfl) ?_
        refine lv_iconst (v := (nI 5)) hx hb dX7_gate_67 (by decide) ?_
        refine bi_ne (tgt := 79) hx hb dX7_gate_68 (by decide) h (fun h => ?_) (fun h => ?_)
        · refine lv_aload_n hx hb dX7_gate_79 rfl (lv_at hl 0 rfl) ?_
          refine r_get (v := .ref (gA G (β + 3))) hx hb hts hinX7 hown hE hw hn 0 (by decide) (congrFun hR.1 _) rfl 6 (by decide) (hts _ (wz_in qF_X7_16)) rfl dX7_gate_80 ?_
          refine lv_iload_n hx hb dX7_gate_83 rfl (lv_at hl 1 rfl) ?_
          obtain ⟨v84, h84, h⟩ := cr1_some h
          refine r_callS (As := [.ref (gA G (β + 3)), .int x1]) (rest := []) (st1 := [.int v84]) hx hb hml hown hts hE hw hl (mc_subR 3 1 (by decide) (mX7_isClosed l G (by show β + 3 + 1 ≤ _; omega) hR.2.2.2.1 h84)) (va_cwS 2 hts (zS gS_X7_109) rfl rfl rfl kdX7_isClosed ⟨Nat.le_of_ble_eq_true rfl, Nat.le_of_ble_eq_true rfl⟩) rfl rfl (Nat.le_of_ble_eq_true rfl) dX7_gate_84 ⟨Nat.zero_le _, Nat.zero_le _⟩ rfl (fun H locs hw => ?_)
          refine b_eq (tgt := 94) hx hb dX7_gate_87 (by decide) h (fun h => ?_) (fun h => ?_)
          · refine lv_iconst (v := (nI 0)) hx hb dX7_gate_94 (by decide) ?_
            exact e_iw hx hb hr hlocks hw dX7_gate_95 h
          · refine lv_iconst (v := (nI 1)) hx hb dX7_gate_90 (by decide) ?_
            refine lv_goto (tgt := 95) hx hb dX7_gate_91 (by decide) ?_
            exact e_iw hx hb hr hlocks hw dX7_gate_95 h
        · refine lv_aload_n hx hb dX7_gate_71 rfl (lv_at hl 0 rfl) ?_
          refine lv_iload_n hx hb dX7_gate_72 rfl (lv_at hl 1 rfl) ?_
          obtain ⟨v73, h73, h⟩ := cr1_some h
          refine r_callV (As := [.int x1]) (rest := []) (st1 := [.int v73]) hx hb hml hown hts hE hw hl (mX7_closedFor l G (by omega) hR h73) (cwV 1 hts (zV gV_X7_230) rfl rfl rfl kdX7_closedFor ⟨Nat.le_of_ble_eq_true rfl, Nat.le_of_ble_eq_true rfl⟩) (by omega) (congrFun hR.1 _) rfl rfl rfl rfl (Nat.le_of_ble_eq_true rfl) dX7_gate_73 ⟨Nat.zero_le _, Nat.zero_le _⟩ rfl (fun H locs hw => ?_)
          refine lv_goto (tgt := 95) hx hb dX7_gate_76 (by decide) ?_
          exact e_iw hx hb hr hlocks hw dX7_gate_95 h
      · refine lv_aload_n hx hb dX7_gate_53 rfl (lv_at hl 0 rfl) ?_
        refine r_get (v := .ref (gA G (β + 3))) hx hb hts hinX7 hown hE hw hn 0 (by decide) (congrFun hR.1 _) rfl 6 (by decide) (hts _ (wz_in qF_X7_16)) rfl dX7_gate_54 ?_
        refine lv_iload_n hx hb dX7_gate_57 rfl (lv_at hl 1 rfl) ?_
        refine lv_iload_n hx hb dX7_gate_58 rfl (lv_at hl 2 rfl) ?_
        obtain ⟨v59, h59, h⟩ := cr1_some h
        refine r_callS (As := [.int x1, .int x2]) (rest := [.ref (gA G (β + 3))]) (st1 := [.int v59, .ref (gA G (β + 3))]) hx hb hml hown hts hE hw hl (mX7_gateAt l G (M := (wB M β 8 S40)) h59) (va_cwS 2 hts (zS gS_X7_55) rfl rfl rfl kdX7_gateAt ⟨Nat.le_of_ble_eq_true rfl, Nat.le_of_ble_eq_true rfl⟩) rfl rfl (Nat.le_of_ble_eq_true rfl) dX7_gate_59 ⟨Nat.zero_le _, Nat.zero_le _⟩ rfl (fun H locs hw => ?_)
        refine p_iald hx hb hE hw hn 3 (by decide) (congrFun hR.2.2.2.1) dX7_gate_62 h (fun v62 h => ?_)
        refine lv_goto (tgt := 95) hx hb dX7_gate_63 (by decide) ?_
        exact e_iw hx hb hr hlocks hw dX7_gate_95 h
    · refine lv_iconst (v := (nI 0)) hx hb dX7_gate_46 (by decide) ?_
      exact e_iw hx hb hr hlocks hw dX7_gate_47 h
  unfold pX7_gate at h
  refine lv_aload_n hx hb dX7_gate_0 rfl (lv_at hl 0 rfl) ?_
  refine lv_iload_n hx hb dX7_gate_1 rfl (lv_at hl 1 rfl) ?_
  refine lv_i2l hx hb dX7_gate_2 rfl ?_
  refine lv_lconst (v := (lN 0)) hx hb dX7_gate_3 (by decide) ?_
  refine lv_aload_n hx hb dX7_gate_4 rfl (lv_at hl 0 rfl) ?_
  refine r_get (v := .ref (gA G (β + 3))) hx hb hts hinX7 hown hE hw hn 0 (by decide) (congrFun hR.1 _) rfl 6 (by decide) (hts _ (wz_in qF_X7_16)) rfl dX7_gate_5 ?_
  refine lv_iconst (v := (nI 2)) hx hb dX7_gate_8 (by decide) ?_
  refine p_iald hx hb hE hw hn 3 (by decide) (congrFun hR.2.2.2.1) dX7_gate_9 h (fun v9 h => ?_)
  refine lv_iconst (v := (nI 1)) hx hb dX7_gate_10 (by decide) ?_
  refine lv_isub hx hb dX7_gate_11 ?_
  refine lv_i2l hx hb dX7_gate_12 rfl ?_
  obtain ⟨v13, h13, h⟩ := cr1_some h
  refine r_callS (As := [.long (a1.toInt64), .long (lN 0), .long ((v9 - (nI 1)).toInt64)]) (rest := [.ref (gA G (β + 0))]) (st1 := [.int v13, .ref (gA G (β + 0))]) hx hb hml hown hts hE hw hl (mX7_in l G (M := (wB M β 8 S)) h13) (va_cwS 3 hts (zS gS_X7_139) rfl rfl rfl kdX7_in ⟨Nat.le_of_ble_eq_true rfl, Nat.le_of_ble_eq_true rfl⟩) rfl rfl (Nat.le_of_ble_eq_true rfl) dX7_gate_13 ⟨Nat.zero_le _, Nat.zero_le _⟩ rfl (fun H locs hw => ?_)
  refine b_ne (tgt := 23) hx hb dX7_gate_16 (by decide) h (fun h => ?_) (fun h => ?_)
  · refine lv_iload_n hx hb dX7_gate_23 rfl (lv_at hl 2 rfl) ?_
    refine lv_i2l hx hb dX7_gate_24 rfl ?_
    refine lv_lconst (v := (lN 0)) hx hb dX7_gate_25 (by decide) ?_
    refine lv_ldc2 (v := (lN 5)) hx hb hown (hts _ (wz_in qK_X7_228)) dX7_gate_26 ?_
    obtain ⟨v29, h29, h⟩ := cr1_some h
    refine r_callS (As := [.long (a2.toInt64), .long (lN 0), .long (lN 5)]) (rest := [.ref (gA G (β + 0))]) (st1 := [.int v29, .ref (gA G (β + 0))]) hx hb hml hown hts hE hw hl (mX7_in l G (M := (wB M β 8 S)) h29) (va_cwS 3 hts (zS gS_X7_139) rfl rfl rfl kdX7_in ⟨Nat.le_of_ble_eq_true rfl, Nat.le_of_ble_eq_true rfl⟩) rfl rfl (Nat.le_of_ble_eq_true rfl) dX7_gate_29 ⟨Nat.zero_le _, Nat.zero_le _⟩ rfl (fun H locs hw => ?_)
    refine b_eq (tgt := 39) hx hb dX7_gate_32 (by decide) h (fun h => ?_) (fun h => ?_)
    · refine lv_iconst (v := (nI 2)) hx hb dX7_gate_39 (by decide) ?_
      exact k40  a1 a2 (nI 2) S _ _ _ h hw (lv_sub hl [0, 1, 2] rfl)
    · refine lv_iconst (v := (nI 0)) hx hb dX7_gate_35 (by decide) ?_
      refine lv_goto (tgt := 40) hx hb dX7_gate_36 (by decide) ?_
      exact k40  a1 a2 (nI 0) S _ _ _ h hw (lv_sub hl [0, 1, 2] rfl)
  · refine lv_iconst (v := (nI 1)) hx hb dX7_gate_19 (by decide) ?_
    refine lv_goto (tgt := 40) hx hb dX7_gate_20 (by decide) ?_
    exact k40  a1 a2 (nI 1) S _ _ _ h hw (lv_sub hl [0, 1, 2] rfl)

set_option maxHeartbeats 4000000 in
set_option maxRecDepth 100000 in
theorem mX7_bay (l : Launch) (G : mG) {β : Nat} {M S S' : mM} {a1 : Int32} {a2 : Int32} {r : Int32} (hn : β + 8 ≤ gN G) (hR : isMod G β) (h : pX7_bay a1 a2 S = some (r, S')) : MC l G yX7_bay zzX7_bay 1 25 [.ref (gA G (β + 0)), .int a1, .int a2] (wB M β 8 S) (wB M β 8 S') (some (.int r)) := by
  refine mc_of (cc := cX7_bay) (maxL := 3) (ret := (some .int)) (by decide) rfl (Nat.le_of_ble_eq_true rfl) ?_
  intro p e s m args below meth c H ls hx hb hr hts hown hml hlocks hE hw hl
  have hl : lv_has ls 3 [(0, .ref (gA G (β + 0))), (1, .int a1), (2, .int a2)] := hl
  have hinX7 : ∀ w ∈ wsX70, w ∈ zzX7_bay := fun w h9 => wz_in (zinX7 w h9)
  have k40 : ∀ (x1 : Int32) (x2 : Int32) (t1 : Int32) (S : mM) (H : Heap) (locs : List Loc) (ls : Array Slot), pX7_bay_b40  x1 x2 t1 S = some (r, S') → mW G s (wB M β 8 S) H locs → lv_has ls 3 [(0, .ref (gA G (β + 0))), (1, .int x1), (2, .int x2)] → W p l e { frames := 1, cells := 0, slots := 0, locals := 25 } s m args below meth c H locs 0 0 (mZ below G (some (.int r)) (wB M β 8 S') args s) (F0 m 40 ls [.int t1, .ref (gA G (β + 0))]) := by
    intro x1 x2 t1 S H locs ls h hw hl
    unfold pX7_bay_b40 at h
    obtain ⟨v40, S40, h40, h⟩ := cw2_some h
    refine r_callV (As := [.int t1]) (rest := []) (st1 := [.int v40]) hx hb hml hown hts hE hw hl (mX7_refused l G (by omega) hR h40) (cwV 1 hts (zV gV_X7_146) rfl rfl rfl kdX7_refused ⟨Nat.le_of_ble_eq_true rfl, Nat.le_of_ble_eq_true rfl⟩) (by omega) (congrFun hR.1 _) rfl rfl rfl rfl (Nat.le_of_ble_eq_true rfl) dX7_bay_40 ⟨Nat.zero_le _, Nat.zero_le _⟩ rfl (fun H locs hw => ?_)
    refine b_eq (tgt := 48) hx hb dX7_bay_43 (by decide) h (fun h => ?_) (fun h => ?_)
    · refine lv_iload_n hx hb dX7_bay_48 rfl (lv_at hl 2 rfl) ?_
      refine lv_iconst (v := (nI 3)) hx hb dX7_bay_49 (by decide) ?_
      refine bi_ge (tgt := 66) hx hb dX7_bay_50 (by decide) h (fun h => ?_) (fun h => ?_)
      · refine lv_aload_n hx hb dX7_bay_66 rfl (lv_at hl 0 rfl) ?_
        refine r_get (v := .ref (gA G (β + 3))) hx hb hts hinX7 hown hE hw hn 0 (by decide) (congrFun hR.1 _) rfl 6 (by decide) (hts _ (wz_in qF_X7_16)) rfl dX7_bay_67 ?_
        refine lv_iload_n hx hb dX7_bay_70 rfl (lv_at hl 1 rfl) ?_
        refine lv_iconst (v := (nI 2)) hx hb dX7_bay_71 (by decide) ?_
        obtain ⟨v72, h72, h⟩ := cr1_some h
        refine r_callS (As := [.int x1, .int (nI 2)]) (rest := [.ref (gA G (β + 3))]) (st1 := [.int v72, .ref (gA G (β + 3))]) hx hb hml hown hts hE hw hl (mX7_bayAt l G (M := (wB M β 8 S40)) h72) (va_cwS 2 hts (zS gS_X7_58) rfl rfl rfl kdX7_bayAt ⟨Nat.le_of_ble_eq_true rfl, Nat.le_of_ble_eq_true rfl⟩) rfl rfl (Nat.le_of_ble_eq_true rfl) dX7_bay_72 ⟨Nat.zero_le _, Nat.zero_le _⟩ rfl (fun H locs hw => ?_)
        refine p_iald hx hb hE hw hn 3 (by decide) (congrFun hR.2.2.2.1) dX7_bay_75 h (fun v75 h => ?_)
        refine b_ne (tgt := 84) hx hb dX7_bay_76 (by decide) h (fun h => ?_) (fun h => ?_)
        · refine lv_aload_n hx hb dX7_bay_84 rfl (lv_at hl 0 rfl) ?_
          refine r_get (v := .ref (gA G (β + 3))) hx hb hts hinX7 hown hE hw hn 0 (by decide) (congrFun hR.1 _) rfl 6 (by decide) (hts _ (wz_in qF_X7_16)) rfl dX7_bay_85 ?_
          refine lv_iload_n hx hb dX7_bay_88 rfl (lv_at hl 1 rfl) ?_
          refine lv_iconst (v := (nI 3)) hx hb dX7_bay_89 (by decide) ?_
          obtain ⟨v90, h90, h⟩ := cr1_some h
          refine r_callS (As := [.int x1, .int (nI 3)]) (rest := [.ref (gA G (β + 3))]) (st1 := [.int v90, .ref (gA G (β + 3))]) hx hb hml hown hts hE hw hl (mX7_bayAt l G (M := (wB M β 8 S40)) h90) (va_cwS 2 hts (zS gS_X7_58) rfl rfl rfl kdX7_bayAt ⟨Nat.le_of_ble_eq_true rfl, Nat.le_of_ble_eq_true rfl⟩) rfl rfl (Nat.le_of_ble_eq_true rfl) dX7_bay_90 ⟨Nat.zero_le _, Nat.zero_le _⟩ rfl (fun H locs hw => ?_)
          refine p_iald hx hb hE hw hn 3 (by decide) (congrFun hR.2.2.2.1) dX7_bay_93 h (fun v93 h => ?_)
          exact e_iw hx hb hr hlocks hw dX7_bay_94 h
        · refine lv_bipush (v := (-9)) hx hb dX7_bay_79 (by decide) ?_
          refine lv_goto (tgt := 94) hx hb dX7_bay_81 (by decide) ?_
          exact e_iw hx hb hr hlocks hw dX7_bay_94 h
      · refine lv_aload_n hx hb dX7_bay_53 rfl (lv_at hl 0 rfl) ?_
        refine r_get (v := .ref (gA G (β + 3))) hx hb hts hinX7 hown hE hw hn 0 (by decide) (congrFun hR.1 _) rfl 6 (by decide) (hts _ (wz_in qF_X7_16)) rfl dX7_bay_54 ?_
        refine lv_iload_n hx hb dX7_bay_57 rfl (lv_at hl 1 rfl) ?_
        refine lv_iload_n hx hb dX7_bay_58 rfl (lv_at hl 2 rfl) ?_
        obtain ⟨v59, h59, h⟩ := cr1_some h
        refine r_callS (As := [.int x1, .int x2]) (rest := [.ref (gA G (β + 3))]) (st1 := [.int v59, .ref (gA G (β + 3))]) hx hb hml hown hts hE hw hl (mX7_bayAt l G (M := (wB M β 8 S40)) h59) (va_cwS 2 hts (zS gS_X7_58) rfl rfl rfl kdX7_bayAt ⟨Nat.le_of_ble_eq_true rfl, Nat.le_of_ble_eq_true rfl⟩) rfl rfl (Nat.le_of_ble_eq_true rfl) dX7_bay_59 ⟨Nat.zero_le _, Nat.zero_le _⟩ rfl (fun H locs hw => ?_)
        refine p_iald hx hb hE hw hn 3 (by decide) (congrFun hR.2.2.2.1) dX7_bay_62 h (fun v62 h => ?_)
        refine lv_goto (tgt := 94) hx hb dX7_bay_63 (by decide) ?_
        exact e_iw hx hb hr hlocks hw dX7_bay_94 h
    · refine lv_iconst (v := (nI 0)) hx hb dX7_bay_46 (by decide) ?_
      exact e_iw hx hb hr hlocks hw dX7_bay_47 h
  unfold pX7_bay at h
  refine lv_aload_n hx hb dX7_bay_0 rfl (lv_at hl 0 rfl) ?_
  refine lv_iload_n hx hb dX7_bay_1 rfl (lv_at hl 1 rfl) ?_
  refine lv_i2l hx hb dX7_bay_2 rfl ?_
  refine lv_lconst (v := (lN 0)) hx hb dX7_bay_3 (by decide) ?_
  refine lv_aload_n hx hb dX7_bay_4 rfl (lv_at hl 0 rfl) ?_
  refine r_get (v := .ref (gA G (β + 3))) hx hb hts hinX7 hown hE hw hn 0 (by decide) (congrFun hR.1 _) rfl 6 (by decide) (hts _ (wz_in qF_X7_16)) rfl dX7_bay_5 ?_
  refine lv_iconst (v := (nI 3)) hx hb dX7_bay_8 (by decide) ?_
  refine p_iald hx hb hE hw hn 3 (by decide) (congrFun hR.2.2.2.1) dX7_bay_9 h (fun v9 h => ?_)
  refine lv_iconst (v := (nI 1)) hx hb dX7_bay_10 (by decide) ?_
  refine lv_isub hx hb dX7_bay_11 ?_
  refine lv_i2l hx hb dX7_bay_12 rfl ?_
  obtain ⟨v13, h13, h⟩ := cr1_some h
  refine r_callS (As := [.long (a1.toInt64), .long (lN 0), .long ((v9 - (nI 1)).toInt64)]) (rest := [.ref (gA G (β + 0))]) (st1 := [.int v13, .ref (gA G (β + 0))]) hx hb hml hown hts hE hw hl (mX7_in l G (M := (wB M β 8 S)) h13) (va_cwS 3 hts (zS gS_X7_139) rfl rfl rfl kdX7_in ⟨Nat.le_of_ble_eq_true rfl, Nat.le_of_ble_eq_true rfl⟩) rfl rfl (Nat.le_of_ble_eq_true rfl) dX7_bay_13 ⟨Nat.zero_le _, Nat.zero_le _⟩ rfl (fun H locs hw => ?_)
  refine b_ne (tgt := 23) hx hb dX7_bay_16 (by decide) h (fun h => ?_) (fun h => ?_)
  · refine lv_iload_n hx hb dX7_bay_23 rfl (lv_at hl 2 rfl) ?_
    refine lv_i2l hx hb dX7_bay_24 rfl ?_
    refine lv_lconst (v := (lN 0)) hx hb dX7_bay_25 (by decide) ?_
    refine lv_ldc2 (v := (lN 3)) hx hb hown (hts _ (wz_in qK_X7_234)) dX7_bay_26 ?_
    obtain ⟨v29, h29, h⟩ := cr1_some h
    refine r_callS (As := [.long (a2.toInt64), .long (lN 0), .long (lN 3)]) (rest := [.ref (gA G (β + 0))]) (st1 := [.int v29, .ref (gA G (β + 0))]) hx hb hml hown hts hE hw hl (mX7_in l G (M := (wB M β 8 S)) h29) (va_cwS 3 hts (zS gS_X7_139) rfl rfl rfl kdX7_in ⟨Nat.le_of_ble_eq_true rfl, Nat.le_of_ble_eq_true rfl⟩) rfl rfl (Nat.le_of_ble_eq_true rfl) dX7_bay_29 ⟨Nat.zero_le _, Nat.zero_le _⟩ rfl (fun H locs hw => ?_)
    refine b_eq (tgt := 39) hx hb dX7_bay_32 (by decide) h (fun h => ?_) (fun h => ?_)
    · refine lv_iconst (v := (nI 2)) hx hb dX7_bay_39 (by decide) ?_
      exact k40  a1 a2 (nI 2) S _ _ _ h hw (lv_sub hl [0, 1, 2] rfl)
    · refine lv_iconst (v := (nI 0)) hx hb dX7_bay_35 (by decide) ?_
      refine lv_goto (tgt := 40) hx hb dX7_bay_36 (by decide) ?_
      exact k40  a1 a2 (nI 0) S _ _ _ h hw (lv_sub hl [0, 1, 2] rfl)
  · refine lv_iconst (v := (nI 1)) hx hb dX7_bay_19 (by decide) ?_
    refine lv_goto (tgt := 40) hx hb dX7_bay_20 (by decide) ?_
    exact k40  a1 a2 (nI 1) S _ _ _ h hw (lv_sub hl [0, 1, 2] rfl)

set_option maxHeartbeats 4000000 in
set_option maxRecDepth 100000 in
theorem mX7_isDepot (l : Launch) (G : mG) {β : Nat} {M S : mM} {a1 : Int32} {r : Int32} (hn : β + 8 ≤ gN G) (hR : isMod G β) (h : pX7_isDepot a1 S = some r) : MC l G yX7_isDepot zzX7_isDepot 1 25 [.ref (gA G (β + 0)), .int a1] (wB M β 8 S) (wB M β 8 S) (some (.int r)) := by
  refine mc_of (cc := cX7_isDepot) (maxL := 2) (ret := (some .boolean)) (by decide) rfl (Nat.le_of_ble_eq_true rfl) ?_
  intro p e s m args below meth c H ls hx hb hr hts hown hml hlocks hE hw hl
  have hl : lv_has ls 2 [(0, .ref (gA G (β + 0))), (1, .int a1)] := hl
  have hinX7 : ∀ w ∈ wsX70, w ∈ zzX7_isDepot := fun w h9 => wz_in (zinX7 w h9)
  unfold pX7_isDepot at h
  refine lv_iload_n hx hb dX7_isDepot_0 rfl (lv_at hl 1 rfl) ?_
  refine lv_i2l hx hb dX7_isDepot_1 rfl ?_
  refine lv_lconst (v := (lN 0)) hx hb dX7_isDepot_2 (by decide) ?_
  refine lv_aload_n hx hb dX7_isDepot_3 rfl (lv_at hl 0 rfl) ?_
  refine r_get (v := .ref (gA G (β + 3))) hx hb hts hinX7 hown hE hw hn 0 (by decide) (congrFun hR.1 _) rfl 6 (by decide) (hts _ (wz_in qF_X7_16)) rfl dX7_isDepot_4 ?_
  refine lv_iconst (v := (nI 4)) hx hb dX7_isDepot_7 (by decide) ?_
  refine p_iald hx hb hE hw hn 3 (by decide) (congrFun hR.2.2.2.1) dX7_isDepot_8 h (fun v8 h => ?_)
  refine lv_iconst (v := (nI 1)) hx hb dX7_isDepot_9 (by decide) ?_
  refine lv_isub hx hb dX7_isDepot_10 ?_
  refine lv_i2l hx hb dX7_isDepot_11 rfl ?_
  obtain ⟨v12, h12, h⟩ := cr1_some h
  refine r_callS (As := [.long (a1.toInt64), .long (lN 0), .long ((v8 - (nI 1)).toInt64)]) (rest := []) (st1 := [.int v12]) hx hb hml hown hts hE hw hl (mX7_in l G (M := (wB M β 8 S)) h12) (va_cwS 3 hts (zS gS_X7_139) rfl rfl rfl kdX7_in ⟨Nat.le_of_ble_eq_true rfl, Nat.le_of_ble_eq_true rfl⟩) rfl rfl (Nat.le_of_ble_eq_true rfl) dX7_isDepot_12 ⟨Nat.zero_le _, Nat.zero_le _⟩ rfl (fun H locs hw => ?_)
  exact e_z hx hb hr hlocks hw dX7_isDepot_15 h

set_option maxHeartbeats 4000000 in
set_option maxRecDepth 100000 in
theorem mX7_depot (l : Launch) (G : mG) {β : Nat} {M S S' : mM} {a1 : Int32} {a2 : Int32} {r : Int32} (hn : β + 8 ≤ gN G) (hR : isMod G β) (h : pX7_depot a1 a2 S = some (r, S')) : MC l G yX7_depot zzX7_depot 2 46 [.ref (gA G (β + 0)), .int a1, .int a2] (wB M β 8 S) (wB M β 8 S') (some (.int r)) := by
  refine mc_of (cc := cX7_depot) (maxL := 3) (ret := (some .int)) (by decide) rfl (Nat.le_of_ble_eq_true rfl) ?_
  intro p e s m args below meth c H ls hx hb hr hts hown hml hlocks hE hw hl
  have hl : lv_has ls 3 [(0, .ref (gA G (β + 0))), (1, .int a1), (2, .int a2)] := hl
  have hinX7 : ∀ w ∈ wsX70, w ∈ zzX7_depot := fun w h9 => wz_in (zinX7 w h9)
  have k28 : ∀ (x1 : Int32) (x2 : Int32) (t1 : Int32) (S : mM) (H : Heap) (locs : List Loc) (ls : Array Slot), pX7_depot_b28  x1 x2 t1 S = some (r, S') → mW G s (wB M β 8 S) H locs → lv_has ls 3 [(0, .ref (gA G (β + 0))), (1, .int x1), (2, .int x2)] → W p l e { frames := 2, cells := 0, slots := 0, locals := 46 } s m args below meth c H locs 0 0 (mZ below G (some (.int r)) (wB M β 8 S') args s) (F0 m 28 ls [.int t1, .ref (gA G (β + 0))]) := by
    intro x1 x2 t1 S H locs ls h hw hl
    unfold pX7_depot_b28 at h
    obtain ⟨v28, S28, h28, h⟩ := cw2_some h
    refine r_callV (As := [.int t1]) (rest := []) (st1 := [.int v28]) hx hb hml hown hts hE hw hl (mX7_refused l G (by omega) hR h28) (cwV 1 hts (zV gV_X7_146) rfl rfl rfl kdX7_refused ⟨Nat.le_of_ble_eq_true rfl, Nat.le_of_ble_eq_true rfl⟩) (by omega) (congrFun hR.1 _) rfl rfl rfl rfl (Nat.le_of_ble_eq_true rfl) dX7_depot_28 ⟨Nat.zero_le _, Nat.zero_le _⟩ rfl (fun H locs hw => ?_)
    refine b_eq (tgt := 38) hx hb dX7_depot_31 (by decide) h (fun h => ?_) (fun h => ?_)
    · refine lv_aload_n hx hb dX7_depot_38 rfl (lv_at hl 0 rfl) ?_
      refine r_get (v := .ref (gA G (β + 3))) hx hb hts hinX7 hown hE hw hn 0 (by decide) (congrFun hR.1 _) rfl 6 (by decide) (hts _ (wz_in qF_X7_16)) rfl dX7_depot_39 ?_
      refine lv_iload_n hx hb dX7_depot_42 rfl (lv_at hl 1 rfl) ?_
      refine lv_iload_n hx hb dX7_depot_43 rfl (lv_at hl 2 rfl) ?_
      obtain ⟨v44, h44, h⟩ := cr1_some h
      refine r_callS (As := [.int x1, .int x2]) (rest := [.ref (gA G (β + 3))]) (st1 := [.int v44, .ref (gA G (β + 3))]) hx hb hml hown hts hE hw hl (mX7_depotAt l G (M := (wB M β 8 S28)) h44) (va_cwS 2 hts (zS gS_X7_61) rfl rfl rfl kdX7_depotAt ⟨Nat.le_of_ble_eq_true rfl, Nat.le_of_ble_eq_true rfl⟩) rfl rfl (Nat.le_of_ble_eq_true rfl) dX7_depot_44 ⟨Nat.zero_le _, Nat.zero_le _⟩ rfl (fun H locs hw => ?_)
      refine p_iald hx hb hE hw hn 3 (by decide) (congrFun hR.2.2.2.1) dX7_depot_47 h (fun v47 h => ?_)
      exact e_iw hx hb hr hlocks hw dX7_depot_48 h
    · refine lv_iconst (v := (nI 0)) hx hb dX7_depot_34 (by decide) ?_
      refine lv_goto (tgt := 48) hx hb dX7_depot_35 (by decide) ?_
      exact e_iw hx hb hr hlocks hw dX7_depot_48 h
  unfold pX7_depot at h
  refine lv_aload_n hx hb dX7_depot_0 rfl (lv_at hl 0 rfl) ?_
  refine lv_aload_n hx hb dX7_depot_1 rfl (lv_at hl 0 rfl) ?_
  refine lv_iload_n hx hb dX7_depot_2 rfl (lv_at hl 1 rfl) ?_
  obtain ⟨v3, h3, h⟩ := cr1_some h
  refine r_callV (As := [.int a1]) (rest := [.ref (gA G (β + 0))]) (st1 := [.int v3, .ref (gA G (β + 0))]) hx hb hml hown hts hE hw hl (mX7_isDepot l G (by omega) hR h3) (cwV 1 hts (zV gV_X7_236) rfl rfl rfl kdX7_isDepot ⟨Nat.le_of_ble_eq_true rfl, Nat.le_of_ble_eq_true rfl⟩) (by omega) (congrFun hR.1 _) rfl rfl rfl rfl (Nat.le_of_ble_eq_true rfl) dX7_depot_3 ⟨Nat.zero_le _, Nat.zero_le _⟩ rfl (fun H locs hw => ?_)
  refine b_ne (tgt := 13) hx hb dX7_depot_6 (by decide) h (fun h => ?_) (fun h => ?_)
  · refine lv_iload_n hx hb dX7_depot_13 rfl (lv_at hl 2 rfl) ?_
    refine lv_i2l hx hb dX7_depot_14 rfl ?_
    refine lv_lconst (v := (lN 0)) hx hb dX7_depot_15 (by decide) ?_
    refine lv_lconst (v := (lN 1)) hx hb dX7_depot_16 (by decide) ?_
    obtain ⟨v17, h17, h⟩ := cr1_some h
    refine r_callS (As := [.long (a2.toInt64), .long (lN 0), .long (lN 1)]) (rest := [.ref (gA G (β + 0))]) (st1 := [.int v17, .ref (gA G (β + 0))]) hx hb hml hown hts hE hw hl (mX7_in l G (M := (wB M β 8 S)) h17) (va_cwS 3 hts (zS gS_X7_139) rfl rfl rfl kdX7_in ⟨Nat.le_of_ble_eq_true rfl, Nat.le_of_ble_eq_true rfl⟩) rfl rfl (Nat.le_of_ble_eq_true rfl) dX7_depot_17 ⟨Nat.zero_le _, Nat.zero_le _⟩ rfl (fun H locs hw => ?_)
    refine b_eq (tgt := 27) hx hb dX7_depot_20 (by decide) h (fun h => ?_) (fun h => ?_)
    · refine lv_iconst (v := (nI 2)) hx hb dX7_depot_27 (by decide) ?_
      exact k28  a1 a2 (nI 2) S _ _ _ h hw (lv_sub hl [0, 1, 2] rfl)
    · refine lv_iconst (v := (nI 0)) hx hb dX7_depot_23 (by decide) ?_
      refine lv_goto (tgt := 28) hx hb dX7_depot_24 (by decide) ?_
      exact k28  a1 a2 (nI 0) S _ _ _ h hw (lv_sub hl [0, 1, 2] rfl)
  · refine lv_iconst (v := (nI 1)) hx hb dX7_depot_9 (by decide) ?_
    refine lv_goto (tgt := 28) hx hb dX7_depot_10 (by decide) ?_
    exact k28  a1 a2 (nI 1) S _ _ _ h hw (lv_sub hl [0, 1, 2] rfl)

set_option maxHeartbeats 4000000 in
set_option maxRecDepth 100000 in
theorem mX7_addGate (l : Launch) (G : mG) {β : Nat} {M S S' : mM} {a1 : Int32} {a2 : Int32} {a3 : Int32} {a4 : Int32} {r : Int32} (hn : β + 8 ≤ gN G) (hR : isMod G β) (h : pX7_addGate a1 a2 a3 a4 S = some (r, S')) : MC l G yX7_addGate zzX7_addGate 2 46 [.ref (gA G (β + 0)), .int a1, .int a2, .int a3, .int a4] (wB M β 8 S) (wB M β 8 S') (some (.int r)) := by
  refine mc_of (cc := cX7_addGate) (maxL := 6) (ret := (some .int)) (by decide) rfl (Nat.le_of_ble_eq_true rfl) ?_
  intro p e s m args below meth c H ls hx hb hr hts hown hml hlocks hE hw hl
  have hl : lv_has ls 6 [(0, .ref (gA G (β + 0))), (1, .int a1), (2, .int a2), (3, .int a3), (4, .int a4)] := hl
  have hinX7 : ∀ w ∈ wsX70, w ∈ zzX7_addGate := fun w h9 => wz_in (zinX7 w h9)
  have k104 : ∀ (x1 : Int32) (x2 : Int32) (x3 : Int32) (x4 : Int32) (t1 : Int32) (S : mM) (H : Heap) (locs : List Loc) (ls : Array Slot), pX7_addGate_b104  x1 x2 x3 x4 t1 S = some (r, S') → mW G s (wB M β 8 S) H locs → lv_has ls 6 [(0, .ref (gA G (β + 0))), (1, .int x1), (2, .int x2), (3, .int x3), (4, .int x4)] → W p l e { frames := 2, cells := 0, slots := 0, locals := 46 } s m args below meth c H locs 0 0 (mZ below G (some (.int r)) (wB M β 8 S') args s) (F0 m 104 ls [.int t1, .ref (gA G (β + 0))]) := by
    intro x1 x2 x3 x4 t1 S H locs ls h hw hl
    unfold pX7_addGate_b104 at h
    obtain ⟨v104, S104, h104, h⟩ := cw2_some h
    refine r_callV (As := [.int t1]) (rest := []) (st1 := [.int v104]) hx hb hml hown hts hE hw hl (mX7_refused l G (by omega) hR h104) (cwV 1 hts (zV gV_X7_146) rfl rfl rfl kdX7_refused ⟨Nat.le_of_ble_eq_true rfl, Nat.le_of_ble_eq_true rfl⟩) (by omega) (congrFun hR.1 _) rfl rfl rfl rfl (Nat.le_of_ble_eq_true rfl) dX7_addGate_104 ⟨Nat.zero_le _, Nat.zero_le _⟩ rfl (fun H locs hw => ?_)
    refine b_eq (tgt := 112) hx hb dX7_addGate_107 (by decide) h (fun h => ?_) (fun h => ?_)
    · refine lv_aload_n hx hb dX7_addGate_112 rfl (lv_at hl 0 rfl) ?_
      obtain ⟨S113, h113, h⟩ := cr1_some h
      refine r_callV (As := []) (rest := []) (st1 := []) hx hb hml hown hts hE hw hl (mX7_remember l G (by omega) hR h113) (cwV 0 hts (zV gV_X7_243) rfl rfl rfl kdX7_remember ⟨Nat.le_of_ble_eq_true rfl, Nat.le_of_ble_eq_true rfl⟩) (by omega) (congrFun hR.1 _) rfl rfl rfl rfl (Nat.le_of_ble_eq_true rfl) dX7_addGate_113 ⟨Nat.zero_le _, Nat.zero_le _⟩ rfl (fun H locs hw => ?_)
      refine lv_aload_n hx hb dX7_addGate_116 rfl (lv_at hl 0 rfl) ?_
      refine r_get (v := .ref (gA G (β + 3))) hx hb hts hinX7 hown hE hw hn 0 (by decide) (congrFun hR.1 _) rfl 6 (by decide) (hts _ (wz_in qF_X7_16)) rfl dX7_addGate_117 ?_
      refine lv_iload_n hx hb dX7_addGate_120 rfl (lv_at hl 1 rfl) ?_
      refine lv_iload_n hx hb dX7_addGate_121 rfl (lv_at hl 2 rfl) ?_
      refine lv_iload_n hx hb dX7_addGate_122 rfl (lv_at hl 3 rfl) ?_
      refine lv_iload hx hb dX7_addGate_123 (lv_at hl 4 rfl) ?_
      obtain ⟨T125, h125, h⟩ := cvs_some h
      refine r_callS (As := [.ref (gA G (β + 3)), .int x1, .int x2, .int x3, .int x4]) (rest := []) (st1 := []) hx hb hml hown hts hE hw hl (mc_sub 3 1 (by decide) (mX7_addGateTo l G (by show β + 3 + 1 ≤ _; omega) hR.2.2.2.1 h125)) (va_cwS 5 hts (zS gS_X7_172) rfl rfl rfl kdX7_addGateTo ⟨Nat.le_of_ble_eq_true rfl, Nat.le_of_ble_eq_true rfl⟩) rfl rfl (Nat.le_of_ble_eq_true rfl) dX7_addGate_125 ⟨Nat.zero_le _, Nat.zero_le _⟩ rfl (fun H locs hw => ?_)
      generalize wB S113 3 1 T125 = S125 at h hw
      refine lv_aload_n hx hb dX7_addGate_128 rfl (lv_at hl 0 rfl) ?_
      refine r_get (v := .ref (gA G (β + 3))) hx hb hts hinX7 hown hE hw hn 0 (by decide) (congrFun hR.1 _) rfl 6 (by decide) (hts _ (wz_in qF_X7_16)) rfl dX7_addGate_129 ?_
      refine lv_iconst (v := (nI 2)) hx hb dX7_addGate_132 (by decide) ?_
      refine p_iald hx hb hE hw hn 3 (by decide) (congrFun hR.2.2.2.1) dX7_addGate_133 h (fun v133 h => ?_)
      refine lv_iconst (v := (nI 1)) hx hb dX7_addGate_134 (by decide) ?_
      refine lv_isub hx hb dX7_addGate_135 ?_
      exact e_iw hx hb hr hlocks hw dX7_addGate_136 h
    · refine lv_iconst (v := (nI 0)) hx hb dX7_addGate_110 (by decide) ?_
      exact e_iw hx hb hr hlocks hw dX7_addGate_111 h
  have k99 : ∀ (x1 : Int32) (x2 : Int32) (x3 : Int32) (x4 : Int32) (S : mM) (H : Heap) (locs : List Loc) (ls : Array Slot), pX7_addGate_b99  x1 x2 x3 x4 S = some (r, S') → mW G s (wB M β 8 S) H locs → lv_has ls 6 [(0, .ref (gA G (β + 0))), (1, .int x1), (2, .int x2), (3, .int x3), (4, .int x4)] → W p l e { frames := 2, cells := 0, slots := 0, locals := 46 } s m args below meth c H locs 0 0 (mZ below G (some (.int r)) (wB M β 8 S') args s) (F0 m 99 ls [.ref (gA G (β + 0))]) := by
    intro x1 x2 x3 x4 S H locs ls h hw hl
    unfold pX7_addGate_b99 at h
    refine lv_iconst (v := (nI 2)) hx hb dX7_addGate_99 (by decide) ?_
    refine lv_goto (tgt := 104) hx hb dX7_addGate_100 (by decide) ?_
    exact k104  x1 x2 x3 x4 (nI 2) S _ _ _ h hw (lv_sub hl [0, 1, 2, 3, 4] rfl)
  have k64 : ∀ (x1 : Int32) (x2 : Int32) (x3 : Int32) (x4 : Int32) (t0 : Int32) (S : mM) (H : Heap) (locs : List Loc) (ls : Array Slot), pX7_addGate_b64  x1 x2 x3 x4 t0 S = some (r, S') → mW G s (wB M β 8 S) H locs → lv_has ls 6 [(0, .ref (gA G (β + 0))), (1, .int x1), (2, .int x2), (3, .int x3), (4, .int x4)] → W p l e { frames := 2, cells := 0, slots := 0, locals := 46 } s m args below meth c H locs 0 0 (mZ below G (some (.int r)) (wB M β 8 S') args s) (F0 m 64 ls [.int t0]) := by
    intro x1 x2 x3 x4 t0 S H locs ls h hw hl
    unfold pX7_addGate_b64 at h
    refine lv_istore (lv' := [(5, .int t0), (0, .ref (gA G (β + 0))), (1, .int x1), (2, .int x2), (3, .int x3), (4, .int x4)]) hx hb dX7_addGate_64 hl (by decide) rfl (fun ls hl => ?_)
    refine lv_aload_n hx hb dX7_addGate_66 rfl (lv_at hl 1 rfl) ?_
    refine lv_iload hx hb dX7_addGate_67 (lv_at hl 0 rfl) ?_
    refine b_ne (tgt := 76) hx hb dX7_addGate_69 (by decide) h (fun h => ?_) (fun h => ?_)
    · refine lv_aload_n hx hb dX7_addGate_76 rfl (lv_at hl 1 rfl) ?_
      refine r_get (v := .ref (gA G (β + 3))) hx hb hts hinX7 hown hE hw hn 0 (by decide) (congrFun hR.1 _) rfl 6 (by decide) (hts _ (wz_in qF_X7_16)) rfl dX7_addGate_77 ?_
      refine lv_iconst (v := (nI 2)) hx hb dX7_addGate_80 (by decide) ?_
      refine p_iald hx hb hE hw hn 3 (by decide) (congrFun hR.2.2.2.1) dX7_addGate_81 h (fun v81 h => ?_)
      refine lv_iconst (v := (nI 4)) hx hb dX7_addGate_82 (by decide) ?_
      refine bi_eq (tgt := 99) hx hb dX7_addGate_83 (by decide) h (fun h => ?_) (fun h => ?_)
      · exact k99  x1 x2 x3 x4 S _ _ _ h hw (lv_sub hl [1, 2, 3, 4, 5] rfl)
      · refine lv_aload_n hx hb dX7_addGate_86 rfl (lv_at hl 1 rfl) ?_
        refine r_get (v := .ref (gA G (β + 3))) hx hb hts hinX7 hown hE hw hn 0 (by decide) (congrFun hR.1 _) rfl 6 (by decide) (hts _ (wz_in qF_X7_16)) rfl dX7_addGate_87 ?_
        refine lv_iload_n hx hb dX7_addGate_90 rfl (lv_at hl 2 rfl) ?_
        obtain ⟨v91, h91, h⟩ := cr1_some h
        refine r_callS (As := [.ref (gA G (β + 3)), .int x1]) (rest := [.ref (gA G (β + 0))]) (st1 := [.int v91, .ref (gA G (β + 0))]) hx hb hml hown hts hE hw hl (mc_subR 3 1 (by decide) (mX7_gateOn l G (by show β + 3 + 1 ≤ _; omega) hR.2.2.2.1 h91)) (va_cwS 2 hts (zS gS_X7_106) rfl rfl rfl kdX7_gateOn ⟨Nat.le_of_ble_eq_true rfl, Nat.le_of_ble_eq_true rfl⟩) rfl rfl (Nat.le_of_ble_eq_true rfl) dX7_addGate_91 ⟨Nat.zero_le _, Nat.zero_le _⟩ rfl (fun H locs hw => ?_)
        refine lv_bipush (v := (-9)) hx hb dX7_addGate_94 (by decide) ?_
        refine bi_eq (tgt := 103) hx hb dX7_addGate_96 (by decide) h (fun h => ?_) (fun h => ?_)
        · refine lv_iconst (v := (nI 0)) hx hb dX7_addGate_103 (by decide) ?_
          exact k104  x1 x2 x3 x4 (nI 0) S _ _ _ h hw (lv_sub hl [1, 2, 3, 4, 5] rfl)
        · exact k99  x1 x2 x3 x4 S _ _ _ h hw (lv_sub hl [1, 2, 3, 4, 5] rfl)
    · refine lv_iconst (v := (nI 1)) hx hb dX7_addGate_72 (by decide) ?_
      refine lv_goto (tgt := 104) hx hb dX7_addGate_73 (by decide) ?_
      exact k104  x1 x2 x3 x4 (nI 1) S _ _ _ h hw (lv_sub hl [1, 2, 3, 4, 5] rfl)
  have k63 : ∀ (x1 : Int32) (x2 : Int32) (x3 : Int32) (x4 : Int32) (S : mM) (H : Heap) (locs : List Loc) (ls : Array Slot), pX7_addGate_b63  x1 x2 x3 x4 S = some (r, S') → mW G s (wB M β 8 S) H locs → lv_has ls 6 [(0, .ref (gA G (β + 0))), (1, .int x1), (2, .int x2), (3, .int x3), (4, .int x4)] → W p l e { frames := 2, cells := 0, slots := 0, locals := 46 } s m args below meth c H locs 0 0 (mZ below G (some (.int r)) (wB M β 8 S') args s) (F0 m 63 ls []) := by
    intro x1 x2 x3 x4 S H locs ls h hw hl
    unfold pX7_addGate_b63 at h
    refine lv_iconst (v := (nI 0)) hx hb dX7_addGate_63 (by decide) ?_
    exact k64  x1 x2 x3 x4 (nI 0) S _ _ _ h hw (lv_sub hl [0, 1, 2, 3, 4] rfl)
  unfold pX7_addGate at h
  refine lv_iload_n hx hb dX7_addGate_0 rfl (lv_at hl 1 rfl) ?_
  refine lv_i2l hx hb dX7_addGate_1 rfl ?_
  refine lv_lconst (v := (lN 1)) hx hb dX7_addGate_2 (by decide) ?_
  refine lv_aload_n hx hb dX7_addGate_3 rfl (lv_at hl 0 rfl) ?_
  refine r_get (v := .ref (gA G (β + 3))) hx hb hts hinX7 hown hE hw hn 0 (by decide) (congrFun hR.1 _) rfl 6 (by decide) (hts _ (wz_in qF_X7_16)) rfl dX7_addGate_4 ?_
  refine lv_iconst (v := (nI 0)) hx hb dX7_addGate_7 (by decide) ?_
  refine p_iald hx hb hE hw hn 3 (by decide) (congrFun hR.2.2.2.1) dX7_addGate_8 h (fun v8 h => ?_)
  refine lv_iconst (v := (nI 1)) hx hb dX7_addGate_9 (by decide) ?_
  refine lv_isub hx hb dX7_addGate_10 ?_
  refine lv_i2l hx hb dX7_addGate_11 rfl ?_
  obtain ⟨v12, h12, h⟩ := cr1_some h
  refine r_callS (As := [.long (a1.toInt64), .long (lN 1), .long ((v8 - (nI 1)).toInt64)]) (rest := []) (st1 := [.int v12]) hx hb hml hown hts hE hw hl (mX7_in l G (M := (wB M β 8 S)) h12) (va_cwS 3 hts (zS gS_X7_139) rfl rfl rfl kdX7_in ⟨Nat.le_of_ble_eq_true rfl, Nat.le_of_ble_eq_true rfl⟩) rfl rfl (Nat.le_of_ble_eq_true rfl) dX7_addGate_12 ⟨Nat.zero_le _, Nat.zero_le _⟩ rfl (fun H locs hw => ?_)
  refine b_eq (tgt := 63) hx hb dX7_addGate_15 (by decide) h (fun h => ?_) (fun h => ?_)
  · exact k63  a1 a2 a3 a4 S _ _ _ h hw (lv_sub hl [0, 1, 2, 3, 4] rfl)
  · refine lv_iload_n hx hb dX7_addGate_18 rfl (lv_at hl 2 rfl) ?_
    refine lv_i2l hx hb dX7_addGate_19 rfl ?_
    refine lv_ldc2 (v := (lN 2)) hx hb hown (hts _ (wz_in qK_X7_239)) dX7_addGate_20 ?_
    refine lv_ldc2 (v := (lN 24)) hx hb hown (hts _ (wz_in qK_X7_241)) dX7_addGate_23 ?_
    obtain ⟨v26, h26, h⟩ := cr1_some h
    refine r_callS (As := [.long (a2.toInt64), .long (lN 2), .long (lN 24)]) (rest := []) (st1 := [.int v26]) hx hb hml hown hts hE hw hl (mX7_in l G (M := (wB M β 8 S)) h26) (va_cwS 3 hts (zS gS_X7_139) rfl rfl rfl kdX7_in ⟨Nat.le_of_ble_eq_true rfl, Nat.le_of_ble_eq_true rfl⟩) rfl rfl (Nat.le_of_ble_eq_true rfl) dX7_addGate_26 ⟨Nat.zero_le _, Nat.zero_le _⟩ rfl (fun H locs hw => ?_)
    refine b_eq (tgt := 63) hx hb dX7_addGate_29 (by decide) h (fun h => ?_) (fun h => ?_)
    · exact k63  a1 a2 a3 a4 S _ _ _ h hw (lv_sub hl [0, 1, 2, 3, 4] rfl)
    · refine lv_iload_n hx hb dX7_addGate_32 rfl (lv_at hl 3 rfl) ?_
      refine lv_i2l hx hb dX7_addGate_33 rfl ?_
      refine lv_lconst (v := (lN 0)) hx hb dX7_addGate_34 (by decide) ?_
      refine lv_iload_n hx hb dX7_addGate_35 rfl (lv_at hl 2 rfl) ?_
      refine lv_i2l hx hb dX7_addGate_36 rfl ?_
      refine lv_lconst (v := (lN 1)) hx hb dX7_addGate_37 (by decide) ?_
      refine lv_lsub hx hb dX7_addGate_38 ?_
      obtain ⟨v39, h39, h⟩ := cr1_some h
      refine r_callS (As := [.long (a3.toInt64), .long (lN 0), .long ((a2.toInt64) - (lN 1))]) (rest := []) (st1 := [.int v39]) hx hb hml hown hts hE hw hl (mX7_in l G (M := (wB M β 8 S)) h39) (va_cwS 3 hts (zS gS_X7_139) rfl rfl rfl kdX7_in ⟨Nat.le_of_ble_eq_true rfl, Nat.le_of_ble_eq_true rfl⟩) rfl rfl (Nat.le_of_ble_eq_true rfl) dX7_addGate_39 ⟨Nat.zero_le _, Nat.zero_le _⟩ rfl (fun H locs hw => ?_)
      refine b_eq (tgt := 63) hx hb dX7_addGate_42 (by decide) h (fun h => ?_) (fun h => ?_)
      · exact k63  a1 a2 a3 a4 S _ _ _ h hw (lv_sub hl [0, 1, 2, 3, 4] rfl)
      · refine lv_iload hx hb dX7_addGate_45 (lv_at hl 4 rfl) ?_
        refine lv_i2l hx hb dX7_addGate_47 rfl ?_
        refine lv_lconst (v := (lN 0)) hx hb dX7_addGate_48 (by decide) ?_
        refine lv_iload_n hx hb dX7_addGate_49 rfl (lv_at hl 2 rfl) ?_
        refine lv_i2l hx hb dX7_addGate_50 rfl ?_
        refine lv_lconst (v := (lN 1)) hx hb dX7_addGate_51 (by decide) ?_
        refine lv_lsub hx hb dX7_addGate_52 ?_
        obtain ⟨v53, h53, h⟩ := cr1_some h
        refine r_callS (As := [.long (a4.toInt64), .long (lN 0), .long ((a2.toInt64) - (lN 1))]) (rest := []) (st1 := [.int v53]) hx hb hml hown hts hE hw hl (mX7_in l G (M := (wB M β 8 S)) h53) (va_cwS 3 hts (zS gS_X7_139) rfl rfl rfl kdX7_in ⟨Nat.le_of_ble_eq_true rfl, Nat.le_of_ble_eq_true rfl⟩) rfl rfl (Nat.le_of_ble_eq_true rfl) dX7_addGate_53 ⟨Nat.zero_le _, Nat.zero_le _⟩ rfl (fun H locs hw => ?_)
        refine b_eq (tgt := 63) hx hb dX7_addGate_56 (by decide) h (fun h => ?_) (fun h => ?_)
        · exact k63  a1 a2 a3 a4 S _ _ _ h hw (lv_sub hl [0, 1, 2, 3, 4] rfl)
        · refine lv_iconst (v := (nI 1)) hx hb dX7_addGate_59 (by decide) ?_
          refine lv_goto (tgt := 64) hx hb dX7_addGate_60 (by decide) ?_
          exact k64  a1 a2 a3 a4 (nI 1) S _ _ _ h hw (lv_sub hl [0, 1, 2, 3, 4] rfl)

set_option maxHeartbeats 4000000 in
set_option maxRecDepth 100000 in
theorem mX7_addBay (l : Launch) (G : mG) {β : Nat} {M S S' : mM} {a1 : Int32} {a2 : Int32} {r : Int32} (hn : β + 8 ≤ gN G) (hR : isMod G β) (h : pX7_addBay a1 a2 S = some (r, S')) : MC l G yX7_addBay zzX7_addBay 2 45 [.ref (gA G (β + 0)), .int a1, .int a2] (wB M β 8 S) (wB M β 8 S') (some (.int r)) := by
  refine mc_of (cc := cX7_addBay) (maxL := 4) (ret := (some .int)) (by decide) rfl (Nat.le_of_ble_eq_true rfl) ?_
  intro p e s m args below meth c H ls hx hb hr hts hown hml hlocks hE hw hl
  have hl : lv_has ls 4 [(0, .ref (gA G (β + 0))), (1, .int a1), (2, .int a2)] := hl
  have hinX7 : ∀ w ∈ wsX70, w ∈ zzX7_addBay := fun w h9 => wz_in (zinX7 w h9)
  have k74 : ∀ (x1 : Int32) (x2 : Int32) (t1 : Int32) (S : mM) (H : Heap) (locs : List Loc) (ls : Array Slot), pX7_addBay_b74  x1 x2 t1 S = some (r, S') → mW G s (wB M β 8 S) H locs → lv_has ls 4 [(0, .ref (gA G (β + 0))), (1, .int x1), (2, .int x2)] → W p l e { frames := 2, cells := 0, slots := 0, locals := 45 } s m args below meth c H locs 0 0 (mZ below G (some (.int r)) (wB M β 8 S') args s) (F0 m 74 ls [.int t1, .ref (gA G (β + 0))]) := by
    intro x1 x2 t1 S H locs ls h hw hl
    unfold pX7_addBay_b74 at h
    obtain ⟨v74, S74, h74, h⟩ := cw2_some h
    refine r_callV (As := [.int t1]) (rest := []) (st1 := [.int v74]) hx hb hml hown hts hE hw hl (mX7_refused l G (by omega) hR h74) (cwV 1 hts (zV gV_X7_146) rfl rfl rfl kdX7_refused ⟨Nat.le_of_ble_eq_true rfl, Nat.le_of_ble_eq_true rfl⟩) (by omega) (congrFun hR.1 _) rfl rfl rfl rfl (Nat.le_of_ble_eq_true rfl) dX7_addBay_74 ⟨Nat.zero_le _, Nat.zero_le _⟩ rfl (fun H locs hw => ?_)
    refine b_eq (tgt := 82) hx hb dX7_addBay_77 (by decide) h (fun h => ?_) (fun h => ?_)
    · refine lv_aload_n hx hb dX7_addBay_82 rfl (lv_at hl 0 rfl) ?_
      obtain ⟨S83, h83, h⟩ := cr1_some h
      refine r_callV (As := []) (rest := []) (st1 := []) hx hb hml hown hts hE hw hl (mX7_remember l G (by omega) hR h83) (cwV 0 hts (zV gV_X7_243) rfl rfl rfl kdX7_remember ⟨Nat.le_of_ble_eq_true rfl, Nat.le_of_ble_eq_true rfl⟩) (by omega) (congrFun hR.1 _) rfl rfl rfl rfl (Nat.le_of_ble_eq_true rfl) dX7_addBay_83 ⟨Nat.zero_le _, Nat.zero_le _⟩ rfl (fun H locs hw => ?_)
      refine lv_aload_n hx hb dX7_addBay_86 rfl (lv_at hl 0 rfl) ?_
      refine r_get (v := .ref (gA G (β + 3))) hx hb hts hinX7 hown hE hw hn 0 (by decide) (congrFun hR.1 _) rfl 6 (by decide) (hts _ (wz_in qF_X7_16)) rfl dX7_addBay_87 ?_
      refine lv_iload_n hx hb dX7_addBay_90 rfl (lv_at hl 1 rfl) ?_
      refine lv_iload_n hx hb dX7_addBay_91 rfl (lv_at hl 2 rfl) ?_
      obtain ⟨T92, h92, h⟩ := cvs_some h
      refine r_callS (As := [.ref (gA G (β + 3)), .int x1, .int x2]) (rest := []) (st1 := []) hx hb hml hown hts hE hw hl (mc_sub 3 1 (by decide) (mX7_addBayTo l G (by show β + 3 + 1 ≤ _; omega) hR.2.2.2.1 h92)) (va_cwS 3 hts (zS gS_X7_176) rfl rfl rfl kdX7_addBayTo ⟨Nat.le_of_ble_eq_true rfl, Nat.le_of_ble_eq_true rfl⟩) rfl rfl (Nat.le_of_ble_eq_true rfl) dX7_addBay_92 ⟨Nat.zero_le _, Nat.zero_le _⟩ rfl (fun H locs hw => ?_)
      generalize wB S83 3 1 T92 = S92 at h hw
      refine lv_aload_n hx hb dX7_addBay_95 rfl (lv_at hl 0 rfl) ?_
      refine r_get (v := .ref (gA G (β + 3))) hx hb hts hinX7 hown hE hw hn 0 (by decide) (congrFun hR.1 _) rfl 6 (by decide) (hts _ (wz_in qF_X7_16)) rfl dX7_addBay_96 ?_
      refine lv_iconst (v := (nI 3)) hx hb dX7_addBay_99 (by decide) ?_
      refine p_iald hx hb hE hw hn 3 (by decide) (congrFun hR.2.2.2.1) dX7_addBay_100 h (fun v100 h => ?_)
      refine lv_iconst (v := (nI 1)) hx hb dX7_addBay_101 (by decide) ?_
      refine lv_isub hx hb dX7_addBay_102 ?_
      exact e_iw hx hb hr hlocks hw dX7_addBay_103 h
    · refine lv_iconst (v := (nI 0)) hx hb dX7_addBay_80 (by decide) ?_
      exact e_iw hx hb hr hlocks hw dX7_addBay_81 h
  have k69 : ∀ (x1 : Int32) (x2 : Int32) (S : mM) (H : Heap) (locs : List Loc) (ls : Array Slot), pX7_addBay_b69  x1 x2 S = some (r, S') → mW G s (wB M β 8 S) H locs → lv_has ls 4 [(0, .ref (gA G (β + 0))), (1, .int x1), (2, .int x2)] → W p l e { frames := 2, cells := 0, slots := 0, locals := 45 } s m args below meth c H locs 0 0 (mZ below G (some (.int r)) (wB M β 8 S') args s) (F0 m 69 ls [.ref (gA G (β + 0))]) := by
    intro x1 x2 S H locs ls h hw hl
    unfold pX7_addBay_b69 at h
    refine lv_iconst (v := (nI 2)) hx hb dX7_addBay_69 (by decide) ?_
    refine lv_goto (tgt := 74) hx hb dX7_addBay_70 (by decide) ?_
    exact k74  x1 x2 (nI 2) S _ _ _ h hw (lv_sub hl [0, 1, 2] rfl)
  have k35 : ∀ (x1 : Int32) (x2 : Int32) (t0 : Int32) (S : mM) (H : Heap) (locs : List Loc) (ls : Array Slot), pX7_addBay_b35  x1 x2 t0 S = some (r, S') → mW G s (wB M β 8 S) H locs → lv_has ls 4 [(0, .ref (gA G (β + 0))), (1, .int x1), (2, .int x2)] → W p l e { frames := 2, cells := 0, slots := 0, locals := 45 } s m args below meth c H locs 0 0 (mZ below G (some (.int r)) (wB M β 8 S') args s) (F0 m 35 ls [.int t0]) := by
    intro x1 x2 t0 S H locs ls h hw hl
    unfold pX7_addBay_b35 at h
    refine lv_istore_n (lv' := [(3, .int t0), (0, .ref (gA G (β + 0))), (1, .int x1), (2, .int x2)]) hx hb dX7_addBay_35 rfl hl (by decide) rfl (fun ls hl => ?_)
    refine lv_aload_n hx hb dX7_addBay_36 rfl (lv_at hl 1 rfl) ?_
    refine lv_iload_n hx hb dX7_addBay_37 rfl (lv_at hl 0 rfl) ?_
    refine b_ne (tgt := 45) hx hb dX7_addBay_38 (by decide) h (fun h => ?_) (fun h => ?_)
    · refine lv_aload_n hx hb dX7_addBay_45 rfl (lv_at hl 1 rfl) ?_
      refine r_get (v := .ref (gA G (β + 3))) hx hb hts hinX7 hown hE hw hn 0 (by decide) (congrFun hR.1 _) rfl 6 (by decide) (hts _ (wz_in qF_X7_16)) rfl dX7_addBay_46 ?_
      refine lv_iconst (v := (nI 3)) hx hb dX7_addBay_49 (by decide) ?_
      refine p_iald hx hb hE hw hn 3 (by decide) (congrFun hR.2.2.2.1) dX7_addBay_50 h (fun v50 h => ?_)
      refine lv_bipush (v := (nI 6)) hx hb dX7_addBay_51 (by decide) ?_
      refine bi_eq (tgt := 69) hx hb dX7_addBay_53 (by decide) h (fun h => ?_) (fun h => ?_)
      · exact k69  x1 x2 S _ _ _ h hw (lv_sub hl [1, 2, 3] rfl)
      · refine lv_aload_n hx hb dX7_addBay_56 rfl (lv_at hl 1 rfl) ?_
        refine r_get (v := .ref (gA G (β + 3))) hx hb hts hinX7 hown hE hw hn 0 (by decide) (congrFun hR.1 _) rfl 6 (by decide) (hts _ (wz_in qF_X7_16)) rfl dX7_addBay_57 ?_
        refine lv_iload_n hx hb dX7_addBay_60 rfl (lv_at hl 2 rfl) ?_
        obtain ⟨v61, h61, h⟩ := cr1_some h
        refine r_callS (As := [.ref (gA G (β + 3)), .int x1]) (rest := [.ref (gA G (β + 0))]) (st1 := [.int v61, .ref (gA G (β + 0))]) hx hb hml hown hts hE hw hl (mc_subR 3 1 (by decide) (mX7_bayOn l G (by show β + 3 + 1 ≤ _; omega) hR.2.2.2.1 h61)) (va_cwS 2 hts (zS gS_X7_78) rfl rfl rfl kdX7_bayOn ⟨Nat.le_of_ble_eq_true rfl, Nat.le_of_ble_eq_true rfl⟩) rfl rfl (Nat.le_of_ble_eq_true rfl) dX7_addBay_61 ⟨Nat.zero_le _, Nat.zero_le _⟩ rfl (fun H locs hw => ?_)
        refine lv_bipush (v := (-9)) hx hb dX7_addBay_64 (by decide) ?_
        refine bi_eq (tgt := 73) hx hb dX7_addBay_66 (by decide) h (fun h => ?_) (fun h => ?_)
        · refine lv_iconst (v := (nI 0)) hx hb dX7_addBay_73 (by decide) ?_
          exact k74  x1 x2 (nI 0) S _ _ _ h hw (lv_sub hl [1, 2, 3] rfl)
        · exact k69  x1 x2 S _ _ _ h hw (lv_sub hl [1, 2, 3] rfl)
    · refine lv_iconst (v := (nI 1)) hx hb dX7_addBay_41 (by decide) ?_
      refine lv_goto (tgt := 74) hx hb dX7_addBay_42 (by decide) ?_
      exact k74  x1 x2 (nI 1) S _ _ _ h hw (lv_sub hl [1, 2, 3] rfl)
  have k34 : ∀ (x1 : Int32) (x2 : Int32) (S : mM) (H : Heap) (locs : List Loc) (ls : Array Slot), pX7_addBay_b34  x1 x2 S = some (r, S') → mW G s (wB M β 8 S) H locs → lv_has ls 4 [(0, .ref (gA G (β + 0))), (1, .int x1), (2, .int x2)] → W p l e { frames := 2, cells := 0, slots := 0, locals := 45 } s m args below meth c H locs 0 0 (mZ below G (some (.int r)) (wB M β 8 S') args s) (F0 m 34 ls []) := by
    intro x1 x2 S H locs ls h hw hl
    unfold pX7_addBay_b34 at h
    refine lv_iconst (v := (nI 0)) hx hb dX7_addBay_34 (by decide) ?_
    exact k35  x1 x2 (nI 0) S _ _ _ h hw (lv_sub hl [0, 1, 2] rfl)
  unfold pX7_addBay at h
  refine lv_iload_n hx hb dX7_addBay_0 rfl (lv_at hl 1 rfl) ?_
  refine lv_i2l hx hb dX7_addBay_1 rfl ?_
  refine lv_lconst (v := (lN 1)) hx hb dX7_addBay_2 (by decide) ?_
  refine lv_aload_n hx hb dX7_addBay_3 rfl (lv_at hl 0 rfl) ?_
  refine r_get (v := .ref (gA G (β + 3))) hx hb hts hinX7 hown hE hw hn 0 (by decide) (congrFun hR.1 _) rfl 6 (by decide) (hts _ (wz_in qF_X7_16)) rfl dX7_addBay_4 ?_
  refine lv_iconst (v := (nI 0)) hx hb dX7_addBay_7 (by decide) ?_
  refine p_iald hx hb hE hw hn 3 (by decide) (congrFun hR.2.2.2.1) dX7_addBay_8 h (fun v8 h => ?_)
  refine lv_iconst (v := (nI 1)) hx hb dX7_addBay_9 (by decide) ?_
  refine lv_isub hx hb dX7_addBay_10 ?_
  refine lv_i2l hx hb dX7_addBay_11 rfl ?_
  obtain ⟨v12, h12, h⟩ := cr1_some h
  refine r_callS (As := [.long (a1.toInt64), .long (lN 1), .long ((v8 - (nI 1)).toInt64)]) (rest := []) (st1 := [.int v12]) hx hb hml hown hts hE hw hl (mX7_in l G (M := (wB M β 8 S)) h12) (va_cwS 3 hts (zS gS_X7_139) rfl rfl rfl kdX7_in ⟨Nat.le_of_ble_eq_true rfl, Nat.le_of_ble_eq_true rfl⟩) rfl rfl (Nat.le_of_ble_eq_true rfl) dX7_addBay_12 ⟨Nat.zero_le _, Nat.zero_le _⟩ rfl (fun H locs hw => ?_)
  refine b_eq (tgt := 34) hx hb dX7_addBay_15 (by decide) h (fun h => ?_) (fun h => ?_)
  · exact k34  a1 a2 S _ _ _ h hw (lv_sub hl [0, 1, 2] rfl)
  · refine lv_iload_n hx hb dX7_addBay_18 rfl (lv_at hl 2 rfl) ?_
    refine lv_i2l hx hb dX7_addBay_19 rfl ?_
    refine lv_lconst (v := (lN 1)) hx hb dX7_addBay_20 (by decide) ?_
    refine lv_ldc2 (v := (lN 6)) hx hb hown (hts _ (wz_in qK_X7_226)) dX7_addBay_21 ?_
    obtain ⟨v24, h24, h⟩ := cr1_some h
    refine r_callS (As := [.long (a2.toInt64), .long (lN 1), .long (lN 6)]) (rest := []) (st1 := [.int v24]) hx hb hml hown hts hE hw hl (mX7_in l G (M := (wB M β 8 S)) h24) (va_cwS 3 hts (zS gS_X7_139) rfl rfl rfl kdX7_in ⟨Nat.le_of_ble_eq_true rfl, Nat.le_of_ble_eq_true rfl⟩) rfl rfl (Nat.le_of_ble_eq_true rfl) dX7_addBay_24 ⟨Nat.zero_le _, Nat.zero_le _⟩ rfl (fun H locs hw => ?_)
    refine b_eq (tgt := 34) hx hb dX7_addBay_27 (by decide) h (fun h => ?_) (fun h => ?_)
    · exact k34  a1 a2 S _ _ _ h hw (lv_sub hl [0, 1, 2] rfl)
    · refine lv_iconst (v := (nI 1)) hx hb dX7_addBay_30 (by decide) ?_
      refine lv_goto (tgt := 35) hx hb dX7_addBay_31 (by decide) ?_
      exact k35  a1 a2 (nI 1) S _ _ _ h hw (lv_sub hl [0, 1, 2] rfl)

set_option maxHeartbeats 4000000 in
set_option maxRecDepth 100000 in
theorem mX7_addDepot (l : Launch) (G : mG) {β : Nat} {M S S' : mM} {a1 : Int32} {a2 : Int32} {r : Int32} (hn : β + 8 ≤ gN G) (hR : isMod G β) (h : pX7_addDepot a1 a2 S = some (r, S')) : MC l G yX7_addDepot zzX7_addDepot 2 45 [.ref (gA G (β + 0)), .int a1, .int a2] (wB M β 8 S) (wB M β 8 S') (some (.int r)) := by
  refine mc_of (cc := cX7_addDepot) (maxL := 4) (ret := (some .int)) (by decide) rfl (Nat.le_of_ble_eq_true rfl) ?_
  intro p e s m args below meth c H ls hx hb hr hts hown hml hlocks hE hw hl
  have hl : lv_has ls 4 [(0, .ref (gA G (β + 0))), (1, .int a1), (2, .int a2)] := hl
  have hinX7 : ∀ w ∈ wsX70, w ∈ zzX7_addDepot := fun w h9 => wz_in (zinX7 w h9)
  have k71 : ∀ (x1 : Int32) (x2 : Int32) (t1 : Int32) (S : mM) (H : Heap) (locs : List Loc) (ls : Array Slot), pX7_addDepot_b71  x1 x2 t1 S = some (r, S') → mW G s (wB M β 8 S) H locs → lv_has ls 4 [(0, .ref (gA G (β + 0))), (1, .int x1), (2, .int x2)] → W p l e { frames := 2, cells := 0, slots := 0, locals := 45 } s m args below meth c H locs 0 0 (mZ below G (some (.int r)) (wB M β 8 S') args s) (F0 m 71 ls [.int t1, .ref (gA G (β + 0))]) := by
    intro x1 x2 t1 S H locs ls h hw hl
    unfold pX7_addDepot_b71 at h
    obtain ⟨v71, S71, h71, h⟩ := cw2_some h
    refine r_callV (As := [.int t1]) (rest := []) (st1 := [.int v71]) hx hb hml hown hts hE hw hl (mX7_refused l G (by omega) hR h71) (cwV 1 hts (zV gV_X7_146) rfl rfl rfl kdX7_refused ⟨Nat.le_of_ble_eq_true rfl, Nat.le_of_ble_eq_true rfl⟩) (by omega) (congrFun hR.1 _) rfl rfl rfl rfl (Nat.le_of_ble_eq_true rfl) dX7_addDepot_71 ⟨Nat.zero_le _, Nat.zero_le _⟩ rfl (fun H locs hw => ?_)
    refine b_eq (tgt := 79) hx hb dX7_addDepot_74 (by decide) h (fun h => ?_) (fun h => ?_)
    · refine lv_aload_n hx hb dX7_addDepot_79 rfl (lv_at hl 0 rfl) ?_
      obtain ⟨S80, h80, h⟩ := cr1_some h
      refine r_callV (As := []) (rest := []) (st1 := []) hx hb hml hown hts hE hw hl (mX7_remember l G (by omega) hR h80) (cwV 0 hts (zV gV_X7_243) rfl rfl rfl kdX7_remember ⟨Nat.le_of_ble_eq_true rfl, Nat.le_of_ble_eq_true rfl⟩) (by omega) (congrFun hR.1 _) rfl rfl rfl rfl (Nat.le_of_ble_eq_true rfl) dX7_addDepot_80 ⟨Nat.zero_le _, Nat.zero_le _⟩ rfl (fun H locs hw => ?_)
      refine lv_aload_n hx hb dX7_addDepot_83 rfl (lv_at hl 0 rfl) ?_
      refine r_get (v := .ref (gA G (β + 3))) hx hb hts hinX7 hown hE hw hn 0 (by decide) (congrFun hR.1 _) rfl 6 (by decide) (hts _ (wz_in qF_X7_16)) rfl dX7_addDepot_84 ?_
      refine lv_iload_n hx hb dX7_addDepot_87 rfl (lv_at hl 1 rfl) ?_
      refine lv_iload_n hx hb dX7_addDepot_88 rfl (lv_at hl 2 rfl) ?_
      obtain ⟨T89, h89, h⟩ := cvs_some h
      refine r_callS (As := [.ref (gA G (β + 3)), .int x1, .int x2]) (rest := []) (st1 := []) hx hb hml hown hts hE hw hl (mc_sub 3 1 (by decide) (mX7_addDepotTo l G (by show β + 3 + 1 ≤ _; omega) hR.2.2.2.1 h89)) (va_cwS 3 hts (zS gS_X7_180) rfl rfl rfl kdX7_addDepotTo ⟨Nat.le_of_ble_eq_true rfl, Nat.le_of_ble_eq_true rfl⟩) rfl rfl (Nat.le_of_ble_eq_true rfl) dX7_addDepot_89 ⟨Nat.zero_le _, Nat.zero_le _⟩ rfl (fun H locs hw => ?_)
      generalize wB S80 3 1 T89 = S89 at h hw
      refine lv_aload_n hx hb dX7_addDepot_92 rfl (lv_at hl 0 rfl) ?_
      refine r_get (v := .ref (gA G (β + 3))) hx hb hts hinX7 hown hE hw hn 0 (by decide) (congrFun hR.1 _) rfl 6 (by decide) (hts _ (wz_in qF_X7_16)) rfl dX7_addDepot_93 ?_
      refine lv_iconst (v := (nI 4)) hx hb dX7_addDepot_96 (by decide) ?_
      refine p_iald hx hb hE hw hn 3 (by decide) (congrFun hR.2.2.2.1) dX7_addDepot_97 h (fun v97 h => ?_)
      refine lv_iconst (v := (nI 1)) hx hb dX7_addDepot_98 (by decide) ?_
      refine lv_isub hx hb dX7_addDepot_99 ?_
      exact e_iw hx hb hr hlocks hw dX7_addDepot_100 h
    · refine lv_iconst (v := (nI 0)) hx hb dX7_addDepot_77 (by decide) ?_
      exact e_iw hx hb hr hlocks hw dX7_addDepot_78 h
  have k66 : ∀ (x1 : Int32) (x2 : Int32) (S : mM) (H : Heap) (locs : List Loc) (ls : Array Slot), pX7_addDepot_b66  x1 x2 S = some (r, S') → mW G s (wB M β 8 S) H locs → lv_has ls 4 [(0, .ref (gA G (β + 0))), (1, .int x1), (2, .int x2)] → W p l e { frames := 2, cells := 0, slots := 0, locals := 45 } s m args below meth c H locs 0 0 (mZ below G (some (.int r)) (wB M β 8 S') args s) (F0 m 66 ls [.ref (gA G (β + 0))]) := by
    intro x1 x2 S H locs ls h hw hl
    unfold pX7_addDepot_b66 at h
    refine lv_iconst (v := (nI 2)) hx hb dX7_addDepot_66 (by decide) ?_
    refine lv_goto (tgt := 71) hx hb dX7_addDepot_67 (by decide) ?_
    exact k71  x1 x2 (nI 2) S _ _ _ h hw (lv_sub hl [0, 1, 2] rfl)
  have k33 : ∀ (x1 : Int32) (x2 : Int32) (t0 : Int32) (S : mM) (H : Heap) (locs : List Loc) (ls : Array Slot), pX7_addDepot_b33  x1 x2 t0 S = some (r, S') → mW G s (wB M β 8 S) H locs → lv_has ls 4 [(0, .ref (gA G (β + 0))), (1, .int x1), (2, .int x2)] → W p l e { frames := 2, cells := 0, slots := 0, locals := 45 } s m args below meth c H locs 0 0 (mZ below G (some (.int r)) (wB M β 8 S') args s) (F0 m 33 ls [.int t0]) := by
    intro x1 x2 t0 S H locs ls h hw hl
    unfold pX7_addDepot_b33 at h
    refine lv_istore_n (lv' := [(3, .int t0), (0, .ref (gA G (β + 0))), (1, .int x1), (2, .int x2)]) hx hb dX7_addDepot_33 rfl hl (by decide) rfl (fun ls hl => ?_)
    refine lv_aload_n hx hb dX7_addDepot_34 rfl (lv_at hl 1 rfl) ?_
    refine lv_iload_n hx hb dX7_addDepot_35 rfl (lv_at hl 0 rfl) ?_
    refine b_ne (tgt := 43) hx hb dX7_addDepot_36 (by decide) h (fun h => ?_) (fun h => ?_)
    · refine lv_aload_n hx hb dX7_addDepot_43 rfl (lv_at hl 1 rfl) ?_
      refine r_get (v := .ref (gA G (β + 3))) hx hb hts hinX7 hown hE hw hn 0 (by decide) (congrFun hR.1 _) rfl 6 (by decide) (hts _ (wz_in qF_X7_16)) rfl dX7_addDepot_44 ?_
      refine lv_iconst (v := (nI 4)) hx hb dX7_addDepot_47 (by decide) ?_
      refine p_iald hx hb hE hw hn 3 (by decide) (congrFun hR.2.2.2.1) dX7_addDepot_48 h (fun v48 h => ?_)
      refine lv_iconst (v := (nI 4)) hx hb dX7_addDepot_49 (by decide) ?_
      refine bi_eq (tgt := 66) hx hb dX7_addDepot_50 (by decide) h (fun h => ?_) (fun h => ?_)
      · exact k66  x1 x2 S _ _ _ h hw (lv_sub hl [1, 2, 3] rfl)
      · refine lv_aload_n hx hb dX7_addDepot_53 rfl (lv_at hl 1 rfl) ?_
        refine r_get (v := .ref (gA G (β + 3))) hx hb hts hinX7 hown hE hw hn 0 (by decide) (congrFun hR.1 _) rfl 6 (by decide) (hts _ (wz_in qF_X7_16)) rfl dX7_addDepot_54 ?_
        refine lv_iload_n hx hb dX7_addDepot_57 rfl (lv_at hl 2 rfl) ?_
        obtain ⟨v58, h58, h⟩ := cr1_some h
        refine r_callS (As := [.ref (gA G (β + 3)), .int x1]) (rest := [.ref (gA G (β + 0))]) (st1 := [.int v58, .ref (gA G (β + 0))]) hx hb hml hown hts hE hw hl (mc_subR 3 1 (by decide) (mX7_depotOn l G (by show β + 3 + 1 ≤ _; omega) hR.2.2.2.1 h58)) (va_cwS 2 hts (zS gS_X7_75) rfl rfl rfl kdX7_depotOn ⟨Nat.le_of_ble_eq_true rfl, Nat.le_of_ble_eq_true rfl⟩) rfl rfl (Nat.le_of_ble_eq_true rfl) dX7_addDepot_58 ⟨Nat.zero_le _, Nat.zero_le _⟩ rfl (fun H locs hw => ?_)
        refine lv_bipush (v := (-9)) hx hb dX7_addDepot_61 (by decide) ?_
        refine bi_eq (tgt := 70) hx hb dX7_addDepot_63 (by decide) h (fun h => ?_) (fun h => ?_)
        · refine lv_iconst (v := (nI 0)) hx hb dX7_addDepot_70 (by decide) ?_
          exact k71  x1 x2 (nI 0) S _ _ _ h hw (lv_sub hl [1, 2, 3] rfl)
        · exact k66  x1 x2 S _ _ _ h hw (lv_sub hl [1, 2, 3] rfl)
    · refine lv_iconst (v := (nI 1)) hx hb dX7_addDepot_39 (by decide) ?_
      refine lv_goto (tgt := 71) hx hb dX7_addDepot_40 (by decide) ?_
      exact k71  x1 x2 (nI 1) S _ _ _ h hw (lv_sub hl [1, 2, 3] rfl)
  have k32 : ∀ (x1 : Int32) (x2 : Int32) (S : mM) (H : Heap) (locs : List Loc) (ls : Array Slot), pX7_addDepot_b32  x1 x2 S = some (r, S') → mW G s (wB M β 8 S) H locs → lv_has ls 4 [(0, .ref (gA G (β + 0))), (1, .int x1), (2, .int x2)] → W p l e { frames := 2, cells := 0, slots := 0, locals := 45 } s m args below meth c H locs 0 0 (mZ below G (some (.int r)) (wB M β 8 S') args s) (F0 m 32 ls []) := by
    intro x1 x2 S H locs ls h hw hl
    unfold pX7_addDepot_b32 at h
    refine lv_iconst (v := (nI 0)) hx hb dX7_addDepot_32 (by decide) ?_
    exact k33  x1 x2 (nI 0) S _ _ _ h hw (lv_sub hl [0, 1, 2] rfl)
  unfold pX7_addDepot at h
  refine lv_iload_n hx hb dX7_addDepot_0 rfl (lv_at hl 1 rfl) ?_
  refine lv_i2l hx hb dX7_addDepot_1 rfl ?_
  refine lv_lconst (v := (lN 0)) hx hb dX7_addDepot_2 (by decide) ?_
  refine lv_aload_n hx hb dX7_addDepot_3 rfl (lv_at hl 0 rfl) ?_
  refine r_get (v := .ref (gA G (β + 3))) hx hb hts hinX7 hown hE hw hn 0 (by decide) (congrFun hR.1 _) rfl 6 (by decide) (hts _ (wz_in qF_X7_16)) rfl dX7_addDepot_4 ?_
  refine lv_iconst (v := (nI 0)) hx hb dX7_addDepot_7 (by decide) ?_
  refine p_iald hx hb hE hw hn 3 (by decide) (congrFun hR.2.2.2.1) dX7_addDepot_8 h (fun v8 h => ?_)
  refine lv_i2l hx hb dX7_addDepot_9 rfl ?_
  obtain ⟨v10, h10, h⟩ := cr1_some h
  refine r_callS (As := [.long (a1.toInt64), .long (lN 0), .long (v8.toInt64)]) (rest := []) (st1 := [.int v10]) hx hb hml hown hts hE hw hl (mX7_in l G (M := (wB M β 8 S)) h10) (va_cwS 3 hts (zS gS_X7_139) rfl rfl rfl kdX7_in ⟨Nat.le_of_ble_eq_true rfl, Nat.le_of_ble_eq_true rfl⟩) rfl rfl (Nat.le_of_ble_eq_true rfl) dX7_addDepot_10 ⟨Nat.zero_le _, Nat.zero_le _⟩ rfl (fun H locs hw => ?_)
  refine b_eq (tgt := 32) hx hb dX7_addDepot_13 (by decide) h (fun h => ?_) (fun h => ?_)
  · exact k32  a1 a2 S _ _ _ h hw (lv_sub hl [0, 1, 2] rfl)
  · refine lv_iload_n hx hb dX7_addDepot_16 rfl (lv_at hl 2 rfl) ?_
    refine lv_i2l hx hb dX7_addDepot_17 rfl ?_
    refine lv_lconst (v := (lN 0)) hx hb dX7_addDepot_18 (by decide) ?_
    refine lv_ldc2 (v := (lN 999)) hx hb hown (hts _ (wz_in qK_X7_246)) dX7_addDepot_19 ?_
    obtain ⟨v22, h22, h⟩ := cr1_some h
    refine r_callS (As := [.long (a2.toInt64), .long (lN 0), .long (lN 999)]) (rest := []) (st1 := [.int v22]) hx hb hml hown hts hE hw hl (mX7_in l G (M := (wB M β 8 S)) h22) (va_cwS 3 hts (zS gS_X7_139) rfl rfl rfl kdX7_in ⟨Nat.le_of_ble_eq_true rfl, Nat.le_of_ble_eq_true rfl⟩) rfl rfl (Nat.le_of_ble_eq_true rfl) dX7_addDepot_22 ⟨Nat.zero_le _, Nat.zero_le _⟩ rfl (fun H locs hw => ?_)
    refine b_eq (tgt := 32) hx hb dX7_addDepot_25 (by decide) h (fun h => ?_) (fun h => ?_)
    · exact k32  a1 a2 S _ _ _ h hw (lv_sub hl [0, 1, 2] rfl)
    · refine lv_iconst (v := (nI 1)) hx hb dX7_addDepot_28 (by decide) ?_
      refine lv_goto (tgt := 33) hx hb dX7_addDepot_29 (by decide) ?_
      exact k33  a1 a2 (nI 1) S _ _ _ h hw (lv_sub hl [0, 1, 2] rfl)

set_option maxHeartbeats 4000000 in
set_option maxRecDepth 100000 in
theorem mX7_addConvoy (l : Launch) (G : mG) {β : Nat} {M S S' : mM} {r : Int32} (hn : β + 8 ≤ gN G) (hR : isMod G β) (h : pX7_addConvoy S = some (r, S')) : MC l G yX7_addConvoy zzX7_addConvoy 2 45 [.ref (gA G (β + 0))] (wB M β 8 S) (wB M β 8 S') (some (.int r)) := by
  refine mc_of (cc := cX7_addConvoy) (maxL := 1) (ret := (some .int)) (by decide) rfl (Nat.le_of_ble_eq_true rfl) ?_
  intro p e s m args below meth c H ls hx hb hr hts hown hml hlocks hE hw hl
  have hl : lv_has ls 1 [(0, .ref (gA G (β + 0)))] := hl
  have hinX7 : ∀ w ∈ wsX70, w ∈ zzX7_addConvoy := fun w h9 => wz_in (zinX7 w h9)
  have k16 : ∀ (t1 : Int32) (S : mM) (H : Heap) (locs : List Loc) (ls : Array Slot), pX7_addConvoy_b16  t1 S = some (r, S') → mW G s (wB M β 8 S) H locs → lv_has ls 1 [(0, .ref (gA G (β + 0)))] → W p l e { frames := 2, cells := 0, slots := 0, locals := 45 } s m args below meth c H locs 0 0 (mZ below G (some (.int r)) (wB M β 8 S') args s) (F0 m 16 ls [.int t1, .ref (gA G (β + 0))]) := by
    intro t1 S H locs ls h hw hl
    unfold pX7_addConvoy_b16 at h
    obtain ⟨v16, S16, h16, h⟩ := cw2_some h
    refine r_callV (As := [.int t1]) (rest := []) (st1 := [.int v16]) hx hb hml hown hts hE hw hl (mX7_refused l G (by omega) hR h16) (cwV 1 hts (zV gV_X7_146) rfl rfl rfl kdX7_refused ⟨Nat.le_of_ble_eq_true rfl, Nat.le_of_ble_eq_true rfl⟩) (by omega) (congrFun hR.1 _) rfl rfl rfl rfl (Nat.le_of_ble_eq_true rfl) dX7_addConvoy_16 ⟨Nat.zero_le _, Nat.zero_le _⟩ rfl (fun H locs hw => ?_)
    refine b_eq (tgt := 24) hx hb dX7_addConvoy_19 (by decide) h (fun h => ?_) (fun h => ?_)
    · refine lv_aload_n hx hb dX7_addConvoy_24 rfl (lv_at hl 0 rfl) ?_
      obtain ⟨S25, h25, h⟩ := cr1_some h
      refine r_callV (As := []) (rest := []) (st1 := []) hx hb hml hown hts hE hw hl (mX7_remember l G (by omega) hR h25) (cwV 0 hts (zV gV_X7_243) rfl rfl rfl kdX7_remember ⟨Nat.le_of_ble_eq_true rfl, Nat.le_of_ble_eq_true rfl⟩) (by omega) (congrFun hR.1 _) rfl rfl rfl rfl (Nat.le_of_ble_eq_true rfl) dX7_addConvoy_25 ⟨Nat.zero_le _, Nat.zero_le _⟩ rfl (fun H locs hw => ?_)
      refine lv_aload_n hx hb dX7_addConvoy_28 rfl (lv_at hl 0 rfl) ?_
      refine r_get (v := .ref (gA G (β + 3))) hx hb hts hinX7 hown hE hw hn 0 (by decide) (congrFun hR.1 _) rfl 6 (by decide) (hts _ (wz_in qF_X7_16)) rfl dX7_addConvoy_29 ?_
      obtain ⟨T32, h32, h⟩ := cvs_some h
      refine r_callS (As := [.ref (gA G (β + 3))]) (rest := []) (st1 := []) hx hb hml hown hts hE hw hl (mc_sub 3 1 (by decide) (mX7_addConvoyTo l G (by show β + 3 + 1 ≤ _; omega) hR.2.2.2.1 h32)) (va_cwS 1 hts (zS gS_X7_199) rfl rfl rfl kdX7_addConvoyTo ⟨Nat.le_of_ble_eq_true rfl, Nat.le_of_ble_eq_true rfl⟩) rfl rfl (Nat.le_of_ble_eq_true rfl) dX7_addConvoy_32 ⟨Nat.zero_le _, Nat.zero_le _⟩ rfl (fun H locs hw => ?_)
      generalize wB S25 3 1 T32 = S32 at h hw
      refine lv_aload_n hx hb dX7_addConvoy_35 rfl (lv_at hl 0 rfl) ?_
      refine r_get (v := .ref (gA G (β + 3))) hx hb hts hinX7 hown hE hw hn 0 (by decide) (congrFun hR.1 _) rfl 6 (by decide) (hts _ (wz_in qF_X7_16)) rfl dX7_addConvoy_36 ?_
      refine lv_iconst (v := (nI 5)) hx hb dX7_addConvoy_39 (by decide) ?_
      refine p_iald hx hb hE hw hn 3 (by decide) (congrFun hR.2.2.2.1) dX7_addConvoy_40 h (fun v40 h => ?_)
      refine lv_iconst (v := (nI 1)) hx hb dX7_addConvoy_41 (by decide) ?_
      refine lv_isub hx hb dX7_addConvoy_42 ?_
      exact e_iw hx hb hr hlocks hw dX7_addConvoy_43 h
    · refine lv_iconst (v := (nI 0)) hx hb dX7_addConvoy_22 (by decide) ?_
      exact e_iw hx hb hr hlocks hw dX7_addConvoy_23 h
  unfold pX7_addConvoy at h
  refine lv_aload_n hx hb dX7_addConvoy_0 rfl (lv_at hl 0 rfl) ?_
  refine lv_aload_n hx hb dX7_addConvoy_1 rfl (lv_at hl 0 rfl) ?_
  refine r_get (v := .ref (gA G (β + 3))) hx hb hts hinX7 hown hE hw hn 0 (by decide) (congrFun hR.1 _) rfl 6 (by decide) (hts _ (wz_in qF_X7_16)) rfl dX7_addConvoy_2 ?_
  refine lv_iconst (v := (nI 5)) hx hb dX7_addConvoy_5 (by decide) ?_
  refine p_iald hx hb hE hw hn 3 (by decide) (congrFun hR.2.2.2.1) dX7_addConvoy_6 h (fun v6 h => ?_)
  refine lv_iconst (v := (nI 4)) hx hb dX7_addConvoy_7 (by decide) ?_
  refine bi_ne (tgt := 15) hx hb dX7_addConvoy_8 (by decide) h (fun h => ?_) (fun h => ?_)
  · refine lv_iconst (v := (nI 0)) hx hb dX7_addConvoy_15 (by decide) ?_
    exact k16  (nI 0) S _ _ _ h hw (lv_sub hl [0] rfl)
  · refine lv_iconst (v := (nI 1)) hx hb dX7_addConvoy_11 (by decide) ?_
    refine lv_goto (tgt := 16) hx hb dX7_addConvoy_12 (by decide) ?_
    exact k16  (nI 1) S _ _ _ h hw (lv_sub hl [0] rfl)
