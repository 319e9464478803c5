/-! ===== walks, by program ===== -/
set_option maxHeartbeats 4000000 in
set_option maxRecDepth 100000 in
theorem mX7_addVehicle (l : Launch) (G : mG) {β : Nat} {M S S' : mM} {a1 : Int32} {a2 : Int32} {a3 : Int32} {a4 : Int32} {a5 : Int32} {r : Int32} (hn : β + 8 ≤ gN G) (hR : isMod G β) (h : pX7_addVehicle a1 a2 a3 a4 a5 S = some (r, S')) : MC l G yX7_addVehicle zzX7_addVehicle 3 68 [.ref (gA G (β + 0)), .int a1, .int a2, .int a3, .int a4, .int a5] (wB M β 8 S) (wB M β 8 S') (some (.int r)) := by
  refine mc_of (cc := cX7_addVehicle) (maxL := 7) (ret := (some .int)) (by decide) rfl (Nat.le_of_ble_eq_true rfl) ?_
  intro p e s m args below meth c H ls hx hb hr hts hown hml hlocks hE hw hl
  have hl : lv_has ls 7 [(0, .ref (gA G (β + 0))), (1, .int a1), (2, .int a2), (3, .int a3), (4, .int a4), (5, .int a5)] := hl
  have hinX7 : ∀ w ∈ wsX70, w ∈ zzX7_addVehicle := fun w h9 => wz_in (zinX7 w h9)
  have k122 : ∀ (x1 : Int32) (x2 : Int32) (x3 : Int32) (x4 : Int32) (x5 : Int32) (t1 : Int32) (S : mM) (H : Heap) (locs : List Loc) (ls : Array Slot), pX7_addVehicle_b122  x1 x2 x3 x4 x5 t1 S = some (r, S') → mW G s (wB M β 8 S) H locs → lv_has ls 7 [(0, .ref (gA G (β + 0))), (1, .int x1), (2, .int x2), (3, .int x3), (4, .int x4), (5, .int x5)] → W p l e { frames := 3, cells := 0, slots := 0, locals := 68 } s m args below meth c H locs 0 0 (mZ below G (some (.int r)) (wB M β 8 S') args s) (F0 m 122 ls [.int t1, .ref (gA G (β + 0))]) := by
    intro x1 x2 x3 x4 x5 t1 S H locs ls h hw hl
    unfold pX7_addVehicle_b122 at h
    obtain ⟨v122, S122, h122, h⟩ := cw2_some h
    refine r_callV (As := [.int t1]) (rest := []) (st1 := [.int v122]) hx hb hml hown hts hE hw hl (mX7_refused l G (by omega) hR h122) (cwV 1 hts (zV gV_X7_146) rfl rfl rfl kdX7_refused ⟨Nat.le_of_ble_eq_true rfl, Nat.le_of_ble_eq_true rfl⟩) (by omega) (congrFun hR.1 _) rfl rfl rfl rfl (Nat.le_of_ble_eq_true rfl) dX7_addVehicle_122 ⟨Nat.zero_le _, Nat.zero_le _⟩ rfl (fun H locs hw => ?_)
    refine b_eq (tgt := 130) hx hb dX7_addVehicle_125 (by decide) h (fun h => ?_) (fun h => ?_)
    · refine lv_aload_n hx hb dX7_addVehicle_130 rfl (lv_at hl 0 rfl) ?_
      obtain ⟨S131, h131, h⟩ := cr1_some h
      refine r_callV (As := []) (rest := []) (st1 := []) hx hb hml hown hts hE hw hl (mX7_remember l G (by omega) hR h131) (cwV 0 hts (zV gV_X7_243) rfl rfl rfl kdX7_remember ⟨Nat.le_of_ble_eq_true rfl, Nat.le_of_ble_eq_true rfl⟩) (by omega) (congrFun hR.1 _) rfl rfl rfl rfl (Nat.le_of_ble_eq_true rfl) dX7_addVehicle_131 ⟨Nat.zero_le _, Nat.zero_le _⟩ rfl (fun H locs hw => ?_)
      refine lv_aload_n hx hb dX7_addVehicle_134 rfl (lv_at hl 0 rfl) ?_
      refine r_get (v := .ref (gA G (β + 3))) hx hb hts hinX7 hown hE hw hn 0 (by decide) (congrFun hR.1 _) rfl 6 (by decide) (hts _ (wz_in qF_X7_16)) rfl dX7_addVehicle_135 ?_
      refine lv_iload_n hx hb dX7_addVehicle_138 rfl (lv_at hl 1 rfl) ?_
      refine lv_iload_n hx hb dX7_addVehicle_139 rfl (lv_at hl 2 rfl) ?_
      refine lv_iload_n hx hb dX7_addVehicle_140 rfl (lv_at hl 3 rfl) ?_
      refine lv_iload hx hb dX7_addVehicle_141 (lv_at hl 4 rfl) ?_
      refine lv_iload hx hb dX7_addVehicle_143 (lv_at hl 5 rfl) ?_
      obtain ⟨T145, h145, h⟩ := cvs_some h
      refine r_callS (As := [.ref (gA G (β + 3)), .int x1, .int x2, .int x3, .int x4, .int x5]) (rest := []) (st1 := []) hx hb hml hown hts hE hw hl (mc_sub 3 1 (by decide) (mX7_addCarTo l G (by show β + 3 + 1 ≤ _; omega) hR.2.2.2.1 h145)) (va_cwS 6 hts (zS gS_X7_186) rfl rfl rfl kdX7_addCarTo ⟨Nat.le_of_ble_eq_true rfl, Nat.le_of_ble_eq_true rfl⟩) rfl rfl (Nat.le_of_ble_eq_true rfl) dX7_addVehicle_145 ⟨Nat.zero_le _, Nat.zero_le _⟩ rfl (fun H locs hw => ?_)
      generalize wB S131 3 1 T145 = S145 at h hw
      refine lv_aload_n hx hb dX7_addVehicle_148 rfl (lv_at hl 0 rfl) ?_
      refine r_get (v := .ref (gA G (β + 3))) hx hb hts hinX7 hown hE hw hn 0 (by decide) (congrFun hR.1 _) rfl 6 (by decide) (hts _ (wz_in qF_X7_16)) rfl dX7_addVehicle_149 ?_
      refine lv_bipush (v := (nI 6)) hx hb dX7_addVehicle_152 (by decide) ?_
      refine p_iald hx hb hE hw hn 3 (by decide) (congrFun hR.2.2.2.1) dX7_addVehicle_154 h (fun v154 h => ?_)
      refine lv_iconst (v := (nI 1)) hx hb dX7_addVehicle_155 (by decide) ?_
      refine lv_isub hx hb dX7_addVehicle_156 ?_
      exact e_iw hx hb hr hlocks hw dX7_addVehicle_157 h
    · refine lv_iconst (v := (nI 0)) hx hb dX7_addVehicle_128 (by decide) ?_
      exact e_iw hx hb hr hlocks hw dX7_addVehicle_129 h
  have k117 : ∀ (x1 : Int32) (x2 : Int32) (x3 : Int32) (x4 : Int32) (x5 : Int32) (S : mM) (H : Heap) (locs : List Loc) (ls : Array Slot), pX7_addVehicle_b117  x1 x2 x3 x4 x5 S = some (r, S') → mW G s (wB M β 8 S) H locs → lv_has ls 7 [(0, .ref (gA G (β + 0))), (1, .int x1), (2, .int x2), (3, .int x3), (4, .int x4), (5, .int x5)] → W p l e { frames := 3, cells := 0, slots := 0, locals := 68 } s m args below meth c H locs 0 0 (mZ below G (some (.int r)) (wB M β 8 S') args s) (F0 m 117 ls [.ref (gA G (β + 0))]) := by
    intro x1 x2 x3 x4 x5 S H locs ls h hw hl
    unfold pX7_addVehicle_b117 at h
    refine lv_iconst (v := (nI 3)) hx hb dX7_addVehicle_117 (by decide) ?_
    refine lv_goto (tgt := 122) hx hb dX7_addVehicle_118 (by decide) ?_
    exact k122  x1 x2 x3 x4 x5 (nI 3) S _ _ _ h hw (lv_sub hl [0, 1, 2, 3, 4, 5] rfl)
  have k57 : ∀ (x1 : Int32) (x2 : Int32) (x3 : Int32) (x4 : Int32) (x5 : Int32) (t0 : Int32) (S : mM) (H : Heap) (locs : List Loc) (ls : Array Slot), pX7_addVehicle_b57  x1 x2 x3 x4 x5 t0 S = some (r, S') → mW G s (wB M β 8 S) H locs → lv_has ls 7 [(0, .ref (gA G (β + 0))), (1, .int x1), (2, .int x2), (3, .int x3), (4, .int x4), (5, .int x5)] → W p l e { frames := 3, cells := 0, slots := 0, locals := 68 } s m args below meth c H locs 0 0 (mZ below G (some (.int r)) (wB M β 8 S') args s) (F0 m 57 ls [.int t0]) := by
    intro x1 x2 x3 x4 x5 t0 S H locs ls h hw hl
    unfold pX7_addVehicle_b57 at h
    refine lv_istore (lv' := [(6, .int t0), (0, .ref (gA G (β + 0))), (1, .int x1), (2, .int x2), (3, .int x3), (4, .int x4), (5, .int x5)]) hx hb dX7_addVehicle_57 hl (by decide) rfl (fun ls hl => ?_)
    refine lv_aload_n hx hb dX7_addVehicle_59 rfl (lv_at hl 1 rfl) ?_
    refine lv_aload_n hx hb dX7_addVehicle_60 rfl (lv_at hl 1 rfl) ?_
    refine lv_iload_n hx hb dX7_addVehicle_61 rfl (lv_at hl 2 rfl) ?_
    obtain ⟨v62, h62, h⟩ := cr1_some h
    refine r_callV (As := [.int x1]) (rest := [.ref (gA G (β + 0))]) (st1 := [.int v62, .ref (gA G (β + 0))]) hx hb hml hown hts hE hw hl (mX7_isConvoy l G (by omega) hR h62) (cwV 1 hts (zV gV_X7_218) rfl rfl rfl kdX7_isConvoy ⟨Nat.le_of_ble_eq_true rfl, Nat.le_of_ble_eq_true rfl⟩) (by omega) (congrFun hR.1 _) rfl rfl rfl rfl (Nat.le_of_ble_eq_true rfl) dX7_addVehicle_62 ⟨Nat.zero_le _, Nat.zero_le _⟩ rfl (fun H locs hw => ?_)
    refine b_ne (tgt := 72) hx hb dX7_addVehicle_65 (by decide) h (fun h => ?_) (fun h => ?_)
    · refine lv_iload hx hb dX7_addVehicle_72 (lv_at hl 0 rfl) ?_
      refine b_ne (tgt := 81) hx hb dX7_addVehicle_74 (by decide) h (fun h => ?_) (fun h => ?_)
      · refine lv_aload_n hx hb dX7_addVehicle_81 rfl (lv_at hl 1 rfl) ?_
        refine r_get (v := .ref (gA G (β + 3))) hx hb hts hinX7 hown hE hw hn 0 (by decide) (congrFun hR.1 _) rfl 6 (by decide) (hts _ (wz_in qF_X7_16)) rfl dX7_addVehicle_82 ?_
        refine lv_bipush (v := (nI 6)) hx hb dX7_addVehicle_85 (by decide) ?_
        refine p_iald hx hb hE hw hn 3 (by decide) (congrFun hR.2.2.2.1) dX7_addVehicle_87 h (fun v87 h => ?_)
        refine lv_bipush (v := (nI 16)) hx hb dX7_addVehicle_88 (by decide) ?_
        refine bi_eq (tgt := 117) hx hb dX7_addVehicle_90 (by decide) h (fun h => ?_) (fun h => ?_)
        · exact k117  x1 x2 x3 x4 x5 S _ _ _ h hw (lv_sub hl [1, 2, 3, 4, 5, 6] rfl)
        · refine lv_aload_n hx hb dX7_addVehicle_93 rfl (lv_at hl 1 rfl) ?_
          refine r_get (v := .ref (gA G (β + 3))) hx hb hts hinX7 hown hE hw hn 0 (by decide) (congrFun hR.1 _) rfl 6 (by decide) (hts _ (wz_in qF_X7_16)) rfl dX7_addVehicle_94 ?_
          refine lv_iload_n hx hb dX7_addVehicle_97 rfl (lv_at hl 2 rfl) ?_
          obtain ⟨v98, h98, h⟩ := cr1_some h
          refine r_callS (As := [.ref (gA G (β + 3)), .int x1]) (rest := [.ref (gA G (β + 0))]) (st1 := [.int v98, .ref (gA G (β + 0))]) hx hb hml hown hts hE hw hl (mc_subR 3 1 (by decide) (mX7_sizeOf l G (by show β + 3 + 1 ≤ _; omega) hR.2.2.2.1 h98)) (va_cwS 2 hts (zS gS_X7_64) rfl rfl rfl kdX7_sizeOf ⟨Nat.le_of_ble_eq_true rfl, Nat.le_of_ble_eq_true rfl⟩) rfl rfl (Nat.le_of_ble_eq_true rfl) dX7_addVehicle_98 ⟨Nat.zero_le _, Nat.zero_le _⟩ rfl (fun H locs hw => ?_)
          refine lv_bipush (v := (nI 8)) hx hb dX7_addVehicle_101 (by decide) ?_
          refine bi_eq (tgt := 117) hx hb dX7_addVehicle_103 (by decide) h (fun h => ?_) (fun h => ?_)
          · exact k117  x1 x2 x3 x4 x5 S _ _ _ h hw (lv_sub hl [1, 2, 3, 4, 5, 6] rfl)
          · refine lv_aload_n hx hb dX7_addVehicle_106 rfl (lv_at hl 1 rfl) ?_
            refine r_get (v := .ref (gA G (β + 3))) hx hb hts hinX7 hown hE hw hn 0 (by decide) (congrFun hR.1 _) rfl 6 (by decide) (hts _ (wz_in qF_X7_16)) rfl dX7_addVehicle_107 ?_
            refine lv_iload_n hx hb dX7_addVehicle_110 rfl (lv_at hl 2 rfl) ?_
            obtain ⟨v111, h111, h⟩ := cr1_some h
            refine r_callS (As := [.ref (gA G (β + 3)), .int x1]) (rest := [.ref (gA G (β + 0))]) (st1 := [.int v111, .ref (gA G (β + 0))]) hx hb hml hown hts hE hw hl (mc_subR 3 1 (by decide) (mX7_isThere l G (by show β + 3 + 1 ≤ _; omega) hR.2.2.2.1 h111)) (va_cwS 2 hts (zS gS_X7_118) rfl rfl rfl kdX7_isThere ⟨Nat.le_of_ble_eq_true rfl, Nat.le_of_ble_eq_true rfl⟩) rfl rfl (Nat.le_of_ble_eq_true rfl) dX7_addVehicle_111 ⟨Nat.zero_le _, Nat.zero_le _⟩ rfl (fun H locs hw => ?_)
            refine b_eq (tgt := 121) hx hb dX7_addVehicle_114 (by decide) h (fun h => ?_) (fun h => ?_)
            · refine lv_iconst (v := (nI 0)) hx hb dX7_addVehicle_121 (by decide) ?_
              exact k122  x1 x2 x3 x4 x5 (nI 0) S _ _ _ h hw (lv_sub hl [1, 2, 3, 4, 5, 6] rfl)
            · exact k117  x1 x2 x3 x4 x5 S _ _ _ h hw (lv_sub hl [1, 2, 3, 4, 5, 6] rfl)
      · refine lv_iconst (v := (nI 2)) hx hb dX7_addVehicle_77 (by decide) ?_
        refine lv_goto (tgt := 122) hx hb dX7_addVehicle_78 (by decide) ?_
        exact k122  x1 x2 x3 x4 x5 (nI 2) S _ _ _ h hw (lv_sub hl [1, 2, 3, 4, 5, 6] rfl)
    · refine lv_iconst (v := (nI 1)) hx hb dX7_addVehicle_68 (by decide) ?_
      refine lv_goto (tgt := 122) hx hb dX7_addVehicle_69 (by decide) ?_
      exact k122  x1 x2 x3 x4 x5 (nI 1) S _ _ _ h hw (lv_sub hl [1, 2, 3, 4, 5, 6] rfl)
  have k56 : ∀ (x1 : Int32) (x2 : Int32) (x3 : Int32) (x4 : Int32) (x5 : Int32) (S : mM) (H : Heap) (locs : List Loc) (ls : Array Slot), pX7_addVehicle_b56  x1 x2 x3 x4 x5 S = some (r, S') → mW G s (wB M β 8 S) H locs → lv_has ls 7 [(0, .ref (gA G (β + 0))), (1, .int x1), (2, .int x2), (3, .int x3), (4, .int x4), (5, .int x5)] → W p l e { frames := 3, cells := 0, slots := 0, locals := 68 } s m args below meth c H locs 0 0 (mZ below G (some (.int r)) (wB M β 8 S') args s) (F0 m 56 ls []) := by
    intro x1 x2 x3 x4 x5 S H locs ls h hw hl
    unfold pX7_addVehicle_b56 at h
    refine lv_iconst (v := (nI 0)) hx hb dX7_addVehicle_56 (by decide) ?_
    exact k57  x1 x2 x3 x4 x5 (nI 0) S _ _ _ h hw (lv_sub hl [0, 1, 2, 3, 4, 5] rfl)
  unfold pX7_addVehicle at h
  refine lv_iload_n hx hb dX7_addVehicle_0 rfl (lv_at hl 2 rfl) ?_
  refine lv_i2l hx hb dX7_addVehicle_1 rfl ?_
  refine lv_lconst (v := (lN 1)) hx hb dX7_addVehicle_2 (by decide) ?_
  refine lv_ldc2 (v := (lN 9)) hx hb hown (hts _ (wz_in qK_X7_157)) dX7_addVehicle_3 ?_
  obtain ⟨v6, h6, h⟩ := cr1_some h
  refine r_callS (As := [.long (a2.toInt64), .long (lN 1), .long (lN 9)]) (rest := []) (st1 := [.int v6]) hx hb hml hown hts hE hw hl (mX7_in l G (M := (wB M β 8 S)) h6) (va_cwS 3 hts (zS gS_X7_139) rfl rfl rfl kdX7_in ⟨Nat.le_of_ble_eq_true rfl, Nat.le_of_ble_eq_true rfl⟩) rfl rfl (Nat.le_of_ble_eq_true rfl) dX7_addVehicle_6 ⟨Nat.zero_le _, Nat.zero_le _⟩ rfl (fun H locs hw => ?_)
  refine b_eq (tgt := 56) hx hb dX7_addVehicle_9 (by decide) h (fun h => ?_) (fun h => ?_)
  · exact k56  a1 a2 a3 a4 a5 S _ _ _ h hw (lv_sub hl [0, 1, 2, 3, 4, 5] rfl)
  · refine lv_iload_n hx hb dX7_addVehicle_12 rfl (lv_at hl 3 rfl) ?_
    refine lv_i2l hx hb dX7_addVehicle_13 rfl ?_
    refine lv_lconst (v := (lN 1)) hx hb dX7_addVehicle_14 (by decide) ?_
    refine lv_ldc2 (v := (lN 4)) hx hb hown (hts _ (wz_in qK_X7_248)) dX7_addVehicle_15 ?_
    obtain ⟨v18, h18, h⟩ := cr1_some h
    refine r_callS (As := [.long (a3.toInt64), .long (lN 1), .long (lN 4)]) (rest := []) (st1 := [.int v18]) hx hb hml hown hts hE hw hl (mX7_in l G (M := (wB M β 8 S)) h18) (va_cwS 3 hts (zS gS_X7_139) rfl rfl rfl kdX7_in ⟨Nat.le_of_ble_eq_true rfl, Nat.le_of_ble_eq_true rfl⟩) rfl rfl (Nat.le_of_ble_eq_true rfl) dX7_addVehicle_18 ⟨Nat.zero_le _, Nat.zero_le _⟩ rfl (fun H locs hw => ?_)
    refine b_eq (tgt := 56) hx hb dX7_addVehicle_21 (by decide) h (fun h => ?_) (fun h => ?_)
    · exact k56  a1 a2 a3 a4 a5 S _ _ _ h hw (lv_sub hl [0, 1, 2, 3, 4, 5] rfl)
    · refine lv_iload hx hb dX7_addVehicle_24 (lv_at hl 4 rfl) ?_
      refine lv_i2l hx hb dX7_addVehicle_26 rfl ?_
      refine lv_ldc2 (v := (lN 20)) hx hb hown (hts _ (wz_in qK_X7_250)) dX7_addVehicle_27 ?_
      refine lv_ldc2 (v := (lN 99)) hx hb hown (hts _ (wz_in qK_X7_252)) dX7_addVehicle_30 ?_
      obtain ⟨v33, h33, h⟩ := cr1_some h
      refine r_callS (As := [.long (a4.toInt64), .long (lN 20), .long (lN 99)]) (rest := []) (st1 := [.int v33]) hx hb hml hown hts hE hw hl (mX7_in l G (M := (wB M β 8 S)) h33) (va_cwS 3 hts (zS gS_X7_139) rfl rfl rfl kdX7_in ⟨Nat.le_of_ble_eq_true rfl, Nat.le_of_ble_eq_true rfl⟩) rfl rfl (Nat.le_of_ble_eq_true rfl) dX7_addVehicle_33 ⟨Nat.zero_le _, Nat.zero_le _⟩ rfl (fun H locs hw => ?_)
      refine b_eq (tgt := 56) hx hb dX7_addVehicle_36 (by decide) h (fun h => ?_) (fun h => ?_)
      · exact k56  a1 a2 a3 a4 a5 S _ _ _ h hw (lv_sub hl [0, 1, 2, 3, 4, 5] rfl)
      · refine lv_iload hx hb dX7_addVehicle_39 (lv_at hl 5 rfl) ?_
        refine lv_i2l hx hb dX7_addVehicle_41 rfl ?_
        refine lv_lconst (v := (lN 0)) hx hb dX7_addVehicle_42 (by decide) ?_
        refine lv_iload hx hb dX7_addVehicle_43 (lv_at hl 4 rfl) ?_
        refine lv_i2l hx hb dX7_addVehicle_45 rfl ?_
        obtain ⟨v46, h46, h⟩ := cr1_some h
        refine r_callS (As := [.long (a5.toInt64), .long (lN 0), .long (a4.toInt64)]) (rest := []) (st1 := [.int v46]) hx hb hml hown hts hE hw hl (mX7_in l G (M := (wB M β 8 S)) h46) (va_cwS 3 hts (zS gS_X7_139) rfl rfl rfl kdX7_in ⟨Nat.le_of_ble_eq_true rfl, Nat.le_of_ble_eq_true rfl⟩) rfl rfl (Nat.le_of_ble_eq_true rfl) dX7_addVehicle_46 ⟨Nat.zero_le _, Nat.zero_le _⟩ rfl (fun H locs hw => ?_)
        refine b_eq (tgt := 56) hx hb dX7_addVehicle_49 (by decide) h (fun h => ?_) (fun h => ?_)
        · exact k56  a1 a2 a3 a4 a5 S _ _ _ h hw (lv_sub hl [0, 1, 2, 3, 4, 5] rfl)
        · refine lv_iconst (v := (nI 1)) hx hb dX7_addVehicle_52 (by decide) ?_
          refine lv_goto (tgt := 57) hx hb dX7_addVehicle_53 (by decide) ?_
          exact k57  a1 a2 a3 a4 a5 (nI 1) S _ _ _ h hw (lv_sub hl [0, 1, 2, 3, 4, 5] rfl)

set_option maxHeartbeats 4000000 in
set_option maxRecDepth 100000 in
theorem mX7_isHold (l : Launch) (G : mG) {M : mM} {a1 : Int32} {r : Int32} (h : pX7_isHold a1 = some r) : MC l G yX7_isHold zzX7_isHold 1 25 [.int a1] M M (some (.int r)) := by
  refine mc_of (cc := cX7_isHold) (maxL := 1) (ret := (some .boolean)) (by decide) rfl (Nat.le_of_ble_eq_true rfl) ?_
  intro p e s m args below meth c H ls hx hb hr hts hown hml hlocks hE hw hl
  have hl : lv_has ls 1 [(0, .int a1)] := hl
  unfold pX7_isHold at h
  refine lv_iload_n hx hb dX7_isHold_0 rfl (lv_at hl 0 rfl) ?_
  refine lv_i2l hx hb dX7_isHold_1 rfl ?_
  refine lv_lconst (v := (lN 0)) hx hb dX7_isHold_2 (by decide) ?_
  refine lv_ldc2 (v := (lN 23)) hx hb hown (hts _ (wz_in qK_X7_254)) dX7_isHold_3 ?_
  obtain ⟨v6, h6, h⟩ := cr1_some h
  refine r_callS (As := [.long (a1.toInt64), .long (lN 0), .long (lN 23)]) (rest := []) (st1 := [.int v6]) hx hb hml hown hts hE hw hl (mX7_in l G (M := M) h6) (va_cwS 3 hts (zS gS_X7_139) rfl rfl rfl kdX7_in ⟨Nat.le_of_ble_eq_true rfl, Nat.le_of_ble_eq_true rfl⟩) rfl rfl (Nat.le_of_ble_eq_true rfl) dX7_isHold_6 ⟨Nat.zero_le _, Nat.zero_le _⟩ rfl (fun H locs hw => ?_)
  exact e_z hx hb hr hlocks hw dX7_isHold_9 h

set_option maxHeartbeats 4000000 in
set_option maxRecDepth 100000 in
theorem mX7_hold (l : Launch) (G : mG) {β : Nat} {M S S' : mM} {a1 : Int32} {a2 : Int32} {r : Int32} (hn : β + 8 ≤ gN G) (hR : isMod G β) (h : pX7_hold a1 a2 S = some (r, S')) : MC l G yX7_hold zzX7_hold 2 46 [.ref (gA G (β + 0)), .int a1, .int a2] (wB M β 8 S) (wB M β 8 S') (some (.int r)) := by
  refine mc_of (cc := cX7_hold) (maxL := 4) (ret := (some .int)) (by decide) rfl (Nat.le_of_ble_eq_true rfl) ?_
  intro p e s m args below meth c H ls hx hb hr hts hown hml hlocks hE hw hl
  have hl : lv_has ls 4 [(0, .ref (gA G (β + 0))), (1, .int a1), (2, .int a2)] := hl
  have hinX7 : ∀ w ∈ wsX70, w ∈ zzX7_hold := fun w h9 => wz_in (zinX7 w h9)
  have k25 : ∀ (x1 : Int32) (x2 : Int32) (t1 : Int32) (S : mM) (H : Heap) (locs : List Loc) (ls : Array Slot), pX7_hold_b25  x1 x2 t1 S = some (r, S') → mW G s (wB M β 8 S) H locs → lv_has ls 4 [(0, .ref (gA G (β + 0))), (1, .int x1), (2, .int x2)] → W p l e { frames := 2, cells := 0, slots := 0, locals := 46 } s m args below meth c H locs 0 0 (mZ below G (some (.int r)) (wB M β 8 S') args s) (F0 m 25 ls [.int t1, .ref (gA G (β + 0))]) := by
    intro x1 x2 t1 S H locs ls h hw hl
    unfold pX7_hold_b25 at h
    obtain ⟨v25, S25, h25, h⟩ := cw2_some h
    refine r_callV (As := [.int t1]) (rest := []) (st1 := [.int v25]) hx hb hml hown hts hE hw hl (mX7_refused l G (by omega) hR h25) (cwV 1 hts (zV gV_X7_146) rfl rfl rfl kdX7_refused ⟨Nat.le_of_ble_eq_true rfl, Nat.le_of_ble_eq_true rfl⟩) (by omega) (congrFun hR.1 _) rfl rfl rfl rfl (Nat.le_of_ble_eq_true rfl) dX7_hold_25 ⟨Nat.zero_le _, Nat.zero_le _⟩ rfl (fun H locs hw => ?_)
    refine b_eq (tgt := 33) hx hb dX7_hold_28 (by decide) h (fun h => ?_) (fun h => ?_)
    · refine lv_aload_n hx hb dX7_hold_33 rfl (lv_at hl 0 rfl) ?_
      obtain ⟨S34, h34, h⟩ := cr1_some h
      refine r_callV (As := []) (rest := []) (st1 := []) hx hb hml hown hts hE hw hl (mX7_remember l G (by omega) hR h34) (cwV 0 hts (zV gV_X7_243) rfl rfl rfl kdX7_remember ⟨Nat.le_of_ble_eq_true rfl, Nat.le_of_ble_eq_true rfl⟩) (by omega) (congrFun hR.1 _) rfl rfl rfl rfl (Nat.le_of_ble_eq_true rfl) dX7_hold_34 ⟨Nat.zero_le _, Nat.zero_le _⟩ rfl (fun H locs hw => ?_)
      refine lv_aload_n hx hb dX7_hold_37 rfl (lv_at hl 0 rfl) ?_
      refine r_get (v := .ref (gA G (β + 3))) hx hb hts hinX7 hown hE hw hn 0 (by decide) (congrFun hR.1 _) rfl 6 (by decide) (hts _ (wz_in qF_X7_16)) rfl dX7_hold_38 ?_
      refine lv_iload_n hx hb dX7_hold_41 rfl (lv_at hl 1 rfl) ?_
      refine lv_iconst (v := (nI 2)) hx hb dX7_hold_42 (by decide) ?_
      obtain ⟨v43, h43, h⟩ := cr1_some h
      refine r_callS (As := [.int x1, .int (nI 2)]) (rest := [.ref (gA G (β + 3))]) (st1 := [.int v43, .ref (gA G (β + 3))]) hx hb hml hown hts hE hw hl (mX7_convoyAt l G (M := (wB M β 8 S34)) h43) (va_cwS 2 hts (zS gS_X7_51) rfl rfl rfl kdX7_convoyAt ⟨Nat.le_of_ble_eq_true rfl, Nat.le_of_ble_eq_true rfl⟩) rfl rfl (Nat.le_of_ble_eq_true rfl) dX7_hold_43 ⟨Nat.zero_le _, Nat.zero_le _⟩ rfl (fun H locs hw => ?_)
      refine p_iald hx hb hE hw hn 3 (by decide) (congrFun hR.2.2.2.1) dX7_hold_46 h (fun v46 h => ?_)
      refine lv_istore_n (lv' := [(3, .int v46), (0, .ref (gA G (β + 0))), (1, .int x1), (2, .int x2)]) hx hb dX7_hold_47 rfl hl (by decide) rfl (fun ls hl => ?_)
      refine lv_aload_n hx hb dX7_hold_48 rfl (lv_at hl 1 rfl) ?_
      refine r_get (v := .ref (gA G (β + 3))) hx hb hts hinX7 hown hE hw hn 0 (by decide) (congrFun hR.1 _) rfl 6 (by decide) (hts _ (wz_in qF_X7_16)) rfl dX7_hold_49 ?_
      refine lv_iload_n hx hb dX7_hold_52 rfl (lv_at hl 2 rfl) ?_
      refine lv_iconst (v := (nI 2)) hx hb dX7_hold_53 (by decide) ?_
      obtain ⟨v54, h54, h⟩ := cr1_some h
      refine r_callS (As := [.int x1, .int (nI 2)]) (rest := [.ref (gA G (β + 3))]) (st1 := [.int v54, .ref (gA G (β + 3))]) hx hb hml hown hts hE hw hl (mX7_convoyAt l G (M := (wB M β 8 S34)) h54) (va_cwS 2 hts (zS gS_X7_51) rfl rfl rfl kdX7_convoyAt ⟨Nat.le_of_ble_eq_true rfl, Nat.le_of_ble_eq_true rfl⟩) rfl rfl (Nat.le_of_ble_eq_true rfl) dX7_hold_54 ⟨Nat.zero_le _, Nat.zero_le _⟩ rfl (fun H locs hw => ?_)
      refine lv_iload_n hx hb dX7_hold_57 rfl (lv_at hl 3 rfl) ?_
      refine p_iast hx hb hE hw hn 3 (by decide) (congrFun hR.2.2.2.1) dX7_hold_58 h (fun S58 h H locs hw => ?_)
      refine lv_iload_n hx hb dX7_hold_59 rfl (lv_at hl 0 rfl) ?_
      exact e_iw hx hb hr hlocks hw dX7_hold_60 h
    · refine lv_iconst (v := (nI 0)) hx hb dX7_hold_31 (by decide) ?_
      exact e_iw hx hb hr hlocks hw dX7_hold_32 h
  unfold pX7_hold at h
  refine lv_aload_n hx hb dX7_hold_0 rfl (lv_at hl 0 rfl) ?_
  refine lv_aload_n hx hb dX7_hold_1 rfl (lv_at hl 0 rfl) ?_
  refine lv_iload_n hx hb dX7_hold_2 rfl (lv_at hl 1 rfl) ?_
  obtain ⟨v3, h3, h⟩ := cr1_some h
  refine r_callV (As := [.int a1]) (rest := [.ref (gA G (β + 0))]) (st1 := [.int v3, .ref (gA G (β + 0))]) hx hb hml hown hts hE hw hl (mX7_isConvoy l G (by omega) hR h3) (cwV 1 hts (zV gV_X7_218) rfl rfl rfl kdX7_isConvoy ⟨Nat.le_of_ble_eq_true rfl, Nat.le_of_ble_eq_true rfl⟩) (by omega) (congrFun hR.1 _) rfl rfl rfl rfl (Nat.le_of_ble_eq_true rfl) dX7_hold_3 ⟨Nat.zero_le _, Nat.zero_le _⟩ rfl (fun H locs hw => ?_)
  refine b_ne (tgt := 13) hx hb dX7_hold_6 (by decide) h (fun h => ?_) (fun h => ?_)
  · refine lv_iload_n hx hb dX7_hold_13 rfl (lv_at hl 2 rfl) ?_
    obtain ⟨v14, h14, h⟩ := cr1_some h
    refine r_callS (As := [.int a2]) (rest := [.ref (gA G (β + 0))]) (st1 := [.int v14, .ref (gA G (β + 0))]) hx hb hml hown hts hE hw hl (mX7_isHold l G (M := (wB M β 8 S)) h14) (va_cwS 1 hts (zS gS_X7_256) rfl rfl rfl kdX7_isHold ⟨Nat.le_of_ble_eq_true rfl, Nat.le_of_ble_eq_true rfl⟩) rfl rfl (Nat.le_of_ble_eq_true rfl) dX7_hold_14 ⟨Nat.zero_le _, Nat.zero_le _⟩ rfl (fun H locs hw => ?_)
    refine b_eq (tgt := 24) hx hb dX7_hold_17 (by decide) h (fun h => ?_) (fun h => ?_)
    · refine lv_iconst (v := (nI 2)) hx hb dX7_hold_24 (by decide) ?_
      exact k25  a1 a2 (nI 2) S _ _ _ h hw (lv_sub hl [0, 1, 2] rfl)
    · refine lv_iconst (v := (nI 0)) hx hb dX7_hold_20 (by decide) ?_
      refine lv_goto (tgt := 25) hx hb dX7_hold_21 (by decide) ?_
      exact k25  a1 a2 (nI 0) S _ _ _ h hw (lv_sub hl [0, 1, 2] rfl)
  · refine lv_iconst (v := (nI 1)) hx hb dX7_hold_9 (by decide) ?_
    refine lv_goto (tgt := 25) hx hb dX7_hold_10 (by decide) ?_
    exact k25  a1 a2 (nI 1) S _ _ _ h hw (lv_sub hl [0, 1, 2] rfl)

set_option maxHeartbeats 4000000 in
set_option maxRecDepth 100000 in
theorem mX7_supply (l : Launch) (G : mG) {β : Nat} {M S S' : mM} {a1 : Int32} {a2 : Int32} {r : Int32} (hn : β + 8 ≤ gN G) (hR : isMod G β) (h : pX7_supply a1 a2 S = some (r, S')) : MC l G yX7_supply zzX7_supply 2 46 [.ref (gA G (β + 0)), .int a1, .int a2] (wB M β 8 S) (wB M β 8 S') (some (.int r)) := by
  refine mc_of (cc := cX7_supply) (maxL := 3) (ret := (some .int)) (by decide) rfl (Nat.le_of_ble_eq_true rfl) ?_
  intro p e s m args below meth c H ls hx hb hr hts hown hml hlocks hE hw hl
  have hl : lv_has ls 3 [(0, .ref (gA G (β + 0))), (1, .int a1), (2, .int a2)] := hl
  have hinX7 : ∀ w ∈ wsX70, w ∈ zzX7_supply := fun w h9 => wz_in (zinX7 w h9)
  have k52 : ∀ (x1 : Int32) (x2 : Int32) (t1 : Int32) (S : mM) (H : Heap) (locs : List Loc) (ls : Array Slot), pX7_supply_b52  x1 x2 t1 S = some (r, S') → mW G s (wB M β 8 S) H locs → lv_has ls 3 [(0, .ref (gA G (β + 0))), (1, .int x1), (2, .int x2)] → W p l e { frames := 2, cells := 0, slots := 0, locals := 46 } s m args below meth c H locs 0 0 (mZ below G (some (.int r)) (wB M β 8 S') args s) (F0 m 52 ls [.int t1, .ref (gA G (β + 0))]) := by
    intro x1 x2 t1 S H locs ls h hw hl
    unfold pX7_supply_b52 at h
    obtain ⟨v52, S52, h52, h⟩ := cw2_some h
    refine r_callV (As := [.int t1]) (rest := []) (st1 := [.int v52]) hx hb hml hown hts hE hw hl (mX7_refused l G (by omega) hR h52) (cwV 1 hts (zV gV_X7_146) rfl rfl rfl kdX7_refused ⟨Nat.le_of_ble_eq_true rfl, Nat.le_of_ble_eq_true rfl⟩) (by omega) (congrFun hR.1 _) rfl rfl rfl rfl (Nat.le_of_ble_eq_true rfl) dX7_supply_52 ⟨Nat.zero_le _, Nat.zero_le _⟩ rfl (fun H locs hw => ?_)
    refine b_eq (tgt := 60) hx hb dX7_supply_55 (by decide) h (fun h => ?_) (fun h => ?_)
    · refine lv_aload_n hx hb dX7_supply_60 rfl (lv_at hl 0 rfl) ?_
      obtain ⟨S61, h61, h⟩ := cr1_some h
      refine r_callV (As := []) (rest := []) (st1 := []) hx hb hml hown hts hE hw hl (mX7_remember l G (by omega) hR h61) (cwV 0 hts (zV gV_X7_243) rfl rfl rfl kdX7_remember ⟨Nat.le_of_ble_eq_true rfl, Nat.le_of_ble_eq_true rfl⟩) (by omega) (congrFun hR.1 _) rfl rfl rfl rfl (Nat.le_of_ble_eq_true rfl) dX7_supply_61 ⟨Nat.zero_le _, Nat.zero_le _⟩ rfl (fun H locs hw => ?_)
      refine lv_aload_n hx hb dX7_supply_64 rfl (lv_at hl 0 rfl) ?_
      refine r_get (v := .ref (gA G (β + 3))) hx hb hts hinX7 hown hE hw hn 0 (by decide) (congrFun hR.1 _) rfl 6 (by decide) (hts _ (wz_in qF_X7_16)) rfl dX7_supply_65 ?_
      refine lv_iload_n hx hb dX7_supply_68 rfl (lv_at hl 1 rfl) ?_
      refine lv_iconst (v := (nI 1)) hx hb dX7_supply_69 (by decide) ?_
      obtain ⟨v70, h70, h⟩ := cr1_some h
      refine r_callS (As := [.int x1, .int (nI 1)]) (rest := [.ref (gA G (β + 3))]) (st1 := [.int v70, .ref (gA G (β + 3))]) hx hb hml hown hts hE hw hl (mX7_depotAt l G (M := (wB M β 8 S61)) h70) (va_cwS 2 hts (zS gS_X7_61) rfl rfl rfl kdX7_depotAt ⟨Nat.le_of_ble_eq_true rfl, Nat.le_of_ble_eq_true rfl⟩) rfl rfl (Nat.le_of_ble_eq_true rfl) dX7_supply_70 ⟨Nat.zero_le _, Nat.zero_le _⟩ rfl (fun H locs hw => ?_)
      refine lv_dup2_11 hx hb dX7_supply_73 rfl rfl ?_
      refine p_iald hx hb hE hw hn 3 (by decide) (congrFun hR.2.2.2.1) dX7_supply_74 h (fun v74 h => ?_)
      refine lv_iload_n hx hb dX7_supply_75 rfl (lv_at hl 2 rfl) ?_
      refine lv_iadd hx hb dX7_supply_76 ?_
      refine p_iast hx hb hE hw hn 3 (by decide) (congrFun hR.2.2.2.1) dX7_supply_77 h (fun S77 h H locs hw => ?_)
      refine lv_aload_n hx hb dX7_supply_78 rfl (lv_at hl 0 rfl) ?_
      refine r_get (v := .ref (gA G (β + 3))) hx hb hts hinX7 hown hE hw hn 0 (by decide) (congrFun hR.1 _) rfl 6 (by decide) (hts _ (wz_in qF_X7_16)) rfl dX7_supply_79 ?_
      refine lv_iload_n hx hb dX7_supply_82 rfl (lv_at hl 1 rfl) ?_
      refine lv_iconst (v := (nI 1)) hx hb dX7_supply_83 (by decide) ?_
      obtain ⟨v84, h84, h⟩ := cr1_some h
      refine r_callS (As := [.int x1, .int (nI 1)]) (rest := [.ref (gA G (β + 3))]) (st1 := [.int v84, .ref (gA G (β + 3))]) hx hb hml hown hts hE hw hl (mX7_depotAt l G (M := (wB M β 8 S77)) h84) (va_cwS 2 hts (zS gS_X7_61) rfl rfl rfl kdX7_depotAt ⟨Nat.le_of_ble_eq_true rfl, Nat.le_of_ble_eq_true rfl⟩) rfl rfl (Nat.le_of_ble_eq_true rfl) dX7_supply_84 ⟨Nat.zero_le _, Nat.zero_le _⟩ rfl (fun H locs hw => ?_)
      refine p_iald hx hb hE hw hn 3 (by decide) (congrFun hR.2.2.2.1) dX7_supply_87 h (fun v87 h => ?_)
      exact e_iw hx hb hr hlocks hw dX7_supply_88 h
    · refine lv_iconst (v := (nI 0)) hx hb dX7_supply_58 (by decide) ?_
      exact e_iw hx hb hr hlocks hw dX7_supply_59 h
  unfold pX7_supply at h
  refine lv_aload_n hx hb dX7_supply_0 rfl (lv_at hl 0 rfl) ?_
  refine lv_aload_n hx hb dX7_supply_1 rfl (lv_at hl 0 rfl) ?_
  refine lv_iload_n hx hb dX7_supply_2 rfl (lv_at hl 1 rfl) ?_
  obtain ⟨v3, h3, h⟩ := cr1_some h
  refine r_callV (As := [.int a1]) (rest := [.ref (gA G (β + 0))]) (st1 := [.int v3, .ref (gA G (β + 0))]) hx hb hml hown hts hE hw hl (mX7_isDepot l G (by omega) hR h3) (cwV 1 hts (zV gV_X7_236) rfl rfl rfl kdX7_isDepot ⟨Nat.le_of_ble_eq_true rfl, Nat.le_of_ble_eq_true rfl⟩) (by omega) (congrFun hR.1 _) rfl rfl rfl rfl (Nat.le_of_ble_eq_true rfl) dX7_supply_3 ⟨Nat.zero_le _, Nat.zero_le _⟩ rfl (fun H locs hw => ?_)
  refine b_ne (tgt := 13) hx hb dX7_supply_6 (by decide) h (fun h => ?_) (fun h => ?_)
  · refine lv_iload_n hx hb dX7_supply_13 rfl (lv_at hl 2 rfl) ?_
    refine lv_i2l hx hb dX7_supply_14 rfl ?_
    refine lv_lconst (v := (lN 1)) hx hb dX7_supply_15 (by decide) ?_
    refine lv_ldc2 (v := (lN 500)) hx hb hown (hts _ (wz_in qK_X7_259)) dX7_supply_16 ?_
    obtain ⟨v19, h19, h⟩ := cr1_some h
    refine r_callS (As := [.long (a2.toInt64), .long (lN 1), .long (lN 500)]) (rest := [.ref (gA G (β + 0))]) (st1 := [.int v19, .ref (gA G (β + 0))]) hx hb hml hown hts hE hw hl (mX7_in l G (M := (wB M β 8 S)) h19) (va_cwS 3 hts (zS gS_X7_139) rfl rfl rfl kdX7_in ⟨Nat.le_of_ble_eq_true rfl, Nat.le_of_ble_eq_true rfl⟩) rfl rfl (Nat.le_of_ble_eq_true rfl) dX7_supply_19 ⟨Nat.zero_le _, Nat.zero_le _⟩ rfl (fun H locs hw => ?_)
    refine b_ne (tgt := 29) hx hb dX7_supply_22 (by decide) h (fun h => ?_) (fun h => ?_)
    · refine lv_aload_n hx hb dX7_supply_29 rfl (lv_at hl 0 rfl) ?_
      refine r_get (v := .ref (gA G (β + 3))) hx hb hts hinX7 hown hE hw hn 0 (by decide) (congrFun hR.1 _) rfl 6 (by decide) (hts _ (wz_in qF_X7_16)) rfl dX7_supply_30 ?_
      refine lv_iload_n hx hb dX7_supply_33 rfl (lv_at hl 1 rfl) ?_
      refine lv_iconst (v := (nI 1)) hx hb dX7_supply_34 (by decide) ?_
      obtain ⟨v35, h35, h⟩ := cr1_some h
      refine r_callS (As := [.int a1, .int (nI 1)]) (rest := [.ref (gA G (β + 3)), .ref (gA G (β + 0))]) (st1 := [.int v35, .ref (gA G (β + 3)), .ref (gA G (β + 0))]) hx hb hml hown hts hE hw hl (mX7_depotAt l G (M := (wB M β 8 S)) h35) (va_cwS 2 hts (zS gS_X7_61) rfl rfl rfl kdX7_depotAt ⟨Nat.le_of_ble_eq_true rfl, Nat.le_of_ble_eq_true rfl⟩) rfl rfl (Nat.le_of_ble_eq_true rfl) dX7_supply_35 ⟨Nat.zero_le _, Nat.zero_le _⟩ rfl (fun H locs hw => ?_)
      refine p_iald hx hb hE hw hn 3 (by decide) (congrFun hR.2.2.2.1) dX7_supply_38 h (fun v38 h => ?_)
      refine lv_iload_n hx hb dX7_supply_39 rfl (lv_at hl 2 rfl) ?_
      refine lv_iadd hx hb dX7_supply_40 ?_
      refine lv_sipush (v := (nI 999)) hx hb dX7_supply_41 (by decide) ?_
      refine bi_le (tgt := 51) hx hb dX7_supply_44 (by decide) h (fun h => ?_) (fun h => ?_)
      · refine lv_iconst (v := (nI 0)) hx hb dX7_supply_51 (by decide) ?_
        exact k52  a1 a2 (nI 0) S _ _ _ h hw (lv_sub hl [0, 1, 2] rfl)
      · refine lv_iconst (v := (nI 3)) hx hb dX7_supply_47 (by decide) ?_
        refine lv_goto (tgt := 52) hx hb dX7_supply_48 (by decide) ?_
        exact k52  a1 a2 (nI 3) S _ _ _ h hw (lv_sub hl [0, 1, 2] rfl)
    · refine lv_iconst (v := (nI 2)) hx hb dX7_supply_25 (by decide) ?_
      refine lv_goto (tgt := 52) hx hb dX7_supply_26 (by decide) ?_
      exact k52  a1 a2 (nI 2) S _ _ _ h hw (lv_sub hl [0, 1, 2] rfl)
  · refine lv_iconst (v := (nI 1)) hx hb dX7_supply_9 (by decide) ?_
    refine lv_goto (tgt := 52) hx hb dX7_supply_10 (by decide) ?_
    exact k52  a1 a2 (nI 1) S _ _ _ h hw (lv_sub hl [0, 1, 2] rfl)

set_option maxHeartbeats 4000000 in
set_option maxRecDepth 100000 in
theorem mX7_pass (l : Launch) (G : mG) {β : Nat} {M S S' : mM} {a1 : Int32} {r : Int32} (hn : β + 8 ≤ gN G) (hR : isMod G β) (h : pX7_pass a1 S = some (r, S')) : MC l G yX7_pass zzX7_pass 7 164 [.ref (gA G (β + 0)), .int a1] (wB M β 8 S) (wB M β 8 S') (some (.int r)) := by
  refine mc_of (cc := cX7_pass) (maxL := 2) (ret := (some .int)) (by decide) rfl (Nat.le_of_ble_eq_true rfl) ?_
  intro p e s m args below meth c H ls hx hb hr hts hown hml hlocks hE hw hl
  have hl : lv_has ls 2 [(0, .ref (gA G (β + 0))), (1, .int a1)] := hl
  have hinX7 : ∀ w ∈ wsX70, w ∈ zzX7_pass := fun w h9 => wz_in (zinX7 w h9)
  have k18 : ∀ (x1 : Int32) (t1 : Int32) (S : mM) (H : Heap) (locs : List Loc) (ls : Array Slot), pX7_pass_b18  x1 t1 S = some (r, S') → mW G s (wB M β 8 S) H locs → lv_has ls 2 [(0, .ref (gA G (β + 0))), (1, .int x1)] → W p l e { frames := 7, cells := 0, slots := 0, locals := 164 } s m args below meth c H locs 0 0 (mZ below G (some (.int r)) (wB M β 8 S') args s) (F0 m 18 ls [.int t1, .ref (gA G (β + 0))]) := by
    intro x1 t1 S H locs ls h hw hl
    unfold pX7_pass_b18 at h
    obtain ⟨v18, S18, h18, h⟩ := cw2_some h
    refine r_callV (As := [.int t1]) (rest := []) (st1 := [.int v18]) hx hb hml hown hts hE hw hl (mX7_refused l G (by omega) hR h18) (cwV 1 hts (zV gV_X7_146) rfl rfl rfl kdX7_refused ⟨Nat.le_of_ble_eq_true rfl, Nat.le_of_ble_eq_true rfl⟩) (by omega) (congrFun hR.1 _) rfl rfl rfl rfl (Nat.le_of_ble_eq_true rfl) dX7_pass_18 ⟨Nat.zero_le _, Nat.zero_le _⟩ rfl (fun H locs hw => ?_)
    refine b_eq (tgt := 26) hx hb dX7_pass_21 (by decide) h (fun h => ?_) (fun h => ?_)
    · refine lv_aload_n hx hb dX7_pass_26 rfl (lv_at hl 0 rfl) ?_
      obtain ⟨S27, h27, h⟩ := cr1_some h
      refine r_callV (As := []) (rest := []) (st1 := []) hx hb hml hown hts hE hw hl (mX7_remember l G (by omega) hR h27) (cwV 0 hts (zV gV_X7_243) rfl rfl rfl kdX7_remember ⟨Nat.le_of_ble_eq_true rfl, Nat.le_of_ble_eq_true rfl⟩) (by omega) (congrFun hR.1 _) rfl rfl rfl rfl (Nat.le_of_ble_eq_true rfl) dX7_pass_27 ⟨Nat.zero_le _, Nat.zero_le _⟩ rfl (fun H locs hw => ?_)
      refine lv_aload_n hx hb dX7_pass_30 rfl (lv_at hl 0 rfl) ?_
      refine lv_aload_n hx hb dX7_pass_31 rfl (lv_at hl 0 rfl) ?_
      refine r_get (v := .ref (gA G (β + 3))) hx hb hts hinX7 hown hE hw hn 0 (by decide) (congrFun hR.1 _) rfl 6 (by decide) (hts _ (wz_in qF_X7_16)) rfl dX7_pass_32 ?_
      refine lv_iload_n hx hb dX7_pass_35 rfl (lv_at hl 1 rfl) ?_
      obtain ⟨v36, S36, h36, h⟩ := cw2_some h
      refine r_callV (As := [.ref (gA G (β + 3)), .int x1]) (rest := []) (st1 := [.int v36]) hx hb hml hown hts hE hw hl (mX7_goHours l G (by omega) hR (by decide) hR.2.2.2.1 h36) (cwV 2 hts (zV gV_X7_261) rfl rfl rfl kdX7_goHours ⟨Nat.le_of_ble_eq_true rfl, Nat.le_of_ble_eq_true rfl⟩) (by omega) (congrFun hR.1 _) rfl rfl rfl rfl (Nat.le_of_ble_eq_true rfl) dX7_pass_36 ⟨Nat.zero_le _, Nat.zero_le _⟩ rfl (fun H locs hw => ?_)
      exact e_iw hx hb hr hlocks hw dX7_pass_39 h
    · refine lv_iconst (v := (nI 0)) hx hb dX7_pass_24 (by decide) ?_
      exact e_iw hx hb hr hlocks hw dX7_pass_25 h
  unfold pX7_pass at h
  refine lv_aload_n hx hb dX7_pass_0 rfl (lv_at hl 0 rfl) ?_
  refine lv_iload_n hx hb dX7_pass_1 rfl (lv_at hl 1 rfl) ?_
  refine lv_i2l hx hb dX7_pass_2 rfl ?_
  refine lv_lconst (v := (lN 1)) hx hb dX7_pass_3 (by decide) ?_
  refine lv_ldc2 (v := (lN 99)) hx hb hown (hts _ (wz_in qK_X7_252)) dX7_pass_4 ?_
  obtain ⟨v7, h7, h⟩ := cr1_some h
  refine r_callS (As := [.long (a1.toInt64), .long (lN 1), .long (lN 99)]) (rest := [.ref (gA G (β + 0))]) (st1 := [.int v7, .ref (gA G (β + 0))]) hx hb hml hown hts hE hw hl (mX7_in l G (M := (wB M β 8 S)) h7) (va_cwS 3 hts (zS gS_X7_139) rfl rfl rfl kdX7_in ⟨Nat.le_of_ble_eq_true rfl, Nat.le_of_ble_eq_true rfl⟩) rfl rfl (Nat.le_of_ble_eq_true rfl) dX7_pass_7 ⟨Nat.zero_le _, Nat.zero_le _⟩ rfl (fun H locs hw => ?_)
  refine b_eq (tgt := 17) hx hb dX7_pass_10 (by decide) h (fun h => ?_) (fun h => ?_)
  · refine lv_iconst (v := (nI 1)) hx hb dX7_pass_17 (by decide) ?_
    exact k18  a1 (nI 1) S _ _ _ h hw (lv_sub hl [0, 1] rfl)
  · refine lv_iconst (v := (nI 0)) hx hb dX7_pass_13 (by decide) ?_
    refine lv_goto (tgt := 18) hx hb dX7_pass_14 (by decide) ?_
    exact k18  a1 (nI 0) S _ _ _ h hw (lv_sub hl [0, 1] rfl)

set_option maxHeartbeats 4000000 in
set_option maxRecDepth 100000 in
theorem mX7_undo (l : Launch) (G : mG) {β : Nat} {M S S' : mM} {r : Int32} (hn : β + 8 ≤ gN G) (hR : isMod G β) (h : pX7_undo S = some (r, S')) : MC l G yX7_undo zzX7_undo 1 25 [.ref (gA G (β + 0))] (wB M β 8 S) (wB M β 8 S') (some (.int r)) := by
  refine mc_of (cc := cX7_undo) (maxL := 1) (ret := (some .int)) (by decide) rfl (Nat.le_of_ble_eq_true rfl) ?_
  intro p e s m args below meth c H ls hx hb hr hts hown hml hlocks hE hw hl
  have hl : lv_has ls 1 [(0, .ref (gA G (β + 0)))] := hl
  have hinX7 : ∀ w ∈ wsX70, w ∈ zzX7_undo := fun w h9 => wz_in (zinX7 w h9)
  have k13 : ∀ (t1 : Int32) (S : mM) (H : Heap) (locs : List Loc) (ls : Array Slot), pX7_undo_b13  t1 S = some (r, S') → mW G s (wB M β 8 S) H locs → lv_has ls 1 [(0, .ref (gA G (β + 0)))] → W p l e { frames := 1, cells := 0, slots := 0, locals := 25 } s m args below meth c H locs 0 0 (mZ below G (some (.int r)) (wB M β 8 S') args s) (F0 m 13 ls [.int t1, .ref (gA G (β + 0))]) := by
    intro t1 S H locs ls h hw hl
    unfold pX7_undo_b13 at h
    obtain ⟨v13, S13, h13, h⟩ := cw2_some h
    refine r_callV (As := [.int t1]) (rest := []) (st1 := [.int v13]) hx hb hml hown hts hE hw hl (mX7_refused l G (by omega) hR h13) (cwV 1 hts (zV gV_X7_146) rfl rfl rfl kdX7_refused ⟨Nat.le_of_ble_eq_true rfl, Nat.le_of_ble_eq_true rfl⟩) (by omega) (congrFun hR.1 _) rfl rfl rfl rfl (Nat.le_of_ble_eq_true rfl) dX7_undo_13 ⟨Nat.zero_le _, Nat.zero_le _⟩ rfl (fun H locs hw => ?_)
    refine b_eq (tgt := 21) hx hb dX7_undo_16 (by decide) h (fun h => ?_) (fun h => ?_)
    · refine lv_aload_n hx hb dX7_undo_21 rfl (lv_at hl 0 rfl) ?_
      refine lv_dup hx hb dX7_undo_22 rfl ?_
      refine p_get hx hb hts hinX7 hown hE hw hn 0 (by decide) (congrFun hR.1 _) rfl 9 (by decide) (hts _ (wz_in qF_X7_44)) rfl dX7_undo_23 h (fun v23 h => ?_)
      refine lv_iconst (v := (nI 1)) hx hb dX7_undo_26 (by decide) ?_
      refine lv_isub hx hb dX7_undo_27 ?_
      refine p_put hx hb hts hinX7 tyX7 tyX7_ok nmX7 hown hE hw hn 0 (by decide) (congrFun hR.1 _) rfl 9 (by decide) (hts _ (wz_in qF_X7_44)) rfl (by decide +kernel) (Nat.le_of_ble_eq_true rfl) (congrFun hR.1 _) dX7_undo_28 h (fun S28 h H locs hw => ?_)
      refine lv_aload_n hx hb dX7_undo_31 rfl (lv_at hl 0 rfl) ?_
      refine r_get (v := .ref (gA G (β + 5))) hx hb hts hinX7 hown hE hw hn 0 (by decide) (congrFun hR.1 _) rfl 8 (by decide) (hts _ (wz_in qF_X7_22)) rfl dX7_undo_32 ?_
      refine lv_sipush (v := (nI 250)) hx hb dX7_undo_35 (by decide) ?_
      refine lv_aload_n hx hb dX7_undo_38 rfl (lv_at hl 0 rfl) ?_
      refine p_get hx hb hts hinX7 hown hE hw hn 0 (by decide) (congrFun hR.1 _) rfl 9 (by decide) (hts _ (wz_in qF_X7_44)) rfl dX7_undo_39 h (fun v39 h => ?_)
      refine lv_imul hx hb dX7_undo_42 ?_
      refine lv_aload_n hx hb dX7_undo_43 rfl (lv_at hl 0 rfl) ?_
      refine r_get (v := .ref (gA G (β + 3))) hx hb hts hinX7 hown hE hw hn 0 (by decide) (congrFun hR.1 _) rfl 6 (by decide) (hts _ (wz_in qF_X7_16)) rfl dX7_undo_44 ?_
      refine lv_iconst (v := (nI 0)) hx hb dX7_undo_47 (by decide) ?_
      refine lv_sipush (v := (nI 250)) hx hb dX7_undo_48 (by decide) ?_
      obtain ⟨S51, h51, h⟩ := cr1_some h
      refine r_callS (As := [.ref (gA G (β + 5)), .int ((nI 250) * v39), .ref (gA G (β + 3)), .int (nI 0), .int (nI 250)]) (rest := []) (st1 := []) hx hb hml hown hts hE hw hl (mX7_copy l G (by omega) hR (by decide) (by decide) hR.2.2.2.2.2.1 hR.2.2.2.1 h51) (va_cwS 5 hts (zS gS_X7_47) rfl rfl rfl kdX7_copy ⟨Nat.le_of_ble_eq_true rfl, Nat.le_of_ble_eq_true rfl⟩) rfl rfl (Nat.le_of_ble_eq_true rfl) dX7_undo_51 ⟨Nat.zero_le _, Nat.zero_le _⟩ rfl (fun H locs hw => ?_)
      refine lv_aload_n hx hb dX7_undo_54 rfl (lv_at hl 0 rfl) ?_
      refine p_get hx hb hts hinX7 hown hE hw hn 0 (by decide) (congrFun hR.1 _) rfl 9 (by decide) (hts _ (wz_in qF_X7_44)) rfl dX7_undo_55 h (fun v55 h => ?_)
      exact e_iw hx hb hr hlocks hw dX7_undo_58 h
    · refine lv_iconst (v := (nI 0)) hx hb dX7_undo_19 (by decide) ?_
      exact e_iw hx hb hr hlocks hw dX7_undo_20 h
  unfold pX7_undo at h
  refine lv_aload_n hx hb dX7_undo_0 rfl (lv_at hl 0 rfl) ?_
  refine lv_aload_n hx hb dX7_undo_1 rfl (lv_at hl 0 rfl) ?_
  refine p_get hx hb hts hinX7 hown hE hw hn 0 (by decide) (congrFun hR.1 _) rfl 9 (by decide) (hts _ (wz_in qF_X7_44)) rfl dX7_undo_2 h (fun v2 h => ?_)
  refine b_ne (tgt := 12) hx hb dX7_undo_5 (by decide) h (fun h => ?_) (fun h => ?_)
  · refine lv_iconst (v := (nI 0)) hx hb dX7_undo_12 (by decide) ?_
    exact k13  (nI 0) S _ _ _ h hw (lv_sub hl [0] rfl)
  · refine lv_iconst (v := (nI 1)) hx hb dX7_undo_8 (by decide) ?_
    refine lv_goto (tgt := 13) hx hb dX7_undo_9 (by decide) ?_
    exact k13  (nI 1) S _ _ _ h hw (lv_sub hl [0] rfl)

set_option maxHeartbeats 4000000 in
set_option maxRecDepth 100000 in
theorem mX7_arrival (l : Launch) (G : mG) {β : Nat} {M S S' : mM} {a1 : Int32} {r : Int32} (hn : β + 8 ≤ gN G) (hR : isMod G β) (h : pX7_arrival a1 S = some (r, S')) : MC l G yX7_arrival zzX7_arrival 6 140 [.ref (gA G (β + 0)), .int a1] (wB M β 8 S) (wB M β 8 S') (some (.int r)) := by
  refine mc_of (cc := cX7_arrival) (maxL := 3) (ret := (some .int)) (by decide) rfl (Nat.le_of_ble_eq_true rfl) ?_
  intro p e s m args below meth c H ls hx hb hr hts hown hml hlocks hE hw hl
  have hl : lv_has ls 3 [(0, .ref (gA G (β + 0))), (1, .int a1)] := hl
  have hinX7 : ∀ w ∈ wsX70, w ∈ zzX7_arrival := fun w h9 => wz_in (zinX7 w h9)
  have k2 : ∀ (k : Nat), ∀ (x1 : Int32) (x2 : Int32) (S : mM) (H : Heap) (locs : List Loc) (ls : Array Slot), pX7_arrival_l2  k x1 x2 S = some (r, S') → mW G s (wB M β 8 S) H locs → lv_has ls 3 [(0, .ref (gA G (β + 0))), (1, .int x1), (2, .int x2)] → W p l e { frames := 6, cells := 0, slots := 0, locals := 140 } s m args below meth c H locs 0 0 (mZ below G (some (.int r)) (wB M β 8 S') args s) (F0 m 2 ls []) := by
    intro k
    induction k with
    | zero => intro x1 x2 S H locs ls h; cases h
    | succ k hih2 =>
      intro x1 x2 S H locs ls h hw hl
      obtain ⟨ih2, hk2⟩ : ∃ f, f = pX7_arrival_l2  k := ⟨_, rfl⟩
      replace h : pX7_arrival_lb2  (pX7_arrival_l2  k) x1 x2 S = some (r, S') := h
      rw [← hk2] at h hih2
      clear hk2
      unfold pX7_arrival_lb2 at h
      refine lv_iload_n hx hb dX7_arrival_2 rfl (lv_at hl 2 rfl) ?_
      refine lv_sipush (v := (nI 300)) hx hb dX7_arrival_3 (by decide) ?_
      refine bi_gt (tgt := 36) hx hb dX7_arrival_6 (by decide) h (fun h => ?_) (fun h => ?_)
      · refine lv_bipush (v := (-9)) hx hb dX7_arrival_36 (by decide) ?_
        exact e_iw hx hb hr hlocks hw dX7_arrival_38 h
      · refine lv_aload_n hx hb dX7_arrival_9 rfl (lv_at hl 0 rfl) ?_
        refine r_get (v := .ref (gA G (β + 4))) hx hb hts hinX7 hown hE hw hn 0 (by decide) (congrFun hR.1 _) rfl 7 (by decide) (hts _ (wz_in qF_X7_19)) rfl dX7_arrival_10 ?_
        refine lv_iload_n hx hb dX7_arrival_13 rfl (lv_at hl 1 rfl) ?_
        obtain ⟨v14, h14, h⟩ := cr1_some h
        refine r_callS (As := [.ref (gA G (β + 4)), .int x1]) (rest := []) (st1 := [.int v14]) hx hb hml hown hts hE hw hl (mc_subR 4 1 (by decide) (mX7_isThere l G (by show β + 4 + 1 ≤ _; omega) hR.2.2.2.2.1 h14)) (va_cwS 2 hts (zS gS_X7_118) rfl rfl rfl kdX7_isThere ⟨Nat.le_of_ble_eq_true rfl, Nat.le_of_ble_eq_true rfl⟩) rfl rfl (Nat.le_of_ble_eq_true rfl) dX7_arrival_14 ⟨Nat.zero_le _, Nat.zero_le _⟩ rfl (fun H locs hw => ?_)
        refine b_eq (tgt := 22) hx hb dX7_arrival_17 (by decide) h (fun h => ?_) (fun h => ?_)
        · refine lv_aload_n hx hb dX7_arrival_22 rfl (lv_at hl 0 rfl) ?_
          refine lv_aload_n hx hb dX7_arrival_23 rfl (lv_at hl 0 rfl) ?_
          refine r_get (v := .ref (gA G (β + 4))) hx hb hts hinX7 hown hE hw hn 0 (by decide) (congrFun hR.1 _) rfl 7 (by decide) (hts _ (wz_in qF_X7_19)) rfl dX7_arrival_24 ?_
          obtain ⟨S27, h27, h⟩ := cr1_some h
          refine r_callV (As := [.ref (gA G (β + 4))]) (rest := []) (st1 := []) hx hb hml hown hts hE hw hl (mX7_goHour l G (by omega) hR (by decide) hR.2.2.2.2.1 h27) (cwV 1 hts (zV gV_X7_133) rfl rfl rfl kdX7_goHour ⟨Nat.le_of_ble_eq_true rfl, Nat.le_of_ble_eq_true rfl⟩) (by omega) (congrFun hR.1 _) rfl rfl rfl rfl (Nat.le_of_ble_eq_true rfl) dX7_arrival_27 ⟨Nat.zero_le _, Nat.zero_le _⟩ rfl (fun H locs hw => ?_)
          refine p_iinc (w := (nI 1)) 2 (fun v30 => [(2, .int v30), (0, .ref (gA G (β + 0))), (1, .int x1)]) hx hb dX7_arrival_30 hl rfl (by decide) (by decide) h (fun _ => rfl) (fun v30 h ls hl => ?_)
          refine lv_goto (tgt := 2) hx hb dX7_arrival_33 (by decide) ?_
          exact hih2 x1 v30 S27 _ _ _ h hw (lv_sub hl [1, 2, 0] rfl)
        · refine lv_iload_n hx hb dX7_arrival_20 rfl (lv_at hl 2 rfl) ?_
          exact e_iw hx hb hr hlocks hw dX7_arrival_21 h
  unfold pX7_arrival at h
  refine lv_iconst (v := (nI 0)) hx hb dX7_arrival_0 (by decide) ?_
  refine lv_istore_n (lv' := [(2, .int (nI 0)), (0, .ref (gA G (β + 0))), (1, .int a1)]) hx hb dX7_arrival_1 rfl hl (by decide) rfl (fun ls hl => ?_)
  exact k2 fuel a1 (nI 0) S _ _ _ h hw (lv_sub hl [1, 2, 0] rfl)

set_option maxHeartbeats 4000000 in
set_option maxRecDepth 100000 in
theorem mX7_arrives (l : Launch) (G : mG) {β : Nat} {M S S' : mM} {a1 : Int32} {r : Int32} (hn : β + 8 ≤ gN G) (hR : isMod G β) (h : pX7_arrives a1 S = some (r, S')) : MC l G yX7_arrives zzX7_arrives 7 162 [.ref (gA G (β + 0)), .int a1] (wB M β 8 S) (wB M β 8 S') (some (.int r)) := by
  refine mc_of (cc := cX7_arrives) (maxL := 2) (ret := (some .int)) (by decide) rfl (Nat.le_of_ble_eq_true rfl) ?_
  intro p e s m args below meth c H ls hx hb hr hts hown hml hlocks hE hw hl
  have hl : lv_has ls 2 [(0, .ref (gA G (β + 0))), (1, .int a1)] := hl
  have k14 : ∀ (x1 : Int32) (t1 : Int32) (S : mM) (H : Heap) (locs : List Loc) (ls : Array Slot), pX7_arrives_b14  x1 t1 S = some (r, S') → mW G s (wB M β 8 S) H locs → lv_has ls 2 [(0, .ref (gA G (β + 0))), (1, .int x1)] → W p l e { frames := 7, cells := 0, slots := 0, locals := 162 } s m args below meth c H locs 0 0 (mZ below G (some (.int r)) (wB M β 8 S') args s) (F0 m 14 ls [.int t1, .ref (gA G (β + 0))]) := by
    intro x1 t1 S H locs ls h hw hl
    unfold pX7_arrives_b14 at h
    obtain ⟨v14, S14, h14, h⟩ := cw2_some h
    refine r_callV (As := [.int t1]) (rest := []) (st1 := [.int v14]) hx hb hml hown hts hE hw hl (mX7_refused l G (by omega) hR h14) (cwV 1 hts (zV gV_X7_146) rfl rfl rfl kdX7_refused ⟨Nat.le_of_ble_eq_true rfl, Nat.le_of_ble_eq_true rfl⟩) (by omega) (congrFun hR.1 _) rfl rfl rfl rfl (Nat.le_of_ble_eq_true rfl) dX7_arrives_14 ⟨Nat.zero_le _, Nat.zero_le _⟩ rfl (fun H locs hw => ?_)
    refine b_eq (tgt := 22) hx hb dX7_arrives_17 (by decide) h (fun h => ?_) (fun h => ?_)
    · refine lv_aload_n hx hb dX7_arrives_22 rfl (lv_at hl 0 rfl) ?_
      obtain ⟨S23, h23, h⟩ := cr1_some h
      refine r_callV (As := []) (rest := []) (st1 := []) hx hb hml hown hts hE hw hl (mX7_begin l G (by omega) hR h23) (cwV 0 hts (zV gV_X7_264) rfl rfl rfl kdX7_begin ⟨Nat.le_of_ble_eq_true rfl, Nat.le_of_ble_eq_true rfl⟩) (by omega) (congrFun hR.1 _) rfl rfl rfl rfl (Nat.le_of_ble_eq_true rfl) dX7_arrives_23 ⟨Nat.zero_le _, Nat.zero_le _⟩ rfl (fun H locs hw => ?_)
      refine lv_aload_n hx hb dX7_arrives_26 rfl (lv_at hl 0 rfl) ?_
      refine lv_iload_n hx hb dX7_arrives_27 rfl (lv_at hl 1 rfl) ?_
      obtain ⟨v28, S28, h28, h⟩ := cw2_some h
      refine r_callV (As := [.int x1]) (rest := []) (st1 := [.int v28]) hx hb hml hown hts hE hw hl (mX7_arrival l G (by omega) hR h28) (cwV 1 hts (zV gV_X7_267) rfl rfl rfl kdX7_arrival ⟨Nat.le_of_ble_eq_true rfl, Nat.le_of_ble_eq_true rfl⟩) (by omega) (congrFun hR.1 _) rfl rfl rfl rfl (Nat.le_of_ble_eq_true rfl) dX7_arrives_28 ⟨Nat.zero_le _, Nat.zero_le _⟩ rfl (fun H locs hw => ?_)
      exact e_iw hx hb hr hlocks hw dX7_arrives_31 h
    · refine lv_iconst (v := (nI 0)) hx hb dX7_arrives_20 (by decide) ?_
      exact e_iw hx hb hr hlocks hw dX7_arrives_21 h
  unfold pX7_arrives at h
  refine lv_aload_n hx hb dX7_arrives_0 rfl (lv_at hl 0 rfl) ?_
  refine lv_aload_n hx hb dX7_arrives_1 rfl (lv_at hl 0 rfl) ?_
  refine lv_iload_n hx hb dX7_arrives_2 rfl (lv_at hl 1 rfl) ?_
  obtain ⟨v3, h3, h⟩ := cr1_some h
  refine r_callV (As := [.int a1]) (rest := [.ref (gA G (β + 0))]) (st1 := [.int v3, .ref (gA G (β + 0))]) hx hb hml hown hts hE hw hl (mX7_isConvoy l G (by omega) hR h3) (cwV 1 hts (zV gV_X7_218) rfl rfl rfl kdX7_isConvoy ⟨Nat.le_of_ble_eq_true rfl, Nat.le_of_ble_eq_true rfl⟩) (by omega) (congrFun hR.1 _) rfl rfl rfl rfl (Nat.le_of_ble_eq_true rfl) dX7_arrives_3 ⟨Nat.zero_le _, Nat.zero_le _⟩ rfl (fun H locs hw => ?_)
  refine b_eq (tgt := 13) hx hb dX7_arrives_6 (by decide) h (fun h => ?_) (fun h => ?_)
  · refine lv_iconst (v := (nI 1)) hx hb dX7_arrives_13 (by decide) ?_
    exact k14  a1 (nI 1) S _ _ _ h hw (lv_sub hl [0, 1] rfl)
  · refine lv_iconst (v := (nI 0)) hx hb dX7_arrives_9 (by decide) ?_
    refine lv_goto (tgt := 14) hx hb dX7_arrives_10 (by decide) ?_
    exact k14  a1 (nI 0) S _ _ _ h hw (lv_sub hl [0, 1] rfl)

set_option maxHeartbeats 4000000 in
set_option maxRecDepth 100000 in
theorem mX7_leaves (l : Launch) (G : mG) {β : Nat} {M S S' : mM} {a1 : Int32} {r : Int32} (hn : β + 8 ≤ gN G) (hR : isMod G β) (h : pX7_leaves a1 S = some (r, S')) : MC l G yX7_leaves zzX7_leaves 6 140 [.ref (gA G (β + 0)), .int a1] (wB M β 8 S) (wB M β 8 S') (some (.int r)) := by
  refine mc_of (cc := cX7_leaves) (maxL := 3) (ret := (some .int)) (by decide) rfl (Nat.le_of_ble_eq_true rfl) ?_
  intro p e s m args below meth c H ls hx hb hr hts hown hml hlocks hE hw hl
  have hl : lv_has ls 3 [(0, .ref (gA G (β + 0))), (1, .int a1)] := hl
  have hinX7 : ∀ w ∈ wsX70, w ∈ zzX7_leaves := fun w h9 => wz_in (zinX7 w h9)
  have k39 : ∀ (k : Nat), ∀ (x2 : Int32) (S : mM) (H : Heap) (locs : List Loc) (ls : Array Slot), pX7_leaves_l39  k x2 S = some (r, S') → mW G s (wB M β 8 S) H locs → lv_has ls 3 [(0, .ref (gA G (β + 0))), (2, .int x2)] → W p l e { frames := 6, cells := 0, slots := 0, locals := 140 } s m args below meth c H locs 0 0 (mZ below G (some (.int r)) (wB M β 8 S') args s) (F0 m 39 ls []) := by
    intro k
    induction k with
    | zero => intro x2 S H locs ls h; cases h
    | succ k hih39 =>
      intro x2 S H locs ls h hw hl
      obtain ⟨ih39, hk39⟩ : ∃ f, f = pX7_leaves_l39  k := ⟨_, rfl⟩
      replace h : pX7_leaves_lb39  (pX7_leaves_l39  k) x2 S = some (r, S') := h
      rw [← hk39] at h hih39
      clear hk39
      unfold pX7_leaves_lb39 at h
      refine lv_iload_n hx hb dX7_leaves_39 rfl (lv_at hl 1 rfl) ?_
      refine lv_sipush (v := (nI 300)) hx hb dX7_leaves_40 (by decide) ?_
      refine bi_ge (tgt := 69) hx hb dX7_leaves_43 (by decide) h (fun h => ?_) (fun h => ?_)
      · refine lv_aload_n hx hb dX7_leaves_69 rfl (lv_at hl 0 rfl) ?_
        refine lv_bipush (v := (-9)) hx hb dX7_leaves_70 (by decide) ?_
        refine p_put hx hb hts hinX7 tyX7 tyX7_ok nmX7 hown hE hw hn 0 (by decide) (congrFun hR.1 _) rfl 12 (by decide) (hts _ (wz_in qF_X7_32)) rfl (by decide +kernel) (Nat.le_of_ble_eq_true rfl) (congrFun hR.1 _) dX7_leaves_72 h (fun S72 h H locs hw => ?_)
        refine lv_aload_n hx hb dX7_leaves_75 rfl (lv_at hl 0 rfl) ?_
        refine p_get hx hb hts hinX7 hown hE hw hn 0 (by decide) (congrFun hR.1 _) rfl 13 (by decide) (hts _ (wz_in qF_X7_36)) rfl dX7_leaves_76 h (fun v76 h => ?_)
        exact e_iw hx hb hr hlocks hw dX7_leaves_79 h
      · refine lv_aload_n hx hb dX7_leaves_46 rfl (lv_at hl 0 rfl) ?_
        refine p_get hx hb hts hinX7 hown hE hw hn 0 (by decide) (congrFun hR.1 _) rfl 13 (by decide) (hts _ (wz_in qF_X7_36)) rfl dX7_leaves_47 h (fun v47 h => ?_)
        refine lv_bipush (v := (-9)) hx hb dX7_leaves_50 (by decide) ?_
        refine bi_ne (tgt := 69) hx hb dX7_leaves_52 (by decide) h (fun h => ?_) (fun h => ?_)
        · refine lv_aload_n hx hb dX7_leaves_69 rfl (lv_at hl 0 rfl) ?_
          refine lv_bipush (v := (-9)) hx hb dX7_leaves_70 (by decide) ?_
          refine p_put hx hb hts hinX7 tyX7 tyX7_ok nmX7 hown hE hw hn 0 (by decide) (congrFun hR.1 _) rfl 12 (by decide) (hts _ (wz_in qF_X7_32)) rfl (by decide +kernel) (Nat.le_of_ble_eq_true rfl) (congrFun hR.1 _) dX7_leaves_72 h (fun S72 h H locs hw => ?_)
          refine lv_aload_n hx hb dX7_leaves_75 rfl (lv_at hl 0 rfl) ?_
          refine p_get hx hb hts hinX7 hown hE hw hn 0 (by decide) (congrFun hR.1 _) rfl 13 (by decide) (hts _ (wz_in qF_X7_36)) rfl dX7_leaves_76 h (fun v76 h => ?_)
          exact e_iw hx hb hr hlocks hw dX7_leaves_79 h
        · refine lv_aload_n hx hb dX7_leaves_55 rfl (lv_at hl 0 rfl) ?_
          refine lv_aload_n hx hb dX7_leaves_56 rfl (lv_at hl 0 rfl) ?_
          refine r_get (v := .ref (gA G (β + 4))) hx hb hts hinX7 hown hE hw hn 0 (by decide) (congrFun hR.1 _) rfl 7 (by decide) (hts _ (wz_in qF_X7_19)) rfl dX7_leaves_57 ?_
          obtain ⟨S60, h60, h⟩ := cr1_some h
          refine r_callV (As := [.ref (gA G (β + 4))]) (rest := []) (st1 := []) hx hb hml hown hts hE hw hl (mX7_goHour l G (by omega) hR (by decide) hR.2.2.2.2.1 h60) (cwV 1 hts (zV gV_X7_133) rfl rfl rfl kdX7_goHour ⟨Nat.le_of_ble_eq_true rfl, Nat.le_of_ble_eq_true rfl⟩) (by omega) (congrFun hR.1 _) rfl rfl rfl rfl (Nat.le_of_ble_eq_true rfl) dX7_leaves_60 ⟨Nat.zero_le _, Nat.zero_le _⟩ rfl (fun H locs hw => ?_)
          refine p_iinc (w := (nI 1)) 1 (fun v63 => [(2, .int v63), (0, .ref (gA G (β + 0)))]) hx hb dX7_leaves_63 hl rfl (by decide) (by decide) h (fun _ => rfl) (fun v63 h ls hl => ?_)
          refine lv_goto (tgt := 39) hx hb dX7_leaves_66 (by decide) ?_
          exact hih39 v63 S60 _ _ _ h hw (lv_sub hl [1, 0] rfl)
  have k14 : ∀ (x1 : Int32) (t1 : Int32) (S : mM) (H : Heap) (locs : List Loc) (ls : Array Slot), pX7_leaves_b14  x1 t1 S = some (r, S') → mW G s (wB M β 8 S) H locs → lv_has ls 3 [(0, .ref (gA G (β + 0))), (1, .int x1)] → W p l e { frames := 6, cells := 0, slots := 0, locals := 140 } s m args below meth c H locs 0 0 (mZ below G (some (.int r)) (wB M β 8 S') args s) (F0 m 14 ls [.int t1, .ref (gA G (β + 0))]) := by
    intro x1 t1 S H locs ls h hw hl
    unfold pX7_leaves_b14 at h
    obtain ⟨v14, S14, h14, h⟩ := cw2_some h
    refine r_callV (As := [.int t1]) (rest := []) (st1 := [.int v14]) hx hb hml hown hts hE hw hl (mX7_refused l G (by omega) hR h14) (cwV 1 hts (zV gV_X7_146) rfl rfl rfl kdX7_refused ⟨Nat.le_of_ble_eq_true rfl, Nat.le_of_ble_eq_true rfl⟩) (by omega) (congrFun hR.1 _) rfl rfl rfl rfl (Nat.le_of_ble_eq_true rfl) dX7_leaves_14 ⟨Nat.zero_le _, Nat.zero_le _⟩ rfl (fun H locs hw => ?_)
    refine b_eq (tgt := 22) hx hb dX7_leaves_17 (by decide) h (fun h => ?_) (fun h => ?_)
    · refine lv_aload_n hx hb dX7_leaves_22 rfl (lv_at hl 0 rfl) ?_
      obtain ⟨S23, h23, h⟩ := cr1_some h
      refine r_callV (As := []) (rest := []) (st1 := []) hx hb hml hown hts hE hw hl (mX7_begin l G (by omega) hR h23) (cwV 0 hts (zV gV_X7_264) rfl rfl rfl kdX7_begin ⟨Nat.le_of_ble_eq_true rfl, Nat.le_of_ble_eq_true rfl⟩) (by omega) (congrFun hR.1 _) rfl rfl rfl rfl (Nat.le_of_ble_eq_true rfl) dX7_leaves_23 ⟨Nat.zero_le _, Nat.zero_le _⟩ rfl (fun H locs hw => ?_)
      refine lv_aload_n hx hb dX7_leaves_26 rfl (lv_at hl 0 rfl) ?_
      refine lv_iload_n hx hb dX7_leaves_27 rfl (lv_at hl 1 rfl) ?_
      refine p_put hx hb hts hinX7 tyX7 tyX7_ok nmX7 hown hE hw hn 0 (by decide) (congrFun hR.1 _) rfl 12 (by decide) (hts _ (wz_in qF_X7_32)) rfl (by decide +kernel) (Nat.le_of_ble_eq_true rfl) (congrFun hR.1 _) dX7_leaves_28 h (fun S28 h H locs hw => ?_)
      refine lv_aload_n hx hb dX7_leaves_31 rfl (lv_at hl 0 rfl) ?_
      refine lv_bipush (v := (-9)) hx hb dX7_leaves_32 (by decide) ?_
      refine p_put hx hb hts hinX7 tyX7 tyX7_ok nmX7 hown hE hw hn 0 (by decide) (congrFun hR.1 _) rfl 13 (by decide) (hts _ (wz_in qF_X7_36)) rfl (by decide +kernel) (Nat.le_of_ble_eq_true rfl) (congrFun hR.1 _) dX7_leaves_34 h (fun S34 h H locs hw => ?_)
      refine lv_iconst (v := (nI 0)) hx hb dX7_leaves_37 (by decide) ?_
      refine lv_istore_n (lv' := [(2, .int (nI 0)), (0, .ref (gA G (β + 0))), (1, .int x1)]) hx hb dX7_leaves_38 rfl hl (by decide) rfl (fun ls hl => ?_)
      exact k39 fuel (nI 0) S34 _ _ _ h hw (lv_sub hl [1, 0] rfl)
    · refine lv_iconst (v := (nI 0)) hx hb dX7_leaves_20 (by decide) ?_
      exact e_iw hx hb hr hlocks hw dX7_leaves_21 h
  unfold pX7_leaves at h
  refine lv_aload_n hx hb dX7_leaves_0 rfl (lv_at hl 0 rfl) ?_
  refine lv_aload_n hx hb dX7_leaves_1 rfl (lv_at hl 0 rfl) ?_
  refine lv_iload_n hx hb dX7_leaves_2 rfl (lv_at hl 1 rfl) ?_
  obtain ⟨v3, h3, h⟩ := cr1_some h
  refine r_callV (As := [.int a1]) (rest := [.ref (gA G (β + 0))]) (st1 := [.int v3, .ref (gA G (β + 0))]) hx hb hml hown hts hE hw hl (mX7_isConvoy l G (by omega) hR h3) (cwV 1 hts (zV gV_X7_218) rfl rfl rfl kdX7_isConvoy ⟨Nat.le_of_ble_eq_true rfl, Nat.le_of_ble_eq_true rfl⟩) (by omega) (congrFun hR.1 _) rfl rfl rfl rfl (Nat.le_of_ble_eq_true rfl) dX7_leaves_3 ⟨Nat.zero_le _, Nat.zero_le _⟩ rfl (fun H locs hw => ?_)
  refine b_eq (tgt := 13) hx hb dX7_leaves_6 (by decide) h (fun h => ?_) (fun h => ?_)
  · refine lv_iconst (v := (nI 1)) hx hb dX7_leaves_13 (by decide) ?_
    exact k14  a1 (nI 1) S _ _ _ h hw (lv_sub hl [0, 1] rfl)
  · refine lv_iconst (v := (nI 0)) hx hb dX7_leaves_9 (by decide) ?_
    refine lv_goto (tgt := 14) hx hb dX7_leaves_10 (by decide) ?_
    exact k14  a1 (nI 0) S _ _ _ h hw (lv_sub hl [0, 1] rfl)

set_option maxHeartbeats 4000000 in
set_option maxRecDepth 100000 in
theorem mX7_bestHold (l : Launch) (G : mG) {β : Nat} {M S S' : mM} {a1 : Int32} {r : Int32} (hn : β + 8 ≤ gN G) (hR : isMod G β) (h : pX7_bestHold a1 S = some (r, S')) : MC l G yX7_bestHold zzX7_bestHold 7 162 [.ref (gA G (β + 0)), .int a1] (wB M β 8 S) (wB M β 8 S') (some (.int r)) := by
  refine mc_of (cc := cX7_bestHold) (maxL := 6) (ret := (some .int)) (by decide) rfl (Nat.le_of_ble_eq_true rfl) ?_
  intro p e s m args below meth c H ls hx hb hr hts hown hml hlocks hE hw hl
  have hl : lv_has ls 6 [(0, .ref (gA G (β + 0))), (1, .int a1)] := hl
  have hinX7 : ∀ w ∈ wsX70, w ∈ zzX7_bestHold := fun w h9 => wz_in (zinX7 w h9)
  have k95 : ∀ (ih43 : Int32 → Int32 → Int32 → Int32 → mM → Option (Int32 × mM)) (_ : ∀ (x1 : Int32) (x2 : Int32) (x3 : Int32) (x4 : Int32) (S : mM) (H : Heap) (locs : List Loc) (ls : Array Slot), ih43 x1 x2 x3 x4 S = some (r, S') → mW G s (wB M β 8 S) H locs → lv_has ls 6 [(0, .ref (gA G (β + 0))), (1, .int x1), (2, .int x2), (3, .int x3), (4, .int x4)] → W p l e { frames := 7, cells := 0, slots := 0, locals := 162 } s m args below meth c H locs 0 0 (mZ below G (some (.int r)) (wB M β 8 S') args s) (F0 m 43 ls [])), ∀ (x1 : Int32) (x4 : Int32) (x5 : Int32) (S : mM) (H : Heap) (locs : List Loc) (ls : Array Slot), pX7_bestHold_b95 ih43 x1 x4 x5 S = some (r, S') → mW G s (wB M β 8 S) H locs → lv_has ls 6 [(0, .ref (gA G (β + 0))), (1, .int x1), (4, .int x4), (5, .int x5)] → W p l e { frames := 7, cells := 0, slots := 0, locals := 162 } s m args below meth c H locs 0 0 (mZ below G (some (.int r)) (wB M β 8 S') args s) (F0 m 95 ls []) := by
    intro ih43 hih43 x1 x4 x5 S H locs ls h hw hl
    unfold pX7_bestHold_b95 at h
    refine lv_iload hx hb dX7_bestHold_95 (lv_at hl 2 rfl) ?_
    refine lv_istore_n (lv' := [(2, .int x4), (0, .ref (gA G (β + 0))), (1, .int x1), (4, .int x4), (5, .int x5)]) hx hb dX7_bestHold_97 rfl hl (by decide) rfl (fun ls hl => ?_)
    refine lv_iload hx hb dX7_bestHold_98 (lv_at hl 4 rfl) ?_
    refine lv_iload hx hb dX7_bestHold_100 (lv_at hl 3 rfl) ?_
    refine lv_isub hx hb dX7_bestHold_102 ?_
    refine p_topi h (fun v103 h => ?_)
    refine lv_istore_n (lv' := [(3, .int v103), (2, .int x4), (0, .ref (gA G (β + 0))), (1, .int x1), (4, .int x4), (5, .int x5)]) hx hb dX7_bestHold_103 rfl hl (by decide) rfl (fun ls hl => ?_)
    refine p_iinc (w := (nI 1)) 4 (fun v104 => [(4, .int v104), (3, .int v103), (2, .int x4), (0, .ref (gA G (β + 0))), (1, .int x1), (5, .int x5)]) hx hb dX7_bestHold_104 hl rfl (by decide) (by decide) h (fun _ => rfl) (fun v104 h ls hl => ?_)
    refine lv_goto (tgt := 43) hx hb dX7_bestHold_107 (by decide) ?_
    exact hih43 x1 x4 v103 v104 S _ _ _ h hw (lv_sub hl [3, 4, 2, 1, 0] rfl)
  have k43 : ∀ (k : Nat), ∀ (x1 : Int32) (x2 : Int32) (x3 : Int32) (x4 : Int32) (S : mM) (H : Heap) (locs : List Loc) (ls : Array Slot), pX7_bestHold_l43  k x1 x2 x3 x4 S = some (r, S') → mW G s (wB M β 8 S) H locs → lv_has ls 6 [(0, .ref (gA G (β + 0))), (1, .int x1), (2, .int x2), (3, .int x3), (4, .int x4)] → W p l e { frames := 7, cells := 0, slots := 0, locals := 162 } s m args below meth c H locs 0 0 (mZ below G (some (.int r)) (wB M β 8 S') args s) (F0 m 43 ls []) := by
    intro k
    induction k with
    | zero => intro x1 x2 x3 x4 S H locs ls h; cases h
    | succ k hih43 =>
      intro x1 x2 x3 x4 S H locs ls h hw hl
      obtain ⟨ih43, hk43⟩ : ∃ f, f = pX7_bestHold_l43  k := ⟨_, rfl⟩
      replace h : pX7_bestHold_lb43  (pX7_bestHold_l43  k) x1 x2 x3 x4 S = some (r, S') := h
      rw [← hk43] at h hih43
      clear hk43
      unfold pX7_bestHold_lb43 at h
      refine lv_iload hx hb dX7_bestHold_43 (lv_at hl 4 rfl) ?_
      refine lv_bipush (v := (nI 24)) hx hb dX7_bestHold_45 (by decide) ?_
      refine bi_ge (tgt := 110) hx hb dX7_bestHold_47 (by decide) h (fun h => ?_) (fun h => ?_)
      · refine lv_iload_n hx hb dX7_bestHold_110 rfl (lv_at hl 2 rfl) ?_
        exact e_iw hx hb hr hlocks hw dX7_bestHold_111 h
      · refine lv_aload_n hx hb dX7_bestHold_50 rfl (lv_at hl 0 rfl) ?_
        obtain ⟨S51, h51, h⟩ := cr1_some h
        refine r_callV (As := []) (rest := []) (st1 := []) hx hb hml hown hts hE hw hl (mX7_begin l G (by omega) hR h51) (cwV 0 hts (zV gV_X7_264) rfl rfl rfl kdX7_begin ⟨Nat.le_of_ble_eq_true rfl, Nat.le_of_ble_eq_true rfl⟩) (by omega) (congrFun hR.1 _) rfl rfl rfl rfl (Nat.le_of_ble_eq_true rfl) dX7_bestHold_51 ⟨Nat.zero_le _, Nat.zero_le _⟩ rfl (fun H locs hw => ?_)
        refine lv_aload_n hx hb dX7_bestHold_54 rfl (lv_at hl 0 rfl) ?_
        refine r_get (v := .ref (gA G (β + 4))) hx hb hts hinX7 hown hE hw hn 0 (by decide) (congrFun hR.1 _) rfl 7 (by decide) (hts _ (wz_in qF_X7_19)) rfl dX7_bestHold_55 ?_
        refine lv_iload_n hx hb dX7_bestHold_58 rfl (lv_at hl 1 rfl) ?_
        refine lv_iconst (v := (nI 2)) hx hb dX7_bestHold_59 (by decide) ?_
        obtain ⟨v60, h60, h⟩ := cr1_some h
        refine r_callS (As := [.int x1, .int (nI 2)]) (rest := [.ref (gA G (β + 4))]) (st1 := [.int v60, .ref (gA G (β + 4))]) hx hb hml hown hts hE hw hl (mX7_convoyAt l G (M := (wB M β 8 S51)) h60) (va_cwS 2 hts (zS gS_X7_51) rfl rfl rfl kdX7_convoyAt ⟨Nat.le_of_ble_eq_true rfl, Nat.le_of_ble_eq_true rfl⟩) rfl rfl (Nat.le_of_ble_eq_true rfl) dX7_bestHold_60 ⟨Nat.zero_le _, Nat.zero_le _⟩ rfl (fun H locs hw => ?_)
        refine lv_iload hx hb dX7_bestHold_63 (lv_at hl 4 rfl) ?_
        refine p_iast hx hb hE hw hn 4 (by decide) (congrFun hR.2.2.2.2.1) dX7_bestHold_65 h (fun S65 h H locs hw => ?_)
        refine lv_aload_n hx hb dX7_bestHold_66 rfl (lv_at hl 0 rfl) ?_
        refine lv_iload_n hx hb dX7_bestHold_67 rfl (lv_at hl 1 rfl) ?_
        obtain ⟨v68, S68, h68, h⟩ := cw2_some h
        refine r_callV (As := [.int x1]) (rest := []) (st1 := [.int v68]) hx hb hml hown hts hE hw hl (mX7_arrival l G (by omega) hR h68) (cwV 1 hts (zV gV_X7_267) rfl rfl rfl kdX7_arrival ⟨Nat.le_of_ble_eq_true rfl, Nat.le_of_ble_eq_true rfl⟩) (by omega) (congrFun hR.1 _) rfl rfl rfl rfl (Nat.le_of_ble_eq_true rfl) dX7_bestHold_68 ⟨Nat.zero_le _, Nat.zero_le _⟩ rfl (fun H locs hw => ?_)
        refine lv_istore (lv' := [(5, .int v68), (0, .ref (gA G (β + 0))), (1, .int x1), (2, .int x2), (3, .int x3), (4, .int x4)]) hx hb dX7_bestHold_71 hl (by decide) rfl (fun ls hl => ?_)
        refine lv_iload hx hb dX7_bestHold_73 (lv_at hl 0 rfl) ?_
        refine lv_bipush (v := (-9)) hx hb dX7_bestHold_75 (by decide) ?_
        refine bi_eq (tgt := 104) hx hb dX7_bestHold_77 (by decide) h (fun h => ?_) (fun h => ?_)
        · refine p_iinc (w := (nI 1)) 5 (fun v104 => [(4, .int v104), (5, .int v68), (0, .ref (gA G (β + 0))), (1, .int x1), (2, .int x2), (3, .int x3)]) hx hb dX7_bestHold_104 hl rfl (by decide) (by decide) h (fun _ => rfl) (fun v104 h ls hl => ?_)
          refine lv_goto (tgt := 43) hx hb dX7_bestHold_107 (by decide) ?_
          exact hih43 x1 x2 x3 v104 S68 _ _ _ h hw (lv_sub hl [2, 3, 4, 5, 0] rfl)
        · refine lv_iload_n hx hb dX7_bestHold_80 rfl (lv_at hl 3 rfl) ?_
          refine lv_bipush (v := (-9)) hx hb dX7_bestHold_81 (by decide) ?_
          refine bi_eq (tgt := 95) hx hb dX7_bestHold_83 (by decide) h (fun h => ?_) (fun h => ?_)
          · exact k95 ih43 hih43 x1 x4 v68 S68 _ _ _ h hw (lv_sub hl [1, 2, 5, 0] rfl)
          · refine lv_iload hx hb dX7_bestHold_86 (lv_at hl 0 rfl) ?_
            refine lv_iload hx hb dX7_bestHold_88 (lv_at hl 5 rfl) ?_
            refine lv_isub hx hb dX7_bestHold_90 ?_
            refine lv_iload_n hx hb dX7_bestHold_91 rfl (lv_at hl 4 rfl) ?_
            refine bi_ge (tgt := 104) hx hb dX7_bestHold_92 (by decide) h (fun h => ?_) (fun h => ?_)
            · refine p_iinc (w := (nI 1)) 5 (fun v104 => [(4, .int v104), (5, .int v68), (0, .ref (gA G (β + 0))), (1, .int x1), (2, .int x2), (3, .int x3)]) hx hb dX7_bestHold_104 hl rfl (by decide) (by decide) h (fun _ => rfl) (fun v104 h ls hl => ?_)
              refine lv_goto (tgt := 43) hx hb dX7_bestHold_107 (by decide) ?_
              exact hih43 x1 x2 x3 v104 S68 _ _ _ h hw (lv_sub hl [2, 3, 4, 5, 0] rfl)
            · exact k95 ih43 hih43 x1 x4 v68 S68 _ _ _ h hw (lv_sub hl [1, 2, 5, 0] rfl)
  have k14 : ∀ (x1 : Int32) (t1 : Int32) (S : mM) (H : Heap) (locs : List Loc) (ls : Array Slot), pX7_bestHold_b14  x1 t1 S = some (r, S') → mW G s (wB M β 8 S) H locs → lv_has ls 6 [(0, .ref (gA G (β + 0))), (1, .int x1)] → W p l e { frames := 7, cells := 0, slots := 0, locals := 162 } s m args below meth c H locs 0 0 (mZ below G (some (.int r)) (wB M β 8 S') args s) (F0 m 14 ls [.int t1, .ref (gA G (β + 0))]) := by
    intro x1 t1 S H locs ls h hw hl
    unfold pX7_bestHold_b14 at h
    obtain ⟨v14, S14, h14, h⟩ := cw2_some h
    refine r_callV (As := [.int t1]) (rest := []) (st1 := [.int v14]) hx hb hml hown hts hE hw hl (mX7_refused l G (by omega) hR h14) (cwV 1 hts (zV gV_X7_146) rfl rfl rfl kdX7_refused ⟨Nat.le_of_ble_eq_true rfl, Nat.le_of_ble_eq_true rfl⟩) (by omega) (congrFun hR.1 _) rfl rfl rfl rfl (Nat.le_of_ble_eq_true rfl) dX7_bestHold_14 ⟨Nat.zero_le _, Nat.zero_le _⟩ rfl (fun H locs hw => ?_)
    refine b_eq (tgt := 22) hx hb dX7_bestHold_17 (by decide) h (fun h => ?_) (fun h => ?_)
    · refine lv_aload_n hx hb dX7_bestHold_22 rfl (lv_at hl 0 rfl) ?_
      refine r_get (v := .ref (gA G (β + 3))) hx hb hts hinX7 hown hE hw hn 0 (by decide) (congrFun hR.1 _) rfl 6 (by decide) (hts _ (wz_in qF_X7_16)) rfl dX7_bestHold_23 ?_
      refine lv_iload_n hx hb dX7_bestHold_26 rfl (lv_at hl 1 rfl) ?_
      obtain ⟨v27, h27, h⟩ := cr1_some h
      refine r_callS (As := [.ref (gA G (β + 3)), .int x1]) (rest := []) (st1 := [.int v27]) hx hb hml hown hts hE hw hl (mc_subR 3 1 (by decide) (mX7_isThere l G (by show β + 3 + 1 ≤ _; omega) hR.2.2.2.1 h27)) (va_cwS 2 hts (zS gS_X7_118) rfl rfl rfl kdX7_isThere ⟨Nat.le_of_ble_eq_true rfl, Nat.le_of_ble_eq_true rfl⟩) rfl rfl (Nat.le_of_ble_eq_true rfl) dX7_bestHold_27 ⟨Nat.zero_le _, Nat.zero_le _⟩ rfl (fun H locs hw => ?_)
      refine b_eq (tgt := 35) hx hb dX7_bestHold_30 (by decide) h (fun h => ?_) (fun h => ?_)
      · refine lv_bipush (v := (-9)) hx hb dX7_bestHold_35 (by decide) ?_
        refine lv_istore_n (lv' := [(2, .int (-9)), (0, .ref (gA G (β + 0))), (1, .int x1)]) hx hb dX7_bestHold_37 rfl hl (by decide) rfl (fun ls hl => ?_)
        refine lv_iconst (v := (nI 0)) hx hb dX7_bestHold_38 (by decide) ?_
        refine lv_istore_n (lv' := [(3, .int (nI 0)), (2, .int (-9)), (0, .ref (gA G (β + 0))), (1, .int x1)]) hx hb dX7_bestHold_39 rfl hl (by decide) rfl (fun ls hl => ?_)
        refine lv_iconst (v := (nI 0)) hx hb dX7_bestHold_40 (by decide) ?_
        refine lv_istore (lv' := [(4, .int (nI 0)), (3, .int (nI 0)), (2, .int (-9)), (0, .ref (gA G (β + 0))), (1, .int x1)]) hx hb dX7_bestHold_41 hl (by decide) rfl (fun ls hl => ?_)
        exact k43 fuel x1 (-9) (nI 0) (nI 0) S14 _ _ _ h hw (lv_sub hl [3, 4, 2, 1, 0] rfl)
      · refine lv_iconst (v := (nI 0)) hx hb dX7_bestHold_33 (by decide) ?_
        exact e_iw hx hb hr hlocks hw dX7_bestHold_34 h
    · refine lv_iconst (v := (nI 0)) hx hb dX7_bestHold_20 (by decide) ?_
      exact e_iw hx hb hr hlocks hw dX7_bestHold_21 h
  unfold pX7_bestHold at h
  refine lv_aload_n hx hb dX7_bestHold_0 rfl (lv_at hl 0 rfl) ?_
  refine lv_aload_n hx hb dX7_bestHold_1 rfl (lv_at hl 0 rfl) ?_
  refine lv_iload_n hx hb dX7_bestHold_2 rfl (lv_at hl 1 rfl) ?_
  obtain ⟨v3, h3, h⟩ := cr1_some h
  refine r_callV (As := [.int a1]) (rest := [.ref (gA G (β + 0))]) (st1 := [.int v3, .ref (gA G (β + 0))]) hx hb hml hown hts hE hw hl (mX7_isConvoy l G (by omega) hR h3) (cwV 1 hts (zV gV_X7_218) rfl rfl rfl kdX7_isConvoy ⟨Nat.le_of_ble_eq_true rfl, Nat.le_of_ble_eq_true rfl⟩) (by omega) (congrFun hR.1 _) rfl rfl rfl rfl (Nat.le_of_ble_eq_true rfl) dX7_bestHold_3 ⟨Nat.zero_le _, Nat.zero_le _⟩ rfl (fun H locs hw => ?_)
  refine b_eq (tgt := 13) hx hb dX7_bestHold_6 (by decide) h (fun h => ?_) (fun h => ?_)
  · refine lv_iconst (v := (nI 1)) hx hb dX7_bestHold_13 (by decide) ?_
    exact k14  a1 (nI 1) S _ _ _ h hw (lv_sub hl [0, 1] rfl)
  · refine lv_iconst (v := (nI 0)) hx hb dX7_bestHold_9 (by decide) ?_
    refine lv_goto (tgt := 14) hx hb dX7_bestHold_10 (by decide) ?_
    exact k14  a1 (nI 0) S _ _ _ h hw (lv_sub hl [0, 1] rfl)

set_option maxHeartbeats 4000000 in
set_option maxRecDepth 100000 in
theorem mX7_allArrive (l : Launch) (G : mG) {β : Nat} {M S S' : mM} {r : Int32} (hn : β + 8 ≤ gN G) (hR : isMod G β) (h : pX7_allArrive S = some (r, S')) : MC l G yX7_allArrive zzX7_allArrive 6 140 [.ref (gA G (β + 0))] (wB M β 8 S) (wB M β 8 S') (some (.int r)) := by
  refine mc_of (cc := cX7_allArrive) (maxL := 2) (ret := (some .boolean)) (by decide) rfl (Nat.le_of_ble_eq_true rfl) ?_
  intro p e s m args below meth c H ls hx hb hr hts hown hml hlocks hE hw hl
  have hl : lv_has ls 2 [(0, .ref (gA G (β + 0)))] := hl
  have hinX7 : ∀ w ∈ wsX70, w ∈ zzX7_allArrive := fun w h9 => wz_in (zinX7 w h9)
  have k2 : ∀ (k : Nat), ∀ (x1 : Int32) (S : mM) (H : Heap) (locs : List Loc) (ls : Array Slot), pX7_allArrive_l2  k x1 S = some (r, S') → mW G s (wB M β 8 S) H locs → lv_has ls 2 [(0, .ref (gA G (β + 0))), (1, .int x1)] → W p l e { frames := 6, cells := 0, slots := 0, locals := 140 } s m args below meth c H locs 0 0 (mZ below G (some (.int r)) (wB M β 8 S') args s) (F0 m 2 ls []) := by
    intro k
    induction k with
    | zero => intro x1 S H locs ls h; cases h
    | succ k hih2 =>
      intro x1 S H locs ls h hw hl
      obtain ⟨ih2, hk2⟩ : ∃ f, f = pX7_allArrive_l2  k := ⟨_, rfl⟩
      replace h : pX7_allArrive_lb2  (pX7_allArrive_l2  k) x1 S = some (r, S') := h
      rw [← hk2] at h hih2
      clear hk2
      unfold pX7_allArrive_lb2 at h
      refine lv_iload_n hx hb dX7_allArrive_2 rfl (lv_at hl 1 rfl) ?_
      refine lv_sipush (v := (nI 300)) hx hb dX7_allArrive_3 (by decide) ?_
      refine bi_gt (tgt := 43) hx hb dX7_allArrive_6 (by decide) h (fun h => ?_) (fun h => ?_)
      · refine lv_iconst (v := (nI 0)) hx hb dX7_allArrive_43 (by decide) ?_
        exact e_zw hx hb hr hlocks hw dX7_allArrive_44 h
      · refine lv_aload_n hx hb dX7_allArrive_9 rfl (lv_at hl 0 rfl) ?_
        refine r_get (v := .ref (gA G (β + 4))) hx hb hts hinX7 hown hE hw hn 0 (by decide) (congrFun hR.1 _) rfl 7 (by decide) (hts _ (wz_in qF_X7_19)) rfl dX7_allArrive_10 ?_
        refine lv_iconst (v := (nI 2)) hx hb dX7_allArrive_13 (by decide) ?_
        obtain ⟨v14, h14, h⟩ := cr1_some h
        refine r_callS (As := [.ref (gA G (β + 4)), .int (nI 2)]) (rest := []) (st1 := [.int v14]) hx hb hml hown hts hE hw hl (mc_subR 4 1 (by decide) (mX7_countAt l G (by show β + 4 + 1 ≤ _; omega) hR.2.2.2.2.1 h14)) (va_cwS 2 hts (zS gS_X7_130) rfl rfl rfl kdX7_countAt ⟨Nat.le_of_ble_eq_true rfl, Nat.le_of_ble_eq_true rfl⟩) rfl rfl (Nat.le_of_ble_eq_true rfl) dX7_allArrive_14 ⟨Nat.zero_le _, Nat.zero_le _⟩ rfl (fun H locs hw => ?_)
        refine lv_aload_n hx hb dX7_allArrive_17 rfl (lv_at hl 0 rfl) ?_
        refine r_get (v := .ref (gA G (β + 4))) hx hb hts hinX7 hown hE hw hn 0 (by decide) (congrFun hR.1 _) rfl 7 (by decide) (hts _ (wz_in qF_X7_19)) rfl dX7_allArrive_18 ?_
        refine lv_bipush (v := (nI 6)) hx hb dX7_allArrive_21 (by decide) ?_
        refine p_iald hx hb hE hw hn 4 (by decide) (congrFun hR.2.2.2.2.1) dX7_allArrive_23 h (fun v23 h => ?_)
        refine bi_ne (tgt := 29) hx hb dX7_allArrive_24 (by decide) h (fun h => ?_) (fun h => ?_)
        · refine lv_aload_n hx hb dX7_allArrive_29 rfl (lv_at hl 0 rfl) ?_
          refine lv_aload_n hx hb dX7_allArrive_30 rfl (lv_at hl 0 rfl) ?_
          refine r_get (v := .ref (gA G (β + 4))) hx hb hts hinX7 hown hE hw hn 0 (by decide) (congrFun hR.1 _) rfl 7 (by decide) (hts _ (wz_in qF_X7_19)) rfl dX7_allArrive_31 ?_
          obtain ⟨S34, h34, h⟩ := cr1_some h
          refine r_callV (As := [.ref (gA G (β + 4))]) (rest := []) (st1 := []) hx hb hml hown hts hE hw hl (mX7_goHour l G (by omega) hR (by decide) hR.2.2.2.2.1 h34) (cwV 1 hts (zV gV_X7_133) rfl rfl rfl kdX7_goHour ⟨Nat.le_of_ble_eq_true rfl, Nat.le_of_ble_eq_true rfl⟩) (by omega) (congrFun hR.1 _) rfl rfl rfl rfl (Nat.le_of_ble_eq_true rfl) dX7_allArrive_34 ⟨Nat.zero_le _, Nat.zero_le _⟩ rfl (fun H locs hw => ?_)
          refine p_iinc (w := (nI 1)) 1 (fun v37 => [(1, .int v37), (0, .ref (gA G (β + 0)))]) hx hb dX7_allArrive_37 hl rfl (by decide) (by decide) h (fun _ => rfl) (fun v37 h ls hl => ?_)
          refine lv_goto (tgt := 2) hx hb dX7_allArrive_40 (by decide) ?_
          exact hih2 v37 S34 _ _ _ h hw (lv_sub hl [1, 0] rfl)
        · refine lv_iconst (v := (nI 1)) hx hb dX7_allArrive_27 (by decide) ?_
          exact e_zw hx hb hr hlocks hw dX7_allArrive_28 h
  unfold pX7_allArrive at h
  refine lv_iconst (v := (nI 0)) hx hb dX7_allArrive_0 (by decide) ?_
  refine lv_istore_n (lv' := [(1, .int (nI 0)), (0, .ref (gA G (β + 0)))]) hx hb dX7_allArrive_1 rfl hl (by decide) rfl (fun ls hl => ?_)
  exact k2 fuel (nI 0) S _ _ _ h hw (lv_sub hl [1, 0] rfl)

set_option maxHeartbeats 4000000 in
set_option maxRecDepth 100000 in
theorem mX7_lacks (l : Launch) (G : mG) {β : Nat} {M S S' : mM} {a1 : Int32} {r : Int32} (hn : β + 8 ≤ gN G) (hR : isMod G β) (h : pX7_lacks a1 S = some (r, S')) : MC l G yX7_lacks zzX7_lacks 7 161 [.ref (gA G (β + 0)), .int a1] (wB M β 8 S) (wB M β 8 S') (some (.int r)) := by
  refine mc_of (cc := cX7_lacks) (maxL := 3) (ret := (some .int)) (by decide) rfl (Nat.le_of_ble_eq_true rfl) ?_
  intro p e s m args below meth c H ls hx hb hr hts hown hml hlocks hE hw hl
  have hl : lv_has ls 3 [(0, .ref (gA G (β + 0))), (1, .int a1)] := hl
  have hinX7 : ∀ w ∈ wsX70, w ∈ zzX7_lacks := fun w h9 => wz_in (zinX7 w h9)
  have k24 : ∀ (k : Nat), ∀ (x1 : Int32) (x2 : Int32) (S : mM) (H : Heap) (locs : List Loc) (ls : Array Slot), pX7_lacks_l24  k x1 x2 S = some (r, S') → mW G s (wB M β 8 S) H locs → lv_has ls 3 [(0, .ref (gA G (β + 0))), (1, .int x1), (2, .int x2)] → W p l e { frames := 7, cells := 0, slots := 0, locals := 161 } s m args below meth c H locs 0 0 (mZ below G (some (.int r)) (wB M β 8 S') args s) (F0 m 24 ls []) := by
    intro k
    induction k with
    | zero => intro x1 x2 S H locs ls h; cases h
    | succ k hih24 =>
      intro x1 x2 S H locs ls h hw hl
      obtain ⟨ih24, hk24⟩ : ∃ f, f = pX7_lacks_l24  k := ⟨_, rfl⟩
      replace h : pX7_lacks_lb24  (pX7_lacks_l24  k) x1 x2 S = some (r, S') := h
      rw [← hk24] at h hih24
      clear hk24
      unfold pX7_lacks_lb24 at h
      refine lv_iload_n hx hb dX7_lacks_24 rfl (lv_at hl 2 rfl) ?_
      refine lv_bipush (v := (nI 40)) hx hb dX7_lacks_25 (by decide) ?_
      refine bi_gt (tgt := 63) hx hb dX7_lacks_27 (by decide) h (fun h => ?_) (fun h => ?_)
      · refine lv_bipush (v := (-9)) hx hb dX7_lacks_63 (by decide) ?_
        exact e_iw hx hb hr hlocks hw dX7_lacks_65 h
      · refine lv_aload_n hx hb dX7_lacks_30 rfl (lv_at hl 0 rfl) ?_
        obtain ⟨S31, h31, h⟩ := cr1_some h
        refine r_callV (As := []) (rest := []) (st1 := []) hx hb hml hown hts hE hw hl (mX7_begin l G (by omega) hR h31) (cwV 0 hts (zV gV_X7_264) rfl rfl rfl kdX7_begin ⟨Nat.le_of_ble_eq_true rfl, Nat.le_of_ble_eq_true rfl⟩) (by omega) (congrFun hR.1 _) rfl rfl rfl rfl (Nat.le_of_ble_eq_true rfl) dX7_lacks_31 ⟨Nat.zero_le _, Nat.zero_le _⟩ rfl (fun H locs hw => ?_)
        refine lv_aload_n hx hb dX7_lacks_34 rfl (lv_at hl 0 rfl) ?_
        refine r_get (v := .ref (gA G (β + 4))) hx hb hts hinX7 hown hE hw hn 0 (by decide) (congrFun hR.1 _) rfl 7 (by decide) (hts _ (wz_in qF_X7_19)) rfl dX7_lacks_35 ?_
        refine lv_iload_n hx hb dX7_lacks_38 rfl (lv_at hl 1 rfl) ?_
        refine lv_iconst (v := (nI 1)) hx hb dX7_lacks_39 (by decide) ?_
        obtain ⟨v40, h40, h⟩ := cr1_some h
        refine r_callS (As := [.int x1, .int (nI 1)]) (rest := [.ref (gA G (β + 4))]) (st1 := [.int v40, .ref (gA G (β + 4))]) hx hb hml hown hts hE hw hl (mX7_depotAt l G (M := (wB M β 8 S31)) h40) (va_cwS 2 hts (zS gS_X7_61) rfl rfl rfl kdX7_depotAt ⟨Nat.le_of_ble_eq_true rfl, Nat.le_of_ble_eq_true rfl⟩) rfl rfl (Nat.le_of_ble_eq_true rfl) dX7_lacks_40 ⟨Nat.zero_le _, Nat.zero_le _⟩ rfl (fun H locs hw => ?_)
        refine lv_dup2_11 hx hb dX7_lacks_43 rfl rfl ?_
        refine p_iald hx hb hE hw hn 4 (by decide) (congrFun hR.2.2.2.2.1) dX7_lacks_44 h (fun v44 h => ?_)
        refine lv_iload_n hx hb dX7_lacks_45 rfl (lv_at hl 2 rfl) ?_
        refine lv_iadd hx hb dX7_lacks_46 ?_
        refine p_iast hx hb hE hw hn 4 (by decide) (congrFun hR.2.2.2.2.1) dX7_lacks_47 h (fun S47 h H locs hw => ?_)
        refine lv_aload_n hx hb dX7_lacks_48 rfl (lv_at hl 0 rfl) ?_
        obtain ⟨v49, S49, h49, h⟩ := cw2_some h
        refine r_callV (As := []) (rest := []) (st1 := [.int v49]) hx hb hml hown hts hE hw hl (mX7_allArrive l G (by omega) hR h49) (cwV 0 hts (zV gV_X7_270) rfl rfl rfl kdX7_allArrive ⟨Nat.le_of_ble_eq_true rfl, Nat.le_of_ble_eq_true rfl⟩) (by omega) (congrFun hR.1 _) rfl rfl rfl rfl (Nat.le_of_ble_eq_true rfl) dX7_lacks_49 ⟨Nat.zero_le _, Nat.zero_le _⟩ rfl (fun H locs hw => ?_)
        refine b_eq (tgt := 57) hx hb dX7_lacks_52 (by decide) h (fun h => ?_) (fun h => ?_)
        · refine p_iinc (w := (nI 1)) 2 (fun v57 => [(2, .int v57), (0, .ref (gA G (β + 0))), (1, .int x1)]) hx hb dX7_lacks_57 hl rfl (by decide) (by decide) h (fun _ => rfl) (fun v57 h ls hl => ?_)
          refine lv_goto (tgt := 24) hx hb dX7_lacks_60 (by decide) ?_
          exact hih24 x1 v57 S49 _ _ _ h hw (lv_sub hl [1, 2, 0] rfl)
        · refine lv_iload_n hx hb dX7_lacks_55 rfl (lv_at hl 2 rfl) ?_
          exact e_iw hx hb hr hlocks hw dX7_lacks_56 h
  have k14 : ∀ (x1 : Int32) (t1 : Int32) (S : mM) (H : Heap) (locs : List Loc) (ls : Array Slot), pX7_lacks_b14  x1 t1 S = some (r, S') → mW G s (wB M β 8 S) H locs → lv_has ls 3 [(0, .ref (gA G (β + 0))), (1, .int x1)] → W p l e { frames := 7, cells := 0, slots := 0, locals := 161 } s m args below meth c H locs 0 0 (mZ below G (some (.int r)) (wB M β 8 S') args s) (F0 m 14 ls [.int t1, .ref (gA G (β + 0))]) := by
    intro x1 t1 S H locs ls h hw hl
    unfold pX7_lacks_b14 at h
    obtain ⟨v14, S14, h14, h⟩ := cw2_some h
    refine r_callV (As := [.int t1]) (rest := []) (st1 := [.int v14]) hx hb hml hown hts hE hw hl (mX7_refused l G (by omega) hR h14) (cwV 1 hts (zV gV_X7_146) rfl rfl rfl kdX7_refused ⟨Nat.le_of_ble_eq_true rfl, Nat.le_of_ble_eq_true rfl⟩) (by omega) (congrFun hR.1 _) rfl rfl rfl rfl (Nat.le_of_ble_eq_true rfl) dX7_lacks_14 ⟨Nat.zero_le _, Nat.zero_le _⟩ rfl (fun H locs hw => ?_)
    refine b_eq (tgt := 22) hx hb dX7_lacks_17 (by decide) h (fun h => ?_) (fun h => ?_)
    · refine lv_iconst (v := (nI 0)) hx hb dX7_lacks_22 (by decide) ?_
      refine lv_istore_n (lv' := [(2, .int (nI 0)), (0, .ref (gA G (β + 0))), (1, .int x1)]) hx hb dX7_lacks_23 rfl hl (by decide) rfl (fun ls hl => ?_)
      exact k24 fuel x1 (nI 0) S14 _ _ _ h hw (lv_sub hl [1, 2, 0] rfl)
    · refine lv_iconst (v := (nI 0)) hx hb dX7_lacks_20 (by decide) ?_
      exact e_iw hx hb hr hlocks hw dX7_lacks_21 h
  unfold pX7_lacks at h
  refine lv_aload_n hx hb dX7_lacks_0 rfl (lv_at hl 0 rfl) ?_
  refine lv_aload_n hx hb dX7_lacks_1 rfl (lv_at hl 0 rfl) ?_
  refine lv_iload_n hx hb dX7_lacks_2 rfl (lv_at hl 1 rfl) ?_
  obtain ⟨v3, h3, h⟩ := cr1_some h
  refine r_callV (As := [.int a1]) (rest := [.ref (gA G (β + 0))]) (st1 := [.int v3, .ref (gA G (β + 0))]) hx hb hml hown hts hE hw hl (mX7_isDepot l G (by omega) hR h3) (cwV 1 hts (zV gV_X7_236) rfl rfl rfl kdX7_isDepot ⟨Nat.le_of_ble_eq_true rfl, Nat.le_of_ble_eq_true rfl⟩) (by omega) (congrFun hR.1 _) rfl rfl rfl rfl (Nat.le_of_ble_eq_true rfl) dX7_lacks_3 ⟨Nat.zero_le _, Nat.zero_le _⟩ rfl (fun H locs hw => ?_)
  refine b_eq (tgt := 13) hx hb dX7_lacks_6 (by decide) h (fun h => ?_) (fun h => ?_)
  · refine lv_iconst (v := (nI 1)) hx hb dX7_lacks_13 (by decide) ?_
    exact k14  a1 (nI 1) S _ _ _ h hw (lv_sub hl [0, 1] rfl)
  · refine lv_iconst (v := (nI 0)) hx hb dX7_lacks_9 (by decide) ?_
    refine lv_goto (tgt := 14) hx hb dX7_lacks_10 (by decide) ?_
    exact k14  a1 (nI 0) S _ _ _ h hw (lv_sub hl [0, 1] rfl)
