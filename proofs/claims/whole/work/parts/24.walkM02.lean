/-! ===== walks, by program ===== -/
set_option maxHeartbeats 4000000 in
set_option maxRecDepth 100000 in
theorem mX7_goConvoy (l : Launch) (G : mG) {β : Nat} {M S S' : mM} {b1 : Nat} {a2 : Int32} (hn : β + 8 ≤ gN G) (hR : isMod G β) (h1 : b1 + 1 ≤ 8) (hs1 : gK G (β + b1) = aI G 250) (h : pX7_goConvoy b1 a2 S = some S') : MC l G yX7_goConvoy zzX7_goConvoy 4 93 [.ref (gA G (β + 0)), .ref (gA G (β + b1)), .int a2] (wB M β 8 S) (wB M β 8 S') none := by
  refine mc_of (cc := cX7_goConvoy) (maxL := 6) (ret := none) (by decide) rfl (Nat.le_of_ble_eq_true rfl) ?_
  intro p e s m args below meth c H ls hx hb hr hts hown hml hlocks hE hw hl
  have hl : lv_has ls 6 [(0, .ref (gA G (β + 0))), (1, .ref (gA G (β + b1))), (2, .int a2)] := hl
  have k85 : ∀ (ih36 : Int32 → Int32 → Int32 → mM → Option mM) (_ : ∀ (x2 : Int32) (x3 : Int32) (x4 : Int32) (S : mM) (H : Heap) (locs : List Loc) (ls : Array Slot), ih36 x2 x3 x4 S = some S' → mW G s (wB M β 8 S) H locs → lv_has ls 6 [(0, .ref (gA G (β + 0))), (1, .ref (gA G (β + b1))), (2, .int x2), (3, .int x3), (4, .int x4)] → W p l e { frames := 4, cells := 0, slots := 0, locals := 93 } s m args below meth c H locs 0 0 (mZ below G none (wB M β 8 S') args s) (F0 m 36 ls [])), ∀ (x2 : Int32) (x3 : Int32) (x4 : Int32) (S : mM) (H : Heap) (locs : List Loc) (ls : Array Slot), pX7_goConvoy_b85 b1 ih36 x2 x3 x4 S = some S' → mW G s (wB M β 8 S) H locs → lv_has ls 6 [(0, .ref (gA G (β + 0))), (1, .ref (gA G (β + b1))), (2, .int x2), (3, .int x3), (4, .int x4)] → W p l e { frames := 4, cells := 0, slots := 0, locals := 93 } s m args below meth c H locs 0 0 (mZ below G none (wB M β 8 S') args s) (F0 m 85 ls []) := by
    intro ih36 hih36 x2 x3 x4 S H locs ls h hw hl
    unfold pX7_goConvoy_b85 at h
    refine lv_aload_n hx hb dX7_goConvoy_85 rfl (lv_at hl 0 rfl) ?_
    refine lv_aload_n hx hb dX7_goConvoy_86 rfl (lv_at hl 1 rfl) ?_
    refine lv_iload_n hx hb dX7_goConvoy_87 rfl (lv_at hl 2 rfl) ?_
    obtain ⟨v88, S88, h88, h⟩ := cw2_some h
    refine r_callV (As := [.ref (gA G (β + b1)), .int x2]) (rest := []) (st1 := [.int v88]) hx hb hml hown hts hE hw hl (mX7_sheds l G (by omega) hR (by omega) hs1 h88) (cwV 2 hts (zV gV_X7_112) rfl rfl rfl kdX7_sheds ⟨Nat.le_of_ble_eq_true rfl, Nat.le_of_ble_eq_true rfl⟩) (by omega) (congrFun hR.1 _) rfl rfl rfl rfl (Nat.le_of_ble_eq_true rfl) dX7_goConvoy_88 ⟨Nat.zero_le _, Nat.zero_le _⟩ rfl (fun H locs hw => ?_)
    refine b_ne (tgt := 106) hx hb dX7_goConvoy_91 (by decide) h (fun h => ?_) (fun h => ?_)
    · refine lv_aload_n hx hb dX7_goConvoy_106 rfl (lv_at hl 1 rfl) ?_
      refine lv_iload_n hx hb dX7_goConvoy_107 rfl (lv_at hl 2 rfl) ?_
      obtain ⟨T108, h108, h⟩ := cvs_some h
      refine r_callS (As := [.ref (gA G (β + b1)), .int x2]) (rest := []) (st1 := []) hx hb hml hown hts hE hw hl (mc_sub b1 1 (by omega) (mX7_burn l G (by show β + b1 + 1 ≤ _; omega) hs1 h108)) (va_cwS 2 hts (zS gS_X7_115) rfl rfl rfl kdX7_burn ⟨Nat.le_of_ble_eq_true rfl, Nat.le_of_ble_eq_true rfl⟩) rfl rfl (Nat.le_of_ble_eq_true rfl) dX7_goConvoy_108 ⟨Nat.zero_le _, Nat.zero_le _⟩ rfl (fun H locs hw => ?_)
      generalize wB S88 b1 1 T108 = S108 at h hw
      refine lv_aload_n hx hb dX7_goConvoy_111 rfl (lv_at hl 1 rfl) ?_
      refine lv_iload_n hx hb dX7_goConvoy_112 rfl (lv_at hl 2 rfl) ?_
      obtain ⟨v113, h113, h⟩ := cr1_some h
      refine r_callS (As := [.ref (gA G (β + b1)), .int x2]) (rest := []) (st1 := [.int v113]) hx hb hml hown hts hE hw hl (mc_subR b1 1 (by omega) (mX7_isThere l G (by show β + b1 + 1 ≤ _; omega) hs1 h113)) (va_cwS 2 hts (zS gS_X7_118) rfl rfl rfl kdX7_isThere ⟨Nat.le_of_ble_eq_true rfl, Nat.le_of_ble_eq_true rfl⟩) rfl rfl (Nat.le_of_ble_eq_true rfl) dX7_goConvoy_113 ⟨Nat.zero_le _, Nat.zero_le _⟩ rfl (fun H locs hw => ?_)
      refine b_eq (tgt := 125) hx hb dX7_goConvoy_116 (by decide) h (fun h => ?_) (fun h => ?_)
      · refine lv_aload_n hx hb dX7_goConvoy_125 rfl (lv_at hl 1 rfl) ?_
        refine lv_iload_n hx hb dX7_goConvoy_126 rfl (lv_at hl 2 rfl) ?_
        obtain ⟨T127, h127, h⟩ := cvs_some h
        refine r_callS (As := [.ref (gA G (β + b1)), .int x2]) (rest := []) (st1 := []) hx hb hml hown hts hE hw hl (mc_sub b1 1 (by omega) (mX7_rescue l G (by show β + b1 + 1 ≤ _; omega) hs1 h127)) (va_cwS 2 hts (zS gS_X7_124) rfl rfl rfl kdX7_rescue ⟨Nat.le_of_ble_eq_true rfl, Nat.le_of_ble_eq_true rfl⟩) rfl rfl (Nat.le_of_ble_eq_true rfl) dX7_goConvoy_127 ⟨Nat.zero_le _, Nat.zero_le _⟩ rfl (fun H locs hw => ?_)
        generalize wB S108 b1 1 T127 = S127 at h hw
        refine p_iinc (w := (nI 1)) 4 (fun v130 => [(4, .int v130), (0, .ref (gA G (β + 0))), (1, .ref (gA G (β + b1))), (2, .int x2), (3, .int x3)]) hx hb dX7_goConvoy_130 hl rfl (by decide) (by decide) h (fun _ => rfl) (fun v130 h ls hl => ?_)
        refine lv_goto (tgt := 36) hx hb dX7_goConvoy_133 (by decide) ?_
        exact hih36 x2 x3 v130 S127 _ _ _ h hw (lv_sub hl [1, 2, 3, 4, 0] rfl)
      · refine lv_aload_n hx hb dX7_goConvoy_119 rfl (lv_at hl 1 rfl) ?_
        refine lv_iload_n hx hb dX7_goConvoy_120 rfl (lv_at hl 2 rfl) ?_
        obtain ⟨T121, h121, h⟩ := cvs_some h
        refine r_callS (As := [.ref (gA G (β + b1)), .int x2]) (rest := []) (st1 := []) hx hb hml hown hts hE hw hl (mc_sub b1 1 (by omega) (mX7_arrive l G (by show β + b1 + 1 ≤ _; omega) hs1 h121)) (va_cwS 2 hts (zS gS_X7_121) rfl rfl rfl kdX7_arrive ⟨Nat.le_of_ble_eq_true rfl, Nat.le_of_ble_eq_true rfl⟩) rfl rfl (Nat.le_of_ble_eq_true rfl) dX7_goConvoy_121 ⟨Nat.zero_le _, Nat.zero_le _⟩ rfl (fun H locs hw => ?_)
        generalize wB S108 b1 1 T121 = S121 at h hw
        exact e_vw hx hb hr hlocks hw dX7_goConvoy_124 h
    · refine lv_aload_n hx hb dX7_goConvoy_94 rfl (lv_at hl 1 rfl) ?_
      refine lv_iload_n hx hb dX7_goConvoy_95 rfl (lv_at hl 2 rfl) ?_
      refine lv_iconst (v := (nI 4)) hx hb dX7_goConvoy_96 (by decide) ?_
      obtain ⟨v97, h97, h⟩ := cr1_some h
      refine r_callS (As := [.int x2, .int (nI 4)]) (rest := [.ref (gA G (β + b1))]) (st1 := [.int v97, .ref (gA G (β + b1))]) hx hb hml hown hts hE hw hl (mX7_convoyAt l G (M := (wB M β 8 S88)) h97) (va_cwS 2 hts (zS gS_X7_51) rfl rfl rfl kdX7_convoyAt ⟨Nat.le_of_ble_eq_true rfl, Nat.le_of_ble_eq_true rfl⟩) rfl rfl (Nat.le_of_ble_eq_true rfl) dX7_goConvoy_97 ⟨Nat.zero_le _, Nat.zero_le _⟩ rfl (fun H locs hw => ?_)
      refine lv_dup2_11 hx hb dX7_goConvoy_100 rfl rfl ?_
      refine p_iald hx hb hE hw hn b1 (by omega) (congrFun hs1) dX7_goConvoy_101 h (fun v101 h => ?_)
      refine lv_iconst (v := (nI 1)) hx hb dX7_goConvoy_102 (by decide) ?_
      refine lv_iadd hx hb dX7_goConvoy_103 ?_
      refine p_iast hx hb hE hw hn b1 (by omega) (congrFun hs1) dX7_goConvoy_104 h (fun S104 h H locs hw => ?_)
      exact e_vw hx hb hr hlocks hw dX7_goConvoy_105 h
  have k36 : ∀ (k : Nat), ∀ (x2 : Int32) (x3 : Int32) (x4 : Int32) (S : mM) (H : Heap) (locs : List Loc) (ls : Array Slot), pX7_goConvoy_l36 b1 k x2 x3 x4 S = some S' → mW G s (wB M β 8 S) H locs → lv_has ls 6 [(0, .ref (gA G (β + 0))), (1, .ref (gA G (β + b1))), (2, .int x2), (3, .int x3), (4, .int x4)] → W p l e { frames := 4, cells := 0, slots := 0, locals := 93 } s m args below meth c H locs 0 0 (mZ below G none (wB M β 8 S') args s) (F0 m 36 ls []) := by
    intro k
    induction k with
    | zero => intro x2 x3 x4 S H locs ls h; cases h
    | succ k hih36 =>
      intro x2 x3 x4 S H locs ls h hw hl
      obtain ⟨ih36, hk36⟩ : ∃ f, f = pX7_goConvoy_l36 b1 k := ⟨_, rfl⟩
      replace h : pX7_goConvoy_lb36 b1 (pX7_goConvoy_l36 b1 k) x2 x3 x4 S = some S' := h
      rw [← hk36] at h hih36
      clear hk36
      unfold pX7_goConvoy_lb36 at h
      refine lv_iload hx hb dX7_goConvoy_36 (lv_at hl 4 rfl) ?_
      refine lv_iload_n hx hb dX7_goConvoy_38 rfl (lv_at hl 3 rfl) ?_
      refine bi_ge (tgt := 136) hx hb dX7_goConvoy_39 (by decide) h (fun h => ?_) (fun h => ?_)
      · exact e_vw hx hb hr hlocks hw dX7_goConvoy_136 h
      · refine lv_aload_n hx hb dX7_goConvoy_42 rfl (lv_at hl 1 rfl) ?_
        refine lv_aload_n hx hb dX7_goConvoy_43 rfl (lv_at hl 1 rfl) ?_
        refine lv_iload_n hx hb dX7_goConvoy_44 rfl (lv_at hl 2 rfl) ?_
        refine lv_iconst (v := (nI 0)) hx hb dX7_goConvoy_45 (by decide) ?_
        obtain ⟨v46, h46, h⟩ := cr1_some h
        refine r_callS (As := [.int x2, .int (nI 0)]) (rest := [.ref (gA G (β + b1)), .ref (gA G (β + b1))]) (st1 := [.int v46, .ref (gA G (β + b1)), .ref (gA G (β + b1))]) hx hb hml hown hts hE hw hl (mX7_convoyAt l G (M := (wB M β 8 S)) h46) (va_cwS 2 hts (zS gS_X7_51) rfl rfl rfl kdX7_convoyAt ⟨Nat.le_of_ble_eq_true rfl, Nat.le_of_ble_eq_true rfl⟩) rfl rfl (Nat.le_of_ble_eq_true rfl) dX7_goConvoy_46 ⟨Nat.zero_le _, Nat.zero_le _⟩ rfl (fun H locs hw => ?_)
        refine p_iald hx hb hE hw hn b1 (by omega) (congrFun hs1) dX7_goConvoy_49 h (fun v49 h => ?_)
        refine lv_iconst (v := (nI 1)) hx hb dX7_goConvoy_50 (by decide) ?_
        refine lv_iadd hx hb dX7_goConvoy_51 ?_
        obtain ⟨v52, h52, h⟩ := cr1_some h
        refine r_callS (As := [.ref (gA G (β + b1)), .int (v49 + (nI 1))]) (rest := []) (st1 := [.int v52]) hx hb hml hown hts hE hw hl (mc_subR b1 1 (by omega) (mX7_gateOn l G (by show β + b1 + 1 ≤ _; omega) hs1 h52)) (va_cwS 2 hts (zS gS_X7_106) rfl rfl rfl kdX7_gateOn ⟨Nat.le_of_ble_eq_true rfl, Nat.le_of_ble_eq_true rfl⟩) rfl rfl (Nat.le_of_ble_eq_true rfl) dX7_goConvoy_52 ⟨Nat.zero_le _, Nat.zero_le _⟩ rfl (fun H locs hw => ?_)
        refine lv_istore (lv' := [(5, .int v52), (0, .ref (gA G (β + 0))), (1, .ref (gA G (β + b1))), (2, .int x2), (3, .int x3), (4, .int x4)]) hx hb dX7_goConvoy_55 hl (by decide) rfl (fun ls hl => ?_)
        refine lv_iload hx hb dX7_goConvoy_57 (lv_at hl 0 rfl) ?_
        refine lv_bipush (v := (-9)) hx hb dX7_goConvoy_59 (by decide) ?_
        refine bi_eq (tgt := 85) hx hb dX7_goConvoy_61 (by decide) h (fun h => ?_) (fun h => ?_)
        · exact k85 ih36 hih36 x2 x3 x4 S _ _ _ h hw (lv_sub hl [1, 2, 3, 4, 5] rfl)
        · refine lv_aload_n hx hb dX7_goConvoy_64 rfl (lv_at hl 2 rfl) ?_
          refine lv_iload hx hb dX7_goConvoy_65 (lv_at hl 0 rfl) ?_
          obtain ⟨v67, h67, h⟩ := cr1_some h
          refine r_callS (As := [.ref (gA G (β + b1)), .int v52]) (rest := []) (st1 := [.int v67]) hx hb hml hown hts hE hw hl (mc_subR b1 1 (by omega) (mX7_isClosed l G (by show β + b1 + 1 ≤ _; omega) hs1 h67)) (va_cwS 2 hts (zS gS_X7_109) rfl rfl rfl kdX7_isClosed ⟨Nat.le_of_ble_eq_true rfl, Nat.le_of_ble_eq_true rfl⟩) rfl rfl (Nat.le_of_ble_eq_true rfl) dX7_goConvoy_67 ⟨Nat.zero_le _, Nat.zero_le _⟩ rfl (fun H locs hw => ?_)
          refine b_eq (tgt := 85) hx hb dX7_goConvoy_70 (by decide) h (fun h => ?_) (fun h => ?_)
          · exact k85 ih36 hih36 x2 x3 x4 S _ _ _ h hw (lv_sub hl [1, 2, 3, 4, 5] rfl)
          · refine lv_aload_n hx hb dX7_goConvoy_73 rfl (lv_at hl 2 rfl) ?_
            refine lv_iload_n hx hb dX7_goConvoy_74 rfl (lv_at hl 3 rfl) ?_
            refine lv_iconst (v := (nI 3)) hx hb dX7_goConvoy_75 (by decide) ?_
            obtain ⟨v76, h76, h⟩ := cr1_some h
            refine r_callS (As := [.int x2, .int (nI 3)]) (rest := [.ref (gA G (β + b1))]) (st1 := [.int v76, .ref (gA G (β + b1))]) hx hb hml hown hts hE hw hl (mX7_convoyAt l G (M := (wB M β 8 S)) h76) (va_cwS 2 hts (zS gS_X7_51) rfl rfl rfl kdX7_convoyAt ⟨Nat.le_of_ble_eq_true rfl, Nat.le_of_ble_eq_true rfl⟩) rfl rfl (Nat.le_of_ble_eq_true rfl) dX7_goConvoy_76 ⟨Nat.zero_le _, Nat.zero_le _⟩ rfl (fun H locs hw => ?_)
            refine lv_dup2_11 hx hb dX7_goConvoy_79 rfl rfl ?_
            refine p_iald hx hb hE hw hn b1 (by omega) (congrFun hs1) dX7_goConvoy_80 h (fun v80 h => ?_)
            refine lv_iconst (v := (nI 1)) hx hb dX7_goConvoy_81 (by decide) ?_
            refine lv_iadd hx hb dX7_goConvoy_82 ?_
            refine p_iast hx hb hE hw hn b1 (by omega) (congrFun hs1) dX7_goConvoy_83 h (fun S83 h H locs hw => ?_)
            exact e_vw hx hb hr hlocks hw dX7_goConvoy_84 h
  unfold pX7_goConvoy at h
  refine lv_aload_n hx hb dX7_goConvoy_0 rfl (lv_at hl 1 rfl) ?_
  refine lv_iload_n hx hb dX7_goConvoy_1 rfl (lv_at hl 2 rfl) ?_
  refine lv_iconst (v := (nI 2)) hx hb dX7_goConvoy_2 (by decide) ?_
  obtain ⟨v3, h3, h⟩ := cr1_some h
  refine r_callS (As := [.int a2, .int (nI 2)]) (rest := [.ref (gA G (β + b1))]) (st1 := [.int v3, .ref (gA G (β + b1))]) hx hb hml hown hts hE hw hl (mX7_convoyAt l G (M := (wB M β 8 S)) h3) (va_cwS 2 hts (zS gS_X7_51) rfl rfl rfl kdX7_convoyAt ⟨Nat.le_of_ble_eq_true rfl, Nat.le_of_ble_eq_true rfl⟩) rfl rfl (Nat.le_of_ble_eq_true rfl) dX7_goConvoy_3 ⟨Nat.zero_le _, Nat.zero_le _⟩ rfl (fun H locs hw => ?_)
  refine p_iald hx hb hE hw hn b1 (by omega) (congrFun hs1) dX7_goConvoy_6 h (fun v6 h => ?_)
  refine b_le (tgt := 22) hx hb dX7_goConvoy_7 (by decide) h (fun h => ?_) (fun h => ?_)
  · refine lv_aload_n hx hb dX7_goConvoy_22 rfl (lv_at hl 1 rfl) ?_
    refine lv_iload_n hx hb dX7_goConvoy_23 rfl (lv_at hl 2 rfl) ?_
    obtain ⟨T24, h24, h⟩ := cvs_some h
    refine r_callS (As := [.ref (gA G (β + b1)), .int a2]) (rest := []) (st1 := []) hx hb hml hown hts hE hw hl (mc_sub b1 1 (by omega) (mX7_fill l G (by show β + b1 + 1 ≤ _; omega) hs1 h24)) (va_cwS 2 hts (zS gS_X7_100) rfl rfl rfl kdX7_fill ⟨Nat.le_of_ble_eq_true rfl, Nat.le_of_ble_eq_true rfl⟩) rfl rfl (Nat.le_of_ble_eq_true rfl) dX7_goConvoy_24 ⟨Nat.zero_le _, Nat.zero_le _⟩ rfl (fun H locs hw => ?_)
    generalize wB S b1 1 T24 = S24 at h hw
    refine lv_aload_n hx hb dX7_goConvoy_27 rfl (lv_at hl 1 rfl) ?_
    refine lv_iload_n hx hb dX7_goConvoy_28 rfl (lv_at hl 2 rfl) ?_
    obtain ⟨v29, h29, h⟩ := cr1_some h
    refine r_callS (As := [.ref (gA G (β + b1)), .int a2]) (rest := []) (st1 := [.int v29]) hx hb hml hown hts hE hw hl (mc_subR b1 1 (by omega) (mX7_slowest l G (by show β + b1 + 1 ≤ _; omega) hs1 h29)) (va_cwS 2 hts (zS gS_X7_103) rfl rfl rfl kdX7_slowest ⟨Nat.le_of_ble_eq_true rfl, Nat.le_of_ble_eq_true rfl⟩) rfl rfl (Nat.le_of_ble_eq_true rfl) dX7_goConvoy_29 ⟨Nat.zero_le _, Nat.zero_le _⟩ rfl (fun H locs hw => ?_)
    refine lv_istore_n (lv' := [(3, .int v29), (0, .ref (gA G (β + 0))), (1, .ref (gA G (β + b1))), (2, .int a2)]) hx hb dX7_goConvoy_32 rfl hl (by decide) rfl (fun ls hl => ?_)
    refine lv_iconst (v := (nI 0)) hx hb dX7_goConvoy_33 (by decide) ?_
    refine lv_istore (lv' := [(4, .int (nI 0)), (3, .int v29), (0, .ref (gA G (β + 0))), (1, .ref (gA G (β + b1))), (2, .int a2)]) hx hb dX7_goConvoy_34 hl (by decide) rfl (fun ls hl => ?_)
    exact k36 fuel a2 v29 (nI 0) S24 _ _ _ h hw (lv_sub hl [2, 3, 4, 1, 0] rfl)
  · refine lv_aload_n hx hb dX7_goConvoy_10 rfl (lv_at hl 1 rfl) ?_
    refine lv_iload_n hx hb dX7_goConvoy_11 rfl (lv_at hl 2 rfl) ?_
    refine lv_iconst (v := (nI 2)) hx hb dX7_goConvoy_12 (by decide) ?_
    obtain ⟨v13, h13, h⟩ := cr1_some h
    refine r_callS (As := [.int a2, .int (nI 2)]) (rest := [.ref (gA G (β + b1))]) (st1 := [.int v13, .ref (gA G (β + b1))]) hx hb hml hown hts hE hw hl (mX7_convoyAt l G (M := (wB M β 8 S)) h13) (va_cwS 2 hts (zS gS_X7_51) rfl rfl rfl kdX7_convoyAt ⟨Nat.le_of_ble_eq_true rfl, Nat.le_of_ble_eq_true rfl⟩) rfl rfl (Nat.le_of_ble_eq_true rfl) dX7_goConvoy_13 ⟨Nat.zero_le _, Nat.zero_le _⟩ rfl (fun H locs hw => ?_)
    refine lv_dup2_11 hx hb dX7_goConvoy_16 rfl rfl ?_
    refine p_iald hx hb hE hw hn b1 (by omega) (congrFun hs1) dX7_goConvoy_17 h (fun v17 h => ?_)
    refine lv_iconst (v := (nI 1)) hx hb dX7_goConvoy_18 (by decide) ?_
    refine lv_isub hx hb dX7_goConvoy_19 ?_
    refine p_iast hx hb hE hw hn b1 (by omega) (congrFun hs1) dX7_goConvoy_20 h (fun S20 h H locs hw => ?_)
    exact e_vw hx hb hr hlocks hw dX7_goConvoy_21 h

set_option maxHeartbeats 4000000 in
set_option maxRecDepth 100000 in
theorem mX7_goHour (l : Launch) (G : mG) {β : Nat} {M S S' : mM} {b1 : Nat} (hn : β + 8 ≤ gN G) (hR : isMod G β) (h1 : b1 + 1 ≤ 8) (hs1 : gK G (β + b1) = aI G 250) (h : pX7_goHour b1 S = some S') : MC l G yX7_goHour zzX7_goHour 5 118 [.ref (gA G (β + 0)), .ref (gA G (β + b1))] (wB M β 8 S) (wB M β 8 S') none := by
  refine mc_of (cc := cX7_goHour) (maxL := 3) (ret := none) (by decide) rfl (Nat.le_of_ble_eq_true rfl) ?_
  intro p e s m args below meth c H ls hx hb hr hts hown hml hlocks hE hw hl
  have hl : lv_has ls 3 [(0, .ref (gA G (β + 0))), (1, .ref (gA G (β + b1)))] := hl
  have k2 : ∀ (k : Nat), ∀ (x2 : Int32) (S : mM) (H : Heap) (locs : List Loc) (ls : Array Slot), pX7_goHour_l2 b1 k x2 S = some S' → mW G s (wB M β 8 S) H locs → lv_has ls 3 [(0, .ref (gA G (β + 0))), (1, .ref (gA G (β + b1))), (2, .int x2)] → W p l e { frames := 5, cells := 0, slots := 0, locals := 118 } s m args below meth c H locs 0 0 (mZ below G none (wB M β 8 S') args s) (F0 m 2 ls []) := by
    intro k
    induction k with
    | zero => intro x2 S H locs ls h; cases h
    | succ k hih2 =>
      intro x2 S H locs ls h hw hl
      obtain ⟨ih2, hk2⟩ : ∃ f, f = pX7_goHour_l2 b1 k := ⟨_, rfl⟩
      replace h : pX7_goHour_lb2 b1 (pX7_goHour_l2 b1 k) x2 S = some S' := h
      rw [← hk2] at h hih2
      clear hk2
      unfold pX7_goHour_lb2 at h
      refine lv_iload_n hx hb dX7_goHour_2 rfl (lv_at hl 2 rfl) ?_
      refine lv_aload_n hx hb dX7_goHour_3 rfl (lv_at hl 1 rfl) ?_
      refine lv_iconst (v := (nI 5)) hx hb dX7_goHour_4 (by decide) ?_
      refine p_iald hx hb hE hw hn b1 (by omega) (congrFun hs1) dX7_goHour_5 h (fun v5 h => ?_)
      refine bi_ge (tgt := 37) hx hb dX7_goHour_6 (by decide) h (fun h => ?_) (fun h => ?_)
      · refine lv_aload_n hx hb dX7_goHour_37 rfl (lv_at hl 1 rfl) ?_
        refine lv_iconst (v := (nI 1)) hx hb dX7_goHour_38 (by decide) ?_
        refine lv_dup2_11 hx hb dX7_goHour_39 rfl rfl ?_
        refine p_iald hx hb hE hw hn b1 (by omega) (congrFun hs1) dX7_goHour_40 h (fun v40 h => ?_)
        refine lv_iconst (v := (nI 1)) hx hb dX7_goHour_41 (by decide) ?_
        refine lv_iadd hx hb dX7_goHour_42 ?_
        refine p_iast hx hb hE hw hn b1 (by omega) (congrFun hs1) dX7_goHour_43 h (fun S43 h H locs hw => ?_)
        exact e_vw hx hb hr hlocks hw dX7_goHour_44 h
      · refine lv_aload_n hx hb dX7_goHour_9 rfl (lv_at hl 1 rfl) ?_
        refine lv_iload_n hx hb dX7_goHour_10 rfl (lv_at hl 2 rfl) ?_
        obtain ⟨v11, h11, h⟩ := cr1_some h
        refine r_callS (As := [.ref (gA G (β + b1)), .int x2]) (rest := []) (st1 := [.int v11]) hx hb hml hown hts hE hw hl (mc_subR b1 1 (by omega) (mX7_sizeOf l G (by show β + b1 + 1 ≤ _; omega) hs1 h11)) (va_cwS 2 hts (zS gS_X7_64) rfl rfl rfl kdX7_sizeOf ⟨Nat.le_of_ble_eq_true rfl, Nat.le_of_ble_eq_true rfl⟩) rfl rfl (Nat.le_of_ble_eq_true rfl) dX7_goHour_11 ⟨Nat.zero_le _, Nat.zero_le _⟩ rfl (fun H locs hw => ?_)
        refine b_le (tgt := 31) hx hb dX7_goHour_14 (by decide) h (fun h => ?_) (fun h => ?_)
        · refine p_iinc (w := (nI 1)) 2 (fun v31 => [(2, .int v31), (0, .ref (gA G (β + 0))), (1, .ref (gA G (β + b1)))]) hx hb dX7_goHour_31 hl rfl (by decide) (by decide) h (fun _ => rfl) (fun v31 h ls hl => ?_)
          refine lv_goto (tgt := 2) hx hb dX7_goHour_34 (by decide) ?_
          exact hih2 v31 S _ _ _ h hw (lv_sub hl [1, 2, 0] rfl)
        · refine lv_aload_n hx hb dX7_goHour_17 rfl (lv_at hl 1 rfl) ?_
          refine lv_iload_n hx hb dX7_goHour_18 rfl (lv_at hl 2 rfl) ?_
          obtain ⟨v19, h19, h⟩ := cr1_some h
          refine r_callS (As := [.ref (gA G (β + b1)), .int x2]) (rest := []) (st1 := [.int v19]) hx hb hml hown hts hE hw hl (mc_subR b1 1 (by omega) (mX7_isThere l G (by show β + b1 + 1 ≤ _; omega) hs1 h19)) (va_cwS 2 hts (zS gS_X7_118) rfl rfl rfl kdX7_isThere ⟨Nat.le_of_ble_eq_true rfl, Nat.le_of_ble_eq_true rfl⟩) rfl rfl (Nat.le_of_ble_eq_true rfl) dX7_goHour_19 ⟨Nat.zero_le _, Nat.zero_le _⟩ rfl (fun H locs hw => ?_)
          refine b_ne (tgt := 31) hx hb dX7_goHour_22 (by decide) h (fun h => ?_) (fun h => ?_)
          · refine p_iinc (w := (nI 1)) 2 (fun v31 => [(2, .int v31), (0, .ref (gA G (β + 0))), (1, .ref (gA G (β + b1)))]) hx hb dX7_goHour_31 hl rfl (by decide) (by decide) h (fun _ => rfl) (fun v31 h ls hl => ?_)
            refine lv_goto (tgt := 2) hx hb dX7_goHour_34 (by decide) ?_
            exact hih2 v31 S _ _ _ h hw (lv_sub hl [1, 2, 0] rfl)
          · refine lv_aload_n hx hb dX7_goHour_25 rfl (lv_at hl 0 rfl) ?_
            refine lv_aload_n hx hb dX7_goHour_26 rfl (lv_at hl 1 rfl) ?_
            refine lv_iload_n hx hb dX7_goHour_27 rfl (lv_at hl 2 rfl) ?_
            obtain ⟨S28, h28, h⟩ := cr1_some h
            refine r_callV (As := [.ref (gA G (β + b1)), .int x2]) (rest := []) (st1 := []) hx hb hml hown hts hE hw hl (mX7_goConvoy l G (by omega) hR (by omega) hs1 h28) (cwV 2 hts (zV gV_X7_127) rfl rfl rfl kdX7_goConvoy ⟨Nat.le_of_ble_eq_true rfl, Nat.le_of_ble_eq_true rfl⟩) (by omega) (congrFun hR.1 _) rfl rfl rfl rfl (Nat.le_of_ble_eq_true rfl) dX7_goHour_28 ⟨Nat.zero_le _, Nat.zero_le _⟩ rfl (fun H locs hw => ?_)
            refine p_iinc (w := (nI 1)) 2 (fun v31 => [(2, .int v31), (0, .ref (gA G (β + 0))), (1, .ref (gA G (β + b1)))]) hx hb dX7_goHour_31 hl rfl (by decide) (by decide) h (fun _ => rfl) (fun v31 h ls hl => ?_)
            refine lv_goto (tgt := 2) hx hb dX7_goHour_34 (by decide) ?_
            exact hih2 v31 S28 _ _ _ h hw (lv_sub hl [1, 2, 0] rfl)
  unfold pX7_goHour at h
  refine lv_iconst (v := (nI 0)) hx hb dX7_goHour_0 (by decide) ?_
  refine lv_istore_n (lv' := [(2, .int (nI 0)), (0, .ref (gA G (β + 0))), (1, .ref (gA G (β + b1)))]) hx hb dX7_goHour_1 rfl hl (by decide) rfl (fun ls hl => ?_)
  exact k2 fuel (nI 0) S _ _ _ h hw (lv_sub hl [1, 2, 0] rfl)

set_option maxHeartbeats 4000000 in
set_option maxRecDepth 100000 in
theorem mX7_countAt (l : Launch) (G : mG) {β : Nat} {M S : mM} {a2 : Int32} {r : Int32} (hn : β + 1 ≤ gN G) (hR : isRow G β) (h : pX7_countAt a2 S = some r) : MC l G yX7_countAt zzX7_countAt 1 21 [.ref (gA G (β + 0)), .int a2] (wB M β 1 S) (wB M β 1 S) (some (.int r)) := by
  refine mc_of (cc := cX7_countAt) (maxL := 4) (ret := (some .int)) (by decide) rfl (Nat.le_of_ble_eq_true rfl) ?_
  intro p e s m args below meth c H ls hx hb hr hts hown hml hlocks hE hw hl
  have hl : lv_has ls 4 [(0, .ref (gA G (β + 0))), (1, .int a2)] := hl
  have k4 : ∀ (k : Nat), ∀ (x1 : Int32) (x2 : Int32) (x3 : Int32) (H : Heap) (locs : List Loc) (ls : Array Slot), pX7_countAt_l4  S k x1 x2 x3 = some r → mW G s (wB M β 1 S) H locs → lv_has ls 4 [(0, .ref (gA G (β + 0))), (1, .int x1), (2, .int x2), (3, .int x3)] → W p l e { frames := 1, cells := 0, slots := 0, locals := 21 } s m args below meth c H locs 0 0 (mZ below G (some (.int r)) (wB M β 1 S) args s) (F0 m 4 ls []) := by
    intro k
    induction k with
    | zero => intro x1 x2 x3 H locs ls h; cases h
    | succ k hih4 =>
      intro x1 x2 x3 H locs ls h hw hl
      obtain ⟨ih4, hk4⟩ : ∃ f, f = pX7_countAt_l4  S k := ⟨_, rfl⟩
      replace h : pX7_countAt_lb4  (pX7_countAt_l4  S k) S x1 x2 x3 = some r := h
      rw [← hk4] at h hih4
      clear hk4
      unfold pX7_countAt_lb4 at h
      refine lv_iload_n hx hb dX7_countAt_4 rfl (lv_at hl 3 rfl) ?_
      refine lv_aload_n hx hb dX7_countAt_5 rfl (lv_at hl 0 rfl) ?_
      refine lv_bipush (v := (nI 6)) hx hb dX7_countAt_6 (by decide) ?_
      refine p_iald hx hb hE hw hn 0 (by decide) (congrFun hR) dX7_countAt_8 h (fun v8 h => ?_)
      refine bi_ge (tgt := 37) hx hb dX7_countAt_9 (by decide) h (fun h => ?_) (fun h => ?_)
      · refine lv_iload_n hx hb dX7_countAt_37 rfl (lv_at hl 2 rfl) ?_
        exact e_i hx hb hr hlocks hw dX7_countAt_38 h
      · refine lv_iload_n hx hb dX7_countAt_12 rfl (lv_at hl 2 rfl) ?_
        refine lv_aload_n hx hb dX7_countAt_13 rfl (lv_at hl 0 rfl) ?_
        refine lv_iload_n hx hb dX7_countAt_14 rfl (lv_at hl 3 rfl) ?_
        refine lv_iconst (v := (nI 4)) hx hb dX7_countAt_15 (by decide) ?_
        obtain ⟨v16, h16, h⟩ := cr1_some h
        refine r_callS (As := [.int x3, .int (nI 4)]) (rest := [.ref (gA G (β + 0)), .int x2]) (st1 := [.int v16, .ref (gA G (β + 0)), .int x2]) hx hb hml hown hts hE hw hl (mX7_carAt l G (M := (wB M β 1 S)) h16) (va_cwS 2 hts (zS gS_X7_72) rfl rfl rfl kdX7_carAt ⟨Nat.le_of_ble_eq_true rfl, Nat.le_of_ble_eq_true rfl⟩) rfl rfl (Nat.le_of_ble_eq_true rfl) dX7_countAt_16 ⟨Nat.zero_le _, Nat.zero_le _⟩ rfl (fun H locs hw => ?_)
        refine p_iald hx hb hE hw hn 0 (by decide) (congrFun hR) dX7_countAt_19 h (fun v19 h => ?_)
        refine lv_iload_n hx hb dX7_countAt_20 rfl (lv_at hl 1 rfl) ?_
        refine bi_ne (tgt := 28) hx hb dX7_countAt_21 (by decide) h (fun h => ?_) (fun h => ?_)
        · refine lv_iconst (v := (nI 0)) hx hb dX7_countAt_28 (by decide) ?_
          refine lv_iadd hx hb dX7_countAt_29 ?_
          refine p_topi h (fun v30 h => ?_)
          refine lv_istore_n (lv' := [(2, .int v30), (0, .ref (gA G (β + 0))), (1, .int x1), (3, .int x3)]) hx hb dX7_countAt_30 rfl hl (by decide) rfl (fun ls hl => ?_)
          refine p_iinc (w := (nI 1)) 3 (fun v31 => [(3, .int v31), (2, .int v30), (0, .ref (gA G (β + 0))), (1, .int x1)]) hx hb dX7_countAt_31 hl rfl (by decide) (by decide) h (fun _ => rfl) (fun v31 h ls hl => ?_)
          refine lv_goto (tgt := 4) hx hb dX7_countAt_34 (by decide) ?_
          exact hih4 x1 v30 v31 _ _ _ h hw (lv_sub hl [2, 3, 1, 0] rfl)
        · refine lv_iconst (v := (nI 1)) hx hb dX7_countAt_24 (by decide) ?_
          refine lv_goto (tgt := 29) hx hb dX7_countAt_25 (by decide) ?_
          refine lv_iadd hx hb dX7_countAt_29 ?_
          refine p_topi h (fun v30 h => ?_)
          refine lv_istore_n (lv' := [(2, .int v30), (0, .ref (gA G (β + 0))), (1, .int x1), (3, .int x3)]) hx hb dX7_countAt_30 rfl hl (by decide) rfl (fun ls hl => ?_)
          refine p_iinc (w := (nI 1)) 3 (fun v31 => [(3, .int v31), (2, .int v30), (0, .ref (gA G (β + 0))), (1, .int x1)]) hx hb dX7_countAt_31 hl rfl (by decide) (by decide) h (fun _ => rfl) (fun v31 h ls hl => ?_)
          refine lv_goto (tgt := 4) hx hb dX7_countAt_34 (by decide) ?_
          exact hih4 x1 v30 v31 _ _ _ h hw (lv_sub hl [2, 3, 1, 0] rfl)
  unfold pX7_countAt at h
  refine lv_iconst (v := (nI 0)) hx hb dX7_countAt_0 (by decide) ?_
  refine lv_istore_n (lv' := [(2, .int (nI 0)), (0, .ref (gA G (β + 0))), (1, .int a2)]) hx hb dX7_countAt_1 rfl hl (by decide) rfl (fun ls hl => ?_)
  refine lv_iconst (v := (nI 0)) hx hb dX7_countAt_2 (by decide) ?_
  refine lv_istore_n (lv' := [(3, .int (nI 0)), (2, .int (nI 0)), (0, .ref (gA G (β + 0))), (1, .int a2)]) hx hb dX7_countAt_3 rfl hl (by decide) rfl (fun ls hl => ?_)
  exact k4 fuel a2 (nI 0) (nI 0) _ _ _ h hw (lv_sub hl [2, 3, 1, 0] rfl)

set_option maxHeartbeats 4000000 in
set_option maxRecDepth 100000 in
theorem mX7_goHours (l : Launch) (G : mG) {β : Nat} {M S S' : mM} {b1 : Nat} {a2 : Int32} {r : Int32} (hn : β + 8 ≤ gN G) (hR : isMod G β) (h1 : b1 + 1 ≤ 8) (hs1 : gK G (β + b1) = aI G 250) (h : pX7_goHours b1 a2 S = some (r, S')) : MC l G yX7_goHours zzX7_goHours 6 140 [.ref (gA G (β + 0)), .ref (gA G (β + b1)), .int a2] (wB M β 8 S) (wB M β 8 S') (some (.int r)) := by
  refine mc_of (cc := cX7_goHours) (maxL := 5) (ret := (some .int)) (by decide) rfl (Nat.le_of_ble_eq_true rfl) ?_
  intro p e s m args below meth c H ls hx hb hr hts hown hml hlocks hE hw hl
  have hl : lv_has ls 5 [(0, .ref (gA G (β + 0))), (1, .ref (gA G (β + b1))), (2, .int a2)] := hl
  have k9 : ∀ (k : Nat), ∀ (x2 : Int32) (x3 : Int32) (x4 : Int32) (S : mM) (H : Heap) (locs : List Loc) (ls : Array Slot), pX7_goHours_l9 b1 k x2 x3 x4 S = some (r, S') → mW G s (wB M β 8 S) H locs → lv_has ls 5 [(0, .ref (gA G (β + 0))), (1, .ref (gA G (β + b1))), (2, .int x2), (3, .int x3), (4, .int x4)] → W p l e { frames := 6, cells := 0, slots := 0, locals := 140 } s m args below meth c H locs 0 0 (mZ below G (some (.int r)) (wB M β 8 S') args s) (F0 m 9 ls []) := by
    intro k
    induction k with
    | zero => intro x2 x3 x4 S H locs ls h; cases h
    | succ k hih9 =>
      intro x2 x3 x4 S H locs ls h hw hl
      obtain ⟨ih9, hk9⟩ : ∃ f, f = pX7_goHours_l9 b1 k := ⟨_, rfl⟩
      replace h : pX7_goHours_lb9 b1 (pX7_goHours_l9 b1 k) x2 x3 x4 S = some (r, S') := h
      rw [← hk9] at h hih9
      clear hk9
      unfold pX7_goHours_lb9 at h
      refine lv_iload hx hb dX7_goHours_9 (lv_at hl 4 rfl) ?_
      refine lv_iload_n hx hb dX7_goHours_11 rfl (lv_at hl 2 rfl) ?_
      refine bi_ge (tgt := 26) hx hb dX7_goHours_12 (by decide) h (fun h => ?_) (fun h => ?_)
      · refine lv_aload_n hx hb dX7_goHours_26 rfl (lv_at hl 1 rfl) ?_
        refine lv_iconst (v := (nI 2)) hx hb dX7_goHours_27 (by decide) ?_
        obtain ⟨v28, h28, h⟩ := cr1_some h
        refine r_callS (As := [.ref (gA G (β + b1)), .int (nI 2)]) (rest := []) (st1 := [.int v28]) hx hb hml hown hts hE hw hl (mc_subR b1 1 (by omega) (mX7_countAt l G (by show β + b1 + 1 ≤ _; omega) hs1 h28)) (va_cwS 2 hts (zS gS_X7_130) rfl rfl rfl kdX7_countAt ⟨Nat.le_of_ble_eq_true rfl, Nat.le_of_ble_eq_true rfl⟩) rfl rfl (Nat.le_of_ble_eq_true rfl) dX7_goHours_28 ⟨Nat.zero_le _, Nat.zero_le _⟩ rfl (fun H locs hw => ?_)
        refine lv_iload_n hx hb dX7_goHours_31 rfl (lv_at hl 3 rfl) ?_
        refine lv_isub hx hb dX7_goHours_32 ?_
        exact e_iw hx hb hr hlocks hw dX7_goHours_33 h
      · refine lv_aload_n hx hb dX7_goHours_15 rfl (lv_at hl 0 rfl) ?_
        refine lv_aload_n hx hb dX7_goHours_16 rfl (lv_at hl 1 rfl) ?_
        obtain ⟨S17, h17, h⟩ := cr1_some h
        refine r_callV (As := [.ref (gA G (β + b1))]) (rest := []) (st1 := []) hx hb hml hown hts hE hw hl (mX7_goHour l G (by omega) hR (by omega) hs1 h17) (cwV 1 hts (zV gV_X7_133) rfl rfl rfl kdX7_goHour ⟨Nat.le_of_ble_eq_true rfl, Nat.le_of_ble_eq_true rfl⟩) (by omega) (congrFun hR.1 _) rfl rfl rfl rfl (Nat.le_of_ble_eq_true rfl) dX7_goHours_17 ⟨Nat.zero_le _, Nat.zero_le _⟩ rfl (fun H locs hw => ?_)
        refine p_iinc (w := (nI 1)) 4 (fun v20 => [(4, .int v20), (0, .ref (gA G (β + 0))), (1, .ref (gA G (β + b1))), (2, .int x2), (3, .int x3)]) hx hb dX7_goHours_20 hl rfl (by decide) (by decide) h (fun _ => rfl) (fun v20 h ls hl => ?_)
        refine lv_goto (tgt := 9) hx hb dX7_goHours_23 (by decide) ?_
        exact hih9 x2 x3 v20 S17 _ _ _ h hw (lv_sub hl [1, 2, 3, 4, 0] rfl)
  unfold pX7_goHours at h
  refine lv_aload_n hx hb dX7_goHours_0 rfl (lv_at hl 1 rfl) ?_
  refine lv_iconst (v := (nI 2)) hx hb dX7_goHours_1 (by decide) ?_
  obtain ⟨v2, h2, h⟩ := cr1_some h
  refine r_callS (As := [.ref (gA G (β + b1)), .int (nI 2)]) (rest := []) (st1 := [.int v2]) hx hb hml hown hts hE hw hl (mc_subR b1 1 (by omega) (mX7_countAt l G (by show β + b1 + 1 ≤ _; omega) hs1 h2)) (va_cwS 2 hts (zS gS_X7_130) rfl rfl rfl kdX7_countAt ⟨Nat.le_of_ble_eq_true rfl, Nat.le_of_ble_eq_true rfl⟩) rfl rfl (Nat.le_of_ble_eq_true rfl) dX7_goHours_2 ⟨Nat.zero_le _, Nat.zero_le _⟩ rfl (fun H locs hw => ?_)
  refine lv_istore_n (lv' := [(3, .int v2), (0, .ref (gA G (β + 0))), (1, .ref (gA G (β + b1))), (2, .int a2)]) hx hb dX7_goHours_5 rfl hl (by decide) rfl (fun ls hl => ?_)
  refine lv_iconst (v := (nI 0)) hx hb dX7_goHours_6 (by decide) ?_
  refine lv_istore (lv' := [(4, .int (nI 0)), (3, .int v2), (0, .ref (gA G (β + 0))), (1, .ref (gA G (β + b1))), (2, .int a2)]) hx hb dX7_goHours_7 hl (by decide) rfl (fun ls hl => ?_)
  exact k9 fuel a2 v2 (nI 0) S _ _ _ h hw (lv_sub hl [2, 3, 4, 1, 0] rfl)

set_option maxHeartbeats 4000000 in
set_option maxRecDepth 100000 in
theorem mX7_addGateTo (l : Launch) (G : mG) {β : Nat} {M S S' : mM} {a2 : Int32} {a3 : Int32} {a4 : Int32} {a5 : Int32} (hn : β + 1 ≤ gN G) (hR : isRow G β) (h : pX7_addGateTo a2 a3 a4 a5 S = some S') : MC l G yX7_addGateTo zzX7_addGateTo 1 21 [.ref (gA G (β + 0)), .int a2, .int a3, .int a4, .int a5] (wB M β 1 S) (wB M β 1 S') none := by
  refine mc_of (cc := cX7_addGateTo) (maxL := 6) (ret := none) (by decide) rfl (Nat.le_of_ble_eq_true rfl) ?_
  intro p e s m args below meth c H ls hx hb hr hts hown hml hlocks hE hw hl
  have hl : lv_has ls 6 [(0, .ref (gA G (β + 0))), (1, .int a2), (2, .int a3), (3, .int a4), (4, .int a5)] := hl
  unfold pX7_addGateTo at h
  refine lv_aload_n hx hb dX7_addGateTo_0 rfl (lv_at hl 0 rfl) ?_
  refine lv_iconst (v := (nI 2)) hx hb dX7_addGateTo_1 (by decide) ?_
  refine p_iald hx hb hE hw hn 0 (by decide) (congrFun hR) dX7_addGateTo_2 h (fun v2 h => ?_)
  refine lv_istore (lv' := [(5, .int v2), (0, .ref (gA G (β + 0))), (1, .int a2), (2, .int a3), (3, .int a4), (4, .int a5)]) hx hb dX7_addGateTo_3 hl (by decide) rfl (fun ls hl => ?_)
  refine lv_aload_n hx hb dX7_addGateTo_5 rfl (lv_at hl 1 rfl) ?_
  refine lv_iload hx hb dX7_addGateTo_6 (lv_at hl 0 rfl) ?_
  refine lv_iconst (v := (nI 0)) hx hb dX7_addGateTo_8 (by decide) ?_
  obtain ⟨v9, h9, h⟩ := cr1_some h
  refine r_callS (As := [.int v2, .int (nI 0)]) (rest := [.ref (gA G (β + 0))]) (st1 := [.int v9, .ref (gA G (β + 0))]) hx hb hml hown hts hE hw hl (mX7_gateAt l G (M := (wB M β 1 S)) h9) (va_cwS 2 hts (zS gS_X7_55) rfl rfl rfl kdX7_gateAt ⟨Nat.le_of_ble_eq_true rfl, Nat.le_of_ble_eq_true rfl⟩) rfl rfl (Nat.le_of_ble_eq_true rfl) dX7_addGateTo_9 ⟨Nat.zero_le _, Nat.zero_le _⟩ rfl (fun H locs hw => ?_)
  refine lv_iload_n hx hb dX7_addGateTo_12 rfl (lv_at hl 2 rfl) ?_
  refine p_iast hx hb hE hw hn 0 (by decide) (congrFun hR) dX7_addGateTo_13 h (fun S13 h H locs hw => ?_)
  refine lv_aload_n hx hb dX7_addGateTo_14 rfl (lv_at hl 1 rfl) ?_
  refine lv_iload hx hb dX7_addGateTo_15 (lv_at hl 0 rfl) ?_
  refine lv_iconst (v := (nI 1)) hx hb dX7_addGateTo_17 (by decide) ?_
  obtain ⟨v18, h18, h⟩ := cr1_some h
  refine r_callS (As := [.int v2, .int (nI 1)]) (rest := [.ref (gA G (β + 0))]) (st1 := [.int v18, .ref (gA G (β + 0))]) hx hb hml hown hts hE hw hl (mX7_gateAt l G (M := (wB M β 1 S13)) h18) (va_cwS 2 hts (zS gS_X7_55) rfl rfl rfl kdX7_gateAt ⟨Nat.le_of_ble_eq_true rfl, Nat.le_of_ble_eq_true rfl⟩) rfl rfl (Nat.le_of_ble_eq_true rfl) dX7_addGateTo_18 ⟨Nat.zero_le _, Nat.zero_le _⟩ rfl (fun H locs hw => ?_)
  refine lv_iload_n hx hb dX7_addGateTo_21 rfl (lv_at hl 3 rfl) ?_
  refine p_iast hx hb hE hw hn 0 (by decide) (congrFun hR) dX7_addGateTo_22 h (fun S22 h H locs hw => ?_)
  refine lv_aload_n hx hb dX7_addGateTo_23 rfl (lv_at hl 1 rfl) ?_
  refine lv_iload hx hb dX7_addGateTo_24 (lv_at hl 0 rfl) ?_
  refine lv_iconst (v := (nI 2)) hx hb dX7_addGateTo_26 (by decide) ?_
  obtain ⟨v27, h27, h⟩ := cr1_some h
  refine r_callS (As := [.int v2, .int (nI 2)]) (rest := [.ref (gA G (β + 0))]) (st1 := [.int v27, .ref (gA G (β + 0))]) hx hb hml hown hts hE hw hl (mX7_gateAt l G (M := (wB M β 1 S22)) h27) (va_cwS 2 hts (zS gS_X7_55) rfl rfl rfl kdX7_gateAt ⟨Nat.le_of_ble_eq_true rfl, Nat.le_of_ble_eq_true rfl⟩) rfl rfl (Nat.le_of_ble_eq_true rfl) dX7_addGateTo_27 ⟨Nat.zero_le _, Nat.zero_le _⟩ rfl (fun H locs hw => ?_)
  refine lv_iload_n hx hb dX7_addGateTo_30 rfl (lv_at hl 4 rfl) ?_
  refine p_iast hx hb hE hw hn 0 (by decide) (congrFun hR) dX7_addGateTo_31 h (fun S31 h H locs hw => ?_)
  refine lv_aload_n hx hb dX7_addGateTo_32 rfl (lv_at hl 1 rfl) ?_
  refine lv_iload hx hb dX7_addGateTo_33 (lv_at hl 0 rfl) ?_
  refine lv_iconst (v := (nI 3)) hx hb dX7_addGateTo_35 (by decide) ?_
  obtain ⟨v36, h36, h⟩ := cr1_some h
  refine r_callS (As := [.int v2, .int (nI 3)]) (rest := [.ref (gA G (β + 0))]) (st1 := [.int v36, .ref (gA G (β + 0))]) hx hb hml hown hts hE hw hl (mX7_gateAt l G (M := (wB M β 1 S31)) h36) (va_cwS 2 hts (zS gS_X7_55) rfl rfl rfl kdX7_gateAt ⟨Nat.le_of_ble_eq_true rfl, Nat.le_of_ble_eq_true rfl⟩) rfl rfl (Nat.le_of_ble_eq_true rfl) dX7_addGateTo_36 ⟨Nat.zero_le _, Nat.zero_le _⟩ rfl (fun H locs hw => ?_)
  refine lv_iload hx hb dX7_addGateTo_39 (lv_at hl 5 rfl) ?_
  refine p_iast hx hb hE hw hn 0 (by decide) (congrFun hR) dX7_addGateTo_41 h (fun S41 h H locs hw => ?_)
  refine lv_aload_n hx hb dX7_addGateTo_42 rfl (lv_at hl 1 rfl) ?_
  refine lv_iconst (v := (nI 2)) hx hb dX7_addGateTo_43 (by decide) ?_
  refine lv_dup2_11 hx hb dX7_addGateTo_44 rfl rfl ?_
  refine p_iald hx hb hE hw hn 0 (by decide) (congrFun hR) dX7_addGateTo_45 h (fun v45 h => ?_)
  refine lv_iconst (v := (nI 1)) hx hb dX7_addGateTo_46 (by decide) ?_
  refine lv_iadd hx hb dX7_addGateTo_47 ?_
  refine p_iast hx hb hE hw hn 0 (by decide) (congrFun hR) dX7_addGateTo_48 h (fun S48 h H locs hw => ?_)
  exact e_vw hx hb hr hlocks hw dX7_addGateTo_49 h

set_option maxHeartbeats 4000000 in
set_option maxRecDepth 100000 in
theorem mX7_addBayTo (l : Launch) (G : mG) {β : Nat} {M S S' : mM} {a2 : Int32} {a3 : Int32} (hn : β + 1 ≤ gN G) (hR : isRow G β) (h : pX7_addBayTo a2 a3 S = some S') : MC l G yX7_addBayTo zzX7_addBayTo 1 21 [.ref (gA G (β + 0)), .int a2, .int a3] (wB M β 1 S) (wB M β 1 S') none := by
  refine mc_of (cc := cX7_addBayTo) (maxL := 4) (ret := none) (by decide) rfl (Nat.le_of_ble_eq_true rfl) ?_
  intro p e s m args below meth c H ls hx hb hr hts hown hml hlocks hE hw hl
  have hl : lv_has ls 4 [(0, .ref (gA G (β + 0))), (1, .int a2), (2, .int a3)] := hl
  unfold pX7_addBayTo at h
  refine lv_aload_n hx hb dX7_addBayTo_0 rfl (lv_at hl 0 rfl) ?_
  refine lv_iconst (v := (nI 3)) hx hb dX7_addBayTo_1 (by decide) ?_
  refine p_iald hx hb hE hw hn 0 (by decide) (congrFun hR) dX7_addBayTo_2 h (fun v2 h => ?_)
  refine lv_istore_n (lv' := [(3, .int v2), (0, .ref (gA G (β + 0))), (1, .int a2), (2, .int a3)]) hx hb dX7_addBayTo_3 rfl hl (by decide) rfl (fun ls hl => ?_)
  refine lv_aload_n hx hb dX7_addBayTo_4 rfl (lv_at hl 1 rfl) ?_
  refine lv_iload_n hx hb dX7_addBayTo_5 rfl (lv_at hl 0 rfl) ?_
  refine lv_iconst (v := (nI 0)) hx hb dX7_addBayTo_6 (by decide) ?_
  obtain ⟨v7, h7, h⟩ := cr1_some h
  refine r_callS (As := [.int v2, .int (nI 0)]) (rest := [.ref (gA G (β + 0))]) (st1 := [.int v7, .ref (gA G (β + 0))]) hx hb hml hown hts hE hw hl (mX7_bayAt l G (M := (wB M β 1 S)) h7) (va_cwS 2 hts (zS gS_X7_58) rfl rfl rfl kdX7_bayAt ⟨Nat.le_of_ble_eq_true rfl, Nat.le_of_ble_eq_true rfl⟩) rfl rfl (Nat.le_of_ble_eq_true rfl) dX7_addBayTo_7 ⟨Nat.zero_le _, Nat.zero_le _⟩ rfl (fun H locs hw => ?_)
  refine lv_iload_n hx hb dX7_addBayTo_10 rfl (lv_at hl 2 rfl) ?_
  refine p_iast hx hb hE hw hn 0 (by decide) (congrFun hR) dX7_addBayTo_11 h (fun S11 h H locs hw => ?_)
  refine lv_aload_n hx hb dX7_addBayTo_12 rfl (lv_at hl 1 rfl) ?_
  refine lv_iload_n hx hb dX7_addBayTo_13 rfl (lv_at hl 0 rfl) ?_
  refine lv_iconst (v := (nI 1)) hx hb dX7_addBayTo_14 (by decide) ?_
  obtain ⟨v15, h15, h⟩ := cr1_some h
  refine r_callS (As := [.int v2, .int (nI 1)]) (rest := [.ref (gA G (β + 0))]) (st1 := [.int v15, .ref (gA G (β + 0))]) hx hb hml hown hts hE hw hl (mX7_bayAt l G (M := (wB M β 1 S11)) h15) (va_cwS 2 hts (zS gS_X7_58) rfl rfl rfl kdX7_bayAt ⟨Nat.le_of_ble_eq_true rfl, Nat.le_of_ble_eq_true rfl⟩) rfl rfl (Nat.le_of_ble_eq_true rfl) dX7_addBayTo_15 ⟨Nat.zero_le _, Nat.zero_le _⟩ rfl (fun H locs hw => ?_)
  refine lv_iload_n hx hb dX7_addBayTo_18 rfl (lv_at hl 3 rfl) ?_
  refine p_iast hx hb hE hw hn 0 (by decide) (congrFun hR) dX7_addBayTo_19 h (fun S19 h H locs hw => ?_)
  refine lv_aload_n hx hb dX7_addBayTo_20 rfl (lv_at hl 1 rfl) ?_
  refine lv_iload_n hx hb dX7_addBayTo_21 rfl (lv_at hl 0 rfl) ?_
  refine lv_iconst (v := (nI 2)) hx hb dX7_addBayTo_22 (by decide) ?_
  obtain ⟨v23, h23, h⟩ := cr1_some h
  refine r_callS (As := [.int v2, .int (nI 2)]) (rest := [.ref (gA G (β + 0))]) (st1 := [.int v23, .ref (gA G (β + 0))]) hx hb hml hown hts hE hw hl (mX7_bayAt l G (M := (wB M β 1 S19)) h23) (va_cwS 2 hts (zS gS_X7_58) rfl rfl rfl kdX7_bayAt ⟨Nat.le_of_ble_eq_true rfl, Nat.le_of_ble_eq_true rfl⟩) rfl rfl (Nat.le_of_ble_eq_true rfl) dX7_addBayTo_23 ⟨Nat.zero_le _, Nat.zero_le _⟩ rfl (fun H locs hw => ?_)
  refine lv_iconst (v := (nI 0)) hx hb dX7_addBayTo_26 (by decide) ?_
  refine p_iast hx hb hE hw hn 0 (by decide) (congrFun hR) dX7_addBayTo_27 h (fun S27 h H locs hw => ?_)
  refine lv_aload_n hx hb dX7_addBayTo_28 rfl (lv_at hl 1 rfl) ?_
  refine lv_iconst (v := (nI 3)) hx hb dX7_addBayTo_29 (by decide) ?_
  refine lv_dup2_11 hx hb dX7_addBayTo_30 rfl rfl ?_
  refine p_iald hx hb hE hw hn 0 (by decide) (congrFun hR) dX7_addBayTo_31 h (fun v31 h => ?_)
  refine lv_iconst (v := (nI 1)) hx hb dX7_addBayTo_32 (by decide) ?_
  refine lv_iadd hx hb dX7_addBayTo_33 ?_
  refine p_iast hx hb hE hw hn 0 (by decide) (congrFun hR) dX7_addBayTo_34 h (fun S34 h H locs hw => ?_)
  exact e_vw hx hb hr hlocks hw dX7_addBayTo_35 h

set_option maxHeartbeats 4000000 in
set_option maxRecDepth 100000 in
theorem mX7_addDepotTo (l : Launch) (G : mG) {β : Nat} {M S S' : mM} {a2 : Int32} {a3 : Int32} (hn : β + 1 ≤ gN G) (hR : isRow G β) (h : pX7_addDepotTo a2 a3 S = some S') : MC l G yX7_addDepotTo zzX7_addDepotTo 1 21 [.ref (gA G (β + 0)), .int a2, .int a3] (wB M β 1 S) (wB M β 1 S') none := by
  refine mc_of (cc := cX7_addDepotTo) (maxL := 4) (ret := none) (by decide) rfl (Nat.le_of_ble_eq_true rfl) ?_
  intro p e s m args below meth c H ls hx hb hr hts hown hml hlocks hE hw hl
  have hl : lv_has ls 4 [(0, .ref (gA G (β + 0))), (1, .int a2), (2, .int a3)] := hl
  unfold pX7_addDepotTo at h
  refine lv_aload_n hx hb dX7_addDepotTo_0 rfl (lv_at hl 0 rfl) ?_
  refine lv_iconst (v := (nI 4)) hx hb dX7_addDepotTo_1 (by decide) ?_
  refine p_iald hx hb hE hw hn 0 (by decide) (congrFun hR) dX7_addDepotTo_2 h (fun v2 h => ?_)
  refine lv_istore_n (lv' := [(3, .int v2), (0, .ref (gA G (β + 0))), (1, .int a2), (2, .int a3)]) hx hb dX7_addDepotTo_3 rfl hl (by decide) rfl (fun ls hl => ?_)
  refine lv_aload_n hx hb dX7_addDepotTo_4 rfl (lv_at hl 1 rfl) ?_
  refine lv_iload_n hx hb dX7_addDepotTo_5 rfl (lv_at hl 0 rfl) ?_
  refine lv_iconst (v := (nI 0)) hx hb dX7_addDepotTo_6 (by decide) ?_
  obtain ⟨v7, h7, h⟩ := cr1_some h
  refine r_callS (As := [.int v2, .int (nI 0)]) (rest := [.ref (gA G (β + 0))]) (st1 := [.int v7, .ref (gA G (β + 0))]) hx hb hml hown hts hE hw hl (mX7_depotAt l G (M := (wB M β 1 S)) h7) (va_cwS 2 hts (zS gS_X7_61) rfl rfl rfl kdX7_depotAt ⟨Nat.le_of_ble_eq_true rfl, Nat.le_of_ble_eq_true rfl⟩) rfl rfl (Nat.le_of_ble_eq_true rfl) dX7_addDepotTo_7 ⟨Nat.zero_le _, Nat.zero_le _⟩ rfl (fun H locs hw => ?_)
  refine lv_iload_n hx hb dX7_addDepotTo_10 rfl (lv_at hl 2 rfl) ?_
  refine p_iast hx hb hE hw hn 0 (by decide) (congrFun hR) dX7_addDepotTo_11 h (fun S11 h H locs hw => ?_)
  refine lv_aload_n hx hb dX7_addDepotTo_12 rfl (lv_at hl 1 rfl) ?_
  refine lv_iload_n hx hb dX7_addDepotTo_13 rfl (lv_at hl 0 rfl) ?_
  refine lv_iconst (v := (nI 1)) hx hb dX7_addDepotTo_14 (by decide) ?_
  obtain ⟨v15, h15, h⟩ := cr1_some h
  refine r_callS (As := [.int v2, .int (nI 1)]) (rest := [.ref (gA G (β + 0))]) (st1 := [.int v15, .ref (gA G (β + 0))]) hx hb hml hown hts hE hw hl (mX7_depotAt l G (M := (wB M β 1 S11)) h15) (va_cwS 2 hts (zS gS_X7_61) rfl rfl rfl kdX7_depotAt ⟨Nat.le_of_ble_eq_true rfl, Nat.le_of_ble_eq_true rfl⟩) rfl rfl (Nat.le_of_ble_eq_true rfl) dX7_addDepotTo_15 ⟨Nat.zero_le _, Nat.zero_le _⟩ rfl (fun H locs hw => ?_)
  refine lv_iload_n hx hb dX7_addDepotTo_18 rfl (lv_at hl 3 rfl) ?_
  refine p_iast hx hb hE hw hn 0 (by decide) (congrFun hR) dX7_addDepotTo_19 h (fun S19 h H locs hw => ?_)
  refine lv_aload_n hx hb dX7_addDepotTo_20 rfl (lv_at hl 1 rfl) ?_
  refine lv_iconst (v := (nI 4)) hx hb dX7_addDepotTo_21 (by decide) ?_
  refine lv_dup2_11 hx hb dX7_addDepotTo_22 rfl rfl ?_
  refine p_iald hx hb hE hw hn 0 (by decide) (congrFun hR) dX7_addDepotTo_23 h (fun v23 h => ?_)
  refine lv_iconst (v := (nI 1)) hx hb dX7_addDepotTo_24 (by decide) ?_
  refine lv_iadd hx hb dX7_addDepotTo_25 ?_
  refine p_iast hx hb hE hw hn 0 (by decide) (congrFun hR) dX7_addDepotTo_26 h (fun S26 h H locs hw => ?_)
  exact e_vw hx hb hr hlocks hw dX7_addDepotTo_27 h

set_option maxHeartbeats 4000000 in
set_option maxRecDepth 100000 in
theorem mX7_addConvoyTo (l : Launch) (G : mG) {β : Nat} {M S S' : mM} (hn : β + 1 ≤ gN G) (hR : isRow G β) (h : pX7_addConvoyTo S = some S') : MC l G yX7_addConvoyTo zzX7_addConvoyTo 1 21 [.ref (gA G (β + 0))] (wB M β 1 S) (wB M β 1 S') none := by
  refine mc_of (cc := cX7_addConvoyTo) (maxL := 2) (ret := none) (by decide) rfl (Nat.le_of_ble_eq_true rfl) ?_
  intro p e s m args below meth c H ls hx hb hr hts hown hml hlocks hE hw hl
  have hl : lv_has ls 2 [(0, .ref (gA G (β + 0)))] := hl
  have k2 : ∀ (k : Nat), ∀ (x1 : Int32) (S : mM) (H : Heap) (locs : List Loc) (ls : Array Slot), pX7_addConvoyTo_l2  k x1 S = some S' → mW G s (wB M β 1 S) H locs → lv_has ls 2 [(0, .ref (gA G (β + 0))), (1, .int x1)] → W p l e { frames := 1, cells := 0, slots := 0, locals := 21 } s m args below meth c H locs 0 0 (mZ below G none (wB M β 1 S') args s) (F0 m 2 ls []) := by
    intro k
    induction k with
    | zero => intro x1 S H locs ls h; cases h
    | succ k hih2 =>
      intro x1 S H locs ls h hw hl
      obtain ⟨ih2, hk2⟩ : ∃ f, f = pX7_addConvoyTo_l2  k := ⟨_, rfl⟩
      replace h : pX7_addConvoyTo_lb2  (pX7_addConvoyTo_l2  k) x1 S = some S' := h
      rw [← hk2] at h hih2
      clear hk2
      unfold pX7_addConvoyTo_lb2 at h
      refine lv_iload_n hx hb dX7_addConvoyTo_2 rfl (lv_at hl 1 rfl) ?_
      refine lv_bipush (v := (nI 13)) hx hb dX7_addConvoyTo_3 (by decide) ?_
      refine bi_ge (tgt := 24) hx hb dX7_addConvoyTo_5 (by decide) h (fun h => ?_) (fun h => ?_)
      · refine lv_aload_n hx hb dX7_addConvoyTo_24 rfl (lv_at hl 0 rfl) ?_
        refine lv_iconst (v := (nI 5)) hx hb dX7_addConvoyTo_25 (by decide) ?_
        refine lv_dup2_11 hx hb dX7_addConvoyTo_26 rfl rfl ?_
        refine p_iald hx hb hE hw hn 0 (by decide) (congrFun hR) dX7_addConvoyTo_27 h (fun v27 h => ?_)
        refine lv_iconst (v := (nI 1)) hx hb dX7_addConvoyTo_28 (by decide) ?_
        refine lv_iadd hx hb dX7_addConvoyTo_29 ?_
        refine p_iast hx hb hE hw hn 0 (by decide) (congrFun hR) dX7_addConvoyTo_30 h (fun S30 h H locs hw => ?_)
        exact e_vw hx hb hr hlocks hw dX7_addConvoyTo_31 h
      · refine lv_aload_n hx hb dX7_addConvoyTo_8 rfl (lv_at hl 0 rfl) ?_
        refine lv_aload_n hx hb dX7_addConvoyTo_9 rfl (lv_at hl 0 rfl) ?_
        refine lv_iconst (v := (nI 5)) hx hb dX7_addConvoyTo_10 (by decide) ?_
        refine p_iald hx hb hE hw hn 0 (by decide) (congrFun hR) dX7_addConvoyTo_11 h (fun v11 h => ?_)
        refine lv_iload_n hx hb dX7_addConvoyTo_12 rfl (lv_at hl 1 rfl) ?_
        obtain ⟨v13, h13, h⟩ := cr1_some h
        refine r_callS (As := [.int v11, .int x1]) (rest := [.ref (gA G (β + 0))]) (st1 := [.int v13, .ref (gA G (β + 0))]) hx hb hml hown hts hE hw hl (mX7_convoyAt l G (M := (wB M β 1 S)) h13) (va_cwS 2 hts (zS gS_X7_51) rfl rfl rfl kdX7_convoyAt ⟨Nat.le_of_ble_eq_true rfl, Nat.le_of_ble_eq_true rfl⟩) rfl rfl (Nat.le_of_ble_eq_true rfl) dX7_addConvoyTo_13 ⟨Nat.zero_le _, Nat.zero_le _⟩ rfl (fun H locs hw => ?_)
        refine lv_iconst (v := (nI 0)) hx hb dX7_addConvoyTo_16 (by decide) ?_
        refine p_iast hx hb hE hw hn 0 (by decide) (congrFun hR) dX7_addConvoyTo_17 h (fun S17 h H locs hw => ?_)
        refine p_iinc (w := (nI 1)) 1 (fun v18 => [(1, .int v18), (0, .ref (gA G (β + 0)))]) hx hb dX7_addConvoyTo_18 hl rfl (by decide) (by decide) h (fun _ => rfl) (fun v18 h ls hl => ?_)
        refine lv_goto (tgt := 2) hx hb dX7_addConvoyTo_21 (by decide) ?_
        exact hih2 v18 S17 _ _ _ h hw (lv_sub hl [1, 0] rfl)
  unfold pX7_addConvoyTo at h
  refine lv_iconst (v := (nI 0)) hx hb dX7_addConvoyTo_0 (by decide) ?_
  refine lv_istore_n (lv' := [(1, .int (nI 0)), (0, .ref (gA G (β + 0)))]) hx hb dX7_addConvoyTo_1 rfl hl (by decide) rfl (fun ls hl => ?_)
  exact k2 fuel (nI 0) S _ _ _ h hw (lv_sub hl [1, 0] rfl)

set_option maxHeartbeats 4000000 in
set_option maxRecDepth 100000 in
theorem mX7_addCarTo (l : Launch) (G : mG) {β : Nat} {M S S' : mM} {a2 : Int32} {a3 : Int32} {a4 : Int32} {a5 : Int32} {a6 : Int32} (hn : β + 1 ≤ gN G) (hR : isRow G β) (h : pX7_addCarTo a2 a3 a4 a5 a6 S = some S') : MC l G yX7_addCarTo zzX7_addCarTo 2 42 [.ref (gA G (β + 0)), .int a2, .int a3, .int a4, .int a5, .int a6] (wB M β 1 S) (wB M β 1 S') none := by
  refine mc_of (cc := cX7_addCarTo) (maxL := 7) (ret := none) (by decide) rfl (Nat.le_of_ble_eq_true rfl) ?_
  intro p e s m args below meth c H ls hx hb hr hts hown hml hlocks hE hw hl
  have hl : lv_has ls 7 [(0, .ref (gA G (β + 0))), (1, .int a2), (2, .int a3), (3, .int a4), (4, .int a5), (5, .int a6)] := hl
  unfold pX7_addCarTo at h
  refine lv_aload_n hx hb dX7_addCarTo_0 rfl (lv_at hl 0 rfl) ?_
  refine lv_bipush (v := (nI 6)) hx hb dX7_addCarTo_1 (by decide) ?_
  refine p_iald hx hb hE hw hn 0 (by decide) (congrFun hR) dX7_addCarTo_3 h (fun v3 h => ?_)
  refine lv_istore (lv' := [(6, .int v3), (0, .ref (gA G (β + 0))), (1, .int a2), (2, .int a3), (3, .int a4), (4, .int a5), (5, .int a6)]) hx hb dX7_addCarTo_4 hl (by decide) rfl (fun ls hl => ?_)
  refine lv_aload_n hx hb dX7_addCarTo_6 rfl (lv_at hl 1 rfl) ?_
  refine lv_iload hx hb dX7_addCarTo_7 (lv_at hl 0 rfl) ?_
  refine lv_iconst (v := (nI 0)) hx hb dX7_addCarTo_9 (by decide) ?_
  obtain ⟨v10, h10, h⟩ := cr1_some h
  refine r_callS (As := [.int v3, .int (nI 0)]) (rest := [.ref (gA G (β + 0))]) (st1 := [.int v10, .ref (gA G (β + 0))]) hx hb hml hown hts hE hw hl (mX7_carAt l G (M := (wB M β 1 S)) h10) (va_cwS 2 hts (zS gS_X7_72) rfl rfl rfl kdX7_carAt ⟨Nat.le_of_ble_eq_true rfl, Nat.le_of_ble_eq_true rfl⟩) rfl rfl (Nat.le_of_ble_eq_true rfl) dX7_addCarTo_10 ⟨Nat.zero_le _, Nat.zero_le _⟩ rfl (fun H locs hw => ?_)
  refine lv_iload_n hx hb dX7_addCarTo_13 rfl (lv_at hl 3 rfl) ?_
  refine p_iast hx hb hE hw hn 0 (by decide) (congrFun hR) dX7_addCarTo_14 h (fun S14 h H locs hw => ?_)
  refine lv_aload_n hx hb dX7_addCarTo_15 rfl (lv_at hl 1 rfl) ?_
  refine lv_iload hx hb dX7_addCarTo_16 (lv_at hl 0 rfl) ?_
  refine lv_iconst (v := (nI 1)) hx hb dX7_addCarTo_18 (by decide) ?_
  obtain ⟨v19, h19, h⟩ := cr1_some h
  refine r_callS (As := [.int v3, .int (nI 1)]) (rest := [.ref (gA G (β + 0))]) (st1 := [.int v19, .ref (gA G (β + 0))]) hx hb hml hown hts hE hw hl (mX7_carAt l G (M := (wB M β 1 S14)) h19) (va_cwS 2 hts (zS gS_X7_72) rfl rfl rfl kdX7_carAt ⟨Nat.le_of_ble_eq_true rfl, Nat.le_of_ble_eq_true rfl⟩) rfl rfl (Nat.le_of_ble_eq_true rfl) dX7_addCarTo_19 ⟨Nat.zero_le _, Nat.zero_le _⟩ rfl (fun H locs hw => ?_)
  refine lv_iload_n hx hb dX7_addCarTo_22 rfl (lv_at hl 4 rfl) ?_
  refine p_iast hx hb hE hw hn 0 (by decide) (congrFun hR) dX7_addCarTo_23 h (fun S23 h H locs hw => ?_)
  refine lv_aload_n hx hb dX7_addCarTo_24 rfl (lv_at hl 1 rfl) ?_
  refine lv_iload hx hb dX7_addCarTo_25 (lv_at hl 0 rfl) ?_
  refine lv_iconst (v := (nI 2)) hx hb dX7_addCarTo_27 (by decide) ?_
  obtain ⟨v28, h28, h⟩ := cr1_some h
  refine r_callS (As := [.int v3, .int (nI 2)]) (rest := [.ref (gA G (β + 0))]) (st1 := [.int v28, .ref (gA G (β + 0))]) hx hb hml hown hts hE hw hl (mX7_carAt l G (M := (wB M β 1 S23)) h28) (va_cwS 2 hts (zS gS_X7_72) rfl rfl rfl kdX7_carAt ⟨Nat.le_of_ble_eq_true rfl, Nat.le_of_ble_eq_true rfl⟩) rfl rfl (Nat.le_of_ble_eq_true rfl) dX7_addCarTo_28 ⟨Nat.zero_le _, Nat.zero_le _⟩ rfl (fun H locs hw => ?_)
  refine lv_iload hx hb dX7_addCarTo_31 (lv_at hl 5 rfl) ?_
  refine p_iast hx hb hE hw hn 0 (by decide) (congrFun hR) dX7_addCarTo_33 h (fun S33 h H locs hw => ?_)
  refine lv_aload_n hx hb dX7_addCarTo_34 rfl (lv_at hl 1 rfl) ?_
  refine lv_iload hx hb dX7_addCarTo_35 (lv_at hl 0 rfl) ?_
  refine lv_iconst (v := (nI 3)) hx hb dX7_addCarTo_37 (by decide) ?_
  obtain ⟨v38, h38, h⟩ := cr1_some h
  refine r_callS (As := [.int v3, .int (nI 3)]) (rest := [.ref (gA G (β + 0))]) (st1 := [.int v38, .ref (gA G (β + 0))]) hx hb hml hown hts hE hw hl (mX7_carAt l G (M := (wB M β 1 S33)) h38) (va_cwS 2 hts (zS gS_X7_72) rfl rfl rfl kdX7_carAt ⟨Nat.le_of_ble_eq_true rfl, Nat.le_of_ble_eq_true rfl⟩) rfl rfl (Nat.le_of_ble_eq_true rfl) dX7_addCarTo_38 ⟨Nat.zero_le _, Nat.zero_le _⟩ rfl (fun H locs hw => ?_)
  refine lv_iload hx hb dX7_addCarTo_41 (lv_at hl 6 rfl) ?_
  refine p_iast hx hb hE hw hn 0 (by decide) (congrFun hR) dX7_addCarTo_43 h (fun S43 h H locs hw => ?_)
  refine lv_aload_n hx hb dX7_addCarTo_44 rfl (lv_at hl 1 rfl) ?_
  refine lv_iload hx hb dX7_addCarTo_45 (lv_at hl 0 rfl) ?_
  refine lv_iconst (v := (nI 4)) hx hb dX7_addCarTo_47 (by decide) ?_
  obtain ⟨v48, h48, h⟩ := cr1_some h
  refine r_callS (As := [.int v3, .int (nI 4)]) (rest := [.ref (gA G (β + 0))]) (st1 := [.int v48, .ref (gA G (β + 0))]) hx hb hml hown hts hE hw hl (mX7_carAt l G (M := (wB M β 1 S43)) h48) (va_cwS 2 hts (zS gS_X7_72) rfl rfl rfl kdX7_carAt ⟨Nat.le_of_ble_eq_true rfl, Nat.le_of_ble_eq_true rfl⟩) rfl rfl (Nat.le_of_ble_eq_true rfl) dX7_addCarTo_48 ⟨Nat.zero_le _, Nat.zero_le _⟩ rfl (fun H locs hw => ?_)
  refine lv_iconst (v := (nI 0)) hx hb dX7_addCarTo_51 (by decide) ?_
  refine p_iast hx hb hE hw hn 0 (by decide) (congrFun hR) dX7_addCarTo_52 h (fun S52 h H locs hw => ?_)
  refine lv_aload_n hx hb dX7_addCarTo_53 rfl (lv_at hl 1 rfl) ?_
  refine lv_iload hx hb dX7_addCarTo_54 (lv_at hl 0 rfl) ?_
  refine lv_iconst (v := (nI 5)) hx hb dX7_addCarTo_56 (by decide) ?_
  obtain ⟨v57, h57, h⟩ := cr1_some h
  refine r_callS (As := [.int v3, .int (nI 5)]) (rest := [.ref (gA G (β + 0))]) (st1 := [.int v57, .ref (gA G (β + 0))]) hx hb hml hown hts hE hw hl (mX7_carAt l G (M := (wB M β 1 S52)) h57) (va_cwS 2 hts (zS gS_X7_72) rfl rfl rfl kdX7_carAt ⟨Nat.le_of_ble_eq_true rfl, Nat.le_of_ble_eq_true rfl⟩) rfl rfl (Nat.le_of_ble_eq_true rfl) dX7_addCarTo_57 ⟨Nat.zero_le _, Nat.zero_le _⟩ rfl (fun H locs hw => ?_)
  refine lv_iload_n hx hb dX7_addCarTo_60 rfl (lv_at hl 2 rfl) ?_
  refine p_iast hx hb hE hw hn 0 (by decide) (congrFun hR) dX7_addCarTo_61 h (fun S61 h H locs hw => ?_)
  refine lv_aload_n hx hb dX7_addCarTo_62 rfl (lv_at hl 1 rfl) ?_
  refine lv_iload hx hb dX7_addCarTo_63 (lv_at hl 0 rfl) ?_
  refine lv_bipush (v := (nI 6)) hx hb dX7_addCarTo_65 (by decide) ?_
  obtain ⟨v67, h67, h⟩ := cr1_some h
  refine r_callS (As := [.int v3, .int (nI 6)]) (rest := [.ref (gA G (β + 0))]) (st1 := [.int v67, .ref (gA G (β + 0))]) hx hb hml hown hts hE hw hl (mX7_carAt l G (M := (wB M β 1 S61)) h67) (va_cwS 2 hts (zS gS_X7_72) rfl rfl rfl kdX7_carAt ⟨Nat.le_of_ble_eq_true rfl, Nat.le_of_ble_eq_true rfl⟩) rfl rfl (Nat.le_of_ble_eq_true rfl) dX7_addCarTo_67 ⟨Nat.zero_le _, Nat.zero_le _⟩ rfl (fun H locs hw => ?_)
  refine lv_iconst (v := (nI 0)) hx hb dX7_addCarTo_70 (by decide) ?_
  refine p_iast hx hb hE hw hn 0 (by decide) (congrFun hR) dX7_addCarTo_71 h (fun S71 h H locs hw => ?_)
  refine lv_aload_n hx hb dX7_addCarTo_72 rfl (lv_at hl 1 rfl) ?_
  refine lv_iload_n hx hb dX7_addCarTo_73 rfl (lv_at hl 2 rfl) ?_
  refine lv_iconst (v := (nI 5)) hx hb dX7_addCarTo_74 (by decide) ?_
  refine lv_aload_n hx hb dX7_addCarTo_75 rfl (lv_at hl 1 rfl) ?_
  refine lv_iload_n hx hb dX7_addCarTo_76 rfl (lv_at hl 2 rfl) ?_
  obtain ⟨v77, h77, h⟩ := cr1_some h
  refine r_callS (As := [.ref (gA G (β + 0)), .int a2]) (rest := [.int (nI 5), .int a2, .ref (gA G (β + 0))]) (st1 := [.int v77, .int (nI 5), .int a2, .ref (gA G (β + 0))]) hx hb hml hown hts hE hw hl (mX7_sizeOf l G (by omega) hR h77) (va_cwS 2 hts (zS gS_X7_64) rfl rfl rfl kdX7_sizeOf ⟨Nat.le_of_ble_eq_true rfl, Nat.le_of_ble_eq_true rfl⟩) rfl rfl (Nat.le_of_ble_eq_true rfl) dX7_addCarTo_77 ⟨Nat.zero_le _, Nat.zero_le _⟩ rfl (fun H locs hw => ?_)
  refine lv_iadd hx hb dX7_addCarTo_80 ?_
  obtain ⟨v81, h81, h⟩ := cr1_some h
  refine r_callS (As := [.int a2, .int ((nI 5) + v77)]) (rest := [.ref (gA G (β + 0))]) (st1 := [.int v81, .ref (gA G (β + 0))]) hx hb hml hown hts hE hw hl (mX7_convoyAt l G (M := (wB M β 1 S71)) h81) (va_cwS 2 hts (zS gS_X7_51) rfl rfl rfl kdX7_convoyAt ⟨Nat.le_of_ble_eq_true rfl, Nat.le_of_ble_eq_true rfl⟩) rfl rfl (Nat.le_of_ble_eq_true rfl) dX7_addCarTo_81 ⟨Nat.zero_le _, Nat.zero_le _⟩ rfl (fun H locs hw => ?_)
  refine lv_iload hx hb dX7_addCarTo_84 (lv_at hl 0 rfl) ?_
  refine p_iast hx hb hE hw hn 0 (by decide) (congrFun hR) dX7_addCarTo_86 h (fun S86 h H locs hw => ?_)
  refine lv_aload_n hx hb dX7_addCarTo_87 rfl (lv_at hl 1 rfl) ?_
  refine lv_iload_n hx hb dX7_addCarTo_88 rfl (lv_at hl 2 rfl) ?_
  refine lv_iconst (v := (nI 1)) hx hb dX7_addCarTo_89 (by decide) ?_
  obtain ⟨v90, h90, h⟩ := cr1_some h
  refine r_callS (As := [.int a2, .int (nI 1)]) (rest := [.ref (gA G (β + 0))]) (st1 := [.int v90, .ref (gA G (β + 0))]) hx hb hml hown hts hE hw hl (mX7_convoyAt l G (M := (wB M β 1 S86)) h90) (va_cwS 2 hts (zS gS_X7_51) rfl rfl rfl kdX7_convoyAt ⟨Nat.le_of_ble_eq_true rfl, Nat.le_of_ble_eq_true rfl⟩) rfl rfl (Nat.le_of_ble_eq_true rfl) dX7_addCarTo_90 ⟨Nat.zero_le _, Nat.zero_le _⟩ rfl (fun H locs hw => ?_)
  refine lv_dup2_11 hx hb dX7_addCarTo_93 rfl rfl ?_
  refine p_iald hx hb hE hw hn 0 (by decide) (congrFun hR) dX7_addCarTo_94 h (fun v94 h => ?_)
  refine lv_iconst (v := (nI 1)) hx hb dX7_addCarTo_95 (by decide) ?_
  refine lv_iadd hx hb dX7_addCarTo_96 ?_
  refine p_iast hx hb hE hw hn 0 (by decide) (congrFun hR) dX7_addCarTo_97 h (fun S97 h H locs hw => ?_)
  refine lv_aload_n hx hb dX7_addCarTo_98 rfl (lv_at hl 1 rfl) ?_
  refine lv_bipush (v := (nI 6)) hx hb dX7_addCarTo_99 (by decide) ?_
  refine lv_dup2_11 hx hb dX7_addCarTo_101 rfl rfl ?_
  refine p_iald hx hb hE hw hn 0 (by decide) (congrFun hR) dX7_addCarTo_102 h (fun v102 h => ?_)
  refine lv_iconst (v := (nI 1)) hx hb dX7_addCarTo_103 (by decide) ?_
  refine lv_iadd hx hb dX7_addCarTo_104 ?_
  refine p_iast hx hb hE hw hn 0 (by decide) (congrFun hR) dX7_addCarTo_105 h (fun S105 h H locs hw => ?_)
  exact e_vw hx hb hr hlocks hw dX7_addCarTo_106 h

set_option maxHeartbeats 4000000 in
set_option maxRecDepth 100000 in
theorem mX7_append (l : Launch) (G : mG) {β : Nat} {M S S' : mM} {a1 : Int32} {r : Int32} (hn : β + 8 ≤ gN G) (hR : isMod G β) (h : pX7_append a1 S = some (r, S')) : MC l G yX7_append zzX7_append 1 25 [.ref (gA G (β + 0)), .int a1] (wB M β 8 S) (wB M β 8 S') (some (.int r)) := by
  refine mc_of (cc := cX7_append) (maxL := 2) (ret := (some .int)) (by decide) rfl (Nat.le_of_ble_eq_true rfl) ?_
  intro p e s m args below meth c H ls hx hb hr hts hown hml hlocks hE hw hl
  have hl : lv_has ls 2 [(0, .ref (gA G (β + 0))), (1, .int a1)] := hl
  have hinX7 : ∀ w ∈ wsX70, w ∈ zzX7_append := fun w h9 => wz_in (zinX7 w h9)
  have k32 : ∀ (x1 : Int32) (t1 : Int32) (S : mM) (H : Heap) (locs : List Loc) (ls : Array Slot), pX7_append_b32  x1 t1 S = some (r, S') → mW G s (wB M β 8 S) H locs → lv_has ls 2 [(0, .ref (gA G (β + 0))), (1, .int x1)] → W p l e { frames := 1, cells := 0, slots := 0, locals := 25 } s m args below meth c H locs 0 0 (mZ below G (some (.int r)) (wB M β 8 S') args s) (F0 m 32 ls [.int t1, .ref (gA G (β + 0))]) := by
    intro x1 t1 S H locs ls h hw hl
    unfold pX7_append_b32 at h
    obtain ⟨v32, S32, h32, h⟩ := cw2_some h
    refine r_callV (As := [.int t1]) (rest := []) (st1 := [.int v32]) hx hb hml hown hts hE hw hl (mX7_refused l G (by omega) hR h32) (cwV 1 hts (zV gV_X7_146) rfl rfl rfl kdX7_refused ⟨Nat.le_of_ble_eq_true rfl, Nat.le_of_ble_eq_true rfl⟩) (by omega) (congrFun hR.1 _) rfl rfl rfl rfl (Nat.le_of_ble_eq_true rfl) dX7_append_32 ⟨Nat.zero_le _, Nat.zero_le _⟩ rfl (fun H locs hw => ?_)
    refine b_eq (tgt := 40) hx hb dX7_append_35 (by decide) h (fun h => ?_) (fun h => ?_)
    · refine lv_aload_n hx hb dX7_append_40 rfl (lv_at hl 0 rfl) ?_
      refine r_get (v := .ref (gA G (β + 1))) hx hb hts hinX7 hown hE hw hn 0 (by decide) (congrFun hR.1 _) rfl 1 (by decide) (hts _ (wz_in qF_X7_7)) rfl dX7_append_41 ?_
      refine lv_aload_n hx hb dX7_append_44 rfl (lv_at hl 0 rfl) ?_
      refine p_get hx hb hts hinX7 hown hE hw hn 0 (by decide) (congrFun hR.1 _) rfl 2 (by decide) (hts _ (wz_in qF_X7_143)) rfl dX7_append_45 h (fun v45 h => ?_)
      refine lv_iload_n hx hb dX7_append_48 rfl (lv_at hl 1 rfl) ?_
      refine p_iast hx hb hE hw hn 1 (by decide) (congrFun hR.2.1) dX7_append_49 h (fun S49 h H locs hw => ?_)
      refine lv_aload_n hx hb dX7_append_50 rfl (lv_at hl 0 rfl) ?_
      refine lv_dup hx hb dX7_append_51 rfl ?_
      refine p_get hx hb hts hinX7 hown hE hw hn 0 (by decide) (congrFun hR.1 _) rfl 2 (by decide) (hts _ (wz_in qF_X7_143)) rfl dX7_append_52 h (fun v52 h => ?_)
      refine lv_iconst (v := (nI 1)) hx hb dX7_append_55 (by decide) ?_
      refine lv_iadd hx hb dX7_append_56 ?_
      refine p_put hx hb hts hinX7 tyX7 tyX7_ok nmX7 hown hE hw hn 0 (by decide) (congrFun hR.1 _) rfl 2 (by decide) (hts _ (wz_in qF_X7_143)) rfl (by decide +kernel) (Nat.le_of_ble_eq_true rfl) (congrFun hR.1 _) dX7_append_57 h (fun S57 h H locs hw => ?_)
      refine lv_aload_n hx hb dX7_append_60 rfl (lv_at hl 0 rfl) ?_
      refine p_get hx hb hts hinX7 hown hE hw hn 0 (by decide) (congrFun hR.1 _) rfl 2 (by decide) (hts _ (wz_in qF_X7_143)) rfl dX7_append_61 h (fun v61 h => ?_)
      exact e_iw hx hb hr hlocks hw dX7_append_64 h
    · refine lv_iconst (v := (nI 0)) hx hb dX7_append_38 (by decide) ?_
      exact e_iw hx hb hr hlocks hw dX7_append_39 h
  unfold pX7_append at h
  refine lv_aload_n hx hb dX7_append_0 rfl (lv_at hl 0 rfl) ?_
  refine lv_iload_n hx hb dX7_append_1 rfl (lv_at hl 1 rfl) ?_
  refine lv_i2l hx hb dX7_append_2 rfl ?_
  refine lv_lconst (v := (lN 0)) hx hb dX7_append_3 (by decide) ?_
  refine lv_ldc2 (v := (lN 255)) hx hb hown (hts _ (wz_in qK_X7_137)) dX7_append_4 ?_
  obtain ⟨v7, h7, h⟩ := cr1_some h
  refine r_callS (As := [.long (a1.toInt64), .long (lN 0), .long (lN 255)]) (rest := [.ref (gA G (β + 0))]) (st1 := [.int v7, .ref (gA G (β + 0))]) hx hb hml hown hts hE hw hl (mX7_in l G (M := (wB M β 8 S)) h7) (va_cwS 3 hts (zS gS_X7_139) rfl rfl rfl kdX7_in ⟨Nat.le_of_ble_eq_true rfl, Nat.le_of_ble_eq_true rfl⟩) rfl rfl (Nat.le_of_ble_eq_true rfl) dX7_append_7 ⟨Nat.zero_le _, Nat.zero_le _⟩ rfl (fun H locs hw => ?_)
  refine b_ne (tgt := 17) hx hb dX7_append_10 (by decide) h (fun h => ?_) (fun h => ?_)
  · refine lv_aload_n hx hb dX7_append_17 rfl (lv_at hl 0 rfl) ?_
    refine p_get hx hb hts hinX7 hown hE hw hn 0 (by decide) (congrFun hR.1 _) rfl 2 (by decide) (hts _ (wz_in qF_X7_143)) rfl dX7_append_18 h (fun v18 h => ?_)
    refine lv_sipush (v := (nI 140)) hx hb dX7_append_21 (by decide) ?_
    refine bi_ne (tgt := 31) hx hb dX7_append_24 (by decide) h (fun h => ?_) (fun h => ?_)
    · refine lv_iconst (v := (nI 0)) hx hb dX7_append_31 (by decide) ?_
      exact k32  a1 (nI 0) S _ _ _ h hw (lv_sub hl [0, 1] rfl)
    · refine lv_iconst (v := (nI 2)) hx hb dX7_append_27 (by decide) ?_
      refine lv_goto (tgt := 32) hx hb dX7_append_28 (by decide) ?_
      exact k32  a1 (nI 2) S _ _ _ h hw (lv_sub hl [0, 1] rfl)
  · refine lv_iconst (v := (nI 1)) hx hb dX7_append_13 (by decide) ?_
    refine lv_goto (tgt := 32) hx hb dX7_append_14 (by decide) ?_
    exact k32  a1 (nI 1) S _ _ _ h hw (lv_sub hl [0, 1] rfl)

set_option maxHeartbeats 4000000 in
set_option maxRecDepth 100000 in
theorem mX7_clearText (l : Launch) (G : mG) {β : Nat} {M S S' : mM} {r : Int32} (hn : β + 8 ≤ gN G) (hR : isMod G β) (h : pX7_clearText S = some (r, S')) : MC l G yX7_clearText zzX7_clearText 0 0 [.ref (gA G (β + 0))] (wB M β 8 S) (wB M β 8 S') (some (.int r)) := by
  refine mc_of (cc := cX7_clearText) (maxL := 2) (ret := (some .int)) (by decide) rfl (Nat.le_of_ble_eq_true rfl) ?_
  intro p e s m args below meth c H ls hx hb hr hts hown hml hlocks hE hw hl
  have hl : lv_has ls 2 [(0, .ref (gA G (β + 0)))] := hl
  have hinX7 : ∀ w ∈ wsX70, w ∈ zzX7_clearText := fun w h9 => wz_in (zinX7 w h9)
  unfold pX7_clearText at h
  refine lv_aload_n hx hb dX7_clearText_0 rfl (lv_at hl 0 rfl) ?_
  refine lv_iconst (v := (nI 0)) hx hb dX7_clearText_1 (by decide) ?_
  refine p_put hx hb hts hinX7 tyX7 tyX7_ok nmX7 hown hE hw hn 0 (by decide) (congrFun hR.1 _) rfl 0 (by decide) (hts _ (wz_in qF_X7_39)) rfl (by decide +kernel) (Nat.le_of_ble_eq_true rfl) (congrFun hR.1 _) dX7_clearText_2 h (fun S2 h H locs hw => ?_)
  refine lv_aload_n hx hb dX7_clearText_5 rfl (lv_at hl 0 rfl) ?_
  refine p_get hx hb hts hinX7 hown hE hw hn 0 (by decide) (congrFun hR.1 _) rfl 2 (by decide) (hts _ (wz_in qF_X7_143)) rfl dX7_clearText_6 h (fun v6 h => ?_)
  refine lv_istore_n (lv' := [(1, .int v6), (0, .ref (gA G (β + 0)))]) hx hb dX7_clearText_9 rfl hl (by decide) rfl (fun ls hl => ?_)
  refine lv_aload_n hx hb dX7_clearText_10 rfl (lv_at hl 1 rfl) ?_
  refine lv_iconst (v := (nI 0)) hx hb dX7_clearText_11 (by decide) ?_
  refine p_put hx hb hts hinX7 tyX7 tyX7_ok nmX7 hown hE hw hn 0 (by decide) (congrFun hR.1 _) rfl 2 (by decide) (hts _ (wz_in qF_X7_143)) rfl (by decide +kernel) (Nat.le_of_ble_eq_true rfl) (congrFun hR.1 _) dX7_clearText_12 h (fun S12 h H locs hw => ?_)
  refine lv_iload_n hx hb dX7_clearText_15 rfl (lv_at hl 0 rfl) ?_
  exact e_iw hx hb hr hlocks hw dX7_clearText_16 h

set_option maxHeartbeats 4000000 in
set_option maxRecDepth 100000 in
theorem mX7_isNext (l : Launch) (G : mG) {β : Nat} {M S : mM} {a1 : Int32} {r : Int32} (hn : β + 8 ≤ gN G) (hR : isMod G β) (h : pX7_isNext a1 S = some r) : MC l G yX7_isNext zzX7_isNext 0 0 [.ref (gA G (β + 0)), .int a1] (wB M β 8 S) (wB M β 8 S) (some (.int r)) := by
  refine mc_of (cc := cX7_isNext) (maxL := 2) (ret := (some .boolean)) (by decide) rfl (Nat.le_of_ble_eq_true rfl) ?_
  intro p e s m args below meth c H ls hx hb hr hts hown hml hlocks hE hw hl
  have hl : lv_has ls 2 [(0, .ref (gA G (β + 0))), (1, .int a1)] := hl
  have hinX7 : ∀ w ∈ wsX70, w ∈ zzX7_isNext := fun w h9 => wz_in (zinX7 w h9)
  unfold pX7_isNext at h
  refine lv_aload_n hx hb dX7_isNext_0 rfl (lv_at hl 0 rfl) ?_
  refine p_get hx hb hts hinX7 hown hE hw hn 0 (by decide) (congrFun hR.1 _) rfl 3 (by decide) (hts _ (wz_in qF_X7_150)) rfl dX7_isNext_1 h (fun v1 h => ?_)
  refine lv_aload_n hx hb dX7_isNext_4 rfl (lv_at hl 0 rfl) ?_
  refine p_get hx hb hts hinX7 hown hE hw hn 0 (by decide) (congrFun hR.1 _) rfl 2 (by decide) (hts _ (wz_in qF_X7_143)) rfl dX7_isNext_5 h (fun v5 h => ?_)
  refine bi_ge (tgt := 28) hx hb dX7_isNext_8 (by decide) h (fun h => ?_) (fun h => ?_)
  · refine lv_iconst (v := (nI 0)) hx hb dX7_isNext_28 (by decide) ?_
    exact e_z hx hb hr hlocks hw dX7_isNext_29 h
  · refine lv_aload_n hx hb dX7_isNext_11 rfl (lv_at hl 0 rfl) ?_
    refine r_get (v := .ref (gA G (β + 1))) hx hb hts hinX7 hown hE hw hn 0 (by decide) (congrFun hR.1 _) rfl 1 (by decide) (hts _ (wz_in qF_X7_7)) rfl dX7_isNext_12 ?_
    refine lv_aload_n hx hb dX7_isNext_15 rfl (lv_at hl 0 rfl) ?_
    refine p_get hx hb hts hinX7 hown hE hw hn 0 (by decide) (congrFun hR.1 _) rfl 3 (by decide) (hts _ (wz_in qF_X7_150)) rfl dX7_isNext_16 h (fun v16 h => ?_)
    refine p_iald hx hb hE hw hn 1 (by decide) (congrFun hR.2.1) dX7_isNext_19 h (fun v19 h => ?_)
    refine lv_iload_n hx hb dX7_isNext_20 rfl (lv_at hl 1 rfl) ?_
    refine bi_ne (tgt := 28) hx hb dX7_isNext_21 (by decide) h (fun h => ?_) (fun h => ?_)
    · refine lv_iconst (v := (nI 0)) hx hb dX7_isNext_28 (by decide) ?_
      exact e_z hx hb hr hlocks hw dX7_isNext_29 h
    · refine lv_iconst (v := (nI 1)) hx hb dX7_isNext_24 (by decide) ?_
      refine lv_goto (tgt := 29) hx hb dX7_isNext_25 (by decide) ?_
      exact e_z hx hb hr hlocks hw dX7_isNext_29 h

set_option maxHeartbeats 4000000 in
set_option maxRecDepth 100000 in
theorem mX7_accept (l : Launch) (G : mG) {β : Nat} {M S S' : mM} {a1 : Int32} (hn : β + 8 ≤ gN G) (hR : isMod G β) (h : pX7_accept a1 S = some S') : MC l G yX7_accept zzX7_accept 0 0 [.ref (gA G (β + 0)), .int a1] (wB M β 8 S) (wB M β 8 S') none := by
  refine mc_of (cc := cX7_accept) (maxL := 2) (ret := none) (by decide) rfl (Nat.le_of_ble_eq_true rfl) ?_
  intro p e s m args below meth c H ls hx hb hr hts hown hml hlocks hE hw hl
  have hl : lv_has ls 2 [(0, .ref (gA G (β + 0))), (1, .int a1)] := hl
  have hinX7 : ∀ w ∈ wsX70, w ∈ zzX7_accept := fun w h9 => wz_in (zinX7 w h9)
  have k17 : ∀ (t1 : Int32) (S : mM) (H : Heap) (locs : List Loc) (ls : Array Slot), pX7_accept_b17  t1 S = some S' → mW G s (wB M β 8 S) H locs → lv_has ls 2 [(0, .ref (gA G (β + 0)))] → W p l e { frames := 0, cells := 0, slots := 0, locals := 0 } s m args below meth c H locs 0 0 (mZ below G none (wB M β 8 S') args s) (F0 m 17 ls [.int t1, .ref (gA G (β + 0))]) := by
    intro t1 S H locs ls h hw hl
    unfold pX7_accept_b17 at h
    refine p_putz hx hb hts hinX7 tyX7 tyX7_ok nmX7 hown hE hw hn 0 (by decide) (congrFun hR.1 _) rfl 4 (by decide) (hts _ (wz_in qF_X7_153)) rfl (by decide +kernel) (Nat.le_of_ble_eq_true rfl) (congrFun hR.1 _) dX7_accept_17 h (fun S17 h H locs hw => ?_)
    refine lv_aload_n hx hb dX7_accept_20 rfl (lv_at hl 0 rfl) ?_
    refine lv_dup hx hb dX7_accept_21 rfl ?_
    refine p_get hx hb hts hinX7 hown hE hw hn 0 (by decide) (congrFun hR.1 _) rfl 3 (by decide) (hts _ (wz_in qF_X7_150)) rfl dX7_accept_22 h (fun v22 h => ?_)
    refine lv_aload_n hx hb dX7_accept_25 rfl (lv_at hl 0 rfl) ?_
    refine p_get hx hb hts hinX7 hown hE hw hn 0 (by decide) (congrFun hR.1 _) rfl 4 (by decide) (hts _ (wz_in qF_X7_153)) rfl dX7_accept_26 h (fun v26 h => ?_)
    refine b_eq (tgt := 36) hx hb dX7_accept_29 (by decide) h (fun h => ?_) (fun h => ?_)
    · refine lv_iconst (v := (nI 0)) hx hb dX7_accept_36 (by decide) ?_
      refine lv_iadd hx hb dX7_accept_37 ?_
      refine p_put hx hb hts hinX7 tyX7 tyX7_ok nmX7 hown hE hw hn 0 (by decide) (congrFun hR.1 _) rfl 3 (by decide) (hts _ (wz_in qF_X7_150)) rfl (by decide +kernel) (Nat.le_of_ble_eq_true rfl) (congrFun hR.1 _) dX7_accept_38 h (fun S38 h H locs hw => ?_)
      exact e_vw hx hb hr hlocks hw dX7_accept_41 h
    · refine lv_iconst (v := (nI 1)) hx hb dX7_accept_32 (by decide) ?_
      refine lv_goto (tgt := 37) hx hb dX7_accept_33 (by decide) ?_
      refine lv_iadd hx hb dX7_accept_37 ?_
      refine p_put hx hb hts hinX7 tyX7 tyX7_ok nmX7 hown hE hw hn 0 (by decide) (congrFun hR.1 _) rfl 3 (by decide) (hts _ (wz_in qF_X7_150)) rfl (by decide +kernel) (Nat.le_of_ble_eq_true rfl) (congrFun hR.1 _) dX7_accept_38 h (fun S38 h H locs hw => ?_)
      exact e_vw hx hb hr hlocks hw dX7_accept_41 h
  have k16 : ∀ (S : mM) (H : Heap) (locs : List Loc) (ls : Array Slot), pX7_accept_b16  S = some S' → mW G s (wB M β 8 S) H locs → lv_has ls 2 [(0, .ref (gA G (β + 0)))] → W p l e { frames := 0, cells := 0, slots := 0, locals := 0 } s m args below meth c H locs 0 0 (mZ below G none (wB M β 8 S') args s) (F0 m 16 ls [.ref (gA G (β + 0))]) := by
    intro S H locs ls h hw hl
    unfold pX7_accept_b16 at h
    refine lv_iconst (v := (nI 0)) hx hb dX7_accept_16 (by decide) ?_
    exact k17  (nI 0) S _ _ _ h hw (lv_sub hl [0] rfl)
  unfold pX7_accept at h
  refine lv_aload_n hx hb dX7_accept_0 rfl (lv_at hl 0 rfl) ?_
  refine lv_aload_n hx hb dX7_accept_1 rfl (lv_at hl 0 rfl) ?_
  refine p_get hx hb hts hinX7 hown hE hw hn 0 (by decide) (congrFun hR.1 _) rfl 4 (by decide) (hts _ (wz_in qF_X7_153)) rfl dX7_accept_2 h (fun v2 h => ?_)
  refine b_eq (tgt := 16) hx hb dX7_accept_5 (by decide) h (fun h => ?_) (fun h => ?_)
  · exact k16  S _ _ _ h hw (lv_sub hl [0] rfl)
  · refine lv_iload_n hx hb dX7_accept_8 rfl (lv_at hl 1 rfl) ?_
    refine b_eq (tgt := 16) hx hb dX7_accept_9 (by decide) h (fun h => ?_) (fun h => ?_)
    · exact k16  S _ _ _ h hw (lv_sub hl [0] rfl)
    · refine lv_iconst (v := (nI 1)) hx hb dX7_accept_12 (by decide) ?_
      refine lv_goto (tgt := 17) hx hb dX7_accept_13 (by decide) ?_
      exact k17  (nI 1) S _ _ _ h hw (lv_sub hl [0] rfl)

set_option maxHeartbeats 4000000 in
set_option maxRecDepth 100000 in
theorem mX7_digit (l : Launch) (G : mG) {β : Nat} {M S S' : mM} {a1 : Int32} {a2 : Int32} {r : Int32} (hn : β + 8 ≤ gN G) (hR : isMod G β) (h : pX7_digit a1 a2 S = some (r, S')) : MC l G yX7_digit zzX7_digit 1 25 [.ref (gA G (β + 0)), .int a1, .int a2] (wB M β 8 S) (wB M β 8 S') (some (.int r)) := by
  refine mc_of (cc := cX7_digit) (maxL := 4) (ret := (some .int)) (by decide) rfl (Nat.le_of_ble_eq_true rfl) ?_
  intro p e s m args below meth c H ls hx hb hr hts hown hml hlocks hE hw hl
  have hl : lv_has ls 4 [(0, .ref (gA G (β + 0))), (1, .int a1), (2, .int a2)] := hl
  have hinX7 : ∀ w ∈ wsX70, w ∈ zzX7_digit := fun w h9 => wz_in (zinX7 w h9)
  have k59 : ∀ (x1 : Int32) (x3 : Int32) (t1 : Int32) (S : mM) (H : Heap) (locs : List Loc) (ls : Array Slot), pX7_digit_b59  x1 x3 t1 S = some (r, S') → mW G s (wB M β 8 S) H locs → lv_has ls 4 [(0, .ref (gA G (β + 0))), (1, .int x1), (3, .int x3)] → W p l e { frames := 1, cells := 0, slots := 0, locals := 25 } s m args below meth c H locs 0 0 (mZ below G (some (.int r)) (wB M β 8 S') args s) (F0 m 59 ls [.int t1, .ref (gA G (β + 0))]) := by
    intro x1 x3 t1 S H locs ls h hw hl
    unfold pX7_digit_b59 at h
    obtain ⟨S59, h59, h⟩ := cr1_some h
    refine r_callV (As := [.int t1]) (rest := []) (st1 := []) hx hb hml hown hts hE hw hl (mX7_accept l G (by omega) hR h59) (cwV 1 hts (zV gV_X7_159) rfl rfl rfl kdX7_accept ⟨Nat.le_of_ble_eq_true rfl, Nat.le_of_ble_eq_true rfl⟩) (by omega) (congrFun hR.1 _) rfl rfl rfl rfl (Nat.le_of_ble_eq_true rfl) dX7_digit_59 ⟨Nat.zero_le _, Nat.zero_le _⟩ rfl (fun H locs hw => ?_)
    refine lv_aload_n hx hb dX7_digit_62 rfl (lv_at hl 0 rfl) ?_
    refine p_get hx hb hts hinX7 hown hE hw hn 0 (by decide) (congrFun hR.1 _) rfl 4 (by decide) (hts _ (wz_in qF_X7_153)) rfl dX7_digit_63 h (fun v63 h => ?_)
    refine b_eq (tgt := 73) hx hb dX7_digit_66 (by decide) h (fun h => ?_) (fun h => ?_)
    · refine lv_iload_n hx hb dX7_digit_73 rfl (lv_at hl 1 rfl) ?_
      exact e_iw hx hb hr hlocks hw dX7_digit_74 h
    · refine lv_iload_n hx hb dX7_digit_69 rfl (lv_at hl 2 rfl) ?_
      refine lv_goto (tgt := 74) hx hb dX7_digit_70 (by decide) ?_
      exact e_iw hx hb hr hlocks hw dX7_digit_74 h
  have k58 : ∀ (x1 : Int32) (x3 : Int32) (S : mM) (H : Heap) (locs : List Loc) (ls : Array Slot), pX7_digit_b58  x1 x3 S = some (r, S') → mW G s (wB M β 8 S) H locs → lv_has ls 4 [(0, .ref (gA G (β + 0))), (1, .int x1), (3, .int x3)] → W p l e { frames := 1, cells := 0, slots := 0, locals := 25 } s m args below meth c H locs 0 0 (mZ below G (some (.int r)) (wB M β 8 S') args s) (F0 m 58 ls [.ref (gA G (β + 0))]) := by
    intro x1 x3 S H locs ls h hw hl
    unfold pX7_digit_b58 at h
    refine lv_iconst (v := (nI 0)) hx hb dX7_digit_58 (by decide) ?_
    exact k59  x1 x3 (nI 0) S _ _ _ h hw (lv_sub hl [0, 1, 2] rfl)
  have k28 : ∀ (x1 : Int32) (x2 : Int32) (t0 : Int32) (S : mM) (H : Heap) (locs : List Loc) (ls : Array Slot), pX7_digit_b28  x1 x2 t0 S = some (r, S') → mW G s (wB M β 8 S) H locs → lv_has ls 4 [(0, .ref (gA G (β + 0))), (1, .int x1), (2, .int x2)] → W p l e { frames := 1, cells := 0, slots := 0, locals := 25 } s m args below meth c H locs 0 0 (mZ below G (some (.int r)) (wB M β 8 S') args s) (F0 m 28 ls [.int t0]) := by
    intro x1 x2 t0 S H locs ls h hw hl
    unfold pX7_digit_b28 at h
    refine lv_istore_n (lv' := [(3, .int t0), (0, .ref (gA G (β + 0))), (1, .int x1), (2, .int x2)]) hx hb dX7_digit_28 rfl hl (by decide) rfl (fun ls hl => ?_)
    refine lv_aload_n hx hb dX7_digit_29 rfl (lv_at hl 1 rfl) ?_
    refine lv_iload_n hx hb dX7_digit_30 rfl (lv_at hl 0 rfl) ?_
    refine lv_i2l hx hb dX7_digit_31 rfl ?_
    refine lv_lconst (v := (lN 0)) hx hb dX7_digit_32 (by decide) ?_
    refine lv_ldc2 (v := (lN 9)) hx hb hown (hts _ (wz_in qK_X7_157)) dX7_digit_33 ?_
    obtain ⟨v36, h36, h⟩ := cr1_some h
    refine r_callS (As := [.long (t0.toInt64), .long (lN 0), .long (lN 9)]) (rest := [.ref (gA G (β + 0))]) (st1 := [.int v36, .ref (gA G (β + 0))]) hx hb hml hown hts hE hw hl (mX7_in l G (M := (wB M β 8 S)) h36) (va_cwS 3 hts (zS gS_X7_139) rfl rfl rfl kdX7_in ⟨Nat.le_of_ble_eq_true rfl, Nat.le_of_ble_eq_true rfl⟩) rfl rfl (Nat.le_of_ble_eq_true rfl) dX7_digit_36 ⟨Nat.zero_le _, Nat.zero_le _⟩ rfl (fun H locs hw => ?_)
    refine b_eq (tgt := 58) hx hb dX7_digit_39 (by decide) h (fun h => ?_) (fun h => ?_)
    · exact k58  x1 t0 S _ _ _ h hw (lv_sub hl [1, 2, 0] rfl)
    · refine lv_iload_n hx hb dX7_digit_42 rfl (lv_at hl 0 rfl) ?_
      refine lv_i2l hx hb dX7_digit_43 rfl ?_
      refine lv_iload_n hx hb dX7_digit_44 rfl (lv_at hl 2 rfl) ?_
      refine lv_i2l hx hb dX7_digit_45 rfl ?_
      refine lv_iload_n hx hb dX7_digit_46 rfl (lv_at hl 3 rfl) ?_
      refine lv_i2l hx hb dX7_digit_47 rfl ?_
      obtain ⟨v48, h48, h⟩ := cr1_some h
      refine r_callS (As := [.long (t0.toInt64), .long (x1.toInt64), .long (x2.toInt64)]) (rest := [.ref (gA G (β + 0))]) (st1 := [.int v48, .ref (gA G (β + 0))]) hx hb hml hown hts hE hw hl (mX7_in l G (M := (wB M β 8 S)) h48) (va_cwS 3 hts (zS gS_X7_139) rfl rfl rfl kdX7_in ⟨Nat.le_of_ble_eq_true rfl, Nat.le_of_ble_eq_true rfl⟩) rfl rfl (Nat.le_of_ble_eq_true rfl) dX7_digit_48 ⟨Nat.zero_le _, Nat.zero_le _⟩ rfl (fun H locs hw => ?_)
      refine b_eq (tgt := 58) hx hb dX7_digit_51 (by decide) h (fun h => ?_) (fun h => ?_)
      · exact k58  x1 t0 S _ _ _ h hw (lv_sub hl [1, 2, 0] rfl)
      · refine lv_iconst (v := (nI 1)) hx hb dX7_digit_54 (by decide) ?_
        refine lv_goto (tgt := 59) hx hb dX7_digit_55 (by decide) ?_
        exact k59  x1 t0 (nI 1) S _ _ _ h hw (lv_sub hl [1, 2, 0] rfl)
  unfold pX7_digit at h
  refine lv_aload_n hx hb dX7_digit_0 rfl (lv_at hl 0 rfl) ?_
  refine p_get hx hb hts hinX7 hown hE hw hn 0 (by decide) (congrFun hR.1 _) rfl 3 (by decide) (hts _ (wz_in qF_X7_150)) rfl dX7_digit_1 h (fun v1 h => ?_)
  refine lv_aload_n hx hb dX7_digit_4 rfl (lv_at hl 0 rfl) ?_
  refine p_get hx hb hts hinX7 hown hE hw hn 0 (by decide) (congrFun hR.1 _) rfl 2 (by decide) (hts _ (wz_in qF_X7_143)) rfl dX7_digit_5 h (fun v5 h => ?_)
  refine bi_ge (tgt := 26) hx hb dX7_digit_8 (by decide) h (fun h => ?_) (fun h => ?_)
  · refine lv_bipush (v := (-9)) hx hb dX7_digit_26 (by decide) ?_
    exact k28  a1 a2 (-9) S _ _ _ h hw (lv_sub hl [0, 1, 2] rfl)
  · refine lv_aload_n hx hb dX7_digit_11 rfl (lv_at hl 0 rfl) ?_
    refine r_get (v := .ref (gA G (β + 1))) hx hb hts hinX7 hown hE hw hn 0 (by decide) (congrFun hR.1 _) rfl 1 (by decide) (hts _ (wz_in qF_X7_7)) rfl dX7_digit_12 ?_
    refine lv_aload_n hx hb dX7_digit_15 rfl (lv_at hl 0 rfl) ?_
    refine p_get hx hb hts hinX7 hown hE hw hn 0 (by decide) (congrFun hR.1 _) rfl 3 (by decide) (hts _ (wz_in qF_X7_150)) rfl dX7_digit_16 h (fun v16 h => ?_)
    refine p_iald hx hb hE hw hn 1 (by decide) (congrFun hR.2.1) dX7_digit_19 h (fun v19 h => ?_)
    refine lv_bipush (v := (nI 48)) hx hb dX7_digit_20 (by decide) ?_
    refine lv_isub hx hb dX7_digit_22 ?_
    refine lv_goto (tgt := 28) hx hb dX7_digit_23 (by decide) ?_
    exact k28  a1 a2 (v19 - (nI 48)) S _ _ _ h hw (lv_sub hl [0, 1, 2] rfl)

set_option maxHeartbeats 4000000 in
set_option maxRecDepth 100000 in
theorem mX7_two (l : Launch) (G : mG) {β : Nat} {M S S' : mM} {a1 : Int32} {a2 : Int32} {r : Int32} (hn : β + 8 ≤ gN G) (hR : isMod G β) (h : pX7_two a1 a2 S = some (r, S')) : MC l G yX7_two zzX7_two 2 48 [.ref (gA G (β + 0)), .int a1, .int a2] (wB M β 8 S) (wB M β 8 S') (some (.int r)) := by
  refine mc_of (cc := cX7_two) (maxL := 6) (ret := (some .int)) (by decide) rfl (Nat.le_of_ble_eq_true rfl) ?_
  intro p e s m args below meth c H ls hx hb hr hts hown hml hlocks hE hw hl
  have hl : lv_has ls 6 [(0, .ref (gA G (β + 0))), (1, .int a1), (2, .int a2)] := hl
  have k59 : ∀ (t0 : Int32) (t2 : Int32) (t3 : Int32) (S : mM) (H : Heap) (locs : List Loc) (ls : Array Slot), pX7_two_b59  t0 t2 t3 S = some (r, S') → mW G s (wB M β 8 S) H locs → lv_has ls 6 [] → W p l e { frames := 2, cells := 0, slots := 0, locals := 48 } s m args below meth c H locs 0 0 (mZ below G (some (.int r)) (wB M β 8 S') args s) (F0 m 59 ls [.int t3, .int t2, .ref (gA G (β + 0)), .int t0]) := by
    intro t0 t2 t3 S H locs ls h hw hl
    unfold pX7_two_b59 at h
    obtain ⟨v59, S59, h59, h⟩ := cw2_some h
    refine r_callV (As := [.int t2, .int t3]) (rest := [.int t0]) (st1 := [.int v59, .int t0]) hx hb hml hown hts hE hw hl (mX7_digit l G (by omega) hR h59) (cwV 2 hts (zV gV_X7_163) rfl rfl rfl kdX7_digit ⟨Nat.le_of_ble_eq_true rfl, Nat.le_of_ble_eq_true rfl⟩) (by omega) (congrFun hR.1 _) rfl rfl rfl rfl (Nat.le_of_ble_eq_true rfl) dX7_two_59 ⟨Nat.zero_le _, Nat.zero_le _⟩ rfl (fun H locs hw => ?_)
    refine lv_iadd hx hb dX7_two_62 ?_
    exact e_iw hx hb hr hlocks hw dX7_two_63 h
  have k45 : ∀ (x5 : Int32) (t0 : Int32) (t2 : Int32) (S : mM) (H : Heap) (locs : List Loc) (ls : Array Slot), pX7_two_b45  x5 t0 t2 S = some (r, S') → mW G s (wB M β 8 S) H locs → lv_has ls 6 [(5, .int x5)] → W p l e { frames := 2, cells := 0, slots := 0, locals := 48 } s m args below meth c H locs 0 0 (mZ below G (some (.int r)) (wB M β 8 S') args s) (F0 m 45 ls [.int t2, .ref (gA G (β + 0)), .int t0]) := by
    intro x5 t0 t2 S H locs ls h hw hl
    unfold pX7_two_b45 at h
    refine lv_iload hx hb dX7_two_45 (lv_at hl 0 rfl) ?_
    refine lv_bipush (v := (nI 9)) hx hb dX7_two_47 (by decide) ?_
    refine bi_le (tgt := 57) hx hb dX7_two_49 (by decide) h (fun h => ?_) (fun h => ?_)
    · refine lv_iload hx hb dX7_two_57 (lv_at hl 0 rfl) ?_
      exact k59  t0 t2 x5 S _ _ _ h hw (lv_sub hl [] rfl)
    · refine lv_bipush (v := (nI 9)) hx hb dX7_two_52 (by decide) ?_
      refine lv_goto (tgt := 59) hx hb dX7_two_54 (by decide) ?_
      exact k59  t0 t2 (nI 9) S _ _ _ h hw (lv_sub hl [] rfl)
  unfold pX7_two at h
  refine lv_aload_n hx hb dX7_two_0 rfl (lv_at hl 0 rfl) ?_
  refine lv_iload_n hx hb dX7_two_1 rfl (lv_at hl 1 rfl) ?_
  refine lv_bipush (v := (nI 10)) hx hb dX7_two_2 (by decide) ?_
  refine lv_idiv hx hb dX7_two_4 (by decide) ?_
  refine lv_iload_n hx hb dX7_two_5 rfl (lv_at hl 2 rfl) ?_
  refine lv_bipush (v := (nI 10)) hx hb dX7_two_6 (by decide) ?_
  refine lv_idiv hx hb dX7_two_8 (by decide) ?_
  obtain ⟨v9, S9, h9, h⟩ := cw2_some h
  refine r_callV (As := [.int (a1 / (nI 10)), .int (a2 / (nI 10))]) (rest := []) (st1 := [.int v9]) hx hb hml hown hts hE hw hl (mX7_digit l G (by omega) hR h9) (cwV 2 hts (zV gV_X7_163) rfl rfl rfl kdX7_digit ⟨Nat.le_of_ble_eq_true rfl, Nat.le_of_ble_eq_true rfl⟩) (by omega) (congrFun hR.1 _) rfl rfl rfl rfl (Nat.le_of_ble_eq_true rfl) dX7_two_9 ⟨Nat.zero_le _, Nat.zero_le _⟩ rfl (fun H locs hw => ?_)
  refine lv_istore_n (lv' := [(3, .int v9), (0, .ref (gA G (β + 0))), (1, .int a1), (2, .int a2)]) hx hb dX7_two_12 rfl hl (by decide) rfl (fun ls hl => ?_)
  refine lv_iload_n hx hb dX7_two_13 rfl (lv_at hl 2 rfl) ?_
  refine lv_bipush (v := (nI 10)) hx hb dX7_two_14 (by decide) ?_
  refine lv_iload_n hx hb dX7_two_16 rfl (lv_at hl 0 rfl) ?_
  refine lv_imul hx hb dX7_two_17 ?_
  refine lv_isub hx hb dX7_two_18 ?_
  refine p_topi h (fun v19 h => ?_)
  refine lv_istore (lv' := [(4, .int v19), (3, .int v9), (0, .ref (gA G (β + 0))), (1, .int a1), (2, .int a2)]) hx hb dX7_two_19 hl (by decide) rfl (fun ls hl => ?_)
  refine lv_iload_n hx hb dX7_two_21 rfl (lv_at hl 4 rfl) ?_
  refine lv_bipush (v := (nI 10)) hx hb dX7_two_22 (by decide) ?_
  refine lv_iload_n hx hb dX7_two_24 rfl (lv_at hl 1 rfl) ?_
  refine lv_imul hx hb dX7_two_25 ?_
  refine lv_isub hx hb dX7_two_26 ?_
  refine p_topi h (fun v27 h => ?_)
  refine lv_istore (lv' := [(5, .int v27), (4, .int v19), (3, .int v9), (0, .ref (gA G (β + 0))), (1, .int a1), (2, .int a2)]) hx hb dX7_two_27 hl (by decide) rfl (fun ls hl => ?_)
  refine lv_bipush (v := (nI 10)) hx hb dX7_two_29 (by decide) ?_
  refine lv_iload_n hx hb dX7_two_31 rfl (lv_at hl 2 rfl) ?_
  refine lv_imul hx hb dX7_two_32 ?_
  refine lv_aload_n hx hb dX7_two_33 rfl (lv_at hl 3 rfl) ?_
  refine lv_iload hx hb dX7_two_34 (lv_at hl 1 rfl) ?_
  refine b_ge (tgt := 43) hx hb dX7_two_36 (by decide) h (fun h => ?_) (fun h => ?_)
  · refine lv_iload hx hb dX7_two_43 (lv_at hl 1 rfl) ?_
    exact k45  v27 ((nI 10) * v9) v19 S9 _ _ _ h hw (lv_sub hl [0] rfl)
  · refine lv_iconst (v := (nI 0)) hx hb dX7_two_39 (by decide) ?_
    refine lv_goto (tgt := 45) hx hb dX7_two_40 (by decide) ?_
    exact k45  v27 ((nI 10) * v9) (nI 0) S9 _ _ _ h hw (lv_sub hl [0] rfl)

set_option maxHeartbeats 4000000 in
set_option maxRecDepth 100000 in
theorem mX7_demand (l : Launch) (G : mG) {β : Nat} {M S S' : mM} {a1 : Int32} (hn : β + 8 ≤ gN G) (hR : isMod G β) (h : pX7_demand a1 S = some S') : MC l G yX7_demand zzX7_demand 0 0 [.ref (gA G (β + 0)), .int a1] (wB M β 8 S) (wB M β 8 S') none := by
  refine mc_of (cc := cX7_demand) (maxL := 2) (ret := none) (by decide) rfl (Nat.le_of_ble_eq_true rfl) ?_
  intro p e s m args below meth c H ls hx hb hr hts hown hml hlocks hE hw hl
  have hl : lv_has ls 2 [(0, .ref (gA G (β + 0))), (1, .int a1)] := hl
  have hinX7 : ∀ w ∈ wsX70, w ∈ zzX7_demand := fun w h9 => wz_in (zinX7 w h9)
  unfold pX7_demand at h
  refine lv_aload_n hx hb dX7_demand_0 rfl (lv_at hl 0 rfl) ?_
  refine p_get hx hb hts hinX7 hown hE hw hn 0 (by decide) (congrFun hR.1 _) rfl 4 (by decide) (hts _ (wz_in qF_X7_153)) rfl dX7_demand_1 h (fun v1 h => ?_)
  refine b_eq (tgt := 26) hx hb dX7_demand_4 (by decide) h (fun h => ?_) (fun h => ?_)
  · exact e_vw hx hb hr hlocks hw dX7_demand_26 h
  · refine lv_iload_n hx hb dX7_demand_7 rfl (lv_at hl 1 rfl) ?_
    refine b_ne (tgt := 26) hx hb dX7_demand_8 (by decide) h (fun h => ?_) (fun h => ?_)
    · exact e_vw hx hb hr hlocks hw dX7_demand_26 h
    · refine lv_aload_n hx hb dX7_demand_11 rfl (lv_at hl 0 rfl) ?_
      refine lv_iconst (v := (nI 0)) hx hb dX7_demand_12 (by decide) ?_
      refine p_putz hx hb hts hinX7 tyX7 tyX7_ok nmX7 hown hE hw hn 0 (by decide) (congrFun hR.1 _) rfl 4 (by decide) (hts _ (wz_in qF_X7_153)) rfl (by decide +kernel) (Nat.le_of_ble_eq_true rfl) (congrFun hR.1 _) dX7_demand_13 h (fun S13 h H locs hw => ?_)
      refine lv_aload_n hx hb dX7_demand_16 rfl (lv_at hl 0 rfl) ?_
      refine lv_dup hx hb dX7_demand_17 rfl ?_
      refine p_get hx hb hts hinX7 hown hE hw hn 0 (by decide) (congrFun hR.1 _) rfl 3 (by decide) (hts _ (wz_in qF_X7_150)) rfl dX7_demand_18 h (fun v18 h => ?_)
      refine lv_iconst (v := (nI 1)) hx hb dX7_demand_21 (by decide) ?_
      refine lv_isub hx hb dX7_demand_22 ?_
      refine p_put hx hb hts hinX7 tyX7 tyX7_ok nmX7 hown hE hw hn 0 (by decide) (congrFun hR.1 _) rfl 3 (by decide) (hts _ (wz_in qF_X7_150)) rfl (by decide +kernel) (Nat.le_of_ble_eq_true rfl) (congrFun hR.1 _) dX7_demand_23 h (fun S23 h H locs hw => ?_)
      exact e_vw hx hb hr hlocks hw dX7_demand_26 h
