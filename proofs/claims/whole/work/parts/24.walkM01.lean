/-! ===== walks, by program ===== -/
set_option maxHeartbeats 4000000 in
set_option maxRecDepth 100000 in
theorem mX7_sheds (l : Launch) (G : mG) {β : Nat} {M S S' : mM} {b1 : Nat} {a2 : Int32} {r : Int32} (hn : β + 8 ≤ gN G) (hR : isMod G β) (h1 : b1 + 1 ≤ 8) (hs1 : gK G (β + b1) = aI G 250) (h : pX7_sheds b1 a2 S = some (r, S')) : MC l G yX7_sheds zzX7_sheds 2 44 [.ref (gA G (β + 0)), .ref (gA G (β + b1)), .int a2] (wB M β 8 S) (wB M β 8 S') (some (.int r)) := by
  refine mc_of (cc := cX7_sheds) (maxL := 8) (ret := (some .boolean)) (by decide) rfl (Nat.le_of_ble_eq_true rfl) ?_
  intro p e s m args below meth c H ls hx hb hr hts hown hml hlocks hE hw hl
  have hl : lv_has ls 8 [(0, .ref (gA G (β + 0))), (1, .ref (gA G (β + b1))), (2, .int a2)] := hl
  have hinX7 : ∀ w ∈ wsX70, w ∈ zzX7_sheds := fun w h9 => wz_in (zinX7 w h9)
  have k192 : ∀ (ih18 : Int32 → Int32 → Int32 → Int32 → mM → Option (Int32 × mM)) (_ : ∀ (x2 : Int32) (x3 : Int32) (x4 : Int32) (x5 : Int32) (S : mM) (H : Heap) (locs : List Loc) (ls : Array Slot), ih18 x2 x3 x4 x5 S = some (r, S') → mW G s (wB M β 8 S) H locs → lv_has ls 8 [(0, .ref (gA G (β + 0))), (1, .ref (gA G (β + b1))), (2, .int x2), (3, .int x3), (4, .int x4), (5, .int x5)] → W p l e { frames := 2, cells := 0, slots := 0, locals := 44 } s m args below meth c H locs 0 0 (mZ below G (some (.int r)) (wB M β 8 S') args s) (F0 m 18 ls [])), ∀ (x2 : Int32) (x3 : Int32) (x4 : Int32) (x5 : Int32) (x6 : Int32) (S : mM) (H : Heap) (locs : List Loc) (ls : Array Slot), pX7_sheds_b192 b1 ih18 x2 x3 x4 x5 x6 S = some (r, S') → mW G s (wB M β 8 S) H locs → lv_has ls 8 [(0, .ref (gA G (β + 0))), (1, .ref (gA G (β + b1))), (2, .int x2), (3, .int x3), (4, .int x4), (5, .int x5), (6, .int x6)] → W p l e { frames := 2, cells := 0, slots := 0, locals := 44 } s m args below meth c H locs 0 0 (mZ below G (some (.int r)) (wB M β 8 S') args s) (F0 m 192 ls []) := by
    intro ih18 hih18 x2 x3 x4 x5 x6 S H locs ls h hw hl
    unfold pX7_sheds_b192 at h
    refine lv_iload hx hb dX7_sheds_192 (lv_at hl 5 rfl) ?_
    refine b_eq (tgt := 210) hx hb dX7_sheds_194 (by decide) h (fun h => ?_) (fun h => ?_)
    · refine lv_iconst (v := (nI 0)) hx hb dX7_sheds_210 (by decide) ?_
      refine lv_istore (lv' := [(5, .int (nI 0)), (0, .ref (gA G (β + 0))), (1, .ref (gA G (β + b1))), (2, .int x2), (3, .int x3), (4, .int x4), (6, .int x6)]) hx hb dX7_sheds_211 hl (by decide) rfl (fun ls hl => ?_)
      refine p_iinc (w := (nI 1)) 5 (fun v213 => [(4, .int v213), (5, .int (nI 0)), (0, .ref (gA G (β + 0))), (1, .ref (gA G (β + b1))), (2, .int x2), (3, .int x3), (6, .int x6)]) hx hb dX7_sheds_213 hl rfl (by decide) (by decide) h (fun _ => rfl) (fun v213 h ls hl => ?_)
      refine lv_goto (tgt := 18) hx hb dX7_sheds_216 (by decide) ?_
      exact hih18 x2 x3 v213 (nI 0) S _ _ _ h hw (lv_sub hl [2, 3, 4, 5, 0, 1] rfl)
    · refine lv_aload_n hx hb dX7_sheds_197 rfl (lv_at hl 1 rfl) ?_
      refine lv_iload hx hb dX7_sheds_198 (lv_at hl 6 rfl) ?_
      obtain ⟨v200, h200, h⟩ := cr1_some h
      refine r_callS (As := [.ref (gA G (β + b1)), .int x6]) (rest := []) (st1 := [.int v200]) hx hb hml hown hts hE hw hl (mc_subR b1 1 (by omega) (mX7_isShort l G (by show β + b1 + 1 ≤ _; omega) hs1 h200)) (va_cwS 2 hts (zS gS_X7_81) rfl rfl rfl kdX7_isShort ⟨Nat.le_of_ble_eq_true rfl, Nat.le_of_ble_eq_true rfl⟩) rfl rfl (Nat.le_of_ble_eq_true rfl) dX7_sheds_200 ⟨Nat.zero_le _, Nat.zero_le _⟩ rfl (fun H locs hw => ?_)
      refine b_ne (tgt := 210) hx hb dX7_sheds_203 (by decide) h (fun h => ?_) (fun h => ?_)
      · refine lv_iconst (v := (nI 0)) hx hb dX7_sheds_210 (by decide) ?_
        refine lv_istore (lv' := [(5, .int (nI 0)), (0, .ref (gA G (β + 0))), (1, .ref (gA G (β + b1))), (2, .int x2), (3, .int x3), (4, .int x4), (6, .int x6)]) hx hb dX7_sheds_211 hl (by decide) rfl (fun ls hl => ?_)
        refine p_iinc (w := (nI 1)) 5 (fun v213 => [(4, .int v213), (5, .int (nI 0)), (0, .ref (gA G (β + 0))), (1, .ref (gA G (β + b1))), (2, .int x2), (3, .int x3), (6, .int x6)]) hx hb dX7_sheds_213 hl rfl (by decide) (by decide) h (fun _ => rfl) (fun v213 h ls hl => ?_)
        refine lv_goto (tgt := 18) hx hb dX7_sheds_216 (by decide) ?_
        exact hih18 x2 x3 v213 (nI 0) S _ _ _ h hw (lv_sub hl [2, 3, 4, 5, 0, 1] rfl)
      · refine lv_iconst (v := (nI 1)) hx hb dX7_sheds_206 (by decide) ?_
        refine lv_goto (tgt := 211) hx hb dX7_sheds_207 (by decide) ?_
        refine lv_istore (lv' := [(5, .int (nI 1)), (0, .ref (gA G (β + 0))), (1, .ref (gA G (β + b1))), (2, .int x2), (3, .int x3), (4, .int x4), (6, .int x6)]) hx hb dX7_sheds_211 hl (by decide) rfl (fun ls hl => ?_)
        refine p_iinc (w := (nI 1)) 5 (fun v213 => [(4, .int v213), (5, .int (nI 1)), (0, .ref (gA G (β + 0))), (1, .ref (gA G (β + b1))), (2, .int x2), (3, .int x3), (6, .int x6)]) hx hb dX7_sheds_213 hl rfl (by decide) (by decide) h (fun _ => rfl) (fun v213 h ls hl => ?_)
        refine lv_goto (tgt := 18) hx hb dX7_sheds_216 (by decide) ?_
        exact hih18 x2 x3 v213 (nI 1) S _ _ _ h hw (lv_sub hl [2, 3, 4, 5, 0, 1] rfl)
  have k65 : ∀ (ih18 : Int32 → Int32 → Int32 → Int32 → mM → Option (Int32 × mM)) (_ : ∀ (x2 : Int32) (x3 : Int32) (x4 : Int32) (x5 : Int32) (S : mM) (H : Heap) (locs : List Loc) (ls : Array Slot), ih18 x2 x3 x4 x5 S = some (r, S') → mW G s (wB M β 8 S) H locs → lv_has ls 8 [(0, .ref (gA G (β + 0))), (1, .ref (gA G (β + b1))), (2, .int x2), (3, .int x3), (4, .int x4), (5, .int x5)] → W p l e { frames := 2, cells := 0, slots := 0, locals := 44 } s m args below meth c H locs 0 0 (mZ below G (some (.int r)) (wB M β 8 S') args s) (F0 m 18 ls [])), ∀ (x2 : Int32) (x3 : Int32) (x4 : Int32) (x5 : Int32) (x6 : Int32) (t0 : Int32) (S : mM) (H : Heap) (locs : List Loc) (ls : Array Slot), pX7_sheds_b65 b1 ih18 x2 x3 x4 x5 x6 t0 S = some (r, S') → mW G s (wB M β 8 S) H locs → lv_has ls 8 [(0, .ref (gA G (β + 0))), (1, .ref (gA G (β + b1))), (2, .int x2), (3, .int x3), (4, .int x4), (5, .int x5), (6, .int x6)] → W p l e { frames := 2, cells := 0, slots := 0, locals := 44 } s m args below meth c H locs 0 0 (mZ below G (some (.int r)) (wB M β 8 S') args s) (F0 m 65 ls [.int t0]) := by
    intro ih18 hih18 x2 x3 x4 x5 x6 t0 S H locs ls h hw hl
    unfold pX7_sheds_b65 at h
    refine lv_istore (lv' := [(7, .int t0), (0, .ref (gA G (β + 0))), (1, .ref (gA G (β + b1))), (2, .int x2), (3, .int x3), (4, .int x4), (5, .int x5), (6, .int x6)]) hx hb dX7_sheds_65 hl (by decide) rfl (fun ls hl => ?_)
    refine lv_aload_n hx hb dX7_sheds_67 rfl (lv_at hl 2 rfl) ?_
    refine lv_iload hx hb dX7_sheds_68 (lv_at hl 7 rfl) ?_
    obtain ⟨v70, h70, h⟩ := cr1_some h
    refine r_callS (As := [.ref (gA G (β + b1)), .int x6]) (rest := []) (st1 := [.int v70]) hx hb hml hown hts hE hw hl (mc_subR b1 1 (by omega) (mX7_isShort l G (by show β + b1 + 1 ≤ _; omega) hs1 h70)) (va_cwS 2 hts (zS gS_X7_81) rfl rfl rfl kdX7_isShort ⟨Nat.le_of_ble_eq_true rfl, Nat.le_of_ble_eq_true rfl⟩) rfl rfl (Nat.le_of_ble_eq_true rfl) dX7_sheds_70 ⟨Nat.zero_le _, Nat.zero_le _⟩ rfl (fun H locs hw => ?_)
    refine b_eq (tgt := 192) hx hb dX7_sheds_73 (by decide) h (fun h => ?_) (fun h => ?_)
    · exact k192 ih18 hih18 x2 x3 x4 x5 x6 S _ _ _ h hw (lv_sub hl [1, 2, 3, 4, 5, 6, 7] rfl)
    · refine lv_iload hx hb dX7_sheds_76 (lv_at hl 0 rfl) ?_
      refine b_eq (tgt := 192) hx hb dX7_sheds_78 (by decide) h (fun h => ?_) (fun h => ?_)
      · exact k192 ih18 hih18 x2 x3 x4 x5 x6 S _ _ _ h hw (lv_sub hl [1, 2, 3, 4, 5, 6, 7] rfl)
      · refine lv_aload_n hx hb dX7_sheds_81 rfl (lv_at hl 2 rfl) ?_
        refine lv_iload_n hx hb dX7_sheds_82 rfl (lv_at hl 4 rfl) ?_
        refine lv_iconst (v := (nI 3)) hx hb dX7_sheds_83 (by decide) ?_
        refine lv_aload_n hx hb dX7_sheds_84 rfl (lv_at hl 2 rfl) ?_
        refine lv_iload_n hx hb dX7_sheds_85 rfl (lv_at hl 4 rfl) ?_
        refine lv_iconst (v := (nI 2)) hx hb dX7_sheds_86 (by decide) ?_
        obtain ⟨v87, h87, h⟩ := cr1_some h
        refine r_callS (As := [.int x3, .int (nI 2)]) (rest := [.ref (gA G (β + b1)), .int (nI 3), .int x3, .ref (gA G (β + b1))]) (st1 := [.int v87, .ref (gA G (β + b1)), .int (nI 3), .int x3, .ref (gA G (β + b1))]) hx hb hml hown hts hE hw hl (mX7_bayAt l G (M := (wB M β 8 S)) h87) (va_cwS 2 hts (zS gS_X7_58) rfl rfl rfl kdX7_bayAt ⟨Nat.le_of_ble_eq_true rfl, Nat.le_of_ble_eq_true rfl⟩) rfl rfl (Nat.le_of_ble_eq_true rfl) dX7_sheds_87 ⟨Nat.zero_le _, Nat.zero_le _⟩ rfl (fun H locs hw => ?_)
        refine p_iald hx hb hE hw hn b1 (by omega) (congrFun hs1) dX7_sheds_90 h (fun v90 h => ?_)
        refine lv_iadd hx hb dX7_sheds_91 ?_
        obtain ⟨v92, h92, h⟩ := cr1_some h
        refine r_callS (As := [.int x3, .int ((nI 3) + v90)]) (rest := [.ref (gA G (β + b1))]) (st1 := [.int v92, .ref (gA G (β + b1))]) hx hb hml hown hts hE hw hl (mX7_bayAt l G (M := (wB M β 8 S)) h92) (va_cwS 2 hts (zS gS_X7_58) rfl rfl rfl kdX7_bayAt ⟨Nat.le_of_ble_eq_true rfl, Nat.le_of_ble_eq_true rfl⟩) rfl rfl (Nat.le_of_ble_eq_true rfl) dX7_sheds_92 ⟨Nat.zero_le _, Nat.zero_le _⟩ rfl (fun H locs hw => ?_)
        refine lv_iload hx hb dX7_sheds_95 (lv_at hl 7 rfl) ?_
        refine p_iast hx hb hE hw hn b1 (by omega) (congrFun hs1) dX7_sheds_97 h (fun S97 h H locs hw => ?_)
        refine lv_aload_n hx hb dX7_sheds_98 rfl (lv_at hl 2 rfl) ?_
        refine lv_iload_n hx hb dX7_sheds_99 rfl (lv_at hl 4 rfl) ?_
        refine lv_iconst (v := (nI 2)) hx hb dX7_sheds_100 (by decide) ?_
        obtain ⟨v101, h101, h⟩ := cr1_some h
        refine r_callS (As := [.int x3, .int (nI 2)]) (rest := [.ref (gA G (β + b1))]) (st1 := [.int v101, .ref (gA G (β + b1))]) hx hb hml hown hts hE hw hl (mX7_bayAt l G (M := (wB M β 8 S97)) h101) (va_cwS 2 hts (zS gS_X7_58) rfl rfl rfl kdX7_bayAt ⟨Nat.le_of_ble_eq_true rfl, Nat.le_of_ble_eq_true rfl⟩) rfl rfl (Nat.le_of_ble_eq_true rfl) dX7_sheds_101 ⟨Nat.zero_le _, Nat.zero_le _⟩ rfl (fun H locs hw => ?_)
        refine lv_dup2_11 hx hb dX7_sheds_104 rfl rfl ?_
        refine p_iald hx hb hE hw hn b1 (by omega) (congrFun hs1) dX7_sheds_105 h (fun v105 h => ?_)
        refine lv_iconst (v := (nI 1)) hx hb dX7_sheds_106 (by decide) ?_
        refine lv_iadd hx hb dX7_sheds_107 ?_
        refine p_iast hx hb hE hw hn b1 (by omega) (congrFun hs1) dX7_sheds_108 h (fun S108 h H locs hw => ?_)
        refine lv_aload_n hx hb dX7_sheds_109 rfl (lv_at hl 2 rfl) ?_
        refine lv_iload hx hb dX7_sheds_110 (lv_at hl 7 rfl) ?_
        refine lv_iconst (v := (nI 4)) hx hb dX7_sheds_112 (by decide) ?_
        obtain ⟨v113, h113, h⟩ := cr1_some h
        refine r_callS (As := [.int x6, .int (nI 4)]) (rest := [.ref (gA G (β + b1))]) (st1 := [.int v113, .ref (gA G (β + b1))]) hx hb hml hown hts hE hw hl (mX7_carAt l G (M := (wB M β 8 S108)) h113) (va_cwS 2 hts (zS gS_X7_72) rfl rfl rfl kdX7_carAt ⟨Nat.le_of_ble_eq_true rfl, Nat.le_of_ble_eq_true rfl⟩) rfl rfl (Nat.le_of_ble_eq_true rfl) dX7_sheds_113 ⟨Nat.zero_le _, Nat.zero_le _⟩ rfl (fun H locs hw => ?_)
        refine lv_iconst (v := (nI 1)) hx hb dX7_sheds_116 (by decide) ?_
        refine p_iast hx hb hE hw hn b1 (by omega) (congrFun hs1) dX7_sheds_117 h (fun S117 h H locs hw => ?_)
        refine lv_aload_n hx hb dX7_sheds_118 rfl (lv_at hl 2 rfl) ?_
        refine lv_iload hx hb dX7_sheds_119 (lv_at hl 7 rfl) ?_
        refine lv_iconst (v := (nI 5)) hx hb dX7_sheds_121 (by decide) ?_
        obtain ⟨v122, h122, h⟩ := cr1_some h
        refine r_callS (As := [.int x6, .int (nI 5)]) (rest := [.ref (gA G (β + b1))]) (st1 := [.int v122, .ref (gA G (β + b1))]) hx hb hml hown hts hE hw hl (mX7_carAt l G (M := (wB M β 8 S117)) h122) (va_cwS 2 hts (zS gS_X7_72) rfl rfl rfl kdX7_carAt ⟨Nat.le_of_ble_eq_true rfl, Nat.le_of_ble_eq_true rfl⟩) rfl rfl (Nat.le_of_ble_eq_true rfl) dX7_sheds_122 ⟨Nat.zero_le _, Nat.zero_le _⟩ rfl (fun H locs hw => ?_)
        refine lv_iload_n hx hb dX7_sheds_125 rfl (lv_at hl 4 rfl) ?_
        refine p_iast hx hb hE hw hn b1 (by omega) (congrFun hs1) dX7_sheds_126 h (fun S126 h H locs hw => ?_)
        refine lv_aload_n hx hb dX7_sheds_127 rfl (lv_at hl 2 rfl) ?_
        refine lv_iload_n hx hb dX7_sheds_128 rfl (lv_at hl 3 rfl) ?_
        refine lv_iconst (v := (nI 5)) hx hb dX7_sheds_129 (by decide) ?_
        obtain ⟨v130, h130, h⟩ := cr1_some h
        refine r_callS (As := [.int x2, .int (nI 5)]) (rest := [.ref (gA G (β + b1))]) (st1 := [.int v130, .ref (gA G (β + b1))]) hx hb hml hown hts hE hw hl (mX7_convoyAt l G (M := (wB M β 8 S126)) h130) (va_cwS 2 hts (zS gS_X7_51) rfl rfl rfl kdX7_convoyAt ⟨Nat.le_of_ble_eq_true rfl, Nat.le_of_ble_eq_true rfl⟩) rfl rfl (Nat.le_of_ble_eq_true rfl) dX7_sheds_130 ⟨Nat.zero_le _, Nat.zero_le _⟩ rfl (fun H locs hw => ?_)
        refine lv_iload hx hb dX7_sheds_133 (lv_at hl 5 rfl) ?_
        refine lv_aload_n hx hb dX7_sheds_135 rfl (lv_at hl 2 rfl) ?_
        refine lv_iload_n hx hb dX7_sheds_136 rfl (lv_at hl 3 rfl) ?_
        obtain ⟨v137, h137, h⟩ := cr1_some h
        refine r_callS (As := [.ref (gA G (β + b1)), .int x2]) (rest := [.int x4, .int v130, .ref (gA G (β + b1))]) (st1 := [.int v137, .int x4, .int v130, .ref (gA G (β + b1))]) hx hb hml hown hts hE hw hl (mc_subR b1 1 (by omega) (mX7_sizeOf l G (by show β + b1 + 1 ≤ _; omega) hs1 h137)) (va_cwS 2 hts (zS gS_X7_64) rfl rfl rfl kdX7_sizeOf ⟨Nat.le_of_ble_eq_true rfl, Nat.le_of_ble_eq_true rfl⟩) rfl rfl (Nat.le_of_ble_eq_true rfl) dX7_sheds_137 ⟨Nat.zero_le _, Nat.zero_le _⟩ rfl (fun H locs hw => ?_)
        obtain ⟨T140, h140, h⟩ := cvs_some h
        refine r_callS (As := [.ref (gA G (β + b1)), .int v130, .int x4, .int v137]) (rest := []) (st1 := []) hx hb hml hown hts hE hw hl (mc_sub b1 1 (by omega) (mX7_drop l G (by show β + b1 + 1 ≤ _; omega) hs1 h140)) (va_cwS 4 hts (zS gS_X7_85) rfl rfl rfl kdX7_drop ⟨Nat.le_of_ble_eq_true rfl, Nat.le_of_ble_eq_true rfl⟩) rfl rfl (Nat.le_of_ble_eq_true rfl) dX7_sheds_140 ⟨Nat.zero_le _, Nat.zero_le _⟩ rfl (fun H locs hw => ?_)
        generalize wB S126 b1 1 T140 = S140 at h hw
        refine lv_aload_n hx hb dX7_sheds_143 rfl (lv_at hl 2 rfl) ?_
        refine lv_iload_n hx hb dX7_sheds_144 rfl (lv_at hl 3 rfl) ?_
        refine lv_iconst (v := (nI 1)) hx hb dX7_sheds_145 (by decide) ?_
        obtain ⟨v146, h146, h⟩ := cr1_some h
        refine r_callS (As := [.int x2, .int (nI 1)]) (rest := [.ref (gA G (β + b1))]) (st1 := [.int v146, .ref (gA G (β + b1))]) hx hb hml hown hts hE hw hl (mX7_convoyAt l G (M := (wB M β 8 S140)) h146) (va_cwS 2 hts (zS gS_X7_51) rfl rfl rfl kdX7_convoyAt ⟨Nat.le_of_ble_eq_true rfl, Nat.le_of_ble_eq_true rfl⟩) rfl rfl (Nat.le_of_ble_eq_true rfl) dX7_sheds_146 ⟨Nat.zero_le _, Nat.zero_le _⟩ rfl (fun H locs hw => ?_)
        refine lv_dup2_11 hx hb dX7_sheds_149 rfl rfl ?_
        refine p_iald hx hb hE hw hn b1 (by omega) (congrFun hs1) dX7_sheds_150 h (fun v150 h => ?_)
        refine lv_iconst (v := (nI 1)) hx hb dX7_sheds_151 (by decide) ?_
        refine lv_isub hx hb dX7_sheds_152 ?_
        refine p_iast hx hb hE hw hn b1 (by omega) (congrFun hs1) dX7_sheds_153 h (fun S153 h H locs hw => ?_)
        refine lv_aload_n hx hb dX7_sheds_154 rfl (lv_at hl 1 rfl) ?_
        refine lv_iload_n hx hb dX7_sheds_155 rfl (lv_at hl 3 rfl) ?_
        refine lv_aload_n hx hb dX7_sheds_156 rfl (lv_at hl 1 rfl) ?_
        refine p_get hx hb hts hinX7 hown hE hw hn 0 (by decide) (congrFun hR.1 _) rfl 12 (by decide) (hts _ (wz_in qF_X7_32)) rfl dX7_sheds_157 h (fun v157 h => ?_)
        refine bi_ne (tgt := 182) hx hb dX7_sheds_160 (by decide) h (fun h => ?_) (fun h => ?_)
        · refine lv_aload_n hx hb dX7_sheds_182 rfl (lv_at hl 1 rfl) ?_
          refine p_get hx hb hts hinX7 hown hE hw hn 0 (by decide) (congrFun hR.1 _) rfl 13 (by decide) (hts _ (wz_in qF_X7_36)) rfl dX7_sheds_183 h (fun v183 h => ?_)
          refine p_put hx hb hts hinX7 tyX7 tyX7_ok nmX7 hown hE hw hn 0 (by decide) (congrFun hR.1 _) rfl 13 (by decide) (hts _ (wz_in qF_X7_36)) rfl (by decide +kernel) (Nat.le_of_ble_eq_true rfl) (congrFun hR.1 _) dX7_sheds_186 h (fun S186 h H locs hw => ?_)
          refine lv_goto (tgt := 216) hx hb dX7_sheds_189 (by decide) ?_
          refine lv_goto (tgt := 18) hx hb dX7_sheds_216 (by decide) ?_
          exact hih18 x2 x3 x4 x5 S186 _ _ _ h hw (lv_sub hl [1, 2, 3, 4, 5, 6] rfl)
        · refine lv_aload_n hx hb dX7_sheds_163 rfl (lv_at hl 1 rfl) ?_
          refine p_get hx hb hts hinX7 hown hE hw hn 0 (by decide) (congrFun hR.1 _) rfl 13 (by decide) (hts _ (wz_in qF_X7_36)) rfl dX7_sheds_164 h (fun v164 h => ?_)
          refine lv_bipush (v := (-9)) hx hb dX7_sheds_167 (by decide) ?_
          refine bi_ne (tgt := 182) hx hb dX7_sheds_169 (by decide) h (fun h => ?_) (fun h => ?_)
          · refine lv_aload_n hx hb dX7_sheds_182 rfl (lv_at hl 1 rfl) ?_
            refine p_get hx hb hts hinX7 hown hE hw hn 0 (by decide) (congrFun hR.1 _) rfl 13 (by decide) (hts _ (wz_in qF_X7_36)) rfl dX7_sheds_183 h (fun v183 h => ?_)
            refine p_put hx hb hts hinX7 tyX7 tyX7_ok nmX7 hown hE hw hn 0 (by decide) (congrFun hR.1 _) rfl 13 (by decide) (hts _ (wz_in qF_X7_36)) rfl (by decide +kernel) (Nat.le_of_ble_eq_true rfl) (congrFun hR.1 _) dX7_sheds_186 h (fun S186 h H locs hw => ?_)
            refine lv_goto (tgt := 216) hx hb dX7_sheds_189 (by decide) ?_
            refine lv_goto (tgt := 18) hx hb dX7_sheds_216 (by decide) ?_
            exact hih18 x2 x3 x4 x5 S186 _ _ _ h hw (lv_sub hl [1, 2, 3, 4, 5, 6] rfl)
          · refine lv_bipush (v := (nI 100)) hx hb dX7_sheds_172 (by decide) ?_
            refine lv_iload_n hx hb dX7_sheds_174 rfl (lv_at hl 4 rfl) ?_
            refine lv_imul hx hb dX7_sheds_175 ?_
            refine lv_iload hx hb dX7_sheds_176 (lv_at hl 7 rfl) ?_
            refine lv_iadd hx hb dX7_sheds_178 ?_
            refine lv_goto (tgt := 186) hx hb dX7_sheds_179 (by decide) ?_
            refine p_put hx hb hts hinX7 tyX7 tyX7_ok nmX7 hown hE hw hn 0 (by decide) (congrFun hR.1 _) rfl 13 (by decide) (hts _ (wz_in qF_X7_36)) rfl (by decide +kernel) (Nat.le_of_ble_eq_true rfl) (congrFun hR.1 _) dX7_sheds_186 h (fun S186 h H locs hw => ?_)
            refine lv_goto (tgt := 216) hx hb dX7_sheds_189 (by decide) ?_
            refine lv_goto (tgt := 18) hx hb dX7_sheds_216 (by decide) ?_
            exact hih18 x2 x3 x4 x5 S186 _ _ _ h hw (lv_sub hl [1, 2, 3, 4, 5, 6] rfl)
  have k64 : ∀ (ih18 : Int32 → Int32 → Int32 → Int32 → mM → Option (Int32 × mM)) (_ : ∀ (x2 : Int32) (x3 : Int32) (x4 : Int32) (x5 : Int32) (S : mM) (H : Heap) (locs : List Loc) (ls : Array Slot), ih18 x2 x3 x4 x5 S = some (r, S') → mW G s (wB M β 8 S) H locs → lv_has ls 8 [(0, .ref (gA G (β + 0))), (1, .ref (gA G (β + b1))), (2, .int x2), (3, .int x3), (4, .int x4), (5, .int x5)] → W p l e { frames := 2, cells := 0, slots := 0, locals := 44 } s m args below meth c H locs 0 0 (mZ below G (some (.int r)) (wB M β 8 S') args s) (F0 m 18 ls [])), ∀ (x2 : Int32) (x3 : Int32) (x4 : Int32) (x5 : Int32) (x6 : Int32) (S : mM) (H : Heap) (locs : List Loc) (ls : Array Slot), pX7_sheds_b64 b1 ih18 x2 x3 x4 x5 x6 S = some (r, S') → mW G s (wB M β 8 S) H locs → lv_has ls 8 [(0, .ref (gA G (β + 0))), (1, .ref (gA G (β + b1))), (2, .int x2), (3, .int x3), (4, .int x4), (5, .int x5), (6, .int x6)] → W p l e { frames := 2, cells := 0, slots := 0, locals := 44 } s m args below meth c H locs 0 0 (mZ below G (some (.int r)) (wB M β 8 S') args s) (F0 m 64 ls []) := by
    intro ih18 hih18 x2 x3 x4 x5 x6 S H locs ls h hw hl
    unfold pX7_sheds_b64 at h
    refine lv_iconst (v := (nI 0)) hx hb dX7_sheds_64 (by decide) ?_
    exact k65 ih18 hih18 x2 x3 x4 x5 x6 (nI 0) S _ _ _ h hw (lv_sub hl [0, 1, 2, 3, 4, 5, 6] rfl)
  have k18 : ∀ (k : Nat), ∀ (x2 : Int32) (x3 : Int32) (x4 : Int32) (x5 : Int32) (S : mM) (H : Heap) (locs : List Loc) (ls : Array Slot), pX7_sheds_l18 b1 k x2 x3 x4 x5 S = some (r, S') → mW G s (wB M β 8 S) H locs → lv_has ls 8 [(0, .ref (gA G (β + 0))), (1, .ref (gA G (β + b1))), (2, .int x2), (3, .int x3), (4, .int x4), (5, .int x5)] → W p l e { frames := 2, cells := 0, slots := 0, locals := 44 } s m args below meth c H locs 0 0 (mZ below G (some (.int r)) (wB M β 8 S') args s) (F0 m 18 ls []) := by
    intro k
    induction k with
    | zero => intro x2 x3 x4 x5 S H locs ls h; cases h
    | succ k hih18 =>
      intro x2 x3 x4 x5 S H locs ls h hw hl
      obtain ⟨ih18, hk18⟩ : ∃ f, f = pX7_sheds_l18 b1 k := ⟨_, rfl⟩
      replace h : pX7_sheds_lb18 b1 (pX7_sheds_l18 b1 k) x2 x3 x4 x5 S = some (r, S') := h
      rw [← hk18] at h hih18
      clear hk18
      unfold pX7_sheds_lb18 at h
      refine lv_iload hx hb dX7_sheds_18 (lv_at hl 4 rfl) ?_
      refine lv_aload_n hx hb dX7_sheds_20 rfl (lv_at hl 1 rfl) ?_
      refine lv_iload_n hx hb dX7_sheds_21 rfl (lv_at hl 2 rfl) ?_
      obtain ⟨v22, h22, h⟩ := cr1_some h
      refine r_callS (As := [.ref (gA G (β + b1)), .int x2]) (rest := [.int x4]) (st1 := [.int v22, .int x4]) hx hb hml hown hts hE hw hl (mc_subR b1 1 (by omega) (mX7_sizeOf l G (by show β + b1 + 1 ≤ _; omega) hs1 h22)) (va_cwS 2 hts (zS gS_X7_64) rfl rfl rfl kdX7_sizeOf ⟨Nat.le_of_ble_eq_true rfl, Nat.le_of_ble_eq_true rfl⟩) rfl rfl (Nat.le_of_ble_eq_true rfl) dX7_sheds_22 ⟨Nat.zero_le _, Nat.zero_le _⟩ rfl (fun H locs hw => ?_)
      refine bi_ge (tgt := 219) hx hb dX7_sheds_25 (by decide) h (fun h => ?_) (fun h => ?_)
      · refine lv_iload hx hb dX7_sheds_219 (lv_at hl 5 rfl) ?_
        refine b_eq (tgt := 236) hx hb dX7_sheds_221 (by decide) h (fun h => ?_) (fun h => ?_)
        · refine lv_iconst (v := (nI 0)) hx hb dX7_sheds_236 (by decide) ?_
          exact e_zw hx hb hr hlocks hw dX7_sheds_237 h
        · refine lv_aload_n hx hb dX7_sheds_224 rfl (lv_at hl 1 rfl) ?_
          refine lv_iload_n hx hb dX7_sheds_225 rfl (lv_at hl 2 rfl) ?_
          obtain ⟨v226, h226, h⟩ := cr1_some h
          refine r_callS (As := [.ref (gA G (β + b1)), .int x2]) (rest := []) (st1 := [.int v226]) hx hb hml hown hts hE hw hl (mc_subR b1 1 (by omega) (mX7_sizeOf l G (by show β + b1 + 1 ≤ _; omega) hs1 h226)) (va_cwS 2 hts (zS gS_X7_64) rfl rfl rfl kdX7_sizeOf ⟨Nat.le_of_ble_eq_true rfl, Nat.le_of_ble_eq_true rfl⟩) rfl rfl (Nat.le_of_ble_eq_true rfl) dX7_sheds_226 ⟨Nat.zero_le _, Nat.zero_le _⟩ rfl (fun H locs hw => ?_)
          refine b_le (tgt := 236) hx hb dX7_sheds_229 (by decide) h (fun h => ?_) (fun h => ?_)
          · refine lv_iconst (v := (nI 0)) hx hb dX7_sheds_236 (by decide) ?_
            exact e_zw hx hb hr hlocks hw dX7_sheds_237 h
          · refine lv_iconst (v := (nI 1)) hx hb dX7_sheds_232 (by decide) ?_
            refine lv_goto (tgt := 237) hx hb dX7_sheds_233 (by decide) ?_
            exact e_zw hx hb hr hlocks hw dX7_sheds_237 h
      · refine lv_aload_n hx hb dX7_sheds_28 rfl (lv_at hl 1 rfl) ?_
        refine lv_iload_n hx hb dX7_sheds_29 rfl (lv_at hl 2 rfl) ?_
        refine lv_iload hx hb dX7_sheds_30 (lv_at hl 4 rfl) ?_
        obtain ⟨v32, h32, h⟩ := cr1_some h
        refine r_callS (As := [.ref (gA G (β + b1)), .int x2, .int x4]) (rest := []) (st1 := [.int v32]) hx hb hml hown hts hE hw hl (mc_subR b1 1 (by omega) (mX7_who l G (by show β + b1 + 1 ≤ _; omega) hs1 h32)) (va_cwS 3 hts (zS gS_X7_68) rfl rfl rfl kdX7_who ⟨Nat.le_of_ble_eq_true rfl, Nat.le_of_ble_eq_true rfl⟩) rfl rfl (Nat.le_of_ble_eq_true rfl) dX7_sheds_32 ⟨Nat.zero_le _, Nat.zero_le _⟩ rfl (fun H locs hw => ?_)
        refine lv_istore (lv' := [(6, .int v32), (0, .ref (gA G (β + 0))), (1, .ref (gA G (β + b1))), (2, .int x2), (3, .int x3), (4, .int x4), (5, .int x5)]) hx hb dX7_sheds_35 hl (by decide) rfl (fun ls hl => ?_)
        refine lv_iload_n hx hb dX7_sheds_37 rfl (lv_at hl 4 rfl) ?_
        refine lv_bipush (v := (-9)) hx hb dX7_sheds_38 (by decide) ?_
        refine bi_eq (tgt := 64) hx hb dX7_sheds_40 (by decide) h (fun h => ?_) (fun h => ?_)
        · exact k64 ih18 hih18 x2 x3 x4 x5 v32 S _ _ _ h hw (lv_sub hl [1, 2, 3, 4, 5, 6, 0] rfl)
        · refine lv_aload_n hx hb dX7_sheds_43 rfl (lv_at hl 2 rfl) ?_
          refine lv_iload_n hx hb dX7_sheds_44 rfl (lv_at hl 4 rfl) ?_
          refine lv_iconst (v := (nI 2)) hx hb dX7_sheds_45 (by decide) ?_
          obtain ⟨v46, h46, h⟩ := cr1_some h
          refine r_callS (As := [.int x3, .int (nI 2)]) (rest := [.ref (gA G (β + b1))]) (st1 := [.int v46, .ref (gA G (β + b1))]) hx hb hml hown hts hE hw hl (mX7_bayAt l G (M := (wB M β 8 S)) h46) (va_cwS 2 hts (zS gS_X7_58) rfl rfl rfl kdX7_bayAt ⟨Nat.le_of_ble_eq_true rfl, Nat.le_of_ble_eq_true rfl⟩) rfl rfl (Nat.le_of_ble_eq_true rfl) dX7_sheds_46 ⟨Nat.zero_le _, Nat.zero_le _⟩ rfl (fun H locs hw => ?_)
          refine p_iald hx hb hE hw hn b1 (by omega) (congrFun hs1) dX7_sheds_49 h (fun v49 h => ?_)
          refine lv_aload_n hx hb dX7_sheds_50 rfl (lv_at hl 2 rfl) ?_
          refine lv_iload_n hx hb dX7_sheds_51 rfl (lv_at hl 4 rfl) ?_
          refine lv_iconst (v := (nI 1)) hx hb dX7_sheds_52 (by decide) ?_
          obtain ⟨v53, h53, h⟩ := cr1_some h
          refine r_callS (As := [.int x3, .int (nI 1)]) (rest := [.ref (gA G (β + b1)), .int v49]) (st1 := [.int v53, .ref (gA G (β + b1)), .int v49]) hx hb hml hown hts hE hw hl (mX7_bayAt l G (M := (wB M β 8 S)) h53) (va_cwS 2 hts (zS gS_X7_58) rfl rfl rfl kdX7_bayAt ⟨Nat.le_of_ble_eq_true rfl, Nat.le_of_ble_eq_true rfl⟩) rfl rfl (Nat.le_of_ble_eq_true rfl) dX7_sheds_53 ⟨Nat.zero_le _, Nat.zero_le _⟩ rfl (fun H locs hw => ?_)
          refine p_iald hx hb hE hw hn b1 (by omega) (congrFun hs1) dX7_sheds_56 h (fun v56 h => ?_)
          refine bi_ge (tgt := 64) hx hb dX7_sheds_57 (by decide) h (fun h => ?_) (fun h => ?_)
          · exact k64 ih18 hih18 x2 x3 x4 x5 v32 S _ _ _ h hw (lv_sub hl [1, 2, 3, 4, 5, 6, 0] rfl)
          · refine lv_iconst (v := (nI 1)) hx hb dX7_sheds_60 (by decide) ?_
            refine lv_goto (tgt := 65) hx hb dX7_sheds_61 (by decide) ?_
            exact k65 ih18 hih18 x2 x3 x4 x5 v32 (nI 1) S _ _ _ h hw (lv_sub hl [1, 2, 3, 4, 5, 6, 0] rfl)
  unfold pX7_sheds at h
  refine lv_aload_n hx hb dX7_sheds_0 rfl (lv_at hl 1 rfl) ?_
  refine lv_aload_n hx hb dX7_sheds_1 rfl (lv_at hl 1 rfl) ?_
  refine lv_iload_n hx hb dX7_sheds_2 rfl (lv_at hl 2 rfl) ?_
  refine lv_iconst (v := (nI 0)) hx hb dX7_sheds_3 (by decide) ?_
  obtain ⟨v4, h4, h⟩ := cr1_some h
  refine r_callS (As := [.int a2, .int (nI 0)]) (rest := [.ref (gA G (β + b1)), .ref (gA G (β + b1))]) (st1 := [.int v4, .ref (gA G (β + b1)), .ref (gA G (β + b1))]) hx hb hml hown hts hE hw hl (mX7_convoyAt l G (M := (wB M β 8 S)) h4) (va_cwS 2 hts (zS gS_X7_51) rfl rfl rfl kdX7_convoyAt ⟨Nat.le_of_ble_eq_true rfl, Nat.le_of_ble_eq_true rfl⟩) rfl rfl (Nat.le_of_ble_eq_true rfl) dX7_sheds_4 ⟨Nat.zero_le _, Nat.zero_le _⟩ rfl (fun H locs hw => ?_)
  refine p_iald hx hb hE hw hn b1 (by omega) (congrFun hs1) dX7_sheds_7 h (fun v7 h => ?_)
  obtain ⟨v8, h8, h⟩ := cr1_some h
  refine r_callS (As := [.ref (gA G (β + b1)), .int v7]) (rest := []) (st1 := [.int v8]) hx hb hml hown hts hE hw hl (mc_subR b1 1 (by omega) (mX7_bayOn l G (by show β + b1 + 1 ≤ _; omega) hs1 h8)) (va_cwS 2 hts (zS gS_X7_78) rfl rfl rfl kdX7_bayOn ⟨Nat.le_of_ble_eq_true rfl, Nat.le_of_ble_eq_true rfl⟩) rfl rfl (Nat.le_of_ble_eq_true rfl) dX7_sheds_8 ⟨Nat.zero_le _, Nat.zero_le _⟩ rfl (fun H locs hw => ?_)
  refine lv_istore_n (lv' := [(3, .int v8), (0, .ref (gA G (β + 0))), (1, .ref (gA G (β + b1))), (2, .int a2)]) hx hb dX7_sheds_11 rfl hl (by decide) rfl (fun ls hl => ?_)
  refine lv_iconst (v := (nI 0)) hx hb dX7_sheds_12 (by decide) ?_
  refine lv_istore (lv' := [(4, .int (nI 0)), (3, .int v8), (0, .ref (gA G (β + 0))), (1, .ref (gA G (β + b1))), (2, .int a2)]) hx hb dX7_sheds_13 hl (by decide) rfl (fun ls hl => ?_)
  refine lv_iconst (v := (nI 1)) hx hb dX7_sheds_15 (by decide) ?_
  refine lv_istore (lv' := [(5, .int (nI 1)), (4, .int (nI 0)), (3, .int v8), (0, .ref (gA G (β + 0))), (1, .ref (gA G (β + b1))), (2, .int a2)]) hx hb dX7_sheds_16 hl (by decide) rfl (fun ls hl => ?_)
  exact k18 fuel a2 v8 (nI 0) (nI 1) S _ _ _ h hw (lv_sub hl [3, 4, 5, 2, 1, 0] rfl)

set_option maxHeartbeats 4000000 in
set_option maxRecDepth 100000 in
theorem mX7_burn (l : Launch) (G : mG) {β : Nat} {M S S' : mM} {a2 : Int32} (hn : β + 1 ≤ gN G) (hR : isRow G β) (h : pX7_burn a2 S = some S') : MC l G yX7_burn zzX7_burn 2 43 [.ref (gA G (β + 0)), .int a2] (wB M β 1 S) (wB M β 1 S') none := by
  refine mc_of (cc := cX7_burn) (maxL := 4) (ret := none) (by decide) rfl (Nat.le_of_ble_eq_true rfl) ?_
  intro p e s m args below meth c H ls hx hb hr hts hown hml hlocks hE hw hl
  have hl : lv_has ls 4 [(0, .ref (gA G (β + 0))), (1, .int a2)] := hl
  have k13 : ∀ (k : Nat), ∀ (x1 : Int32) (x2 : Int32) (S : mM) (H : Heap) (locs : List Loc) (ls : Array Slot), pX7_burn_l13  k x1 x2 S = some S' → mW G s (wB M β 1 S) H locs → lv_has ls 4 [(0, .ref (gA G (β + 0))), (1, .int x1), (2, .int x2)] → W p l e { frames := 2, cells := 0, slots := 0, locals := 43 } s m args below meth c H locs 0 0 (mZ below G none (wB M β 1 S') args s) (F0 m 13 ls []) := by
    intro k
    induction k with
    | zero => intro x1 x2 S H locs ls h; cases h
    | succ k hih13 =>
      intro x1 x2 S H locs ls h hw hl
      obtain ⟨ih13, hk13⟩ : ∃ f, f = pX7_burn_l13  k := ⟨_, rfl⟩
      replace h : pX7_burn_lb13  (pX7_burn_l13  k) x1 x2 S = some S' := h
      rw [← hk13] at h hih13
      clear hk13
      unfold pX7_burn_lb13 at h
      refine lv_iload_n hx hb dX7_burn_13 rfl (lv_at hl 2 rfl) ?_
      refine lv_aload_n hx hb dX7_burn_14 rfl (lv_at hl 0 rfl) ?_
      refine lv_iload_n hx hb dX7_burn_15 rfl (lv_at hl 1 rfl) ?_
      obtain ⟨v16, h16, h⟩ := cr1_some h
      refine r_callS (As := [.ref (gA G (β + 0)), .int x1]) (rest := [.int x2]) (st1 := [.int v16, .int x2]) hx hb hml hown hts hE hw hl (mX7_sizeOf l G (by omega) hR h16) (va_cwS 2 hts (zS gS_X7_64) rfl rfl rfl kdX7_sizeOf ⟨Nat.le_of_ble_eq_true rfl, Nat.le_of_ble_eq_true rfl⟩) rfl rfl (Nat.le_of_ble_eq_true rfl) dX7_burn_16 ⟨Nat.zero_le _, Nat.zero_le _⟩ rfl (fun H locs hw => ?_)
      refine bi_ge (tgt := 84) hx hb dX7_burn_19 (by decide) h (fun h => ?_) (fun h => ?_)
      · exact e_vw hx hb hr hlocks hw dX7_burn_84 h
      · refine lv_aload_n hx hb dX7_burn_22 rfl (lv_at hl 0 rfl) ?_
        refine lv_iload_n hx hb dX7_burn_23 rfl (lv_at hl 1 rfl) ?_
        refine lv_iload_n hx hb dX7_burn_24 rfl (lv_at hl 2 rfl) ?_
        obtain ⟨v25, h25, h⟩ := cr1_some h
        refine r_callS (As := [.ref (gA G (β + 0)), .int x1, .int x2]) (rest := []) (st1 := [.int v25]) hx hb hml hown hts hE hw hl (mX7_who l G (by omega) hR h25) (va_cwS 3 hts (zS gS_X7_68) rfl rfl rfl kdX7_who ⟨Nat.le_of_ble_eq_true rfl, Nat.le_of_ble_eq_true rfl⟩) rfl rfl (Nat.le_of_ble_eq_true rfl) dX7_burn_25 ⟨Nat.zero_le _, Nat.zero_le _⟩ rfl (fun H locs hw => ?_)
        refine lv_istore_n (lv' := [(3, .int v25), (0, .ref (gA G (β + 0))), (1, .int x1), (2, .int x2)]) hx hb dX7_burn_28 rfl hl (by decide) rfl (fun ls hl => ?_)
        refine lv_aload_n hx hb dX7_burn_29 rfl (lv_at hl 1 rfl) ?_
        refine lv_iload_n hx hb dX7_burn_30 rfl (lv_at hl 0 rfl) ?_
        refine lv_iconst (v := (nI 3)) hx hb dX7_burn_31 (by decide) ?_
        obtain ⟨v32, h32, h⟩ := cr1_some h
        refine r_callS (As := [.int v25, .int (nI 3)]) (rest := [.ref (gA G (β + 0))]) (st1 := [.int v32, .ref (gA G (β + 0))]) hx hb hml hown hts hE hw hl (mX7_carAt l G (M := (wB M β 1 S)) h32) (va_cwS 2 hts (zS gS_X7_72) rfl rfl rfl kdX7_carAt ⟨Nat.le_of_ble_eq_true rfl, Nat.le_of_ble_eq_true rfl⟩) rfl rfl (Nat.le_of_ble_eq_true rfl) dX7_burn_32 ⟨Nat.zero_le _, Nat.zero_le _⟩ rfl (fun H locs hw => ?_)
        refine lv_dup2_11 hx hb dX7_burn_35 rfl rfl ?_
        refine p_iald hx hb hE hw hn 0 (by decide) (congrFun hR) dX7_burn_36 h (fun v36 h => ?_)
        refine lv_aload_n hx hb dX7_burn_37 rfl (lv_at hl 1 rfl) ?_
        refine lv_iload_n hx hb dX7_burn_38 rfl (lv_at hl 0 rfl) ?_
        refine lv_iconst (v := (nI 1)) hx hb dX7_burn_39 (by decide) ?_
        obtain ⟨v40, h40, h⟩ := cr1_some h
        refine r_callS (As := [.int v25, .int (nI 1)]) (rest := [.ref (gA G (β + 0)), .int v36, .int v32, .ref (gA G (β + 0))]) (st1 := [.int v40, .ref (gA G (β + 0)), .int v36, .int v32, .ref (gA G (β + 0))]) hx hb hml hown hts hE hw hl (mX7_carAt l G (M := (wB M β 1 S)) h40) (va_cwS 2 hts (zS gS_X7_72) rfl rfl rfl kdX7_carAt ⟨Nat.le_of_ble_eq_true rfl, Nat.le_of_ble_eq_true rfl⟩) rfl rfl (Nat.le_of_ble_eq_true rfl) dX7_burn_40 ⟨Nat.zero_le _, Nat.zero_le _⟩ rfl (fun H locs hw => ?_)
        refine p_iald hx hb hE hw hn 0 (by decide) (congrFun hR) dX7_burn_43 h (fun v43 h => ?_)
        refine lv_isub hx hb dX7_burn_44 ?_
        refine p_iast hx hb hE hw hn 0 (by decide) (congrFun hR) dX7_burn_45 h (fun S45 h H locs hw => ?_)
        refine lv_aload_n hx hb dX7_burn_46 rfl (lv_at hl 1 rfl) ?_
        refine lv_iload_n hx hb dX7_burn_47 rfl (lv_at hl 0 rfl) ?_
        refine lv_bipush (v := (nI 6)) hx hb dX7_burn_48 (by decide) ?_
        obtain ⟨v50, h50, h⟩ := cr1_some h
        refine r_callS (As := [.int v25, .int (nI 6)]) (rest := [.ref (gA G (β + 0))]) (st1 := [.int v50, .ref (gA G (β + 0))]) hx hb hml hown hts hE hw hl (mX7_carAt l G (M := (wB M β 1 S45)) h50) (va_cwS 2 hts (zS gS_X7_72) rfl rfl rfl kdX7_carAt ⟨Nat.le_of_ble_eq_true rfl, Nat.le_of_ble_eq_true rfl⟩) rfl rfl (Nat.le_of_ble_eq_true rfl) dX7_burn_50 ⟨Nat.zero_le _, Nat.zero_le _⟩ rfl (fun H locs hw => ?_)
        refine lv_dup2_11 hx hb dX7_burn_53 rfl rfl ?_
        refine p_iald hx hb hE hw hn 0 (by decide) (congrFun hR) dX7_burn_54 h (fun v54 h => ?_)
        refine lv_aload_n hx hb dX7_burn_55 rfl (lv_at hl 1 rfl) ?_
        refine lv_iload_n hx hb dX7_burn_56 rfl (lv_at hl 0 rfl) ?_
        refine lv_iconst (v := (nI 1)) hx hb dX7_burn_57 (by decide) ?_
        obtain ⟨v58, h58, h⟩ := cr1_some h
        refine r_callS (As := [.int v25, .int (nI 1)]) (rest := [.ref (gA G (β + 0)), .int v54, .int v50, .ref (gA G (β + 0))]) (st1 := [.int v58, .ref (gA G (β + 0)), .int v54, .int v50, .ref (gA G (β + 0))]) hx hb hml hown hts hE hw hl (mX7_carAt l G (M := (wB M β 1 S45)) h58) (va_cwS 2 hts (zS gS_X7_72) rfl rfl rfl kdX7_carAt ⟨Nat.le_of_ble_eq_true rfl, Nat.le_of_ble_eq_true rfl⟩) rfl rfl (Nat.le_of_ble_eq_true rfl) dX7_burn_58 ⟨Nat.zero_le _, Nat.zero_le _⟩ rfl (fun H locs hw => ?_)
        refine p_iald hx hb hE hw hn 0 (by decide) (congrFun hR) dX7_burn_61 h (fun v61 h => ?_)
        refine lv_iadd hx hb dX7_burn_62 ?_
        refine p_iast hx hb hE hw hn 0 (by decide) (congrFun hR) dX7_burn_63 h (fun S63 h H locs hw => ?_)
        refine lv_aload_n hx hb dX7_burn_64 rfl (lv_at hl 1 rfl) ?_
        refine lv_bipush (v := (nI 7)) hx hb dX7_burn_65 (by decide) ?_
        refine lv_dup2_11 hx hb dX7_burn_67 rfl rfl ?_
        refine p_iald hx hb hE hw hn 0 (by decide) (congrFun hR) dX7_burn_68 h (fun v68 h => ?_)
        refine lv_aload_n hx hb dX7_burn_69 rfl (lv_at hl 1 rfl) ?_
        refine lv_iload_n hx hb dX7_burn_70 rfl (lv_at hl 0 rfl) ?_
        refine lv_iconst (v := (nI 1)) hx hb dX7_burn_71 (by decide) ?_
        obtain ⟨v72, h72, h⟩ := cr1_some h
        refine r_callS (As := [.int v25, .int (nI 1)]) (rest := [.ref (gA G (β + 0)), .int v68, .int (nI 7), .ref (gA G (β + 0))]) (st1 := [.int v72, .ref (gA G (β + 0)), .int v68, .int (nI 7), .ref (gA G (β + 0))]) hx hb hml hown hts hE hw hl (mX7_carAt l G (M := (wB M β 1 S63)) h72) (va_cwS 2 hts (zS gS_X7_72) rfl rfl rfl kdX7_carAt ⟨Nat.le_of_ble_eq_true rfl, Nat.le_of_ble_eq_true rfl⟩) rfl rfl (Nat.le_of_ble_eq_true rfl) dX7_burn_72 ⟨Nat.zero_le _, Nat.zero_le _⟩ rfl (fun H locs hw => ?_)
        refine p_iald hx hb hE hw hn 0 (by decide) (congrFun hR) dX7_burn_75 h (fun v75 h => ?_)
        refine lv_iadd hx hb dX7_burn_76 ?_
        refine p_iast hx hb hE hw hn 0 (by decide) (congrFun hR) dX7_burn_77 h (fun S77 h H locs hw => ?_)
        refine p_iinc (w := (nI 1)) 3 (fun v78 => [(2, .int v78), (3, .int v25), (0, .ref (gA G (β + 0))), (1, .int x1)]) hx hb dX7_burn_78 hl rfl (by decide) (by decide) h (fun _ => rfl) (fun v78 h ls hl => ?_)
        refine lv_goto (tgt := 13) hx hb dX7_burn_81 (by decide) ?_
        exact hih13 x1 v78 S77 _ _ _ h hw (lv_sub hl [2, 3, 0] rfl)
  unfold pX7_burn at h
  refine lv_aload_n hx hb dX7_burn_0 rfl (lv_at hl 0 rfl) ?_
  refine lv_iload_n hx hb dX7_burn_1 rfl (lv_at hl 1 rfl) ?_
  refine lv_iconst (v := (nI 0)) hx hb dX7_burn_2 (by decide) ?_
  obtain ⟨v3, h3, h⟩ := cr1_some h
  refine r_callS (As := [.int a2, .int (nI 0)]) (rest := [.ref (gA G (β + 0))]) (st1 := [.int v3, .ref (gA G (β + 0))]) hx hb hml hown hts hE hw hl (mX7_convoyAt l G (M := (wB M β 1 S)) h3) (va_cwS 2 hts (zS gS_X7_51) rfl rfl rfl kdX7_convoyAt ⟨Nat.le_of_ble_eq_true rfl, Nat.le_of_ble_eq_true rfl⟩) rfl rfl (Nat.le_of_ble_eq_true rfl) dX7_burn_3 ⟨Nat.zero_le _, Nat.zero_le _⟩ rfl (fun H locs hw => ?_)
  refine lv_dup2_11 hx hb dX7_burn_6 rfl rfl ?_
  refine p_iald hx hb hE hw hn 0 (by decide) (congrFun hR) dX7_burn_7 h (fun v7 h => ?_)
  refine lv_iconst (v := (nI 1)) hx hb dX7_burn_8 (by decide) ?_
  refine lv_iadd hx hb dX7_burn_9 ?_
  refine p_iast hx hb hE hw hn 0 (by decide) (congrFun hR) dX7_burn_10 h (fun S10 h H locs hw => ?_)
  refine lv_iconst (v := (nI 0)) hx hb dX7_burn_11 (by decide) ?_
  refine lv_istore_n (lv' := [(2, .int (nI 0)), (0, .ref (gA G (β + 0))), (1, .int a2)]) hx hb dX7_burn_12 rfl hl (by decide) rfl (fun ls hl => ?_)
  exact k13 fuel a2 (nI 0) S10 _ _ _ h hw (lv_sub hl [1, 2, 0] rfl)

set_option maxHeartbeats 4000000 in
set_option maxRecDepth 100000 in
theorem mX7_arrive (l : Launch) (G : mG) {β : Nat} {M S S' : mM} {a2 : Int32} (hn : β + 1 ≤ gN G) (hR : isRow G β) (h : pX7_arrive a2 S = some S') : MC l G yX7_arrive zzX7_arrive 2 43 [.ref (gA G (β + 0)), .int a2] (wB M β 1 S) (wB M β 1 S') none := by
  refine mc_of (cc := cX7_arrive) (maxL := 3) (ret := none) (by decide) rfl (Nat.le_of_ble_eq_true rfl) ?_
  intro p e s m args below meth c H ls hx hb hr hts hown hml hlocks hE hw hl
  have hl : lv_has ls 3 [(0, .ref (gA G (β + 0))), (1, .int a2)] := hl
  have k2 : ∀ (k : Nat), ∀ (x1 : Int32) (x2 : Int32) (S : mM) (H : Heap) (locs : List Loc) (ls : Array Slot), pX7_arrive_l2  k x1 x2 S = some S' → mW G s (wB M β 1 S) H locs → lv_has ls 3 [(0, .ref (gA G (β + 0))), (1, .int x1), (2, .int x2)] → W p l e { frames := 2, cells := 0, slots := 0, locals := 43 } s m args below meth c H locs 0 0 (mZ below G none (wB M β 1 S') args s) (F0 m 2 ls []) := by
    intro k
    induction k with
    | zero => intro x1 x2 S H locs ls h; cases h
    | succ k hih2 =>
      intro x1 x2 S H locs ls h hw hl
      obtain ⟨ih2, hk2⟩ : ∃ f, f = pX7_arrive_l2  k := ⟨_, rfl⟩
      replace h : pX7_arrive_lb2  (pX7_arrive_l2  k) x1 x2 S = some S' := h
      rw [← hk2] at h hih2
      clear hk2
      unfold pX7_arrive_lb2 at h
      refine lv_iload_n hx hb dX7_arrive_2 rfl (lv_at hl 2 rfl) ?_
      refine lv_aload_n hx hb dX7_arrive_3 rfl (lv_at hl 0 rfl) ?_
      refine lv_iload_n hx hb dX7_arrive_4 rfl (lv_at hl 1 rfl) ?_
      obtain ⟨v5, h5, h⟩ := cr1_some h
      refine r_callS (As := [.ref (gA G (β + 0)), .int x1]) (rest := [.int x2]) (st1 := [.int v5, .int x2]) hx hb hml hown hts hE hw hl (mX7_sizeOf l G (by omega) hR h5) (va_cwS 2 hts (zS gS_X7_64) rfl rfl rfl kdX7_sizeOf ⟨Nat.le_of_ble_eq_true rfl, Nat.le_of_ble_eq_true rfl⟩) rfl rfl (Nat.le_of_ble_eq_true rfl) dX7_arrive_5 ⟨Nat.zero_le _, Nat.zero_le _⟩ rfl (fun H locs hw => ?_)
      refine bi_ge (tgt := 44) hx hb dX7_arrive_8 (by decide) h (fun h => ?_) (fun h => ?_)
      · refine lv_aload_n hx hb dX7_arrive_44 rfl (lv_at hl 0 rfl) ?_
        refine lv_iload_n hx hb dX7_arrive_45 rfl (lv_at hl 1 rfl) ?_
        refine lv_iconst (v := (nI 1)) hx hb dX7_arrive_46 (by decide) ?_
        obtain ⟨v47, h47, h⟩ := cr1_some h
        refine r_callS (As := [.int x1, .int (nI 1)]) (rest := [.ref (gA G (β + 0))]) (st1 := [.int v47, .ref (gA G (β + 0))]) hx hb hml hown hts hE hw hl (mX7_convoyAt l G (M := (wB M β 1 S)) h47) (va_cwS 2 hts (zS gS_X7_51) rfl rfl rfl kdX7_convoyAt ⟨Nat.le_of_ble_eq_true rfl, Nat.le_of_ble_eq_true rfl⟩) rfl rfl (Nat.le_of_ble_eq_true rfl) dX7_arrive_47 ⟨Nat.zero_le _, Nat.zero_le _⟩ rfl (fun H locs hw => ?_)
        refine lv_iconst (v := (nI 0)) hx hb dX7_arrive_50 (by decide) ?_
        refine p_iast hx hb hE hw hn 0 (by decide) (congrFun hR) dX7_arrive_51 h (fun S51 h H locs hw => ?_)
        exact e_vw hx hb hr hlocks hw dX7_arrive_52 h
      · refine lv_aload_n hx hb dX7_arrive_11 rfl (lv_at hl 0 rfl) ?_
        refine lv_aload_n hx hb dX7_arrive_12 rfl (lv_at hl 0 rfl) ?_
        refine lv_iload_n hx hb dX7_arrive_13 rfl (lv_at hl 1 rfl) ?_
        refine lv_iload_n hx hb dX7_arrive_14 rfl (lv_at hl 2 rfl) ?_
        obtain ⟨v15, h15, h⟩ := cr1_some h
        refine r_callS (As := [.ref (gA G (β + 0)), .int x1, .int x2]) (rest := [.ref (gA G (β + 0))]) (st1 := [.int v15, .ref (gA G (β + 0))]) hx hb hml hown hts hE hw hl (mX7_who l G (by omega) hR h15) (va_cwS 3 hts (zS gS_X7_68) rfl rfl rfl kdX7_who ⟨Nat.le_of_ble_eq_true rfl, Nat.le_of_ble_eq_true rfl⟩) rfl rfl (Nat.le_of_ble_eq_true rfl) dX7_arrive_15 ⟨Nat.zero_le _, Nat.zero_le _⟩ rfl (fun H locs hw => ?_)
        refine lv_iconst (v := (nI 4)) hx hb dX7_arrive_18 (by decide) ?_
        obtain ⟨v19, h19, h⟩ := cr1_some h
        refine r_callS (As := [.int v15, .int (nI 4)]) (rest := [.ref (gA G (β + 0))]) (st1 := [.int v19, .ref (gA G (β + 0))]) hx hb hml hown hts hE hw hl (mX7_carAt l G (M := (wB M β 1 S)) h19) (va_cwS 2 hts (zS gS_X7_72) rfl rfl rfl kdX7_carAt ⟨Nat.le_of_ble_eq_true rfl, Nat.le_of_ble_eq_true rfl⟩) rfl rfl (Nat.le_of_ble_eq_true rfl) dX7_arrive_19 ⟨Nat.zero_le _, Nat.zero_le _⟩ rfl (fun H locs hw => ?_)
        refine lv_iconst (v := (nI 2)) hx hb dX7_arrive_22 (by decide) ?_
        refine p_iast hx hb hE hw hn 0 (by decide) (congrFun hR) dX7_arrive_23 h (fun S23 h H locs hw => ?_)
        refine lv_aload_n hx hb dX7_arrive_24 rfl (lv_at hl 0 rfl) ?_
        refine lv_aload_n hx hb dX7_arrive_25 rfl (lv_at hl 0 rfl) ?_
        refine lv_iload_n hx hb dX7_arrive_26 rfl (lv_at hl 1 rfl) ?_
        refine lv_iload_n hx hb dX7_arrive_27 rfl (lv_at hl 2 rfl) ?_
        obtain ⟨v28, h28, h⟩ := cr1_some h
        refine r_callS (As := [.ref (gA G (β + 0)), .int x1, .int x2]) (rest := [.ref (gA G (β + 0))]) (st1 := [.int v28, .ref (gA G (β + 0))]) hx hb hml hown hts hE hw hl (mX7_who l G (by omega) hR h28) (va_cwS 3 hts (zS gS_X7_68) rfl rfl rfl kdX7_who ⟨Nat.le_of_ble_eq_true rfl, Nat.le_of_ble_eq_true rfl⟩) rfl rfl (Nat.le_of_ble_eq_true rfl) dX7_arrive_28 ⟨Nat.zero_le _, Nat.zero_le _⟩ rfl (fun H locs hw => ?_)
        refine lv_iconst (v := (nI 5)) hx hb dX7_arrive_31 (by decide) ?_
        obtain ⟨v32, h32, h⟩ := cr1_some h
        refine r_callS (As := [.int v28, .int (nI 5)]) (rest := [.ref (gA G (β + 0))]) (st1 := [.int v32, .ref (gA G (β + 0))]) hx hb hml hown hts hE hw hl (mX7_carAt l G (M := (wB M β 1 S23)) h32) (va_cwS 2 hts (zS gS_X7_72) rfl rfl rfl kdX7_carAt ⟨Nat.le_of_ble_eq_true rfl, Nat.le_of_ble_eq_true rfl⟩) rfl rfl (Nat.le_of_ble_eq_true rfl) dX7_arrive_32 ⟨Nat.zero_le _, Nat.zero_le _⟩ rfl (fun H locs hw => ?_)
        refine lv_bipush (v := (-9)) hx hb dX7_arrive_35 (by decide) ?_
        refine p_iast hx hb hE hw hn 0 (by decide) (congrFun hR) dX7_arrive_37 h (fun S37 h H locs hw => ?_)
        refine p_iinc (w := (nI 1)) 2 (fun v38 => [(2, .int v38), (0, .ref (gA G (β + 0))), (1, .int x1)]) hx hb dX7_arrive_38 hl rfl (by decide) (by decide) h (fun _ => rfl) (fun v38 h ls hl => ?_)
        refine lv_goto (tgt := 2) hx hb dX7_arrive_41 (by decide) ?_
        exact hih2 x1 v38 S37 _ _ _ h hw (lv_sub hl [1, 2, 0] rfl)
  unfold pX7_arrive at h
  refine lv_iconst (v := (nI 0)) hx hb dX7_arrive_0 (by decide) ?_
  refine lv_istore_n (lv' := [(2, .int (nI 0)), (0, .ref (gA G (β + 0))), (1, .int a2)]) hx hb dX7_arrive_1 rfl hl (by decide) rfl (fun ls hl => ?_)
  exact k2 fuel a2 (nI 0) S _ _ _ h hw (lv_sub hl [1, 2, 0] rfl)

set_option maxHeartbeats 4000000 in
set_option maxRecDepth 100000 in
theorem mX7_helps (l : Launch) (G : mG) {β : Nat} {M S S' : mM} {a2 : Int32} {a3 : Int32} {r : Int32} (hn : β + 1 ≤ gN G) (hR : isRow G β) (h : pX7_helps a2 a3 S = some (r, S')) : MC l G yX7_helps zzX7_helps 2 43 [.ref (gA G (β + 0)), .int a2, .int a3] (wB M β 1 S) (wB M β 1 S') (some (.int r)) := by
  refine mc_of (cc := cX7_helps) (maxL := 7) (ret := (some .boolean)) (by decide) rfl (Nat.le_of_ble_eq_true rfl) ?_
  intro p e s m args below meth c H ls hx hb hr hts hown hml hlocks hE hw hl
  have hl : lv_has ls 7 [(0, .ref (gA G (β + 0))), (1, .int a2), (2, .int a3)] := hl
  have k131 : ∀ (x1 : Int32) (x2 : Int32) (x3 : Int32) (x4 : Int32) (t0 : Int32) (S : mM) (H : Heap) (locs : List Loc) (ls : Array Slot), pX7_helps_b131  x1 x2 x3 x4 t0 S = some (r, S') → mW G s (wB M β 1 S) H locs → lv_has ls 7 [(0, .ref (gA G (β + 0))), (1, .int x1), (2, .int x2), (3, .int x3), (4, .int x4)] → W p l e { frames := 2, cells := 0, slots := 0, locals := 43 } s m args below meth c H locs 0 0 (mZ below G (some (.int r)) (wB M β 1 S') args s) (F0 m 131 ls [.int t0]) := by
    intro x1 x2 x3 x4 t0 S H locs ls h hw hl
    unfold pX7_helps_b131 at h
    refine lv_istore (lv' := [(5, .int t0), (0, .ref (gA G (β + 0))), (1, .int x1), (2, .int x2), (3, .int x3), (4, .int x4)]) hx hb dX7_helps_131 hl (by decide) rfl (fun ls hl => ?_)
    refine lv_aload_n hx hb dX7_helps_133 rfl (lv_at hl 1 rfl) ?_
    refine lv_iload hx hb dX7_helps_134 (lv_at hl 5 rfl) ?_
    refine lv_iconst (v := (nI 3)) hx hb dX7_helps_136 (by decide) ?_
    obtain ⟨v137, h137, h⟩ := cr1_some h
    refine r_callS (As := [.int x4, .int (nI 3)]) (rest := [.ref (gA G (β + 0))]) (st1 := [.int v137, .ref (gA G (β + 0))]) hx hb hml hown hts hE hw hl (mX7_carAt l G (M := (wB M β 1 S)) h137) (va_cwS 2 hts (zS gS_X7_72) rfl rfl rfl kdX7_carAt ⟨Nat.le_of_ble_eq_true rfl, Nat.le_of_ble_eq_true rfl⟩) rfl rfl (Nat.le_of_ble_eq_true rfl) dX7_helps_137 ⟨Nat.zero_le _, Nat.zero_le _⟩ rfl (fun H locs hw => ?_)
    refine lv_dup2_11 hx hb dX7_helps_140 rfl rfl ?_
    refine p_iald hx hb hE hw hn 0 (by decide) (congrFun hR) dX7_helps_141 h (fun v141 h => ?_)
    refine lv_iload hx hb dX7_helps_142 (lv_at hl 0 rfl) ?_
    refine lv_isub hx hb dX7_helps_144 ?_
    refine p_iast hx hb hE hw hn 0 (by decide) (congrFun hR) dX7_helps_145 h (fun S145 h H locs hw => ?_)
    refine lv_aload_n hx hb dX7_helps_146 rfl (lv_at hl 1 rfl) ?_
    refine lv_iload_n hx hb dX7_helps_147 rfl (lv_at hl 4 rfl) ?_
    refine lv_iconst (v := (nI 3)) hx hb dX7_helps_148 (by decide) ?_
    obtain ⟨v149, h149, h⟩ := cr1_some h
    refine r_callS (As := [.int x3, .int (nI 3)]) (rest := [.ref (gA G (β + 0))]) (st1 := [.int v149, .ref (gA G (β + 0))]) hx hb hml hown hts hE hw hl (mX7_carAt l G (M := (wB M β 1 S145)) h149) (va_cwS 2 hts (zS gS_X7_72) rfl rfl rfl kdX7_carAt ⟨Nat.le_of_ble_eq_true rfl, Nat.le_of_ble_eq_true rfl⟩) rfl rfl (Nat.le_of_ble_eq_true rfl) dX7_helps_149 ⟨Nat.zero_le _, Nat.zero_le _⟩ rfl (fun H locs hw => ?_)
    refine lv_dup2_11 hx hb dX7_helps_152 rfl rfl ?_
    refine p_iald hx hb hE hw hn 0 (by decide) (congrFun hR) dX7_helps_153 h (fun v153 h => ?_)
    refine lv_iload hx hb dX7_helps_154 (lv_at hl 0 rfl) ?_
    refine lv_iadd hx hb dX7_helps_156 ?_
    refine p_iast hx hb hE hw hn 0 (by decide) (congrFun hR) dX7_helps_157 h (fun S157 h H locs hw => ?_)
    refine lv_aload_n hx hb dX7_helps_158 rfl (lv_at hl 1 rfl) ?_
    refine lv_iload_n hx hb dX7_helps_159 rfl (lv_at hl 4 rfl) ?_
    obtain ⟨v160, h160, h⟩ := cr1_some h
    refine r_callS (As := [.ref (gA G (β + 0)), .int x3]) (rest := []) (st1 := [.int v160]) hx hb hml hown hts hE hw hl (mX7_isShort l G (by omega) hR h160) (va_cwS 2 hts (zS gS_X7_81) rfl rfl rfl kdX7_isShort ⟨Nat.le_of_ble_eq_true rfl, Nat.le_of_ble_eq_true rfl⟩) rfl rfl (Nat.le_of_ble_eq_true rfl) dX7_helps_160 ⟨Nat.zero_le _, Nat.zero_le _⟩ rfl (fun H locs hw => ?_)
    refine b_eq (tgt := 168) hx hb dX7_helps_163 (by decide) h (fun h => ?_) (fun h => ?_)
    · refine lv_aload_n hx hb dX7_helps_168 rfl (lv_at hl 1 rfl) ?_
      refine lv_iload_n hx hb dX7_helps_169 rfl (lv_at hl 3 rfl) ?_
      refine lv_iconst (v := (nI 3)) hx hb dX7_helps_170 (by decide) ?_
      obtain ⟨v171, h171, h⟩ := cr1_some h
      refine r_callS (As := [.int x2, .int (nI 3)]) (rest := [.ref (gA G (β + 0))]) (st1 := [.int v171, .ref (gA G (β + 0))]) hx hb hml hown hts hE hw hl (mX7_bayAt l G (M := (wB M β 1 S157)) h171) (va_cwS 2 hts (zS gS_X7_58) rfl rfl rfl kdX7_bayAt ⟨Nat.le_of_ble_eq_true rfl, Nat.le_of_ble_eq_true rfl⟩) rfl rfl (Nat.le_of_ble_eq_true rfl) dX7_helps_171 ⟨Nat.zero_le _, Nat.zero_le _⟩ rfl (fun H locs hw => ?_)
      refine lv_iconst (v := (nI 0)) hx hb dX7_helps_174 (by decide) ?_
      refine lv_aload_n hx hb dX7_helps_175 rfl (lv_at hl 1 rfl) ?_
      refine lv_iload_n hx hb dX7_helps_176 rfl (lv_at hl 3 rfl) ?_
      refine lv_iconst (v := (nI 2)) hx hb dX7_helps_177 (by decide) ?_
      obtain ⟨v178, h178, h⟩ := cr1_some h
      refine r_callS (As := [.int x2, .int (nI 2)]) (rest := [.ref (gA G (β + 0)), .int (nI 0), .int v171, .ref (gA G (β + 0))]) (st1 := [.int v178, .ref (gA G (β + 0)), .int (nI 0), .int v171, .ref (gA G (β + 0))]) hx hb hml hown hts hE hw hl (mX7_bayAt l G (M := (wB M β 1 S157)) h178) (va_cwS 2 hts (zS gS_X7_58) rfl rfl rfl kdX7_bayAt ⟨Nat.le_of_ble_eq_true rfl, Nat.le_of_ble_eq_true rfl⟩) rfl rfl (Nat.le_of_ble_eq_true rfl) dX7_helps_178 ⟨Nat.zero_le _, Nat.zero_le _⟩ rfl (fun H locs hw => ?_)
      refine p_iald hx hb hE hw hn 0 (by decide) (congrFun hR) dX7_helps_181 h (fun v181 h => ?_)
      obtain ⟨S182, h182, h⟩ := cr1_some h
      refine r_callS (As := [.ref (gA G (β + 0)), .int v171, .int (nI 0), .int v181]) (rest := []) (st1 := []) hx hb hml hown hts hE hw hl (mX7_drop l G (by omega) hR h182) (va_cwS 4 hts (zS gS_X7_85) rfl rfl rfl kdX7_drop ⟨Nat.le_of_ble_eq_true rfl, Nat.le_of_ble_eq_true rfl⟩) rfl rfl (Nat.le_of_ble_eq_true rfl) dX7_helps_182 ⟨Nat.zero_le _, Nat.zero_le _⟩ rfl (fun H locs hw => ?_)
      refine lv_aload_n hx hb dX7_helps_185 rfl (lv_at hl 1 rfl) ?_
      refine lv_iload_n hx hb dX7_helps_186 rfl (lv_at hl 3 rfl) ?_
      refine lv_iconst (v := (nI 2)) hx hb dX7_helps_187 (by decide) ?_
      obtain ⟨v188, h188, h⟩ := cr1_some h
      refine r_callS (As := [.int x2, .int (nI 2)]) (rest := [.ref (gA G (β + 0))]) (st1 := [.int v188, .ref (gA G (β + 0))]) hx hb hml hown hts hE hw hl (mX7_bayAt l G (M := (wB M β 1 S182)) h188) (va_cwS 2 hts (zS gS_X7_58) rfl rfl rfl kdX7_bayAt ⟨Nat.le_of_ble_eq_true rfl, Nat.le_of_ble_eq_true rfl⟩) rfl rfl (Nat.le_of_ble_eq_true rfl) dX7_helps_188 ⟨Nat.zero_le _, Nat.zero_le _⟩ rfl (fun H locs hw => ?_)
      refine lv_dup2_11 hx hb dX7_helps_191 rfl rfl ?_
      refine p_iald hx hb hE hw hn 0 (by decide) (congrFun hR) dX7_helps_192 h (fun v192 h => ?_)
      refine lv_iconst (v := (nI 1)) hx hb dX7_helps_193 (by decide) ?_
      refine lv_isub hx hb dX7_helps_194 ?_
      refine p_iast hx hb hE hw hn 0 (by decide) (congrFun hR) dX7_helps_195 h (fun S195 h H locs hw => ?_)
      refine lv_aload_n hx hb dX7_helps_196 rfl (lv_at hl 1 rfl) ?_
      refine lv_iload_n hx hb dX7_helps_197 rfl (lv_at hl 2 rfl) ?_
      refine lv_iconst (v := (nI 5)) hx hb dX7_helps_198 (by decide) ?_
      refine lv_aload_n hx hb dX7_helps_199 rfl (lv_at hl 1 rfl) ?_
      refine lv_iload_n hx hb dX7_helps_200 rfl (lv_at hl 2 rfl) ?_
      obtain ⟨v201, h201, h⟩ := cr1_some h
      refine r_callS (As := [.ref (gA G (β + 0)), .int x1]) (rest := [.int (nI 5), .int x1, .ref (gA G (β + 0))]) (st1 := [.int v201, .int (nI 5), .int x1, .ref (gA G (β + 0))]) hx hb hml hown hts hE hw hl (mX7_sizeOf l G (by omega) hR h201) (va_cwS 2 hts (zS gS_X7_64) rfl rfl rfl kdX7_sizeOf ⟨Nat.le_of_ble_eq_true rfl, Nat.le_of_ble_eq_true rfl⟩) rfl rfl (Nat.le_of_ble_eq_true rfl) dX7_helps_201 ⟨Nat.zero_le _, Nat.zero_le _⟩ rfl (fun H locs hw => ?_)
      refine lv_iadd hx hb dX7_helps_204 ?_
      obtain ⟨v205, h205, h⟩ := cr1_some h
      refine r_callS (As := [.int x1, .int ((nI 5) + v201)]) (rest := [.ref (gA G (β + 0))]) (st1 := [.int v205, .ref (gA G (β + 0))]) hx hb hml hown hts hE hw hl (mX7_convoyAt l G (M := (wB M β 1 S195)) h205) (va_cwS 2 hts (zS gS_X7_51) rfl rfl rfl kdX7_convoyAt ⟨Nat.le_of_ble_eq_true rfl, Nat.le_of_ble_eq_true rfl⟩) rfl rfl (Nat.le_of_ble_eq_true rfl) dX7_helps_205 ⟨Nat.zero_le _, Nat.zero_le _⟩ rfl (fun H locs hw => ?_)
      refine lv_iload_n hx hb dX7_helps_208 rfl (lv_at hl 4 rfl) ?_
      refine p_iast hx hb hE hw hn 0 (by decide) (congrFun hR) dX7_helps_209 h (fun S209 h H locs hw => ?_)
      refine lv_aload_n hx hb dX7_helps_210 rfl (lv_at hl 1 rfl) ?_
      refine lv_iload_n hx hb dX7_helps_211 rfl (lv_at hl 2 rfl) ?_
      refine lv_iconst (v := (nI 1)) hx hb dX7_helps_212 (by decide) ?_
      obtain ⟨v213, h213, h⟩ := cr1_some h
      refine r_callS (As := [.int x1, .int (nI 1)]) (rest := [.ref (gA G (β + 0))]) (st1 := [.int v213, .ref (gA G (β + 0))]) hx hb hml hown hts hE hw hl (mX7_convoyAt l G (M := (wB M β 1 S209)) h213) (va_cwS 2 hts (zS gS_X7_51) rfl rfl rfl kdX7_convoyAt ⟨Nat.le_of_ble_eq_true rfl, Nat.le_of_ble_eq_true rfl⟩) rfl rfl (Nat.le_of_ble_eq_true rfl) dX7_helps_213 ⟨Nat.zero_le _, Nat.zero_le _⟩ rfl (fun H locs hw => ?_)
      refine lv_dup2_11 hx hb dX7_helps_216 rfl rfl ?_
      refine p_iald hx hb hE hw hn 0 (by decide) (congrFun hR) dX7_helps_217 h (fun v217 h => ?_)
      refine lv_iconst (v := (nI 1)) hx hb dX7_helps_218 (by decide) ?_
      refine lv_iadd hx hb dX7_helps_219 ?_
      refine p_iast hx hb hE hw hn 0 (by decide) (congrFun hR) dX7_helps_220 h (fun S220 h H locs hw => ?_)
      refine lv_aload_n hx hb dX7_helps_221 rfl (lv_at hl 1 rfl) ?_
      refine lv_iload_n hx hb dX7_helps_222 rfl (lv_at hl 4 rfl) ?_
      refine lv_iconst (v := (nI 4)) hx hb dX7_helps_223 (by decide) ?_
      obtain ⟨v224, h224, h⟩ := cr1_some h
      refine r_callS (As := [.int x3, .int (nI 4)]) (rest := [.ref (gA G (β + 0))]) (st1 := [.int v224, .ref (gA G (β + 0))]) hx hb hml hown hts hE hw hl (mX7_carAt l G (M := (wB M β 1 S220)) h224) (va_cwS 2 hts (zS gS_X7_72) rfl rfl rfl kdX7_carAt ⟨Nat.le_of_ble_eq_true rfl, Nat.le_of_ble_eq_true rfl⟩) rfl rfl (Nat.le_of_ble_eq_true rfl) dX7_helps_224 ⟨Nat.zero_le _, Nat.zero_le _⟩ rfl (fun H locs hw => ?_)
      refine lv_iconst (v := (nI 0)) hx hb dX7_helps_227 (by decide) ?_
      refine p_iast hx hb hE hw hn 0 (by decide) (congrFun hR) dX7_helps_228 h (fun S228 h H locs hw => ?_)
      refine lv_aload_n hx hb dX7_helps_229 rfl (lv_at hl 1 rfl) ?_
      refine lv_iload_n hx hb dX7_helps_230 rfl (lv_at hl 4 rfl) ?_
      refine lv_iconst (v := (nI 5)) hx hb dX7_helps_231 (by decide) ?_
      obtain ⟨v232, h232, h⟩ := cr1_some h
      refine r_callS (As := [.int x3, .int (nI 5)]) (rest := [.ref (gA G (β + 0))]) (st1 := [.int v232, .ref (gA G (β + 0))]) hx hb hml hown hts hE hw hl (mX7_carAt l G (M := (wB M β 1 S228)) h232) (va_cwS 2 hts (zS gS_X7_72) rfl rfl rfl kdX7_carAt ⟨Nat.le_of_ble_eq_true rfl, Nat.le_of_ble_eq_true rfl⟩) rfl rfl (Nat.le_of_ble_eq_true rfl) dX7_helps_232 ⟨Nat.zero_le _, Nat.zero_le _⟩ rfl (fun H locs hw => ?_)
      refine lv_iload_n hx hb dX7_helps_235 rfl (lv_at hl 2 rfl) ?_
      refine p_iast hx hb hE hw hn 0 (by decide) (congrFun hR) dX7_helps_236 h (fun S236 h H locs hw => ?_)
      refine lv_iconst (v := (nI 1)) hx hb dX7_helps_237 (by decide) ?_
      exact e_zw hx hb hr hlocks hw dX7_helps_238 h
    · refine lv_iconst (v := (nI 0)) hx hb dX7_helps_166 (by decide) ?_
      exact e_zw hx hb hr hlocks hw dX7_helps_167 h
  have k98 : ∀ (x1 : Int32) (x2 : Int32) (x3 : Int32) (x4 : Int32) (t0 : Int32) (S : mM) (H : Heap) (locs : List Loc) (ls : Array Slot), pX7_helps_b98  x1 x2 x3 x4 t0 S = some (r, S') → mW G s (wB M β 1 S) H locs → lv_has ls 7 [(0, .ref (gA G (β + 0))), (1, .int x1), (2, .int x2), (3, .int x3), (4, .int x4)] → W p l e { frames := 2, cells := 0, slots := 0, locals := 43 } s m args below meth c H locs 0 0 (mZ below G (some (.int r)) (wB M β 1 S') args s) (F0 m 98 ls [.int t0]) := by
    intro x1 x2 x3 x4 t0 S H locs ls h hw hl
    unfold pX7_helps_b98 at h
    refine lv_istore (lv' := [(5, .int t0), (0, .ref (gA G (β + 0))), (1, .int x1), (2, .int x2), (3, .int x3), (4, .int x4)]) hx hb dX7_helps_98 hl (by decide) rfl (fun ls hl => ?_)
    refine lv_aload_n hx hb dX7_helps_100 rfl (lv_at hl 1 rfl) ?_
    refine lv_iload_n hx hb dX7_helps_101 rfl (lv_at hl 4 rfl) ?_
    refine lv_iconst (v := (nI 2)) hx hb dX7_helps_102 (by decide) ?_
    obtain ⟨v103, h103, h⟩ := cr1_some h
    refine r_callS (As := [.int x3, .int (nI 2)]) (rest := [.ref (gA G (β + 0))]) (st1 := [.int v103, .ref (gA G (β + 0))]) hx hb hml hown hts hE hw hl (mX7_carAt l G (M := (wB M β 1 S)) h103) (va_cwS 2 hts (zS gS_X7_72) rfl rfl rfl kdX7_carAt ⟨Nat.le_of_ble_eq_true rfl, Nat.le_of_ble_eq_true rfl⟩) rfl rfl (Nat.le_of_ble_eq_true rfl) dX7_helps_103 ⟨Nat.zero_le _, Nat.zero_le _⟩ rfl (fun H locs hw => ?_)
    refine p_iald hx hb hE hw hn 0 (by decide) (congrFun hR) dX7_helps_106 h (fun v106 h => ?_)
    refine lv_aload_n hx hb dX7_helps_107 rfl (lv_at hl 1 rfl) ?_
    refine lv_iload_n hx hb dX7_helps_108 rfl (lv_at hl 4 rfl) ?_
    refine lv_iconst (v := (nI 3)) hx hb dX7_helps_109 (by decide) ?_
    obtain ⟨v110, h110, h⟩ := cr1_some h
    refine r_callS (As := [.int x3, .int (nI 3)]) (rest := [.ref (gA G (β + 0)), .int v106]) (st1 := [.int v110, .ref (gA G (β + 0)), .int v106]) hx hb hml hown hts hE hw hl (mX7_carAt l G (M := (wB M β 1 S)) h110) (va_cwS 2 hts (zS gS_X7_72) rfl rfl rfl kdX7_carAt ⟨Nat.le_of_ble_eq_true rfl, Nat.le_of_ble_eq_true rfl⟩) rfl rfl (Nat.le_of_ble_eq_true rfl) dX7_helps_110 ⟨Nat.zero_le _, Nat.zero_le _⟩ rfl (fun H locs hw => ?_)
    refine p_iald hx hb hE hw hn 0 (by decide) (congrFun hR) dX7_helps_113 h (fun v113 h => ?_)
    refine lv_isub hx hb dX7_helps_114 ?_
    refine p_topi h (fun v115 h => ?_)
    refine lv_istore (lv' := [(6, .int v115), (5, .int t0), (0, .ref (gA G (β + 0))), (1, .int x1), (2, .int x2), (3, .int x3), (4, .int x4)]) hx hb dX7_helps_115 hl (by decide) rfl (fun ls hl => ?_)
    refine lv_iload hx hb dX7_helps_117 (lv_at hl 1 rfl) ?_
    refine lv_iload hx hb dX7_helps_119 (lv_at hl 0 rfl) ?_
    refine bi_le (tgt := 129) hx hb dX7_helps_121 (by decide) h (fun h => ?_) (fun h => ?_)
    · refine lv_iload hx hb dX7_helps_129 (lv_at hl 1 rfl) ?_
      exact k131  x1 x2 x3 x4 t0 S _ _ _ h hw (lv_sub hl [2, 3, 4, 5, 6] rfl)
    · refine lv_iload hx hb dX7_helps_124 (lv_at hl 0 rfl) ?_
      refine lv_goto (tgt := 131) hx hb dX7_helps_126 (by decide) ?_
      exact k131  x1 x2 x3 x4 v115 S _ _ _ h hw (lv_sub hl [2, 3, 4, 5, 6] rfl)
  have k19 : ∀ (k : Nat), ∀ (x1 : Int32) (x2 : Int32) (x3 : Int32) (x4 : Int32) (x5 : Int32) (S : mM) (H : Heap) (locs : List Loc) (ls : Array Slot), pX7_helps_l19  k x1 x2 x3 x4 x5 S = some (r, S') → mW G s (wB M β 1 S) H locs → lv_has ls 7 [(0, .ref (gA G (β + 0))), (1, .int x1), (2, .int x2), (3, .int x3), (4, .int x4), (5, .int x5)] → W p l e { frames := 2, cells := 0, slots := 0, locals := 43 } s m args below meth c H locs 0 0 (mZ below G (some (.int r)) (wB M β 1 S') args s) (F0 m 19 ls []) := by
    intro k
    induction k with
    | zero => intro x1 x2 x3 x4 x5 S H locs ls h; cases h
    | succ k hih19 =>
      intro x1 x2 x3 x4 x5 S H locs ls h hw hl
      obtain ⟨ih19, hk19⟩ : ∃ f, f = pX7_helps_l19  k := ⟨_, rfl⟩
      replace h : pX7_helps_lb19  (pX7_helps_l19  k) x1 x2 x3 x4 x5 S = some (r, S') := h
      rw [← hk19] at h hih19
      clear hk19
      unfold pX7_helps_lb19 at h
      refine lv_iload hx hb dX7_helps_19 (lv_at hl 5 rfl) ?_
      refine lv_aload_n hx hb dX7_helps_21 rfl (lv_at hl 0 rfl) ?_
      refine lv_iload_n hx hb dX7_helps_22 rfl (lv_at hl 1 rfl) ?_
      obtain ⟨v23, h23, h⟩ := cr1_some h
      refine r_callS (As := [.ref (gA G (β + 0)), .int x1]) (rest := [.int x5]) (st1 := [.int v23, .int x5]) hx hb hml hown hts hE hw hl (mX7_sizeOf l G (by omega) hR h23) (va_cwS 2 hts (zS gS_X7_64) rfl rfl rfl kdX7_sizeOf ⟨Nat.le_of_ble_eq_true rfl, Nat.le_of_ble_eq_true rfl⟩) rfl rfl (Nat.le_of_ble_eq_true rfl) dX7_helps_23 ⟨Nat.zero_le _, Nat.zero_le _⟩ rfl (fun H locs hw => ?_)
      refine bi_ge (tgt := 72) hx hb dX7_helps_26 (by decide) h (fun h => ?_) (fun h => ?_)
      · refine lv_aload_n hx hb dX7_helps_72 rfl (lv_at hl 0 rfl) ?_
        refine lv_iload hx hb dX7_helps_73 (lv_at hl 4 rfl) ?_
        refine lv_iconst (v := (nI 3)) hx hb dX7_helps_75 (by decide) ?_
        obtain ⟨v76, h76, h⟩ := cr1_some h
        refine r_callS (As := [.int x4, .int (nI 3)]) (rest := [.ref (gA G (β + 0))]) (st1 := [.int v76, .ref (gA G (β + 0))]) hx hb hml hown hts hE hw hl (mX7_carAt l G (M := (wB M β 1 S)) h76) (va_cwS 2 hts (zS gS_X7_72) rfl rfl rfl kdX7_carAt ⟨Nat.le_of_ble_eq_true rfl, Nat.le_of_ble_eq_true rfl⟩) rfl rfl (Nat.le_of_ble_eq_true rfl) dX7_helps_76 ⟨Nat.zero_le _, Nat.zero_le _⟩ rfl (fun H locs hw => ?_)
        refine p_iald hx hb hE hw hn 0 (by decide) (congrFun hR) dX7_helps_79 h (fun v79 h => ?_)
        refine lv_iconst (v := (nI 2)) hx hb dX7_helps_80 (by decide) ?_
        refine lv_idiv hx hb dX7_helps_81 (by decide) ?_
        refine p_topi h (fun v82 h => ?_)
        refine lv_istore (lv' := [(5, .int v82), (0, .ref (gA G (β + 0))), (1, .int x1), (2, .int x2), (3, .int x3), (4, .int x4)]) hx hb dX7_helps_82 hl (by decide) rfl (fun ls hl => ?_)
        refine lv_iload hx hb dX7_helps_84 (lv_at hl 0 rfl) ?_
        refine lv_bipush (v := (nI 10)) hx hb dX7_helps_86 (by decide) ?_
        refine bi_le (tgt := 96) hx hb dX7_helps_88 (by decide) h (fun h => ?_) (fun h => ?_)
        · refine lv_iload hx hb dX7_helps_96 (lv_at hl 0 rfl) ?_
          exact k98  x1 x2 x3 x4 v82 S _ _ _ h hw (lv_sub hl [1, 2, 3, 4, 5] rfl)
        · refine lv_bipush (v := (nI 10)) hx hb dX7_helps_91 (by decide) ?_
          refine lv_goto (tgt := 98) hx hb dX7_helps_93 (by decide) ?_
          exact k98  x1 x2 x3 x4 (nI 10) S _ _ _ h hw (lv_sub hl [1, 2, 3, 4, 5] rfl)
      · refine lv_aload_n hx hb dX7_helps_29 rfl (lv_at hl 0 rfl) ?_
        refine lv_iload_n hx hb dX7_helps_30 rfl (lv_at hl 1 rfl) ?_
        refine lv_iload hx hb dX7_helps_31 (lv_at hl 5 rfl) ?_
        obtain ⟨v33, h33, h⟩ := cr1_some h
        refine r_callS (As := [.ref (gA G (β + 0)), .int x1, .int x5]) (rest := []) (st1 := [.int v33]) hx hb hml hown hts hE hw hl (mX7_who l G (by omega) hR h33) (va_cwS 3 hts (zS gS_X7_68) rfl rfl rfl kdX7_who ⟨Nat.le_of_ble_eq_true rfl, Nat.le_of_ble_eq_true rfl⟩) rfl rfl (Nat.le_of_ble_eq_true rfl) dX7_helps_33 ⟨Nat.zero_le _, Nat.zero_le _⟩ rfl (fun H locs hw => ?_)
        refine lv_istore (lv' := [(6, .int v33), (0, .ref (gA G (β + 0))), (1, .int x1), (2, .int x2), (3, .int x3), (4, .int x4), (5, .int x5)]) hx hb dX7_helps_36 hl (by decide) rfl (fun ls hl => ?_)
        refine lv_aload_n hx hb dX7_helps_38 rfl (lv_at hl 1 rfl) ?_
        refine lv_iload hx hb dX7_helps_39 (lv_at hl 0 rfl) ?_
        refine lv_iconst (v := (nI 3)) hx hb dX7_helps_41 (by decide) ?_
        obtain ⟨v42, h42, h⟩ := cr1_some h
        refine r_callS (As := [.int v33, .int (nI 3)]) (rest := [.ref (gA G (β + 0))]) (st1 := [.int v42, .ref (gA G (β + 0))]) hx hb hml hown hts hE hw hl (mX7_carAt l G (M := (wB M β 1 S)) h42) (va_cwS 2 hts (zS gS_X7_72) rfl rfl rfl kdX7_carAt ⟨Nat.le_of_ble_eq_true rfl, Nat.le_of_ble_eq_true rfl⟩) rfl rfl (Nat.le_of_ble_eq_true rfl) dX7_helps_42 ⟨Nat.zero_le _, Nat.zero_le _⟩ rfl (fun H locs hw => ?_)
        refine p_iald hx hb hE hw hn 0 (by decide) (congrFun hR) dX7_helps_45 h (fun v45 h => ?_)
        refine lv_aload_n hx hb dX7_helps_46 rfl (lv_at hl 1 rfl) ?_
        refine lv_iload hx hb dX7_helps_47 (lv_at hl 5 rfl) ?_
        refine lv_iconst (v := (nI 3)) hx hb dX7_helps_49 (by decide) ?_
        obtain ⟨v50, h50, h⟩ := cr1_some h
        refine r_callS (As := [.int x4, .int (nI 3)]) (rest := [.ref (gA G (β + 0)), .int v45]) (st1 := [.int v50, .ref (gA G (β + 0)), .int v45]) hx hb hml hown hts hE hw hl (mX7_carAt l G (M := (wB M β 1 S)) h50) (va_cwS 2 hts (zS gS_X7_72) rfl rfl rfl kdX7_carAt ⟨Nat.le_of_ble_eq_true rfl, Nat.le_of_ble_eq_true rfl⟩) rfl rfl (Nat.le_of_ble_eq_true rfl) dX7_helps_50 ⟨Nat.zero_le _, Nat.zero_le _⟩ rfl (fun H locs hw => ?_)
        refine p_iald hx hb hE hw hn 0 (by decide) (congrFun hR) dX7_helps_53 h (fun v53 h => ?_)
        refine bi_le (tgt := 62) hx hb dX7_helps_54 (by decide) h (fun h => ?_) (fun h => ?_)
        · refine lv_iload hx hb dX7_helps_62 (lv_at hl 5 rfl) ?_
          refine lv_istore (lv' := [(4, .int x4), (6, .int v33), (0, .ref (gA G (β + 0))), (1, .int x1), (2, .int x2), (3, .int x3), (5, .int x5)]) hx hb dX7_helps_64 hl (by decide) rfl (fun ls hl => ?_)
          refine p_iinc (w := (nI 1)) 6 (fun v66 => [(5, .int v66), (4, .int x4), (6, .int v33), (0, .ref (gA G (β + 0))), (1, .int x1), (2, .int x2), (3, .int x3)]) hx hb dX7_helps_66 hl rfl (by decide) (by decide) h (fun _ => rfl) (fun v66 h ls hl => ?_)
          refine lv_goto (tgt := 19) hx hb dX7_helps_69 (by decide) ?_
          exact hih19 x1 x2 x3 x4 v66 S _ _ _ h hw (lv_sub hl [3, 4, 5, 6, 1, 0] rfl)
        · refine lv_iload hx hb dX7_helps_57 (lv_at hl 0 rfl) ?_
          refine lv_goto (tgt := 64) hx hb dX7_helps_59 (by decide) ?_
          refine lv_istore (lv' := [(4, .int v33), (6, .int v33), (0, .ref (gA G (β + 0))), (1, .int x1), (2, .int x2), (3, .int x3), (5, .int x5)]) hx hb dX7_helps_64 hl (by decide) rfl (fun ls hl => ?_)
          refine p_iinc (w := (nI 1)) 6 (fun v66 => [(5, .int v66), (4, .int v33), (6, .int v33), (0, .ref (gA G (β + 0))), (1, .int x1), (2, .int x2), (3, .int x3)]) hx hb dX7_helps_66 hl rfl (by decide) (by decide) h (fun _ => rfl) (fun v66 h ls hl => ?_)
          refine lv_goto (tgt := 19) hx hb dX7_helps_69 (by decide) ?_
          exact hih19 x1 x2 x3 v33 v66 S _ _ _ h hw (lv_sub hl [3, 4, 5, 6, 1, 0] rfl)
  unfold pX7_helps at h
  refine lv_aload_n hx hb dX7_helps_0 rfl (lv_at hl 0 rfl) ?_
  refine lv_iload_n hx hb dX7_helps_1 rfl (lv_at hl 2 rfl) ?_
  refine lv_iconst (v := (nI 3)) hx hb dX7_helps_2 (by decide) ?_
  obtain ⟨v3, h3, h⟩ := cr1_some h
  refine r_callS (As := [.int a3, .int (nI 3)]) (rest := [.ref (gA G (β + 0))]) (st1 := [.int v3, .ref (gA G (β + 0))]) hx hb hml hown hts hE hw hl (mX7_bayAt l G (M := (wB M β 1 S)) h3) (va_cwS 2 hts (zS gS_X7_58) rfl rfl rfl kdX7_bayAt ⟨Nat.le_of_ble_eq_true rfl, Nat.le_of_ble_eq_true rfl⟩) rfl rfl (Nat.le_of_ble_eq_true rfl) dX7_helps_3 ⟨Nat.zero_le _, Nat.zero_le _⟩ rfl (fun H locs hw => ?_)
  refine p_iald hx hb hE hw hn 0 (by decide) (congrFun hR) dX7_helps_6 h (fun v6 h => ?_)
  refine lv_istore_n (lv' := [(3, .int v6), (0, .ref (gA G (β + 0))), (1, .int a2), (2, .int a3)]) hx hb dX7_helps_7 rfl hl (by decide) rfl (fun ls hl => ?_)
  refine lv_aload_n hx hb dX7_helps_8 rfl (lv_at hl 1 rfl) ?_
  refine lv_iload_n hx hb dX7_helps_9 rfl (lv_at hl 2 rfl) ?_
  refine lv_iconst (v := (nI 0)) hx hb dX7_helps_10 (by decide) ?_
  obtain ⟨v11, h11, h⟩ := cr1_some h
  refine r_callS (As := [.ref (gA G (β + 0)), .int a2, .int (nI 0)]) (rest := []) (st1 := [.int v11]) hx hb hml hown hts hE hw hl (mX7_who l G (by omega) hR h11) (va_cwS 3 hts (zS gS_X7_68) rfl rfl rfl kdX7_who ⟨Nat.le_of_ble_eq_true rfl, Nat.le_of_ble_eq_true rfl⟩) rfl rfl (Nat.le_of_ble_eq_true rfl) dX7_helps_11 ⟨Nat.zero_le _, Nat.zero_le _⟩ rfl (fun H locs hw => ?_)
  refine lv_istore (lv' := [(4, .int v11), (3, .int v6), (0, .ref (gA G (β + 0))), (1, .int a2), (2, .int a3)]) hx hb dX7_helps_14 hl (by decide) rfl (fun ls hl => ?_)
  refine lv_iconst (v := (nI 1)) hx hb dX7_helps_16 (by decide) ?_
  refine lv_istore (lv' := [(5, .int (nI 1)), (4, .int v11), (3, .int v6), (0, .ref (gA G (β + 0))), (1, .int a2), (2, .int a3)]) hx hb dX7_helps_17 hl (by decide) rfl (fun ls hl => ?_)
  exact k19 fuel a2 a3 v6 v11 (nI 1) S _ _ _ h hw (lv_sub hl [3, 4, 5, 2, 1, 0] rfl)

set_option maxHeartbeats 4000000 in
set_option maxRecDepth 100000 in
theorem mX7_isBefore (l : Launch) (G : mG) {β : Nat} {M S : mM} {a2 : Int32} {a3 : Int32} {r : Int32} (hn : β + 1 ≤ gN G) (hR : isRow G β) (h : pX7_isBefore a2 a3 S = some r) : MC l G yX7_isBefore zzX7_isBefore 1 21 [.ref (gA G (β + 0)), .int a2, .int a3] (wB M β 1 S) (wB M β 1 S) (some (.int r)) := by
  refine mc_of (cc := cX7_isBefore) (maxL := 4) (ret := (some .boolean)) (by decide) rfl (Nat.le_of_ble_eq_true rfl) ?_
  intro p e s m args below meth c H ls hx hb hr hts hown hml hlocks hE hw hl
  have hl : lv_has ls 4 [(0, .ref (gA G (β + 0))), (1, .int a2), (2, .int a3)] := hl
  unfold pX7_isBefore at h
  refine lv_aload_n hx hb dX7_isBefore_0 rfl (lv_at hl 0 rfl) ?_
  refine lv_iload_n hx hb dX7_isBefore_1 rfl (lv_at hl 1 rfl) ?_
  refine lv_iconst (v := (nI 0)) hx hb dX7_isBefore_2 (by decide) ?_
  obtain ⟨v3, h3, h⟩ := cr1_some h
  refine r_callS (As := [.int a2, .int (nI 0)]) (rest := [.ref (gA G (β + 0))]) (st1 := [.int v3, .ref (gA G (β + 0))]) hx hb hml hown hts hE hw hl (mX7_carAt l G (M := (wB M β 1 S)) h3) (va_cwS 2 hts (zS gS_X7_72) rfl rfl rfl kdX7_carAt ⟨Nat.le_of_ble_eq_true rfl, Nat.le_of_ble_eq_true rfl⟩) rfl rfl (Nat.le_of_ble_eq_true rfl) dX7_isBefore_3 ⟨Nat.zero_le _, Nat.zero_le _⟩ rfl (fun H locs hw => ?_)
  refine p_iald hx hb hE hw hn 0 (by decide) (congrFun hR) dX7_isBefore_6 h (fun v6 h => ?_)
  refine lv_aload_n hx hb dX7_isBefore_7 rfl (lv_at hl 0 rfl) ?_
  refine lv_iload_n hx hb dX7_isBefore_8 rfl (lv_at hl 2 rfl) ?_
  refine lv_iconst (v := (nI 0)) hx hb dX7_isBefore_9 (by decide) ?_
  obtain ⟨v10, h10, h⟩ := cr1_some h
  refine r_callS (As := [.int a3, .int (nI 0)]) (rest := [.ref (gA G (β + 0)), .int v6]) (st1 := [.int v10, .ref (gA G (β + 0)), .int v6]) hx hb hml hown hts hE hw hl (mX7_carAt l G (M := (wB M β 1 S)) h10) (va_cwS 2 hts (zS gS_X7_72) rfl rfl rfl kdX7_carAt ⟨Nat.le_of_ble_eq_true rfl, Nat.le_of_ble_eq_true rfl⟩) rfl rfl (Nat.le_of_ble_eq_true rfl) dX7_isBefore_10 ⟨Nat.zero_le _, Nat.zero_le _⟩ rfl (fun H locs hw => ?_)
  refine p_iald hx hb hE hw hn 0 (by decide) (congrFun hR) dX7_isBefore_13 h (fun v13 h => ?_)
  refine lv_isub hx hb dX7_isBefore_14 ?_
  refine p_topi h (fun v15 h => ?_)
  refine lv_istore_n (lv' := [(3, .int v15), (0, .ref (gA G (β + 0))), (1, .int a2), (2, .int a3)]) hx hb dX7_isBefore_15 rfl hl (by decide) rfl (fun ls hl => ?_)
  refine lv_iload_n hx hb dX7_isBefore_16 rfl (lv_at hl 0 rfl) ?_
  refine b_lt (tgt := 29) hx hb dX7_isBefore_17 (by decide) h (fun h => ?_) (fun h => ?_)
  · refine lv_iconst (v := (nI 1)) hx hb dX7_isBefore_29 (by decide) ?_
    refine lv_goto (tgt := 34) hx hb dX7_isBefore_30 (by decide) ?_
    exact e_z hx hb hr hlocks hw dX7_isBefore_34 h
  · refine lv_iload_n hx hb dX7_isBefore_20 rfl (lv_at hl 0 rfl) ?_
    refine b_ne (tgt := 33) hx hb dX7_isBefore_21 (by decide) h (fun h => ?_) (fun h => ?_)
    · refine lv_iconst (v := (nI 0)) hx hb dX7_isBefore_33 (by decide) ?_
      exact e_z hx hb hr hlocks hw dX7_isBefore_34 h
    · refine lv_iload_n hx hb dX7_isBefore_24 rfl (lv_at hl 2 rfl) ?_
      refine lv_iload_n hx hb dX7_isBefore_25 rfl (lv_at hl 3 rfl) ?_
      refine bi_ge (tgt := 33) hx hb dX7_isBefore_26 (by decide) h (fun h => ?_) (fun h => ?_)
      · refine lv_iconst (v := (nI 0)) hx hb dX7_isBefore_33 (by decide) ?_
        exact e_z hx hb hr hlocks hw dX7_isBefore_34 h
      · refine lv_iconst (v := (nI 1)) hx hb dX7_isBefore_29 (by decide) ?_
        refine lv_goto (tgt := 34) hx hb dX7_isBefore_30 (by decide) ?_
        exact e_z hx hb hr hlocks hw dX7_isBefore_34 h

set_option maxHeartbeats 4000000 in
set_option maxRecDepth 100000 in
theorem mX7_order (l : Launch) (G : mG) {β : Nat} {M S S' : mM} {a2 : Int32} (hn : β + 1 ≤ gN G) (hR : isRow G β) (h : pX7_order a2 S = some S') : MC l G yX7_order zzX7_order 2 44 [.ref (gA G (β + 0)), .int a2] (wB M β 1 S) (wB M β 1 S') none := by
  refine mc_of (cc := cX7_order) (maxL := 6) (ret := none) (by decide) rfl (Nat.le_of_ble_eq_true rfl) ?_
  intro p e s m args below meth c H ls hx hb hr hts hown hml hlocks hE hw hl
  have hl : lv_has ls 6 [(0, .ref (gA G (β + 0))), (1, .int a2)] := hl
  have k20 : ∀ (ih8 : Int32 → Int32 → Int32 → mM → Option mM) (_ : ∀ (x1 : Int32) (x2 : Int32) (x3 : Int32) (S : mM) (H : Heap) (locs : List Loc) (ls : Array Slot), ih8 x1 x2 x3 S = some S' → mW G s (wB M β 1 S) H locs → lv_has ls 6 [(0, .ref (gA G (β + 0))), (1, .int x1), (2, .int x2), (3, .int x3)] → W p l e { frames := 2, cells := 0, slots := 0, locals := 44 } s m args below meth c H locs 0 0 (mZ below G none (wB M β 1 S') args s) (F0 m 8 ls [])), ∀ (k : Nat), ∀ (x1 : Int32) (x2 : Int32) (x3 : Int32) (x4 : Int32) (S : mM) (H : Heap) (locs : List Loc) (ls : Array Slot), pX7_order_l20 ih8 k x1 x2 x3 x4 S = some S' → mW G s (wB M β 1 S) H locs → lv_has ls 6 [(0, .ref (gA G (β + 0))), (1, .int x1), (2, .int x2), (3, .int x3), (4, .int x4)] → W p l e { frames := 2, cells := 0, slots := 0, locals := 44 } s m args below meth c H locs 0 0 (mZ below G none (wB M β 1 S') args s) (F0 m 20 ls []) := by
    intro ih8 hih8 k
    induction k with
    | zero => intro x1 x2 x3 x4 S H locs ls h; cases h
    | succ k hih20 =>
      intro x1 x2 x3 x4 S H locs ls h hw hl
      obtain ⟨ih20, hk20⟩ : ∃ f, f = pX7_order_l20 ih8 k := ⟨_, rfl⟩
      replace h : pX7_order_lb20 ih8 (pX7_order_l20 ih8 k) x1 x2 x3 x4 S = some S' := h
      rw [← hk20] at h hih20
      clear hk20
      unfold pX7_order_lb20 at h
      refine lv_iload hx hb dX7_order_20 (lv_at hl 4 rfl) ?_
      refine b_le (tgt := 84) hx hb dX7_order_22 (by decide) h (fun h => ?_) (fun h => ?_)
      · refine p_iinc (w := (nI 1)) 3 (fun v84 => [(3, .int v84), (0, .ref (gA G (β + 0))), (1, .int x1), (2, .int x2), (4, .int x4)]) hx hb dX7_order_84 hl rfl (by decide) (by decide) h (fun _ => rfl) (fun v84 h ls hl => ?_)
        refine lv_goto (tgt := 8) hx hb dX7_order_87 (by decide) ?_
        exact hih8 x1 x2 v84 S _ _ _ h hw (lv_sub hl [1, 2, 3, 0] rfl)
      · refine lv_aload_n hx hb dX7_order_25 rfl (lv_at hl 0 rfl) ?_
        refine lv_aload_n hx hb dX7_order_26 rfl (lv_at hl 0 rfl) ?_
        refine lv_iload_n hx hb dX7_order_27 rfl (lv_at hl 2 rfl) ?_
        refine lv_iload hx hb dX7_order_28 (lv_at hl 4 rfl) ?_
        refine lv_iadd hx hb dX7_order_30 ?_
        refine p_iald hx hb hE hw hn 0 (by decide) (congrFun hR) dX7_order_31 h (fun v31 h => ?_)
        refine lv_aload_n hx hb dX7_order_32 rfl (lv_at hl 0 rfl) ?_
        refine lv_iload_n hx hb dX7_order_33 rfl (lv_at hl 2 rfl) ?_
        refine lv_iload hx hb dX7_order_34 (lv_at hl 4 rfl) ?_
        refine lv_iadd hx hb dX7_order_36 ?_
        refine lv_iconst (v := (nI 1)) hx hb dX7_order_37 (by decide) ?_
        refine lv_isub hx hb dX7_order_38 ?_
        refine p_iald hx hb hE hw hn 0 (by decide) (congrFun hR) dX7_order_39 h (fun v39 h => ?_)
        obtain ⟨v40, h40, h⟩ := cr1_some h
        refine r_callS (As := [.ref (gA G (β + 0)), .int v31, .int v39]) (rest := []) (st1 := [.int v40]) hx hb hml hown hts hE hw hl (mX7_isBefore l G (by omega) hR h40) (va_cwS 3 hts (zS gS_X7_89) rfl rfl rfl kdX7_isBefore ⟨Nat.le_of_ble_eq_true rfl, Nat.le_of_ble_eq_true rfl⟩) rfl rfl (Nat.le_of_ble_eq_true rfl) dX7_order_40 ⟨Nat.zero_le _, Nat.zero_le _⟩ rfl (fun H locs hw => ?_)
        refine b_eq (tgt := 84) hx hb dX7_order_43 (by decide) h (fun h => ?_) (fun h => ?_)
        · refine p_iinc (w := (nI 1)) 3 (fun v84 => [(3, .int v84), (0, .ref (gA G (β + 0))), (1, .int x1), (2, .int x2), (4, .int x4)]) hx hb dX7_order_84 hl rfl (by decide) (by decide) h (fun _ => rfl) (fun v84 h ls hl => ?_)
          refine lv_goto (tgt := 8) hx hb dX7_order_87 (by decide) ?_
          exact hih8 x1 x2 v84 S _ _ _ h hw (lv_sub hl [1, 2, 3, 0] rfl)
        · refine lv_aload_n hx hb dX7_order_46 rfl (lv_at hl 0 rfl) ?_
          refine lv_iload_n hx hb dX7_order_47 rfl (lv_at hl 2 rfl) ?_
          refine lv_iload hx hb dX7_order_48 (lv_at hl 4 rfl) ?_
          refine lv_iadd hx hb dX7_order_50 ?_
          refine p_iald hx hb hE hw hn 0 (by decide) (congrFun hR) dX7_order_51 h (fun v51 h => ?_)
          refine lv_istore (lv' := [(5, .int v51), (0, .ref (gA G (β + 0))), (1, .int x1), (2, .int x2), (3, .int x3), (4, .int x4)]) hx hb dX7_order_52 hl (by decide) rfl (fun ls hl => ?_)
          refine lv_aload_n hx hb dX7_order_54 rfl (lv_at hl 1 rfl) ?_
          refine lv_iload_n hx hb dX7_order_55 rfl (lv_at hl 3 rfl) ?_
          refine lv_iload hx hb dX7_order_56 (lv_at hl 5 rfl) ?_
          refine lv_iadd hx hb dX7_order_58 ?_
          refine lv_aload_n hx hb dX7_order_59 rfl (lv_at hl 1 rfl) ?_
          refine lv_iload_n hx hb dX7_order_60 rfl (lv_at hl 3 rfl) ?_
          refine lv_iload hx hb dX7_order_61 (lv_at hl 5 rfl) ?_
          refine lv_iadd hx hb dX7_order_63 ?_
          refine lv_iconst (v := (nI 1)) hx hb dX7_order_64 (by decide) ?_
          refine lv_isub hx hb dX7_order_65 ?_
          refine p_iald hx hb hE hw hn 0 (by decide) (congrFun hR) dX7_order_66 h (fun v66 h => ?_)
          refine p_iast hx hb hE hw hn 0 (by decide) (congrFun hR) dX7_order_67 h (fun S67 h H locs hw => ?_)
          refine lv_aload_n hx hb dX7_order_68 rfl (lv_at hl 1 rfl) ?_
          refine lv_iload_n hx hb dX7_order_69 rfl (lv_at hl 3 rfl) ?_
          refine lv_iload hx hb dX7_order_70 (lv_at hl 5 rfl) ?_
          refine lv_iadd hx hb dX7_order_72 ?_
          refine lv_iconst (v := (nI 1)) hx hb dX7_order_73 (by decide) ?_
          refine lv_isub hx hb dX7_order_74 ?_
          refine lv_iload hx hb dX7_order_75 (lv_at hl 0 rfl) ?_
          refine p_iast hx hb hE hw hn 0 (by decide) (congrFun hR) dX7_order_77 h (fun S77 h H locs hw => ?_)
          refine p_iinc (w := (-1)) 5 (fun v78 => [(4, .int v78), (5, .int v51), (0, .ref (gA G (β + 0))), (1, .int x1), (2, .int x2), (3, .int x3)]) hx hb dX7_order_78 hl rfl (by decide) (by decide) h (fun _ => rfl) (fun v78 h ls hl => ?_)
          refine lv_goto (tgt := 20) hx hb dX7_order_81 (by decide) ?_
          exact hih20 x1 x2 x3 v78 S77 _ _ _ h hw (lv_sub hl [2, 3, 4, 5, 0] rfl)
  have k8 : ∀ (k : Nat), ∀ (x1 : Int32) (x2 : Int32) (x3 : Int32) (S : mM) (H : Heap) (locs : List Loc) (ls : Array Slot), pX7_order_l8  k x1 x2 x3 S = some S' → mW G s (wB M β 1 S) H locs → lv_has ls 6 [(0, .ref (gA G (β + 0))), (1, .int x1), (2, .int x2), (3, .int x3)] → W p l e { frames := 2, cells := 0, slots := 0, locals := 44 } s m args below meth c H locs 0 0 (mZ below G none (wB M β 1 S') args s) (F0 m 8 ls []) := by
    intro k
    induction k with
    | zero => intro x1 x2 x3 S H locs ls h; cases h
    | succ k hih8 =>
      intro x1 x2 x3 S H locs ls h hw hl
      obtain ⟨ih8, hk8⟩ : ∃ f, f = pX7_order_l8  k := ⟨_, rfl⟩
      replace h : pX7_order_lb8  (pX7_order_l8  k) x1 x2 x3 S = some S' := h
      rw [← hk8] at h hih8
      clear hk8
      unfold pX7_order_lb8 at h
      refine lv_iload_n hx hb dX7_order_8 rfl (lv_at hl 3 rfl) ?_
      refine lv_aload_n hx hb dX7_order_9 rfl (lv_at hl 0 rfl) ?_
      refine lv_iload_n hx hb dX7_order_10 rfl (lv_at hl 1 rfl) ?_
      obtain ⟨v11, h11, h⟩ := cr1_some h
      refine r_callS (As := [.ref (gA G (β + 0)), .int x1]) (rest := [.int x3]) (st1 := [.int v11, .int x3]) hx hb hml hown hts hE hw hl (mX7_sizeOf l G (by omega) hR h11) (va_cwS 2 hts (zS gS_X7_64) rfl rfl rfl kdX7_sizeOf ⟨Nat.le_of_ble_eq_true rfl, Nat.le_of_ble_eq_true rfl⟩) rfl rfl (Nat.le_of_ble_eq_true rfl) dX7_order_11 ⟨Nat.zero_le _, Nat.zero_le _⟩ rfl (fun H locs hw => ?_)
      refine bi_ge (tgt := 90) hx hb dX7_order_14 (by decide) h (fun h => ?_) (fun h => ?_)
      · exact e_vw hx hb hr hlocks hw dX7_order_90 h
      · refine lv_iload_n hx hb dX7_order_17 rfl (lv_at hl 3 rfl) ?_
        refine lv_istore (lv' := [(4, .int x3), (0, .ref (gA G (β + 0))), (1, .int x1), (2, .int x2), (3, .int x3)]) hx hb dX7_order_18 hl (by decide) rfl (fun ls hl => ?_)
        exact k20 ih8 hih8 fuel x1 x2 x3 x3 S _ _ _ h hw (lv_sub hl [1, 2, 3, 4, 0] rfl)
  unfold pX7_order at h
  refine lv_iload_n hx hb dX7_order_0 rfl (lv_at hl 1 rfl) ?_
  refine lv_iconst (v := (nI 5)) hx hb dX7_order_1 (by decide) ?_
  obtain ⟨v2, h2, h⟩ := cr1_some h
  refine r_callS (As := [.int a2, .int (nI 5)]) (rest := []) (st1 := [.int v2]) hx hb hml hown hts hE hw hl (mX7_convoyAt l G (M := (wB M β 1 S)) h2) (va_cwS 2 hts (zS gS_X7_51) rfl rfl rfl kdX7_convoyAt ⟨Nat.le_of_ble_eq_true rfl, Nat.le_of_ble_eq_true rfl⟩) rfl rfl (Nat.le_of_ble_eq_true rfl) dX7_order_2 ⟨Nat.zero_le _, Nat.zero_le _⟩ rfl (fun H locs hw => ?_)
  refine lv_istore_n (lv' := [(2, .int v2), (0, .ref (gA G (β + 0))), (1, .int a2)]) hx hb dX7_order_5 rfl hl (by decide) rfl (fun ls hl => ?_)
  refine lv_iconst (v := (nI 1)) hx hb dX7_order_6 (by decide) ?_
  refine lv_istore_n (lv' := [(3, .int (nI 1)), (2, .int v2), (0, .ref (gA G (β + 0))), (1, .int a2)]) hx hb dX7_order_7 rfl hl (by decide) rfl (fun ls hl => ?_)
  exact k8 fuel a2 v2 (nI 1) S _ _ _ h hw (lv_sub hl [2, 3, 1, 0] rfl)

set_option maxHeartbeats 4000000 in
set_option maxRecDepth 100000 in
theorem mX7_rescue (l : Launch) (G : mG) {β : Nat} {M S S' : mM} {a2 : Int32} (hn : β + 1 ≤ gN G) (hR : isRow G β) (h : pX7_rescue a2 S = some S') : MC l G yX7_rescue zzX7_rescue 3 69 [.ref (gA G (β + 0)), .int a2] (wB M β 1 S) (wB M β 1 S') none := by
  refine mc_of (cc := cX7_rescue) (maxL := 5) (ret := none) (by decide) rfl (Nat.le_of_ble_eq_true rfl) ?_
  intro p e s m args below meth c H ls hx hb hr hts hown hml hlocks hE hw hl
  have hl : lv_has ls 5 [(0, .ref (gA G (β + 0))), (1, .int a2)] := hl
  have k78 : ∀ (x1 : Int32) (x3 : Int32) (S : mM) (H : Heap) (locs : List Loc) (ls : Array Slot), pX7_rescue_b78  x1 x3 S = some S' → mW G s (wB M β 1 S) H locs → lv_has ls 5 [(0, .ref (gA G (β + 0))), (1, .int x1), (3, .int x3)] → W p l e { frames := 3, cells := 0, slots := 0, locals := 69 } s m args below meth c H locs 0 0 (mZ below G none (wB M β 1 S') args s) (F0 m 78 ls []) := by
    intro x1 x3 S H locs ls h hw hl
    unfold pX7_rescue_b78 at h
    refine lv_iload_n hx hb dX7_rescue_78 rfl (lv_at hl 2 rfl) ?_
    refine b_eq (tgt := 87) hx hb dX7_rescue_79 (by decide) h (fun h => ?_) (fun h => ?_)
    · exact e_vw hx hb hr hlocks hw dX7_rescue_87 h
    · refine lv_aload_n hx hb dX7_rescue_82 rfl (lv_at hl 0 rfl) ?_
      refine lv_iload_n hx hb dX7_rescue_83 rfl (lv_at hl 1 rfl) ?_
      obtain ⟨S84, h84, h⟩ := cr1_some h
      refine r_callS (As := [.ref (gA G (β + 0)), .int x1]) (rest := []) (st1 := []) hx hb hml hown hts hE hw hl (mX7_order l G (by omega) hR h84) (va_cwS 2 hts (zS gS_X7_96) rfl rfl rfl kdX7_order ⟨Nat.le_of_ble_eq_true rfl, Nat.le_of_ble_eq_true rfl⟩) rfl rfl (Nat.le_of_ble_eq_true rfl) dX7_rescue_84 ⟨Nat.zero_le _, Nat.zero_le _⟩ rfl (fun H locs hw => ?_)
      exact e_vw hx hb hr hlocks hw dX7_rescue_87 h
  have k27 : ∀ (k : Nat), ∀ (x1 : Int32) (x2 : Int32) (x3 : Int32) (x4 : Int32) (S : mM) (H : Heap) (locs : List Loc) (ls : Array Slot), pX7_rescue_l27  k x1 x2 x3 x4 S = some S' → mW G s (wB M β 1 S) H locs → lv_has ls 5 [(0, .ref (gA G (β + 0))), (1, .int x1), (2, .int x2), (3, .int x3), (4, .int x4)] → W p l e { frames := 3, cells := 0, slots := 0, locals := 69 } s m args below meth c H locs 0 0 (mZ below G none (wB M β 1 S') args s) (F0 m 27 ls []) := by
    intro k
    induction k with
    | zero => intro x1 x2 x3 x4 S H locs ls h; cases h
    | succ k hih27 =>
      intro x1 x2 x3 x4 S H locs ls h hw hl
      obtain ⟨ih27, hk27⟩ : ∃ f, f = pX7_rescue_l27  k := ⟨_, rfl⟩
      replace h : pX7_rescue_lb27  (pX7_rescue_l27  k) x1 x2 x3 x4 S = some S' := h
      rw [← hk27] at h hih27
      clear hk27
      unfold pX7_rescue_lb27 at h
      refine lv_iload hx hb dX7_rescue_27 (lv_at hl 4 rfl) ?_
      refine b_eq (tgt := 78) hx hb dX7_rescue_29 (by decide) h (fun h => ?_) (fun h => ?_)
      · exact k78  x1 x3 S _ _ _ h hw (lv_sub hl [0, 1, 3] rfl)
      · refine lv_aload_n hx hb dX7_rescue_32 rfl (lv_at hl 0 rfl) ?_
        refine lv_iload_n hx hb dX7_rescue_33 rfl (lv_at hl 2 rfl) ?_
        refine lv_iconst (v := (nI 2)) hx hb dX7_rescue_34 (by decide) ?_
        obtain ⟨v35, h35, h⟩ := cr1_some h
        refine r_callS (As := [.int x2, .int (nI 2)]) (rest := [.ref (gA G (β + 0))]) (st1 := [.int v35, .ref (gA G (β + 0))]) hx hb hml hown hts hE hw hl (mX7_bayAt l G (M := (wB M β 1 S)) h35) (va_cwS 2 hts (zS gS_X7_58) rfl rfl rfl kdX7_bayAt ⟨Nat.le_of_ble_eq_true rfl, Nat.le_of_ble_eq_true rfl⟩) rfl rfl (Nat.le_of_ble_eq_true rfl) dX7_rescue_35 ⟨Nat.zero_le _, Nat.zero_le _⟩ rfl (fun H locs hw => ?_)
        refine p_iald hx hb hE hw hn 0 (by decide) (congrFun hR) dX7_rescue_38 h (fun v38 h => ?_)
        refine b_le (tgt := 78) hx hb dX7_rescue_39 (by decide) h (fun h => ?_) (fun h => ?_)
        · exact k78  x1 x3 S _ _ _ h hw (lv_sub hl [0, 1, 3] rfl)
        · refine lv_aload_n hx hb dX7_rescue_42 rfl (lv_at hl 0 rfl) ?_
          refine lv_iload_n hx hb dX7_rescue_43 rfl (lv_at hl 1 rfl) ?_
          obtain ⟨v44, h44, h⟩ := cr1_some h
          refine r_callS (As := [.ref (gA G (β + 0)), .int x1]) (rest := []) (st1 := [.int v44]) hx hb hml hown hts hE hw hl (mX7_sizeOf l G (by omega) hR h44) (va_cwS 2 hts (zS gS_X7_64) rfl rfl rfl kdX7_sizeOf ⟨Nat.le_of_ble_eq_true rfl, Nat.le_of_ble_eq_true rfl⟩) rfl rfl (Nat.le_of_ble_eq_true rfl) dX7_rescue_44 ⟨Nat.zero_le _, Nat.zero_le _⟩ rfl (fun H locs hw => ?_)
          refine lv_bipush (v := (nI 8)) hx hb dX7_rescue_47 (by decide) ?_
          refine bi_ge (tgt := 78) hx hb dX7_rescue_49 (by decide) h (fun h => ?_) (fun h => ?_)
          · exact k78  x1 x3 S _ _ _ h hw (lv_sub hl [0, 1, 3] rfl)
          · refine lv_aload_n hx hb dX7_rescue_52 rfl (lv_at hl 0 rfl) ?_
            refine lv_iload_n hx hb dX7_rescue_53 rfl (lv_at hl 1 rfl) ?_
            refine lv_iload_n hx hb dX7_rescue_54 rfl (lv_at hl 2 rfl) ?_
            obtain ⟨v55, S55, h55, h⟩ := cw2_some h
            refine r_callS (As := [.ref (gA G (β + 0)), .int x1, .int x2]) (rest := []) (st1 := [.int v55]) hx hb hml hown hts hE hw hl (mX7_helps l G (by omega) hR h55) (va_cwS 3 hts (zS gS_X7_93) rfl rfl rfl kdX7_helps ⟨Nat.le_of_ble_eq_true rfl, Nat.le_of_ble_eq_true rfl⟩) rfl rfl (Nat.le_of_ble_eq_true rfl) dX7_rescue_55 ⟨Nat.zero_le _, Nat.zero_le _⟩ rfl (fun H locs hw => ?_)
            refine lv_istore (lv' := [(4, .int v55), (0, .ref (gA G (β + 0))), (1, .int x1), (2, .int x2), (3, .int x3)]) hx hb dX7_rescue_58 hl (by decide) rfl (fun ls hl => ?_)
            refine lv_iload_n hx hb dX7_rescue_60 rfl (lv_at hl 4 rfl) ?_
            refine b_ne (tgt := 69) hx hb dX7_rescue_61 (by decide) h (fun h => ?_) (fun h => ?_)
            · refine lv_iconst (v := (nI 1)) hx hb dX7_rescue_69 (by decide) ?_
              refine lv_goto (tgt := 74) hx hb dX7_rescue_70 (by decide) ?_
              refine lv_istore_n (lv' := [(3, .int (nI 1)), (4, .int v55), (0, .ref (gA G (β + 0))), (1, .int x1), (2, .int x2)]) hx hb dX7_rescue_74 rfl hl (by decide) rfl (fun ls hl => ?_)
              refine lv_goto (tgt := 27) hx hb dX7_rescue_75 (by decide) ?_
              exact hih27 x1 x2 (nI 1) v55 S55 _ _ _ h hw (lv_sub hl [2, 3, 4, 0, 1] rfl)
            · refine lv_iload hx hb dX7_rescue_64 (lv_at hl 0 rfl) ?_
              refine b_eq (tgt := 73) hx hb dX7_rescue_66 (by decide) h (fun h => ?_) (fun h => ?_)
              · refine lv_iconst (v := (nI 0)) hx hb dX7_rescue_73 (by decide) ?_
                refine lv_istore_n (lv' := [(3, .int (nI 0)), (4, .int v55), (0, .ref (gA G (β + 0))), (1, .int x1), (2, .int x2)]) hx hb dX7_rescue_74 rfl hl (by decide) rfl (fun ls hl => ?_)
                refine lv_goto (tgt := 27) hx hb dX7_rescue_75 (by decide) ?_
                exact hih27 x1 x2 (nI 0) v55 S55 _ _ _ h hw (lv_sub hl [2, 3, 4, 0, 1] rfl)
              · refine lv_iconst (v := (nI 1)) hx hb dX7_rescue_69 (by decide) ?_
                refine lv_goto (tgt := 74) hx hb dX7_rescue_70 (by decide) ?_
                refine lv_istore_n (lv' := [(3, .int (nI 1)), (4, .int v55), (0, .ref (gA G (β + 0))), (1, .int x1), (2, .int x2)]) hx hb dX7_rescue_74 rfl hl (by decide) rfl (fun ls hl => ?_)
                refine lv_goto (tgt := 27) hx hb dX7_rescue_75 (by decide) ?_
                exact hih27 x1 x2 (nI 1) v55 S55 _ _ _ h hw (lv_sub hl [2, 3, 4, 0, 1] rfl)
  unfold pX7_rescue at h
  refine lv_aload_n hx hb dX7_rescue_0 rfl (lv_at hl 0 rfl) ?_
  refine lv_aload_n hx hb dX7_rescue_1 rfl (lv_at hl 0 rfl) ?_
  refine lv_iload_n hx hb dX7_rescue_2 rfl (lv_at hl 1 rfl) ?_
  refine lv_iconst (v := (nI 0)) hx hb dX7_rescue_3 (by decide) ?_
  obtain ⟨v4, h4, h⟩ := cr1_some h
  refine r_callS (As := [.int a2, .int (nI 0)]) (rest := [.ref (gA G (β + 0)), .ref (gA G (β + 0))]) (st1 := [.int v4, .ref (gA G (β + 0)), .ref (gA G (β + 0))]) hx hb hml hown hts hE hw hl (mX7_convoyAt l G (M := (wB M β 1 S)) h4) (va_cwS 2 hts (zS gS_X7_51) rfl rfl rfl kdX7_convoyAt ⟨Nat.le_of_ble_eq_true rfl, Nat.le_of_ble_eq_true rfl⟩) rfl rfl (Nat.le_of_ble_eq_true rfl) dX7_rescue_4 ⟨Nat.zero_le _, Nat.zero_le _⟩ rfl (fun H locs hw => ?_)
  refine p_iald hx hb hE hw hn 0 (by decide) (congrFun hR) dX7_rescue_7 h (fun v7 h => ?_)
  obtain ⟨v8, h8, h⟩ := cr1_some h
  refine r_callS (As := [.ref (gA G (β + 0)), .int v7]) (rest := []) (st1 := [.int v8]) hx hb hml hown hts hE hw hl (mX7_bayOn l G (by omega) hR h8) (va_cwS 2 hts (zS gS_X7_78) rfl rfl rfl kdX7_bayOn ⟨Nat.le_of_ble_eq_true rfl, Nat.le_of_ble_eq_true rfl⟩) rfl rfl (Nat.le_of_ble_eq_true rfl) dX7_rescue_8 ⟨Nat.zero_le _, Nat.zero_le _⟩ rfl (fun H locs hw => ?_)
  refine lv_istore_n (lv' := [(2, .int v8), (0, .ref (gA G (β + 0))), (1, .int a2)]) hx hb dX7_rescue_11 rfl hl (by decide) rfl (fun ls hl => ?_)
  refine lv_iconst (v := (nI 0)) hx hb dX7_rescue_12 (by decide) ?_
  refine lv_istore_n (lv' := [(3, .int (nI 0)), (2, .int v8), (0, .ref (gA G (β + 0))), (1, .int a2)]) hx hb dX7_rescue_13 rfl hl (by decide) rfl (fun ls hl => ?_)
  refine lv_iload_n hx hb dX7_rescue_14 rfl (lv_at hl 1 rfl) ?_
  refine lv_bipush (v := (-9)) hx hb dX7_rescue_15 (by decide) ?_
  refine bi_eq (tgt := 24) hx hb dX7_rescue_17 (by decide) h (fun h => ?_) (fun h => ?_)
  · refine lv_iconst (v := (nI 0)) hx hb dX7_rescue_24 (by decide) ?_
    refine lv_istore (lv' := [(4, .int (nI 0)), (3, .int (nI 0)), (2, .int v8), (0, .ref (gA G (β + 0))), (1, .int a2)]) hx hb dX7_rescue_25 hl (by decide) rfl (fun ls hl => ?_)
    exact k27 fuel a2 v8 (nI 0) (nI 0) S _ _ _ h hw (lv_sub hl [3, 4, 2, 1, 0] rfl)
  · refine lv_iconst (v := (nI 1)) hx hb dX7_rescue_20 (by decide) ?_
    refine lv_goto (tgt := 25) hx hb dX7_rescue_21 (by decide) ?_
    refine lv_istore (lv' := [(4, .int (nI 1)), (3, .int (nI 0)), (2, .int v8), (0, .ref (gA G (β + 0))), (1, .int a2)]) hx hb dX7_rescue_25 hl (by decide) rfl (fun ls hl => ?_)
    exact k27 fuel a2 v8 (nI 0) (nI 1) S _ _ _ h hw (lv_sub hl [3, 4, 2, 1, 0] rfl)
