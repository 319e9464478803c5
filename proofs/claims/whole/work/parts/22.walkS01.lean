/-! ===== walks, by program ===== -/
set_option maxHeartbeats 4000000 in
set_option maxRecDepth 100000 in
theorem mX4_noteLeft (l : Launch) (G : mG) {β : Nat} {M S S' : mM} {a1 : Int32} {a2 : Int32} {a3 : Int32} (hn : β + 17 ≤ gN G) (hR : isSt G β) (h : pX4_noteLeft a1 a2 a3 S = some S') : MC l G yX4_noteLeft zzX4_noteLeft 0 0 [.ref (gA G (β + 0)), .int a1, .int a2, .int a3] (wB M β 17 S) (wB M β 17 S') none := by
  refine mc_of (cc := cX4_noteLeft) (maxL := 4) (ret := none) (by decide) rfl (Nat.le_of_ble_eq_true rfl) ?_
  intro p e s m args below meth c H ls hx hb hr hts hown hml hlocks hE hw hl
  have hl : lv_has ls 4 [(0, .ref (gA G (β + 0))), (1, .int a1), (2, .int a2), (3, .int a3)] := hl
  have hinX4 : ∀ w ∈ wsX40, w ∈ zzX4_noteLeft := fun w h9 => wz_in (zinX4 w h9)
  unfold pX4_noteLeft at h
  refine lv_aload_n hx hb dX4_noteLeft_0 rfl (lv_at hl 0 rfl) ?_
  refine lv_iconst (v := (nI 1)) hx hb dX4_noteLeft_1 (by decide) ?_
  refine p_putz hx hb hts hinX4 tyX4 tyX4_ok nmX4 hown hE hw hn 0 (by decide) (congrFun hR.1 _) rfl 9 (by decide) (hts _ (wz_in qF_X4_66)) rfl (by decide +kernel) (Nat.le_of_ble_eq_true rfl) (congrFun hR.1 _) dX4_noteLeft_2 h (fun S2 h H locs hw => ?_)
  refine lv_iload_n hx hb dX4_noteLeft_5 rfl (lv_at hl 1 rfl) ?_
  refine lv_aload_n hx hb dX4_noteLeft_6 rfl (lv_at hl 0 rfl) ?_
  refine p_get hx hb hts hinX4 hown hE hw hn 0 (by decide) (congrFun hR.1 _) rfl 10 (by decide) (hts _ (wz_in qF_X4_42)) rfl dX4_noteLeft_7 h (fun v7 h => ?_)
  refine bi_ne (tgt := 32) hx hb dX4_noteLeft_10 (by decide) h (fun h => ?_) (fun h => ?_)
  · exact e_vw hx hb hr hlocks hw dX4_noteLeft_32 h
  · refine lv_aload_n hx hb dX4_noteLeft_13 rfl (lv_at hl 0 rfl) ?_
    refine p_get hx hb hts hinX4 hown hE hw hn 0 (by decide) (congrFun hR.1 _) rfl 11 (by decide) (hts _ (wz_in qF_X4_46)) rfl dX4_noteLeft_14 h (fun v14 h => ?_)
    refine lv_bipush (v := (-9)) hx hb dX4_noteLeft_17 (by decide) ?_
    refine bi_ne (tgt := 32) hx hb dX4_noteLeft_19 (by decide) h (fun h => ?_) (fun h => ?_)
    · exact e_vw hx hb hr hlocks hw dX4_noteLeft_32 h
    · refine lv_aload_n hx hb dX4_noteLeft_22 rfl (lv_at hl 0 rfl) ?_
      refine lv_bipush (v := (nI 100)) hx hb dX4_noteLeft_23 (by decide) ?_
      refine lv_iload_n hx hb dX4_noteLeft_25 rfl (lv_at hl 2 rfl) ?_
      refine lv_imul hx hb dX4_noteLeft_26 ?_
      refine lv_iload_n hx hb dX4_noteLeft_27 rfl (lv_at hl 3 rfl) ?_
      refine lv_iadd hx hb dX4_noteLeft_28 ?_
      refine p_put hx hb hts hinX4 tyX4 tyX4_ok nmX4 hown hE hw hn 0 (by decide) (congrFun hR.1 _) rfl 11 (by decide) (hts _ (wz_in qF_X4_46)) rfl (by decide +kernel) (Nat.le_of_ble_eq_true rfl) (congrFun hR.1 _) dX4_noteLeft_29 h (fun S29 h H locs hw => ?_)
      exact e_vw hx hb hr hlocks hw dX4_noteLeft_32 h

set_option maxHeartbeats 4000000 in
set_option maxRecDepth 100000 in
theorem mX4_leaveStragglers (l : Launch) (G : mG) {β : Nat} {M S S' : mM} {a1 : Int32} (hn : β + 17 ≤ gN G) (hR : isSt G β) (h : pX4_leaveStragglers a1 S = some S') : MC l G yX4_leaveStragglers zzX4_leaveStragglers 2 48 [.ref (gA G (β + 0)), .int a1] (wB M β 17 S) (wB M β 17 S') none := by
  refine mc_of (cc := cX4_leaveStragglers) (maxL := 8) (ret := none) (by decide) rfl (Nat.le_of_ble_eq_true rfl) ?_
  intro p e s m args below meth c H ls hx hb hr hts hown hml hlocks hE hw hl
  have hl : lv_has ls 8 [(0, .ref (gA G (β + 0))), (1, .int a1)] := hl
  have hinX4 : ∀ w ∈ wsX40, w ∈ zzX4_leaveStragglers := fun w h9 => wz_in (zinX4 w h9)
  have k62 : ∀ (k : Nat), ∀ (x1 : Int32) (x2 : Int32) (x3 : Int32) (x4 : Int32) (x5 : Int32) (x6 : Int32) (S : mM) (H : Heap) (locs : List Loc) (ls : Array Slot), pX4_leaveStragglers_l62  k x1 x2 x3 x4 x5 x6 S = some S' → mW G s (wB M β 17 S) H locs → lv_has ls 8 [(0, .ref (gA G (β + 0))), (1, .int x1), (2, .int x2), (3, .int x3), (4, .int x4), (5, .int x5), (6, .int x6)] → W p l e { frames := 2, cells := 0, slots := 0, locals := 48 } s m args below meth c H locs 0 0 (mZ below G none (wB M β 17 S') args s) (F0 m 62 ls []) := by
    intro k
    induction k with
    | zero => intro x1 x2 x3 x4 x5 x6 S H locs ls h; cases h
    | succ k hih62 =>
      intro x1 x2 x3 x4 x5 x6 S H locs ls h hw hl
      obtain ⟨ih62, hk62⟩ : ∃ f, f = pX4_leaveStragglers_l62  k := ⟨_, rfl⟩
      replace h : pX4_leaveStragglers_lb62  (pX4_leaveStragglers_l62  k) x1 x2 x3 x4 x5 x6 S = some S' := h
      rw [← hk62] at h hih62
      clear hk62
      unfold pX4_leaveStragglers_lb62 at h
      refine lv_iload hx hb dX4_leaveStragglers_62 (lv_at hl 6 rfl) ?_
      refine lv_iload hx hb dX4_leaveStragglers_64 (lv_at hl 4 rfl) ?_
      refine bi_ge (tgt := 145) hx hb dX4_leaveStragglers_66 (by decide) h (fun h => ?_) (fun h => ?_)
      · exact e_vw hx hb hr hlocks hw dX4_leaveStragglers_145 h
      · refine lv_iload_n hx hb dX4_leaveStragglers_69 rfl (lv_at hl 3 rfl) ?_
        refine b_le (tgt := 145) hx hb dX4_leaveStragglers_70 (by decide) h (fun h => ?_) (fun h => ?_)
        · exact e_vw hx hb hr hlocks hw dX4_leaveStragglers_145 h
        · refine lv_aload_n hx hb dX4_leaveStragglers_73 rfl (lv_at hl 0 rfl) ?_
          refine r_get (v := .ref (gA G (β + 11))) hx hb hts hinX4 hown hE hw hn 0 (by decide) (congrFun hR.1 _) rfl 5 (by decide) (hts _ (wz_in qF_X4_35)) rfl dX4_leaveStragglers_74 ?_
          refine lv_iload_n hx hb dX4_leaveStragglers_77 rfl (lv_at hl 1 rfl) ?_
          refine lv_iload hx hb dX4_leaveStragglers_78 (lv_at hl 5 rfl) ?_
          obtain ⟨v80, h80, h⟩ := cr1_some h
          refine r_callV (As := [.int x1, .int x5]) (rest := []) (st1 := [.int v80]) hx hb hml hown hts hE hw hl (mc_subR 11 3 (by decide) (mX2_get l G (by show β + 11 + 3 ≤ _; omega) hR.2.2.2.2.2.2.1 h80)) (cwV 2 hts (zV gV_X4_105) rfl rfl rfl kdX2_get ⟨Nat.le_of_ble_eq_true rfl, Nat.le_of_ble_eq_true rfl⟩) (by omega) (congrFun hR.2.2.2.2.2.2.1.1 _) rfl rfl rfl rfl (Nat.le_of_ble_eq_true rfl) dX4_leaveStragglers_80 ⟨Nat.zero_le _, Nat.zero_le _⟩ rfl (fun H locs hw => ?_)
          refine lv_istore (lv' := [(7, .int v80), (0, .ref (gA G (β + 0))), (1, .int x1), (2, .int x2), (3, .int x3), (4, .int x4), (5, .int x5), (6, .int x6)]) hx hb dX4_leaveStragglers_83 hl (by decide) rfl (fun ls hl => ?_)
          refine lv_aload_n hx hb dX4_leaveStragglers_85 rfl (lv_at hl 1 rfl) ?_
          refine lv_iload hx hb dX4_leaveStragglers_86 (lv_at hl 0 rfl) ?_
          obtain ⟨v88, h88, h⟩ := cr1_some h
          refine r_callV (As := [.int v80]) (rest := []) (st1 := [.int v88]) hx hb hml hown hts hE hw hl (mX4_hasTooLittle l G (by omega) hR h88) (cwV 1 hts (zV gV_X4_159) rfl rfl rfl kdX4_hasTooLittle ⟨Nat.le_of_ble_eq_true rfl, Nat.le_of_ble_eq_true rfl⟩) (by omega) (congrFun hR.1 _) rfl rfl rfl rfl (Nat.le_of_ble_eq_true rfl) dX4_leaveStragglers_88 ⟨Nat.zero_le _, Nat.zero_le _⟩ rfl (fun H locs hw => ?_)
          refine b_eq (tgt := 136) hx hb dX4_leaveStragglers_91 (by decide) h (fun h => ?_) (fun h => ?_)
          · refine p_iinc (w := (nI 1)) 6 (fun v136 => [(5, .int v136), (7, .int v80), (0, .ref (gA G (β + 0))), (1, .int x1), (2, .int x2), (3, .int x3), (4, .int x4), (6, .int x6)]) hx hb dX4_leaveStragglers_136 hl rfl (by decide) (by decide) h (fun _ => rfl) (fun v136 h ls hl => ?_)
            refine p_iinc (w := (nI 1)) 7 (fun v139 => [(6, .int v139), (5, .int v136), (7, .int v80), (0, .ref (gA G (β + 0))), (1, .int x1), (2, .int x2), (3, .int x3), (4, .int x4)]) hx hb dX4_leaveStragglers_139 hl rfl (by decide) (by decide) h (fun _ => rfl) (fun v139 h ls hl => ?_)
            refine lv_goto (tgt := 62) hx hb dX4_leaveStragglers_142 (by decide) ?_
            exact hih62 x1 x2 x3 x4 v136 v139 S _ _ _ h hw (lv_sub hl [3, 4, 5, 6, 7, 1, 0] rfl)
          · refine lv_aload_n hx hb dX4_leaveStragglers_94 rfl (lv_at hl 1 rfl) ?_
            refine r_get (v := .ref (gA G (β + 11))) hx hb hts hinX4 hown hE hw hn 0 (by decide) (congrFun hR.1 _) rfl 5 (by decide) (hts _ (wz_in qF_X4_35)) rfl dX4_leaveStragglers_95 ?_
            refine lv_iload_n hx hb dX4_leaveStragglers_98 rfl (lv_at hl 2 rfl) ?_
            refine lv_iload hx hb dX4_leaveStragglers_99 (lv_at hl 6 rfl) ?_
            obtain ⟨T101, h101, h⟩ := cvs_some h
            refine r_callV (As := [.int x1, .int x5]) (rest := []) (st1 := []) hx hb hml hown hts hE hw hl (mc_sub 11 3 (by decide) (mX2_remove l G (by show β + 11 + 3 ≤ _; omega) hR.2.2.2.2.2.2.1 h101)) (cwV 2 hts (zV gV_X4_162) rfl rfl rfl kdX2_remove ⟨Nat.le_of_ble_eq_true rfl, Nat.le_of_ble_eq_true rfl⟩) (by omega) (congrFun hR.2.2.2.2.2.2.1.1 _) rfl rfl rfl rfl (Nat.le_of_ble_eq_true rfl) dX4_leaveStragglers_101 ⟨Nat.zero_le _, Nat.zero_le _⟩ rfl (fun H locs hw => ?_)
            generalize wB S 11 3 T101 = S101 at h hw
            refine lv_aload_n hx hb dX4_leaveStragglers_104 rfl (lv_at hl 1 rfl) ?_
            refine r_get (v := .ref (gA G (β + 14))) hx hb hts hinX4 hown hE hw hn 0 (by decide) (congrFun hR.1 _) rfl 6 (by decide) (hts _ (wz_in qF_X4_39)) rfl dX4_leaveStragglers_105 ?_
            refine lv_iload_n hx hb dX4_leaveStragglers_108 rfl (lv_at hl 3 rfl) ?_
            refine lv_iload hx hb dX4_leaveStragglers_109 (lv_at hl 0 rfl) ?_
            obtain ⟨T111, h111, h⟩ := cvs_some h
            refine r_callV (As := [.int x2, .int v80]) (rest := []) (st1 := []) hx hb hml hown hts hE hw hl (mc_sub 14 3 (by decide) (mX2_join l G (by show β + 14 + 3 ≤ _; omega) hR.2.2.2.2.2.2.2 h111)) (cwV 2 hts (zV gV_X4_81) rfl rfl rfl kdX2_join ⟨Nat.le_of_ble_eq_true rfl, Nat.le_of_ble_eq_true rfl⟩) (by omega) (congrFun hR.2.2.2.2.2.2.2.1 _) rfl rfl rfl rfl (Nat.le_of_ble_eq_true rfl) dX4_leaveStragglers_111 ⟨Nat.zero_le _, Nat.zero_le _⟩ rfl (fun H locs hw => ?_)
            generalize wB S101 14 3 T111 = S111 at h hw
            refine lv_aload_n hx hb dX4_leaveStragglers_114 rfl (lv_at hl 1 rfl) ?_
            refine lv_iload hx hb dX4_leaveStragglers_115 (lv_at hl 0 rfl) ?_
            refine lv_iconst (v := (nI 1)) hx hb dX4_leaveStragglers_117 (by decide) ?_
            refine lv_iload_n hx hb dX4_leaveStragglers_118 rfl (lv_at hl 3 rfl) ?_
            obtain ⟨S119, h119, h⟩ := cr1_some h
            refine r_callV (As := [.int v80, .int (nI 1), .int x2]) (rest := []) (st1 := []) hx hb hml hown hts hE hw hl (mX4_moveTo l G (by omega) hR h119) (cwV 3 hts (zV gV_X4_78) rfl rfl rfl kdX4_moveTo ⟨Nat.le_of_ble_eq_true rfl, Nat.le_of_ble_eq_true rfl⟩) (by omega) (congrFun hR.1 _) rfl rfl rfl rfl (Nat.le_of_ble_eq_true rfl) dX4_leaveStragglers_119 ⟨Nat.zero_le _, Nat.zero_le _⟩ rfl (fun H locs hw => ?_)
            refine lv_aload_n hx hb dX4_leaveStragglers_122 rfl (lv_at hl 1 rfl) ?_
            refine lv_iload_n hx hb dX4_leaveStragglers_123 rfl (lv_at hl 2 rfl) ?_
            refine lv_iload_n hx hb dX4_leaveStragglers_124 rfl (lv_at hl 3 rfl) ?_
            refine lv_iload hx hb dX4_leaveStragglers_125 (lv_at hl 0 rfl) ?_
            obtain ⟨S127, h127, h⟩ := cr1_some h
            refine r_callV (As := [.int x1, .int x2, .int v80]) (rest := []) (st1 := []) hx hb hml hown hts hE hw hl (mX4_noteLeft l G (by omega) hR h127) (cwV 3 hts (zV gV_X4_165) rfl rfl rfl kdX4_noteLeft ⟨Nat.le_of_ble_eq_true rfl, Nat.le_of_ble_eq_true rfl⟩) (by omega) (congrFun hR.1 _) rfl rfl rfl rfl (Nat.le_of_ble_eq_true rfl) dX4_leaveStragglers_127 ⟨Nat.zero_le _, Nat.zero_le _⟩ rfl (fun H locs hw => ?_)
            refine p_iinc (w := (-1)) 4 (fun v130 => [(3, .int v130), (7, .int v80), (0, .ref (gA G (β + 0))), (1, .int x1), (2, .int x2), (4, .int x4), (5, .int x5), (6, .int x6)]) hx hb dX4_leaveStragglers_130 hl rfl (by decide) (by decide) h (fun _ => rfl) (fun v130 h ls hl => ?_)
            refine lv_goto (tgt := 139) hx hb dX4_leaveStragglers_133 (by decide) ?_
            refine p_iinc (w := (nI 1)) 7 (fun v139 => [(6, .int v139), (3, .int v130), (7, .int v80), (0, .ref (gA G (β + 0))), (1, .int x1), (2, .int x2), (4, .int x4), (5, .int x5)]) hx hb dX4_leaveStragglers_139 hl rfl (by decide) (by decide) h (fun _ => rfl) (fun v139 h ls hl => ?_)
            refine lv_goto (tgt := 62) hx hb dX4_leaveStragglers_142 (by decide) ?_
            exact hih62 x1 x2 v130 x4 x5 v139 S127 _ _ _ h hw (lv_sub hl [3, 4, 5, 1, 6, 7, 0] rfl)
  have k45 : ∀ (x1 : Int32) (x2 : Int32) (t0 : Int32) (S : mM) (H : Heap) (locs : List Loc) (ls : Array Slot), pX4_leaveStragglers_b45  x1 x2 t0 S = some S' → mW G s (wB M β 17 S) H locs → lv_has ls 8 [(0, .ref (gA G (β + 0))), (1, .int x1), (2, .int x2)] → W p l e { frames := 2, cells := 0, slots := 0, locals := 48 } s m args below meth c H locs 0 0 (mZ below G none (wB M β 17 S') args s) (F0 m 45 ls [.int t0]) := by
    intro x1 x2 t0 S H locs ls h hw hl
    unfold pX4_leaveStragglers_b45 at h
    refine lv_istore_n (lv' := [(3, .int t0), (0, .ref (gA G (β + 0))), (1, .int x1), (2, .int x2)]) hx hb dX4_leaveStragglers_45 rfl hl (by decide) rfl (fun ls hl => ?_)
    refine lv_aload_n hx hb dX4_leaveStragglers_46 rfl (lv_at hl 1 rfl) ?_
    refine r_get (v := .ref (gA G (β + 11))) hx hb hts hinX4 hown hE hw hn 0 (by decide) (congrFun hR.1 _) rfl 5 (by decide) (hts _ (wz_in qF_X4_35)) rfl dX4_leaveStragglers_47 ?_
    refine lv_iload_n hx hb dX4_leaveStragglers_50 rfl (lv_at hl 2 rfl) ?_
    obtain ⟨v51, h51, h⟩ := cr1_some h
    refine r_callV (As := [.int x1]) (rest := []) (st1 := [.int v51]) hx hb hml hown hts hE hw hl (mc_subR 11 3 (by decide) (mX2_size l G (by show β + 11 + 3 ≤ _; omega) hR.2.2.2.2.2.2.1 h51)) (cwV 1 hts (zV gV_X4_92) rfl rfl rfl kdX2_size ⟨Nat.le_of_ble_eq_true rfl, Nat.le_of_ble_eq_true rfl⟩) (by omega) (congrFun hR.2.2.2.2.2.2.1.1 _) rfl rfl rfl rfl (Nat.le_of_ble_eq_true rfl) dX4_leaveStragglers_51 ⟨Nat.zero_le _, Nat.zero_le _⟩ rfl (fun H locs hw => ?_)
    refine lv_istore (lv' := [(4, .int v51), (3, .int t0), (0, .ref (gA G (β + 0))), (1, .int x1), (2, .int x2)]) hx hb dX4_leaveStragglers_54 hl (by decide) rfl (fun ls hl => ?_)
    refine lv_iconst (v := (nI 0)) hx hb dX4_leaveStragglers_56 (by decide) ?_
    refine lv_istore (lv' := [(5, .int (nI 0)), (4, .int v51), (3, .int t0), (0, .ref (gA G (β + 0))), (1, .int x1), (2, .int x2)]) hx hb dX4_leaveStragglers_57 hl (by decide) rfl (fun ls hl => ?_)
    refine lv_iconst (v := (nI 0)) hx hb dX4_leaveStragglers_59 (by decide) ?_
    refine lv_istore (lv' := [(6, .int (nI 0)), (5, .int (nI 0)), (4, .int v51), (3, .int t0), (0, .ref (gA G (β + 0))), (1, .int x1), (2, .int x2)]) hx hb dX4_leaveStragglers_60 hl (by decide) rfl (fun ls hl => ?_)
    exact k62 fuel x1 x2 t0 v51 (nI 0) (nI 0) S _ _ _ h hw (lv_sub hl [4, 5, 6, 3, 2, 1, 0] rfl)
  unfold pX4_leaveStragglers at h
  refine lv_aload_n hx hb dX4_leaveStragglers_0 rfl (lv_at hl 0 rfl) ?_
  refine r_get (v := .ref (gA G (β + 3))) hx hb hts hinX4 hown hE hw hn 0 (by decide) (congrFun hR.1 _) rfl 1 (by decide) (hts _ (wz_in qF_X4_20)) rfl dX4_leaveStragglers_1 ?_
  refine lv_aload_n hx hb dX4_leaveStragglers_4 rfl (lv_at hl 0 rfl) ?_
  refine r_get (v := .ref (gA G (β + 7))) hx hb hts hinX4 hown hE hw hn 0 (by decide) (congrFun hR.1 _) rfl 3 (by decide) (hts _ (wz_in qF_X4_26)) rfl dX4_leaveStragglers_5 ?_
  refine lv_iload_n hx hb dX4_leaveStragglers_8 rfl (lv_at hl 1 rfl) ?_
  refine lv_iconst (v := (nI 0)) hx hb dX4_leaveStragglers_9 (by decide) ?_
  obtain ⟨v10, h10, h⟩ := cr1_some h
  refine r_callV (As := [.int a1, .int (nI 0)]) (rest := [.ref (gA G (β + 3))]) (st1 := [.int v10, .ref (gA G (β + 3))]) hx hb hml hown hts hE hw hl (mc_subR 7 2 (by decide) (mX5_get l G (by show β + 7 + 2 ≤ _; omega) hR.2.2.2.2.1 h10)) (cwV 2 hts (zV gV_X4_96) rfl rfl rfl kdX5_get ⟨Nat.le_of_ble_eq_true rfl, Nat.le_of_ble_eq_true rfl⟩) (by omega) (congrFun hR.2.2.2.2.1.1 _) rfl rfl rfl rfl (Nat.le_of_ble_eq_true rfl) dX4_leaveStragglers_10 ⟨Nat.zero_le _, Nat.zero_le _⟩ rfl (fun H locs hw => ?_)
  obtain ⟨v13, h13, h⟩ := cr1_some h
  refine r_callV (As := [.int v10]) (rest := []) (st1 := [.int v13]) hx hb hml hown hts hE hw hl (mc_subR 3 2 (by decide) (mX5_rowAt l G (by show β + 3 + 2 ≤ _; omega) hR.2.2.1 h13)) (cwV 1 hts (zV gV_X4_153) rfl rfl rfl kdX5_rowAt ⟨Nat.le_of_ble_eq_true rfl, Nat.le_of_ble_eq_true rfl⟩) (by omega) (congrFun hR.2.2.1.1 _) rfl rfl rfl rfl (Nat.le_of_ble_eq_true rfl) dX4_leaveStragglers_13 ⟨Nat.zero_le _, Nat.zero_le _⟩ rfl (fun H locs hw => ?_)
  refine lv_istore_n (lv' := [(2, .int v13), (0, .ref (gA G (β + 0))), (1, .int a1)]) hx hb dX4_leaveStragglers_16 rfl hl (by decide) rfl (fun ls hl => ?_)
  refine lv_iload_n hx hb dX4_leaveStragglers_17 rfl (lv_at hl 0 rfl) ?_
  refine lv_bipush (v := (-9)) hx hb dX4_leaveStragglers_18 (by decide) ?_
  refine bi_ne (tgt := 27) hx hb dX4_leaveStragglers_20 (by decide) h (fun h => ?_) (fun h => ?_)
  · refine lv_aload_n hx hb dX4_leaveStragglers_27 rfl (lv_at hl 1 rfl) ?_
    refine r_get (v := .ref (gA G (β + 3))) hx hb hts hinX4 hown hE hw hn 0 (by decide) (congrFun hR.1 _) rfl 1 (by decide) (hts _ (wz_in qF_X4_20)) rfl dX4_leaveStragglers_28 ?_
    refine lv_iload_n hx hb dX4_leaveStragglers_31 rfl (lv_at hl 0 rfl) ?_
    refine lv_iconst (v := (nI 1)) hx hb dX4_leaveStragglers_32 (by decide) ?_
    obtain ⟨v33, h33, h⟩ := cr1_some h
    refine r_callV (As := [.int v13, .int (nI 1)]) (rest := []) (st1 := [.int v33]) hx hb hml hown hts hE hw hl (mc_subR 3 2 (by decide) (mX5_get l G (by show β + 3 + 2 ≤ _; omega) hR.2.2.1 h33)) (cwV 2 hts (zV gV_X4_96) rfl rfl rfl kdX5_get ⟨Nat.le_of_ble_eq_true rfl, Nat.le_of_ble_eq_true rfl⟩) (by omega) (congrFun hR.2.2.1.1 _) rfl rfl rfl rfl (Nat.le_of_ble_eq_true rfl) dX4_leaveStragglers_33 ⟨Nat.zero_le _, Nat.zero_le _⟩ rfl (fun H locs hw => ?_)
    refine lv_aload_n hx hb dX4_leaveStragglers_36 rfl (lv_at hl 1 rfl) ?_
    refine r_get (v := .ref (gA G (β + 14))) hx hb hts hinX4 hown hE hw hn 0 (by decide) (congrFun hR.1 _) rfl 6 (by decide) (hts _ (wz_in qF_X4_39)) rfl dX4_leaveStragglers_37 ?_
    refine lv_iload_n hx hb dX4_leaveStragglers_40 rfl (lv_at hl 0 rfl) ?_
    obtain ⟨v41, h41, h⟩ := cr1_some h
    refine r_callV (As := [.int v13]) (rest := [.int v33]) (st1 := [.int v41, .int v33]) hx hb hml hown hts hE hw hl (mc_subR 14 3 (by decide) (mX2_size l G (by show β + 14 + 3 ≤ _; omega) hR.2.2.2.2.2.2.2 h41)) (cwV 1 hts (zV gV_X4_92) rfl rfl rfl kdX2_size ⟨Nat.le_of_ble_eq_true rfl, Nat.le_of_ble_eq_true rfl⟩) (by omega) (congrFun hR.2.2.2.2.2.2.2.1 _) rfl rfl rfl rfl (Nat.le_of_ble_eq_true rfl) dX4_leaveStragglers_41 ⟨Nat.zero_le _, Nat.zero_le _⟩ rfl (fun H locs hw => ?_)
    refine lv_isub hx hb dX4_leaveStragglers_44 ?_
    exact k45  a1 v13 (v33 - v41) S _ _ _ h hw (lv_sub hl [1, 2, 0] rfl)
  · refine lv_iconst (v := (nI 0)) hx hb dX4_leaveStragglers_23 (by decide) ?_
    refine lv_goto (tgt := 45) hx hb dX4_leaveStragglers_24 (by decide) ?_
    exact k45  a1 v13 (nI 0) S _ _ _ h hw (lv_sub hl [1, 2, 0] rfl)

set_option maxHeartbeats 4000000 in
set_option maxRecDepth 100000 in
theorem mX4_comesAhead (l : Launch) (G : mG) {β : Nat} {M S : mM} {a1 : Int32} {a2 : Int32} {r : Int32} (hn : β + 17 ≤ gN G) (hR : isSt G β) (h : pX4_comesAhead a1 a2 S = some r) : MC l G yX4_comesAhead zzX4_comesAhead 1 24 [.ref (gA G (β + 0)), .int a1, .int a2] (wB M β 17 S) (wB M β 17 S) (some (.int r)) := by
  refine mc_of (cc := cX4_comesAhead) (maxL := 5) (ret := (some .boolean)) (by decide) rfl (Nat.le_of_ble_eq_true rfl) ?_
  intro p e s m args below meth c H ls hx hb hr hts hown hml hlocks hE hw hl
  have hl : lv_has ls 5 [(0, .ref (gA G (β + 0))), (1, .int a1), (2, .int a2)] := hl
  have hinX4 : ∀ w ∈ wsX40, w ∈ zzX4_comesAhead := fun w h9 => wz_in (zinX4 w h9)
  unfold pX4_comesAhead at h
  refine lv_aload_n hx hb dX4_comesAhead_0 rfl (lv_at hl 0 rfl) ?_
  refine r_get (v := .ref (gA G (β + 9))) hx hb hts hinX4 hown hE hw hn 0 (by decide) (congrFun hR.1 _) rfl 4 (by decide) (hts _ (wz_in qF_X4_29)) rfl dX4_comesAhead_1 ?_
  refine lv_iload_n hx hb dX4_comesAhead_4 rfl (lv_at hl 1 rfl) ?_
  refine lv_iconst (v := (nI 0)) hx hb dX4_comesAhead_5 (by decide) ?_
  obtain ⟨v6, h6, h⟩ := cr1_some h
  refine r_callV (As := [.int a1, .int (nI 0)]) (rest := []) (st1 := [.int v6]) hx hb hml hown hts hE hw hl (mc_subR 9 2 (by decide) (mX5_get l G (by show β + 9 + 2 ≤ _; omega) hR.2.2.2.2.2.1 h6)) (cwV 2 hts (zV gV_X4_96) rfl rfl rfl kdX5_get ⟨Nat.le_of_ble_eq_true rfl, Nat.le_of_ble_eq_true rfl⟩) (by omega) (congrFun hR.2.2.2.2.2.1.1 _) rfl rfl rfl rfl (Nat.le_of_ble_eq_true rfl) dX4_comesAhead_6 ⟨Nat.zero_le _, Nat.zero_le _⟩ rfl (fun H locs hw => ?_)
  refine lv_istore_n (lv' := [(3, .int v6), (0, .ref (gA G (β + 0))), (1, .int a1), (2, .int a2)]) hx hb dX4_comesAhead_9 rfl hl (by decide) rfl (fun ls hl => ?_)
  refine lv_aload_n hx hb dX4_comesAhead_10 rfl (lv_at hl 1 rfl) ?_
  refine r_get (v := .ref (gA G (β + 9))) hx hb hts hinX4 hown hE hw hn 0 (by decide) (congrFun hR.1 _) rfl 4 (by decide) (hts _ (wz_in qF_X4_29)) rfl dX4_comesAhead_11 ?_
  refine lv_iload_n hx hb dX4_comesAhead_14 rfl (lv_at hl 3 rfl) ?_
  refine lv_iconst (v := (nI 0)) hx hb dX4_comesAhead_15 (by decide) ?_
  obtain ⟨v16, h16, h⟩ := cr1_some h
  refine r_callV (As := [.int a2, .int (nI 0)]) (rest := []) (st1 := [.int v16]) hx hb hml hown hts hE hw hl (mc_subR 9 2 (by decide) (mX5_get l G (by show β + 9 + 2 ≤ _; omega) hR.2.2.2.2.2.1 h16)) (cwV 2 hts (zV gV_X4_96) rfl rfl rfl kdX5_get ⟨Nat.le_of_ble_eq_true rfl, Nat.le_of_ble_eq_true rfl⟩) (by omega) (congrFun hR.2.2.2.2.2.1.1 _) rfl rfl rfl rfl (Nat.le_of_ble_eq_true rfl) dX4_comesAhead_16 ⟨Nat.zero_le _, Nat.zero_le _⟩ rfl (fun H locs hw => ?_)
  refine lv_istore (lv' := [(4, .int v16), (3, .int v6), (0, .ref (gA G (β + 0))), (1, .int a1), (2, .int a2)]) hx hb dX4_comesAhead_19 hl (by decide) rfl (fun ls hl => ?_)
  refine lv_iload_n hx hb dX4_comesAhead_21 rfl (lv_at hl 1 rfl) ?_
  refine lv_iload hx hb dX4_comesAhead_22 (lv_at hl 0 rfl) ?_
  refine bi_lt (tgt := 38) hx hb dX4_comesAhead_24 (by decide) h (fun h => ?_) (fun h => ?_)
  · refine lv_iconst (v := (nI 1)) hx hb dX4_comesAhead_38 (by decide) ?_
    refine lv_goto (tgt := 43) hx hb dX4_comesAhead_39 (by decide) ?_
    exact e_z hx hb hr hlocks hw dX4_comesAhead_43 h
  · refine lv_iload_n hx hb dX4_comesAhead_27 rfl (lv_at hl 1 rfl) ?_
    refine lv_iload hx hb dX4_comesAhead_28 (lv_at hl 0 rfl) ?_
    refine bi_ne (tgt := 42) hx hb dX4_comesAhead_30 (by decide) h (fun h => ?_) (fun h => ?_)
    · refine lv_iconst (v := (nI 0)) hx hb dX4_comesAhead_42 (by decide) ?_
      exact e_z hx hb hr hlocks hw dX4_comesAhead_43 h
    · refine lv_iload_n hx hb dX4_comesAhead_33 rfl (lv_at hl 3 rfl) ?_
      refine lv_iload_n hx hb dX4_comesAhead_34 rfl (lv_at hl 4 rfl) ?_
      refine bi_ge (tgt := 42) hx hb dX4_comesAhead_35 (by decide) h (fun h => ?_) (fun h => ?_)
      · refine lv_iconst (v := (nI 0)) hx hb dX4_comesAhead_42 (by decide) ?_
        exact e_z hx hb hr hlocks hw dX4_comesAhead_43 h
      · refine lv_iconst (v := (nI 1)) hx hb dX4_comesAhead_38 (by decide) ?_
        refine lv_goto (tgt := 43) hx hb dX4_comesAhead_39 (by decide) ?_
        exact e_z hx hb hr hlocks hw dX4_comesAhead_43 h

set_option maxHeartbeats 4000000 in
set_option maxRecDepth 100000 in
theorem mX4_putInOrder (l : Launch) (G : mG) {β : Nat} {M S S' : mM} {a1 : Int32} (hn : β + 17 ≤ gN G) (hR : isSt G β) (h : pX4_putInOrder a1 S = some S') : MC l G yX4_putInOrder zzX4_putInOrder 2 48 [.ref (gA G (β + 0)), .int a1] (wB M β 17 S) (wB M β 17 S') none := by
  refine mc_of (cc := cX4_putInOrder) (maxL := 5) (ret := none) (by decide) rfl (Nat.le_of_ble_eq_true rfl) ?_
  intro p e s m args below meth c H ls hx hb hr hts hown hml hlocks hE hw hl
  have hl : lv_has ls 5 [(0, .ref (gA G (β + 0))), (1, .int a1)] := hl
  have hinX4 : ∀ w ∈ wsX40, w ∈ zzX4_putInOrder := fun w h9 => wz_in (zinX4 w h9)
  have k80 : ∀ (ih2 : Int32 → Int32 → mM → Option mM) (_ : ∀ (x1 : Int32) (x2 : Int32) (S : mM) (H : Heap) (locs : List Loc) (ls : Array Slot), ih2 x1 x2 S = some S' → mW G s (wB M β 17 S) H locs → lv_has ls 5 [(0, .ref (gA G (β + 0))), (1, .int x1), (2, .int x2)] → W p l e { frames := 2, cells := 0, slots := 0, locals := 48 } s m args below meth c H locs 0 0 (mZ below G none (wB M β 17 S') args s) (F0 m 2 ls [])), ∀ (x1 : Int32) (x2 : Int32) (x3 : Int32) (x4 : Int32) (S : mM) (H : Heap) (locs : List Loc) (ls : Array Slot), pX4_putInOrder_b80 ih2 x1 x2 x3 x4 S = some S' → mW G s (wB M β 17 S) H locs → lv_has ls 5 [(0, .ref (gA G (β + 0))), (1, .int x1), (2, .int x2), (3, .int x3), (4, .int x4)] → W p l e { frames := 2, cells := 0, slots := 0, locals := 48 } s m args below meth c H locs 0 0 (mZ below G none (wB M β 17 S') args s) (F0 m 80 ls []) := by
    intro ih2 hih2 x1 x2 x3 x4 S H locs ls h hw hl
    unfold pX4_putInOrder_b80 at h
    refine lv_aload_n hx hb dX4_putInOrder_80 rfl (lv_at hl 0 rfl) ?_
    refine r_get (v := .ref (gA G (β + 11))) hx hb hts hinX4 hown hE hw hn 0 (by decide) (congrFun hR.1 _) rfl 5 (by decide) (hts _ (wz_in qF_X4_35)) rfl dX4_putInOrder_81 ?_
    refine lv_iload_n hx hb dX4_putInOrder_84 rfl (lv_at hl 1 rfl) ?_
    refine lv_iload hx hb dX4_putInOrder_85 (lv_at hl 4 rfl) ?_
    refine lv_iload_n hx hb dX4_putInOrder_87 rfl (lv_at hl 3 rfl) ?_
    obtain ⟨T88, h88, h⟩ := cvs_some h
    refine r_callV (As := [.int x1, .int x4, .int x3]) (rest := []) (st1 := []) hx hb hml hown hts hE hw hl (mc_sub 11 3 (by decide) (mX2_put l G (by show β + 11 + 3 ≤ _; omega) hR.2.2.2.2.2.2.1 h88)) (cwV 3 hts (zV gV_X4_181) rfl rfl rfl kdX2_put ⟨Nat.le_of_ble_eq_true rfl, Nat.le_of_ble_eq_true rfl⟩) (by omega) (congrFun hR.2.2.2.2.2.2.1.1 _) rfl rfl rfl rfl (Nat.le_of_ble_eq_true rfl) dX4_putInOrder_88 ⟨Nat.zero_le _, Nat.zero_le _⟩ rfl (fun H locs hw => ?_)
    generalize wB S 11 3 T88 = S88 at h hw
    refine p_iinc (w := (nI 1)) 2 (fun v91 => [(2, .int v91), (0, .ref (gA G (β + 0))), (1, .int x1), (3, .int x3), (4, .int x4)]) hx hb dX4_putInOrder_91 hl rfl (by decide) (by decide) h (fun _ => rfl) (fun v91 h ls hl => ?_)
    refine lv_goto (tgt := 2) hx hb dX4_putInOrder_94 (by decide) ?_
    exact hih2 x1 v91 S88 _ _ _ h hw (lv_sub hl [1, 2, 0] rfl)
  have k27 : ∀ (ih2 : Int32 → Int32 → mM → Option mM) (_ : ∀ (x1 : Int32) (x2 : Int32) (S : mM) (H : Heap) (locs : List Loc) (ls : Array Slot), ih2 x1 x2 S = some S' → mW G s (wB M β 17 S) H locs → lv_has ls 5 [(0, .ref (gA G (β + 0))), (1, .int x1), (2, .int x2)] → W p l e { frames := 2, cells := 0, slots := 0, locals := 48 } s m args below meth c H locs 0 0 (mZ below G none (wB M β 17 S') args s) (F0 m 2 ls [])), ∀ (k : Nat), ∀ (x1 : Int32) (x2 : Int32) (x3 : Int32) (x4 : Int32) (S : mM) (H : Heap) (locs : List Loc) (ls : Array Slot), pX4_putInOrder_l27 ih2 k x1 x2 x3 x4 S = some S' → mW G s (wB M β 17 S) H locs → lv_has ls 5 [(0, .ref (gA G (β + 0))), (1, .int x1), (2, .int x2), (3, .int x3), (4, .int x4)] → W p l e { frames := 2, cells := 0, slots := 0, locals := 48 } s m args below meth c H locs 0 0 (mZ below G none (wB M β 17 S') args s) (F0 m 27 ls []) := by
    intro ih2 hih2 k
    induction k with
    | zero => intro x1 x2 x3 x4 S H locs ls h; cases h
    | succ k hih27 =>
      intro x1 x2 x3 x4 S H locs ls h hw hl
      obtain ⟨ih27, hk27⟩ : ∃ f, f = pX4_putInOrder_l27 ih2 k := ⟨_, rfl⟩
      replace h : pX4_putInOrder_lb27 ih2 (pX4_putInOrder_l27 ih2 k) x1 x2 x3 x4 S = some S' := h
      rw [← hk27] at h hih27
      clear hk27
      unfold pX4_putInOrder_lb27 at h
      refine lv_iload hx hb dX4_putInOrder_27 (lv_at hl 4 rfl) ?_
      refine b_le (tgt := 80) hx hb dX4_putInOrder_29 (by decide) h (fun h => ?_) (fun h => ?_)
      · exact k80 ih2 hih2 x1 x2 x3 x4 S _ _ _ h hw (lv_sub hl [0, 1, 2, 3, 4] rfl)
      · refine lv_aload_n hx hb dX4_putInOrder_32 rfl (lv_at hl 0 rfl) ?_
        refine lv_iload_n hx hb dX4_putInOrder_33 rfl (lv_at hl 3 rfl) ?_
        refine lv_aload_n hx hb dX4_putInOrder_34 rfl (lv_at hl 0 rfl) ?_
        refine r_get (v := .ref (gA G (β + 11))) hx hb hts hinX4 hown hE hw hn 0 (by decide) (congrFun hR.1 _) rfl 5 (by decide) (hts _ (wz_in qF_X4_35)) rfl dX4_putInOrder_35 ?_
        refine lv_iload_n hx hb dX4_putInOrder_38 rfl (lv_at hl 1 rfl) ?_
        refine lv_iload hx hb dX4_putInOrder_39 (lv_at hl 4 rfl) ?_
        refine lv_iconst (v := (nI 1)) hx hb dX4_putInOrder_41 (by decide) ?_
        refine lv_isub hx hb dX4_putInOrder_42 ?_
        obtain ⟨v43, h43, h⟩ := cr1_some h
        refine r_callV (As := [.int x1, .int (x4 - (nI 1))]) (rest := [.int x3, .ref (gA G (β + 0))]) (st1 := [.int v43, .int x3, .ref (gA G (β + 0))]) hx hb hml hown hts hE hw hl (mc_subR 11 3 (by decide) (mX2_get l G (by show β + 11 + 3 ≤ _; omega) hR.2.2.2.2.2.2.1 h43)) (cwV 2 hts (zV gV_X4_105) rfl rfl rfl kdX2_get ⟨Nat.le_of_ble_eq_true rfl, Nat.le_of_ble_eq_true rfl⟩) (by omega) (congrFun hR.2.2.2.2.2.2.1.1 _) rfl rfl rfl rfl (Nat.le_of_ble_eq_true rfl) dX4_putInOrder_43 ⟨Nat.zero_le _, Nat.zero_le _⟩ rfl (fun H locs hw => ?_)
        obtain ⟨v46, h46, h⟩ := cr1_some h
        refine r_callV (As := [.int x3, .int v43]) (rest := []) (st1 := [.int v46]) hx hb hml hown hts hE hw hl (mX4_comesAhead l G (by omega) hR h46) (cwV 2 hts (zV gV_X4_177) rfl rfl rfl kdX4_comesAhead ⟨Nat.le_of_ble_eq_true rfl, Nat.le_of_ble_eq_true rfl⟩) (by omega) (congrFun hR.1 _) rfl rfl rfl rfl (Nat.le_of_ble_eq_true rfl) dX4_putInOrder_46 ⟨Nat.zero_le _, Nat.zero_le _⟩ rfl (fun H locs hw => ?_)
        refine b_eq (tgt := 80) hx hb dX4_putInOrder_49 (by decide) h (fun h => ?_) (fun h => ?_)
        · exact k80 ih2 hih2 x1 x2 x3 x4 S _ _ _ h hw (lv_sub hl [0, 1, 2, 3, 4] rfl)
        · refine lv_aload_n hx hb dX4_putInOrder_52 rfl (lv_at hl 0 rfl) ?_
          refine r_get (v := .ref (gA G (β + 11))) hx hb hts hinX4 hown hE hw hn 0 (by decide) (congrFun hR.1 _) rfl 5 (by decide) (hts _ (wz_in qF_X4_35)) rfl dX4_putInOrder_53 ?_
          refine lv_iload_n hx hb dX4_putInOrder_56 rfl (lv_at hl 1 rfl) ?_
          refine lv_iload hx hb dX4_putInOrder_57 (lv_at hl 4 rfl) ?_
          refine lv_aload_n hx hb dX4_putInOrder_59 rfl (lv_at hl 0 rfl) ?_
          refine r_get (v := .ref (gA G (β + 11))) hx hb hts hinX4 hown hE hw hn 0 (by decide) (congrFun hR.1 _) rfl 5 (by decide) (hts _ (wz_in qF_X4_35)) rfl dX4_putInOrder_60 ?_
          refine lv_iload_n hx hb dX4_putInOrder_63 rfl (lv_at hl 1 rfl) ?_
          refine lv_iload hx hb dX4_putInOrder_64 (lv_at hl 4 rfl) ?_
          refine lv_iconst (v := (nI 1)) hx hb dX4_putInOrder_66 (by decide) ?_
          refine lv_isub hx hb dX4_putInOrder_67 ?_
          obtain ⟨v68, h68, h⟩ := cr1_some h
          refine r_callV (As := [.int x1, .int (x4 - (nI 1))]) (rest := [.int x4, .int x1, .ref (gA G (β + 11))]) (st1 := [.int v68, .int x4, .int x1, .ref (gA G (β + 11))]) hx hb hml hown hts hE hw hl (mc_subR 11 3 (by decide) (mX2_get l G (by show β + 11 + 3 ≤ _; omega) hR.2.2.2.2.2.2.1 h68)) (cwV 2 hts (zV gV_X4_105) rfl rfl rfl kdX2_get ⟨Nat.le_of_ble_eq_true rfl, Nat.le_of_ble_eq_true rfl⟩) (by omega) (congrFun hR.2.2.2.2.2.2.1.1 _) rfl rfl rfl rfl (Nat.le_of_ble_eq_true rfl) dX4_putInOrder_68 ⟨Nat.zero_le _, Nat.zero_le _⟩ rfl (fun H locs hw => ?_)
          obtain ⟨T71, h71, h⟩ := cvs_some h
          refine r_callV (As := [.int x1, .int x4, .int v68]) (rest := []) (st1 := []) hx hb hml hown hts hE hw hl (mc_sub 11 3 (by decide) (mX2_put l G (by show β + 11 + 3 ≤ _; omega) hR.2.2.2.2.2.2.1 h71)) (cwV 3 hts (zV gV_X4_181) rfl rfl rfl kdX2_put ⟨Nat.le_of_ble_eq_true rfl, Nat.le_of_ble_eq_true rfl⟩) (by omega) (congrFun hR.2.2.2.2.2.2.1.1 _) rfl rfl rfl rfl (Nat.le_of_ble_eq_true rfl) dX4_putInOrder_71 ⟨Nat.zero_le _, Nat.zero_le _⟩ rfl (fun H locs hw => ?_)
          generalize wB S 11 3 T71 = S71 at h hw
          refine p_iinc (w := (-1)) 4 (fun v74 => [(4, .int v74), (0, .ref (gA G (β + 0))), (1, .int x1), (2, .int x2), (3, .int x3)]) hx hb dX4_putInOrder_74 hl rfl (by decide) (by decide) h (fun _ => rfl) (fun v74 h ls hl => ?_)
          refine lv_goto (tgt := 27) hx hb dX4_putInOrder_77 (by decide) ?_
          exact hih27 x1 x2 x3 v74 S71 _ _ _ h hw (lv_sub hl [1, 2, 3, 4, 0] rfl)
  have k2 : ∀ (k : Nat), ∀ (x1 : Int32) (x2 : Int32) (S : mM) (H : Heap) (locs : List Loc) (ls : Array Slot), pX4_putInOrder_l2  k x1 x2 S = some S' → mW G s (wB M β 17 S) H locs → lv_has ls 5 [(0, .ref (gA G (β + 0))), (1, .int x1), (2, .int x2)] → W p l e { frames := 2, cells := 0, slots := 0, locals := 48 } s m args below meth c H locs 0 0 (mZ below G none (wB M β 17 S') args s) (F0 m 2 ls []) := by
    intro k
    induction k with
    | zero => intro x1 x2 S H locs ls h; cases h
    | succ k hih2 =>
      intro x1 x2 S H locs ls h hw hl
      obtain ⟨ih2, hk2⟩ : ∃ f, f = pX4_putInOrder_l2  k := ⟨_, rfl⟩
      replace h : pX4_putInOrder_lb2  (pX4_putInOrder_l2  k) x1 x2 S = some S' := h
      rw [← hk2] at h hih2
      clear hk2
      unfold pX4_putInOrder_lb2 at h
      refine lv_iload_n hx hb dX4_putInOrder_2 rfl (lv_at hl 2 rfl) ?_
      refine lv_aload_n hx hb dX4_putInOrder_3 rfl (lv_at hl 0 rfl) ?_
      refine r_get (v := .ref (gA G (β + 11))) hx hb hts hinX4 hown hE hw hn 0 (by decide) (congrFun hR.1 _) rfl 5 (by decide) (hts _ (wz_in qF_X4_35)) rfl dX4_putInOrder_4 ?_
      refine lv_iload_n hx hb dX4_putInOrder_7 rfl (lv_at hl 1 rfl) ?_
      obtain ⟨v8, h8, h⟩ := cr1_some h
      refine r_callV (As := [.int x1]) (rest := [.int x2]) (st1 := [.int v8, .int x2]) hx hb hml hown hts hE hw hl (mc_subR 11 3 (by decide) (mX2_size l G (by show β + 11 + 3 ≤ _; omega) hR.2.2.2.2.2.2.1 h8)) (cwV 1 hts (zV gV_X4_92) rfl rfl rfl kdX2_size ⟨Nat.le_of_ble_eq_true rfl, Nat.le_of_ble_eq_true rfl⟩) (by omega) (congrFun hR.2.2.2.2.2.2.1.1 _) rfl rfl rfl rfl (Nat.le_of_ble_eq_true rfl) dX4_putInOrder_8 ⟨Nat.zero_le _, Nat.zero_le _⟩ rfl (fun H locs hw => ?_)
      refine bi_ge (tgt := 97) hx hb dX4_putInOrder_11 (by decide) h (fun h => ?_) (fun h => ?_)
      · exact e_vw hx hb hr hlocks hw dX4_putInOrder_97 h
      · refine lv_aload_n hx hb dX4_putInOrder_14 rfl (lv_at hl 0 rfl) ?_
        refine r_get (v := .ref (gA G (β + 11))) hx hb hts hinX4 hown hE hw hn 0 (by decide) (congrFun hR.1 _) rfl 5 (by decide) (hts _ (wz_in qF_X4_35)) rfl dX4_putInOrder_15 ?_
        refine lv_iload_n hx hb dX4_putInOrder_18 rfl (lv_at hl 1 rfl) ?_
        refine lv_iload_n hx hb dX4_putInOrder_19 rfl (lv_at hl 2 rfl) ?_
        obtain ⟨v20, h20, h⟩ := cr1_some h
        refine r_callV (As := [.int x1, .int x2]) (rest := []) (st1 := [.int v20]) hx hb hml hown hts hE hw hl (mc_subR 11 3 (by decide) (mX2_get l G (by show β + 11 + 3 ≤ _; omega) hR.2.2.2.2.2.2.1 h20)) (cwV 2 hts (zV gV_X4_105) rfl rfl rfl kdX2_get ⟨Nat.le_of_ble_eq_true rfl, Nat.le_of_ble_eq_true rfl⟩) (by omega) (congrFun hR.2.2.2.2.2.2.1.1 _) rfl rfl rfl rfl (Nat.le_of_ble_eq_true rfl) dX4_putInOrder_20 ⟨Nat.zero_le _, Nat.zero_le _⟩ rfl (fun H locs hw => ?_)
        refine lv_istore_n (lv' := [(3, .int v20), (0, .ref (gA G (β + 0))), (1, .int x1), (2, .int x2)]) hx hb dX4_putInOrder_23 rfl hl (by decide) rfl (fun ls hl => ?_)
        refine lv_iload_n hx hb dX4_putInOrder_24 rfl (lv_at hl 3 rfl) ?_
        refine lv_istore (lv' := [(4, .int x2), (3, .int v20), (0, .ref (gA G (β + 0))), (1, .int x1), (2, .int x2)]) hx hb dX4_putInOrder_25 hl (by decide) rfl (fun ls hl => ?_)
        exact k27 ih2 hih2 fuel x1 x2 v20 x2 S _ _ _ h hw (lv_sub hl [2, 3, 4, 1, 0] rfl)
  unfold pX4_putInOrder at h
  refine lv_iconst (v := (nI 1)) hx hb dX4_putInOrder_0 (by decide) ?_
  refine lv_istore_n (lv' := [(2, .int (nI 1)), (0, .ref (gA G (β + 0))), (1, .int a1)]) hx hb dX4_putInOrder_1 rfl hl (by decide) rfl (fun ls hl => ?_)
  exact k2 fuel a1 (nI 1) S _ _ _ h hw (lv_sub hl [1, 2, 0] rfl)

set_option maxHeartbeats 4000000 in
set_option maxRecDepth 100000 in
theorem mX4_giveFuel (l : Launch) (G : mG) {β : Nat} {M S S' : mM} {a1 : Int32} {a2 : Int32} (hn : β + 17 ≤ gN G) (hR : isSt G β) (h : pX4_giveFuel a1 a2 S = some S') : MC l G yX4_giveFuel zzX4_giveFuel 1 25 [.ref (gA G (β + 0)), .int a1, .int a2] (wB M β 17 S) (wB M β 17 S') none := by
  refine mc_of (cc := cX4_giveFuel) (maxL := 6) (ret := none) (by decide) rfl (Nat.le_of_ble_eq_true rfl) ?_
  intro p e s m args below meth c H ls hx hb hr hts hown hml hlocks hE hw hl
  have hl : lv_has ls 6 [(0, .ref (gA G (β + 0))), (1, .int a1), (2, .int a2)] := hl
  have hinX4 : ∀ w ∈ wsX40, w ∈ zzX4_giveFuel := fun w h9 => wz_in (zinX4 w h9)
  unfold pX4_giveFuel at h
  refine lv_aload_n hx hb dX4_giveFuel_0 rfl (lv_at hl 0 rfl) ?_
  refine r_get (v := .ref (gA G (β + 9))) hx hb hts hinX4 hown hE hw hn 0 (by decide) (congrFun hR.1 _) rfl 4 (by decide) (hts _ (wz_in qF_X4_29)) rfl dX4_giveFuel_1 ?_
  refine lv_iload_n hx hb dX4_giveFuel_4 rfl (lv_at hl 2 rfl) ?_
  refine lv_iconst (v := (nI 2)) hx hb dX4_giveFuel_5 (by decide) ?_
  obtain ⟨v6, h6, h⟩ := cr1_some h
  refine r_callV (As := [.int a2, .int (nI 2)]) (rest := []) (st1 := [.int v6]) hx hb hml hown hts hE hw hl (mc_subR 9 2 (by decide) (mX5_get l G (by show β + 9 + 2 ≤ _; omega) hR.2.2.2.2.2.1 h6)) (cwV 2 hts (zV gV_X4_96) rfl rfl rfl kdX5_get ⟨Nat.le_of_ble_eq_true rfl, Nat.le_of_ble_eq_true rfl⟩) (by omega) (congrFun hR.2.2.2.2.2.1.1 _) rfl rfl rfl rfl (Nat.le_of_ble_eq_true rfl) dX4_giveFuel_6 ⟨Nat.zero_le _, Nat.zero_le _⟩ rfl (fun H locs hw => ?_)
  refine lv_aload_n hx hb dX4_giveFuel_9 rfl (lv_at hl 0 rfl) ?_
  refine r_get (v := .ref (gA G (β + 9))) hx hb hts hinX4 hown hE hw hn 0 (by decide) (congrFun hR.1 _) rfl 4 (by decide) (hts _ (wz_in qF_X4_29)) rfl dX4_giveFuel_10 ?_
  refine lv_iload_n hx hb dX4_giveFuel_13 rfl (lv_at hl 2 rfl) ?_
  refine lv_iconst (v := (nI 3)) hx hb dX4_giveFuel_14 (by decide) ?_
  obtain ⟨v15, h15, h⟩ := cr1_some h
  refine r_callV (As := [.int a2, .int (nI 3)]) (rest := [.int v6]) (st1 := [.int v15, .int v6]) hx hb hml hown hts hE hw hl (mc_subR 9 2 (by decide) (mX5_get l G (by show β + 9 + 2 ≤ _; omega) hR.2.2.2.2.2.1 h15)) (cwV 2 hts (zV gV_X4_96) rfl rfl rfl kdX5_get ⟨Nat.le_of_ble_eq_true rfl, Nat.le_of_ble_eq_true rfl⟩) (by omega) (congrFun hR.2.2.2.2.2.1.1 _) rfl rfl rfl rfl (Nat.le_of_ble_eq_true rfl) dX4_giveFuel_15 ⟨Nat.zero_le _, Nat.zero_le _⟩ rfl (fun H locs hw => ?_)
  refine lv_isub hx hb dX4_giveFuel_18 ?_
  refine p_topi h (fun v19 h => ?_)
  refine lv_istore_n (lv' := [(3, .int v19), (0, .ref (gA G (β + 0))), (1, .int a1), (2, .int a2)]) hx hb dX4_giveFuel_19 rfl hl (by decide) rfl (fun ls hl => ?_)
  refine lv_aload_n hx hb dX4_giveFuel_20 rfl (lv_at hl 1 rfl) ?_
  refine r_get (v := .ref (gA G (β + 9))) hx hb hts hinX4 hown hE hw hn 0 (by decide) (congrFun hR.1 _) rfl 4 (by decide) (hts _ (wz_in qF_X4_29)) rfl dX4_giveFuel_21 ?_
  refine lv_iload_n hx hb dX4_giveFuel_24 rfl (lv_at hl 2 rfl) ?_
  refine lv_iconst (v := (nI 3)) hx hb dX4_giveFuel_25 (by decide) ?_
  obtain ⟨v26, h26, h⟩ := cr1_some h
  refine r_callV (As := [.int a1, .int (nI 3)]) (rest := []) (st1 := [.int v26]) hx hb hml hown hts hE hw hl (mc_subR 9 2 (by decide) (mX5_get l G (by show β + 9 + 2 ≤ _; omega) hR.2.2.2.2.2.1 h26)) (cwV 2 hts (zV gV_X4_96) rfl rfl rfl kdX5_get ⟨Nat.le_of_ble_eq_true rfl, Nat.le_of_ble_eq_true rfl⟩) (by omega) (congrFun hR.2.2.2.2.2.1.1 _) rfl rfl rfl rfl (Nat.le_of_ble_eq_true rfl) dX4_giveFuel_26 ⟨Nat.zero_le _, Nat.zero_le _⟩ rfl (fun H locs hw => ?_)
  refine lv_iconst (v := (nI 2)) hx hb dX4_giveFuel_29 (by decide) ?_
  refine lv_idiv hx hb dX4_giveFuel_30 (by decide) ?_
  refine lv_bipush (v := (nI 10)) hx hb dX4_giveFuel_31 (by decide) ?_
  refine va_mmin hx hb (hml.trans hl.1.symm) hown (hts _ (wz_in qM_X4_106)) (hts _ (wz_in qT_min)) (hts _ (wz_in qN_J9)) (hts _ (wz_in qC_min)) (Nat.le_of_ble_eq_true rfl) (Nat.le_of_ble_eq_true rfl) (Nat.zero_le _) (Nat.zero_le _) dX4_giveFuel_33 ?_
  refine p_topi h (fun v33 h => ?_)
  refine lv_istore (lv' := [(4, .int v33), (3, .int v19), (0, .ref (gA G (β + 0))), (1, .int a1), (2, .int a2)]) hx hb dX4_giveFuel_36 hl (by decide) rfl (fun ls hl => ?_)
  refine lv_iload hx hb dX4_giveFuel_38 (lv_at hl 0 rfl) ?_
  refine lv_iload_n hx hb dX4_giveFuel_40 rfl (lv_at hl 1 rfl) ?_
  refine va_mmin hx hb (hml.trans hl.1.symm) hown (hts _ (wz_in qM_X4_106)) (hts _ (wz_in qT_min)) (hts _ (wz_in qN_J9)) (hts _ (wz_in qC_min)) (Nat.le_of_ble_eq_true rfl) (Nat.le_of_ble_eq_true rfl) (Nat.zero_le _) (Nat.zero_le _) dX4_giveFuel_41 ?_
  refine p_topi h (fun v41 h => ?_)
  refine lv_istore (lv' := [(5, .int v41), (4, .int v33), (3, .int v19), (0, .ref (gA G (β + 0))), (1, .int a1), (2, .int a2)]) hx hb dX4_giveFuel_44 hl (by decide) rfl (fun ls hl => ?_)
  refine lv_aload_n hx hb dX4_giveFuel_46 rfl (lv_at hl 3 rfl) ?_
  refine r_get (v := .ref (gA G (β + 9))) hx hb hts hinX4 hown hE hw hn 0 (by decide) (congrFun hR.1 _) rfl 4 (by decide) (hts _ (wz_in qF_X4_29)) rfl dX4_giveFuel_47 ?_
  refine lv_iload_n hx hb dX4_giveFuel_50 rfl (lv_at hl 4 rfl) ?_
  refine lv_iconst (v := (nI 3)) hx hb dX4_giveFuel_51 (by decide) ?_
  refine lv_iload hx hb dX4_giveFuel_52 (lv_at hl 0 rfl) ?_
  refine lv_ineg hx hb dX4_giveFuel_54 ?_
  obtain ⟨T55, h55, h⟩ := cvs_some h
  refine r_callV (As := [.int a1, .int (nI 3), .int (-v41)]) (rest := []) (st1 := []) hx hb hml hown hts hE hw hl (mc_sub 9 2 (by decide) (mX5_raise l G (by show β + 9 + 2 ≤ _; omega) hR.2.2.2.2.2.1 h55)) (cwV 3 hts (zV gV_X4_126) rfl rfl rfl kdX5_raise ⟨Nat.le_of_ble_eq_true rfl, Nat.le_of_ble_eq_true rfl⟩) (by omega) (congrFun hR.2.2.2.2.2.1.1 _) rfl rfl rfl rfl (Nat.le_of_ble_eq_true rfl) dX4_giveFuel_55 ⟨Nat.zero_le _, Nat.zero_le _⟩ rfl (fun H locs hw => ?_)
  generalize wB S 9 2 T55 = S55 at h hw
  refine lv_aload_n hx hb dX4_giveFuel_58 rfl (lv_at hl 3 rfl) ?_
  refine r_get (v := .ref (gA G (β + 9))) hx hb hts hinX4 hown hE hw hn 0 (by decide) (congrFun hR.1 _) rfl 4 (by decide) (hts _ (wz_in qF_X4_29)) rfl dX4_giveFuel_59 ?_
  refine lv_iload_n hx hb dX4_giveFuel_62 rfl (lv_at hl 5 rfl) ?_
  refine lv_iconst (v := (nI 3)) hx hb dX4_giveFuel_63 (by decide) ?_
  refine lv_iload hx hb dX4_giveFuel_64 (lv_at hl 0 rfl) ?_
  obtain ⟨T66, h66, h⟩ := cvs_some h
  refine r_callV (As := [.int a2, .int (nI 3), .int v41]) (rest := []) (st1 := []) hx hb hml hown hts hE hw hl (mc_sub 9 2 (by decide) (mX5_raise l G (by show β + 9 + 2 ≤ _; omega) hR.2.2.2.2.2.1 h66)) (cwV 3 hts (zV gV_X4_126) rfl rfl rfl kdX5_raise ⟨Nat.le_of_ble_eq_true rfl, Nat.le_of_ble_eq_true rfl⟩) (by omega) (congrFun hR.2.2.2.2.2.1.1 _) rfl rfl rfl rfl (Nat.le_of_ble_eq_true rfl) dX4_giveFuel_66 ⟨Nat.zero_le _, Nat.zero_le _⟩ rfl (fun H locs hw => ?_)
  generalize wB S55 9 2 T66 = S66 at h hw
  exact e_vw hx hb hr hlocks hw dX4_giveFuel_69 h

set_option maxHeartbeats 4000000 in
set_option maxRecDepth 100000 in
theorem mX4_richest (l : Launch) (G : mG) {β : Nat} {M S : mM} {a1 : Int32} {r : Int32} (hn : β + 17 ≤ gN G) (hR : isSt G β) (h : pX4_richest a1 S = some r) : MC l G yX4_richest zzX4_richest 1 24 [.ref (gA G (β + 0)), .int a1] (wB M β 17 S) (wB M β 17 S) (some (.int r)) := by
  refine mc_of (cc := cX4_richest) (maxL := 5) (ret := (some .int)) (by decide) rfl (Nat.le_of_ble_eq_true rfl) ?_
  intro p e s m args below meth c H ls hx hb hr hts hown hml hlocks hE hw hl
  have hl : lv_has ls 5 [(0, .ref (gA G (β + 0))), (1, .int a1)] := hl
  have hinX4 : ∀ w ∈ wsX40, w ∈ zzX4_richest := fun w h9 => wz_in (zinX4 w h9)
  have k12 : ∀ (k : Nat), ∀ (x1 : Int32) (x2 : Int32) (x3 : Int32) (H : Heap) (locs : List Loc) (ls : Array Slot), pX4_richest_l12  S k x1 x2 x3 = some r → mW G s (wB M β 17 S) H locs → lv_has ls 5 [(0, .ref (gA G (β + 0))), (1, .int x1), (2, .int x2), (3, .int x3)] → W p l e { frames := 1, cells := 0, slots := 0, locals := 24 } s m args below meth c H locs 0 0 (mZ below G (some (.int r)) (wB M β 17 S) args s) (F0 m 12 ls []) := by
    intro k
    induction k with
    | zero => intro x1 x2 x3 H locs ls h; cases h
    | succ k hih12 =>
      intro x1 x2 x3 H locs ls h hw hl
      obtain ⟨ih12, hk12⟩ : ∃ f, f = pX4_richest_l12  S k := ⟨_, rfl⟩
      replace h : pX4_richest_lb12  (pX4_richest_l12  S k) S x1 x2 x3 = some r := h
      rw [← hk12] at h hih12
      clear hk12
      unfold pX4_richest_lb12 at h
      refine lv_iload_n hx hb dX4_richest_12 rfl (lv_at hl 3 rfl) ?_
      refine lv_aload_n hx hb dX4_richest_13 rfl (lv_at hl 0 rfl) ?_
      refine r_get (v := .ref (gA G (β + 11))) hx hb hts hinX4 hown hE hw hn 0 (by decide) (congrFun hR.1 _) rfl 5 (by decide) (hts _ (wz_in qF_X4_35)) rfl dX4_richest_14 ?_
      refine lv_iload_n hx hb dX4_richest_17 rfl (lv_at hl 1 rfl) ?_
      obtain ⟨v18, h18, h⟩ := cr1_some h
      refine r_callV (As := [.int x1]) (rest := [.int x3]) (st1 := [.int v18, .int x3]) hx hb hml hown hts hE hw hl (mc_subR 11 3 (by decide) (mX2_size l G (by show β + 11 + 3 ≤ _; omega) hR.2.2.2.2.2.2.1 h18)) (cwV 1 hts (zV gV_X4_92) rfl rfl rfl kdX2_size ⟨Nat.le_of_ble_eq_true rfl, Nat.le_of_ble_eq_true rfl⟩) (by omega) (congrFun hR.2.2.2.2.2.2.1.1 _) rfl rfl rfl rfl (Nat.le_of_ble_eq_true rfl) dX4_richest_18 ⟨Nat.zero_le _, Nat.zero_le _⟩ rfl (fun H locs hw => ?_)
      refine bi_ge (tgt := 66) hx hb dX4_richest_21 (by decide) h (fun h => ?_) (fun h => ?_)
      · refine lv_iload_n hx hb dX4_richest_66 rfl (lv_at hl 2 rfl) ?_
        exact e_i hx hb hr hlocks hw dX4_richest_67 h
      · refine lv_aload_n hx hb dX4_richest_24 rfl (lv_at hl 0 rfl) ?_
        refine r_get (v := .ref (gA G (β + 11))) hx hb hts hinX4 hown hE hw hn 0 (by decide) (congrFun hR.1 _) rfl 5 (by decide) (hts _ (wz_in qF_X4_35)) rfl dX4_richest_25 ?_
        refine lv_iload_n hx hb dX4_richest_28 rfl (lv_at hl 1 rfl) ?_
        refine lv_iload_n hx hb dX4_richest_29 rfl (lv_at hl 3 rfl) ?_
        obtain ⟨v30, h30, h⟩ := cr1_some h
        refine r_callV (As := [.int x1, .int x3]) (rest := []) (st1 := [.int v30]) hx hb hml hown hts hE hw hl (mc_subR 11 3 (by decide) (mX2_get l G (by show β + 11 + 3 ≤ _; omega) hR.2.2.2.2.2.2.1 h30)) (cwV 2 hts (zV gV_X4_105) rfl rfl rfl kdX2_get ⟨Nat.le_of_ble_eq_true rfl, Nat.le_of_ble_eq_true rfl⟩) (by omega) (congrFun hR.2.2.2.2.2.2.1.1 _) rfl rfl rfl rfl (Nat.le_of_ble_eq_true rfl) dX4_richest_30 ⟨Nat.zero_le _, Nat.zero_le _⟩ rfl (fun H locs hw => ?_)
        refine lv_istore (lv' := [(4, .int v30), (0, .ref (gA G (β + 0))), (1, .int x1), (2, .int x2), (3, .int x3)]) hx hb dX4_richest_33 hl (by decide) rfl (fun ls hl => ?_)
        refine lv_aload_n hx hb dX4_richest_35 rfl (lv_at hl 1 rfl) ?_
        refine r_get (v := .ref (gA G (β + 9))) hx hb hts hinX4 hown hE hw hn 0 (by decide) (congrFun hR.1 _) rfl 4 (by decide) (hts _ (wz_in qF_X4_29)) rfl dX4_richest_36 ?_
        refine lv_iload hx hb dX4_richest_39 (lv_at hl 0 rfl) ?_
        refine lv_iconst (v := (nI 3)) hx hb dX4_richest_41 (by decide) ?_
        obtain ⟨v42, h42, h⟩ := cr1_some h
        refine r_callV (As := [.int v30, .int (nI 3)]) (rest := []) (st1 := [.int v42]) hx hb hml hown hts hE hw hl (mc_subR 9 2 (by decide) (mX5_get l G (by show β + 9 + 2 ≤ _; omega) hR.2.2.2.2.2.1 h42)) (cwV 2 hts (zV gV_X4_96) rfl rfl rfl kdX5_get ⟨Nat.le_of_ble_eq_true rfl, Nat.le_of_ble_eq_true rfl⟩) (by omega) (congrFun hR.2.2.2.2.2.1.1 _) rfl rfl rfl rfl (Nat.le_of_ble_eq_true rfl) dX4_richest_42 ⟨Nat.zero_le _, Nat.zero_le _⟩ rfl (fun H locs hw => ?_)
        refine lv_aload_n hx hb dX4_richest_45 rfl (lv_at hl 1 rfl) ?_
        refine r_get (v := .ref (gA G (β + 9))) hx hb hts hinX4 hown hE hw hn 0 (by decide) (congrFun hR.1 _) rfl 4 (by decide) (hts _ (wz_in qF_X4_29)) rfl dX4_richest_46 ?_
        refine lv_iload_n hx hb dX4_richest_49 rfl (lv_at hl 3 rfl) ?_
        refine lv_iconst (v := (nI 3)) hx hb dX4_richest_50 (by decide) ?_
        obtain ⟨v51, h51, h⟩ := cr1_some h
        refine r_callV (As := [.int x2, .int (nI 3)]) (rest := [.int v42]) (st1 := [.int v51, .int v42]) hx hb hml hown hts hE hw hl (mc_subR 9 2 (by decide) (mX5_get l G (by show β + 9 + 2 ≤ _; omega) hR.2.2.2.2.2.1 h51)) (cwV 2 hts (zV gV_X4_96) rfl rfl rfl kdX5_get ⟨Nat.le_of_ble_eq_true rfl, Nat.le_of_ble_eq_true rfl⟩) (by omega) (congrFun hR.2.2.2.2.2.1.1 _) rfl rfl rfl rfl (Nat.le_of_ble_eq_true rfl) dX4_richest_51 ⟨Nat.zero_le _, Nat.zero_le _⟩ rfl (fun H locs hw => ?_)
        refine bi_le (tgt := 60) hx hb dX4_richest_54 (by decide) h (fun h => ?_) (fun h => ?_)
        · refine p_iinc (w := (nI 1)) 4 (fun v60 => [(3, .int v60), (4, .int v30), (0, .ref (gA G (β + 0))), (1, .int x1), (2, .int x2)]) hx hb dX4_richest_60 hl rfl (by decide) (by decide) h (fun _ => rfl) (fun v60 h ls hl => ?_)
          refine lv_goto (tgt := 12) hx hb dX4_richest_63 (by decide) ?_
          exact hih12 x1 x2 v60 _ _ _ h hw (lv_sub hl [2, 3, 4, 0] rfl)
        · refine lv_iload hx hb dX4_richest_57 (lv_at hl 0 rfl) ?_
          refine lv_istore_n (lv' := [(2, .int v30), (4, .int v30), (0, .ref (gA G (β + 0))), (1, .int x1), (3, .int x3)]) hx hb dX4_richest_59 rfl hl (by decide) rfl (fun ls hl => ?_)
          refine p_iinc (w := (nI 1)) 4 (fun v60 => [(3, .int v60), (2, .int v30), (4, .int v30), (0, .ref (gA G (β + 0))), (1, .int x1)]) hx hb dX4_richest_60 hl rfl (by decide) (by decide) h (fun _ => rfl) (fun v60 h ls hl => ?_)
          refine lv_goto (tgt := 12) hx hb dX4_richest_63 (by decide) ?_
          exact hih12 x1 v30 v60 _ _ _ h hw (lv_sub hl [3, 4, 1, 0] rfl)
  unfold pX4_richest at h
  refine lv_aload_n hx hb dX4_richest_0 rfl (lv_at hl 0 rfl) ?_
  refine r_get (v := .ref (gA G (β + 11))) hx hb hts hinX4 hown hE hw hn 0 (by decide) (congrFun hR.1 _) rfl 5 (by decide) (hts _ (wz_in qF_X4_35)) rfl dX4_richest_1 ?_
  refine lv_iload_n hx hb dX4_richest_4 rfl (lv_at hl 1 rfl) ?_
  refine lv_iconst (v := (nI 0)) hx hb dX4_richest_5 (by decide) ?_
  obtain ⟨v6, h6, h⟩ := cr1_some h
  refine r_callV (As := [.int a1, .int (nI 0)]) (rest := []) (st1 := [.int v6]) hx hb hml hown hts hE hw hl (mc_subR 11 3 (by decide) (mX2_get l G (by show β + 11 + 3 ≤ _; omega) hR.2.2.2.2.2.2.1 h6)) (cwV 2 hts (zV gV_X4_105) rfl rfl rfl kdX2_get ⟨Nat.le_of_ble_eq_true rfl, Nat.le_of_ble_eq_true rfl⟩) (by omega) (congrFun hR.2.2.2.2.2.2.1.1 _) rfl rfl rfl rfl (Nat.le_of_ble_eq_true rfl) dX4_richest_6 ⟨Nat.zero_le _, Nat.zero_le _⟩ rfl (fun H locs hw => ?_)
  refine lv_istore_n (lv' := [(2, .int v6), (0, .ref (gA G (β + 0))), (1, .int a1)]) hx hb dX4_richest_9 rfl hl (by decide) rfl (fun ls hl => ?_)
  refine lv_iconst (v := (nI 1)) hx hb dX4_richest_10 (by decide) ?_
  refine lv_istore_n (lv' := [(3, .int (nI 1)), (2, .int v6), (0, .ref (gA G (β + 0))), (1, .int a1)]) hx hb dX4_richest_11 rfl hl (by decide) rfl (fun ls hl => ?_)
  exact k12 fuel a1 v6 (nI 1) _ _ _ h hw (lv_sub hl [2, 3, 1, 0] rfl)

set_option maxHeartbeats 4000000 in
set_option maxRecDepth 100000 in
theorem mX4_rescues (l : Launch) (G : mG) {β : Nat} {M S S' : mM} {a1 : Int32} {r : Int32} (hn : β + 17 ≤ gN G) (hR : isSt G β) (h : pX4_rescues a1 S = some (r, S')) : MC l G yX4_rescues zzX4_rescues 2 50 [.ref (gA G (β + 0)), .int a1] (wB M β 17 S) (wB M β 17 S') (some (.int r)) := by
  refine mc_of (cc := cX4_rescues) (maxL := 8) (ret := (some .boolean)) (by decide) rfl (Nat.le_of_ble_eq_true rfl) ?_
  intro p e s m args below meth c H ls hx hb hr hts hown hml hlocks hE hw hl
  have hl : lv_has ls 8 [(0, .ref (gA G (β + 0))), (1, .int a1)] := hl
  have hinX4 : ∀ w ∈ wsX40, w ∈ zzX4_rescues := fun w h9 => wz_in (zinX4 w h9)
  have k102 : ∀ (ih42 : Int32 → Int32 → Int32 → Int32 → Int32 → Int32 → mM → Option (Int32 × mM)) (_ : ∀ (x1 : Int32) (x2 : Int32) (x3 : Int32) (x4 : Int32) (x5 : Int32) (x6 : Int32) (S : mM) (H : Heap) (locs : List Loc) (ls : Array Slot), ih42 x1 x2 x3 x4 x5 x6 S = some (r, S') → mW G s (wB M β 17 S) H locs → lv_has ls 8 [(0, .ref (gA G (β + 0))), (1, .int x1), (2, .int x2), (3, .int x3), (4, .int x4), (5, .int x5), (6, .int x6)] → W p l e { frames := 2, cells := 0, slots := 0, locals := 50 } s m args below meth c H locs 0 0 (mZ below G (some (.int r)) (wB M β 17 S') args s) (F0 m 42 ls [])), ∀ (x1 : Int32) (x2 : Int32) (x3 : Int32) (x4 : Int32) (x6 : Int32) (x7 : Int32) (t0 : Int32) (S : mM) (H : Heap) (locs : List Loc) (ls : Array Slot), pX4_rescues_b102 ih42 x1 x2 x3 x4 x6 x7 t0 S = some (r, S') → mW G s (wB M β 17 S) H locs → lv_has ls 8 [(0, .ref (gA G (β + 0))), (1, .int x1), (2, .int x2), (3, .int x3), (4, .int x4), (6, .int x6), (7, .int x7)] → W p l e { frames := 2, cells := 0, slots := 0, locals := 50 } s m args below meth c H locs 0 0 (mZ below G (some (.int r)) (wB M β 17 S') args s) (F0 m 102 ls [.int t0]) := by
    intro ih42 hih42 x1 x2 x3 x4 x6 x7 t0 S H locs ls h hw hl
    unfold pX4_rescues_b102 at h
    refine lv_istore (lv' := [(5, .int t0), (0, .ref (gA G (β + 0))), (1, .int x1), (2, .int x2), (3, .int x3), (4, .int x4), (6, .int x6), (7, .int x7)]) hx hb dX4_rescues_102 hl (by decide) rfl (fun ls hl => ?_)
    refine lv_iload hx hb dX4_rescues_104 (lv_at hl 0 rfl) ?_
    refine b_eq (tgt := 136) hx hb dX4_rescues_106 (by decide) h (fun h => ?_) (fun h => ?_)
    · refine p_iinc (w := (nI 1)) 6 (fun v136 => [(6, .int v136), (5, .int t0), (0, .ref (gA G (β + 0))), (1, .int x1), (2, .int x2), (3, .int x3), (4, .int x4), (7, .int x7)]) hx hb dX4_rescues_136 hl rfl (by decide) (by decide) h (fun _ => rfl) (fun v136 h ls hl => ?_)
      refine lv_goto (tgt := 42) hx hb dX4_rescues_139 (by decide) ?_
      exact hih42 x1 x2 x3 x4 t0 v136 S _ _ _ h hw (lv_sub hl [2, 3, 4, 5, 6, 1, 0] rfl)
    · refine lv_aload_n hx hb dX4_rescues_109 rfl (lv_at hl 1 rfl) ?_
      refine r_get (v := .ref (gA G (β + 14))) hx hb hts hinX4 hown hE hw hn 0 (by decide) (congrFun hR.1 _) rfl 6 (by decide) (hts _ (wz_in qF_X4_39)) rfl dX4_rescues_110 ?_
      refine lv_iload_n hx hb dX4_rescues_113 rfl (lv_at hl 3 rfl) ?_
      refine lv_iconst (v := (nI 0)) hx hb dX4_rescues_114 (by decide) ?_
      obtain ⟨T115, h115, h⟩ := cvs_some h
      refine r_callV (As := [.int x2, .int (nI 0)]) (rest := []) (st1 := []) hx hb hml hown hts hE hw hl (mc_sub 14 3 (by decide) (mX2_remove l G (by show β + 14 + 3 ≤ _; omega) hR.2.2.2.2.2.2.2 h115)) (cwV 2 hts (zV gV_X4_162) rfl rfl rfl kdX2_remove ⟨Nat.le_of_ble_eq_true rfl, Nat.le_of_ble_eq_true rfl⟩) (by omega) (congrFun hR.2.2.2.2.2.2.2.1 _) rfl rfl rfl rfl (Nat.le_of_ble_eq_true rfl) dX4_rescues_115 ⟨Nat.zero_le _, Nat.zero_le _⟩ rfl (fun H locs hw => ?_)
      generalize wB S 14 3 T115 = S115 at h hw
      refine lv_aload_n hx hb dX4_rescues_118 rfl (lv_at hl 1 rfl) ?_
      refine r_get (v := .ref (gA G (β + 11))) hx hb hts hinX4 hown hE hw hn 0 (by decide) (congrFun hR.1 _) rfl 5 (by decide) (hts _ (wz_in qF_X4_35)) rfl dX4_rescues_119 ?_
      refine lv_iload_n hx hb dX4_rescues_122 rfl (lv_at hl 2 rfl) ?_
      refine lv_iload hx hb dX4_rescues_123 (lv_at hl 7 rfl) ?_
      obtain ⟨T125, h125, h⟩ := cvs_some h
      refine r_callV (As := [.int x1, .int x7]) (rest := []) (st1 := []) hx hb hml hown hts hE hw hl (mc_sub 11 3 (by decide) (mX2_join l G (by show β + 11 + 3 ≤ _; omega) hR.2.2.2.2.2.2.1 h125)) (cwV 2 hts (zV gV_X4_81) rfl rfl rfl kdX2_join ⟨Nat.le_of_ble_eq_true rfl, Nat.le_of_ble_eq_true rfl⟩) (by omega) (congrFun hR.2.2.2.2.2.2.1.1 _) rfl rfl rfl rfl (Nat.le_of_ble_eq_true rfl) dX4_rescues_125 ⟨Nat.zero_le _, Nat.zero_le _⟩ rfl (fun H locs hw => ?_)
      generalize wB S115 11 3 T125 = S125 at h hw
      refine lv_aload_n hx hb dX4_rescues_128 rfl (lv_at hl 1 rfl) ?_
      refine lv_iload hx hb dX4_rescues_129 (lv_at hl 7 rfl) ?_
      refine lv_iconst (v := (nI 0)) hx hb dX4_rescues_131 (by decide) ?_
      refine lv_iload_n hx hb dX4_rescues_132 rfl (lv_at hl 2 rfl) ?_
      obtain ⟨S133, h133, h⟩ := cr1_some h
      refine r_callV (As := [.int x7, .int (nI 0), .int x1]) (rest := []) (st1 := []) hx hb hml hown hts hE hw hl (mX4_moveTo l G (by omega) hR h133) (cwV 3 hts (zV gV_X4_78) rfl rfl rfl kdX4_moveTo ⟨Nat.le_of_ble_eq_true rfl, Nat.le_of_ble_eq_true rfl⟩) (by omega) (congrFun hR.1 _) rfl rfl rfl rfl (Nat.le_of_ble_eq_true rfl) dX4_rescues_133 ⟨Nat.zero_le _, Nat.zero_le _⟩ rfl (fun H locs hw => ?_)
      refine p_iinc (w := (nI 1)) 6 (fun v136 => [(6, .int v136), (5, .int t0), (0, .ref (gA G (β + 0))), (1, .int x1), (2, .int x2), (3, .int x3), (4, .int x4), (7, .int x7)]) hx hb dX4_rescues_136 hl rfl (by decide) (by decide) h (fun _ => rfl) (fun v136 h ls hl => ?_)
      refine lv_goto (tgt := 42) hx hb dX4_rescues_139 (by decide) ?_
      exact hih42 x1 x2 x3 x4 t0 v136 S133 _ _ _ h hw (lv_sub hl [2, 3, 4, 5, 6, 1, 0] rfl)
  have k142 : ∀ (x1 : Int32) (x4 : Int32) (S : mM) (H : Heap) (locs : List Loc) (ls : Array Slot), pX4_rescues_b142  x1 x4 S = some (r, S') → mW G s (wB M β 17 S) H locs → lv_has ls 8 [(0, .ref (gA G (β + 0))), (1, .int x1), (4, .int x4)] → W p l e { frames := 2, cells := 0, slots := 0, locals := 50 } s m args below meth c H locs 0 0 (mZ below G (some (.int r)) (wB M β 17 S') args s) (F0 m 142 ls []) := by
    intro x1 x4 S H locs ls h hw hl
    unfold pX4_rescues_b142 at h
    refine lv_aload_n hx hb dX4_rescues_142 rfl (lv_at hl 0 rfl) ?_
    refine r_get (v := .ref (gA G (β + 11))) hx hb hts hinX4 hown hE hw hn 0 (by decide) (congrFun hR.1 _) rfl 5 (by decide) (hts _ (wz_in qF_X4_35)) rfl dX4_rescues_143 ?_
    refine lv_iload_n hx hb dX4_rescues_146 rfl (lv_at hl 1 rfl) ?_
    obtain ⟨v147, h147, h⟩ := cr1_some h
    refine r_callV (As := [.int x1]) (rest := []) (st1 := [.int v147]) hx hb hml hown hts hE hw hl (mc_subR 11 3 (by decide) (mX2_size l G (by show β + 11 + 3 ≤ _; omega) hR.2.2.2.2.2.2.1 h147)) (cwV 1 hts (zV gV_X4_92) rfl rfl rfl kdX2_size ⟨Nat.le_of_ble_eq_true rfl, Nat.le_of_ble_eq_true rfl⟩) (by omega) (congrFun hR.2.2.2.2.2.2.1.1 _) rfl rfl rfl rfl (Nat.le_of_ble_eq_true rfl) dX4_rescues_147 ⟨Nat.zero_le _, Nat.zero_le _⟩ rfl (fun H locs hw => ?_)
    refine lv_iload hx hb dX4_rescues_150 (lv_at hl 2 rfl) ?_
    refine bi_le (tgt := 159) hx hb dX4_rescues_152 (by decide) h (fun h => ?_) (fun h => ?_)
    · refine lv_iconst (v := (nI 0)) hx hb dX4_rescues_159 (by decide) ?_
      exact e_zw hx hb hr hlocks hw dX4_rescues_160 h
    · refine lv_iconst (v := (nI 1)) hx hb dX4_rescues_155 (by decide) ?_
      refine lv_goto (tgt := 160) hx hb dX4_rescues_156 (by decide) ?_
      exact e_zw hx hb hr hlocks hw dX4_rescues_160 h
  have k42 : ∀ (k : Nat), ∀ (x1 : Int32) (x2 : Int32) (x3 : Int32) (x4 : Int32) (x5 : Int32) (x6 : Int32) (S : mM) (H : Heap) (locs : List Loc) (ls : Array Slot), pX4_rescues_l42  k x1 x2 x3 x4 x5 x6 S = some (r, S') → mW G s (wB M β 17 S) H locs → lv_has ls 8 [(0, .ref (gA G (β + 0))), (1, .int x1), (2, .int x2), (3, .int x3), (4, .int x4), (5, .int x5), (6, .int x6)] → W p l e { frames := 2, cells := 0, slots := 0, locals := 50 } s m args below meth c H locs 0 0 (mZ below G (some (.int r)) (wB M β 17 S') args s) (F0 m 42 ls []) := by
    intro k
    induction k with
    | zero => intro x1 x2 x3 x4 x5 x6 S H locs ls h; cases h
    | succ k hih42 =>
      intro x1 x2 x3 x4 x5 x6 S H locs ls h hw hl
      obtain ⟨ih42, hk42⟩ : ∃ f, f = pX4_rescues_l42  k := ⟨_, rfl⟩
      replace h : pX4_rescues_lb42  (pX4_rescues_l42  k) x1 x2 x3 x4 x5 x6 S = some (r, S') := h
      rw [← hk42] at h hih42
      clear hk42
      unfold pX4_rescues_lb42 at h
      refine lv_iload hx hb dX4_rescues_42 (lv_at hl 6 rfl) ?_
      refine lv_iload_n hx hb dX4_rescues_44 rfl (lv_at hl 3 rfl) ?_
      refine bi_ge (tgt := 142) hx hb dX4_rescues_45 (by decide) h (fun h => ?_) (fun h => ?_)
      · exact k142  x1 x4 S _ _ _ h hw (lv_sub hl [0, 1, 4] rfl)
      · refine lv_iload hx hb dX4_rescues_48 (lv_at hl 5 rfl) ?_
        refine b_eq (tgt := 142) hx hb dX4_rescues_50 (by decide) h (fun h => ?_) (fun h => ?_)
        · exact k142  x1 x4 S _ _ _ h hw (lv_sub hl [0, 1, 4] rfl)
        · refine lv_aload_n hx hb dX4_rescues_53 rfl (lv_at hl 0 rfl) ?_
          refine r_get (v := .ref (gA G (β + 11))) hx hb hts hinX4 hown hE hw hn 0 (by decide) (congrFun hR.1 _) rfl 5 (by decide) (hts _ (wz_in qF_X4_35)) rfl dX4_rescues_54 ?_
          refine lv_iload_n hx hb dX4_rescues_57 rfl (lv_at hl 1 rfl) ?_
          obtain ⟨v58, h58, h⟩ := cr1_some h
          refine r_callV (As := [.int x1]) (rest := []) (st1 := [.int v58]) hx hb hml hown hts hE hw hl (mc_subR 11 3 (by decide) (mX2_size l G (by show β + 11 + 3 ≤ _; omega) hR.2.2.2.2.2.2.1 h58)) (cwV 1 hts (zV gV_X4_92) rfl rfl rfl kdX2_size ⟨Nat.le_of_ble_eq_true rfl, Nat.le_of_ble_eq_true rfl⟩) (by omega) (congrFun hR.2.2.2.2.2.2.1.1 _) rfl rfl rfl rfl (Nat.le_of_ble_eq_true rfl) dX4_rescues_58 ⟨Nat.zero_le _, Nat.zero_le _⟩ rfl (fun H locs hw => ?_)
          refine lv_bipush (v := (nI 8)) hx hb dX4_rescues_61 (by decide) ?_
          refine bi_ge (tgt := 142) hx hb dX4_rescues_63 (by decide) h (fun h => ?_) (fun h => ?_)
          · exact k142  x1 x4 S _ _ _ h hw (lv_sub hl [0, 1, 4] rfl)
          · refine lv_aload_n hx hb dX4_rescues_66 rfl (lv_at hl 0 rfl) ?_
            refine r_get (v := .ref (gA G (β + 14))) hx hb hts hinX4 hown hE hw hn 0 (by decide) (congrFun hR.1 _) rfl 6 (by decide) (hts _ (wz_in qF_X4_39)) rfl dX4_rescues_67 ?_
            refine lv_iload_n hx hb dX4_rescues_70 rfl (lv_at hl 2 rfl) ?_
            refine lv_iconst (v := (nI 0)) hx hb dX4_rescues_71 (by decide) ?_
            obtain ⟨v72, h72, h⟩ := cr1_some h
            refine r_callV (As := [.int x2, .int (nI 0)]) (rest := []) (st1 := [.int v72]) hx hb hml hown hts hE hw hl (mc_subR 14 3 (by decide) (mX2_get l G (by show β + 14 + 3 ≤ _; omega) hR.2.2.2.2.2.2.2 h72)) (cwV 2 hts (zV gV_X4_105) rfl rfl rfl kdX2_get ⟨Nat.le_of_ble_eq_true rfl, Nat.le_of_ble_eq_true rfl⟩) (by omega) (congrFun hR.2.2.2.2.2.2.2.1 _) rfl rfl rfl rfl (Nat.le_of_ble_eq_true rfl) dX4_rescues_72 ⟨Nat.zero_le _, Nat.zero_le _⟩ rfl (fun H locs hw => ?_)
            refine lv_istore (lv' := [(7, .int v72), (0, .ref (gA G (β + 0))), (1, .int x1), (2, .int x2), (3, .int x3), (4, .int x4), (5, .int x5), (6, .int x6)]) hx hb dX4_rescues_75 hl (by decide) rfl (fun ls hl => ?_)
            refine lv_aload_n hx hb dX4_rescues_77 rfl (lv_at hl 1 rfl) ?_
            refine lv_aload_n hx hb dX4_rescues_78 rfl (lv_at hl 1 rfl) ?_
            refine lv_iload_n hx hb dX4_rescues_79 rfl (lv_at hl 2 rfl) ?_
            obtain ⟨v80, h80, h⟩ := cr1_some h
            refine r_callV (As := [.int x1]) (rest := [.ref (gA G (β + 0))]) (st1 := [.int v80, .ref (gA G (β + 0))]) hx hb hml hown hts hE hw hl (mX4_richest l G (by omega) hR h80) (cwV 1 hts (zV gV_X4_171) rfl rfl rfl kdX4_richest ⟨Nat.le_of_ble_eq_true rfl, Nat.le_of_ble_eq_true rfl⟩) (by omega) (congrFun hR.1 _) rfl rfl rfl rfl (Nat.le_of_ble_eq_true rfl) dX4_rescues_80 ⟨Nat.zero_le _, Nat.zero_le _⟩ rfl (fun H locs hw => ?_)
            refine lv_iload hx hb dX4_rescues_83 (lv_at hl 0 rfl) ?_
            obtain ⟨S85, h85, h⟩ := cr1_some h
            refine r_callV (As := [.int v80, .int v72]) (rest := []) (st1 := []) hx hb hml hown hts hE hw hl (mX4_giveFuel l G (by omega) hR h85) (cwV 2 hts (zV gV_X4_174) rfl rfl rfl kdX4_giveFuel ⟨Nat.le_of_ble_eq_true rfl, Nat.le_of_ble_eq_true rfl⟩) (by omega) (congrFun hR.1 _) rfl rfl rfl rfl (Nat.le_of_ble_eq_true rfl) dX4_rescues_85 ⟨Nat.zero_le _, Nat.zero_le _⟩ rfl (fun H locs hw => ?_)
            refine lv_aload_n hx hb dX4_rescues_88 rfl (lv_at hl 1 rfl) ?_
            refine lv_iload hx hb dX4_rescues_89 (lv_at hl 0 rfl) ?_
            obtain ⟨v91, h91, h⟩ := cr1_some h
            refine r_callV (As := [.int v72]) (rest := []) (st1 := [.int v91]) hx hb hml hown hts hE hw hl (mX4_hasTooLittle l G (by omega) hR h91) (cwV 1 hts (zV gV_X4_159) rfl rfl rfl kdX4_hasTooLittle ⟨Nat.le_of_ble_eq_true rfl, Nat.le_of_ble_eq_true rfl⟩) (by omega) (congrFun hR.1 _) rfl rfl rfl rfl (Nat.le_of_ble_eq_true rfl) dX4_rescues_91 ⟨Nat.zero_le _, Nat.zero_le _⟩ rfl (fun H locs hw => ?_)
            refine b_ne (tgt := 101) hx hb dX4_rescues_94 (by decide) h (fun h => ?_) (fun h => ?_)
            · refine lv_iconst (v := (nI 0)) hx hb dX4_rescues_101 (by decide) ?_
              exact k102 ih42 hih42 x1 x2 x3 x4 x6 v72 (nI 0) S85 _ _ _ h hw (lv_sub hl [1, 2, 3, 4, 5, 7, 0] rfl)
            · refine lv_iconst (v := (nI 1)) hx hb dX4_rescues_97 (by decide) ?_
              refine lv_goto (tgt := 102) hx hb dX4_rescues_98 (by decide) ?_
              exact k102 ih42 hih42 x1 x2 x3 x4 x6 v72 (nI 1) S85 _ _ _ h hw (lv_sub hl [1, 2, 3, 4, 5, 7, 0] rfl)
  unfold pX4_rescues at h
  refine lv_aload_n hx hb dX4_rescues_0 rfl (lv_at hl 0 rfl) ?_
  refine r_get (v := .ref (gA G (β + 3))) hx hb hts hinX4 hown hE hw hn 0 (by decide) (congrFun hR.1 _) rfl 1 (by decide) (hts _ (wz_in qF_X4_20)) rfl dX4_rescues_1 ?_
  refine lv_aload_n hx hb dX4_rescues_4 rfl (lv_at hl 0 rfl) ?_
  refine r_get (v := .ref (gA G (β + 7))) hx hb hts hinX4 hown hE hw hn 0 (by decide) (congrFun hR.1 _) rfl 3 (by decide) (hts _ (wz_in qF_X4_26)) rfl dX4_rescues_5 ?_
  refine lv_iload_n hx hb dX4_rescues_8 rfl (lv_at hl 1 rfl) ?_
  refine lv_iconst (v := (nI 0)) hx hb dX4_rescues_9 (by decide) ?_
  obtain ⟨v10, h10, h⟩ := cr1_some h
  refine r_callV (As := [.int a1, .int (nI 0)]) (rest := [.ref (gA G (β + 3))]) (st1 := [.int v10, .ref (gA G (β + 3))]) hx hb hml hown hts hE hw hl (mc_subR 7 2 (by decide) (mX5_get l G (by show β + 7 + 2 ≤ _; omega) hR.2.2.2.2.1 h10)) (cwV 2 hts (zV gV_X4_96) rfl rfl rfl kdX5_get ⟨Nat.le_of_ble_eq_true rfl, Nat.le_of_ble_eq_true rfl⟩) (by omega) (congrFun hR.2.2.2.2.1.1 _) rfl rfl rfl rfl (Nat.le_of_ble_eq_true rfl) dX4_rescues_10 ⟨Nat.zero_le _, Nat.zero_le _⟩ rfl (fun H locs hw => ?_)
  obtain ⟨v13, h13, h⟩ := cr1_some h
  refine r_callV (As := [.int v10]) (rest := []) (st1 := [.int v13]) hx hb hml hown hts hE hw hl (mc_subR 3 2 (by decide) (mX5_rowAt l G (by show β + 3 + 2 ≤ _; omega) hR.2.2.1 h13)) (cwV 1 hts (zV gV_X4_153) rfl rfl rfl kdX5_rowAt ⟨Nat.le_of_ble_eq_true rfl, Nat.le_of_ble_eq_true rfl⟩) (by omega) (congrFun hR.2.2.1.1 _) rfl rfl rfl rfl (Nat.le_of_ble_eq_true rfl) dX4_rescues_13 ⟨Nat.zero_le _, Nat.zero_le _⟩ rfl (fun H locs hw => ?_)
  refine lv_istore_n (lv' := [(2, .int v13), (0, .ref (gA G (β + 0))), (1, .int a1)]) hx hb dX4_rescues_16 rfl hl (by decide) rfl (fun ls hl => ?_)
  refine lv_aload_n hx hb dX4_rescues_17 rfl (lv_at hl 1 rfl) ?_
  refine r_get (v := .ref (gA G (β + 14))) hx hb hts hinX4 hown hE hw hn 0 (by decide) (congrFun hR.1 _) rfl 6 (by decide) (hts _ (wz_in qF_X4_39)) rfl dX4_rescues_18 ?_
  refine lv_iload_n hx hb dX4_rescues_21 rfl (lv_at hl 0 rfl) ?_
  obtain ⟨v22, h22, h⟩ := cr1_some h
  refine r_callV (As := [.int v13]) (rest := []) (st1 := [.int v22]) hx hb hml hown hts hE hw hl (mc_subR 14 3 (by decide) (mX2_size l G (by show β + 14 + 3 ≤ _; omega) hR.2.2.2.2.2.2.2 h22)) (cwV 1 hts (zV gV_X4_92) rfl rfl rfl kdX2_size ⟨Nat.le_of_ble_eq_true rfl, Nat.le_of_ble_eq_true rfl⟩) (by omega) (congrFun hR.2.2.2.2.2.2.2.1 _) rfl rfl rfl rfl (Nat.le_of_ble_eq_true rfl) dX4_rescues_22 ⟨Nat.zero_le _, Nat.zero_le _⟩ rfl (fun H locs hw => ?_)
  refine lv_istore_n (lv' := [(3, .int v22), (2, .int v13), (0, .ref (gA G (β + 0))), (1, .int a1)]) hx hb dX4_rescues_25 rfl hl (by decide) rfl (fun ls hl => ?_)
  refine lv_aload_n hx hb dX4_rescues_26 rfl (lv_at hl 2 rfl) ?_
  refine r_get (v := .ref (gA G (β + 11))) hx hb hts hinX4 hown hE hw hn 0 (by decide) (congrFun hR.1 _) rfl 5 (by decide) (hts _ (wz_in qF_X4_35)) rfl dX4_rescues_27 ?_
  refine lv_iload_n hx hb dX4_rescues_30 rfl (lv_at hl 3 rfl) ?_
  obtain ⟨v31, h31, h⟩ := cr1_some h
  refine r_callV (As := [.int a1]) (rest := []) (st1 := [.int v31]) hx hb hml hown hts hE hw hl (mc_subR 11 3 (by decide) (mX2_size l G (by show β + 11 + 3 ≤ _; omega) hR.2.2.2.2.2.2.1 h31)) (cwV 1 hts (zV gV_X4_92) rfl rfl rfl kdX2_size ⟨Nat.le_of_ble_eq_true rfl, Nat.le_of_ble_eq_true rfl⟩) (by omega) (congrFun hR.2.2.2.2.2.2.1.1 _) rfl rfl rfl rfl (Nat.le_of_ble_eq_true rfl) dX4_rescues_31 ⟨Nat.zero_le _, Nat.zero_le _⟩ rfl (fun H locs hw => ?_)
  refine lv_istore (lv' := [(4, .int v31), (3, .int v22), (2, .int v13), (0, .ref (gA G (β + 0))), (1, .int a1)]) hx hb dX4_rescues_34 hl (by decide) rfl (fun ls hl => ?_)
  refine lv_iconst (v := (nI 1)) hx hb dX4_rescues_36 (by decide) ?_
  refine lv_istore (lv' := [(5, .int (nI 1)), (4, .int v31), (3, .int v22), (2, .int v13), (0, .ref (gA G (β + 0))), (1, .int a1)]) hx hb dX4_rescues_37 hl (by decide) rfl (fun ls hl => ?_)
  refine lv_iconst (v := (nI 0)) hx hb dX4_rescues_39 (by decide) ?_
  refine lv_istore (lv' := [(6, .int (nI 0)), (5, .int (nI 1)), (4, .int v31), (3, .int v22), (2, .int v13), (0, .ref (gA G (β + 0))), (1, .int a1)]) hx hb dX4_rescues_40 hl (by decide) rfl (fun ls hl => ?_)
  exact k42 fuel a1 v13 v22 v31 (nI 1) (nI 0) S _ _ _ h hw (lv_sub hl [5, 6, 4, 3, 2, 1, 0] rfl)

set_option maxHeartbeats 4000000 in
set_option maxRecDepth 100000 in
theorem mX4_stands (l : Launch) (G : mG) {β : Nat} {M S S' : mM} {a1 : Int32} {r : Int32} (hn : β + 17 ≤ gN G) (hR : isSt G β) (h : pX4_stands a1 S = some (r, S')) : MC l G yX4_stands zzX4_stands 2 45 [.ref (gA G (β + 0)), .int a1] (wB M β 17 S) (wB M β 17 S') (some (.int r)) := by
  refine mc_of (cc := cX4_stands) (maxL := 4) (ret := (some .boolean)) (by decide) rfl (Nat.le_of_ble_eq_true rfl) ?_
  intro p e s m args below meth c H ls hx hb hr hts hown hml hlocks hE hw hl
  have hl : lv_has ls 4 [(0, .ref (gA G (β + 0))), (1, .int a1)] := hl
  have hinX4 : ∀ w ∈ wsX40, w ∈ zzX4_stands := fun w h9 => wz_in (zinX4 w h9)
  have k19 : ∀ (k : Nat), ∀ (x1 : Int32) (x2 : Int32) (x3 : Int32) (S : mM) (H : Heap) (locs : List Loc) (ls : Array Slot), pX4_stands_l19  k x1 x2 x3 S = some (r, S') → mW G s (wB M β 17 S) H locs → lv_has ls 4 [(0, .ref (gA G (β + 0))), (1, .int x1), (2, .int x2), (3, .int x3)] → W p l e { frames := 2, cells := 0, slots := 0, locals := 45 } s m args below meth c H locs 0 0 (mZ below G (some (.int r)) (wB M β 17 S') args s) (F0 m 19 ls []) := by
    intro k
    induction k with
    | zero => intro x1 x2 x3 S H locs ls h; cases h
    | succ k hih19 =>
      intro x1 x2 x3 S H locs ls h hw hl
      obtain ⟨ih19, hk19⟩ : ∃ f, f = pX4_stands_l19  k := ⟨_, rfl⟩
      replace h : pX4_stands_lb19  (pX4_stands_l19  k) x1 x2 x3 S = some (r, S') := h
      rw [← hk19] at h hih19
      clear hk19
      unfold pX4_stands_lb19 at h
      refine lv_iload_n hx hb dX4_stands_19 rfl (lv_at hl 3 rfl) ?_
      refine lv_aload_n hx hb dX4_stands_20 rfl (lv_at hl 0 rfl) ?_
      refine r_get (v := .ref (gA G (β + 11))) hx hb hts hinX4 hown hE hw hn 0 (by decide) (congrFun hR.1 _) rfl 5 (by decide) (hts _ (wz_in qF_X4_35)) rfl dX4_stands_21 ?_
      refine lv_iload_n hx hb dX4_stands_24 rfl (lv_at hl 1 rfl) ?_
      obtain ⟨v25, h25, h⟩ := cr1_some h
      refine r_callV (As := [.int x1]) (rest := [.int x3]) (st1 := [.int v25, .int x3]) hx hb hml hown hts hE hw hl (mc_subR 11 3 (by decide) (mX2_size l G (by show β + 11 + 3 ≤ _; omega) hR.2.2.2.2.2.2.1 h25)) (cwV 1 hts (zV gV_X4_92) rfl rfl rfl kdX2_size ⟨Nat.le_of_ble_eq_true rfl, Nat.le_of_ble_eq_true rfl⟩) (by omega) (congrFun hR.2.2.2.2.2.2.1.1 _) rfl rfl rfl rfl (Nat.le_of_ble_eq_true rfl) dX4_stands_25 ⟨Nat.zero_le _, Nat.zero_le _⟩ rfl (fun H locs hw => ?_)
      refine bi_ge (tgt := 63) hx hb dX4_stands_28 (by decide) h (fun h => ?_) (fun h => ?_)
      · refine lv_iload_n hx hb dX4_stands_63 rfl (lv_at hl 2 rfl) ?_
        refine b_eq (tgt := 77) hx hb dX4_stands_64 (by decide) h (fun h => ?_) (fun h => ?_)
        · refine lv_iload_n hx hb dX4_stands_77 rfl (lv_at hl 2 rfl) ?_
          exact e_zw hx hb hr hlocks hw dX4_stands_78 h
        · refine lv_aload_n hx hb dX4_stands_67 rfl (lv_at hl 0 rfl) ?_
          refine r_get (v := .ref (gA G (β + 7))) hx hb hts hinX4 hown hE hw hn 0 (by decide) (congrFun hR.1 _) rfl 3 (by decide) (hts _ (wz_in qF_X4_26)) rfl dX4_stands_68 ?_
          refine lv_iload_n hx hb dX4_stands_71 rfl (lv_at hl 1 rfl) ?_
          refine lv_iconst (v := (nI 3)) hx hb dX4_stands_72 (by decide) ?_
          refine lv_iconst (v := (nI 1)) hx hb dX4_stands_73 (by decide) ?_
          obtain ⟨T74, h74, h⟩ := cvs_some h
          refine r_callV (As := [.int x1, .int (nI 3), .int (nI 1)]) (rest := []) (st1 := []) hx hb hml hown hts hE hw hl (mc_sub 7 2 (by decide) (mX5_raise l G (by show β + 7 + 2 ≤ _; omega) hR.2.2.2.2.1 h74)) (cwV 3 hts (zV gV_X4_126) rfl rfl rfl kdX5_raise ⟨Nat.le_of_ble_eq_true rfl, Nat.le_of_ble_eq_true rfl⟩) (by omega) (congrFun hR.2.2.2.2.1.1 _) rfl rfl rfl rfl (Nat.le_of_ble_eq_true rfl) dX4_stands_74 ⟨Nat.zero_le _, Nat.zero_le _⟩ rfl (fun H locs hw => ?_)
          generalize wB S 7 2 T74 = S74 at h hw
          refine lv_iload_n hx hb dX4_stands_77 rfl (lv_at hl 2 rfl) ?_
          exact e_zw hx hb hr hlocks hw dX4_stands_78 h
      · refine lv_iload_n hx hb dX4_stands_31 rfl (lv_at hl 2 rfl) ?_
        refine b_ne (tgt := 51) hx hb dX4_stands_32 (by decide) h (fun h => ?_) (fun h => ?_)
        · refine lv_iconst (v := (nI 1)) hx hb dX4_stands_51 (by decide) ?_
          refine lv_goto (tgt := 56) hx hb dX4_stands_52 (by decide) ?_
          refine lv_istore_n (lv' := [(2, .int (nI 1)), (0, .ref (gA G (β + 0))), (1, .int x1), (3, .int x3)]) hx hb dX4_stands_56 rfl hl (by decide) rfl (fun ls hl => ?_)
          refine p_iinc (w := (nI 1)) 3 (fun v57 => [(3, .int v57), (2, .int (nI 1)), (0, .ref (gA G (β + 0))), (1, .int x1)]) hx hb dX4_stands_57 hl rfl (by decide) (by decide) h (fun _ => rfl) (fun v57 h ls hl => ?_)
          refine lv_goto (tgt := 19) hx hb dX4_stands_60 (by decide) ?_
          exact hih19 x1 (nI 1) v57 S _ _ _ h hw (lv_sub hl [2, 3, 1, 0] rfl)
        · refine lv_aload_n hx hb dX4_stands_35 rfl (lv_at hl 0 rfl) ?_
          refine lv_aload_n hx hb dX4_stands_36 rfl (lv_at hl 0 rfl) ?_
          refine r_get (v := .ref (gA G (β + 11))) hx hb hts hinX4 hown hE hw hn 0 (by decide) (congrFun hR.1 _) rfl 5 (by decide) (hts _ (wz_in qF_X4_35)) rfl dX4_stands_37 ?_
          refine lv_iload_n hx hb dX4_stands_40 rfl (lv_at hl 1 rfl) ?_
          refine lv_iload_n hx hb dX4_stands_41 rfl (lv_at hl 3 rfl) ?_
          obtain ⟨v42, h42, h⟩ := cr1_some h
          refine r_callV (As := [.int x1, .int x3]) (rest := [.ref (gA G (β + 0))]) (st1 := [.int v42, .ref (gA G (β + 0))]) hx hb hml hown hts hE hw hl (mc_subR 11 3 (by decide) (mX2_get l G (by show β + 11 + 3 ≤ _; omega) hR.2.2.2.2.2.2.1 h42)) (cwV 2 hts (zV gV_X4_105) rfl rfl rfl kdX2_get ⟨Nat.le_of_ble_eq_true rfl, Nat.le_of_ble_eq_true rfl⟩) (by omega) (congrFun hR.2.2.2.2.2.2.1.1 _) rfl rfl rfl rfl (Nat.le_of_ble_eq_true rfl) dX4_stands_42 ⟨Nat.zero_le _, Nat.zero_le _⟩ rfl (fun H locs hw => ?_)
          obtain ⟨v45, h45, h⟩ := cr1_some h
          refine r_callV (As := [.int v42]) (rest := []) (st1 := [.int v45]) hx hb hml hown hts hE hw hl (mX4_hasTooLittle l G (by omega) hR h45) (cwV 1 hts (zV gV_X4_159) rfl rfl rfl kdX4_hasTooLittle ⟨Nat.le_of_ble_eq_true rfl, Nat.le_of_ble_eq_true rfl⟩) (by omega) (congrFun hR.1 _) rfl rfl rfl rfl (Nat.le_of_ble_eq_true rfl) dX4_stands_45 ⟨Nat.zero_le _, Nat.zero_le _⟩ rfl (fun H locs hw => ?_)
          refine b_eq (tgt := 55) hx hb dX4_stands_48 (by decide) h (fun h => ?_) (fun h => ?_)
          · refine lv_iconst (v := (nI 0)) hx hb dX4_stands_55 (by decide) ?_
            refine lv_istore_n (lv' := [(2, .int (nI 0)), (0, .ref (gA G (β + 0))), (1, .int x1), (3, .int x3)]) hx hb dX4_stands_56 rfl hl (by decide) rfl (fun ls hl => ?_)
            refine p_iinc (w := (nI 1)) 3 (fun v57 => [(3, .int v57), (2, .int (nI 0)), (0, .ref (gA G (β + 0))), (1, .int x1)]) hx hb dX4_stands_57 hl rfl (by decide) (by decide) h (fun _ => rfl) (fun v57 h ls hl => ?_)
            refine lv_goto (tgt := 19) hx hb dX4_stands_60 (by decide) ?_
            exact hih19 x1 (nI 0) v57 S _ _ _ h hw (lv_sub hl [2, 3, 1, 0] rfl)
          · refine lv_iconst (v := (nI 1)) hx hb dX4_stands_51 (by decide) ?_
            refine lv_goto (tgt := 56) hx hb dX4_stands_52 (by decide) ?_
            refine lv_istore_n (lv' := [(2, .int (nI 1)), (0, .ref (gA G (β + 0))), (1, .int x1), (3, .int x3)]) hx hb dX4_stands_56 rfl hl (by decide) rfl (fun ls hl => ?_)
            refine p_iinc (w := (nI 1)) 3 (fun v57 => [(3, .int v57), (2, .int (nI 1)), (0, .ref (gA G (β + 0))), (1, .int x1)]) hx hb dX4_stands_57 hl rfl (by decide) (by decide) h (fun _ => rfl) (fun v57 h ls hl => ?_)
            refine lv_goto (tgt := 19) hx hb dX4_stands_60 (by decide) ?_
            exact hih19 x1 (nI 1) v57 S _ _ _ h hw (lv_sub hl [2, 3, 1, 0] rfl)
  unfold pX4_stands at h
  refine lv_aload_n hx hb dX4_stands_0 rfl (lv_at hl 0 rfl) ?_
  refine r_get (v := .ref (gA G (β + 11))) hx hb hts hinX4 hown hE hw hn 0 (by decide) (congrFun hR.1 _) rfl 5 (by decide) (hts _ (wz_in qF_X4_35)) rfl dX4_stands_1 ?_
  refine lv_iload_n hx hb dX4_stands_4 rfl (lv_at hl 1 rfl) ?_
  obtain ⟨v5, h5, h⟩ := cr1_some h
  refine r_callV (As := [.int a1]) (rest := []) (st1 := [.int v5]) hx hb hml hown hts hE hw hl (mc_subR 11 3 (by decide) (mX2_size l G (by show β + 11 + 3 ≤ _; omega) hR.2.2.2.2.2.2.1 h5)) (cwV 1 hts (zV gV_X4_92) rfl rfl rfl kdX2_size ⟨Nat.le_of_ble_eq_true rfl, Nat.le_of_ble_eq_true rfl⟩) (by omega) (congrFun hR.2.2.2.2.2.2.1.1 _) rfl rfl rfl rfl (Nat.le_of_ble_eq_true rfl) dX4_stands_5 ⟨Nat.zero_le _, Nat.zero_le _⟩ rfl (fun H locs hw => ?_)
  refine b_ne (tgt := 15) hx hb dX4_stands_8 (by decide) h (fun h => ?_) (fun h => ?_)
  · refine lv_iconst (v := (nI 0)) hx hb dX4_stands_15 (by decide) ?_
    refine lv_istore_n (lv' := [(2, .int (nI 0)), (0, .ref (gA G (β + 0))), (1, .int a1)]) hx hb dX4_stands_16 rfl hl (by decide) rfl (fun ls hl => ?_)
    refine lv_iconst (v := (nI 0)) hx hb dX4_stands_17 (by decide) ?_
    refine lv_istore_n (lv' := [(3, .int (nI 0)), (2, .int (nI 0)), (0, .ref (gA G (β + 0))), (1, .int a1)]) hx hb dX4_stands_18 rfl hl (by decide) rfl (fun ls hl => ?_)
    exact k19 fuel a1 (nI 0) (nI 0) S _ _ _ h hw (lv_sub hl [2, 3, 1, 0] rfl)
  · refine lv_iconst (v := (nI 1)) hx hb dX4_stands_11 (by decide) ?_
    refine lv_goto (tgt := 16) hx hb dX4_stands_12 (by decide) ?_
    refine lv_istore_n (lv' := [(2, .int (nI 1)), (0, .ref (gA G (β + 0))), (1, .int a1)]) hx hb dX4_stands_16 rfl hl (by decide) rfl (fun ls hl => ?_)
    refine lv_iconst (v := (nI 0)) hx hb dX4_stands_17 (by decide) ?_
    refine lv_istore_n (lv' := [(3, .int (nI 0)), (2, .int (nI 1)), (0, .ref (gA G (β + 0))), (1, .int a1)]) hx hb dX4_stands_18 rfl hl (by decide) rfl (fun ls hl => ?_)
    exact k19 fuel a1 (nI 1) (nI 0) S _ _ _ h hw (lv_sub hl [2, 3, 1, 0] rfl)

set_option maxHeartbeats 4000000 in
set_option maxRecDepth 100000 in
theorem mX4_waitsAtGate (l : Launch) (G : mG) {β : Nat} {M S S' : mM} {a1 : Int32} {r : Int32} (hn : β + 17 ≤ gN G) (hR : isSt G β) (h : pX4_waitsAtGate a1 S = some (r, S')) : MC l G yX4_waitsAtGate zzX4_waitsAtGate 2 47 [.ref (gA G (β + 0)), .int a1] (wB M β 17 S) (wB M β 17 S') (some (.int r)) := by
  refine mc_of (cc := cX4_waitsAtGate) (maxL := 3) (ret := (some .boolean)) (by decide) rfl (Nat.le_of_ble_eq_true rfl) ?_
  intro p e s m args below meth c H ls hx hb hr hts hown hml hlocks hE hw hl
  have hl : lv_has ls 3 [(0, .ref (gA G (β + 0))), (1, .int a1)] := hl
  have hinX4 : ∀ w ∈ wsX40, w ∈ zzX4_waitsAtGate := fun w h9 => wz_in (zinX4 w h9)
  unfold pX4_waitsAtGate at h
  refine lv_aload_n hx hb dX4_waitsAtGate_0 rfl (lv_at hl 0 rfl) ?_
  refine r_get (v := .ref (gA G (β + 1))) hx hb hts hinX4 hown hE hw hn 0 (by decide) (congrFun hR.1 _) rfl 0 (by decide) (hts _ (wz_in qF_X4_14)) rfl dX4_waitsAtGate_1 ?_
  refine lv_aload_n hx hb dX4_waitsAtGate_4 rfl (lv_at hl 0 rfl) ?_
  refine r_get (v := .ref (gA G (β + 7))) hx hb hts hinX4 hown hE hw hn 0 (by decide) (congrFun hR.1 _) rfl 3 (by decide) (hts _ (wz_in qF_X4_26)) rfl dX4_waitsAtGate_5 ?_
  refine lv_iload_n hx hb dX4_waitsAtGate_8 rfl (lv_at hl 1 rfl) ?_
  refine lv_iconst (v := (nI 0)) hx hb dX4_waitsAtGate_9 (by decide) ?_
  obtain ⟨v10, h10, h⟩ := cr1_some h
  refine r_callV (As := [.int a1, .int (nI 0)]) (rest := [.ref (gA G (β + 1))]) (st1 := [.int v10, .ref (gA G (β + 1))]) hx hb hml hown hts hE hw hl (mc_subR 7 2 (by decide) (mX5_get l G (by show β + 7 + 2 ≤ _; omega) hR.2.2.2.2.1 h10)) (cwV 2 hts (zV gV_X4_96) rfl rfl rfl kdX5_get ⟨Nat.le_of_ble_eq_true rfl, Nat.le_of_ble_eq_true rfl⟩) (by omega) (congrFun hR.2.2.2.2.1.1 _) rfl rfl rfl rfl (Nat.le_of_ble_eq_true rfl) dX4_waitsAtGate_10 ⟨Nat.zero_le _, Nat.zero_le _⟩ rfl (fun H locs hw => ?_)
  refine lv_iconst (v := (nI 1)) hx hb dX4_waitsAtGate_13 (by decide) ?_
  refine lv_iadd hx hb dX4_waitsAtGate_14 ?_
  obtain ⟨v15, h15, h⟩ := cr1_some h
  refine r_callV (As := [.int (v10 + (nI 1))]) (rest := []) (st1 := [.int v15]) hx hb hml hown hts hE hw hl (mc_subR 1 2 (by decide) (mX5_rowAt l G (by show β + 1 + 2 ≤ _; omega) hR.2.1 h15)) (cwV 1 hts (zV gV_X4_153) rfl rfl rfl kdX5_rowAt ⟨Nat.le_of_ble_eq_true rfl, Nat.le_of_ble_eq_true rfl⟩) (by omega) (congrFun hR.2.1.1 _) rfl rfl rfl rfl (Nat.le_of_ble_eq_true rfl) dX4_waitsAtGate_15 ⟨Nat.zero_le _, Nat.zero_le _⟩ rfl (fun H locs hw => ?_)
  refine lv_istore_n (lv' := [(2, .int v15), (0, .ref (gA G (β + 0))), (1, .int a1)]) hx hb dX4_waitsAtGate_18 rfl hl (by decide) rfl (fun ls hl => ?_)
  refine lv_aload_n hx hb dX4_waitsAtGate_19 rfl (lv_at hl 1 rfl) ?_
  refine lv_iload_n hx hb dX4_waitsAtGate_20 rfl (lv_at hl 0 rfl) ?_
  obtain ⟨v21, h21, h⟩ := cr1_some h
  refine r_callV (As := [.int v15]) (rest := []) (st1 := [.int v21]) hx hb hml hown hts hE hw hl (mX4_closedFor l G (by omega) hR h21) (cwV 1 hts (zV gV_X4_156) rfl rfl rfl kdX4_closedFor ⟨Nat.le_of_ble_eq_true rfl, Nat.le_of_ble_eq_true rfl⟩) (by omega) (congrFun hR.1 _) rfl rfl rfl rfl (Nat.le_of_ble_eq_true rfl) dX4_waitsAtGate_21 ⟨Nat.zero_le _, Nat.zero_le _⟩ rfl (fun H locs hw => ?_)
  refine b_ne (tgt := 29) hx hb dX4_waitsAtGate_24 (by decide) h (fun h => ?_) (fun h => ?_)
  · refine lv_aload_n hx hb dX4_waitsAtGate_29 rfl (lv_at hl 1 rfl) ?_
    refine r_get (v := .ref (gA G (β + 7))) hx hb hts hinX4 hown hE hw hn 0 (by decide) (congrFun hR.1 _) rfl 3 (by decide) (hts _ (wz_in qF_X4_26)) rfl dX4_waitsAtGate_30 ?_
    refine lv_iload_n hx hb dX4_waitsAtGate_33 rfl (lv_at hl 2 rfl) ?_
    refine lv_iconst (v := (nI 2)) hx hb dX4_waitsAtGate_34 (by decide) ?_
    refine lv_iconst (v := (nI 1)) hx hb dX4_waitsAtGate_35 (by decide) ?_
    obtain ⟨T36, h36, h⟩ := cvs_some h
    refine r_callV (As := [.int a1, .int (nI 2), .int (nI 1)]) (rest := []) (st1 := []) hx hb hml hown hts hE hw hl (mc_sub 7 2 (by decide) (mX5_raise l G (by show β + 7 + 2 ≤ _; omega) hR.2.2.2.2.1 h36)) (cwV 3 hts (zV gV_X4_126) rfl rfl rfl kdX5_raise ⟨Nat.le_of_ble_eq_true rfl, Nat.le_of_ble_eq_true rfl⟩) (by omega) (congrFun hR.2.2.2.2.1.1 _) rfl rfl rfl rfl (Nat.le_of_ble_eq_true rfl) dX4_waitsAtGate_36 ⟨Nat.zero_le _, Nat.zero_le _⟩ rfl (fun H locs hw => ?_)
    generalize wB S 7 2 T36 = S36 at h hw
    refine lv_aload_n hx hb dX4_waitsAtGate_39 rfl (lv_at hl 1 rfl) ?_
    refine lv_iconst (v := (nI 1)) hx hb dX4_waitsAtGate_40 (by decide) ?_
    refine p_putz hx hb hts hinX4 tyX4 tyX4_ok nmX4 hown hE hw hn 0 (by decide) (congrFun hR.1 _) rfl 9 (by decide) (hts _ (wz_in qF_X4_66)) rfl (by decide +kernel) (Nat.le_of_ble_eq_true rfl) (congrFun hR.1 _) dX4_waitsAtGate_41 h (fun S41 h H locs hw => ?_)
    refine lv_iconst (v := (nI 1)) hx hb dX4_waitsAtGate_44 (by decide) ?_
    exact e_zw hx hb hr hlocks hw dX4_waitsAtGate_45 h
  · refine lv_iconst (v := (nI 0)) hx hb dX4_waitsAtGate_27 (by decide) ?_
    exact e_zw hx hb hr hlocks hw dX4_waitsAtGate_28 h

set_option maxHeartbeats 4000000 in
set_option maxRecDepth 100000 in
theorem mX4_drive (l : Launch) (G : mG) {β : Nat} {M S S' : mM} {a1 : Int32} (hn : β + 17 ≤ gN G) (hR : isSt G β) (h : pX4_drive a1 S = some S') : MC l G yX4_drive zzX4_drive 3 77 [.ref (gA G (β + 0)), .int a1] (wB M β 17 S) (wB M β 17 S') none := by
  refine mc_of (cc := cX4_drive) (maxL := 4) (ret := none) (by decide) rfl (Nat.le_of_ble_eq_true rfl) ?_
  intro p e s m args below meth c H ls hx hb hr hts hown hml hlocks hE hw hl
  have hl : lv_has ls 4 [(0, .ref (gA G (β + 0))), (1, .int a1)] := hl
  have hinX4 : ∀ w ∈ wsX40, w ∈ zzX4_drive := fun w h9 => wz_in (zinX4 w h9)
  have k41 : ∀ (k : Nat), ∀ (x1 : Int32) (x2 : Int32) (x3 : Int32) (S : mM) (H : Heap) (locs : List Loc) (ls : Array Slot), pX4_drive_l41  k x1 x2 x3 S = some S' → mW G s (wB M β 17 S) H locs → lv_has ls 4 [(0, .ref (gA G (β + 0))), (1, .int x1), (2, .int x2), (3, .int x3)] → W p l e { frames := 3, cells := 0, slots := 0, locals := 77 } s m args below meth c H locs 0 0 (mZ below G none (wB M β 17 S') args s) (F0 m 41 ls []) := by
    intro k
    induction k with
    | zero => intro x1 x2 x3 S H locs ls h; cases h
    | succ k hih41 =>
      intro x1 x2 x3 S H locs ls h hw hl
      obtain ⟨ih41, hk41⟩ : ∃ f, f = pX4_drive_l41  k := ⟨_, rfl⟩
      replace h : pX4_drive_lb41  (pX4_drive_l41  k) x1 x2 x3 S = some S' := h
      rw [← hk41] at h hih41
      clear hk41
      unfold pX4_drive_lb41 at h
      refine lv_iload_n hx hb dX4_drive_41 rfl (lv_at hl 3 rfl) ?_
      refine lv_iload_n hx hb dX4_drive_42 rfl (lv_at hl 2 rfl) ?_
      refine bi_ge (tgt := 100) hx hb dX4_drive_43 (by decide) h (fun h => ?_) (fun h => ?_)
      · exact e_vw hx hb hr hlocks hw dX4_drive_100 h
      · refine lv_aload_n hx hb dX4_drive_46 rfl (lv_at hl 0 rfl) ?_
        refine lv_iload_n hx hb dX4_drive_47 rfl (lv_at hl 1 rfl) ?_
        obtain ⟨v48, h48, h⟩ := cr1_some h
        refine r_callV (As := [.int x1]) (rest := []) (st1 := [.int v48]) hx hb hml hown hts hE hw hl (mX4_isAtEnd l G (by omega) hR h48) (cwV 1 hts (zV gV_X4_119) rfl rfl rfl kdX4_isAtEnd ⟨Nat.le_of_ble_eq_true rfl, Nat.le_of_ble_eq_true rfl⟩) (by omega) (congrFun hR.1 _) rfl rfl rfl rfl (Nat.le_of_ble_eq_true rfl) dX4_drive_48 ⟨Nat.zero_le _, Nat.zero_le _⟩ rfl (fun H locs hw => ?_)
        refine b_ne (tgt := 100) hx hb dX4_drive_51 (by decide) h (fun h => ?_) (fun h => ?_)
        · exact e_vw hx hb hr hlocks hw dX4_drive_100 h
        · refine lv_aload_n hx hb dX4_drive_54 rfl (lv_at hl 0 rfl) ?_
          refine lv_iload_n hx hb dX4_drive_55 rfl (lv_at hl 1 rfl) ?_
          obtain ⟨v56, S56, h56, h⟩ := cw2_some h
          refine r_callV (As := [.int x1]) (rest := []) (st1 := [.int v56]) hx hb hml hown hts hE hw hl (mX4_waitsAtGate l G (by omega) hR h56) (cwV 1 hts (zV gV_X4_135) rfl rfl rfl kdX4_waitsAtGate ⟨Nat.le_of_ble_eq_true rfl, Nat.le_of_ble_eq_true rfl⟩) (by omega) (congrFun hR.1 _) rfl rfl rfl rfl (Nat.le_of_ble_eq_true rfl) dX4_drive_56 ⟨Nat.zero_le _, Nat.zero_le _⟩ rfl (fun H locs hw => ?_)
          refine b_ne (tgt := 100) hx hb dX4_drive_59 (by decide) h (fun h => ?_) (fun h => ?_)
          · exact e_vw hx hb hr hlocks hw dX4_drive_100 h
          · refine lv_aload_n hx hb dX4_drive_62 rfl (lv_at hl 0 rfl) ?_
            refine lv_iload_n hx hb dX4_drive_63 rfl (lv_at hl 1 rfl) ?_
            obtain ⟨S64, h64, h⟩ := cr1_some h
            refine r_callV (As := [.int x1]) (rest := []) (st1 := []) hx hb hml hown hts hE hw hl (mX4_leaveStragglers l G (by omega) hR h64) (cwV 1 hts (zV gV_X4_138) rfl rfl rfl kdX4_leaveStragglers ⟨Nat.le_of_ble_eq_true rfl, Nat.le_of_ble_eq_true rfl⟩) (by omega) (congrFun hR.1 _) rfl rfl rfl rfl (Nat.le_of_ble_eq_true rfl) dX4_drive_64 ⟨Nat.zero_le _, Nat.zero_le _⟩ rfl (fun H locs hw => ?_)
            refine lv_aload_n hx hb dX4_drive_67 rfl (lv_at hl 0 rfl) ?_
            refine lv_iload_n hx hb dX4_drive_68 rfl (lv_at hl 1 rfl) ?_
            obtain ⟨v69, S69, h69, h⟩ := cw2_some h
            refine r_callV (As := [.int x1]) (rest := []) (st1 := [.int v69]) hx hb hml hown hts hE hw hl (mX4_stands l G (by omega) hR h69) (cwV 1 hts (zV gV_X4_141) rfl rfl rfl kdX4_stands ⟨Nat.le_of_ble_eq_true rfl, Nat.le_of_ble_eq_true rfl⟩) (by omega) (congrFun hR.1 _) rfl rfl rfl rfl (Nat.le_of_ble_eq_true rfl) dX4_drive_69 ⟨Nat.zero_le _, Nat.zero_le _⟩ rfl (fun H locs hw => ?_)
            refine b_eq (tgt := 76) hx hb dX4_drive_72 (by decide) h (fun h => ?_) (fun h => ?_)
            · refine lv_aload_n hx hb dX4_drive_76 rfl (lv_at hl 0 rfl) ?_
              refine lv_iload_n hx hb dX4_drive_77 rfl (lv_at hl 1 rfl) ?_
              obtain ⟨S78, h78, h⟩ := cr1_some h
              refine r_callV (As := [.int x1]) (rest := []) (st1 := []) hx hb hml hown hts hE hw hl (mX4_goOn l G (by omega) hR h78) (cwV 1 hts (zV gV_X4_144) rfl rfl rfl kdX4_goOn ⟨Nat.le_of_ble_eq_true rfl, Nat.le_of_ble_eq_true rfl⟩) (by omega) (congrFun hR.1 _) rfl rfl rfl rfl (Nat.le_of_ble_eq_true rfl) dX4_drive_78 ⟨Nat.zero_le _, Nat.zero_le _⟩ rfl (fun H locs hw => ?_)
              refine lv_aload_n hx hb dX4_drive_81 rfl (lv_at hl 0 rfl) ?_
              refine lv_iload_n hx hb dX4_drive_82 rfl (lv_at hl 1 rfl) ?_
              obtain ⟨v83, S83, h83, h⟩ := cw2_some h
              refine r_callV (As := [.int x1]) (rest := []) (st1 := [.int v83]) hx hb hml hown hts hE hw hl (mX4_rescues l G (by omega) hR h83) (cwV 1 hts (zV gV_X4_147) rfl rfl rfl kdX4_rescues ⟨Nat.le_of_ble_eq_true rfl, Nat.le_of_ble_eq_true rfl⟩) (by omega) (congrFun hR.1 _) rfl rfl rfl rfl (Nat.le_of_ble_eq_true rfl) dX4_drive_83 ⟨Nat.zero_le _, Nat.zero_le _⟩ rfl (fun H locs hw => ?_)
              refine b_eq (tgt := 94) hx hb dX4_drive_86 (by decide) h (fun h => ?_) (fun h => ?_)
              · refine p_iinc (w := (nI 1)) 3 (fun v94 => [(3, .int v94), (0, .ref (gA G (β + 0))), (1, .int x1), (2, .int x2)]) hx hb dX4_drive_94 hl rfl (by decide) (by decide) h (fun _ => rfl) (fun v94 h ls hl => ?_)
                refine lv_goto (tgt := 41) hx hb dX4_drive_97 (by decide) ?_
                exact hih41 x1 x2 v94 S83 _ _ _ h hw (lv_sub hl [1, 2, 3, 0] rfl)
              · refine lv_aload_n hx hb dX4_drive_89 rfl (lv_at hl 0 rfl) ?_
                refine lv_iload_n hx hb dX4_drive_90 rfl (lv_at hl 1 rfl) ?_
                obtain ⟨S91, h91, h⟩ := cr1_some h
                refine r_callV (As := [.int x1]) (rest := []) (st1 := []) hx hb hml hown hts hE hw hl (mX4_putInOrder l G (by omega) hR h91) (cwV 1 hts (zV gV_X4_150) rfl rfl rfl kdX4_putInOrder ⟨Nat.le_of_ble_eq_true rfl, Nat.le_of_ble_eq_true rfl⟩) (by omega) (congrFun hR.1 _) rfl rfl rfl rfl (Nat.le_of_ble_eq_true rfl) dX4_drive_91 ⟨Nat.zero_le _, Nat.zero_le _⟩ rfl (fun H locs hw => ?_)
                refine p_iinc (w := (nI 1)) 3 (fun v94 => [(3, .int v94), (0, .ref (gA G (β + 0))), (1, .int x1), (2, .int x2)]) hx hb dX4_drive_94 hl rfl (by decide) (by decide) h (fun _ => rfl) (fun v94 h ls hl => ?_)
                refine lv_goto (tgt := 41) hx hb dX4_drive_97 (by decide) ?_
                exact hih41 x1 x2 v94 S91 _ _ _ h hw (lv_sub hl [1, 2, 3, 0] rfl)
            · exact e_vw hx hb hr hlocks hw dX4_drive_75 h
  unfold pX4_drive at h
  refine lv_aload_n hx hb dX4_drive_0 rfl (lv_at hl 0 rfl) ?_
  refine r_get (v := .ref (gA G (β + 7))) hx hb hts hinX4 hown hE hw hn 0 (by decide) (congrFun hR.1 _) rfl 3 (by decide) (hts _ (wz_in qF_X4_26)) rfl dX4_drive_1 ?_
  refine lv_iload_n hx hb dX4_drive_4 rfl (lv_at hl 1 rfl) ?_
  refine lv_iconst (v := (nI 1)) hx hb dX4_drive_5 (by decide) ?_
  obtain ⟨v6, h6, h⟩ := cr1_some h
  refine r_callV (As := [.int a1, .int (nI 1)]) (rest := []) (st1 := [.int v6]) hx hb hml hown hts hE hw hl (mc_subR 7 2 (by decide) (mX5_get l G (by show β + 7 + 2 ≤ _; omega) hR.2.2.2.2.1 h6)) (cwV 2 hts (zV gV_X4_96) rfl rfl rfl kdX5_get ⟨Nat.le_of_ble_eq_true rfl, Nat.le_of_ble_eq_true rfl⟩) (by omega) (congrFun hR.2.2.2.2.1.1 _) rfl rfl rfl rfl (Nat.le_of_ble_eq_true rfl) dX4_drive_6 ⟨Nat.zero_le _, Nat.zero_le _⟩ rfl (fun H locs hw => ?_)
  refine b_le (tgt := 28) hx hb dX4_drive_9 (by decide) h (fun h => ?_) (fun h => ?_)
  · refine lv_aload_n hx hb dX4_drive_28 rfl (lv_at hl 0 rfl) ?_
    refine lv_iload_n hx hb dX4_drive_29 rfl (lv_at hl 1 rfl) ?_
    obtain ⟨S30, h30, h⟩ := cr1_some h
    refine r_callV (As := [.int a1]) (rest := []) (st1 := []) hx hb hml hown hts hE hw hl (mX4_fillUp l G (by omega) hR h30) (cwV 1 hts (zV gV_X4_129) rfl rfl rfl kdX4_fillUp ⟨Nat.le_of_ble_eq_true rfl, Nat.le_of_ble_eq_true rfl⟩) (by omega) (congrFun hR.1 _) rfl rfl rfl rfl (Nat.le_of_ble_eq_true rfl) dX4_drive_30 ⟨Nat.zero_le _, Nat.zero_le _⟩ rfl (fun H locs hw => ?_)
    refine lv_aload_n hx hb dX4_drive_33 rfl (lv_at hl 0 rfl) ?_
    refine lv_iload_n hx hb dX4_drive_34 rfl (lv_at hl 1 rfl) ?_
    obtain ⟨v35, h35, h⟩ := cr1_some h
    refine r_callV (As := [.int a1]) (rest := []) (st1 := [.int v35]) hx hb hml hown hts hE hw hl (mX4_slowestSpeed l G (by omega) hR h35) (cwV 1 hts (zV gV_X4_132) rfl rfl rfl kdX4_slowestSpeed ⟨Nat.le_of_ble_eq_true rfl, Nat.le_of_ble_eq_true rfl⟩) (by omega) (congrFun hR.1 _) rfl rfl rfl rfl (Nat.le_of_ble_eq_true rfl) dX4_drive_35 ⟨Nat.zero_le _, Nat.zero_le _⟩ rfl (fun H locs hw => ?_)
    refine lv_istore_n (lv' := [(2, .int v35), (0, .ref (gA G (β + 0))), (1, .int a1)]) hx hb dX4_drive_38 rfl hl (by decide) rfl (fun ls hl => ?_)
    refine lv_iconst (v := (nI 0)) hx hb dX4_drive_39 (by decide) ?_
    refine lv_istore_n (lv' := [(3, .int (nI 0)), (2, .int v35), (0, .ref (gA G (β + 0))), (1, .int a1)]) hx hb dX4_drive_40 rfl hl (by decide) rfl (fun ls hl => ?_)
    exact k41 fuel a1 v35 (nI 0) S30 _ _ _ h hw (lv_sub hl [2, 3, 1, 0] rfl)
  · refine lv_aload_n hx hb dX4_drive_12 rfl (lv_at hl 0 rfl) ?_
    refine r_get (v := .ref (gA G (β + 7))) hx hb hts hinX4 hown hE hw hn 0 (by decide) (congrFun hR.1 _) rfl 3 (by decide) (hts _ (wz_in qF_X4_26)) rfl dX4_drive_13 ?_
    refine lv_iload_n hx hb dX4_drive_16 rfl (lv_at hl 1 rfl) ?_
    refine lv_iconst (v := (nI 1)) hx hb dX4_drive_17 (by decide) ?_
    refine lv_iconst (v := (-1)) hx hb dX4_drive_18 (by decide) ?_
    obtain ⟨T19, h19, h⟩ := cvs_some h
    refine r_callV (As := [.int a1, .int (nI 1), .int (-1)]) (rest := []) (st1 := []) hx hb hml hown hts hE hw hl (mc_sub 7 2 (by decide) (mX5_raise l G (by show β + 7 + 2 ≤ _; omega) hR.2.2.2.2.1 h19)) (cwV 3 hts (zV gV_X4_126) rfl rfl rfl kdX5_raise ⟨Nat.le_of_ble_eq_true rfl, Nat.le_of_ble_eq_true rfl⟩) (by omega) (congrFun hR.2.2.2.2.1.1 _) rfl rfl rfl rfl (Nat.le_of_ble_eq_true rfl) dX4_drive_19 ⟨Nat.zero_le _, Nat.zero_le _⟩ rfl (fun H locs hw => ?_)
    generalize wB S 7 2 T19 = S19 at h hw
    refine lv_aload_n hx hb dX4_drive_22 rfl (lv_at hl 0 rfl) ?_
    refine lv_iconst (v := (nI 1)) hx hb dX4_drive_23 (by decide) ?_
    refine p_putz hx hb hts hinX4 tyX4 tyX4_ok nmX4 hown hE hw hn 0 (by decide) (congrFun hR.1 _) rfl 9 (by decide) (hts _ (wz_in qF_X4_66)) rfl (by decide +kernel) (Nat.le_of_ble_eq_true rfl) (congrFun hR.1 _) dX4_drive_24 h (fun S24 h H locs hw => ?_)
    exact e_vw hx hb hr hlocks hw dX4_drive_27 h

set_option maxHeartbeats 4000000 in
set_option maxRecDepth 100000 in
theorem mX4_letHourGoBy (l : Launch) (G : mG) {β : Nat} {M S S' : mM} (hn : β + 17 ≤ gN G) (hR : isSt G β) (h : pX4_letHourGoBy S = some S') : MC l G yX4_letHourGoBy zzX4_letHourGoBy 4 100 [.ref (gA G (β + 0))] (wB M β 17 S) (wB M β 17 S') none := by
  refine mc_of (cc := cX4_letHourGoBy) (maxL := 2) (ret := none) (by decide) rfl (Nat.le_of_ble_eq_true rfl) ?_
  intro p e s m args below meth c H ls hx hb hr hts hown hml hlocks hE hw hl
  have hl : lv_has ls 2 [(0, .ref (gA G (β + 0)))] := hl
  have hinX4 : ∀ w ∈ wsX40, w ∈ zzX4_letHourGoBy := fun w h9 => wz_in (zinX4 w h9)
  have k7 : ∀ (k : Nat), ∀ (x1 : Int32) (S : mM) (H : Heap) (locs : List Loc) (ls : Array Slot), pX4_letHourGoBy_l7  k x1 S = some S' → mW G s (wB M β 17 S) H locs → lv_has ls 2 [(0, .ref (gA G (β + 0))), (1, .int x1)] → W p l e { frames := 4, cells := 0, slots := 0, locals := 100 } s m args below meth c H locs 0 0 (mZ below G none (wB M β 17 S') args s) (F0 m 7 ls []) := by
    intro k
    induction k with
    | zero => intro x1 S H locs ls h; cases h
    | succ k hih7 =>
      intro x1 S H locs ls h hw hl
      obtain ⟨ih7, hk7⟩ : ∃ f, f = pX4_letHourGoBy_l7  k := ⟨_, rfl⟩
      replace h : pX4_letHourGoBy_lb7  (pX4_letHourGoBy_l7  k) x1 S = some S' := h
      rw [← hk7] at h hih7
      clear hk7
      unfold pX4_letHourGoBy_lb7 at h
      refine lv_iload_n hx hb dX4_letHourGoBy_7 rfl (lv_at hl 1 rfl) ?_
      refine lv_aload_n hx hb dX4_letHourGoBy_8 rfl (lv_at hl 0 rfl) ?_
      refine r_get (v := .ref (gA G (β + 7))) hx hb hts hinX4 hown hE hw hn 0 (by decide) (congrFun hR.1 _) rfl 3 (by decide) (hts _ (wz_in qF_X4_26)) rfl dX4_letHourGoBy_9 ?_
      obtain ⟨v12, h12, h⟩ := cr1_some h
      refine r_callV (As := []) (rest := [.int x1]) (st1 := [.int v12, .int x1]) hx hb hml hown hts hE hw hl (mc_subR 7 2 (by decide) (mX5_count l G (by show β + 7 + 2 ≤ _; omega) hR.2.2.2.2.1 h12)) (cwV 0 hts (zV gV_X4_109) rfl rfl rfl kdX5_count ⟨Nat.le_of_ble_eq_true rfl, Nat.le_of_ble_eq_true rfl⟩) (by omega) (congrFun hR.2.2.2.2.1.1 _) rfl rfl rfl rfl (Nat.le_of_ble_eq_true rfl) dX4_letHourGoBy_12 ⟨Nat.zero_le _, Nat.zero_le _⟩ rfl (fun H locs hw => ?_)
      refine bi_ge (tgt := 48) hx hb dX4_letHourGoBy_15 (by decide) h (fun h => ?_) (fun h => ?_)
      · refine lv_aload_n hx hb dX4_letHourGoBy_48 rfl (lv_at hl 0 rfl) ?_
        refine lv_dup hx hb dX4_letHourGoBy_49 rfl ?_
        refine p_get hx hb hts hinX4 hown hE hw hn 0 (by decide) (congrFun hR.1 _) rfl 8 (by decide) (hts _ (wz_in qF_X4_52)) rfl dX4_letHourGoBy_50 h (fun v50 h => ?_)
        refine lv_iconst (v := (nI 1)) hx hb dX4_letHourGoBy_53 (by decide) ?_
        refine lv_iadd hx hb dX4_letHourGoBy_54 ?_
        refine p_put hx hb hts hinX4 tyX4 tyX4_ok nmX4 hown hE hw hn 0 (by decide) (congrFun hR.1 _) rfl 8 (by decide) (hts _ (wz_in qF_X4_52)) rfl (by decide +kernel) (Nat.le_of_ble_eq_true rfl) (congrFun hR.1 _) dX4_letHourGoBy_55 h (fun S55 h H locs hw => ?_)
        exact e_vw hx hb hr hlocks hw dX4_letHourGoBy_58 h
      · refine lv_aload_n hx hb dX4_letHourGoBy_18 rfl (lv_at hl 0 rfl) ?_
        refine r_get (v := .ref (gA G (β + 11))) hx hb hts hinX4 hown hE hw hn 0 (by decide) (congrFun hR.1 _) rfl 5 (by decide) (hts _ (wz_in qF_X4_35)) rfl dX4_letHourGoBy_19 ?_
        refine lv_iload_n hx hb dX4_letHourGoBy_22 rfl (lv_at hl 1 rfl) ?_
        obtain ⟨v23, h23, h⟩ := cr1_some h
        refine r_callV (As := [.int x1]) (rest := []) (st1 := [.int v23]) hx hb hml hown hts hE hw hl (mc_subR 11 3 (by decide) (mX2_size l G (by show β + 11 + 3 ≤ _; omega) hR.2.2.2.2.2.2.1 h23)) (cwV 1 hts (zV gV_X4_92) rfl rfl rfl kdX2_size ⟨Nat.le_of_ble_eq_true rfl, Nat.le_of_ble_eq_true rfl⟩) (by omega) (congrFun hR.2.2.2.2.2.2.1.1 _) rfl rfl rfl rfl (Nat.le_of_ble_eq_true rfl) dX4_letHourGoBy_23 ⟨Nat.zero_le _, Nat.zero_le _⟩ rfl (fun H locs hw => ?_)
        refine b_le (tgt := 42) hx hb dX4_letHourGoBy_26 (by decide) h (fun h => ?_) (fun h => ?_)
        · refine p_iinc (w := (nI 1)) 1 (fun v42 => [(1, .int v42), (0, .ref (gA G (β + 0)))]) hx hb dX4_letHourGoBy_42 hl rfl (by decide) (by decide) h (fun _ => rfl) (fun v42 h ls hl => ?_)
          refine lv_goto (tgt := 7) hx hb dX4_letHourGoBy_45 (by decide) ?_
          exact hih7 v42 S _ _ _ h hw (lv_sub hl [1, 0] rfl)
        · refine lv_aload_n hx hb dX4_letHourGoBy_29 rfl (lv_at hl 0 rfl) ?_
          refine lv_iload_n hx hb dX4_letHourGoBy_30 rfl (lv_at hl 1 rfl) ?_
          obtain ⟨v31, h31, h⟩ := cr1_some h
          refine r_callV (As := [.int x1]) (rest := []) (st1 := [.int v31]) hx hb hml hown hts hE hw hl (mX4_isAtEnd l G (by omega) hR h31) (cwV 1 hts (zV gV_X4_119) rfl rfl rfl kdX4_isAtEnd ⟨Nat.le_of_ble_eq_true rfl, Nat.le_of_ble_eq_true rfl⟩) (by omega) (congrFun hR.1 _) rfl rfl rfl rfl (Nat.le_of_ble_eq_true rfl) dX4_letHourGoBy_31 ⟨Nat.zero_le _, Nat.zero_le _⟩ rfl (fun H locs hw => ?_)
          refine b_ne (tgt := 42) hx hb dX4_letHourGoBy_34 (by decide) h (fun h => ?_) (fun h => ?_)
          · refine p_iinc (w := (nI 1)) 1 (fun v42 => [(1, .int v42), (0, .ref (gA G (β + 0)))]) hx hb dX4_letHourGoBy_42 hl rfl (by decide) (by decide) h (fun _ => rfl) (fun v42 h ls hl => ?_)
            refine lv_goto (tgt := 7) hx hb dX4_letHourGoBy_45 (by decide) ?_
            exact hih7 v42 S _ _ _ h hw (lv_sub hl [1, 0] rfl)
          · refine lv_aload_n hx hb dX4_letHourGoBy_37 rfl (lv_at hl 0 rfl) ?_
            refine lv_iload_n hx hb dX4_letHourGoBy_38 rfl (lv_at hl 1 rfl) ?_
            obtain ⟨S39, h39, h⟩ := cr1_some h
            refine r_callV (As := [.int x1]) (rest := []) (st1 := []) hx hb hml hown hts hE hw hl (mX4_drive l G (by omega) hR h39) (cwV 1 hts (zV gV_X4_122) rfl rfl rfl kdX4_drive ⟨Nat.le_of_ble_eq_true rfl, Nat.le_of_ble_eq_true rfl⟩) (by omega) (congrFun hR.1 _) rfl rfl rfl rfl (Nat.le_of_ble_eq_true rfl) dX4_letHourGoBy_39 ⟨Nat.zero_le _, Nat.zero_le _⟩ rfl (fun H locs hw => ?_)
            refine p_iinc (w := (nI 1)) 1 (fun v42 => [(1, .int v42), (0, .ref (gA G (β + 0)))]) hx hb dX4_letHourGoBy_42 hl rfl (by decide) (by decide) h (fun _ => rfl) (fun v42 h ls hl => ?_)
            refine lv_goto (tgt := 7) hx hb dX4_letHourGoBy_45 (by decide) ?_
            exact hih7 v42 S39 _ _ _ h hw (lv_sub hl [1, 0] rfl)
  unfold pX4_letHourGoBy at h
  refine lv_aload_n hx hb dX4_letHourGoBy_0 rfl (lv_at hl 0 rfl) ?_
  refine lv_iconst (v := (nI 0)) hx hb dX4_letHourGoBy_1 (by decide) ?_
  refine p_putz hx hb hts hinX4 tyX4 tyX4_ok nmX4 hown hE hw hn 0 (by decide) (congrFun hR.1 _) rfl 9 (by decide) (hts _ (wz_in qF_X4_66)) rfl (by decide +kernel) (Nat.le_of_ble_eq_true rfl) (congrFun hR.1 _) dX4_letHourGoBy_2 h (fun S2 h H locs hw => ?_)
  refine lv_iconst (v := (nI 0)) hx hb dX4_letHourGoBy_5 (by decide) ?_
  refine lv_istore_n (lv' := [(1, .int (nI 0)), (0, .ref (gA G (β + 0)))]) hx hb dX4_letHourGoBy_6 rfl hl (by decide) rfl (fun ls hl => ?_)
  exact k7 fuel (nI 0) S2 _ _ _ h hw (lv_sub hl [1, 0] rfl)

set_option maxHeartbeats 4000000 in
set_option maxRecDepth 100000 in
theorem mX4_letGoBy (l : Launch) (G : mG) {β : Nat} {M S S' : mM} {a1 : Int32} {r : Int32} (hn : β + 17 ≤ gN G) (hR : isSt G β) (h : pX4_letGoBy a1 S = some (r, S')) : MC l G yX4_letGoBy zzX4_letGoBy 5 121 [.ref (gA G (β + 0)), .int a1] (wB M β 17 S) (wB M β 17 S') (some (.int r)) := by
  refine mc_of (cc := cX4_letGoBy) (maxL := 3) (ret := (some .boolean)) (by decide) rfl (Nat.le_of_ble_eq_true rfl) ?_
  intro p e s m args below meth c H ls hx hb hr hts hown hml hlocks hE hw hl
  have hl : lv_has ls 3 [(0, .ref (gA G (β + 0))), (1, .int a1)] := hl
  have k14 : ∀ (k : Nat), ∀ (x1 : Int32) (x2 : Int32) (S : mM) (H : Heap) (locs : List Loc) (ls : Array Slot), pX4_letGoBy_l14  k x1 x2 S = some (r, S') → mW G s (wB M β 17 S) H locs → lv_has ls 3 [(0, .ref (gA G (β + 0))), (1, .int x1), (2, .int x2)] → W p l e { frames := 5, cells := 0, slots := 0, locals := 121 } s m args below meth c H locs 0 0 (mZ below G (some (.int r)) (wB M β 17 S') args s) (F0 m 14 ls []) := by
    intro k
    induction k with
    | zero => intro x1 x2 S H locs ls h; cases h
    | succ k hih14 =>
      intro x1 x2 S H locs ls h hw hl
      obtain ⟨ih14, hk14⟩ : ∃ f, f = pX4_letGoBy_l14  k := ⟨_, rfl⟩
      replace h : pX4_letGoBy_lb14  (pX4_letGoBy_l14  k) x1 x2 S = some (r, S') := h
      rw [← hk14] at h hih14
      clear hk14
      unfold pX4_letGoBy_lb14 at h
      refine lv_iload_n hx hb dX4_letGoBy_14 rfl (lv_at hl 2 rfl) ?_
      refine lv_iload_n hx hb dX4_letGoBy_15 rfl (lv_at hl 1 rfl) ?_
      refine bi_ge (tgt := 29) hx hb dX4_letGoBy_16 (by decide) h (fun h => ?_) (fun h => ?_)
      · refine lv_iconst (v := (nI 1)) hx hb dX4_letGoBy_29 (by decide) ?_
        exact e_zw hx hb hr hlocks hw dX4_letGoBy_30 h
      · refine lv_aload_n hx hb dX4_letGoBy_19 rfl (lv_at hl 0 rfl) ?_
        obtain ⟨S20, h20, h⟩ := cr1_some h
        refine r_callV (As := []) (rest := []) (st1 := []) hx hb hml hown hts hE hw hl (mX4_letHourGoBy l G (by omega) hR h20) (cwV 0 hts (zV gV_X4_116) rfl rfl rfl kdX4_letHourGoBy ⟨Nat.le_of_ble_eq_true rfl, Nat.le_of_ble_eq_true rfl⟩) (by omega) (congrFun hR.1 _) rfl rfl rfl rfl (Nat.le_of_ble_eq_true rfl) dX4_letGoBy_20 ⟨Nat.zero_le _, Nat.zero_le _⟩ rfl (fun H locs hw => ?_)
        refine p_iinc (w := (nI 1)) 2 (fun v23 => [(2, .int v23), (0, .ref (gA G (β + 0))), (1, .int x1)]) hx hb dX4_letGoBy_23 hl rfl (by decide) (by decide) h (fun _ => rfl) (fun v23 h ls hl => ?_)
        refine lv_goto (tgt := 14) hx hb dX4_letGoBy_26 (by decide) ?_
        exact hih14 x1 v23 S20 _ _ _ h hw (lv_sub hl [1, 2, 0] rfl)
  unfold pX4_letGoBy at h
  refine lv_iload_n hx hb dX4_letGoBy_0 rfl (lv_at hl 1 rfl) ?_
  refine lv_iconst (v := (nI 1)) hx hb dX4_letGoBy_1 (by decide) ?_
  refine lv_bipush (v := (nI 99)) hx hb dX4_letGoBy_2 (by decide) ?_
  obtain ⟨v4, h4, h⟩ := cr1_some h
  refine r_callSN (host := RX6) (As := [.int a1, .int (nI 1), .int (nI 99)]) (rest := []) (st1 := [.int v4]) hx hb hml hown hts hE hw hl (mX6_isWithin l G (M := (wB M β 17 S)) h4) ⟨va_cnB 3 hts (zN qC_X6_isWithin) rfl rfl rfl hE.2.2.2.1.2 (hts _ (wz_in qN_X6)) kdX6_isWithin ⟨Nat.le_of_ble_eq_true rfl, Nat.le_of_ble_eq_true rfl⟩, hts _ (wz_in qT_X6_isWithin), trivial⟩ rfl rfl (Nat.le_of_ble_eq_true rfl) dX4_letGoBy_4 ⟨Nat.zero_le _, Nat.zero_le _⟩ rfl (fun H locs hw => ?_)
  refine b_ne (tgt := 12) hx hb dX4_letGoBy_7 (by decide) h (fun h => ?_) (fun h => ?_)
  · refine lv_iconst (v := (nI 0)) hx hb dX4_letGoBy_12 (by decide) ?_
    refine lv_istore_n (lv' := [(2, .int (nI 0)), (0, .ref (gA G (β + 0))), (1, .int a1)]) hx hb dX4_letGoBy_13 rfl hl (by decide) rfl (fun ls hl => ?_)
    exact k14 fuel a1 (nI 0) S _ _ _ h hw (lv_sub hl [1, 2, 0] rfl)
  · refine lv_iconst (v := (nI 0)) hx hb dX4_letGoBy_10 (by decide) ?_
    exact e_zw hx hb hr hlocks hw dX4_letGoBy_11 h
