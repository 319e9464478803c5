/-! ===== walks, by program ===== -/
set_option maxHeartbeats 4000000 in
set_option maxRecDepth 100000 in
theorem mX7_readGate (l : Launch) (G : mG) {β : Nat} {M S S' : mM} (hn : β + 8 ≤ gN G) (hR : isMod G β) (h : pX7_readGate S = some S') : MC l G yX7_readGate zzX7_readGate 3 73 [.ref (gA G (β + 0))] (wB M β 8 S) (wB M β 8 S') none := by
  refine mc_of (cc := cX7_readGate) (maxL := 5) (ret := none) (by decide) rfl (Nat.le_of_ble_eq_true rfl) ?_
  intro p e s m args below meth c H ls hx hb hr hts hown hml hlocks hE hw hl
  have hl : lv_has ls 5 [(0, .ref (gA G (β + 0)))] := hl
  have hinX7 : ∀ w ∈ wsX70, w ∈ zzX7_readGate := fun w h9 => wz_in (zinX7 w h9)
  have k52 : ∀ (x1 : Int32) (t1 : Int32) (S : mM) (H : Heap) (locs : List Loc) (ls : Array Slot), pX7_readGate_b52  x1 t1 S = some S' → mW G s (wB M β 8 S) H locs → lv_has ls 5 [(0, .ref (gA G (β + 0))), (1, .int x1)] → W p l e { frames := 3, cells := 0, slots := 0, locals := 73 } s m args below meth c H locs 0 0 (mZ below G none (wB M β 8 S') args s) (F0 m 52 ls [.int t1, .ref (gA G (β + 0))]) := by
    intro x1 t1 S H locs ls h hw hl
    unfold pX7_readGate_b52 at h
    obtain ⟨S52, h52, h⟩ := cr1_some h
    refine r_callV (As := [.int t1]) (rest := []) (st1 := []) hx hb hml hown hts hE hw hl (mX7_demand l G (by omega) hR h52) (cwV 1 hts (zV gV_X7_169) rfl rfl rfl kdX7_demand ⟨Nat.le_of_ble_eq_true rfl, Nat.le_of_ble_eq_true rfl⟩) (by omega) (congrFun hR.1 _) rfl rfl rfl rfl (Nat.le_of_ble_eq_true rfl) dX7_readGate_52 ⟨Nat.zero_le _, Nat.zero_le _⟩ rfl (fun H locs hw => ?_)
    refine lv_aload_n hx hb dX7_readGate_55 rfl (lv_at hl 0 rfl) ?_
    refine lv_iconst (v := (nI 2)) hx hb dX7_readGate_56 (by decide) ?_
    refine lv_bipush (v := (nI 24)) hx hb dX7_readGate_57 (by decide) ?_
    obtain ⟨v59, S59, h59, h⟩ := cw2_some h
    refine r_callV (As := [.int (nI 2), .int (nI 24)]) (rest := []) (st1 := [.int v59]) hx hb hml hown hts hE hw hl (mX7_two l G (by omega) hR h59) (cwV 2 hts (zV gV_X7_166) rfl rfl rfl kdX7_two ⟨Nat.le_of_ble_eq_true rfl, Nat.le_of_ble_eq_true rfl⟩) (by omega) (congrFun hR.1 _) rfl rfl rfl rfl (Nat.le_of_ble_eq_true rfl) dX7_readGate_59 ⟨Nat.zero_le _, Nat.zero_le _⟩ rfl (fun H locs hw => ?_)
    refine lv_istore_n (lv' := [(2, .int v59), (0, .ref (gA G (β + 0))), (1, .int x1)]) hx hb dX7_readGate_62 rfl hl (by decide) rfl (fun ls hl => ?_)
    refine lv_aload_n hx hb dX7_readGate_63 rfl (lv_at hl 1 rfl) ?_
    refine lv_iconst (v := (nI 0)) hx hb dX7_readGate_64 (by decide) ?_
    refine lv_iload_n hx hb dX7_readGate_65 rfl (lv_at hl 0 rfl) ?_
    refine lv_iconst (v := (nI 1)) hx hb dX7_readGate_66 (by decide) ?_
    refine lv_isub hx hb dX7_readGate_67 ?_
    obtain ⟨v68, S68, h68, h⟩ := cw2_some h
    refine r_callV (As := [.int (nI 0), .int (v59 - (nI 1))]) (rest := []) (st1 := [.int v68]) hx hb hml hown hts hE hw hl (mX7_two l G (by omega) hR h68) (cwV 2 hts (zV gV_X7_166) rfl rfl rfl kdX7_two ⟨Nat.le_of_ble_eq_true rfl, Nat.le_of_ble_eq_true rfl⟩) (by omega) (congrFun hR.1 _) rfl rfl rfl rfl (Nat.le_of_ble_eq_true rfl) dX7_readGate_68 ⟨Nat.zero_le _, Nat.zero_le _⟩ rfl (fun H locs hw => ?_)
    refine lv_istore_n (lv' := [(3, .int v68), (2, .int v59), (0, .ref (gA G (β + 0))), (1, .int x1)]) hx hb dX7_readGate_71 rfl hl (by decide) rfl (fun ls hl => ?_)
    refine lv_aload_n hx hb dX7_readGate_72 rfl (lv_at hl 2 rfl) ?_
    refine lv_iconst (v := (nI 0)) hx hb dX7_readGate_73 (by decide) ?_
    refine lv_iload_n hx hb dX7_readGate_74 rfl (lv_at hl 1 rfl) ?_
    refine lv_iconst (v := (nI 1)) hx hb dX7_readGate_75 (by decide) ?_
    refine lv_isub hx hb dX7_readGate_76 ?_
    obtain ⟨v77, S77, h77, h⟩ := cw2_some h
    refine r_callV (As := [.int (nI 0), .int (v59 - (nI 1))]) (rest := []) (st1 := [.int v77]) hx hb hml hown hts hE hw hl (mX7_two l G (by omega) hR h77) (cwV 2 hts (zV gV_X7_166) rfl rfl rfl kdX7_two ⟨Nat.le_of_ble_eq_true rfl, Nat.le_of_ble_eq_true rfl⟩) (by omega) (congrFun hR.1 _) rfl rfl rfl rfl (Nat.le_of_ble_eq_true rfl) dX7_readGate_77 ⟨Nat.zero_le _, Nat.zero_le _⟩ rfl (fun H locs hw => ?_)
    refine lv_istore (lv' := [(4, .int v77), (3, .int v68), (2, .int v59), (0, .ref (gA G (β + 0))), (1, .int x1)]) hx hb dX7_readGate_80 hl (by decide) rfl (fun ls hl => ?_)
    refine lv_aload_n hx hb dX7_readGate_82 rfl (lv_at hl 3 rfl) ?_
    refine p_get hx hb hts hinX7 hown hE hw hn 0 (by decide) (congrFun hR.1 _) rfl 4 (by decide) (hts _ (wz_in qF_X7_153)) rfl dX7_readGate_83 h (fun v83 h => ?_)
    refine b_eq (tgt := 101) hx hb dX7_readGate_86 (by decide) h (fun h => ?_) (fun h => ?_)
    · exact e_vw hx hb hr hlocks hw dX7_readGate_101 h
    · refine lv_aload_n hx hb dX7_readGate_89 rfl (lv_at hl 3 rfl) ?_
      refine r_get (v := .ref (gA G (β + 2))) hx hb hts hinX7 hown hE hw hn 0 (by decide) (congrFun hR.1 _) rfl 5 (by decide) (hts _ (wz_in qF_X7_13)) rfl dX7_readGate_90 ?_
      refine lv_iload_n hx hb dX7_readGate_93 rfl (lv_at hl 4 rfl) ?_
      refine lv_iload_n hx hb dX7_readGate_94 rfl (lv_at hl 2 rfl) ?_
      refine lv_iload_n hx hb dX7_readGate_95 rfl (lv_at hl 1 rfl) ?_
      refine lv_iload hx hb dX7_readGate_96 (lv_at hl 0 rfl) ?_
      obtain ⟨T98, h98, h⟩ := cvs_some h
      refine r_callS (As := [.ref (gA G (β + 2)), .int x1, .int v59, .int v68, .int v77]) (rest := []) (st1 := []) hx hb hml hown hts hE hw hl (mc_sub 2 1 (by decide) (mX7_addGateTo l G (by show β + 2 + 1 ≤ _; omega) hR.2.2.1 h98)) (va_cwS 5 hts (zS gS_X7_172) rfl rfl rfl kdX7_addGateTo ⟨Nat.le_of_ble_eq_true rfl, Nat.le_of_ble_eq_true rfl⟩) rfl rfl (Nat.le_of_ble_eq_true rfl) dX7_readGate_98 ⟨Nat.zero_le _, Nat.zero_le _⟩ rfl (fun H locs hw => ?_)
      generalize wB S77 2 1 T98 = S98 at h hw
      exact e_vw hx hb hr hlocks hw dX7_readGate_101 h
  have k16 : ∀ (t1 : Int32) (S : mM) (H : Heap) (locs : List Loc) (ls : Array Slot), pX7_readGate_b16  t1 S = some S' → mW G s (wB M β 8 S) H locs → lv_has ls 5 [(0, .ref (gA G (β + 0)))] → W p l e { frames := 3, cells := 0, slots := 0, locals := 73 } s m args below meth c H locs 0 0 (mZ below G none (wB M β 8 S') args s) (F0 m 16 ls [.int t1, .ref (gA G (β + 0))]) := by
    intro t1 S H locs ls h hw hl
    unfold pX7_readGate_b16 at h
    obtain ⟨S16, h16, h⟩ := cr1_some h
    refine r_callV (As := [.int t1]) (rest := []) (st1 := []) hx hb hml hown hts hE hw hl (mX7_accept l G (by omega) hR h16) (cwV 1 hts (zV gV_X7_159) rfl rfl rfl kdX7_accept ⟨Nat.le_of_ble_eq_true rfl, Nat.le_of_ble_eq_true rfl⟩) (by omega) (congrFun hR.1 _) rfl rfl rfl rfl (Nat.le_of_ble_eq_true rfl) dX7_readGate_16 ⟨Nat.zero_le _, Nat.zero_le _⟩ rfl (fun H locs hw => ?_)
    refine lv_aload_n hx hb dX7_readGate_19 rfl (lv_at hl 0 rfl) ?_
    refine lv_iconst (v := (nI 1)) hx hb dX7_readGate_20 (by decide) ?_
    refine lv_aload_n hx hb dX7_readGate_21 rfl (lv_at hl 0 rfl) ?_
    refine r_get (v := .ref (gA G (β + 2))) hx hb hts hinX7 hown hE hw hn 0 (by decide) (congrFun hR.1 _) rfl 5 (by decide) (hts _ (wz_in qF_X7_13)) rfl dX7_readGate_22 ?_
    refine lv_iconst (v := (nI 0)) hx hb dX7_readGate_25 (by decide) ?_
    refine p_iald hx hb hE hw hn 2 (by decide) (congrFun hR.2.2.1) dX7_readGate_26 h (fun v26 h => ?_)
    refine lv_iconst (v := (nI 1)) hx hb dX7_readGate_27 (by decide) ?_
    refine lv_isub hx hb dX7_readGate_28 ?_
    obtain ⟨v29, S29, h29, h⟩ := cw2_some h
    refine r_callV (As := [.int (nI 1), .int (v26 - (nI 1))]) (rest := []) (st1 := [.int v29]) hx hb hml hown hts hE hw hl (mX7_two l G (by omega) hR h29) (cwV 2 hts (zV gV_X7_166) rfl rfl rfl kdX7_two ⟨Nat.le_of_ble_eq_true rfl, Nat.le_of_ble_eq_true rfl⟩) (by omega) (congrFun hR.1 _) rfl rfl rfl rfl (Nat.le_of_ble_eq_true rfl) dX7_readGate_29 ⟨Nat.zero_le _, Nat.zero_le _⟩ rfl (fun H locs hw => ?_)
    refine lv_istore_n (lv' := [(1, .int v29), (0, .ref (gA G (β + 0)))]) hx hb dX7_readGate_32 rfl hl (by decide) rfl (fun ls hl => ?_)
    refine lv_aload_n hx hb dX7_readGate_33 rfl (lv_at hl 1 rfl) ?_
    refine lv_aload_n hx hb dX7_readGate_34 rfl (lv_at hl 1 rfl) ?_
    refine r_get (v := .ref (gA G (β + 2))) hx hb hts hinX7 hown hE hw hn 0 (by decide) (congrFun hR.1 _) rfl 5 (by decide) (hts _ (wz_in qF_X7_13)) rfl dX7_readGate_35 ?_
    refine lv_iload_n hx hb dX7_readGate_38 rfl (lv_at hl 0 rfl) ?_
    obtain ⟨v39, h39, h⟩ := cr1_some h
    refine r_callS (As := [.ref (gA G (β + 2)), .int v29]) (rest := [.ref (gA G (β + 0))]) (st1 := [.int v39, .ref (gA G (β + 0))]) hx hb hml hown hts hE hw hl (mc_subR 2 1 (by decide) (mX7_gateOn l G (by show β + 2 + 1 ≤ _; omega) hR.2.2.1 h39)) (va_cwS 2 hts (zS gS_X7_106) rfl rfl rfl kdX7_gateOn ⟨Nat.le_of_ble_eq_true rfl, Nat.le_of_ble_eq_true rfl⟩) rfl rfl (Nat.le_of_ble_eq_true rfl) dX7_readGate_39 ⟨Nat.zero_le _, Nat.zero_le _⟩ rfl (fun H locs hw => ?_)
    refine lv_bipush (v := (-9)) hx hb dX7_readGate_42 (by decide) ?_
    refine bi_ne (tgt := 51) hx hb dX7_readGate_44 (by decide) h (fun h => ?_) (fun h => ?_)
    · refine lv_iconst (v := (nI 0)) hx hb dX7_readGate_51 (by decide) ?_
      exact k52  v29 (nI 0) S29 _ _ _ h hw (lv_sub hl [1, 0] rfl)
    · refine lv_iconst (v := (nI 1)) hx hb dX7_readGate_47 (by decide) ?_
      refine lv_goto (tgt := 52) hx hb dX7_readGate_48 (by decide) ?_
      exact k52  v29 (nI 1) S29 _ _ _ h hw (lv_sub hl [1, 0] rfl)
  unfold pX7_readGate at h
  refine lv_aload_n hx hb dX7_readGate_0 rfl (lv_at hl 0 rfl) ?_
  refine lv_aload_n hx hb dX7_readGate_1 rfl (lv_at hl 0 rfl) ?_
  refine r_get (v := .ref (gA G (β + 2))) hx hb hts hinX7 hown hE hw hn 0 (by decide) (congrFun hR.1 _) rfl 5 (by decide) (hts _ (wz_in qF_X7_13)) rfl dX7_readGate_2 ?_
  refine lv_iconst (v := (nI 2)) hx hb dX7_readGate_5 (by decide) ?_
  refine p_iald hx hb hE hw hn 2 (by decide) (congrFun hR.2.2.1) dX7_readGate_6 h (fun v6 h => ?_)
  refine lv_iconst (v := (nI 4)) hx hb dX7_readGate_7 (by decide) ?_
  refine bi_ge (tgt := 15) hx hb dX7_readGate_8 (by decide) h (fun h => ?_) (fun h => ?_)
  · refine lv_iconst (v := (nI 0)) hx hb dX7_readGate_15 (by decide) ?_
    exact k16  (nI 0) S _ _ _ h hw (lv_sub hl [0] rfl)
  · refine lv_iconst (v := (nI 1)) hx hb dX7_readGate_11 (by decide) ?_
    refine lv_goto (tgt := 16) hx hb dX7_readGate_12 (by decide) ?_
    exact k16  (nI 1) S _ _ _ h hw (lv_sub hl [0] rfl)

set_option maxHeartbeats 4000000 in
set_option maxRecDepth 100000 in
theorem mX7_readBay (l : Launch) (G : mG) {β : Nat} {M S S' : mM} (hn : β + 8 ≤ gN G) (hR : isMod G β) (h : pX7_readBay S = some S') : MC l G yX7_readBay zzX7_readBay 3 73 [.ref (gA G (β + 0))] (wB M β 8 S) (wB M β 8 S') none := by
  refine mc_of (cc := cX7_readBay) (maxL := 3) (ret := none) (by decide) rfl (Nat.le_of_ble_eq_true rfl) ?_
  intro p e s m args below meth c H ls hx hb hr hts hown hml hlocks hE hw hl
  have hl : lv_has ls 3 [(0, .ref (gA G (β + 0)))] := hl
  have hinX7 : ∀ w ∈ wsX70, w ∈ zzX7_readBay := fun w h9 => wz_in (zinX7 w h9)
  have k53 : ∀ (x1 : Int32) (t1 : Int32) (S : mM) (H : Heap) (locs : List Loc) (ls : Array Slot), pX7_readBay_b53  x1 t1 S = some S' → mW G s (wB M β 8 S) H locs → lv_has ls 3 [(0, .ref (gA G (β + 0))), (1, .int x1)] → W p l e { frames := 3, cells := 0, slots := 0, locals := 73 } s m args below meth c H locs 0 0 (mZ below G none (wB M β 8 S') args s) (F0 m 53 ls [.int t1, .ref (gA G (β + 0))]) := by
    intro x1 t1 S H locs ls h hw hl
    unfold pX7_readBay_b53 at h
    obtain ⟨S53, h53, h⟩ := cr1_some h
    refine r_callV (As := [.int t1]) (rest := []) (st1 := []) hx hb hml hown hts hE hw hl (mX7_demand l G (by omega) hR h53) (cwV 1 hts (zV gV_X7_169) rfl rfl rfl kdX7_demand ⟨Nat.le_of_ble_eq_true rfl, Nat.le_of_ble_eq_true rfl⟩) (by omega) (congrFun hR.1 _) rfl rfl rfl rfl (Nat.le_of_ble_eq_true rfl) dX7_readBay_53 ⟨Nat.zero_le _, Nat.zero_le _⟩ rfl (fun H locs hw => ?_)
    refine lv_aload_n hx hb dX7_readBay_56 rfl (lv_at hl 0 rfl) ?_
    refine lv_iconst (v := (nI 1)) hx hb dX7_readBay_57 (by decide) ?_
    refine lv_bipush (v := (nI 6)) hx hb dX7_readBay_58 (by decide) ?_
    obtain ⟨v60, S60, h60, h⟩ := cw2_some h
    refine r_callV (As := [.int (nI 1), .int (nI 6)]) (rest := []) (st1 := [.int v60]) hx hb hml hown hts hE hw hl (mX7_digit l G (by omega) hR h60) (cwV 2 hts (zV gV_X7_163) rfl rfl rfl kdX7_digit ⟨Nat.le_of_ble_eq_true rfl, Nat.le_of_ble_eq_true rfl⟩) (by omega) (congrFun hR.1 _) rfl rfl rfl rfl (Nat.le_of_ble_eq_true rfl) dX7_readBay_60 ⟨Nat.zero_le _, Nat.zero_le _⟩ rfl (fun H locs hw => ?_)
    refine lv_istore_n (lv' := [(2, .int v60), (0, .ref (gA G (β + 0))), (1, .int x1)]) hx hb dX7_readBay_63 rfl hl (by decide) rfl (fun ls hl => ?_)
    refine lv_aload_n hx hb dX7_readBay_64 rfl (lv_at hl 1 rfl) ?_
    refine p_get hx hb hts hinX7 hown hE hw hn 0 (by decide) (congrFun hR.1 _) rfl 4 (by decide) (hts _ (wz_in qF_X7_153)) rfl dX7_readBay_65 h (fun v65 h => ?_)
    refine b_eq (tgt := 80) hx hb dX7_readBay_68 (by decide) h (fun h => ?_) (fun h => ?_)
    · exact e_vw hx hb hr hlocks hw dX7_readBay_80 h
    · refine lv_aload_n hx hb dX7_readBay_71 rfl (lv_at hl 1 rfl) ?_
      refine r_get (v := .ref (gA G (β + 2))) hx hb hts hinX7 hown hE hw hn 0 (by decide) (congrFun hR.1 _) rfl 5 (by decide) (hts _ (wz_in qF_X7_13)) rfl dX7_readBay_72 ?_
      refine lv_iload_n hx hb dX7_readBay_75 rfl (lv_at hl 2 rfl) ?_
      refine lv_iload_n hx hb dX7_readBay_76 rfl (lv_at hl 0 rfl) ?_
      obtain ⟨T77, h77, h⟩ := cvs_some h
      refine r_callS (As := [.ref (gA G (β + 2)), .int x1, .int v60]) (rest := []) (st1 := []) hx hb hml hown hts hE hw hl (mc_sub 2 1 (by decide) (mX7_addBayTo l G (by show β + 2 + 1 ≤ _; omega) hR.2.2.1 h77)) (va_cwS 3 hts (zS gS_X7_176) rfl rfl rfl kdX7_addBayTo ⟨Nat.le_of_ble_eq_true rfl, Nat.le_of_ble_eq_true rfl⟩) rfl rfl (Nat.le_of_ble_eq_true rfl) dX7_readBay_77 ⟨Nat.zero_le _, Nat.zero_le _⟩ rfl (fun H locs hw => ?_)
      generalize wB S60 2 1 T77 = S77 at h hw
      exact e_vw hx hb hr hlocks hw dX7_readBay_80 h
  have k17 : ∀ (t1 : Int32) (S : mM) (H : Heap) (locs : List Loc) (ls : Array Slot), pX7_readBay_b17  t1 S = some S' → mW G s (wB M β 8 S) H locs → lv_has ls 3 [(0, .ref (gA G (β + 0)))] → W p l e { frames := 3, cells := 0, slots := 0, locals := 73 } s m args below meth c H locs 0 0 (mZ below G none (wB M β 8 S') args s) (F0 m 17 ls [.int t1, .ref (gA G (β + 0))]) := by
    intro t1 S H locs ls h hw hl
    unfold pX7_readBay_b17 at h
    obtain ⟨S17, h17, h⟩ := cr1_some h
    refine r_callV (As := [.int t1]) (rest := []) (st1 := []) hx hb hml hown hts hE hw hl (mX7_accept l G (by omega) hR h17) (cwV 1 hts (zV gV_X7_159) rfl rfl rfl kdX7_accept ⟨Nat.le_of_ble_eq_true rfl, Nat.le_of_ble_eq_true rfl⟩) (by omega) (congrFun hR.1 _) rfl rfl rfl rfl (Nat.le_of_ble_eq_true rfl) dX7_readBay_17 ⟨Nat.zero_le _, Nat.zero_le _⟩ rfl (fun H locs hw => ?_)
    refine lv_aload_n hx hb dX7_readBay_20 rfl (lv_at hl 0 rfl) ?_
    refine lv_iconst (v := (nI 1)) hx hb dX7_readBay_21 (by decide) ?_
    refine lv_aload_n hx hb dX7_readBay_22 rfl (lv_at hl 0 rfl) ?_
    refine r_get (v := .ref (gA G (β + 2))) hx hb hts hinX7 hown hE hw hn 0 (by decide) (congrFun hR.1 _) rfl 5 (by decide) (hts _ (wz_in qF_X7_13)) rfl dX7_readBay_23 ?_
    refine lv_iconst (v := (nI 0)) hx hb dX7_readBay_26 (by decide) ?_
    refine p_iald hx hb hE hw hn 2 (by decide) (congrFun hR.2.2.1) dX7_readBay_27 h (fun v27 h => ?_)
    refine lv_iconst (v := (nI 1)) hx hb dX7_readBay_28 (by decide) ?_
    refine lv_isub hx hb dX7_readBay_29 ?_
    obtain ⟨v30, S30, h30, h⟩ := cw2_some h
    refine r_callV (As := [.int (nI 1), .int (v27 - (nI 1))]) (rest := []) (st1 := [.int v30]) hx hb hml hown hts hE hw hl (mX7_two l G (by omega) hR h30) (cwV 2 hts (zV gV_X7_166) rfl rfl rfl kdX7_two ⟨Nat.le_of_ble_eq_true rfl, Nat.le_of_ble_eq_true rfl⟩) (by omega) (congrFun hR.1 _) rfl rfl rfl rfl (Nat.le_of_ble_eq_true rfl) dX7_readBay_30 ⟨Nat.zero_le _, Nat.zero_le _⟩ rfl (fun H locs hw => ?_)
    refine lv_istore_n (lv' := [(1, .int v30), (0, .ref (gA G (β + 0)))]) hx hb dX7_readBay_33 rfl hl (by decide) rfl (fun ls hl => ?_)
    refine lv_aload_n hx hb dX7_readBay_34 rfl (lv_at hl 1 rfl) ?_
    refine lv_aload_n hx hb dX7_readBay_35 rfl (lv_at hl 1 rfl) ?_
    refine r_get (v := .ref (gA G (β + 2))) hx hb hts hinX7 hown hE hw hn 0 (by decide) (congrFun hR.1 _) rfl 5 (by decide) (hts _ (wz_in qF_X7_13)) rfl dX7_readBay_36 ?_
    refine lv_iload_n hx hb dX7_readBay_39 rfl (lv_at hl 0 rfl) ?_
    obtain ⟨v40, h40, h⟩ := cr1_some h
    refine r_callS (As := [.ref (gA G (β + 2)), .int v30]) (rest := [.ref (gA G (β + 0))]) (st1 := [.int v40, .ref (gA G (β + 0))]) hx hb hml hown hts hE hw hl (mc_subR 2 1 (by decide) (mX7_bayOn l G (by show β + 2 + 1 ≤ _; omega) hR.2.2.1 h40)) (va_cwS 2 hts (zS gS_X7_78) rfl rfl rfl kdX7_bayOn ⟨Nat.le_of_ble_eq_true rfl, Nat.le_of_ble_eq_true rfl⟩) rfl rfl (Nat.le_of_ble_eq_true rfl) dX7_readBay_40 ⟨Nat.zero_le _, Nat.zero_le _⟩ rfl (fun H locs hw => ?_)
    refine lv_bipush (v := (-9)) hx hb dX7_readBay_43 (by decide) ?_
    refine bi_ne (tgt := 52) hx hb dX7_readBay_45 (by decide) h (fun h => ?_) (fun h => ?_)
    · refine lv_iconst (v := (nI 0)) hx hb dX7_readBay_52 (by decide) ?_
      exact k53  v30 (nI 0) S30 _ _ _ h hw (lv_sub hl [1, 0] rfl)
    · refine lv_iconst (v := (nI 1)) hx hb dX7_readBay_48 (by decide) ?_
      refine lv_goto (tgt := 53) hx hb dX7_readBay_49 (by decide) ?_
      exact k53  v30 (nI 1) S30 _ _ _ h hw (lv_sub hl [1, 0] rfl)
  unfold pX7_readBay at h
  refine lv_aload_n hx hb dX7_readBay_0 rfl (lv_at hl 0 rfl) ?_
  refine lv_aload_n hx hb dX7_readBay_1 rfl (lv_at hl 0 rfl) ?_
  refine r_get (v := .ref (gA G (β + 2))) hx hb hts hinX7 hown hE hw hn 0 (by decide) (congrFun hR.1 _) rfl 5 (by decide) (hts _ (wz_in qF_X7_13)) rfl dX7_readBay_2 ?_
  refine lv_iconst (v := (nI 3)) hx hb dX7_readBay_5 (by decide) ?_
  refine p_iald hx hb hE hw hn 2 (by decide) (congrFun hR.2.2.1) dX7_readBay_6 h (fun v6 h => ?_)
  refine lv_bipush (v := (nI 6)) hx hb dX7_readBay_7 (by decide) ?_
  refine bi_ge (tgt := 16) hx hb dX7_readBay_9 (by decide) h (fun h => ?_) (fun h => ?_)
  · refine lv_iconst (v := (nI 0)) hx hb dX7_readBay_16 (by decide) ?_
    exact k17  (nI 0) S _ _ _ h hw (lv_sub hl [0] rfl)
  · refine lv_iconst (v := (nI 1)) hx hb dX7_readBay_12 (by decide) ?_
    refine lv_goto (tgt := 17) hx hb dX7_readBay_13 (by decide) ?_
    exact k17  (nI 1) S _ _ _ h hw (lv_sub hl [0] rfl)

set_option maxHeartbeats 4000000 in
set_option maxRecDepth 100000 in
theorem mX7_readDepot (l : Launch) (G : mG) {β : Nat} {M S S' : mM} (hn : β + 8 ≤ gN G) (hR : isMod G β) (h : pX7_readDepot S = some S') : MC l G yX7_readDepot zzX7_readDepot 3 73 [.ref (gA G (β + 0))] (wB M β 8 S) (wB M β 8 S') none := by
  refine mc_of (cc := cX7_readDepot) (maxL := 4) (ret := none) (by decide) rfl (Nat.le_of_ble_eq_true rfl) ?_
  intro p e s m args below meth c H ls hx hb hr hts hown hml hlocks hE hw hl
  have hl : lv_has ls 4 [(0, .ref (gA G (β + 0)))] := hl
  have hinX7 : ∀ w ∈ wsX70, w ∈ zzX7_readDepot := fun w h9 => wz_in (zinX7 w h9)
  have k50 : ∀ (x1 : Int32) (t1 : Int32) (S : mM) (H : Heap) (locs : List Loc) (ls : Array Slot), pX7_readDepot_b50  x1 t1 S = some S' → mW G s (wB M β 8 S) H locs → lv_has ls 4 [(0, .ref (gA G (β + 0))), (1, .int x1)] → W p l e { frames := 3, cells := 0, slots := 0, locals := 73 } s m args below meth c H locs 0 0 (mZ below G none (wB M β 8 S') args s) (F0 m 50 ls [.int t1, .ref (gA G (β + 0))]) := by
    intro x1 t1 S H locs ls h hw hl
    unfold pX7_readDepot_b50 at h
    obtain ⟨S50, h50, h⟩ := cr1_some h
    refine r_callV (As := [.int t1]) (rest := []) (st1 := []) hx hb hml hown hts hE hw hl (mX7_demand l G (by omega) hR h50) (cwV 1 hts (zV gV_X7_169) rfl rfl rfl kdX7_demand ⟨Nat.le_of_ble_eq_true rfl, Nat.le_of_ble_eq_true rfl⟩) (by omega) (congrFun hR.1 _) rfl rfl rfl rfl (Nat.le_of_ble_eq_true rfl) dX7_readDepot_50 ⟨Nat.zero_le _, Nat.zero_le _⟩ rfl (fun H locs hw => ?_)
    refine lv_aload_n hx hb dX7_readDepot_53 rfl (lv_at hl 0 rfl) ?_
    refine lv_iconst (v := (nI 0)) hx hb dX7_readDepot_54 (by decide) ?_
    refine lv_bipush (v := (nI 9)) hx hb dX7_readDepot_55 (by decide) ?_
    obtain ⟨v57, S57, h57, h⟩ := cw2_some h
    refine r_callV (As := [.int (nI 0), .int (nI 9)]) (rest := []) (st1 := [.int v57]) hx hb hml hown hts hE hw hl (mX7_digit l G (by omega) hR h57) (cwV 2 hts (zV gV_X7_163) rfl rfl rfl kdX7_digit ⟨Nat.le_of_ble_eq_true rfl, Nat.le_of_ble_eq_true rfl⟩) (by omega) (congrFun hR.1 _) rfl rfl rfl rfl (Nat.le_of_ble_eq_true rfl) dX7_readDepot_57 ⟨Nat.zero_le _, Nat.zero_le _⟩ rfl (fun H locs hw => ?_)
    refine lv_istore_n (lv' := [(2, .int v57), (0, .ref (gA G (β + 0))), (1, .int x1)]) hx hb dX7_readDepot_60 rfl hl (by decide) rfl (fun ls hl => ?_)
    refine lv_bipush (v := (nI 100)) hx hb dX7_readDepot_61 (by decide) ?_
    refine lv_iload_n hx hb dX7_readDepot_63 rfl (lv_at hl 0 rfl) ?_
    refine lv_imul hx hb dX7_readDepot_64 ?_
    refine lv_aload_n hx hb dX7_readDepot_65 rfl (lv_at hl 1 rfl) ?_
    refine lv_iconst (v := (nI 0)) hx hb dX7_readDepot_66 (by decide) ?_
    refine lv_bipush (v := (nI 99)) hx hb dX7_readDepot_67 (by decide) ?_
    obtain ⟨v69, S69, h69, h⟩ := cw2_some h
    refine r_callV (As := [.int (nI 0), .int (nI 99)]) (rest := [.int ((nI 100) * v57)]) (st1 := [.int v69, .int ((nI 100) * v57)]) hx hb hml hown hts hE hw hl (mX7_two l G (by omega) hR h69) (cwV 2 hts (zV gV_X7_166) rfl rfl rfl kdX7_two ⟨Nat.le_of_ble_eq_true rfl, Nat.le_of_ble_eq_true rfl⟩) (by omega) (congrFun hR.1 _) rfl rfl rfl rfl (Nat.le_of_ble_eq_true rfl) dX7_readDepot_69 ⟨Nat.zero_le _, Nat.zero_le _⟩ rfl (fun H locs hw => ?_)
    refine lv_iadd hx hb dX7_readDepot_72 ?_
    refine p_topi h (fun v73 h => ?_)
    refine lv_istore_n (lv' := [(3, .int v73), (2, .int v57), (0, .ref (gA G (β + 0))), (1, .int x1)]) hx hb dX7_readDepot_73 rfl hl (by decide) rfl (fun ls hl => ?_)
    refine lv_aload_n hx hb dX7_readDepot_74 rfl (lv_at hl 2 rfl) ?_
    refine p_get hx hb hts hinX7 hown hE hw hn 0 (by decide) (congrFun hR.1 _) rfl 4 (by decide) (hts _ (wz_in qF_X7_153)) rfl dX7_readDepot_75 h (fun v75 h => ?_)
    refine b_eq (tgt := 90) hx hb dX7_readDepot_78 (by decide) h (fun h => ?_) (fun h => ?_)
    · exact e_vw hx hb hr hlocks hw dX7_readDepot_90 h
    · refine lv_aload_n hx hb dX7_readDepot_81 rfl (lv_at hl 2 rfl) ?_
      refine r_get (v := .ref (gA G (β + 2))) hx hb hts hinX7 hown hE hw hn 0 (by decide) (congrFun hR.1 _) rfl 5 (by decide) (hts _ (wz_in qF_X7_13)) rfl dX7_readDepot_82 ?_
      refine lv_iload_n hx hb dX7_readDepot_85 rfl (lv_at hl 3 rfl) ?_
      refine lv_iload_n hx hb dX7_readDepot_86 rfl (lv_at hl 0 rfl) ?_
      obtain ⟨T87, h87, h⟩ := cvs_some h
      refine r_callS (As := [.ref (gA G (β + 2)), .int x1, .int v73]) (rest := []) (st1 := []) hx hb hml hown hts hE hw hl (mc_sub 2 1 (by decide) (mX7_addDepotTo l G (by show β + 2 + 1 ≤ _; omega) hR.2.2.1 h87)) (va_cwS 3 hts (zS gS_X7_180) rfl rfl rfl kdX7_addDepotTo ⟨Nat.le_of_ble_eq_true rfl, Nat.le_of_ble_eq_true rfl⟩) rfl rfl (Nat.le_of_ble_eq_true rfl) dX7_readDepot_87 ⟨Nat.zero_le _, Nat.zero_le _⟩ rfl (fun H locs hw => ?_)
      generalize wB S69 2 1 T87 = S87 at h hw
      exact e_vw hx hb hr hlocks hw dX7_readDepot_90 h
  have k16 : ∀ (t1 : Int32) (S : mM) (H : Heap) (locs : List Loc) (ls : Array Slot), pX7_readDepot_b16  t1 S = some S' → mW G s (wB M β 8 S) H locs → lv_has ls 4 [(0, .ref (gA G (β + 0)))] → W p l e { frames := 3, cells := 0, slots := 0, locals := 73 } s m args below meth c H locs 0 0 (mZ below G none (wB M β 8 S') args s) (F0 m 16 ls [.int t1, .ref (gA G (β + 0))]) := by
    intro t1 S H locs ls h hw hl
    unfold pX7_readDepot_b16 at h
    obtain ⟨S16, h16, h⟩ := cr1_some h
    refine r_callV (As := [.int t1]) (rest := []) (st1 := []) hx hb hml hown hts hE hw hl (mX7_accept l G (by omega) hR h16) (cwV 1 hts (zV gV_X7_159) rfl rfl rfl kdX7_accept ⟨Nat.le_of_ble_eq_true rfl, Nat.le_of_ble_eq_true rfl⟩) (by omega) (congrFun hR.1 _) rfl rfl rfl rfl (Nat.le_of_ble_eq_true rfl) dX7_readDepot_16 ⟨Nat.zero_le _, Nat.zero_le _⟩ rfl (fun H locs hw => ?_)
    refine lv_aload_n hx hb dX7_readDepot_19 rfl (lv_at hl 0 rfl) ?_
    refine lv_iconst (v := (nI 0)) hx hb dX7_readDepot_20 (by decide) ?_
    refine lv_aload_n hx hb dX7_readDepot_21 rfl (lv_at hl 0 rfl) ?_
    refine r_get (v := .ref (gA G (β + 2))) hx hb hts hinX7 hown hE hw hn 0 (by decide) (congrFun hR.1 _) rfl 5 (by decide) (hts _ (wz_in qF_X7_13)) rfl dX7_readDepot_22 ?_
    refine lv_iconst (v := (nI 0)) hx hb dX7_readDepot_25 (by decide) ?_
    refine p_iald hx hb hE hw hn 2 (by decide) (congrFun hR.2.2.1) dX7_readDepot_26 h (fun v26 h => ?_)
    obtain ⟨v27, S27, h27, h⟩ := cw2_some h
    refine r_callV (As := [.int (nI 0), .int v26]) (rest := []) (st1 := [.int v27]) hx hb hml hown hts hE hw hl (mX7_two l G (by omega) hR h27) (cwV 2 hts (zV gV_X7_166) rfl rfl rfl kdX7_two ⟨Nat.le_of_ble_eq_true rfl, Nat.le_of_ble_eq_true rfl⟩) (by omega) (congrFun hR.1 _) rfl rfl rfl rfl (Nat.le_of_ble_eq_true rfl) dX7_readDepot_27 ⟨Nat.zero_le _, Nat.zero_le _⟩ rfl (fun H locs hw => ?_)
    refine lv_istore_n (lv' := [(1, .int v27), (0, .ref (gA G (β + 0)))]) hx hb dX7_readDepot_30 rfl hl (by decide) rfl (fun ls hl => ?_)
    refine lv_aload_n hx hb dX7_readDepot_31 rfl (lv_at hl 1 rfl) ?_
    refine lv_aload_n hx hb dX7_readDepot_32 rfl (lv_at hl 1 rfl) ?_
    refine r_get (v := .ref (gA G (β + 2))) hx hb hts hinX7 hown hE hw hn 0 (by decide) (congrFun hR.1 _) rfl 5 (by decide) (hts _ (wz_in qF_X7_13)) rfl dX7_readDepot_33 ?_
    refine lv_iload_n hx hb dX7_readDepot_36 rfl (lv_at hl 0 rfl) ?_
    obtain ⟨v37, h37, h⟩ := cr1_some h
    refine r_callS (As := [.ref (gA G (β + 2)), .int v27]) (rest := [.ref (gA G (β + 0))]) (st1 := [.int v37, .ref (gA G (β + 0))]) hx hb hml hown hts hE hw hl (mc_subR 2 1 (by decide) (mX7_depotOn l G (by show β + 2 + 1 ≤ _; omega) hR.2.2.1 h37)) (va_cwS 2 hts (zS gS_X7_75) rfl rfl rfl kdX7_depotOn ⟨Nat.le_of_ble_eq_true rfl, Nat.le_of_ble_eq_true rfl⟩) rfl rfl (Nat.le_of_ble_eq_true rfl) dX7_readDepot_37 ⟨Nat.zero_le _, Nat.zero_le _⟩ rfl (fun H locs hw => ?_)
    refine lv_bipush (v := (-9)) hx hb dX7_readDepot_40 (by decide) ?_
    refine bi_ne (tgt := 49) hx hb dX7_readDepot_42 (by decide) h (fun h => ?_) (fun h => ?_)
    · refine lv_iconst (v := (nI 0)) hx hb dX7_readDepot_49 (by decide) ?_
      exact k50  v27 (nI 0) S27 _ _ _ h hw (lv_sub hl [1, 0] rfl)
    · refine lv_iconst (v := (nI 1)) hx hb dX7_readDepot_45 (by decide) ?_
      refine lv_goto (tgt := 50) hx hb dX7_readDepot_46 (by decide) ?_
      exact k50  v27 (nI 1) S27 _ _ _ h hw (lv_sub hl [1, 0] rfl)
  unfold pX7_readDepot at h
  refine lv_aload_n hx hb dX7_readDepot_0 rfl (lv_at hl 0 rfl) ?_
  refine lv_aload_n hx hb dX7_readDepot_1 rfl (lv_at hl 0 rfl) ?_
  refine r_get (v := .ref (gA G (β + 2))) hx hb hts hinX7 hown hE hw hn 0 (by decide) (congrFun hR.1 _) rfl 5 (by decide) (hts _ (wz_in qF_X7_13)) rfl dX7_readDepot_2 ?_
  refine lv_iconst (v := (nI 4)) hx hb dX7_readDepot_5 (by decide) ?_
  refine p_iald hx hb hE hw hn 2 (by decide) (congrFun hR.2.2.1) dX7_readDepot_6 h (fun v6 h => ?_)
  refine lv_iconst (v := (nI 4)) hx hb dX7_readDepot_7 (by decide) ?_
  refine bi_ge (tgt := 15) hx hb dX7_readDepot_8 (by decide) h (fun h => ?_) (fun h => ?_)
  · refine lv_iconst (v := (nI 0)) hx hb dX7_readDepot_15 (by decide) ?_
    exact k16  (nI 0) S _ _ _ h hw (lv_sub hl [0] rfl)
  · refine lv_iconst (v := (nI 1)) hx hb dX7_readDepot_11 (by decide) ?_
    refine lv_goto (tgt := 16) hx hb dX7_readDepot_12 (by decide) ?_
    exact k16  (nI 1) S _ _ _ h hw (lv_sub hl [0] rfl)

set_option maxHeartbeats 4000000 in
set_option maxRecDepth 100000 in
theorem mX7_readCar (l : Launch) (G : mG) {β : Nat} {M S S' : mM} (hn : β + 8 ≤ gN G) (hR : isMod G β) (h : pX7_readCar S = some S') : MC l G yX7_readCar zzX7_readCar 3 73 [.ref (gA G (β + 0))] (wB M β 8 S) (wB M β 8 S') none := by
  refine mc_of (cc := cX7_readCar) (maxL := 6) (ret := none) (by decide) rfl (Nat.le_of_ble_eq_true rfl) ?_
  intro p e s m args below meth c H ls hx hb hr hts hown hml hlocks hE hw hl
  have hl : lv_has ls 6 [(0, .ref (gA G (β + 0)))] := hl
  have hinX7 : ∀ w ∈ wsX70, w ∈ zzX7_readCar := fun w h9 => wz_in (zinX7 w h9)
  have k61 : ∀ (x1 : Int32) (t1 : Int32) (S : mM) (H : Heap) (locs : List Loc) (ls : Array Slot), pX7_readCar_b61  x1 t1 S = some S' → mW G s (wB M β 8 S) H locs → lv_has ls 6 [(0, .ref (gA G (β + 0))), (1, .int x1)] → W p l e { frames := 3, cells := 0, slots := 0, locals := 73 } s m args below meth c H locs 0 0 (mZ below G none (wB M β 8 S') args s) (F0 m 61 ls [.int t1, .ref (gA G (β + 0))]) := by
    intro x1 t1 S H locs ls h hw hl
    unfold pX7_readCar_b61 at h
    obtain ⟨S61, h61, h⟩ := cr1_some h
    refine r_callV (As := [.int t1]) (rest := []) (st1 := []) hx hb hml hown hts hE hw hl (mX7_accept l G (by omega) hR h61) (cwV 1 hts (zV gV_X7_159) rfl rfl rfl kdX7_accept ⟨Nat.le_of_ble_eq_true rfl, Nat.le_of_ble_eq_true rfl⟩) (by omega) (congrFun hR.1 _) rfl rfl rfl rfl (Nat.le_of_ble_eq_true rfl) dX7_readCar_61 ⟨Nat.zero_le _, Nat.zero_le _⟩ rfl (fun H locs hw => ?_)
    refine lv_aload_n hx hb dX7_readCar_64 rfl (lv_at hl 0 rfl) ?_
    refine lv_iconst (v := (nI 1)) hx hb dX7_readCar_65 (by decide) ?_
    refine lv_bipush (v := (nI 9)) hx hb dX7_readCar_66 (by decide) ?_
    obtain ⟨v68, S68, h68, h⟩ := cw2_some h
    refine r_callV (As := [.int (nI 1), .int (nI 9)]) (rest := []) (st1 := [.int v68]) hx hb hml hown hts hE hw hl (mX7_digit l G (by omega) hR h68) (cwV 2 hts (zV gV_X7_163) rfl rfl rfl kdX7_digit ⟨Nat.le_of_ble_eq_true rfl, Nat.le_of_ble_eq_true rfl⟩) (by omega) (congrFun hR.1 _) rfl rfl rfl rfl (Nat.le_of_ble_eq_true rfl) dX7_readCar_68 ⟨Nat.zero_le _, Nat.zero_le _⟩ rfl (fun H locs hw => ?_)
    refine lv_istore_n (lv' := [(2, .int v68), (0, .ref (gA G (β + 0))), (1, .int x1)]) hx hb dX7_readCar_71 rfl hl (by decide) rfl (fun ls hl => ?_)
    refine lv_aload_n hx hb dX7_readCar_72 rfl (lv_at hl 1 rfl) ?_
    refine lv_iconst (v := (nI 1)) hx hb dX7_readCar_73 (by decide) ?_
    refine lv_iconst (v := (nI 4)) hx hb dX7_readCar_74 (by decide) ?_
    obtain ⟨v75, S75, h75, h⟩ := cw2_some h
    refine r_callV (As := [.int (nI 1), .int (nI 4)]) (rest := []) (st1 := [.int v75]) hx hb hml hown hts hE hw hl (mX7_digit l G (by omega) hR h75) (cwV 2 hts (zV gV_X7_163) rfl rfl rfl kdX7_digit ⟨Nat.le_of_ble_eq_true rfl, Nat.le_of_ble_eq_true rfl⟩) (by omega) (congrFun hR.1 _) rfl rfl rfl rfl (Nat.le_of_ble_eq_true rfl) dX7_readCar_75 ⟨Nat.zero_le _, Nat.zero_le _⟩ rfl (fun H locs hw => ?_)
    refine lv_istore_n (lv' := [(3, .int v75), (2, .int v68), (0, .ref (gA G (β + 0))), (1, .int x1)]) hx hb dX7_readCar_78 rfl hl (by decide) rfl (fun ls hl => ?_)
    refine lv_aload_n hx hb dX7_readCar_79 rfl (lv_at hl 2 rfl) ?_
    refine lv_bipush (v := (nI 20)) hx hb dX7_readCar_80 (by decide) ?_
    refine lv_bipush (v := (nI 99)) hx hb dX7_readCar_82 (by decide) ?_
    obtain ⟨v84, S84, h84, h⟩ := cw2_some h
    refine r_callV (As := [.int (nI 20), .int (nI 99)]) (rest := []) (st1 := [.int v84]) hx hb hml hown hts hE hw hl (mX7_two l G (by omega) hR h84) (cwV 2 hts (zV gV_X7_166) rfl rfl rfl kdX7_two ⟨Nat.le_of_ble_eq_true rfl, Nat.le_of_ble_eq_true rfl⟩) (by omega) (congrFun hR.1 _) rfl rfl rfl rfl (Nat.le_of_ble_eq_true rfl) dX7_readCar_84 ⟨Nat.zero_le _, Nat.zero_le _⟩ rfl (fun H locs hw => ?_)
    refine lv_istore (lv' := [(4, .int v84), (3, .int v75), (2, .int v68), (0, .ref (gA G (β + 0))), (1, .int x1)]) hx hb dX7_readCar_87 hl (by decide) rfl (fun ls hl => ?_)
    refine lv_aload_n hx hb dX7_readCar_89 rfl (lv_at hl 3 rfl) ?_
    refine lv_iconst (v := (nI 0)) hx hb dX7_readCar_90 (by decide) ?_
    refine lv_iload hx hb dX7_readCar_91 (lv_at hl 0 rfl) ?_
    obtain ⟨v93, S93, h93, h⟩ := cw2_some h
    refine r_callV (As := [.int (nI 0), .int v84]) (rest := []) (st1 := [.int v93]) hx hb hml hown hts hE hw hl (mX7_two l G (by omega) hR h93) (cwV 2 hts (zV gV_X7_166) rfl rfl rfl kdX7_two ⟨Nat.le_of_ble_eq_true rfl, Nat.le_of_ble_eq_true rfl⟩) (by omega) (congrFun hR.1 _) rfl rfl rfl rfl (Nat.le_of_ble_eq_true rfl) dX7_readCar_93 ⟨Nat.zero_le _, Nat.zero_le _⟩ rfl (fun H locs hw => ?_)
    refine lv_istore (lv' := [(5, .int v93), (4, .int v84), (3, .int v75), (2, .int v68), (0, .ref (gA G (β + 0))), (1, .int x1)]) hx hb dX7_readCar_96 hl (by decide) rfl (fun ls hl => ?_)
    refine lv_aload_n hx hb dX7_readCar_98 rfl (lv_at hl 4 rfl) ?_
    refine p_get hx hb hts hinX7 hown hE hw hn 0 (by decide) (congrFun hR.1 _) rfl 4 (by decide) (hts _ (wz_in qF_X7_153)) rfl dX7_readCar_99 h (fun v99 h => ?_)
    refine b_eq (tgt := 119) hx hb dX7_readCar_102 (by decide) h (fun h => ?_) (fun h => ?_)
    · exact e_vw hx hb hr hlocks hw dX7_readCar_119 h
    · refine lv_aload_n hx hb dX7_readCar_105 rfl (lv_at hl 4 rfl) ?_
      refine r_get (v := .ref (gA G (β + 2))) hx hb hts hinX7 hown hE hw hn 0 (by decide) (congrFun hR.1 _) rfl 5 (by decide) (hts _ (wz_in qF_X7_13)) rfl dX7_readCar_106 ?_
      refine lv_iload_n hx hb dX7_readCar_109 rfl (lv_at hl 5 rfl) ?_
      refine lv_iload_n hx hb dX7_readCar_110 rfl (lv_at hl 3 rfl) ?_
      refine lv_iload_n hx hb dX7_readCar_111 rfl (lv_at hl 2 rfl) ?_
      refine lv_iload hx hb dX7_readCar_112 (lv_at hl 1 rfl) ?_
      refine lv_iload hx hb dX7_readCar_114 (lv_at hl 0 rfl) ?_
      obtain ⟨T116, h116, h⟩ := cvs_some h
      refine r_callS (As := [.ref (gA G (β + 2)), .int x1, .int v68, .int v75, .int v84, .int v93]) (rest := []) (st1 := []) hx hb hml hown hts hE hw hl (mc_sub 2 1 (by decide) (mX7_addCarTo l G (by show β + 2 + 1 ≤ _; omega) hR.2.2.1 h116)) (va_cwS 6 hts (zS gS_X7_186) rfl rfl rfl kdX7_addCarTo ⟨Nat.le_of_ble_eq_true rfl, Nat.le_of_ble_eq_true rfl⟩) rfl rfl (Nat.le_of_ble_eq_true rfl) dX7_readCar_116 ⟨Nat.zero_le _, Nat.zero_le _⟩ rfl (fun H locs hw => ?_)
      generalize wB S93 2 1 T116 = S116 at h hw
      exact e_vw hx hb hr hlocks hw dX7_readCar_119 h
  have k60 : ∀ (x1 : Int32) (S : mM) (H : Heap) (locs : List Loc) (ls : Array Slot), pX7_readCar_b60  x1 S = some S' → mW G s (wB M β 8 S) H locs → lv_has ls 6 [(0, .ref (gA G (β + 0))), (1, .int x1)] → W p l e { frames := 3, cells := 0, slots := 0, locals := 73 } s m args below meth c H locs 0 0 (mZ below G none (wB M β 8 S') args s) (F0 m 60 ls [.ref (gA G (β + 0))]) := by
    intro x1 S H locs ls h hw hl
    unfold pX7_readCar_b60 at h
    refine lv_iconst (v := (nI 0)) hx hb dX7_readCar_60 (by decide) ?_
    exact k61  x1 (nI 0) S _ _ _ h hw (lv_sub hl [0, 1] rfl)
  have k48 : ∀ (x1 : Int32) (t2 : Int32) (S : mM) (H : Heap) (locs : List Loc) (ls : Array Slot), pX7_readCar_b48  x1 t2 S = some S' → mW G s (wB M β 8 S) H locs → lv_has ls 6 [(0, .ref (gA G (β + 0))), (1, .int x1)] → W p l e { frames := 3, cells := 0, slots := 0, locals := 73 } s m args below meth c H locs 0 0 (mZ below G none (wB M β 8 S') args s) (F0 m 48 ls [.int t2, .ref (gA G (β + 2)), .ref (gA G (β + 0))]) := by
    intro x1 t2 S H locs ls h hw hl
    unfold pX7_readCar_b48 at h
    obtain ⟨v48, h48, h⟩ := cr1_some h
    refine r_callS (As := [.ref (gA G (β + 2)), .int t2]) (rest := [.ref (gA G (β + 0))]) (st1 := [.int v48, .ref (gA G (β + 0))]) hx hb hml hown hts hE hw hl (mc_subR 2 1 (by decide) (mX7_sizeOf l G (by show β + 2 + 1 ≤ _; omega) hR.2.2.1 h48)) (va_cwS 2 hts (zS gS_X7_64) rfl rfl rfl kdX7_sizeOf ⟨Nat.le_of_ble_eq_true rfl, Nat.le_of_ble_eq_true rfl⟩) rfl rfl (Nat.le_of_ble_eq_true rfl) dX7_readCar_48 ⟨Nat.zero_le _, Nat.zero_le _⟩ rfl (fun H locs hw => ?_)
    refine lv_bipush (v := (nI 8)) hx hb dX7_readCar_51 (by decide) ?_
    refine bi_ge (tgt := 60) hx hb dX7_readCar_53 (by decide) h (fun h => ?_) (fun h => ?_)
    · exact k60  x1 S _ _ _ h hw (lv_sub hl [0, 1] rfl)
    · refine lv_iconst (v := (nI 1)) hx hb dX7_readCar_56 (by decide) ?_
      refine lv_goto (tgt := 61) hx hb dX7_readCar_57 (by decide) ?_
      exact k61  x1 (nI 1) S _ _ _ h hw (lv_sub hl [0, 1] rfl)
  unfold pX7_readCar at h
  refine lv_aload_n hx hb dX7_readCar_0 rfl (lv_at hl 0 rfl) ?_
  refine r_get (v := .ref (gA G (β + 2))) hx hb hts hinX7 hown hE hw hn 0 (by decide) (congrFun hR.1 _) rfl 5 (by decide) (hts _ (wz_in qF_X7_13)) rfl dX7_readCar_1 ?_
  refine lv_iconst (v := (nI 5)) hx hb dX7_readCar_4 (by decide) ?_
  refine p_iald hx hb hE hw hn 2 (by decide) (congrFun hR.2.2.1) dX7_readCar_5 h (fun v5 h => ?_)
  refine lv_iconst (v := (nI 1)) hx hb dX7_readCar_6 (by decide) ?_
  refine lv_isub hx hb dX7_readCar_7 ?_
  refine p_topi h (fun v8 h => ?_)
  refine lv_istore_n (lv' := [(1, .int v8), (0, .ref (gA G (β + 0)))]) hx hb dX7_readCar_8 rfl hl (by decide) rfl (fun ls hl => ?_)
  refine lv_aload_n hx hb dX7_readCar_9 rfl (lv_at hl 1 rfl) ?_
  refine lv_aload_n hx hb dX7_readCar_10 rfl (lv_at hl 1 rfl) ?_
  refine lv_bipush (v := (nI 118)) hx hb dX7_readCar_11 (by decide) ?_
  obtain ⟨v13, h13, h⟩ := cr1_some h
  refine r_callV (As := [.int (nI 118)]) (rest := [.ref (gA G (β + 0))]) (st1 := [.int v13, .ref (gA G (β + 0))]) hx hb hml hown hts hE hw hl (mX7_isNext l G (by omega) hR h13) (cwV 1 hts (zV gV_X7_183) rfl rfl rfl kdX7_isNext ⟨Nat.le_of_ble_eq_true rfl, Nat.le_of_ble_eq_true rfl⟩) (by omega) (congrFun hR.1 _) rfl rfl rfl rfl (Nat.le_of_ble_eq_true rfl) dX7_readCar_13 ⟨Nat.zero_le _, Nat.zero_le _⟩ rfl (fun H locs hw => ?_)
  refine b_eq (tgt := 60) hx hb dX7_readCar_16 (by decide) h (fun h => ?_) (fun h => ?_)
  · exact k60  v8 S _ _ _ h hw (lv_sub hl [1, 0] rfl)
  · refine lv_iload_n hx hb dX7_readCar_19 rfl (lv_at hl 0 rfl) ?_
    refine b_lt (tgt := 60) hx hb dX7_readCar_20 (by decide) h (fun h => ?_) (fun h => ?_)
    · exact k60  v8 S _ _ _ h hw (lv_sub hl [1, 0] rfl)
    · refine lv_aload_n hx hb dX7_readCar_23 rfl (lv_at hl 1 rfl) ?_
      refine r_get (v := .ref (gA G (β + 2))) hx hb hts hinX7 hown hE hw hn 0 (by decide) (congrFun hR.1 _) rfl 5 (by decide) (hts _ (wz_in qF_X7_13)) rfl dX7_readCar_24 ?_
      refine lv_bipush (v := (nI 6)) hx hb dX7_readCar_27 (by decide) ?_
      refine p_iald hx hb hE hw hn 2 (by decide) (congrFun hR.2.2.1) dX7_readCar_29 h (fun v29 h => ?_)
      refine lv_bipush (v := (nI 16)) hx hb dX7_readCar_30 (by decide) ?_
      refine bi_ge (tgt := 60) hx hb dX7_readCar_32 (by decide) h (fun h => ?_) (fun h => ?_)
      · exact k60  v8 S _ _ _ h hw (lv_sub hl [1, 0] rfl)
      · refine lv_aload_n hx hb dX7_readCar_35 rfl (lv_at hl 1 rfl) ?_
        refine r_get (v := .ref (gA G (β + 2))) hx hb hts hinX7 hown hE hw hn 0 (by decide) (congrFun hR.1 _) rfl 5 (by decide) (hts _ (wz_in qF_X7_13)) rfl dX7_readCar_36 ?_
        refine lv_iload_n hx hb dX7_readCar_39 rfl (lv_at hl 0 rfl) ?_
        refine b_ge (tgt := 47) hx hb dX7_readCar_40 (by decide) h (fun h => ?_) (fun h => ?_)
        · refine lv_iload_n hx hb dX7_readCar_47 rfl (lv_at hl 0 rfl) ?_
          exact k48  v8 v8 S _ _ _ h hw (lv_sub hl [1, 0] rfl)
        · refine lv_iconst (v := (nI 0)) hx hb dX7_readCar_43 (by decide) ?_
          refine lv_goto (tgt := 48) hx hb dX7_readCar_44 (by decide) ?_
          exact k48  v8 (nI 0) S _ _ _ h hw (lv_sub hl [1, 0] rfl)

set_option maxHeartbeats 4000000 in
set_option maxRecDepth 100000 in
theorem mX7_readText (l : Launch) (G : mG) {β : Nat} {M S S' : mM} {r : Int32} (hn : β + 8 ≤ gN G) (hR : isMod G β) (h : pX7_readText S = some (r, S')) : MC l G yX7_readText zzX7_readText 4 98 [.ref (gA G (β + 0))] (wB M β 8 S) (wB M β 8 S') (some (.int r)) := by
  refine mc_of (cc := cX7_readText) (maxL := 2) (ret := (some .int)) (by decide) rfl (Nat.le_of_ble_eq_true rfl) ?_
  intro p e s m args below meth c H ls hx hb hr hts hown hml hlocks hE hw hl
  have hl : lv_has ls 2 [(0, .ref (gA G (β + 0)))] := hl
  have hinX7 : ∀ w ∈ wsX70, w ∈ zzX7_readText := fun w h9 => wz_in (zinX7 w h9)
  have k147 : ∀ (ih56 : mM → Option (Int32 × mM)) (_ : ∀ (S : mM) (H : Heap) (locs : List Loc) (ls : Array Slot), ih56 S = some (r, S') → mW G s (wB M β 8 S) H locs → lv_has ls 2 [(0, .ref (gA G (β + 0)))] → W p l e { frames := 4, cells := 0, slots := 0, locals := 98 } s m args below meth c H locs 0 0 (mZ below G (some (.int r)) (wB M β 8 S') args s) (F0 m 56 ls [])), ∀ (t1 : Int32) (S : mM) (H : Heap) (locs : List Loc) (ls : Array Slot), pX7_readText_b147 ih56 t1 S = some (r, S') → mW G s (wB M β 8 S) H locs → lv_has ls 2 [(0, .ref (gA G (β + 0)))] → W p l e { frames := 4, cells := 0, slots := 0, locals := 98 } s m args below meth c H locs 0 0 (mZ below G (some (.int r)) (wB M β 8 S') args s) (F0 m 147 ls [.int t1, .ref (gA G (β + 0))]) := by
    intro ih56 hih56 t1 S H locs ls h hw hl
    unfold pX7_readText_b147 at h
    obtain ⟨S147, h147, h⟩ := cr1_some h
    refine r_callV (As := [.int t1]) (rest := []) (st1 := []) hx hb hml hown hts hE hw hl (mX7_accept l G (by omega) hR h147) (cwV 1 hts (zV gV_X7_159) rfl rfl rfl kdX7_accept ⟨Nat.le_of_ble_eq_true rfl, Nat.le_of_ble_eq_true rfl⟩) (by omega) (congrFun hR.1 _) rfl rfl rfl rfl (Nat.le_of_ble_eq_true rfl) dX7_readText_147 ⟨Nat.zero_le _, Nat.zero_le _⟩ rfl (fun H locs hw => ?_)
    refine lv_aload_n hx hb dX7_readText_150 rfl (lv_at hl 0 rfl) ?_
    refine p_get hx hb hts hinX7 hown hE hw hn 0 (by decide) (congrFun hR.1 _) rfl 4 (by decide) (hts _ (wz_in qF_X7_153)) rfl dX7_readText_151 h (fun v151 h => ?_)
    refine b_eq (tgt := 56) hx hb dX7_readText_154 (by decide) h (fun h => ?_) (fun h => ?_)
    · exact hih56 S147 _ _ _ h hw (lv_sub hl [0] rfl)
    · refine lv_aload_n hx hb dX7_readText_157 rfl (lv_at hl 0 rfl) ?_
      refine r_get (v := .ref (gA G (β + 2))) hx hb hts hinX7 hown hE hw hn 0 (by decide) (congrFun hR.1 _) rfl 5 (by decide) (hts _ (wz_in qF_X7_13)) rfl dX7_readText_158 ?_
      obtain ⟨T161, h161, h⟩ := cvs_some h
      refine r_callS (As := [.ref (gA G (β + 2))]) (rest := []) (st1 := []) hx hb hml hown hts hE hw hl (mc_sub 2 1 (by decide) (mX7_addConvoyTo l G (by show β + 2 + 1 ≤ _; omega) hR.2.2.1 h161)) (va_cwS 1 hts (zS gS_X7_199) rfl rfl rfl kdX7_addConvoyTo ⟨Nat.le_of_ble_eq_true rfl, Nat.le_of_ble_eq_true rfl⟩) rfl rfl (Nat.le_of_ble_eq_true rfl) dX7_readText_161 ⟨Nat.zero_le _, Nat.zero_le _⟩ rfl (fun H locs hw => ?_)
      generalize wB S147 2 1 T161 = S161 at h hw
      refine lv_goto (tgt := 56) hx hb dX7_readText_164 (by decide) ?_
      exact hih56 S161 _ _ _ h hw (lv_sub hl [0] rfl)
  have k174 : ∀ (S : mM) (H : Heap) (locs : List Loc) (ls : Array Slot), pX7_readText_b174  S = some (r, S') → mW G s (wB M β 8 S) H locs → lv_has ls 2 [(0, .ref (gA G (β + 0)))] → W p l e { frames := 4, cells := 0, slots := 0, locals := 98 } s m args below meth c H locs 0 0 (mZ below G (some (.int r)) (wB M β 8 S') args s) (F0 m 174 ls []) := by
    intro S H locs ls h hw hl
    unfold pX7_readText_b174 at h
    refine lv_aload_n hx hb dX7_readText_174 rfl (lv_at hl 0 rfl) ?_
    refine p_get hx hb hts hinX7 hown hE hw hn 0 (by decide) (congrFun hR.1 _) rfl 4 (by decide) (hts _ (wz_in qF_X7_153)) rfl dX7_readText_175 h (fun v175 h => ?_)
    refine b_eq (tgt := 186) hx hb dX7_readText_178 (by decide) h (fun h => ?_) (fun h => ?_)
    · refine lv_aload_n hx hb dX7_readText_186 rfl (lv_at hl 0 rfl) ?_
      refine p_get hx hb hts hinX7 hown hE hw hn 0 (by decide) (congrFun hR.1 _) rfl 3 (by decide) (hts _ (wz_in qF_X7_150)) rfl dX7_readText_187 h (fun v187 h => ?_)
      exact e_iw hx hb hr hlocks hw dX7_readText_190 h
    · refine lv_bipush (v := (-9)) hx hb dX7_readText_181 (by decide) ?_
      refine lv_goto (tgt := 190) hx hb dX7_readText_183 (by decide) ?_
      exact e_iw hx hb hr hlocks hw dX7_readText_190 h
  have k56 : ∀ (k : Nat), ∀ (S : mM) (H : Heap) (locs : List Loc) (ls : Array Slot), pX7_readText_l56  k S = some (r, S') → mW G s (wB M β 8 S) H locs → lv_has ls 2 [(0, .ref (gA G (β + 0)))] → W p l e { frames := 4, cells := 0, slots := 0, locals := 98 } s m args below meth c H locs 0 0 (mZ below G (some (.int r)) (wB M β 8 S') args s) (F0 m 56 ls []) := by
    intro k
    induction k with
    | zero => intro S H locs ls h; cases h
    | succ k hih56 =>
      intro S H locs ls h hw hl
      obtain ⟨ih56, hk56⟩ : ∃ f, f = pX7_readText_l56  k := ⟨_, rfl⟩
      replace h : pX7_readText_lb56  (pX7_readText_l56  k) S = some (r, S') := h
      rw [← hk56] at h hih56
      clear hk56
      unfold pX7_readText_lb56 at h
      refine lv_aload_n hx hb dX7_readText_56 rfl (lv_at hl 0 rfl) ?_
      refine p_get hx hb hts hinX7 hown hE hw hn 0 (by decide) (congrFun hR.1 _) rfl 4 (by decide) (hts _ (wz_in qF_X7_153)) rfl dX7_readText_57 h (fun v57 h => ?_)
      refine b_eq (tgt := 174) hx hb dX7_readText_60 (by decide) h (fun h => ?_) (fun h => ?_)
      · exact k174  S _ _ _ h hw (lv_sub hl [0] rfl)
      · refine lv_aload_n hx hb dX7_readText_63 rfl (lv_at hl 0 rfl) ?_
        refine p_get hx hb hts hinX7 hown hE hw hn 0 (by decide) (congrFun hR.1 _) rfl 3 (by decide) (hts _ (wz_in qF_X7_150)) rfl dX7_readText_64 h (fun v64 h => ?_)
        refine lv_aload_n hx hb dX7_readText_67 rfl (lv_at hl 0 rfl) ?_
        refine p_get hx hb hts hinX7 hown hE hw hn 0 (by decide) (congrFun hR.1 _) rfl 2 (by decide) (hts _ (wz_in qF_X7_143)) rfl dX7_readText_68 h (fun v68 h => ?_)
        refine bi_ge (tgt := 174) hx hb dX7_readText_71 (by decide) h (fun h => ?_) (fun h => ?_)
        · exact k174  S _ _ _ h hw (lv_sub hl [0] rfl)
        · refine lv_aload_n hx hb dX7_readText_74 rfl (lv_at hl 0 rfl) ?_
          refine lv_bipush (v := (nI 103)) hx hb dX7_readText_75 (by decide) ?_
          obtain ⟨v77, h77, h⟩ := cr1_some h
          refine r_callV (As := [.int (nI 103)]) (rest := []) (st1 := [.int v77]) hx hb hml hown hts hE hw hl (mX7_isNext l G (by omega) hR h77) (cwV 1 hts (zV gV_X7_183) rfl rfl rfl kdX7_isNext ⟨Nat.le_of_ble_eq_true rfl, Nat.le_of_ble_eq_true rfl⟩) (by omega) (congrFun hR.1 _) rfl rfl rfl rfl (Nat.le_of_ble_eq_true rfl) dX7_readText_77 ⟨Nat.zero_le _, Nat.zero_le _⟩ rfl (fun H locs hw => ?_)
          refine b_eq (tgt := 90) hx hb dX7_readText_80 (by decide) h (fun h => ?_) (fun h => ?_)
          · refine lv_aload_n hx hb dX7_readText_90 rfl (lv_at hl 0 rfl) ?_
            refine lv_bipush (v := (nI 98)) hx hb dX7_readText_91 (by decide) ?_
            obtain ⟨v93, h93, h⟩ := cr1_some h
            refine r_callV (As := [.int (nI 98)]) (rest := []) (st1 := [.int v93]) hx hb hml hown hts hE hw hl (mX7_isNext l G (by omega) hR h93) (cwV 1 hts (zV gV_X7_183) rfl rfl rfl kdX7_isNext ⟨Nat.le_of_ble_eq_true rfl, Nat.le_of_ble_eq_true rfl⟩) (by omega) (congrFun hR.1 _) rfl rfl rfl rfl (Nat.le_of_ble_eq_true rfl) dX7_readText_93 ⟨Nat.zero_le _, Nat.zero_le _⟩ rfl (fun H locs hw => ?_)
            refine b_eq (tgt := 106) hx hb dX7_readText_96 (by decide) h (fun h => ?_) (fun h => ?_)
            · refine lv_aload_n hx hb dX7_readText_106 rfl (lv_at hl 0 rfl) ?_
              refine lv_bipush (v := (nI 100)) hx hb dX7_readText_107 (by decide) ?_
              obtain ⟨v109, h109, h⟩ := cr1_some h
              refine r_callV (As := [.int (nI 100)]) (rest := []) (st1 := [.int v109]) hx hb hml hown hts hE hw hl (mX7_isNext l G (by omega) hR h109) (cwV 1 hts (zV gV_X7_183) rfl rfl rfl kdX7_isNext ⟨Nat.le_of_ble_eq_true rfl, Nat.le_of_ble_eq_true rfl⟩) (by omega) (congrFun hR.1 _) rfl rfl rfl rfl (Nat.le_of_ble_eq_true rfl) dX7_readText_109 ⟨Nat.zero_le _, Nat.zero_le _⟩ rfl (fun H locs hw => ?_)
              refine b_eq (tgt := 122) hx hb dX7_readText_112 (by decide) h (fun h => ?_) (fun h => ?_)
              · refine lv_aload_n hx hb dX7_readText_122 rfl (lv_at hl 0 rfl) ?_
                refine lv_bipush (v := (nI 99)) hx hb dX7_readText_123 (by decide) ?_
                obtain ⟨v125, h125, h⟩ := cr1_some h
                refine r_callV (As := [.int (nI 99)]) (rest := []) (st1 := [.int v125]) hx hb hml hown hts hE hw hl (mX7_isNext l G (by omega) hR h125) (cwV 1 hts (zV gV_X7_183) rfl rfl rfl kdX7_isNext ⟨Nat.le_of_ble_eq_true rfl, Nat.le_of_ble_eq_true rfl⟩) (by omega) (congrFun hR.1 _) rfl rfl rfl rfl (Nat.le_of_ble_eq_true rfl) dX7_readText_125 ⟨Nat.zero_le _, Nat.zero_le _⟩ rfl (fun H locs hw => ?_)
                refine b_eq (tgt := 167) hx hb dX7_readText_128 (by decide) h (fun h => ?_) (fun h => ?_)
                · refine lv_aload_n hx hb dX7_readText_167 rfl (lv_at hl 0 rfl) ?_
                  obtain ⟨S168, h168, h⟩ := cr1_some h
                  refine r_callV (As := []) (rest := []) (st1 := []) hx hb hml hown hts hE hw hl (mX7_readCar l G (by omega) hR h168) (cwV 0 hts (zV gV_X7_202) rfl rfl rfl kdX7_readCar ⟨Nat.le_of_ble_eq_true rfl, Nat.le_of_ble_eq_true rfl⟩) (by omega) (congrFun hR.1 _) rfl rfl rfl rfl (Nat.le_of_ble_eq_true rfl) dX7_readText_168 ⟨Nat.zero_le _, Nat.zero_le _⟩ rfl (fun H locs hw => ?_)
                  refine lv_goto (tgt := 56) hx hb dX7_readText_171 (by decide) ?_
                  exact hih56 S168 _ _ _ h hw (lv_sub hl [0] rfl)
                · refine lv_aload_n hx hb dX7_readText_131 rfl (lv_at hl 0 rfl) ?_
                  refine lv_aload_n hx hb dX7_readText_132 rfl (lv_at hl 0 rfl) ?_
                  refine r_get (v := .ref (gA G (β + 2))) hx hb hts hinX7 hown hE hw hn 0 (by decide) (congrFun hR.1 _) rfl 5 (by decide) (hts _ (wz_in qF_X7_13)) rfl dX7_readText_133 ?_
                  refine lv_iconst (v := (nI 5)) hx hb dX7_readText_136 (by decide) ?_
                  refine p_iald hx hb hE hw hn 2 (by decide) (congrFun hR.2.2.1) dX7_readText_137 h (fun v137 h => ?_)
                  refine lv_iconst (v := (nI 4)) hx hb dX7_readText_138 (by decide) ?_
                  refine bi_ge (tgt := 146) hx hb dX7_readText_139 (by decide) h (fun h => ?_) (fun h => ?_)
                  · refine lv_iconst (v := (nI 0)) hx hb dX7_readText_146 (by decide) ?_
                    exact k147 ih56 hih56 (nI 0) S _ _ _ h hw (lv_sub hl [0] rfl)
                  · refine lv_iconst (v := (nI 1)) hx hb dX7_readText_142 (by decide) ?_
                    refine lv_goto (tgt := 147) hx hb dX7_readText_143 (by decide) ?_
                    exact k147 ih56 hih56 (nI 1) S _ _ _ h hw (lv_sub hl [0] rfl)
              · refine lv_aload_n hx hb dX7_readText_115 rfl (lv_at hl 0 rfl) ?_
                obtain ⟨S116, h116, h⟩ := cr1_some h
                refine r_callV (As := []) (rest := []) (st1 := []) hx hb hml hown hts hE hw hl (mX7_readDepot l G (by omega) hR h116) (cwV 0 hts (zV gV_X7_196) rfl rfl rfl kdX7_readDepot ⟨Nat.le_of_ble_eq_true rfl, Nat.le_of_ble_eq_true rfl⟩) (by omega) (congrFun hR.1 _) rfl rfl rfl rfl (Nat.le_of_ble_eq_true rfl) dX7_readText_116 ⟨Nat.zero_le _, Nat.zero_le _⟩ rfl (fun H locs hw => ?_)
                refine lv_goto (tgt := 56) hx hb dX7_readText_119 (by decide) ?_
                exact hih56 S116 _ _ _ h hw (lv_sub hl [0] rfl)
            · refine lv_aload_n hx hb dX7_readText_99 rfl (lv_at hl 0 rfl) ?_
              obtain ⟨S100, h100, h⟩ := cr1_some h
              refine r_callV (As := []) (rest := []) (st1 := []) hx hb hml hown hts hE hw hl (mX7_readBay l G (by omega) hR h100) (cwV 0 hts (zV gV_X7_193) rfl rfl rfl kdX7_readBay ⟨Nat.le_of_ble_eq_true rfl, Nat.le_of_ble_eq_true rfl⟩) (by omega) (congrFun hR.1 _) rfl rfl rfl rfl (Nat.le_of_ble_eq_true rfl) dX7_readText_100 ⟨Nat.zero_le _, Nat.zero_le _⟩ rfl (fun H locs hw => ?_)
              refine lv_goto (tgt := 56) hx hb dX7_readText_103 (by decide) ?_
              exact hih56 S100 _ _ _ h hw (lv_sub hl [0] rfl)
          · refine lv_aload_n hx hb dX7_readText_83 rfl (lv_at hl 0 rfl) ?_
            obtain ⟨S84, h84, h⟩ := cr1_some h
            refine r_callV (As := []) (rest := []) (st1 := []) hx hb hml hown hts hE hw hl (mX7_readGate l G (by omega) hR h84) (cwV 0 hts (zV gV_X7_190) rfl rfl rfl kdX7_readGate ⟨Nat.le_of_ble_eq_true rfl, Nat.le_of_ble_eq_true rfl⟩) (by omega) (congrFun hR.1 _) rfl rfl rfl rfl (Nat.le_of_ble_eq_true rfl) dX7_readText_84 ⟨Nat.zero_le _, Nat.zero_le _⟩ rfl (fun H locs hw => ?_)
            refine lv_goto (tgt := 56) hx hb dX7_readText_87 (by decide) ?_
            exact hih56 S84 _ _ _ h hw (lv_sub hl [0] rfl)
  have k12 : ∀ (k : Nat), ∀ (x1 : Int32) (S : mM) (H : Heap) (locs : List Loc) (ls : Array Slot), pX7_readText_l12  k x1 S = some (r, S') → mW G s (wB M β 8 S) H locs → lv_has ls 2 [(0, .ref (gA G (β + 0))), (1, .int x1)] → W p l e { frames := 4, cells := 0, slots := 0, locals := 98 } s m args below meth c H locs 0 0 (mZ below G (some (.int r)) (wB M β 8 S') args s) (F0 m 12 ls []) := by
    intro k
    induction k with
    | zero => intro x1 S H locs ls h; cases h
    | succ k hih12 =>
      intro x1 S H locs ls h hw hl
      obtain ⟨ih12, hk12⟩ : ∃ f, f = pX7_readText_l12  k := ⟨_, rfl⟩
      replace h : pX7_readText_lb12  (pX7_readText_l12  k) x1 S = some (r, S') := h
      rw [← hk12] at h hih12
      clear hk12
      unfold pX7_readText_lb12 at h
      refine lv_iload_n hx hb dX7_readText_12 rfl (lv_at hl 1 rfl) ?_
      refine lv_sipush (v := (nI 250)) hx hb dX7_readText_13 (by decide) ?_
      refine bi_ge (tgt := 32) hx hb dX7_readText_16 (by decide) h (fun h => ?_) (fun h => ?_)
      · refine lv_aload_n hx hb dX7_readText_32 rfl (lv_at hl 0 rfl) ?_
        refine lv_aload_n hx hb dX7_readText_33 rfl (lv_at hl 0 rfl) ?_
        refine lv_bipush (v := (nI 87)) hx hb dX7_readText_34 (by decide) ?_
        obtain ⟨v36, h36, h⟩ := cr1_some h
        refine r_callV (As := [.int (nI 87)]) (rest := [.ref (gA G (β + 0))]) (st1 := [.int v36, .ref (gA G (β + 0))]) hx hb hml hown hts hE hw hl (mX7_isNext l G (by omega) hR h36) (cwV 1 hts (zV gV_X7_183) rfl rfl rfl kdX7_isNext ⟨Nat.le_of_ble_eq_true rfl, Nat.le_of_ble_eq_true rfl⟩) (by omega) (congrFun hR.1 _) rfl rfl rfl rfl (Nat.le_of_ble_eq_true rfl) dX7_readText_36 ⟨Nat.zero_le _, Nat.zero_le _⟩ rfl (fun H locs hw => ?_)
        obtain ⟨S39, h39, h⟩ := cr1_some h
        refine r_callV (As := [.int v36]) (rest := []) (st1 := []) hx hb hml hown hts hE hw hl (mX7_accept l G (by omega) hR h39) (cwV 1 hts (zV gV_X7_159) rfl rfl rfl kdX7_accept ⟨Nat.le_of_ble_eq_true rfl, Nat.le_of_ble_eq_true rfl⟩) (by omega) (congrFun hR.1 _) rfl rfl rfl rfl (Nat.le_of_ble_eq_true rfl) dX7_readText_39 ⟨Nat.zero_le _, Nat.zero_le _⟩ rfl (fun H locs hw => ?_)
        refine lv_aload_n hx hb dX7_readText_42 rfl (lv_at hl 0 rfl) ?_
        refine r_get (v := .ref (gA G (β + 2))) hx hb hts hinX7 hown hE hw hn 0 (by decide) (congrFun hR.1 _) rfl 5 (by decide) (hts _ (wz_in qF_X7_13)) rfl dX7_readText_43 ?_
        refine lv_iconst (v := (nI 0)) hx hb dX7_readText_46 (by decide) ?_
        refine lv_aload_n hx hb dX7_readText_47 rfl (lv_at hl 0 rfl) ?_
        refine lv_bipush (v := (nI 10)) hx hb dX7_readText_48 (by decide) ?_
        refine lv_bipush (v := (nI 60)) hx hb dX7_readText_50 (by decide) ?_
        obtain ⟨v52, S52, h52, h⟩ := cw2_some h
        refine r_callV (As := [.int (nI 10), .int (nI 60)]) (rest := [.int (nI 0), .ref (gA G (β + 2))]) (st1 := [.int v52, .int (nI 0), .ref (gA G (β + 2))]) hx hb hml hown hts hE hw hl (mX7_two l G (by omega) hR h52) (cwV 2 hts (zV gV_X7_166) rfl rfl rfl kdX7_two ⟨Nat.le_of_ble_eq_true rfl, Nat.le_of_ble_eq_true rfl⟩) (by omega) (congrFun hR.1 _) rfl rfl rfl rfl (Nat.le_of_ble_eq_true rfl) dX7_readText_52 ⟨Nat.zero_le _, Nat.zero_le _⟩ rfl (fun H locs hw => ?_)
        refine p_iast hx hb hE hw hn 2 (by decide) (congrFun hR.2.2.1) dX7_readText_55 h (fun S55 h H locs hw => ?_)
        exact k56 fuel S55 _ _ _ h hw (lv_sub hl [0] rfl)
      · refine lv_aload_n hx hb dX7_readText_19 rfl (lv_at hl 0 rfl) ?_
        refine r_get (v := .ref (gA G (β + 2))) hx hb hts hinX7 hown hE hw hn 0 (by decide) (congrFun hR.1 _) rfl 5 (by decide) (hts _ (wz_in qF_X7_13)) rfl dX7_readText_20 ?_
        refine lv_iload_n hx hb dX7_readText_23 rfl (lv_at hl 1 rfl) ?_
        refine lv_iconst (v := (nI 0)) hx hb dX7_readText_24 (by decide) ?_
        refine p_iast hx hb hE hw hn 2 (by decide) (congrFun hR.2.2.1) dX7_readText_25 h (fun S25 h H locs hw => ?_)
        refine p_iinc (w := (nI 1)) 1 (fun v26 => [(1, .int v26), (0, .ref (gA G (β + 0)))]) hx hb dX7_readText_26 hl rfl (by decide) (by decide) h (fun _ => rfl) (fun v26 h ls hl => ?_)
        refine lv_goto (tgt := 12) hx hb dX7_readText_29 (by decide) ?_
        exact hih12 v26 S25 _ _ _ h hw (lv_sub hl [1, 0] rfl)
  unfold pX7_readText at h
  refine lv_aload_n hx hb dX7_readText_0 rfl (lv_at hl 0 rfl) ?_
  refine lv_iconst (v := (nI 0)) hx hb dX7_readText_1 (by decide) ?_
  refine p_put hx hb hts hinX7 tyX7 tyX7_ok nmX7 hown hE hw hn 0 (by decide) (congrFun hR.1 _) rfl 3 (by decide) (hts _ (wz_in qF_X7_150)) rfl (by decide +kernel) (Nat.le_of_ble_eq_true rfl) (congrFun hR.1 _) dX7_readText_2 h (fun S2 h H locs hw => ?_)
  refine lv_aload_n hx hb dX7_readText_5 rfl (lv_at hl 0 rfl) ?_
  refine lv_iconst (v := (nI 1)) hx hb dX7_readText_6 (by decide) ?_
  refine p_putz hx hb hts hinX7 tyX7 tyX7_ok nmX7 hown hE hw hn 0 (by decide) (congrFun hR.1 _) rfl 4 (by decide) (hts _ (wz_in qF_X7_153)) rfl (by decide +kernel) (Nat.le_of_ble_eq_true rfl) (congrFun hR.1 _) dX7_readText_7 h (fun S7 h H locs hw => ?_)
  refine lv_iconst (v := (nI 0)) hx hb dX7_readText_10 (by decide) ?_
  refine lv_istore_n (lv' := [(1, .int (nI 0)), (0, .ref (gA G (β + 0)))]) hx hb dX7_readText_11 rfl hl (by decide) rfl (fun ls hl => ?_)
  exact k12 fuel (nI 0) S7 _ _ _ h hw (lv_sub hl [1, 0] rfl)

set_option maxHeartbeats 4000000 in
set_option maxRecDepth 100000 in
theorem mX7_errorPosition (l : Launch) (G : mG) {β : Nat} {M S S' : mM} {r : Int32} (hn : β + 8 ≤ gN G) (hR : isMod G β) (h : pX7_errorPosition S = some (r, S')) : MC l G yX7_errorPosition zzX7_errorPosition 5 119 [.ref (gA G (β + 0))] (wB M β 8 S) (wB M β 8 S') (some (.int r)) := by
  refine mc_of (cc := cX7_errorPosition) (maxL := 1) (ret := (some .int)) (by decide) rfl (Nat.le_of_ble_eq_true rfl) ?_
  intro p e s m args below meth c H ls hx hb hr hts hown hml hlocks hE hw hl
  have hl : lv_has ls 1 [(0, .ref (gA G (β + 0)))] := hl
  have hinX7 : ∀ w ∈ wsX70, w ∈ zzX7_errorPosition := fun w h9 => wz_in (zinX7 w h9)
  unfold pX7_errorPosition at h
  refine lv_aload_n hx hb dX7_errorPosition_0 rfl (lv_at hl 0 rfl) ?_
  refine lv_iconst (v := (nI 0)) hx hb dX7_errorPosition_1 (by decide) ?_
  refine p_put hx hb hts hinX7 tyX7 tyX7_ok nmX7 hown hE hw hn 0 (by decide) (congrFun hR.1 _) rfl 0 (by decide) (hts _ (wz_in qF_X7_39)) rfl (by decide +kernel) (Nat.le_of_ble_eq_true rfl) (congrFun hR.1 _) dX7_errorPosition_2 h (fun S2 h H locs hw => ?_)
  refine lv_aload_n hx hb dX7_errorPosition_5 rfl (lv_at hl 0 rfl) ?_
  obtain ⟨v6, S6, h6, h⟩ := cw2_some h
  refine r_callV (As := []) (rest := []) (st1 := [.int v6]) hx hb hml hown hts hE hw hl (mX7_readText l G (by omega) hR h6) (cwV 0 hts (zV gV_X7_205) rfl rfl rfl kdX7_readText ⟨Nat.le_of_ble_eq_true rfl, Nat.le_of_ble_eq_true rfl⟩) (by omega) (congrFun hR.1 _) rfl rfl rfl rfl (Nat.le_of_ble_eq_true rfl) dX7_errorPosition_6 ⟨Nat.zero_le _, Nat.zero_le _⟩ rfl (fun H locs hw => ?_)
  exact e_iw hx hb hr hlocks hw dX7_errorPosition_9 h

set_option maxHeartbeats 4000000 in
set_option maxRecDepth 100000 in
theorem mX7_load (l : Launch) (G : mG) {β : Nat} {M S S' : mM} {r : Int32} (hn : β + 8 ≤ gN G) (hR : isMod G β) (h : pX7_load S = some (r, S')) : MC l G yX7_load zzX7_load 5 119 [.ref (gA G (β + 0))] (wB M β 8 S) (wB M β 8 S') (some (.int r)) := by
  refine mc_of (cc := cX7_load) (maxL := 1) (ret := (some .int)) (by decide) rfl (Nat.le_of_ble_eq_true rfl) ?_
  intro p e s m args below meth c H ls hx hb hr hts hown hml hlocks hE hw hl
  have hl : lv_has ls 1 [(0, .ref (gA G (β + 0)))] := hl
  have hinX7 : ∀ w ∈ wsX70, w ∈ zzX7_load := fun w h9 => wz_in (zinX7 w h9)
  have k15 : ∀ (t1 : Int32) (S : mM) (H : Heap) (locs : List Loc) (ls : Array Slot), pX7_load_b15  t1 S = some (r, S') → mW G s (wB M β 8 S) H locs → lv_has ls 1 [(0, .ref (gA G (β + 0)))] → W p l e { frames := 5, cells := 0, slots := 0, locals := 119 } s m args below meth c H locs 0 0 (mZ below G (some (.int r)) (wB M β 8 S') args s) (F0 m 15 ls [.int t1, .ref (gA G (β + 0))]) := by
    intro t1 S H locs ls h hw hl
    unfold pX7_load_b15 at h
    obtain ⟨v15, S15, h15, h⟩ := cw2_some h
    refine r_callV (As := [.int t1]) (rest := []) (st1 := [.int v15]) hx hb hml hown hts hE hw hl (mX7_refused l G (by omega) hR h15) (cwV 1 hts (zV gV_X7_146) rfl rfl rfl kdX7_refused ⟨Nat.le_of_ble_eq_true rfl, Nat.le_of_ble_eq_true rfl⟩) (by omega) (congrFun hR.1 _) rfl rfl rfl rfl (Nat.le_of_ble_eq_true rfl) dX7_load_15 ⟨Nat.zero_le _, Nat.zero_le _⟩ rfl (fun H locs hw => ?_)
    refine b_eq (tgt := 23) hx hb dX7_load_18 (by decide) h (fun h => ?_) (fun h => ?_)
    · refine lv_aload_n hx hb dX7_load_23 rfl (lv_at hl 0 rfl) ?_
      refine r_get (v := .ref (gA G (β + 2))) hx hb hts hinX7 hown hE hw hn 0 (by decide) (congrFun hR.1 _) rfl 5 (by decide) (hts _ (wz_in qF_X7_13)) rfl dX7_load_24 ?_
      refine lv_iconst (v := (nI 0)) hx hb dX7_load_27 (by decide) ?_
      refine lv_aload_n hx hb dX7_load_28 rfl (lv_at hl 0 rfl) ?_
      refine r_get (v := .ref (gA G (β + 3))) hx hb hts hinX7 hown hE hw hn 0 (by decide) (congrFun hR.1 _) rfl 6 (by decide) (hts _ (wz_in qF_X7_16)) rfl dX7_load_29 ?_
      refine lv_iconst (v := (nI 0)) hx hb dX7_load_32 (by decide) ?_
      refine lv_sipush (v := (nI 250)) hx hb dX7_load_33 (by decide) ?_
      obtain ⟨S36, h36, h⟩ := cr1_some h
      refine r_callS (As := [.ref (gA G (β + 2)), .int (nI 0), .ref (gA G (β + 3)), .int (nI 0), .int (nI 250)]) (rest := []) (st1 := []) hx hb hml hown hts hE hw hl (mX7_copy l G (by omega) hR (by decide) (by decide) hR.2.2.1 hR.2.2.2.1 h36) (va_cwS 5 hts (zS gS_X7_47) rfl rfl rfl kdX7_copy ⟨Nat.le_of_ble_eq_true rfl, Nat.le_of_ble_eq_true rfl⟩) rfl rfl (Nat.le_of_ble_eq_true rfl) dX7_load_36 ⟨Nat.zero_le _, Nat.zero_le _⟩ rfl (fun H locs hw => ?_)
      refine lv_aload_n hx hb dX7_load_39 rfl (lv_at hl 0 rfl) ?_
      refine lv_iconst (v := (nI 0)) hx hb dX7_load_40 (by decide) ?_
      refine p_put hx hb hts hinX7 tyX7 tyX7_ok nmX7 hown hE hw hn 0 (by decide) (congrFun hR.1 _) rfl 9 (by decide) (hts _ (wz_in qF_X7_44)) rfl (by decide +kernel) (Nat.le_of_ble_eq_true rfl) (congrFun hR.1 _) dX7_load_41 h (fun S41 h H locs hw => ?_)
      refine lv_aload_n hx hb dX7_load_44 rfl (lv_at hl 0 rfl) ?_
      refine r_get (v := .ref (gA G (β + 7))) hx hb hts hinX7 hown hE hw hn 0 (by decide) (congrFun hR.1 _) rfl 11 (by decide) (hts _ (wz_in qF_X7_28)) rfl dX7_load_45 ?_
      refine lv_iconst (v := (nI 0)) hx hb dX7_load_48 (by decide) ?_
      refine lv_iconst (v := (nI 0)) hx hb dX7_load_49 (by decide) ?_
      refine p_zast hx hb hE hw hn 7 (by decide) (congrFun hR.2.2.2.2.2.2.2) dX7_load_50 h (fun S50 h H locs hw => ?_)
      refine lv_aload_n hx hb dX7_load_51 rfl (lv_at hl 0 rfl) ?_
      refine r_get (v := .ref (gA G (β + 7))) hx hb hts hinX7 hown hE hw hn 0 (by decide) (congrFun hR.1 _) rfl 11 (by decide) (hts _ (wz_in qF_X7_28)) rfl dX7_load_52 ?_
      refine lv_iconst (v := (nI 1)) hx hb dX7_load_55 (by decide) ?_
      refine lv_iconst (v := (nI 0)) hx hb dX7_load_56 (by decide) ?_
      refine p_zast hx hb hE hw hn 7 (by decide) (congrFun hR.2.2.2.2.2.2.2) dX7_load_57 h (fun S57 h H locs hw => ?_)
      refine lv_aload_n hx hb dX7_load_58 rfl (lv_at hl 0 rfl) ?_
      refine r_get (v := .ref (gA G (β + 3))) hx hb hts hinX7 hown hE hw hn 0 (by decide) (congrFun hR.1 _) rfl 6 (by decide) (hts _ (wz_in qF_X7_16)) rfl dX7_load_59 ?_
      refine lv_bipush (v := (nI 6)) hx hb dX7_load_62 (by decide) ?_
      refine p_iald hx hb hE hw hn 3 (by decide) (congrFun hR.2.2.2.1) dX7_load_64 h (fun v64 h => ?_)
      exact e_iw hx hb hr hlocks hw dX7_load_65 h
    · refine lv_iconst (v := (nI 0)) hx hb dX7_load_21 (by decide) ?_
      exact e_iw hx hb hr hlocks hw dX7_load_22 h
  unfold pX7_load at h
  refine lv_aload_n hx hb dX7_load_0 rfl (lv_at hl 0 rfl) ?_
  refine lv_aload_n hx hb dX7_load_1 rfl (lv_at hl 0 rfl) ?_
  obtain ⟨v2, S2, h2, h⟩ := cw2_some h
  refine r_callV (As := []) (rest := [.ref (gA G (β + 0))]) (st1 := [.int v2, .ref (gA G (β + 0))]) hx hb hml hown hts hE hw hl (mX7_readText l G (by omega) hR h2) (cwV 0 hts (zV gV_X7_205) rfl rfl rfl kdX7_readText ⟨Nat.le_of_ble_eq_true rfl, Nat.le_of_ble_eq_true rfl⟩) (by omega) (congrFun hR.1 _) rfl rfl rfl rfl (Nat.le_of_ble_eq_true rfl) dX7_load_2 ⟨Nat.zero_le _, Nat.zero_le _⟩ rfl (fun H locs hw => ?_)
  refine lv_bipush (v := (-9)) hx hb dX7_load_5 (by decide) ?_
  refine bi_ne (tgt := 14) hx hb dX7_load_7 (by decide) h (fun h => ?_) (fun h => ?_)
  · refine lv_iconst (v := (nI 1)) hx hb dX7_load_14 (by decide) ?_
    exact k15  (nI 1) S2 _ _ _ h hw (lv_sub hl [0] rfl)
  · refine lv_iconst (v := (nI 0)) hx hb dX7_load_10 (by decide) ?_
    refine lv_goto (tgt := 15) hx hb dX7_load_11 (by decide) ?_
    exact k15  (nI 0) S2 _ _ _ h hw (lv_sub hl [0] rfl)

set_option maxHeartbeats 4000000 in
set_option maxRecDepth 100000 in
theorem mX7_tanks (l : Launch) (G : mG) {β : Nat} {M S : mM} {r : Int32} (hn : β + 1 ≤ gN G) (hR : isRow G β) (h : pX7_tanks S = some r) : MC l G yX7_tanks zzX7_tanks 1 21 [.ref (gA G (β + 0))] (wB M β 1 S) (wB M β 1 S) (some (.int r)) := by
  refine mc_of (cc := cX7_tanks) (maxL := 3) (ret := (some .int)) (by decide) rfl (Nat.le_of_ble_eq_true rfl) ?_
  intro p e s m args below meth c H ls hx hb hr hts hown hml hlocks hE hw hl
  have hl : lv_has ls 3 [(0, .ref (gA G (β + 0)))] := hl
  have k4 : ∀ (k : Nat), ∀ (x1 : Int32) (x2 : Int32) (H : Heap) (locs : List Loc) (ls : Array Slot), pX7_tanks_l4  S k x1 x2 = some r → mW G s (wB M β 1 S) H locs → lv_has ls 3 [(0, .ref (gA G (β + 0))), (1, .int x1), (2, .int x2)] → W p l e { frames := 1, cells := 0, slots := 0, locals := 21 } s m args below meth c H locs 0 0 (mZ below G (some (.int r)) (wB M β 1 S) args s) (F0 m 4 ls []) := by
    intro k
    induction k with
    | zero => intro x1 x2 H locs ls h; cases h
    | succ k hih4 =>
      intro x1 x2 H locs ls h hw hl
      obtain ⟨ih4, hk4⟩ : ∃ f, f = pX7_tanks_l4  S k := ⟨_, rfl⟩
      replace h : pX7_tanks_lb4  (pX7_tanks_l4  S k) S x1 x2 = some r := h
      rw [← hk4] at h hih4
      clear hk4
      unfold pX7_tanks_lb4 at h
      refine lv_iload_n hx hb dX7_tanks_4 rfl (lv_at hl 2 rfl) ?_
      refine lv_aload_n hx hb dX7_tanks_5 rfl (lv_at hl 0 rfl) ?_
      refine lv_bipush (v := (nI 6)) hx hb dX7_tanks_6 (by decide) ?_
      refine p_iald hx hb hE hw hn 0 (by decide) (congrFun hR) dX7_tanks_8 h (fun v8 h => ?_)
      refine bi_ge (tgt := 28) hx hb dX7_tanks_9 (by decide) h (fun h => ?_) (fun h => ?_)
      · refine lv_iload_n hx hb dX7_tanks_28 rfl (lv_at hl 1 rfl) ?_
        exact e_i hx hb hr hlocks hw dX7_tanks_29 h
      · refine lv_iload_n hx hb dX7_tanks_12 rfl (lv_at hl 1 rfl) ?_
        refine lv_aload_n hx hb dX7_tanks_13 rfl (lv_at hl 0 rfl) ?_
        refine lv_iload_n hx hb dX7_tanks_14 rfl (lv_at hl 2 rfl) ?_
        refine lv_iconst (v := (nI 3)) hx hb dX7_tanks_15 (by decide) ?_
        obtain ⟨v16, h16, h⟩ := cr1_some h
        refine r_callS (As := [.int x2, .int (nI 3)]) (rest := [.ref (gA G (β + 0)), .int x1]) (st1 := [.int v16, .ref (gA G (β + 0)), .int x1]) hx hb hml hown hts hE hw hl (mX7_carAt l G (M := (wB M β 1 S)) h16) (va_cwS 2 hts (zS gS_X7_72) rfl rfl rfl kdX7_carAt ⟨Nat.le_of_ble_eq_true rfl, Nat.le_of_ble_eq_true rfl⟩) rfl rfl (Nat.le_of_ble_eq_true rfl) dX7_tanks_16 ⟨Nat.zero_le _, Nat.zero_le _⟩ rfl (fun H locs hw => ?_)
        refine p_iald hx hb hE hw hn 0 (by decide) (congrFun hR) dX7_tanks_19 h (fun v19 h => ?_)
        refine lv_iadd hx hb dX7_tanks_20 ?_
        refine p_topi h (fun v21 h => ?_)
        refine lv_istore_n (lv' := [(1, .int v21), (0, .ref (gA G (β + 0))), (2, .int x2)]) hx hb dX7_tanks_21 rfl hl (by decide) rfl (fun ls hl => ?_)
        refine p_iinc (w := (nI 1)) 2 (fun v22 => [(2, .int v22), (1, .int v21), (0, .ref (gA G (β + 0)))]) hx hb dX7_tanks_22 hl rfl (by decide) (by decide) h (fun _ => rfl) (fun v22 h ls hl => ?_)
        refine lv_goto (tgt := 4) hx hb dX7_tanks_25 (by decide) ?_
        exact hih4 v21 v22 _ _ _ h hw (lv_sub hl [2, 1, 0] rfl)
  unfold pX7_tanks at h
  refine lv_iconst (v := (nI 0)) hx hb dX7_tanks_0 (by decide) ?_
  refine lv_istore_n (lv' := [(1, .int (nI 0)), (0, .ref (gA G (β + 0)))]) hx hb dX7_tanks_1 rfl hl (by decide) rfl (fun ls hl => ?_)
  refine lv_iconst (v := (nI 0)) hx hb dX7_tanks_2 (by decide) ?_
  refine lv_istore_n (lv' := [(2, .int (nI 0)), (1, .int (nI 0)), (0, .ref (gA G (β + 0)))]) hx hb dX7_tanks_3 rfl hl (by decide) rfl (fun ls hl => ?_)
  exact k4 fuel (nI 0) (nI 0) _ _ _ h hw (lv_sub hl [2, 1, 0] rfl)

set_option maxHeartbeats 4000000 in
set_option maxRecDepth 100000 in
theorem mX7_depots (l : Launch) (G : mG) {β : Nat} {M S : mM} {r : Int32} (hn : β + 1 ≤ gN G) (hR : isRow G β) (h : pX7_depots S = some r) : MC l G yX7_depots zzX7_depots 1 21 [.ref (gA G (β + 0))] (wB M β 1 S) (wB M β 1 S) (some (.int r)) := by
  refine mc_of (cc := cX7_depots) (maxL := 3) (ret := (some .int)) (by decide) rfl (Nat.le_of_ble_eq_true rfl) ?_
  intro p e s m args below meth c H ls hx hb hr hts hown hml hlocks hE hw hl
  have hl : lv_has ls 3 [(0, .ref (gA G (β + 0)))] := hl
  have k4 : ∀ (k : Nat), ∀ (x1 : Int32) (x2 : Int32) (H : Heap) (locs : List Loc) (ls : Array Slot), pX7_depots_l4  S k x1 x2 = some r → mW G s (wB M β 1 S) H locs → lv_has ls 3 [(0, .ref (gA G (β + 0))), (1, .int x1), (2, .int x2)] → W p l e { frames := 1, cells := 0, slots := 0, locals := 21 } s m args below meth c H locs 0 0 (mZ below G (some (.int r)) (wB M β 1 S) args s) (F0 m 4 ls []) := by
    intro k
    induction k with
    | zero => intro x1 x2 H locs ls h; cases h
    | succ k hih4 =>
      intro x1 x2 H locs ls h hw hl
      obtain ⟨ih4, hk4⟩ : ∃ f, f = pX7_depots_l4  S k := ⟨_, rfl⟩
      replace h : pX7_depots_lb4  (pX7_depots_l4  S k) S x1 x2 = some r := h
      rw [← hk4] at h hih4
      clear hk4
      unfold pX7_depots_lb4 at h
      refine lv_iload_n hx hb dX7_depots_4 rfl (lv_at hl 2 rfl) ?_
      refine lv_aload_n hx hb dX7_depots_5 rfl (lv_at hl 0 rfl) ?_
      refine lv_iconst (v := (nI 4)) hx hb dX7_depots_6 (by decide) ?_
      refine p_iald hx hb hE hw hn 0 (by decide) (congrFun hR) dX7_depots_7 h (fun v7 h => ?_)
      refine bi_ge (tgt := 27) hx hb dX7_depots_8 (by decide) h (fun h => ?_) (fun h => ?_)
      · refine lv_iload_n hx hb dX7_depots_27 rfl (lv_at hl 1 rfl) ?_
        exact e_i hx hb hr hlocks hw dX7_depots_28 h
      · refine lv_iload_n hx hb dX7_depots_11 rfl (lv_at hl 1 rfl) ?_
        refine lv_aload_n hx hb dX7_depots_12 rfl (lv_at hl 0 rfl) ?_
        refine lv_iload_n hx hb dX7_depots_13 rfl (lv_at hl 2 rfl) ?_
        refine lv_iconst (v := (nI 1)) hx hb dX7_depots_14 (by decide) ?_
        obtain ⟨v15, h15, h⟩ := cr1_some h
        refine r_callS (As := [.int x2, .int (nI 1)]) (rest := [.ref (gA G (β + 0)), .int x1]) (st1 := [.int v15, .ref (gA G (β + 0)), .int x1]) hx hb hml hown hts hE hw hl (mX7_depotAt l G (M := (wB M β 1 S)) h15) (va_cwS 2 hts (zS gS_X7_61) rfl rfl rfl kdX7_depotAt ⟨Nat.le_of_ble_eq_true rfl, Nat.le_of_ble_eq_true rfl⟩) rfl rfl (Nat.le_of_ble_eq_true rfl) dX7_depots_15 ⟨Nat.zero_le _, Nat.zero_le _⟩ rfl (fun H locs hw => ?_)
        refine p_iald hx hb hE hw hn 0 (by decide) (congrFun hR) dX7_depots_18 h (fun v18 h => ?_)
        refine lv_iadd hx hb dX7_depots_19 ?_
        refine p_topi h (fun v20 h => ?_)
        refine lv_istore_n (lv' := [(1, .int v20), (0, .ref (gA G (β + 0))), (2, .int x2)]) hx hb dX7_depots_20 rfl hl (by decide) rfl (fun ls hl => ?_)
        refine p_iinc (w := (nI 1)) 2 (fun v21 => [(2, .int v21), (1, .int v20), (0, .ref (gA G (β + 0)))]) hx hb dX7_depots_21 hl rfl (by decide) (by decide) h (fun _ => rfl) (fun v21 h ls hl => ?_)
        refine lv_goto (tgt := 4) hx hb dX7_depots_24 (by decide) ?_
        exact hih4 v20 v21 _ _ _ h hw (lv_sub hl [2, 1, 0] rfl)
  unfold pX7_depots at h
  refine lv_iconst (v := (nI 0)) hx hb dX7_depots_0 (by decide) ?_
  refine lv_istore_n (lv' := [(1, .int (nI 0)), (0, .ref (gA G (β + 0)))]) hx hb dX7_depots_1 rfl hl (by decide) rfl (fun ls hl => ?_)
  refine lv_iconst (v := (nI 0)) hx hb dX7_depots_2 (by decide) ?_
  refine lv_istore_n (lv' := [(2, .int (nI 0)), (1, .int (nI 0)), (0, .ref (gA G (β + 0)))]) hx hb dX7_depots_3 rfl hl (by decide) rfl (fun ls hl => ?_)
  exact k4 fuel (nI 0) (nI 0) _ _ _ h hw (lv_sub hl [2, 1, 0] rfl)

set_option maxHeartbeats 4000000 in
set_option maxRecDepth 100000 in
theorem mX7_about (l : Launch) (G : mG) {β : Nat} {M S S' : mM} {a1 : Int32} {r : Int32} (hn : β + 8 ≤ gN G) (hR : isMod G β) (h : pX7_about a1 S = some (r, S')) : MC l G yX7_about zzX7_about 2 44 [.ref (gA G (β + 0)), .int a1] (wB M β 8 S) (wB M β 8 S') (some (.int r)) := by
  refine mc_of (cc := cX7_about) (maxL := 2) (ret := (some .int)) (by decide) rfl (Nat.le_of_ble_eq_true rfl) ?_
  intro p e s m args below meth c H ls hx hb hr hts hown hml hlocks hE hw hl
  have hl : lv_has ls 2 [(0, .ref (gA G (β + 0))), (1, .int a1)] := hl
  have hinX7 : ∀ w ∈ wsX70, w ∈ zzX7_about := fun w h9 => wz_in (zinX7 w h9)
  have k18 : ∀ (x1 : Int32) (t1 : Int32) (S : mM) (H : Heap) (locs : List Loc) (ls : Array Slot), pX7_about_b18  x1 t1 S = some (r, S') → mW G s (wB M β 8 S) H locs → lv_has ls 2 [(0, .ref (gA G (β + 0))), (1, .int x1)] → W p l e { frames := 2, cells := 0, slots := 0, locals := 44 } s m args below meth c H locs 0 0 (mZ below G (some (.int r)) (wB M β 8 S') args s) (F0 m 18 ls [.int t1, .ref (gA G (β + 0))]) := by
    intro x1 t1 S H locs ls h hw hl
    unfold pX7_about_b18 at h
    obtain ⟨v18, S18, h18, h⟩ := cw2_some h
    refine r_callV (As := [.int t1]) (rest := []) (st1 := [.int v18]) hx hb hml hown hts hE hw hl (mX7_refused l G (by omega) hR h18) (cwV 1 hts (zV gV_X7_146) rfl rfl rfl kdX7_refused ⟨Nat.le_of_ble_eq_true rfl, Nat.le_of_ble_eq_true rfl⟩) (by omega) (congrFun hR.1 _) rfl rfl rfl rfl (Nat.le_of_ble_eq_true rfl) dX7_about_18 ⟨Nat.zero_le _, Nat.zero_le _⟩ rfl (fun H locs hw => ?_)
    refine b_eq (tgt := 26) hx hb dX7_about_21 (by decide) h (fun h => ?_) (fun h => ?_)
    · refine lv_iload_n hx hb dX7_about_26 rfl (lv_at hl 1 rfl) ?_
      refine sw_if h (fun hc7 h => ?_) (fun hc7 h => ?_)
      · rw [hc7]
        refine lv_tableIn (off := 33) (tgt := 60) hx hb dX7_about_27 (by decide) (by decide) rfl (by decide) ?_
        refine lv_aload_n hx hb dX7_about_60 rfl (lv_at hl 0 rfl) ?_
        refine r_get (v := .ref (gA G (β + 3))) hx hb hts hinX7 hown hE hw hn 0 (by decide) (congrFun hR.1 _) rfl 6 (by decide) (hts _ (wz_in qF_X7_16)) rfl dX7_about_61 ?_
        refine lv_iconst (v := (nI 2)) hx hb dX7_about_64 (by decide) ?_
        obtain ⟨v65, h65, h⟩ := cr1_some h
        refine r_callS (As := [.ref (gA G (β + 3)), .int (nI 2)]) (rest := []) (st1 := [.int v65]) hx hb hml hown hts hE hw hl (mc_subR 3 1 (by decide) (mX7_countAt l G (by show β + 3 + 1 ≤ _; omega) hR.2.2.2.1 h65)) (va_cwS 2 hts (zS gS_X7_130) rfl rfl rfl kdX7_countAt ⟨Nat.le_of_ble_eq_true rfl, Nat.le_of_ble_eq_true rfl⟩) rfl rfl (Nat.le_of_ble_eq_true rfl) dX7_about_65 ⟨Nat.zero_le _, Nat.zero_le _⟩ rfl (fun H locs hw => ?_)
        exact e_iw hx hb hr hlocks hw dX7_about_68 h
      refine sw_if h (fun hc8 h => ?_) (fun hc8 h => ?_)
      · rw [hc8]
        refine lv_tableIn (off := 42) (tgt := 69) hx hb dX7_about_27 (by decide) (by decide) rfl (by decide) ?_
        refine lv_aload_n hx hb dX7_about_69 rfl (lv_at hl 0 rfl) ?_
        refine r_get (v := .ref (gA G (β + 3))) hx hb hts hinX7 hown hE hw hn 0 (by decide) (congrFun hR.1 _) rfl 6 (by decide) (hts _ (wz_in qF_X7_16)) rfl dX7_about_70 ?_
        refine lv_iconst (v := (nI 1)) hx hb dX7_about_73 (by decide) ?_
        obtain ⟨v74, h74, h⟩ := cr1_some h
        refine r_callS (As := [.ref (gA G (β + 3)), .int (nI 1)]) (rest := []) (st1 := [.int v74]) hx hb hml hown hts hE hw hl (mc_subR 3 1 (by decide) (mX7_countAt l G (by show β + 3 + 1 ≤ _; omega) hR.2.2.2.1 h74)) (va_cwS 2 hts (zS gS_X7_130) rfl rfl rfl kdX7_countAt ⟨Nat.le_of_ble_eq_true rfl, Nat.le_of_ble_eq_true rfl⟩) rfl rfl (Nat.le_of_ble_eq_true rfl) dX7_about_74 ⟨Nat.zero_le _, Nat.zero_le _⟩ rfl (fun H locs hw => ?_)
        exact e_iw hx hb hr hlocks hw dX7_about_77 h
      refine sw_if h (fun hc9 h => ?_) (fun hc9 h => ?_)
      · rw [hc9]
        refine lv_tableIn (off := 51) (tgt := 78) hx hb dX7_about_27 (by decide) (by decide) rfl (by decide) ?_
        refine lv_aload_n hx hb dX7_about_78 rfl (lv_at hl 0 rfl) ?_
        refine r_get (v := .ref (gA G (β + 3))) hx hb hts hinX7 hown hE hw hn 0 (by decide) (congrFun hR.1 _) rfl 6 (by decide) (hts _ (wz_in qF_X7_16)) rfl dX7_about_79 ?_
        obtain ⟨v82, h82, h⟩ := cr1_some h
        refine r_callS (As := [.ref (gA G (β + 3))]) (rest := []) (st1 := [.int v82]) hx hb hml hown hts hE hw hl (mc_subR 3 1 (by decide) (mX7_tanks l G (by show β + 3 + 1 ≤ _; omega) hR.2.2.2.1 h82)) (va_cwS 1 hts (zS gS_X7_211) rfl rfl rfl kdX7_tanks ⟨Nat.le_of_ble_eq_true rfl, Nat.le_of_ble_eq_true rfl⟩) rfl rfl (Nat.le_of_ble_eq_true rfl) dX7_about_82 ⟨Nat.zero_le _, Nat.zero_le _⟩ rfl (fun H locs hw => ?_)
        exact e_iw hx hb hr hlocks hw dX7_about_85 h
      refine sw_if h (fun hc10 h => ?_) (fun hc10 h => ?_)
      · rw [hc10]
        refine lv_tableIn (off := 59) (tgt := 86) hx hb dX7_about_27 (by decide) (by decide) rfl (by decide) ?_
        refine lv_aload_n hx hb dX7_about_86 rfl (lv_at hl 0 rfl) ?_
        refine r_get (v := .ref (gA G (β + 3))) hx hb hts hinX7 hown hE hw hn 0 (by decide) (congrFun hR.1 _) rfl 6 (by decide) (hts _ (wz_in qF_X7_16)) rfl dX7_about_87 ?_
        obtain ⟨v90, h90, h⟩ := cr1_some h
        refine r_callS (As := [.ref (gA G (β + 3))]) (rest := []) (st1 := [.int v90]) hx hb hml hown hts hE hw hl (mc_subR 3 1 (by decide) (mX7_depots l G (by show β + 3 + 1 ≤ _; omega) hR.2.2.2.1 h90)) (va_cwS 1 hts (zS gS_X7_215) rfl rfl rfl kdX7_depots ⟨Nat.le_of_ble_eq_true rfl, Nat.le_of_ble_eq_true rfl⟩) rfl rfl (Nat.le_of_ble_eq_true rfl) dX7_about_90 ⟨Nat.zero_le _, Nat.zero_le _⟩ rfl (fun H locs hw => ?_)
        exact e_iw hx hb hr hlocks hw dX7_about_93 h
      refine sw_if h (fun hc11 h => ?_) (fun hc11 h => ?_)
      · rw [hc11]
        refine lv_tableIn (off := 67) (tgt := 94) hx hb dX7_about_27 (by decide) (by decide) rfl (by decide) ?_
        refine lv_aload_n hx hb dX7_about_94 rfl (lv_at hl 0 rfl) ?_
        refine r_get (v := .ref (gA G (β + 3))) hx hb hts hinX7 hown hE hw hn 0 (by decide) (congrFun hR.1 _) rfl 6 (by decide) (hts _ (wz_in qF_X7_16)) rfl dX7_about_95 ?_
        refine lv_bipush (v := (nI 7)) hx hb dX7_about_98 (by decide) ?_
        refine p_iald hx hb hE hw hn 3 (by decide) (congrFun hR.2.2.2.1) dX7_about_100 h (fun v100 h => ?_)
        exact e_iw hx hb hr hlocks hw dX7_about_101 h
      · refine lv_tableOut (tgt := 102) hx hb dX7_about_27 (by have q0 := lv_neT hc7 (by decide : ((nI 7) : Int32).toInt = 7); have q1 := lv_neT hc8 (by decide : ((nI 8) : Int32).toInt = 8); have q2 := lv_neT hc9 (by decide : ((nI 9) : Int32).toInt = 9); have q3 := lv_neT hc10 (by decide : ((nI 10) : Int32).toInt = 10); have q4 := lv_neT hc11 (by decide : ((nI 11) : Int32).toInt = 11); omega) (by decide) ?_
        refine lv_aload_n hx hb dX7_about_102 rfl (lv_at hl 0 rfl) ?_
        refine r_get (v := .ref (gA G (β + 3))) hx hb hts hinX7 hown hE hw hn 0 (by decide) (congrFun hR.1 _) rfl 6 (by decide) (hts _ (wz_in qF_X7_16)) rfl dX7_about_103 ?_
        refine lv_iload_n hx hb dX7_about_106 rfl (lv_at hl 1 rfl) ?_
        refine p_iald hx hb hE hw hn 3 (by decide) (congrFun hR.2.2.2.1) dX7_about_107 h (fun v107 h => ?_)
        exact e_iw hx hb hr hlocks hw dX7_about_108 h
    · refine lv_iconst (v := (nI 0)) hx hb dX7_about_24 (by decide) ?_
      exact e_iw hx hb hr hlocks hw dX7_about_25 h
  unfold pX7_about at h
  refine lv_aload_n hx hb dX7_about_0 rfl (lv_at hl 0 rfl) ?_
  refine lv_iload_n hx hb dX7_about_1 rfl (lv_at hl 1 rfl) ?_
  refine lv_i2l hx hb dX7_about_2 rfl ?_
  refine lv_lconst (v := (lN 0)) hx hb dX7_about_3 (by decide) ?_
  refine lv_ldc2 (v := (lN 11)) hx hb hown (hts _ (wz_in qK_X7_209)) dX7_about_4 ?_
  obtain ⟨v7, h7, h⟩ := cr1_some h
  refine r_callS (As := [.long (a1.toInt64), .long (lN 0), .long (lN 11)]) (rest := [.ref (gA G (β + 0))]) (st1 := [.int v7, .ref (gA G (β + 0))]) hx hb hml hown hts hE hw hl (mX7_in l G (M := (wB M β 8 S)) h7) (va_cwS 3 hts (zS gS_X7_139) rfl rfl rfl kdX7_in ⟨Nat.le_of_ble_eq_true rfl, Nat.le_of_ble_eq_true rfl⟩) rfl rfl (Nat.le_of_ble_eq_true rfl) dX7_about_7 ⟨Nat.zero_le _, Nat.zero_le _⟩ rfl (fun H locs hw => ?_)
  refine b_eq (tgt := 17) hx hb dX7_about_10 (by decide) h (fun h => ?_) (fun h => ?_)
  · refine lv_iconst (v := (nI 1)) hx hb dX7_about_17 (by decide) ?_
    exact k18  a1 (nI 1) S _ _ _ h hw (lv_sub hl [0, 1] rfl)
  · refine lv_iconst (v := (nI 0)) hx hb dX7_about_13 (by decide) ?_
    refine lv_goto (tgt := 18) hx hb dX7_about_14 (by decide) ?_
    exact k18  a1 (nI 0) S _ _ _ h hw (lv_sub hl [0, 1] rfl)

set_option maxHeartbeats 4000000 in
set_option maxRecDepth 100000 in
theorem mX7_isConvoy (l : Launch) (G : mG) {β : Nat} {M S : mM} {a1 : Int32} {r : Int32} (hn : β + 8 ≤ gN G) (hR : isMod G β) (h : pX7_isConvoy a1 S = some r) : MC l G yX7_isConvoy zzX7_isConvoy 1 25 [.ref (gA G (β + 0)), .int a1] (wB M β 8 S) (wB M β 8 S) (some (.int r)) := by
  refine mc_of (cc := cX7_isConvoy) (maxL := 2) (ret := (some .boolean)) (by decide) rfl (Nat.le_of_ble_eq_true rfl) ?_
  intro p e s m args below meth c H ls hx hb hr hts hown hml hlocks hE hw hl
  have hl : lv_has ls 2 [(0, .ref (gA G (β + 0))), (1, .int a1)] := hl
  have hinX7 : ∀ w ∈ wsX70, w ∈ zzX7_isConvoy := fun w h9 => wz_in (zinX7 w h9)
  unfold pX7_isConvoy at h
  refine lv_iload_n hx hb dX7_isConvoy_0 rfl (lv_at hl 1 rfl) ?_
  refine lv_i2l hx hb dX7_isConvoy_1 rfl ?_
  refine lv_lconst (v := (lN 0)) hx hb dX7_isConvoy_2 (by decide) ?_
  refine lv_aload_n hx hb dX7_isConvoy_3 rfl (lv_at hl 0 rfl) ?_
  refine r_get (v := .ref (gA G (β + 3))) hx hb hts hinX7 hown hE hw hn 0 (by decide) (congrFun hR.1 _) rfl 6 (by decide) (hts _ (wz_in qF_X7_16)) rfl dX7_isConvoy_4 ?_
  refine lv_iconst (v := (nI 5)) hx hb dX7_isConvoy_7 (by decide) ?_
  refine p_iald hx hb hE hw hn 3 (by decide) (congrFun hR.2.2.2.1) dX7_isConvoy_8 h (fun v8 h => ?_)
  refine lv_iconst (v := (nI 1)) hx hb dX7_isConvoy_9 (by decide) ?_
  refine lv_isub hx hb dX7_isConvoy_10 ?_
  refine lv_i2l hx hb dX7_isConvoy_11 rfl ?_
  obtain ⟨v12, h12, h⟩ := cr1_some h
  refine r_callS (As := [.long (a1.toInt64), .long (lN 0), .long ((v8 - (nI 1)).toInt64)]) (rest := []) (st1 := [.int v12]) hx hb hml hown hts hE hw hl (mX7_in l G (M := (wB M β 8 S)) h12) (va_cwS 3 hts (zS gS_X7_139) rfl rfl rfl kdX7_in ⟨Nat.le_of_ble_eq_true rfl, Nat.le_of_ble_eq_true rfl⟩) rfl rfl (Nat.le_of_ble_eq_true rfl) dX7_isConvoy_12 ⟨Nat.zero_le _, Nat.zero_le _⟩ rfl (fun H locs hw => ?_)
  exact e_z hx hb hr hlocks hw dX7_isConvoy_15 h

set_option maxHeartbeats 4000000 in
set_option maxRecDepth 100000 in
theorem mX7_litersOf (l : Launch) (G : mG) {β : Nat} {M S : mM} {a2 : Int32} {r : Int32} (hn : β + 1 ≤ gN G) (hR : isRow G β) (h : pX7_litersOf a2 S = some r) : MC l G yX7_litersOf zzX7_litersOf 2 43 [.ref (gA G (β + 0)), .int a2] (wB M β 1 S) (wB M β 1 S) (some (.int r)) := by
  refine mc_of (cc := cX7_litersOf) (maxL := 4) (ret := (some .int)) (by decide) rfl (Nat.le_of_ble_eq_true rfl) ?_
  intro p e s m args below meth c H ls hx hb hr hts hown hml hlocks hE hw hl
  have hl : lv_has ls 4 [(0, .ref (gA G (β + 0))), (1, .int a2)] := hl
  have k4 : ∀ (k : Nat), ∀ (x1 : Int32) (x2 : Int32) (x3 : Int32) (H : Heap) (locs : List Loc) (ls : Array Slot), pX7_litersOf_l4  S k x1 x2 x3 = some r → mW G s (wB M β 1 S) H locs → lv_has ls 4 [(0, .ref (gA G (β + 0))), (1, .int x1), (2, .int x2), (3, .int x3)] → W p l e { frames := 2, cells := 0, slots := 0, locals := 43 } s m args below meth c H locs 0 0 (mZ below G (some (.int r)) (wB M β 1 S) args s) (F0 m 4 ls []) := by
    intro k
    induction k with
    | zero => intro x1 x2 x3 H locs ls h; cases h
    | succ k hih4 =>
      intro x1 x2 x3 H locs ls h hw hl
      obtain ⟨ih4, hk4⟩ : ∃ f, f = pX7_litersOf_l4  S k := ⟨_, rfl⟩
      replace h : pX7_litersOf_lb4  (pX7_litersOf_l4  S k) S x1 x2 x3 = some r := h
      rw [← hk4] at h hih4
      clear hk4
      unfold pX7_litersOf_lb4 at h
      refine lv_iload_n hx hb dX7_litersOf_4 rfl (lv_at hl 3 rfl) ?_
      refine lv_aload_n hx hb dX7_litersOf_5 rfl (lv_at hl 0 rfl) ?_
      refine lv_iload_n hx hb dX7_litersOf_6 rfl (lv_at hl 1 rfl) ?_
      obtain ⟨v7, h7, h⟩ := cr1_some h
      refine r_callS (As := [.ref (gA G (β + 0)), .int x1]) (rest := [.int x3]) (st1 := [.int v7, .int x3]) hx hb hml hown hts hE hw hl (mX7_sizeOf l G (by omega) hR h7) (va_cwS 2 hts (zS gS_X7_64) rfl rfl rfl kdX7_sizeOf ⟨Nat.le_of_ble_eq_true rfl, Nat.le_of_ble_eq_true rfl⟩) rfl rfl (Nat.le_of_ble_eq_true rfl) dX7_litersOf_7 ⟨Nat.zero_le _, Nat.zero_le _⟩ rfl (fun H locs hw => ?_)
      refine bi_ge (tgt := 34) hx hb dX7_litersOf_10 (by decide) h (fun h => ?_) (fun h => ?_)
      · refine lv_iload_n hx hb dX7_litersOf_34 rfl (lv_at hl 2 rfl) ?_
        exact e_i hx hb hr hlocks hw dX7_litersOf_35 h
      · refine lv_iload_n hx hb dX7_litersOf_13 rfl (lv_at hl 2 rfl) ?_
        refine lv_aload_n hx hb dX7_litersOf_14 rfl (lv_at hl 0 rfl) ?_
        refine lv_aload_n hx hb dX7_litersOf_15 rfl (lv_at hl 0 rfl) ?_
        refine lv_iload_n hx hb dX7_litersOf_16 rfl (lv_at hl 1 rfl) ?_
        refine lv_iload_n hx hb dX7_litersOf_17 rfl (lv_at hl 3 rfl) ?_
        obtain ⟨v18, h18, h⟩ := cr1_some h
        refine r_callS (As := [.ref (gA G (β + 0)), .int x1, .int x3]) (rest := [.ref (gA G (β + 0)), .int x2]) (st1 := [.int v18, .ref (gA G (β + 0)), .int x2]) hx hb hml hown hts hE hw hl (mX7_who l G (by omega) hR h18) (va_cwS 3 hts (zS gS_X7_68) rfl rfl rfl kdX7_who ⟨Nat.le_of_ble_eq_true rfl, Nat.le_of_ble_eq_true rfl⟩) rfl rfl (Nat.le_of_ble_eq_true rfl) dX7_litersOf_18 ⟨Nat.zero_le _, Nat.zero_le _⟩ rfl (fun H locs hw => ?_)
        refine lv_iconst (v := (nI 3)) hx hb dX7_litersOf_21 (by decide) ?_
        obtain ⟨v22, h22, h⟩ := cr1_some h
        refine r_callS (As := [.int v18, .int (nI 3)]) (rest := [.ref (gA G (β + 0)), .int x2]) (st1 := [.int v22, .ref (gA G (β + 0)), .int x2]) hx hb hml hown hts hE hw hl (mX7_carAt l G (M := (wB M β 1 S)) h22) (va_cwS 2 hts (zS gS_X7_72) rfl rfl rfl kdX7_carAt ⟨Nat.le_of_ble_eq_true rfl, Nat.le_of_ble_eq_true rfl⟩) rfl rfl (Nat.le_of_ble_eq_true rfl) dX7_litersOf_22 ⟨Nat.zero_le _, Nat.zero_le _⟩ rfl (fun H locs hw => ?_)
        refine p_iald hx hb hE hw hn 0 (by decide) (congrFun hR) dX7_litersOf_25 h (fun v25 h => ?_)
        refine lv_iadd hx hb dX7_litersOf_26 ?_
        refine p_topi h (fun v27 h => ?_)
        refine lv_istore_n (lv' := [(2, .int v27), (0, .ref (gA G (β + 0))), (1, .int x1), (3, .int x3)]) hx hb dX7_litersOf_27 rfl hl (by decide) rfl (fun ls hl => ?_)
        refine p_iinc (w := (nI 1)) 3 (fun v28 => [(3, .int v28), (2, .int v27), (0, .ref (gA G (β + 0))), (1, .int x1)]) hx hb dX7_litersOf_28 hl rfl (by decide) (by decide) h (fun _ => rfl) (fun v28 h ls hl => ?_)
        refine lv_goto (tgt := 4) hx hb dX7_litersOf_31 (by decide) ?_
        exact hih4 x1 v27 v28 _ _ _ h hw (lv_sub hl [2, 3, 1, 0] rfl)
  unfold pX7_litersOf at h
  refine lv_iconst (v := (nI 0)) hx hb dX7_litersOf_0 (by decide) ?_
  refine lv_istore_n (lv' := [(2, .int (nI 0)), (0, .ref (gA G (β + 0))), (1, .int a2)]) hx hb dX7_litersOf_1 rfl hl (by decide) rfl (fun ls hl => ?_)
  refine lv_iconst (v := (nI 0)) hx hb dX7_litersOf_2 (by decide) ?_
  refine lv_istore_n (lv' := [(3, .int (nI 0)), (2, .int (nI 0)), (0, .ref (gA G (β + 0))), (1, .int a2)]) hx hb dX7_litersOf_3 rfl hl (by decide) rfl (fun ls hl => ?_)
  exact k4 fuel a2 (nI 0) (nI 0) _ _ _ h hw (lv_sub hl [2, 3, 1, 0] rfl)
