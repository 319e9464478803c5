/-! ===== walks, by program ===== -/
set_option maxHeartbeats 4000000 in
set_option maxRecDepth 100000 in
theorem mX6_isWithin (l : Launch) (G : mG) {M : mM} {a1 : Int32} {a2 : Int32} {a3 : Int32} {r : Int32} (h : pX6_isWithin a1 a2 a3 = some r) : MC l G yX6_isWithin zzX6_isWithin 0 0 [.int a1, .int a2, .int a3] M M (some (.int r)) := by
  refine mc_of (cc := cX6_isWithin) (maxL := 3) (ret := (some .boolean)) (by decide) rfl (Nat.le_of_ble_eq_true rfl) ?_
  intro p e s m args below meth c H ls hx hb hr hts hown hml hlocks hE hw hl
  have hl : lv_has ls 3 [(0, .int a1), (1, .int a2), (2, .int a3)] := hl
  unfold pX6_isWithin at h
  refine lv_iload_n hx hb dX6_isWithin_0 rfl (lv_at hl 0 rfl) ?_
  refine lv_iload_n hx hb dX6_isWithin_1 rfl (lv_at hl 1 rfl) ?_
  refine bi_lt (tgt := 14) hx hb dX6_isWithin_2 (by decide) h (fun h => ?_) (fun h => ?_)
  · refine lv_iconst (v := (nI 0)) hx hb dX6_isWithin_14 (by decide) ?_
    exact e_z hx hb hr hlocks hw dX6_isWithin_15 h
  · refine lv_iload_n hx hb dX6_isWithin_5 rfl (lv_at hl 0 rfl) ?_
    refine lv_iload_n hx hb dX6_isWithin_6 rfl (lv_at hl 2 rfl) ?_
    refine bi_gt (tgt := 14) hx hb dX6_isWithin_7 (by decide) h (fun h => ?_) (fun h => ?_)
    · refine lv_iconst (v := (nI 0)) hx hb dX6_isWithin_14 (by decide) ?_
      exact e_z hx hb hr hlocks hw dX6_isWithin_15 h
    · refine lv_iconst (v := (nI 1)) hx hb dX6_isWithin_10 (by decide) ?_
      refine lv_goto (tgt := 15) hx hb dX6_isWithin_11 (by decide) ?_
      exact e_z hx hb hr hlocks hw dX6_isWithin_15 h

set_option maxHeartbeats 4000000 in
set_option maxRecDepth 100000 in
theorem mX4_copyFrom (l : Launch) (G : mG) {β : Nat} {M S S' : mM} {b1 b2 : Nat} (hn : β + 316 ≤ gN G) (hR : isWR G β) (h1 : b1 + 17 ≤ 316) (h2 : b2 + 17 ≤ 316) (hs1 : isSt G (β + b1)) (hs2 : isSt G (β + b2)) (h : pX4_copyFrom b1 b2 S = some S') : MC l G yX4_copyFrom zzX4_copyFrom 2 39 [.ref (gA G (β + b1)), .ref (gA G (β + b2))] (wB M β 316 S) (wB M β 316 S') none := by
  refine mc_of (cc := cX4_copyFrom) (maxL := 2) (ret := none) (by decide) rfl (Nat.le_of_ble_eq_true rfl) ?_
  intro p e s m args below meth c H ls hx hb hr hts hown hml hlocks hE hw hl
  have hl : lv_has ls 2 [(0, .ref (gA G (β + b1))), (1, .ref (gA G (β + b2)))] := hl
  have hinX4 : ∀ w ∈ wsX40, w ∈ zzX4_copyFrom := fun w h9 => wz_in (zinX4 w h9)
  unfold pX4_copyFrom at h
  refine lv_aload_n hx hb dX4_copyFrom_0 rfl (lv_at hl 0 rfl) ?_
  refine lv_aload_n hx hb dX4_copyFrom_1 rfl (lv_at hl 1 rfl) ?_
  refine p_get hx hb hts hinX4 hown hE hw hn b2 (by omega) (congrFun hs2.1 _) rfl 7 (by decide) (hts _ (wz_in qF_X4_49)) rfl dX4_copyFrom_2 h (fun v2 h => ?_)
  refine p_put hx hb hts hinX4 tyX4 tyX4_ok nmX4 hown hE hw hn b1 (by omega) (congrFun hs1.1 _) rfl 7 (by decide) (hts _ (wz_in qF_X4_49)) rfl (by decide +kernel) (Nat.le_of_ble_eq_true rfl) (congrFun hs1.1 _) dX4_copyFrom_5 h (fun S5 h H locs hw => ?_)
  refine lv_aload_n hx hb dX4_copyFrom_8 rfl (lv_at hl 0 rfl) ?_
  refine lv_aload_n hx hb dX4_copyFrom_9 rfl (lv_at hl 1 rfl) ?_
  refine p_get hx hb hts hinX4 hown hE hw hn b2 (by omega) (congrFun hs2.1 _) rfl 8 (by decide) (hts _ (wz_in qF_X4_52)) rfl dX4_copyFrom_10 h (fun v10 h => ?_)
  refine p_put hx hb hts hinX4 tyX4 tyX4_ok nmX4 hown hE hw hn b1 (by omega) (congrFun hs1.1 _) rfl 8 (by decide) (hts _ (wz_in qF_X4_52)) rfl (by decide +kernel) (Nat.le_of_ble_eq_true rfl) (congrFun hs1.1 _) dX4_copyFrom_13 h (fun S13 h H locs hw => ?_)
  refine lv_aload_n hx hb dX4_copyFrom_16 rfl (lv_at hl 0 rfl) ?_
  refine r_get (v := .ref (gA G (β + (b1 + 1)))) hx hb hts hinX4 hown hE hw hn b1 (by omega) (congrFun hs1.1 _) rfl 0 (by decide) (hts _ (wz_in qF_X4_14)) rfl dX4_copyFrom_17 ?_
  refine lv_aload_n hx hb dX4_copyFrom_20 rfl (lv_at hl 1 rfl) ?_
  refine r_get (v := .ref (gA G (β + (b2 + 1)))) hx hb hts hinX4 hown hE hw hn b2 (by omega) (congrFun hs2.1 _) rfl 0 (by decide) (hts _ (wz_in qF_X4_14)) rfl dX4_copyFrom_21 ?_
  obtain ⟨S24, h24, h⟩ := cr1_some h
  refine r_callV (As := [.ref (gA G (β + (b2 + 1)))]) (rest := []) (st1 := []) hx hb hml hown hts hE hw hl (mX5_copyFrom l G (by omega) hR (by omega) (by omega) hs1.2.1 hs2.2.1 h24) (cwV 1 hts (zV gV_X4_59) rfl rfl rfl kdX5_copyFrom ⟨Nat.le_of_ble_eq_true rfl, Nat.le_of_ble_eq_true rfl⟩) (by omega) (congrFun hs1.2.1.1 _) rfl rfl rfl rfl (Nat.le_of_ble_eq_true rfl) dX4_copyFrom_24 ⟨Nat.zero_le _, Nat.zero_le _⟩ rfl (fun H locs hw => ?_)
  refine lv_aload_n hx hb dX4_copyFrom_27 rfl (lv_at hl 0 rfl) ?_
  refine r_get (v := .ref (gA G (β + (b1 + 3)))) hx hb hts hinX4 hown hE hw hn b1 (by omega) (congrFun hs1.1 _) rfl 1 (by decide) (hts _ (wz_in qF_X4_20)) rfl dX4_copyFrom_28 ?_
  refine lv_aload_n hx hb dX4_copyFrom_31 rfl (lv_at hl 1 rfl) ?_
  refine r_get (v := .ref (gA G (β + (b2 + 3)))) hx hb hts hinX4 hown hE hw hn b2 (by omega) (congrFun hs2.1 _) rfl 1 (by decide) (hts _ (wz_in qF_X4_20)) rfl dX4_copyFrom_32 ?_
  obtain ⟨S35, h35, h⟩ := cr1_some h
  refine r_callV (As := [.ref (gA G (β + (b2 + 3)))]) (rest := []) (st1 := []) hx hb hml hown hts hE hw hl (mX5_copyFrom l G (by omega) hR (by omega) (by omega) hs1.2.2.1 hs2.2.2.1 h35) (cwV 1 hts (zV gV_X4_59) rfl rfl rfl kdX5_copyFrom ⟨Nat.le_of_ble_eq_true rfl, Nat.le_of_ble_eq_true rfl⟩) (by omega) (congrFun hs1.2.2.1.1 _) rfl rfl rfl rfl (Nat.le_of_ble_eq_true rfl) dX4_copyFrom_35 ⟨Nat.zero_le _, Nat.zero_le _⟩ rfl (fun H locs hw => ?_)
  refine lv_aload_n hx hb dX4_copyFrom_38 rfl (lv_at hl 0 rfl) ?_
  refine r_get (v := .ref (gA G (β + (b1 + 5)))) hx hb hts hinX4 hown hE hw hn b1 (by omega) (congrFun hs1.1 _) rfl 2 (by decide) (hts _ (wz_in qF_X4_23)) rfl dX4_copyFrom_39 ?_
  refine lv_aload_n hx hb dX4_copyFrom_42 rfl (lv_at hl 1 rfl) ?_
  refine r_get (v := .ref (gA G (β + (b2 + 5)))) hx hb hts hinX4 hown hE hw hn b2 (by omega) (congrFun hs2.1 _) rfl 2 (by decide) (hts _ (wz_in qF_X4_23)) rfl dX4_copyFrom_43 ?_
  obtain ⟨S46, h46, h⟩ := cr1_some h
  refine r_callV (As := [.ref (gA G (β + (b2 + 5)))]) (rest := []) (st1 := []) hx hb hml hown hts hE hw hl (mX5_copyFrom l G (by omega) hR (by omega) (by omega) hs1.2.2.2.1 hs2.2.2.2.1 h46) (cwV 1 hts (zV gV_X4_59) rfl rfl rfl kdX5_copyFrom ⟨Nat.le_of_ble_eq_true rfl, Nat.le_of_ble_eq_true rfl⟩) (by omega) (congrFun hs1.2.2.2.1.1 _) rfl rfl rfl rfl (Nat.le_of_ble_eq_true rfl) dX4_copyFrom_46 ⟨Nat.zero_le _, Nat.zero_le _⟩ rfl (fun H locs hw => ?_)
  refine lv_aload_n hx hb dX4_copyFrom_49 rfl (lv_at hl 0 rfl) ?_
  refine r_get (v := .ref (gA G (β + (b1 + 7)))) hx hb hts hinX4 hown hE hw hn b1 (by omega) (congrFun hs1.1 _) rfl 3 (by decide) (hts _ (wz_in qF_X4_26)) rfl dX4_copyFrom_50 ?_
  refine lv_aload_n hx hb dX4_copyFrom_53 rfl (lv_at hl 1 rfl) ?_
  refine r_get (v := .ref (gA G (β + (b2 + 7)))) hx hb hts hinX4 hown hE hw hn b2 (by omega) (congrFun hs2.1 _) rfl 3 (by decide) (hts _ (wz_in qF_X4_26)) rfl dX4_copyFrom_54 ?_
  obtain ⟨S57, h57, h⟩ := cr1_some h
  refine r_callV (As := [.ref (gA G (β + (b2 + 7)))]) (rest := []) (st1 := []) hx hb hml hown hts hE hw hl (mX5_copyFrom l G (by omega) hR (by omega) (by omega) hs1.2.2.2.2.1 hs2.2.2.2.2.1 h57) (cwV 1 hts (zV gV_X4_59) rfl rfl rfl kdX5_copyFrom ⟨Nat.le_of_ble_eq_true rfl, Nat.le_of_ble_eq_true rfl⟩) (by omega) (congrFun hs1.2.2.2.2.1.1 _) rfl rfl rfl rfl (Nat.le_of_ble_eq_true rfl) dX4_copyFrom_57 ⟨Nat.zero_le _, Nat.zero_le _⟩ rfl (fun H locs hw => ?_)
  refine lv_aload_n hx hb dX4_copyFrom_60 rfl (lv_at hl 0 rfl) ?_
  refine r_get (v := .ref (gA G (β + (b1 + 9)))) hx hb hts hinX4 hown hE hw hn b1 (by omega) (congrFun hs1.1 _) rfl 4 (by decide) (hts _ (wz_in qF_X4_29)) rfl dX4_copyFrom_61 ?_
  refine lv_aload_n hx hb dX4_copyFrom_64 rfl (lv_at hl 1 rfl) ?_
  refine r_get (v := .ref (gA G (β + (b2 + 9)))) hx hb hts hinX4 hown hE hw hn b2 (by omega) (congrFun hs2.1 _) rfl 4 (by decide) (hts _ (wz_in qF_X4_29)) rfl dX4_copyFrom_65 ?_
  obtain ⟨S68, h68, h⟩ := cr1_some h
  refine r_callV (As := [.ref (gA G (β + (b2 + 9)))]) (rest := []) (st1 := []) hx hb hml hown hts hE hw hl (mX5_copyFrom l G (by omega) hR (by omega) (by omega) hs1.2.2.2.2.2.1 hs2.2.2.2.2.2.1 h68) (cwV 1 hts (zV gV_X4_59) rfl rfl rfl kdX5_copyFrom ⟨Nat.le_of_ble_eq_true rfl, Nat.le_of_ble_eq_true rfl⟩) (by omega) (congrFun hs1.2.2.2.2.2.1.1 _) rfl rfl rfl rfl (Nat.le_of_ble_eq_true rfl) dX4_copyFrom_68 ⟨Nat.zero_le _, Nat.zero_le _⟩ rfl (fun H locs hw => ?_)
  refine lv_aload_n hx hb dX4_copyFrom_71 rfl (lv_at hl 0 rfl) ?_
  refine r_get (v := .ref (gA G (β + (b1 + 11)))) hx hb hts hinX4 hown hE hw hn b1 (by omega) (congrFun hs1.1 _) rfl 5 (by decide) (hts _ (wz_in qF_X4_35)) rfl dX4_copyFrom_72 ?_
  refine lv_aload_n hx hb dX4_copyFrom_75 rfl (lv_at hl 1 rfl) ?_
  refine r_get (v := .ref (gA G (β + (b2 + 11)))) hx hb hts hinX4 hown hE hw hn b2 (by omega) (congrFun hs2.1 _) rfl 5 (by decide) (hts _ (wz_in qF_X4_35)) rfl dX4_copyFrom_76 ?_
  obtain ⟨S79, h79, h⟩ := cr1_some h
  refine r_callV (As := [.ref (gA G (β + (b2 + 11)))]) (rest := []) (st1 := []) hx hb hml hown hts hE hw hl (mX2_copyFrom l G (by omega) hR (by omega) (by omega) hs1.2.2.2.2.2.2.1 hs2.2.2.2.2.2.2.1 h79) (cwV 1 hts (zV gV_X4_63) rfl rfl rfl kdX2_copyFrom ⟨Nat.le_of_ble_eq_true rfl, Nat.le_of_ble_eq_true rfl⟩) (by omega) (congrFun hs1.2.2.2.2.2.2.1.1 _) rfl rfl rfl rfl (Nat.le_of_ble_eq_true rfl) dX4_copyFrom_79 ⟨Nat.zero_le _, Nat.zero_le _⟩ rfl (fun H locs hw => ?_)
  refine lv_aload_n hx hb dX4_copyFrom_82 rfl (lv_at hl 0 rfl) ?_
  refine r_get (v := .ref (gA G (β + (b1 + 14)))) hx hb hts hinX4 hown hE hw hn b1 (by omega) (congrFun hs1.1 _) rfl 6 (by decide) (hts _ (wz_in qF_X4_39)) rfl dX4_copyFrom_83 ?_
  refine lv_aload_n hx hb dX4_copyFrom_86 rfl (lv_at hl 1 rfl) ?_
  refine r_get (v := .ref (gA G (β + (b2 + 14)))) hx hb hts hinX4 hown hE hw hn b2 (by omega) (congrFun hs2.1 _) rfl 6 (by decide) (hts _ (wz_in qF_X4_39)) rfl dX4_copyFrom_87 ?_
  obtain ⟨S90, h90, h⟩ := cr1_some h
  refine r_callV (As := [.ref (gA G (β + (b2 + 14)))]) (rest := []) (st1 := []) hx hb hml hown hts hE hw hl (mX2_copyFrom l G (by omega) hR (by omega) (by omega) hs1.2.2.2.2.2.2.2 hs2.2.2.2.2.2.2.2 h90) (cwV 1 hts (zV gV_X4_63) rfl rfl rfl kdX2_copyFrom ⟨Nat.le_of_ble_eq_true rfl, Nat.le_of_ble_eq_true rfl⟩) (by omega) (congrFun hs1.2.2.2.2.2.2.2.1 _) rfl rfl rfl rfl (Nat.le_of_ble_eq_true rfl) dX4_copyFrom_90 ⟨Nat.zero_le _, Nat.zero_le _⟩ rfl (fun H locs hw => ?_)
  refine lv_aload_n hx hb dX4_copyFrom_93 rfl (lv_at hl 0 rfl) ?_
  refine lv_iconst (v := (nI 1)) hx hb dX4_copyFrom_94 (by decide) ?_
  refine p_putz hx hb hts hinX4 tyX4 tyX4_ok nmX4 hown hE hw hn b1 (by omega) (congrFun hs1.1 _) rfl 9 (by decide) (hts _ (wz_in qF_X4_66)) rfl (by decide +kernel) (Nat.le_of_ble_eq_true rfl) (congrFun hs1.1 _) dX4_copyFrom_95 h (fun S95 h H locs hw => ?_)
  refine lv_aload_n hx hb dX4_copyFrom_98 rfl (lv_at hl 0 rfl) ?_
  refine lv_bipush (v := (-9)) hx hb dX4_copyFrom_99 (by decide) ?_
  refine p_put hx hb hts hinX4 tyX4 tyX4_ok nmX4 hown hE hw hn b1 (by omega) (congrFun hs1.1 _) rfl 10 (by decide) (hts _ (wz_in qF_X4_42)) rfl (by decide +kernel) (Nat.le_of_ble_eq_true rfl) (congrFun hs1.1 _) dX4_copyFrom_101 h (fun S101 h H locs hw => ?_)
  refine lv_aload_n hx hb dX4_copyFrom_104 rfl (lv_at hl 0 rfl) ?_
  refine lv_bipush (v := (-9)) hx hb dX4_copyFrom_105 (by decide) ?_
  refine p_put hx hb hts hinX4 tyX4 tyX4_ok nmX4 hown hE hw hn b1 (by omega) (congrFun hs1.1 _) rfl 11 (by decide) (hts _ (wz_in qF_X4_46)) rfl (by decide +kernel) (Nat.le_of_ble_eq_true rfl) (congrFun hs1.1 _) dX4_copyFrom_107 h (fun S107 h H locs hw => ?_)
  exact e_vw hx hb hr hlocks hw dX4_copyFrom_110 h

set_option maxHeartbeats 4000000 in
set_option maxRecDepth 100000 in
theorem mX4_hasRoomForVehicle (l : Launch) (G : mG) {β : Nat} {M S : mM} {a1 : Int32} {r : Int32} (hn : β + 17 ≤ gN G) (hR : isSt G β) (h : pX4_hasRoomForVehicle a1 S = some r) : MC l G yX4_hasRoomForVehicle zzX4_hasRoomForVehicle 1 21 [.ref (gA G (β + 0)), .int a1] (wB M β 17 S) (wB M β 17 S) (some (.int r)) := by
  refine mc_of (cc := cX4_hasRoomForVehicle) (maxL := 2) (ret := (some .boolean)) (by decide) rfl (Nat.le_of_ble_eq_true rfl) ?_
  intro p e s m args below meth c H ls hx hb hr hts hown hml hlocks hE hw hl
  have hl : lv_has ls 2 [(0, .ref (gA G (β + 0))), (1, .int a1)] := hl
  have hinX4 : ∀ w ∈ wsX40, w ∈ zzX4_hasRoomForVehicle := fun w h9 => wz_in (zinX4 w h9)
  unfold pX4_hasRoomForVehicle at h
  refine lv_aload_n hx hb dX4_hasRoomForVehicle_0 rfl (lv_at hl 0 rfl) ?_
  refine r_get (v := .ref (gA G (β + 9))) hx hb hts hinX4 hown hE hw hn 0 (by decide) (congrFun hR.1 _) rfl 4 (by decide) (hts _ (wz_in qF_X4_29)) rfl dX4_hasRoomForVehicle_1 ?_
  obtain ⟨v4, h4, h⟩ := cr1_some h
  refine r_callV (As := []) (rest := []) (st1 := [.int v4]) hx hb hml hown hts hE hw hl (mc_subR 9 2 (by decide) (mX5_isFull l G (by show β + 9 + 2 ≤ _; omega) hR.2.2.2.2.2.1 h4)) (cwV 0 hts (zV gV_X4_84) rfl rfl rfl kdX5_isFull ⟨Nat.le_of_ble_eq_true rfl, Nat.le_of_ble_eq_true rfl⟩) (by omega) (congrFun hR.2.2.2.2.2.1.1 _) rfl rfl rfl rfl (Nat.le_of_ble_eq_true rfl) dX4_hasRoomForVehicle_4 ⟨Nat.zero_le _, Nat.zero_le _⟩ rfl (fun H locs hw => ?_)
  refine b_ne (tgt := 38) hx hb dX4_hasRoomForVehicle_7 (by decide) h (fun h => ?_) (fun h => ?_)
  · refine lv_iconst (v := (nI 0)) hx hb dX4_hasRoomForVehicle_38 (by decide) ?_
    exact e_z hx hb hr hlocks hw dX4_hasRoomForVehicle_39 h
  · refine lv_aload_n hx hb dX4_hasRoomForVehicle_10 rfl (lv_at hl 0 rfl) ?_
    refine r_get (v := .ref (gA G (β + 7))) hx hb hts hinX4 hown hE hw hn 0 (by decide) (congrFun hR.1 _) rfl 3 (by decide) (hts _ (wz_in qF_X4_26)) rfl dX4_hasRoomForVehicle_11 ?_
    refine lv_iload_n hx hb dX4_hasRoomForVehicle_14 rfl (lv_at hl 1 rfl) ?_
    obtain ⟨v15, h15, h⟩ := cr1_some h
    refine r_callV (As := [.int a1]) (rest := []) (st1 := [.int v15]) hx hb hml hown hts hE hw hl (mc_subR 7 2 (by decide) (mX5_has l G (by show β + 7 + 2 ≤ _; omega) hR.2.2.2.2.1 h15)) (cwV 1 hts (zV gV_X4_88) rfl rfl rfl kdX5_has ⟨Nat.le_of_ble_eq_true rfl, Nat.le_of_ble_eq_true rfl⟩) (by omega) (congrFun hR.2.2.2.2.1.1 _) rfl rfl rfl rfl (Nat.le_of_ble_eq_true rfl) dX4_hasRoomForVehicle_15 ⟨Nat.zero_le _, Nat.zero_le _⟩ rfl (fun H locs hw => ?_)
    refine b_eq (tgt := 38) hx hb dX4_hasRoomForVehicle_18 (by decide) h (fun h => ?_) (fun h => ?_)
    · refine lv_iconst (v := (nI 0)) hx hb dX4_hasRoomForVehicle_38 (by decide) ?_
      exact e_z hx hb hr hlocks hw dX4_hasRoomForVehicle_39 h
    · refine lv_aload_n hx hb dX4_hasRoomForVehicle_21 rfl (lv_at hl 0 rfl) ?_
      refine r_get (v := .ref (gA G (β + 11))) hx hb hts hinX4 hown hE hw hn 0 (by decide) (congrFun hR.1 _) rfl 5 (by decide) (hts _ (wz_in qF_X4_35)) rfl dX4_hasRoomForVehicle_22 ?_
      refine lv_iload_n hx hb dX4_hasRoomForVehicle_25 rfl (lv_at hl 1 rfl) ?_
      obtain ⟨v26, h26, h⟩ := cr1_some h
      refine r_callV (As := [.int a1]) (rest := []) (st1 := [.int v26]) hx hb hml hown hts hE hw hl (mc_subR 11 3 (by decide) (mX2_size l G (by show β + 11 + 3 ≤ _; omega) hR.2.2.2.2.2.2.1 h26)) (cwV 1 hts (zV gV_X4_92) rfl rfl rfl kdX2_size ⟨Nat.le_of_ble_eq_true rfl, Nat.le_of_ble_eq_true rfl⟩) (by omega) (congrFun hR.2.2.2.2.2.2.1.1 _) rfl rfl rfl rfl (Nat.le_of_ble_eq_true rfl) dX4_hasRoomForVehicle_26 ⟨Nat.zero_le _, Nat.zero_le _⟩ rfl (fun H locs hw => ?_)
      refine lv_bipush (v := (nI 8)) hx hb dX4_hasRoomForVehicle_29 (by decide) ?_
      refine bi_ge (tgt := 38) hx hb dX4_hasRoomForVehicle_31 (by decide) h (fun h => ?_) (fun h => ?_)
      · refine lv_iconst (v := (nI 0)) hx hb dX4_hasRoomForVehicle_38 (by decide) ?_
        exact e_z hx hb hr hlocks hw dX4_hasRoomForVehicle_39 h
      · refine lv_iconst (v := (nI 1)) hx hb dX4_hasRoomForVehicle_34 (by decide) ?_
        refine lv_goto (tgt := 39) hx hb dX4_hasRoomForVehicle_35 (by decide) ?_
        exact e_z hx hb hr hlocks hw dX4_hasRoomForVehicle_39 h

set_option maxHeartbeats 4000000 in
set_option maxRecDepth 100000 in
theorem mX4_length (l : Launch) (G : mG) {β : Nat} {M S : mM} {r : Int32} (hn : β + 17 ≤ gN G) (hR : isSt G β) (h : pX4_length S = some r) : MC l G yX4_length zzX4_length 0 0 [.ref (gA G (β + 0))] (wB M β 17 S) (wB M β 17 S) (some (.int r)) := by
  refine mc_of (cc := cX4_length) (maxL := 1) (ret := (some .int)) (by decide) rfl (Nat.le_of_ble_eq_true rfl) ?_
  intro p e s m args below meth c H ls hx hb hr hts hown hml hlocks hE hw hl
  have hl : lv_has ls 1 [(0, .ref (gA G (β + 0)))] := hl
  have hinX4 : ∀ w ∈ wsX40, w ∈ zzX4_length := fun w h9 => wz_in (zinX4 w h9)
  unfold pX4_length at h
  refine lv_aload_n hx hb dX4_length_0 rfl (lv_at hl 0 rfl) ?_
  refine p_get hx hb hts hinX4 hown hE hw hn 0 (by decide) (congrFun hR.1 _) rfl 7 (by decide) (hts _ (wz_in qF_X4_49)) rfl dX4_length_1 h (fun v1 h => ?_)
  exact e_i hx hb hr hlocks hw dX4_length_4 h

set_option maxHeartbeats 4000000 in
set_option maxRecDepth 100000 in
theorem mX4_newBay (l : Launch) (G : mG) {β : Nat} {M S S' : mM} {a1 : Int32} {a2 : Int32} {r : Int32} (hn : β + 17 ≤ gN G) (hR : isSt G β) (h : pX4_newBay a1 a2 S = some (r, S')) : MC l G yX4_newBay zzX4_newBay 2 46 [.ref (gA G (β + 0)), .int a1, .int a2] (wB M β 17 S) (wB M β 17 S') (some (.int r)) := by
  refine mc_of (cc := cX4_newBay) (maxL := 4) (ret := (some .int)) (by decide) rfl (Nat.le_of_ble_eq_true rfl) ?_
  intro p e s m args below meth c H ls hx hb hr hts hown hml hlocks hE hw hl
  have hl : lv_has ls 4 [(0, .ref (gA G (β + 0))), (1, .int a1), (2, .int a2)] := hl
  have hinX4 : ∀ w ∈ wsX40, w ∈ zzX4_newBay := fun w h9 => wz_in (zinX4 w h9)
  unfold pX4_newBay at h
  refine lv_aload_n hx hb dX4_newBay_0 rfl (lv_at hl 0 rfl) ?_
  refine r_get (v := .ref (gA G (β + 3))) hx hb hts hinX4 hown hE hw hn 0 (by decide) (congrFun hR.1 _) rfl 1 (by decide) (hts _ (wz_in qF_X4_20)) rfl dX4_newBay_1 ?_
  obtain ⟨v4, T4, h4, h⟩ := cws_some h
  refine r_callV (As := []) (rest := []) (st1 := [.int v4]) hx hb hml hown hts hE hw hl (mc_sub 3 2 (by decide) (mX5_addRow l G (by show β + 3 + 2 ≤ _; omega) hR.2.2.1 h4)) (cwV 0 hts (zV gV_X4_70) rfl rfl rfl kdX5_addRow ⟨Nat.le_of_ble_eq_true rfl, Nat.le_of_ble_eq_true rfl⟩) (by omega) (congrFun hR.2.2.1.1 _) rfl rfl rfl rfl (Nat.le_of_ble_eq_true rfl) dX4_newBay_4 ⟨Nat.zero_le _, Nat.zero_le _⟩ rfl (fun H locs hw => ?_)
  generalize wB S 3 2 T4 = S4 at h hw
  refine lv_istore_n (lv' := [(3, .int v4), (0, .ref (gA G (β + 0))), (1, .int a1), (2, .int a2)]) hx hb dX4_newBay_7 rfl hl (by decide) rfl (fun ls hl => ?_)
  refine lv_aload_n hx hb dX4_newBay_8 rfl (lv_at hl 1 rfl) ?_
  refine r_get (v := .ref (gA G (β + 3))) hx hb hts hinX4 hown hE hw hn 0 (by decide) (congrFun hR.1 _) rfl 1 (by decide) (hts _ (wz_in qF_X4_20)) rfl dX4_newBay_9 ?_
  refine lv_iload_n hx hb dX4_newBay_12 rfl (lv_at hl 0 rfl) ?_
  refine lv_iconst (v := (nI 0)) hx hb dX4_newBay_13 (by decide) ?_
  refine lv_iload_n hx hb dX4_newBay_14 rfl (lv_at hl 2 rfl) ?_
  obtain ⟨T15, h15, h⟩ := cvs_some h
  refine r_callV (As := [.int v4, .int (nI 0), .int a1]) (rest := []) (st1 := []) hx hb hml hown hts hE hw hl (mc_sub 3 2 (by decide) (mX5_put l G (by show β + 3 + 2 ≤ _; omega) hR.2.2.1 h15)) (cwV 3 hts (zV gV_X4_74) rfl rfl rfl kdX5_put ⟨Nat.le_of_ble_eq_true rfl, Nat.le_of_ble_eq_true rfl⟩) (by omega) (congrFun hR.2.2.1.1 _) rfl rfl rfl rfl (Nat.le_of_ble_eq_true rfl) dX4_newBay_15 ⟨Nat.zero_le _, Nat.zero_le _⟩ rfl (fun H locs hw => ?_)
  generalize wB S4 3 2 T15 = S15 at h hw
  refine lv_aload_n hx hb dX4_newBay_18 rfl (lv_at hl 1 rfl) ?_
  refine r_get (v := .ref (gA G (β + 3))) hx hb hts hinX4 hown hE hw hn 0 (by decide) (congrFun hR.1 _) rfl 1 (by decide) (hts _ (wz_in qF_X4_20)) rfl dX4_newBay_19 ?_
  refine lv_iload_n hx hb dX4_newBay_22 rfl (lv_at hl 0 rfl) ?_
  refine lv_iconst (v := (nI 1)) hx hb dX4_newBay_23 (by decide) ?_
  refine lv_iload_n hx hb dX4_newBay_24 rfl (lv_at hl 3 rfl) ?_
  obtain ⟨T25, h25, h⟩ := cvs_some h
  refine r_callV (As := [.int v4, .int (nI 1), .int a2]) (rest := []) (st1 := []) hx hb hml hown hts hE hw hl (mc_sub 3 2 (by decide) (mX5_put l G (by show β + 3 + 2 ≤ _; omega) hR.2.2.1 h25)) (cwV 3 hts (zV gV_X4_74) rfl rfl rfl kdX5_put ⟨Nat.le_of_ble_eq_true rfl, Nat.le_of_ble_eq_true rfl⟩) (by omega) (congrFun hR.2.2.1.1 _) rfl rfl rfl rfl (Nat.le_of_ble_eq_true rfl) dX4_newBay_25 ⟨Nat.zero_le _, Nat.zero_le _⟩ rfl (fun H locs hw => ?_)
  generalize wB S15 3 2 T25 = S25 at h hw
  refine lv_iload_n hx hb dX4_newBay_28 rfl (lv_at hl 0 rfl) ?_
  exact e_iw hx hb hr hlocks hw dX4_newBay_29 h

set_option maxHeartbeats 4000000 in
set_option maxRecDepth 100000 in
theorem mX4_newDepot (l : Launch) (G : mG) {β : Nat} {M S S' : mM} {a1 : Int32} {a2 : Int32} {r : Int32} (hn : β + 17 ≤ gN G) (hR : isSt G β) (h : pX4_newDepot a1 a2 S = some (r, S')) : MC l G yX4_newDepot zzX4_newDepot 2 46 [.ref (gA G (β + 0)), .int a1, .int a2] (wB M β 17 S) (wB M β 17 S') (some (.int r)) := by
  refine mc_of (cc := cX4_newDepot) (maxL := 4) (ret := (some .int)) (by decide) rfl (Nat.le_of_ble_eq_true rfl) ?_
  intro p e s m args below meth c H ls hx hb hr hts hown hml hlocks hE hw hl
  have hl : lv_has ls 4 [(0, .ref (gA G (β + 0))), (1, .int a1), (2, .int a2)] := hl
  have hinX4 : ∀ w ∈ wsX40, w ∈ zzX4_newDepot := fun w h9 => wz_in (zinX4 w h9)
  unfold pX4_newDepot at h
  refine lv_aload_n hx hb dX4_newDepot_0 rfl (lv_at hl 0 rfl) ?_
  refine r_get (v := .ref (gA G (β + 5))) hx hb hts hinX4 hown hE hw hn 0 (by decide) (congrFun hR.1 _) rfl 2 (by decide) (hts _ (wz_in qF_X4_23)) rfl dX4_newDepot_1 ?_
  obtain ⟨v4, T4, h4, h⟩ := cws_some h
  refine r_callV (As := []) (rest := []) (st1 := [.int v4]) hx hb hml hown hts hE hw hl (mc_sub 5 2 (by decide) (mX5_addRow l G (by show β + 5 + 2 ≤ _; omega) hR.2.2.2.1 h4)) (cwV 0 hts (zV gV_X4_70) rfl rfl rfl kdX5_addRow ⟨Nat.le_of_ble_eq_true rfl, Nat.le_of_ble_eq_true rfl⟩) (by omega) (congrFun hR.2.2.2.1.1 _) rfl rfl rfl rfl (Nat.le_of_ble_eq_true rfl) dX4_newDepot_4 ⟨Nat.zero_le _, Nat.zero_le _⟩ rfl (fun H locs hw => ?_)
  generalize wB S 5 2 T4 = S4 at h hw
  refine lv_istore_n (lv' := [(3, .int v4), (0, .ref (gA G (β + 0))), (1, .int a1), (2, .int a2)]) hx hb dX4_newDepot_7 rfl hl (by decide) rfl (fun ls hl => ?_)
  refine lv_aload_n hx hb dX4_newDepot_8 rfl (lv_at hl 1 rfl) ?_
  refine r_get (v := .ref (gA G (β + 5))) hx hb hts hinX4 hown hE hw hn 0 (by decide) (congrFun hR.1 _) rfl 2 (by decide) (hts _ (wz_in qF_X4_23)) rfl dX4_newDepot_9 ?_
  refine lv_iload_n hx hb dX4_newDepot_12 rfl (lv_at hl 0 rfl) ?_
  refine lv_iconst (v := (nI 0)) hx hb dX4_newDepot_13 (by decide) ?_
  refine lv_iload_n hx hb dX4_newDepot_14 rfl (lv_at hl 2 rfl) ?_
  obtain ⟨T15, h15, h⟩ := cvs_some h
  refine r_callV (As := [.int v4, .int (nI 0), .int a1]) (rest := []) (st1 := []) hx hb hml hown hts hE hw hl (mc_sub 5 2 (by decide) (mX5_put l G (by show β + 5 + 2 ≤ _; omega) hR.2.2.2.1 h15)) (cwV 3 hts (zV gV_X4_74) rfl rfl rfl kdX5_put ⟨Nat.le_of_ble_eq_true rfl, Nat.le_of_ble_eq_true rfl⟩) (by omega) (congrFun hR.2.2.2.1.1 _) rfl rfl rfl rfl (Nat.le_of_ble_eq_true rfl) dX4_newDepot_15 ⟨Nat.zero_le _, Nat.zero_le _⟩ rfl (fun H locs hw => ?_)
  generalize wB S4 5 2 T15 = S15 at h hw
  refine lv_aload_n hx hb dX4_newDepot_18 rfl (lv_at hl 1 rfl) ?_
  refine r_get (v := .ref (gA G (β + 5))) hx hb hts hinX4 hown hE hw hn 0 (by decide) (congrFun hR.1 _) rfl 2 (by decide) (hts _ (wz_in qF_X4_23)) rfl dX4_newDepot_19 ?_
  refine lv_iload_n hx hb dX4_newDepot_22 rfl (lv_at hl 0 rfl) ?_
  refine lv_iconst (v := (nI 1)) hx hb dX4_newDepot_23 (by decide) ?_
  refine lv_iload_n hx hb dX4_newDepot_24 rfl (lv_at hl 3 rfl) ?_
  obtain ⟨T25, h25, h⟩ := cvs_some h
  refine r_callV (As := [.int v4, .int (nI 1), .int a2]) (rest := []) (st1 := []) hx hb hml hown hts hE hw hl (mc_sub 5 2 (by decide) (mX5_put l G (by show β + 5 + 2 ≤ _; omega) hR.2.2.2.1 h25)) (cwV 3 hts (zV gV_X4_74) rfl rfl rfl kdX5_put ⟨Nat.le_of_ble_eq_true rfl, Nat.le_of_ble_eq_true rfl⟩) (by omega) (congrFun hR.2.2.2.1.1 _) rfl rfl rfl rfl (Nat.le_of_ble_eq_true rfl) dX4_newDepot_25 ⟨Nat.zero_le _, Nat.zero_le _⟩ rfl (fun H locs hw => ?_)
  generalize wB S15 5 2 T25 = S25 at h hw
  refine lv_iload_n hx hb dX4_newDepot_28 rfl (lv_at hl 0 rfl) ?_
  exact e_iw hx hb hr hlocks hw dX4_newDepot_29 h

set_option maxHeartbeats 4000000 in
set_option maxRecDepth 100000 in
theorem mX4_newGate (l : Launch) (G : mG) {β : Nat} {M S S' : mM} {a1 : Int32} {a2 : Int32} {a3 : Int32} {a4 : Int32} {r : Int32} (hn : β + 17 ≤ gN G) (hR : isSt G β) (h : pX4_newGate a1 a2 a3 a4 S = some (r, S')) : MC l G yX4_newGate zzX4_newGate 2 46 [.ref (gA G (β + 0)), .int a1, .int a2, .int a3, .int a4] (wB M β 17 S) (wB M β 17 S') (some (.int r)) := by
  refine mc_of (cc := cX4_newGate) (maxL := 6) (ret := (some .int)) (by decide) rfl (Nat.le_of_ble_eq_true rfl) ?_
  intro p e s m args below meth c H ls hx hb hr hts hown hml hlocks hE hw hl
  have hl : lv_has ls 6 [(0, .ref (gA G (β + 0))), (1, .int a1), (2, .int a2), (3, .int a3), (4, .int a4)] := hl
  have hinX4 : ∀ w ∈ wsX40, w ∈ zzX4_newGate := fun w h9 => wz_in (zinX4 w h9)
  unfold pX4_newGate at h
  refine lv_aload_n hx hb dX4_newGate_0 rfl (lv_at hl 0 rfl) ?_
  refine r_get (v := .ref (gA G (β + 1))) hx hb hts hinX4 hown hE hw hn 0 (by decide) (congrFun hR.1 _) rfl 0 (by decide) (hts _ (wz_in qF_X4_14)) rfl dX4_newGate_1 ?_
  obtain ⟨v4, T4, h4, h⟩ := cws_some h
  refine r_callV (As := []) (rest := []) (st1 := [.int v4]) hx hb hml hown hts hE hw hl (mc_sub 1 2 (by decide) (mX5_addRow l G (by show β + 1 + 2 ≤ _; omega) hR.2.1 h4)) (cwV 0 hts (zV gV_X4_70) rfl rfl rfl kdX5_addRow ⟨Nat.le_of_ble_eq_true rfl, Nat.le_of_ble_eq_true rfl⟩) (by omega) (congrFun hR.2.1.1 _) rfl rfl rfl rfl (Nat.le_of_ble_eq_true rfl) dX4_newGate_4 ⟨Nat.zero_le _, Nat.zero_le _⟩ rfl (fun H locs hw => ?_)
  generalize wB S 1 2 T4 = S4 at h hw
  refine lv_istore (lv' := [(5, .int v4), (0, .ref (gA G (β + 0))), (1, .int a1), (2, .int a2), (3, .int a3), (4, .int a4)]) hx hb dX4_newGate_7 hl (by decide) rfl (fun ls hl => ?_)
  refine lv_aload_n hx hb dX4_newGate_9 rfl (lv_at hl 1 rfl) ?_
  refine r_get (v := .ref (gA G (β + 1))) hx hb hts hinX4 hown hE hw hn 0 (by decide) (congrFun hR.1 _) rfl 0 (by decide) (hts _ (wz_in qF_X4_14)) rfl dX4_newGate_10 ?_
  refine lv_iload hx hb dX4_newGate_13 (lv_at hl 0 rfl) ?_
  refine lv_iconst (v := (nI 0)) hx hb dX4_newGate_15 (by decide) ?_
  refine lv_iload_n hx hb dX4_newGate_16 rfl (lv_at hl 2 rfl) ?_
  obtain ⟨T17, h17, h⟩ := cvs_some h
  refine r_callV (As := [.int v4, .int (nI 0), .int a1]) (rest := []) (st1 := []) hx hb hml hown hts hE hw hl (mc_sub 1 2 (by decide) (mX5_put l G (by show β + 1 + 2 ≤ _; omega) hR.2.1 h17)) (cwV 3 hts (zV gV_X4_74) rfl rfl rfl kdX5_put ⟨Nat.le_of_ble_eq_true rfl, Nat.le_of_ble_eq_true rfl⟩) (by omega) (congrFun hR.2.1.1 _) rfl rfl rfl rfl (Nat.le_of_ble_eq_true rfl) dX4_newGate_17 ⟨Nat.zero_le _, Nat.zero_le _⟩ rfl (fun H locs hw => ?_)
  generalize wB S4 1 2 T17 = S17 at h hw
  refine lv_aload_n hx hb dX4_newGate_20 rfl (lv_at hl 1 rfl) ?_
  refine r_get (v := .ref (gA G (β + 1))) hx hb hts hinX4 hown hE hw hn 0 (by decide) (congrFun hR.1 _) rfl 0 (by decide) (hts _ (wz_in qF_X4_14)) rfl dX4_newGate_21 ?_
  refine lv_iload hx hb dX4_newGate_24 (lv_at hl 0 rfl) ?_
  refine lv_iconst (v := (nI 1)) hx hb dX4_newGate_26 (by decide) ?_
  refine lv_iload_n hx hb dX4_newGate_27 rfl (lv_at hl 3 rfl) ?_
  obtain ⟨T28, h28, h⟩ := cvs_some h
  refine r_callV (As := [.int v4, .int (nI 1), .int a2]) (rest := []) (st1 := []) hx hb hml hown hts hE hw hl (mc_sub 1 2 (by decide) (mX5_put l G (by show β + 1 + 2 ≤ _; omega) hR.2.1 h28)) (cwV 3 hts (zV gV_X4_74) rfl rfl rfl kdX5_put ⟨Nat.le_of_ble_eq_true rfl, Nat.le_of_ble_eq_true rfl⟩) (by omega) (congrFun hR.2.1.1 _) rfl rfl rfl rfl (Nat.le_of_ble_eq_true rfl) dX4_newGate_28 ⟨Nat.zero_le _, Nat.zero_le _⟩ rfl (fun H locs hw => ?_)
  generalize wB S17 1 2 T28 = S28 at h hw
  refine lv_aload_n hx hb dX4_newGate_31 rfl (lv_at hl 1 rfl) ?_
  refine r_get (v := .ref (gA G (β + 1))) hx hb hts hinX4 hown hE hw hn 0 (by decide) (congrFun hR.1 _) rfl 0 (by decide) (hts _ (wz_in qF_X4_14)) rfl dX4_newGate_32 ?_
  refine lv_iload hx hb dX4_newGate_35 (lv_at hl 0 rfl) ?_
  refine lv_iconst (v := (nI 2)) hx hb dX4_newGate_37 (by decide) ?_
  refine lv_iload_n hx hb dX4_newGate_38 rfl (lv_at hl 4 rfl) ?_
  obtain ⟨T39, h39, h⟩ := cvs_some h
  refine r_callV (As := [.int v4, .int (nI 2), .int a3]) (rest := []) (st1 := []) hx hb hml hown hts hE hw hl (mc_sub 1 2 (by decide) (mX5_put l G (by show β + 1 + 2 ≤ _; omega) hR.2.1 h39)) (cwV 3 hts (zV gV_X4_74) rfl rfl rfl kdX5_put ⟨Nat.le_of_ble_eq_true rfl, Nat.le_of_ble_eq_true rfl⟩) (by omega) (congrFun hR.2.1.1 _) rfl rfl rfl rfl (Nat.le_of_ble_eq_true rfl) dX4_newGate_39 ⟨Nat.zero_le _, Nat.zero_le _⟩ rfl (fun H locs hw => ?_)
  generalize wB S28 1 2 T39 = S39 at h hw
  refine lv_aload_n hx hb dX4_newGate_42 rfl (lv_at hl 1 rfl) ?_
  refine r_get (v := .ref (gA G (β + 1))) hx hb hts hinX4 hown hE hw hn 0 (by decide) (congrFun hR.1 _) rfl 0 (by decide) (hts _ (wz_in qF_X4_14)) rfl dX4_newGate_43 ?_
  refine lv_iload hx hb dX4_newGate_46 (lv_at hl 0 rfl) ?_
  refine lv_iconst (v := (nI 3)) hx hb dX4_newGate_48 (by decide) ?_
  refine lv_iload hx hb dX4_newGate_49 (lv_at hl 5 rfl) ?_
  obtain ⟨T51, h51, h⟩ := cvs_some h
  refine r_callV (As := [.int v4, .int (nI 3), .int a4]) (rest := []) (st1 := []) hx hb hml hown hts hE hw hl (mc_sub 1 2 (by decide) (mX5_put l G (by show β + 1 + 2 ≤ _; omega) hR.2.1 h51)) (cwV 3 hts (zV gV_X4_74) rfl rfl rfl kdX5_put ⟨Nat.le_of_ble_eq_true rfl, Nat.le_of_ble_eq_true rfl⟩) (by omega) (congrFun hR.2.1.1 _) rfl rfl rfl rfl (Nat.le_of_ble_eq_true rfl) dX4_newGate_51 ⟨Nat.zero_le _, Nat.zero_le _⟩ rfl (fun H locs hw => ?_)
  generalize wB S39 1 2 T51 = S51 at h hw
  refine lv_iload hx hb dX4_newGate_54 (lv_at hl 0 rfl) ?_
  exact e_iw hx hb hr hlocks hw dX4_newGate_56 h

set_option maxHeartbeats 4000000 in
set_option maxRecDepth 100000 in
theorem mX4_moveTo (l : Launch) (G : mG) {β : Nat} {M S S' : mM} {a1 : Int32} {a2 : Int32} {a3 : Int32} (hn : β + 17 ≤ gN G) (hR : isSt G β) (h : pX4_moveTo a1 a2 a3 S = some S') : MC l G yX4_moveTo zzX4_moveTo 1 25 [.ref (gA G (β + 0)), .int a1, .int a2, .int a3] (wB M β 17 S) (wB M β 17 S') none := by
  refine mc_of (cc := cX4_moveTo) (maxL := 4) (ret := none) (by decide) rfl (Nat.le_of_ble_eq_true rfl) ?_
  intro p e s m args below meth c H ls hx hb hr hts hown hml hlocks hE hw hl
  have hl : lv_has ls 4 [(0, .ref (gA G (β + 0))), (1, .int a1), (2, .int a2), (3, .int a3)] := hl
  have hinX4 : ∀ w ∈ wsX40, w ∈ zzX4_moveTo := fun w h9 => wz_in (zinX4 w h9)
  unfold pX4_moveTo at h
  refine lv_aload_n hx hb dX4_moveTo_0 rfl (lv_at hl 0 rfl) ?_
  refine r_get (v := .ref (gA G (β + 9))) hx hb hts hinX4 hown hE hw hn 0 (by decide) (congrFun hR.1 _) rfl 4 (by decide) (hts _ (wz_in qF_X4_29)) rfl dX4_moveTo_1 ?_
  refine lv_iload_n hx hb dX4_moveTo_4 rfl (lv_at hl 1 rfl) ?_
  refine lv_iconst (v := (nI 4)) hx hb dX4_moveTo_5 (by decide) ?_
  refine lv_iload_n hx hb dX4_moveTo_6 rfl (lv_at hl 2 rfl) ?_
  obtain ⟨T7, h7, h⟩ := cvs_some h
  refine r_callV (As := [.int a1, .int (nI 4), .int a2]) (rest := []) (st1 := []) hx hb hml hown hts hE hw hl (mc_sub 9 2 (by decide) (mX5_put l G (by show β + 9 + 2 ≤ _; omega) hR.2.2.2.2.2.1 h7)) (cwV 3 hts (zV gV_X4_74) rfl rfl rfl kdX5_put ⟨Nat.le_of_ble_eq_true rfl, Nat.le_of_ble_eq_true rfl⟩) (by omega) (congrFun hR.2.2.2.2.2.1.1 _) rfl rfl rfl rfl (Nat.le_of_ble_eq_true rfl) dX4_moveTo_7 ⟨Nat.zero_le _, Nat.zero_le _⟩ rfl (fun H locs hw => ?_)
  generalize wB S 9 2 T7 = S7 at h hw
  refine lv_aload_n hx hb dX4_moveTo_10 rfl (lv_at hl 0 rfl) ?_
  refine r_get (v := .ref (gA G (β + 9))) hx hb hts hinX4 hown hE hw hn 0 (by decide) (congrFun hR.1 _) rfl 4 (by decide) (hts _ (wz_in qF_X4_29)) rfl dX4_moveTo_11 ?_
  refine lv_iload_n hx hb dX4_moveTo_14 rfl (lv_at hl 1 rfl) ?_
  refine lv_iconst (v := (nI 5)) hx hb dX4_moveTo_15 (by decide) ?_
  refine lv_iload_n hx hb dX4_moveTo_16 rfl (lv_at hl 3 rfl) ?_
  obtain ⟨T17, h17, h⟩ := cvs_some h
  refine r_callV (As := [.int a1, .int (nI 5), .int a3]) (rest := []) (st1 := []) hx hb hml hown hts hE hw hl (mc_sub 9 2 (by decide) (mX5_put l G (by show β + 9 + 2 ≤ _; omega) hR.2.2.2.2.2.1 h17)) (cwV 3 hts (zV gV_X4_74) rfl rfl rfl kdX5_put ⟨Nat.le_of_ble_eq_true rfl, Nat.le_of_ble_eq_true rfl⟩) (by omega) (congrFun hR.2.2.2.2.2.1.1 _) rfl rfl rfl rfl (Nat.le_of_ble_eq_true rfl) dX4_moveTo_17 ⟨Nat.zero_le _, Nat.zero_le _⟩ rfl (fun H locs hw => ?_)
  generalize wB S7 9 2 T17 = S17 at h hw
  exact e_vw hx hb hr hlocks hw dX4_moveTo_20 h

set_option maxHeartbeats 4000000 in
set_option maxRecDepth 100000 in
theorem mX4_newVehicle (l : Launch) (G : mG) {β : Nat} {M S S' : mM} {a1 : Int32} {a2 : Int32} {a3 : Int32} {a4 : Int32} {a5 : Int32} {r : Int32} (hn : β + 17 ≤ gN G) (hR : isSt G β) (h : pX4_newVehicle a1 a2 a3 a4 a5 S = some (r, S')) : MC l G yX4_newVehicle zzX4_newVehicle 2 48 [.ref (gA G (β + 0)), .int a1, .int a2, .int a3, .int a4, .int a5] (wB M β 17 S) (wB M β 17 S') (some (.int r)) := by
  refine mc_of (cc := cX4_newVehicle) (maxL := 7) (ret := (some .int)) (by decide) rfl (Nat.le_of_ble_eq_true rfl) ?_
  intro p e s m args below meth c H ls hx hb hr hts hown hml hlocks hE hw hl
  have hl : lv_has ls 7 [(0, .ref (gA G (β + 0))), (1, .int a1), (2, .int a2), (3, .int a3), (4, .int a4), (5, .int a5)] := hl
  have hinX4 : ∀ w ∈ wsX40, w ∈ zzX4_newVehicle := fun w h9 => wz_in (zinX4 w h9)
  unfold pX4_newVehicle at h
  refine lv_aload_n hx hb dX4_newVehicle_0 rfl (lv_at hl 0 rfl) ?_
  refine r_get (v := .ref (gA G (β + 9))) hx hb hts hinX4 hown hE hw hn 0 (by decide) (congrFun hR.1 _) rfl 4 (by decide) (hts _ (wz_in qF_X4_29)) rfl dX4_newVehicle_1 ?_
  obtain ⟨v4, T4, h4, h⟩ := cws_some h
  refine r_callV (As := []) (rest := []) (st1 := [.int v4]) hx hb hml hown hts hE hw hl (mc_sub 9 2 (by decide) (mX5_addRow l G (by show β + 9 + 2 ≤ _; omega) hR.2.2.2.2.2.1 h4)) (cwV 0 hts (zV gV_X4_70) rfl rfl rfl kdX5_addRow ⟨Nat.le_of_ble_eq_true rfl, Nat.le_of_ble_eq_true rfl⟩) (by omega) (congrFun hR.2.2.2.2.2.1.1 _) rfl rfl rfl rfl (Nat.le_of_ble_eq_true rfl) dX4_newVehicle_4 ⟨Nat.zero_le _, Nat.zero_le _⟩ rfl (fun H locs hw => ?_)
  generalize wB S 9 2 T4 = S4 at h hw
  refine lv_istore (lv' := [(6, .int v4), (0, .ref (gA G (β + 0))), (1, .int a1), (2, .int a2), (3, .int a3), (4, .int a4), (5, .int a5)]) hx hb dX4_newVehicle_7 hl (by decide) rfl (fun ls hl => ?_)
  refine lv_aload_n hx hb dX4_newVehicle_9 rfl (lv_at hl 1 rfl) ?_
  refine r_get (v := .ref (gA G (β + 9))) hx hb hts hinX4 hown hE hw hn 0 (by decide) (congrFun hR.1 _) rfl 4 (by decide) (hts _ (wz_in qF_X4_29)) rfl dX4_newVehicle_10 ?_
  refine lv_iload hx hb dX4_newVehicle_13 (lv_at hl 0 rfl) ?_
  refine lv_iconst (v := (nI 0)) hx hb dX4_newVehicle_15 (by decide) ?_
  refine lv_iload_n hx hb dX4_newVehicle_16 rfl (lv_at hl 3 rfl) ?_
  obtain ⟨T17, h17, h⟩ := cvs_some h
  refine r_callV (As := [.int v4, .int (nI 0), .int a2]) (rest := []) (st1 := []) hx hb hml hown hts hE hw hl (mc_sub 9 2 (by decide) (mX5_put l G (by show β + 9 + 2 ≤ _; omega) hR.2.2.2.2.2.1 h17)) (cwV 3 hts (zV gV_X4_74) rfl rfl rfl kdX5_put ⟨Nat.le_of_ble_eq_true rfl, Nat.le_of_ble_eq_true rfl⟩) (by omega) (congrFun hR.2.2.2.2.2.1.1 _) rfl rfl rfl rfl (Nat.le_of_ble_eq_true rfl) dX4_newVehicle_17 ⟨Nat.zero_le _, Nat.zero_le _⟩ rfl (fun H locs hw => ?_)
  generalize wB S4 9 2 T17 = S17 at h hw
  refine lv_aload_n hx hb dX4_newVehicle_20 rfl (lv_at hl 1 rfl) ?_
  refine r_get (v := .ref (gA G (β + 9))) hx hb hts hinX4 hown hE hw hn 0 (by decide) (congrFun hR.1 _) rfl 4 (by decide) (hts _ (wz_in qF_X4_29)) rfl dX4_newVehicle_21 ?_
  refine lv_iload hx hb dX4_newVehicle_24 (lv_at hl 0 rfl) ?_
  refine lv_iconst (v := (nI 1)) hx hb dX4_newVehicle_26 (by decide) ?_
  refine lv_iload_n hx hb dX4_newVehicle_27 rfl (lv_at hl 4 rfl) ?_
  obtain ⟨T28, h28, h⟩ := cvs_some h
  refine r_callV (As := [.int v4, .int (nI 1), .int a3]) (rest := []) (st1 := []) hx hb hml hown hts hE hw hl (mc_sub 9 2 (by decide) (mX5_put l G (by show β + 9 + 2 ≤ _; omega) hR.2.2.2.2.2.1 h28)) (cwV 3 hts (zV gV_X4_74) rfl rfl rfl kdX5_put ⟨Nat.le_of_ble_eq_true rfl, Nat.le_of_ble_eq_true rfl⟩) (by omega) (congrFun hR.2.2.2.2.2.1.1 _) rfl rfl rfl rfl (Nat.le_of_ble_eq_true rfl) dX4_newVehicle_28 ⟨Nat.zero_le _, Nat.zero_le _⟩ rfl (fun H locs hw => ?_)
  generalize wB S17 9 2 T28 = S28 at h hw
  refine lv_aload_n hx hb dX4_newVehicle_31 rfl (lv_at hl 1 rfl) ?_
  refine r_get (v := .ref (gA G (β + 9))) hx hb hts hinX4 hown hE hw hn 0 (by decide) (congrFun hR.1 _) rfl 4 (by decide) (hts _ (wz_in qF_X4_29)) rfl dX4_newVehicle_32 ?_
  refine lv_iload hx hb dX4_newVehicle_35 (lv_at hl 0 rfl) ?_
  refine lv_iconst (v := (nI 2)) hx hb dX4_newVehicle_37 (by decide) ?_
  refine lv_iload hx hb dX4_newVehicle_38 (lv_at hl 5 rfl) ?_
  obtain ⟨T40, h40, h⟩ := cvs_some h
  refine r_callV (As := [.int v4, .int (nI 2), .int a4]) (rest := []) (st1 := []) hx hb hml hown hts hE hw hl (mc_sub 9 2 (by decide) (mX5_put l G (by show β + 9 + 2 ≤ _; omega) hR.2.2.2.2.2.1 h40)) (cwV 3 hts (zV gV_X4_74) rfl rfl rfl kdX5_put ⟨Nat.le_of_ble_eq_true rfl, Nat.le_of_ble_eq_true rfl⟩) (by omega) (congrFun hR.2.2.2.2.2.1.1 _) rfl rfl rfl rfl (Nat.le_of_ble_eq_true rfl) dX4_newVehicle_40 ⟨Nat.zero_le _, Nat.zero_le _⟩ rfl (fun H locs hw => ?_)
  generalize wB S28 9 2 T40 = S40 at h hw
  refine lv_aload_n hx hb dX4_newVehicle_43 rfl (lv_at hl 1 rfl) ?_
  refine r_get (v := .ref (gA G (β + 9))) hx hb hts hinX4 hown hE hw hn 0 (by decide) (congrFun hR.1 _) rfl 4 (by decide) (hts _ (wz_in qF_X4_29)) rfl dX4_newVehicle_44 ?_
  refine lv_iload hx hb dX4_newVehicle_47 (lv_at hl 0 rfl) ?_
  refine lv_iconst (v := (nI 3)) hx hb dX4_newVehicle_49 (by decide) ?_
  refine lv_iload hx hb dX4_newVehicle_50 (lv_at hl 6 rfl) ?_
  obtain ⟨T52, h52, h⟩ := cvs_some h
  refine r_callV (As := [.int v4, .int (nI 3), .int a5]) (rest := []) (st1 := []) hx hb hml hown hts hE hw hl (mc_sub 9 2 (by decide) (mX5_put l G (by show β + 9 + 2 ≤ _; omega) hR.2.2.2.2.2.1 h52)) (cwV 3 hts (zV gV_X4_74) rfl rfl rfl kdX5_put ⟨Nat.le_of_ble_eq_true rfl, Nat.le_of_ble_eq_true rfl⟩) (by omega) (congrFun hR.2.2.2.2.2.1.1 _) rfl rfl rfl rfl (Nat.le_of_ble_eq_true rfl) dX4_newVehicle_52 ⟨Nat.zero_le _, Nat.zero_le _⟩ rfl (fun H locs hw => ?_)
  generalize wB S40 9 2 T52 = S52 at h hw
  refine lv_aload_n hx hb dX4_newVehicle_55 rfl (lv_at hl 1 rfl) ?_
  refine lv_iload hx hb dX4_newVehicle_56 (lv_at hl 0 rfl) ?_
  refine lv_iconst (v := (nI 0)) hx hb dX4_newVehicle_58 (by decide) ?_
  refine lv_iload_n hx hb dX4_newVehicle_59 rfl (lv_at hl 2 rfl) ?_
  obtain ⟨S60, h60, h⟩ := cr1_some h
  refine r_callV (As := [.int v4, .int (nI 0), .int a1]) (rest := []) (st1 := []) hx hb hml hown hts hE hw hl (mX4_moveTo l G (by omega) hR h60) (cwV 3 hts (zV gV_X4_78) rfl rfl rfl kdX4_moveTo ⟨Nat.le_of_ble_eq_true rfl, Nat.le_of_ble_eq_true rfl⟩) (by omega) (congrFun hR.1 _) rfl rfl rfl rfl (Nat.le_of_ble_eq_true rfl) dX4_newVehicle_60 ⟨Nat.zero_le _, Nat.zero_le _⟩ rfl (fun H locs hw => ?_)
  refine lv_aload_n hx hb dX4_newVehicle_63 rfl (lv_at hl 1 rfl) ?_
  refine r_get (v := .ref (gA G (β + 11))) hx hb hts hinX4 hown hE hw hn 0 (by decide) (congrFun hR.1 _) rfl 5 (by decide) (hts _ (wz_in qF_X4_35)) rfl dX4_newVehicle_64 ?_
  refine lv_iload_n hx hb dX4_newVehicle_67 rfl (lv_at hl 2 rfl) ?_
  refine lv_iload hx hb dX4_newVehicle_68 (lv_at hl 0 rfl) ?_
  obtain ⟨T70, h70, h⟩ := cvs_some h
  refine r_callV (As := [.int a1, .int v4]) (rest := []) (st1 := []) hx hb hml hown hts hE hw hl (mc_sub 11 3 (by decide) (mX2_join l G (by show β + 11 + 3 ≤ _; omega) hR.2.2.2.2.2.2.1 h70)) (cwV 2 hts (zV gV_X4_81) rfl rfl rfl kdX2_join ⟨Nat.le_of_ble_eq_true rfl, Nat.le_of_ble_eq_true rfl⟩) (by omega) (congrFun hR.2.2.2.2.2.2.1.1 _) rfl rfl rfl rfl (Nat.le_of_ble_eq_true rfl) dX4_newVehicle_70 ⟨Nat.zero_le _, Nat.zero_le _⟩ rfl (fun H locs hw => ?_)
  generalize wB S60 11 3 T70 = S70 at h hw
  refine lv_iload hx hb dX4_newVehicle_73 (lv_at hl 0 rfl) ?_
  exact e_iw hx hb hr hlocks hw dX4_newVehicle_75 h

set_option maxHeartbeats 4000000 in
set_option maxRecDepth 100000 in
theorem mX4_newConvoy (l : Launch) (G : mG) {β : Nat} {M S S' : mM} {r : Int32} (hn : β + 17 ≤ gN G) (hR : isSt G β) (h : pX4_newConvoy S = some (r, S')) : MC l G yX4_newConvoy zzX4_newConvoy 2 46 [.ref (gA G (β + 0))] (wB M β 17 S) (wB M β 17 S') (some (.int r)) := by
  refine mc_of (cc := cX4_newConvoy) (maxL := 1) (ret := (some .int)) (by decide) rfl (Nat.le_of_ble_eq_true rfl) ?_
  intro p e s m args below meth c H ls hx hb hr hts hown hml hlocks hE hw hl
  have hl : lv_has ls 1 [(0, .ref (gA G (β + 0)))] := hl
  have hinX4 : ∀ w ∈ wsX40, w ∈ zzX4_newConvoy := fun w h9 => wz_in (zinX4 w h9)
  unfold pX4_newConvoy at h
  refine lv_aload_n hx hb dX4_newConvoy_0 rfl (lv_at hl 0 rfl) ?_
  refine r_get (v := .ref (gA G (β + 7))) hx hb hts hinX4 hown hE hw hn 0 (by decide) (congrFun hR.1 _) rfl 3 (by decide) (hts _ (wz_in qF_X4_26)) rfl dX4_newConvoy_1 ?_
  obtain ⟨v4, T4, h4, h⟩ := cws_some h
  refine r_callV (As := []) (rest := []) (st1 := [.int v4]) hx hb hml hown hts hE hw hl (mc_sub 7 2 (by decide) (mX5_addRow l G (by show β + 7 + 2 ≤ _; omega) hR.2.2.2.2.1 h4)) (cwV 0 hts (zV gV_X4_70) rfl rfl rfl kdX5_addRow ⟨Nat.le_of_ble_eq_true rfl, Nat.le_of_ble_eq_true rfl⟩) (by omega) (congrFun hR.2.2.2.2.1.1 _) rfl rfl rfl rfl (Nat.le_of_ble_eq_true rfl) dX4_newConvoy_4 ⟨Nat.zero_le _, Nat.zero_le _⟩ rfl (fun H locs hw => ?_)
  generalize wB S 7 2 T4 = S4 at h hw
  exact e_iw hx hb hr hlocks hw dX4_newConvoy_7 h

set_option maxHeartbeats 4000000 in
set_option maxRecDepth 100000 in
theorem mX4_begin (l : Launch) (G : mG) {β : Nat} {M S S' : mM} {a1 : Int32} (hn : β + 17 ≤ gN G) (hR : isSt G β) (h : pX4_begin a1 S = some S') : MC l G yX4_begin zzX4_begin 1 21 [.ref (gA G (β + 0)), .int a1] (wB M β 17 S) (wB M β 17 S') none := by
  refine mc_of (cc := cX4_begin) (maxL := 2) (ret := none) (by decide) rfl (Nat.le_of_ble_eq_true rfl) ?_
  intro p e s m args below meth c H ls hx hb hr hts hown hml hlocks hE hw hl
  have hl : lv_has ls 2 [(0, .ref (gA G (β + 0))), (1, .int a1)] := hl
  have hinX4 : ∀ w ∈ wsX40, w ∈ zzX4_begin := fun w h9 => wz_in (zinX4 w h9)
  unfold pX4_begin at h
  refine lv_aload_n hx hb dX4_begin_0 rfl (lv_at hl 0 rfl) ?_
  refine lv_iload_n hx hb dX4_begin_1 rfl (lv_at hl 1 rfl) ?_
  refine p_put hx hb hts hinX4 tyX4 tyX4_ok nmX4 hown hE hw hn 0 (by decide) (congrFun hR.1 _) rfl 7 (by decide) (hts _ (wz_in qF_X4_49)) rfl (by decide +kernel) (Nat.le_of_ble_eq_true rfl) (congrFun hR.1 _) dX4_begin_2 h (fun S2 h H locs hw => ?_)
  refine lv_aload_n hx hb dX4_begin_5 rfl (lv_at hl 0 rfl) ?_
  refine lv_iconst (v := (nI 0)) hx hb dX4_begin_6 (by decide) ?_
  refine p_put hx hb hts hinX4 tyX4 tyX4_ok nmX4 hown hE hw hn 0 (by decide) (congrFun hR.1 _) rfl 8 (by decide) (hts _ (wz_in qF_X4_52)) rfl (by decide +kernel) (Nat.le_of_ble_eq_true rfl) (congrFun hR.1 _) dX4_begin_7 h (fun S7 h H locs hw => ?_)
  refine lv_aload_n hx hb dX4_begin_10 rfl (lv_at hl 0 rfl) ?_
  refine r_get (v := .ref (gA G (β + 1))) hx hb hts hinX4 hown hE hw hn 0 (by decide) (congrFun hR.1 _) rfl 0 (by decide) (hts _ (wz_in qF_X4_14)) rfl dX4_begin_11 ?_
  obtain ⟨T14, h14, h⟩ := cvs_some h
  refine r_callV (As := []) (rest := []) (st1 := []) hx hb hml hown hts hE hw hl (mc_sub 1 2 (by decide) (mX5_emptyOut l G (by show β + 1 + 2 ≤ _; omega) hR.2.1 h14)) (cwV 0 hts (zV gV_X4_55) rfl rfl rfl kdX5_emptyOut ⟨Nat.le_of_ble_eq_true rfl, Nat.le_of_ble_eq_true rfl⟩) (by omega) (congrFun hR.2.1.1 _) rfl rfl rfl rfl (Nat.le_of_ble_eq_true rfl) dX4_begin_14 ⟨Nat.zero_le _, Nat.zero_le _⟩ rfl (fun H locs hw => ?_)
  generalize wB S7 1 2 T14 = S14 at h hw
  refine lv_aload_n hx hb dX4_begin_17 rfl (lv_at hl 0 rfl) ?_
  refine r_get (v := .ref (gA G (β + 3))) hx hb hts hinX4 hown hE hw hn 0 (by decide) (congrFun hR.1 _) rfl 1 (by decide) (hts _ (wz_in qF_X4_20)) rfl dX4_begin_18 ?_
  obtain ⟨T21, h21, h⟩ := cvs_some h
  refine r_callV (As := []) (rest := []) (st1 := []) hx hb hml hown hts hE hw hl (mc_sub 3 2 (by decide) (mX5_emptyOut l G (by show β + 3 + 2 ≤ _; omega) hR.2.2.1 h21)) (cwV 0 hts (zV gV_X4_55) rfl rfl rfl kdX5_emptyOut ⟨Nat.le_of_ble_eq_true rfl, Nat.le_of_ble_eq_true rfl⟩) (by omega) (congrFun hR.2.2.1.1 _) rfl rfl rfl rfl (Nat.le_of_ble_eq_true rfl) dX4_begin_21 ⟨Nat.zero_le _, Nat.zero_le _⟩ rfl (fun H locs hw => ?_)
  generalize wB S14 3 2 T21 = S21 at h hw
  refine lv_aload_n hx hb dX4_begin_24 rfl (lv_at hl 0 rfl) ?_
  refine r_get (v := .ref (gA G (β + 5))) hx hb hts hinX4 hown hE hw hn 0 (by decide) (congrFun hR.1 _) rfl 2 (by decide) (hts _ (wz_in qF_X4_23)) rfl dX4_begin_25 ?_
  obtain ⟨T28, h28, h⟩ := cvs_some h
  refine r_callV (As := []) (rest := []) (st1 := []) hx hb hml hown hts hE hw hl (mc_sub 5 2 (by decide) (mX5_emptyOut l G (by show β + 5 + 2 ≤ _; omega) hR.2.2.2.1 h28)) (cwV 0 hts (zV gV_X4_55) rfl rfl rfl kdX5_emptyOut ⟨Nat.le_of_ble_eq_true rfl, Nat.le_of_ble_eq_true rfl⟩) (by omega) (congrFun hR.2.2.2.1.1 _) rfl rfl rfl rfl (Nat.le_of_ble_eq_true rfl) dX4_begin_28 ⟨Nat.zero_le _, Nat.zero_le _⟩ rfl (fun H locs hw => ?_)
  generalize wB S21 5 2 T28 = S28 at h hw
  refine lv_aload_n hx hb dX4_begin_31 rfl (lv_at hl 0 rfl) ?_
  refine r_get (v := .ref (gA G (β + 7))) hx hb hts hinX4 hown hE hw hn 0 (by decide) (congrFun hR.1 _) rfl 3 (by decide) (hts _ (wz_in qF_X4_26)) rfl dX4_begin_32 ?_
  obtain ⟨T35, h35, h⟩ := cvs_some h
  refine r_callV (As := []) (rest := []) (st1 := []) hx hb hml hown hts hE hw hl (mc_sub 7 2 (by decide) (mX5_emptyOut l G (by show β + 7 + 2 ≤ _; omega) hR.2.2.2.2.1 h35)) (cwV 0 hts (zV gV_X4_55) rfl rfl rfl kdX5_emptyOut ⟨Nat.le_of_ble_eq_true rfl, Nat.le_of_ble_eq_true rfl⟩) (by omega) (congrFun hR.2.2.2.2.1.1 _) rfl rfl rfl rfl (Nat.le_of_ble_eq_true rfl) dX4_begin_35 ⟨Nat.zero_le _, Nat.zero_le _⟩ rfl (fun H locs hw => ?_)
  generalize wB S28 7 2 T35 = S35 at h hw
  refine lv_aload_n hx hb dX4_begin_38 rfl (lv_at hl 0 rfl) ?_
  refine r_get (v := .ref (gA G (β + 9))) hx hb hts hinX4 hown hE hw hn 0 (by decide) (congrFun hR.1 _) rfl 4 (by decide) (hts _ (wz_in qF_X4_29)) rfl dX4_begin_39 ?_
  obtain ⟨T42, h42, h⟩ := cvs_some h
  refine r_callV (As := []) (rest := []) (st1 := []) hx hb hml hown hts hE hw hl (mc_sub 9 2 (by decide) (mX5_emptyOut l G (by show β + 9 + 2 ≤ _; omega) hR.2.2.2.2.2.1 h42)) (cwV 0 hts (zV gV_X4_55) rfl rfl rfl kdX5_emptyOut ⟨Nat.le_of_ble_eq_true rfl, Nat.le_of_ble_eq_true rfl⟩) (by omega) (congrFun hR.2.2.2.2.2.1.1 _) rfl rfl rfl rfl (Nat.le_of_ble_eq_true rfl) dX4_begin_42 ⟨Nat.zero_le _, Nat.zero_le _⟩ rfl (fun H locs hw => ?_)
  generalize wB S35 9 2 T42 = S42 at h hw
  refine lv_aload_n hx hb dX4_begin_45 rfl (lv_at hl 0 rfl) ?_
  refine r_get (v := .ref (gA G (β + 11))) hx hb hts hinX4 hown hE hw hn 0 (by decide) (congrFun hR.1 _) rfl 5 (by decide) (hts _ (wz_in qF_X4_35)) rfl dX4_begin_46 ?_
  obtain ⟨T49, h49, h⟩ := cvs_some h
  refine r_callV (As := []) (rest := []) (st1 := []) hx hb hml hown hts hE hw hl (mc_sub 11 3 (by decide) (mX2_emptyOut l G (by show β + 11 + 3 ≤ _; omega) hR.2.2.2.2.2.2.1 h49)) (cwV 0 hts (zV gV_X4_58) rfl rfl rfl kdX2_emptyOut ⟨Nat.le_of_ble_eq_true rfl, Nat.le_of_ble_eq_true rfl⟩) (by omega) (congrFun hR.2.2.2.2.2.2.1.1 _) rfl rfl rfl rfl (Nat.le_of_ble_eq_true rfl) dX4_begin_49 ⟨Nat.zero_le _, Nat.zero_le _⟩ rfl (fun H locs hw => ?_)
  generalize wB S42 11 3 T49 = S49 at h hw
  refine lv_aload_n hx hb dX4_begin_52 rfl (lv_at hl 0 rfl) ?_
  refine r_get (v := .ref (gA G (β + 14))) hx hb hts hinX4 hown hE hw hn 0 (by decide) (congrFun hR.1 _) rfl 6 (by decide) (hts _ (wz_in qF_X4_39)) rfl dX4_begin_53 ?_
  obtain ⟨T56, h56, h⟩ := cvs_some h
  refine r_callV (As := []) (rest := []) (st1 := []) hx hb hml hown hts hE hw hl (mc_sub 14 3 (by decide) (mX2_emptyOut l G (by show β + 14 + 3 ≤ _; omega) hR.2.2.2.2.2.2.2 h56)) (cwV 0 hts (zV gV_X4_58) rfl rfl rfl kdX2_emptyOut ⟨Nat.le_of_ble_eq_true rfl, Nat.le_of_ble_eq_true rfl⟩) (by omega) (congrFun hR.2.2.2.2.2.2.2.1 _) rfl rfl rfl rfl (Nat.le_of_ble_eq_true rfl) dX4_begin_56 ⟨Nat.zero_le _, Nat.zero_le _⟩ rfl (fun H locs hw => ?_)
  generalize wB S49 14 3 T56 = S56 at h hw
  exact e_vw hx hb hr hlocks hw dX4_begin_59 h

set_option maxHeartbeats 4000000 in
set_option maxRecDepth 100000 in
theorem mX4_hours (l : Launch) (G : mG) {β : Nat} {M S : mM} {r : Int32} (hn : β + 17 ≤ gN G) (hR : isSt G β) (h : pX4_hours S = some r) : MC l G yX4_hours zzX4_hours 0 0 [.ref (gA G (β + 0))] (wB M β 17 S) (wB M β 17 S) (some (.int r)) := by
  refine mc_of (cc := cX4_hours) (maxL := 1) (ret := (some .int)) (by decide) rfl (Nat.le_of_ble_eq_true rfl) ?_
  intro p e s m args below meth c H ls hx hb hr hts hown hml hlocks hE hw hl
  have hl : lv_has ls 1 [(0, .ref (gA G (β + 0)))] := hl
  have hinX4 : ∀ w ∈ wsX40, w ∈ zzX4_hours := fun w h9 => wz_in (zinX4 w h9)
  unfold pX4_hours at h
  refine lv_aload_n hx hb dX4_hours_0 rfl (lv_at hl 0 rfl) ?_
  refine p_get hx hb hts hinX4 hown hE hw hn 0 (by decide) (congrFun hR.1 _) rfl 8 (by decide) (hts _ (wz_in qF_X4_52)) rfl dX4_hours_1 h (fun v1 h => ?_)
  exact e_i hx hb hr hlocks hw dX4_hours_4 h

set_option maxHeartbeats 4000000 in
set_option maxRecDepth 100000 in
theorem mX4_isAtEnd (l : Launch) (G : mG) {β : Nat} {M S : mM} {a1 : Int32} {r : Int32} (hn : β + 17 ≤ gN G) (hR : isSt G β) (h : pX4_isAtEnd a1 S = some r) : MC l G yX4_isAtEnd zzX4_isAtEnd 1 24 [.ref (gA G (β + 0)), .int a1] (wB M β 17 S) (wB M β 17 S) (some (.int r)) := by
  refine mc_of (cc := cX4_isAtEnd) (maxL := 2) (ret := (some .boolean)) (by decide) rfl (Nat.le_of_ble_eq_true rfl) ?_
  intro p e s m args below meth c H ls hx hb hr hts hown hml hlocks hE hw hl
  have hl : lv_has ls 2 [(0, .ref (gA G (β + 0))), (1, .int a1)] := hl
  have hinX4 : ∀ w ∈ wsX40, w ∈ zzX4_isAtEnd := fun w h9 => wz_in (zinX4 w h9)
  unfold pX4_isAtEnd at h
  refine lv_aload_n hx hb dX4_isAtEnd_0 rfl (lv_at hl 0 rfl) ?_
  refine r_get (v := .ref (gA G (β + 7))) hx hb hts hinX4 hown hE hw hn 0 (by decide) (congrFun hR.1 _) rfl 3 (by decide) (hts _ (wz_in qF_X4_26)) rfl dX4_isAtEnd_1 ?_
  refine lv_iload_n hx hb dX4_isAtEnd_4 rfl (lv_at hl 1 rfl) ?_
  refine lv_iconst (v := (nI 0)) hx hb dX4_isAtEnd_5 (by decide) ?_
  obtain ⟨v6, h6, h⟩ := cr1_some h
  refine r_callV (As := [.int a1, .int (nI 0)]) (rest := []) (st1 := [.int v6]) hx hb hml hown hts hE hw hl (mc_subR 7 2 (by decide) (mX5_get l G (by show β + 7 + 2 ≤ _; omega) hR.2.2.2.2.1 h6)) (cwV 2 hts (zV gV_X4_96) rfl rfl rfl kdX5_get ⟨Nat.le_of_ble_eq_true rfl, Nat.le_of_ble_eq_true rfl⟩) (by omega) (congrFun hR.2.2.2.2.1.1 _) rfl rfl rfl rfl (Nat.le_of_ble_eq_true rfl) dX4_isAtEnd_6 ⟨Nat.zero_le _, Nat.zero_le _⟩ rfl (fun H locs hw => ?_)
  refine lv_aload_n hx hb dX4_isAtEnd_9 rfl (lv_at hl 0 rfl) ?_
  refine p_get hx hb hts hinX4 hown hE hw hn 0 (by decide) (congrFun hR.1 _) rfl 7 (by decide) (hts _ (wz_in qF_X4_49)) rfl dX4_isAtEnd_10 h (fun v10 h => ?_)
  refine bi_ne (tgt := 20) hx hb dX4_isAtEnd_13 (by decide) h (fun h => ?_) (fun h => ?_)
  · refine lv_iconst (v := (nI 0)) hx hb dX4_isAtEnd_20 (by decide) ?_
    exact e_z hx hb hr hlocks hw dX4_isAtEnd_21 h
  · refine lv_iconst (v := (nI 1)) hx hb dX4_isAtEnd_16 (by decide) ?_
    refine lv_goto (tgt := 21) hx hb dX4_isAtEnd_17 (by decide) ?_
    exact e_z hx hb hr hlocks hw dX4_isAtEnd_21 h

set_option maxHeartbeats 4000000 in
set_option maxRecDepth 100000 in
theorem mX4_closedFor (l : Launch) (G : mG) {β : Nat} {M S : mM} {a1 : Int32} {r : Int32} (hn : β + 17 ≤ gN G) (hR : isSt G β) (h : pX4_closedFor a1 S = some r) : MC l G yX4_closedFor zzX4_closedFor 1 24 [.ref (gA G (β + 0)), .int a1] (wB M β 17 S) (wB M β 17 S) (some (.int r)) := by
  refine mc_of (cc := cX4_closedFor) (maxL := 4) (ret := (some .int)) (by decide) rfl (Nat.le_of_ble_eq_true rfl) ?_
  intro p e s m args below meth c H ls hx hb hr hts hown hml hlocks hE hw hl
  have hl : lv_has ls 4 [(0, .ref (gA G (β + 0))), (1, .int a1)] := hl
  have hinX4 : ∀ w ∈ wsX40, w ∈ zzX4_closedFor := fun w h9 => wz_in (zinX4 w h9)
  unfold pX4_closedFor at h
  refine lv_aload_n hx hb dX4_closedFor_0 rfl (lv_at hl 0 rfl) ?_
  refine r_get (v := .ref (gA G (β + 1))) hx hb hts hinX4 hown hE hw hn 0 (by decide) (congrFun hR.1 _) rfl 0 (by decide) (hts _ (wz_in qF_X4_14)) rfl dX4_closedFor_1 ?_
  refine lv_iload_n hx hb dX4_closedFor_4 rfl (lv_at hl 1 rfl) ?_
  refine lv_iconst (v := (nI 1)) hx hb dX4_closedFor_5 (by decide) ?_
  obtain ⟨v6, h6, h⟩ := cr1_some h
  refine r_callV (As := [.int a1, .int (nI 1)]) (rest := []) (st1 := [.int v6]) hx hb hml hown hts hE hw hl (mc_subR 1 2 (by decide) (mX5_get l G (by show β + 1 + 2 ≤ _; omega) hR.2.1 h6)) (cwV 2 hts (zV gV_X4_96) rfl rfl rfl kdX5_get ⟨Nat.le_of_ble_eq_true rfl, Nat.le_of_ble_eq_true rfl⟩) (by omega) (congrFun hR.2.1.1 _) rfl rfl rfl rfl (Nat.le_of_ble_eq_true rfl) dX4_closedFor_6 ⟨Nat.zero_le _, Nat.zero_le _⟩ rfl (fun H locs hw => ?_)
  refine lv_istore_n (lv' := [(2, .int v6), (0, .ref (gA G (β + 0))), (1, .int a1)]) hx hb dX4_closedFor_9 rfl hl (by decide) rfl (fun ls hl => ?_)
  refine lv_iload_n hx hb dX4_closedFor_10 rfl (lv_at hl 0 rfl) ?_
  refine b_gt (tgt := 16) hx hb dX4_closedFor_11 (by decide) h (fun h => ?_) (fun h => ?_)
  · refine lv_aload_n hx hb dX4_closedFor_16 rfl (lv_at hl 1 rfl) ?_
    refine p_get hx hb hts hinX4 hown hE hw hn 0 (by decide) (congrFun hR.1 _) rfl 8 (by decide) (hts _ (wz_in qF_X4_52)) rfl dX4_closedFor_17 h (fun v17 h => ?_)
    refine lv_aload_n hx hb dX4_closedFor_20 rfl (lv_at hl 1 rfl) ?_
    refine r_get (v := .ref (gA G (β + 1))) hx hb hts hinX4 hown hE hw hn 0 (by decide) (congrFun hR.1 _) rfl 0 (by decide) (hts _ (wz_in qF_X4_14)) rfl dX4_closedFor_21 ?_
    refine lv_iload_n hx hb dX4_closedFor_24 rfl (lv_at hl 2 rfl) ?_
    refine lv_iconst (v := (nI 3)) hx hb dX4_closedFor_25 (by decide) ?_
    obtain ⟨v26, h26, h⟩ := cr1_some h
    refine r_callV (As := [.int a1, .int (nI 3)]) (rest := [.int v17]) (st1 := [.int v26, .int v17]) hx hb hml hown hts hE hw hl (mc_subR 1 2 (by decide) (mX5_get l G (by show β + 1 + 2 ≤ _; omega) hR.2.1 h26)) (cwV 2 hts (zV gV_X4_96) rfl rfl rfl kdX5_get ⟨Nat.le_of_ble_eq_true rfl, Nat.le_of_ble_eq_true rfl⟩) (by omega) (congrFun hR.2.1.1 _) rfl rfl rfl rfl (Nat.le_of_ble_eq_true rfl) dX4_closedFor_26 ⟨Nat.zero_le _, Nat.zero_le _⟩ rfl (fun H locs hw => ?_)
    refine lv_iadd hx hb dX4_closedFor_29 ?_
    refine lv_iload_n hx hb dX4_closedFor_30 rfl (lv_at hl 0 rfl) ?_
    obtain ⟨hz31, h⟩ := nz_some h
    refine lv_irem hx hb dX4_closedFor_31 hz31 ?_
    refine p_topi h (fun v32 h => ?_)
    refine lv_istore_n (lv' := [(3, .int v32), (2, .int v6), (0, .ref (gA G (β + 0))), (1, .int a1)]) hx hb dX4_closedFor_32 rfl hl (by decide) rfl (fun ls hl => ?_)
    refine lv_iconst (v := (nI 0)) hx hb dX4_closedFor_33 (by decide) ?_
    refine lv_aload_n hx hb dX4_closedFor_34 rfl (lv_at hl 2 rfl) ?_
    refine r_get (v := .ref (gA G (β + 1))) hx hb hts hinX4 hown hE hw hn 0 (by decide) (congrFun hR.1 _) rfl 0 (by decide) (hts _ (wz_in qF_X4_14)) rfl dX4_closedFor_35 ?_
    refine lv_iload_n hx hb dX4_closedFor_38 rfl (lv_at hl 3 rfl) ?_
    refine lv_iconst (v := (nI 2)) hx hb dX4_closedFor_39 (by decide) ?_
    obtain ⟨v40, h40, h⟩ := cr1_some h
    refine r_callV (As := [.int a1, .int (nI 2)]) (rest := [.int (nI 0)]) (st1 := [.int v40, .int (nI 0)]) hx hb hml hown hts hE hw hl (mc_subR 1 2 (by decide) (mX5_get l G (by show β + 1 + 2 ≤ _; omega) hR.2.1 h40)) (cwV 2 hts (zV gV_X4_96) rfl rfl rfl kdX5_get ⟨Nat.le_of_ble_eq_true rfl, Nat.le_of_ble_eq_true rfl⟩) (by omega) (congrFun hR.2.1.1 _) rfl rfl rfl rfl (Nat.le_of_ble_eq_true rfl) dX4_closedFor_40 ⟨Nat.zero_le _, Nat.zero_le _⟩ rfl (fun H locs hw => ?_)
    refine lv_iload_n hx hb dX4_closedFor_43 rfl (lv_at hl 0 rfl) ?_
    refine lv_isub hx hb dX4_closedFor_44 ?_
    refine va_mmax hx hb (hml.trans hl.1.symm) hown (hts _ (wz_in qM_X4_100)) (hts _ (wz_in qT_max)) (hts _ (wz_in qN_J9)) (hts _ (wz_in qC_max)) (Nat.le_of_ble_eq_true rfl) (Nat.le_of_ble_eq_true rfl) (Nat.zero_le _) (Nat.zero_le _) dX4_closedFor_45 ?_
    refine p_topi h (fun v45 h => ?_)
    exact e_i hx hb hr hlocks hw dX4_closedFor_48 h
  · refine lv_iconst (v := (nI 0)) hx hb dX4_closedFor_14 (by decide) ?_
    exact e_i hx hb hr hlocks hw dX4_closedFor_15 h

set_option maxHeartbeats 4000000 in
set_option maxRecDepth 100000 in
theorem mX4_slowestSpeed (l : Launch) (G : mG) {β : Nat} {M S : mM} {a1 : Int32} {r : Int32} (hn : β + 17 ≤ gN G) (hR : isSt G β) (h : pX4_slowestSpeed a1 S = some r) : MC l G yX4_slowestSpeed zzX4_slowestSpeed 1 24 [.ref (gA G (β + 0)), .int a1] (wB M β 17 S) (wB M β 17 S) (some (.int r)) := by
  refine mc_of (cc := cX4_slowestSpeed) (maxL := 5) (ret := (some .int)) (by decide) rfl (Nat.le_of_ble_eq_true rfl) ?_
  intro p e s m args below meth c H ls hx hb hr hts hown hml hlocks hE hw hl
  have hl : lv_has ls 5 [(0, .ref (gA G (β + 0))), (1, .int a1)] := hl
  have hinX4 : ∀ w ∈ wsX40, w ∈ zzX4_slowestSpeed := fun w h9 => wz_in (zinX4 w h9)
  have k4 : ∀ (k : Nat), ∀ (x1 : Int32) (x2 : Int32) (x3 : Int32) (H : Heap) (locs : List Loc) (ls : Array Slot), pX4_slowestSpeed_l4  S k x1 x2 x3 = some r → mW G s (wB M β 17 S) H locs → lv_has ls 5 [(0, .ref (gA G (β + 0))), (1, .int x1), (2, .int x2), (3, .int x3)] → W p l e { frames := 1, cells := 0, slots := 0, locals := 24 } s m args below meth c H locs 0 0 (mZ below G (some (.int r)) (wB M β 17 S) args s) (F0 m 4 ls []) := by
    intro k
    induction k with
    | zero => intro x1 x2 x3 H locs ls h; cases h
    | succ k hih4 =>
      intro x1 x2 x3 H locs ls h hw hl
      obtain ⟨ih4, hk4⟩ : ∃ f, f = pX4_slowestSpeed_l4  S k := ⟨_, rfl⟩
      replace h : pX4_slowestSpeed_lb4  (pX4_slowestSpeed_l4  S k) S x1 x2 x3 = some r := h
      rw [← hk4] at h hih4
      clear hk4
      unfold pX4_slowestSpeed_lb4 at h
      refine lv_iload_n hx hb dX4_slowestSpeed_4 rfl (lv_at hl 3 rfl) ?_
      refine lv_aload_n hx hb dX4_slowestSpeed_5 rfl (lv_at hl 0 rfl) ?_
      refine r_get (v := .ref (gA G (β + 11))) hx hb hts hinX4 hown hE hw hn 0 (by decide) (congrFun hR.1 _) rfl 5 (by decide) (hts _ (wz_in qF_X4_35)) rfl dX4_slowestSpeed_6 ?_
      refine lv_iload_n hx hb dX4_slowestSpeed_9 rfl (lv_at hl 1 rfl) ?_
      obtain ⟨v10, h10, h⟩ := cr1_some h
      refine r_callV (As := [.int x1]) (rest := [.int x3]) (st1 := [.int v10, .int x3]) hx hb hml hown hts hE hw hl (mc_subR 11 3 (by decide) (mX2_size l G (by show β + 11 + 3 ≤ _; omega) hR.2.2.2.2.2.2.1 h10)) (cwV 1 hts (zV gV_X4_92) rfl rfl rfl kdX2_size ⟨Nat.le_of_ble_eq_true rfl, Nat.le_of_ble_eq_true rfl⟩) (by omega) (congrFun hR.2.2.2.2.2.2.1.1 _) rfl rfl rfl rfl (Nat.le_of_ble_eq_true rfl) dX4_slowestSpeed_10 ⟨Nat.zero_le _, Nat.zero_le _⟩ rfl (fun H locs hw => ?_)
      refine bi_ge (tgt := 57) hx hb dX4_slowestSpeed_13 (by decide) h (fun h => ?_) (fun h => ?_)
      · refine lv_iload_n hx hb dX4_slowestSpeed_57 rfl (lv_at hl 2 rfl) ?_
        exact e_i hx hb hr hlocks hw dX4_slowestSpeed_58 h
      · refine lv_aload_n hx hb dX4_slowestSpeed_16 rfl (lv_at hl 0 rfl) ?_
        refine r_get (v := .ref (gA G (β + 9))) hx hb hts hinX4 hown hE hw hn 0 (by decide) (congrFun hR.1 _) rfl 4 (by decide) (hts _ (wz_in qF_X4_29)) rfl dX4_slowestSpeed_17 ?_
        refine lv_aload_n hx hb dX4_slowestSpeed_20 rfl (lv_at hl 0 rfl) ?_
        refine r_get (v := .ref (gA G (β + 11))) hx hb hts hinX4 hown hE hw hn 0 (by decide) (congrFun hR.1 _) rfl 5 (by decide) (hts _ (wz_in qF_X4_35)) rfl dX4_slowestSpeed_21 ?_
        refine lv_iload_n hx hb dX4_slowestSpeed_24 rfl (lv_at hl 1 rfl) ?_
        refine lv_iload_n hx hb dX4_slowestSpeed_25 rfl (lv_at hl 3 rfl) ?_
        obtain ⟨v26, h26, h⟩ := cr1_some h
        refine r_callV (As := [.int x1, .int x3]) (rest := [.ref (gA G (β + 9))]) (st1 := [.int v26, .ref (gA G (β + 9))]) hx hb hml hown hts hE hw hl (mc_subR 11 3 (by decide) (mX2_get l G (by show β + 11 + 3 ≤ _; omega) hR.2.2.2.2.2.2.1 h26)) (cwV 2 hts (zV gV_X4_105) rfl rfl rfl kdX2_get ⟨Nat.le_of_ble_eq_true rfl, Nat.le_of_ble_eq_true rfl⟩) (by omega) (congrFun hR.2.2.2.2.2.2.1.1 _) rfl rfl rfl rfl (Nat.le_of_ble_eq_true rfl) dX4_slowestSpeed_26 ⟨Nat.zero_le _, Nat.zero_le _⟩ rfl (fun H locs hw => ?_)
        refine lv_iconst (v := (nI 0)) hx hb dX4_slowestSpeed_29 (by decide) ?_
        obtain ⟨v30, h30, h⟩ := cr1_some h
        refine r_callV (As := [.int v26, .int (nI 0)]) (rest := []) (st1 := [.int v30]) hx hb hml hown hts hE hw hl (mc_subR 9 2 (by decide) (mX5_get l G (by show β + 9 + 2 ≤ _; omega) hR.2.2.2.2.2.1 h30)) (cwV 2 hts (zV gV_X4_96) rfl rfl rfl kdX5_get ⟨Nat.le_of_ble_eq_true rfl, Nat.le_of_ble_eq_true rfl⟩) (by omega) (congrFun hR.2.2.2.2.2.1.1 _) rfl rfl rfl rfl (Nat.le_of_ble_eq_true rfl) dX4_slowestSpeed_30 ⟨Nat.zero_le _, Nat.zero_le _⟩ rfl (fun H locs hw => ?_)
        refine lv_istore (lv' := [(4, .int v30), (0, .ref (gA G (β + 0))), (1, .int x1), (2, .int x2), (3, .int x3)]) hx hb dX4_slowestSpeed_33 hl (by decide) rfl (fun ls hl => ?_)
        refine lv_iload_n hx hb dX4_slowestSpeed_35 rfl (lv_at hl 4 rfl) ?_
        refine b_ne (tgt := 44) hx hb dX4_slowestSpeed_36 (by decide) h (fun h => ?_) (fun h => ?_)
        · refine lv_iload_n hx hb dX4_slowestSpeed_44 rfl (lv_at hl 3 rfl) ?_
          refine lv_iload hx hb dX4_slowestSpeed_45 (lv_at hl 0 rfl) ?_
          refine va_mmin hx hb (hml.trans hl.1.symm) hown (hts _ (wz_in qM_X4_106)) (hts _ (wz_in qT_min)) (hts _ (wz_in qN_J9)) (hts _ (wz_in qC_min)) (Nat.le_of_ble_eq_true rfl) (Nat.le_of_ble_eq_true rfl) (Nat.zero_le _) (Nat.zero_le _) dX4_slowestSpeed_47 ?_
          refine p_topi h (fun v47 h => ?_)
          refine lv_istore_n (lv' := [(2, .int v47), (4, .int v30), (0, .ref (gA G (β + 0))), (1, .int x1), (3, .int x3)]) hx hb dX4_slowestSpeed_50 rfl hl (by decide) rfl (fun ls hl => ?_)
          refine p_iinc (w := (nI 1)) 4 (fun v51 => [(3, .int v51), (2, .int v47), (4, .int v30), (0, .ref (gA G (β + 0))), (1, .int x1)]) hx hb dX4_slowestSpeed_51 hl rfl (by decide) (by decide) h (fun _ => rfl) (fun v51 h ls hl => ?_)
          refine lv_goto (tgt := 4) hx hb dX4_slowestSpeed_54 (by decide) ?_
          exact hih4 x1 v47 v51 _ _ _ h hw (lv_sub hl [3, 4, 1, 0] rfl)
        · refine lv_iload hx hb dX4_slowestSpeed_39 (lv_at hl 0 rfl) ?_
          refine lv_goto (tgt := 50) hx hb dX4_slowestSpeed_41 (by decide) ?_
          refine lv_istore_n (lv' := [(2, .int v30), (4, .int v30), (0, .ref (gA G (β + 0))), (1, .int x1), (3, .int x3)]) hx hb dX4_slowestSpeed_50 rfl hl (by decide) rfl (fun ls hl => ?_)
          refine p_iinc (w := (nI 1)) 4 (fun v51 => [(3, .int v51), (2, .int v30), (4, .int v30), (0, .ref (gA G (β + 0))), (1, .int x1)]) hx hb dX4_slowestSpeed_51 hl rfl (by decide) (by decide) h (fun _ => rfl) (fun v51 h ls hl => ?_)
          refine lv_goto (tgt := 4) hx hb dX4_slowestSpeed_54 (by decide) ?_
          exact hih4 x1 v30 v51 _ _ _ h hw (lv_sub hl [3, 4, 1, 0] rfl)
  unfold pX4_slowestSpeed at h
  refine lv_iconst (v := (nI 0)) hx hb dX4_slowestSpeed_0 (by decide) ?_
  refine lv_istore_n (lv' := [(2, .int (nI 0)), (0, .ref (gA G (β + 0))), (1, .int a1)]) hx hb dX4_slowestSpeed_1 rfl hl (by decide) rfl (fun ls hl => ?_)
  refine lv_iconst (v := (nI 0)) hx hb dX4_slowestSpeed_2 (by decide) ?_
  refine lv_istore_n (lv' := [(3, .int (nI 0)), (2, .int (nI 0)), (0, .ref (gA G (β + 0))), (1, .int a1)]) hx hb dX4_slowestSpeed_3 rfl hl (by decide) rfl (fun ls hl => ?_)
  exact k4 fuel a1 (nI 0) (nI 0) _ _ _ h hw (lv_sub hl [2, 3, 1, 0] rfl)

set_option maxHeartbeats 4000000 in
set_option maxRecDepth 100000 in
theorem mX4_litersWith (l : Launch) (G : mG) {β : Nat} {M S : mM} {a1 : Int32} {r : Int32} (hn : β + 17 ≤ gN G) (hR : isSt G β) (h : pX4_litersWith a1 S = some r) : MC l G yX4_litersWith zzX4_litersWith 1 24 [.ref (gA G (β + 0)), .int a1] (wB M β 17 S) (wB M β 17 S) (some (.int r)) := by
  refine mc_of (cc := cX4_litersWith) (maxL := 4) (ret := (some .int)) (by decide) rfl (Nat.le_of_ble_eq_true rfl) ?_
  intro p e s m args below meth c H ls hx hb hr hts hown hml hlocks hE hw hl
  have hl : lv_has ls 4 [(0, .ref (gA G (β + 0))), (1, .int a1)] := hl
  have hinX4 : ∀ w ∈ wsX40, w ∈ zzX4_litersWith := fun w h9 => wz_in (zinX4 w h9)
  have k4 : ∀ (k : Nat), ∀ (x1 : Int32) (x2 : Int32) (x3 : Int32) (H : Heap) (locs : List Loc) (ls : Array Slot), pX4_litersWith_l4  S k x1 x2 x3 = some r → mW G s (wB M β 17 S) H locs → lv_has ls 4 [(0, .ref (gA G (β + 0))), (1, .int x1), (2, .int x2), (3, .int x3)] → W p l e { frames := 1, cells := 0, slots := 0, locals := 24 } s m args below meth c H locs 0 0 (mZ below G (some (.int r)) (wB M β 17 S) args s) (F0 m 4 ls []) := by
    intro k
    induction k with
    | zero => intro x1 x2 x3 H locs ls h; cases h
    | succ k hih4 =>
      intro x1 x2 x3 H locs ls h hw hl
      obtain ⟨ih4, hk4⟩ : ∃ f, f = pX4_litersWith_l4  S k := ⟨_, rfl⟩
      replace h : pX4_litersWith_lb4  (pX4_litersWith_l4  S k) S x1 x2 x3 = some r := h
      rw [← hk4] at h hih4
      clear hk4
      unfold pX4_litersWith_lb4 at h
      refine lv_iload_n hx hb dX4_litersWith_4 rfl (lv_at hl 3 rfl) ?_
      refine lv_aload_n hx hb dX4_litersWith_5 rfl (lv_at hl 0 rfl) ?_
      refine r_get (v := .ref (gA G (β + 11))) hx hb hts hinX4 hown hE hw hn 0 (by decide) (congrFun hR.1 _) rfl 5 (by decide) (hts _ (wz_in qF_X4_35)) rfl dX4_litersWith_6 ?_
      refine lv_iload_n hx hb dX4_litersWith_9 rfl (lv_at hl 1 rfl) ?_
      obtain ⟨v10, h10, h⟩ := cr1_some h
      refine r_callV (As := [.int x1]) (rest := [.int x3]) (st1 := [.int v10, .int x3]) hx hb hml hown hts hE hw hl (mc_subR 11 3 (by decide) (mX2_size l G (by show β + 11 + 3 ≤ _; omega) hR.2.2.2.2.2.2.1 h10)) (cwV 1 hts (zV gV_X4_92) rfl rfl rfl kdX2_size ⟨Nat.le_of_ble_eq_true rfl, Nat.le_of_ble_eq_true rfl⟩) (by omega) (congrFun hR.2.2.2.2.2.2.1.1 _) rfl rfl rfl rfl (Nat.le_of_ble_eq_true rfl) dX4_litersWith_10 ⟨Nat.zero_le _, Nat.zero_le _⟩ rfl (fun H locs hw => ?_)
      refine bi_ge (tgt := 42) hx hb dX4_litersWith_13 (by decide) h (fun h => ?_) (fun h => ?_)
      · refine lv_iload_n hx hb dX4_litersWith_42 rfl (lv_at hl 2 rfl) ?_
        exact e_i hx hb hr hlocks hw dX4_litersWith_43 h
      · refine lv_iload_n hx hb dX4_litersWith_16 rfl (lv_at hl 2 rfl) ?_
        refine lv_aload_n hx hb dX4_litersWith_17 rfl (lv_at hl 0 rfl) ?_
        refine r_get (v := .ref (gA G (β + 9))) hx hb hts hinX4 hown hE hw hn 0 (by decide) (congrFun hR.1 _) rfl 4 (by decide) (hts _ (wz_in qF_X4_29)) rfl dX4_litersWith_18 ?_
        refine lv_aload_n hx hb dX4_litersWith_21 rfl (lv_at hl 0 rfl) ?_
        refine r_get (v := .ref (gA G (β + 11))) hx hb hts hinX4 hown hE hw hn 0 (by decide) (congrFun hR.1 _) rfl 5 (by decide) (hts _ (wz_in qF_X4_35)) rfl dX4_litersWith_22 ?_
        refine lv_iload_n hx hb dX4_litersWith_25 rfl (lv_at hl 1 rfl) ?_
        refine lv_iload_n hx hb dX4_litersWith_26 rfl (lv_at hl 3 rfl) ?_
        obtain ⟨v27, h27, h⟩ := cr1_some h
        refine r_callV (As := [.int x1, .int x3]) (rest := [.ref (gA G (β + 9)), .int x2]) (st1 := [.int v27, .ref (gA G (β + 9)), .int x2]) hx hb hml hown hts hE hw hl (mc_subR 11 3 (by decide) (mX2_get l G (by show β + 11 + 3 ≤ _; omega) hR.2.2.2.2.2.2.1 h27)) (cwV 2 hts (zV gV_X4_105) rfl rfl rfl kdX2_get ⟨Nat.le_of_ble_eq_true rfl, Nat.le_of_ble_eq_true rfl⟩) (by omega) (congrFun hR.2.2.2.2.2.2.1.1 _) rfl rfl rfl rfl (Nat.le_of_ble_eq_true rfl) dX4_litersWith_27 ⟨Nat.zero_le _, Nat.zero_le _⟩ rfl (fun H locs hw => ?_)
        refine lv_iconst (v := (nI 3)) hx hb dX4_litersWith_30 (by decide) ?_
        obtain ⟨v31, h31, h⟩ := cr1_some h
        refine r_callV (As := [.int v27, .int (nI 3)]) (rest := [.int x2]) (st1 := [.int v31, .int x2]) hx hb hml hown hts hE hw hl (mc_subR 9 2 (by decide) (mX5_get l G (by show β + 9 + 2 ≤ _; omega) hR.2.2.2.2.2.1 h31)) (cwV 2 hts (zV gV_X4_96) rfl rfl rfl kdX5_get ⟨Nat.le_of_ble_eq_true rfl, Nat.le_of_ble_eq_true rfl⟩) (by omega) (congrFun hR.2.2.2.2.2.1.1 _) rfl rfl rfl rfl (Nat.le_of_ble_eq_true rfl) dX4_litersWith_31 ⟨Nat.zero_le _, Nat.zero_le _⟩ rfl (fun H locs hw => ?_)
        refine lv_iadd hx hb dX4_litersWith_34 ?_
        refine p_topi h (fun v35 h => ?_)
        refine lv_istore_n (lv' := [(2, .int v35), (0, .ref (gA G (β + 0))), (1, .int x1), (3, .int x3)]) hx hb dX4_litersWith_35 rfl hl (by decide) rfl (fun ls hl => ?_)
        refine p_iinc (w := (nI 1)) 3 (fun v36 => [(3, .int v36), (2, .int v35), (0, .ref (gA G (β + 0))), (1, .int x1)]) hx hb dX4_litersWith_36 hl rfl (by decide) (by decide) h (fun _ => rfl) (fun v36 h ls hl => ?_)
        refine lv_goto (tgt := 4) hx hb dX4_litersWith_39 (by decide) ?_
        exact hih4 x1 v35 v36 _ _ _ h hw (lv_sub hl [2, 3, 1, 0] rfl)
  unfold pX4_litersWith at h
  refine lv_iconst (v := (nI 0)) hx hb dX4_litersWith_0 (by decide) ?_
  refine lv_istore_n (lv' := [(2, .int (nI 0)), (0, .ref (gA G (β + 0))), (1, .int a1)]) hx hb dX4_litersWith_1 rfl hl (by decide) rfl (fun ls hl => ?_)
  refine lv_iconst (v := (nI 0)) hx hb dX4_litersWith_2 (by decide) ?_
  refine lv_istore_n (lv' := [(3, .int (nI 0)), (2, .int (nI 0)), (0, .ref (gA G (β + 0))), (1, .int a1)]) hx hb dX4_litersWith_3 rfl hl (by decide) rfl (fun ls hl => ?_)
  exact k4 fuel a1 (nI 0) (nI 0) _ _ _ h hw (lv_sub hl [2, 3, 1, 0] rfl)

set_option maxHeartbeats 4000000 in
set_option maxRecDepth 100000 in
theorem mX4_howMany (l : Launch) (G : mG) {β : Nat} {M S : mM} {a1 : Int32} {r : Int32} (hn : β + 17 ≤ gN G) (hR : isSt G β) (h : pX4_howMany a1 S = some r) : MC l G yX4_howMany zzX4_howMany 1 24 [.ref (gA G (β + 0)), .int a1] (wB M β 17 S) (wB M β 17 S) (some (.int r)) := by
  refine mc_of (cc := cX4_howMany) (maxL := 4) (ret := (some .int)) (by decide) rfl (Nat.le_of_ble_eq_true rfl) ?_
  intro p e s m args below meth c H ls hx hb hr hts hown hml hlocks hE hw hl
  have hl : lv_has ls 4 [(0, .ref (gA G (β + 0))), (1, .int a1)] := hl
  have hinX4 : ∀ w ∈ wsX40, w ∈ zzX4_howMany := fun w h9 => wz_in (zinX4 w h9)
  have k4 : ∀ (k : Nat), ∀ (x1 : Int32) (x2 : Int32) (x3 : Int32) (H : Heap) (locs : List Loc) (ls : Array Slot), pX4_howMany_l4  S k x1 x2 x3 = some r → mW G s (wB M β 17 S) H locs → lv_has ls 4 [(0, .ref (gA G (β + 0))), (1, .int x1), (2, .int x2), (3, .int x3)] → W p l e { frames := 1, cells := 0, slots := 0, locals := 24 } s m args below meth c H locs 0 0 (mZ below G (some (.int r)) (wB M β 17 S) args s) (F0 m 4 ls []) := by
    intro k
    induction k with
    | zero => intro x1 x2 x3 H locs ls h; cases h
    | succ k hih4 =>
      intro x1 x2 x3 H locs ls h hw hl
      obtain ⟨ih4, hk4⟩ : ∃ f, f = pX4_howMany_l4  S k := ⟨_, rfl⟩
      replace h : pX4_howMany_lb4  (pX4_howMany_l4  S k) S x1 x2 x3 = some r := h
      rw [← hk4] at h hih4
      clear hk4
      unfold pX4_howMany_lb4 at h
      refine lv_iload_n hx hb dX4_howMany_4 rfl (lv_at hl 3 rfl) ?_
      refine lv_aload_n hx hb dX4_howMany_5 rfl (lv_at hl 0 rfl) ?_
      refine r_get (v := .ref (gA G (β + 9))) hx hb hts hinX4 hown hE hw hn 0 (by decide) (congrFun hR.1 _) rfl 4 (by decide) (hts _ (wz_in qF_X4_29)) rfl dX4_howMany_6 ?_
      obtain ⟨v9, h9, h⟩ := cr1_some h
      refine r_callV (As := []) (rest := [.int x3]) (st1 := [.int v9, .int x3]) hx hb hml hown hts hE hw hl (mc_subR 9 2 (by decide) (mX5_count l G (by show β + 9 + 2 ≤ _; omega) hR.2.2.2.2.2.1 h9)) (cwV 0 hts (zV gV_X4_109) rfl rfl rfl kdX5_count ⟨Nat.le_of_ble_eq_true rfl, Nat.le_of_ble_eq_true rfl⟩) (by omega) (congrFun hR.2.2.2.2.2.1.1 _) rfl rfl rfl rfl (Nat.le_of_ble_eq_true rfl) dX4_howMany_9 ⟨Nat.zero_le _, Nat.zero_le _⟩ rfl (fun H locs hw => ?_)
      refine bi_ge (tgt := 37) hx hb dX4_howMany_12 (by decide) h (fun h => ?_) (fun h => ?_)
      · refine lv_iload_n hx hb dX4_howMany_37 rfl (lv_at hl 2 rfl) ?_
        exact e_i hx hb hr hlocks hw dX4_howMany_38 h
      · refine lv_aload_n hx hb dX4_howMany_15 rfl (lv_at hl 0 rfl) ?_
        refine r_get (v := .ref (gA G (β + 9))) hx hb hts hinX4 hown hE hw hn 0 (by decide) (congrFun hR.1 _) rfl 4 (by decide) (hts _ (wz_in qF_X4_29)) rfl dX4_howMany_16 ?_
        refine lv_iload_n hx hb dX4_howMany_19 rfl (lv_at hl 3 rfl) ?_
        refine lv_iconst (v := (nI 4)) hx hb dX4_howMany_20 (by decide) ?_
        obtain ⟨v21, h21, h⟩ := cr1_some h
        refine r_callV (As := [.int x3, .int (nI 4)]) (rest := []) (st1 := [.int v21]) hx hb hml hown hts hE hw hl (mc_subR 9 2 (by decide) (mX5_get l G (by show β + 9 + 2 ≤ _; omega) hR.2.2.2.2.2.1 h21)) (cwV 2 hts (zV gV_X4_96) rfl rfl rfl kdX5_get ⟨Nat.le_of_ble_eq_true rfl, Nat.le_of_ble_eq_true rfl⟩) (by omega) (congrFun hR.2.2.2.2.2.1.1 _) rfl rfl rfl rfl (Nat.le_of_ble_eq_true rfl) dX4_howMany_21 ⟨Nat.zero_le _, Nat.zero_le _⟩ rfl (fun H locs hw => ?_)
        refine lv_iload_n hx hb dX4_howMany_24 rfl (lv_at hl 1 rfl) ?_
        refine bi_ne (tgt := 31) hx hb dX4_howMany_25 (by decide) h (fun h => ?_) (fun h => ?_)
        · refine p_iinc (w := (nI 1)) 3 (fun v31 => [(3, .int v31), (0, .ref (gA G (β + 0))), (1, .int x1), (2, .int x2)]) hx hb dX4_howMany_31 hl rfl (by decide) (by decide) h (fun _ => rfl) (fun v31 h ls hl => ?_)
          refine lv_goto (tgt := 4) hx hb dX4_howMany_34 (by decide) ?_
          exact hih4 x1 x2 v31 _ _ _ h hw (lv_sub hl [1, 2, 3, 0] rfl)
        · refine p_iinc (w := (nI 1)) 2 (fun v28 => [(2, .int v28), (0, .ref (gA G (β + 0))), (1, .int x1), (3, .int x3)]) hx hb dX4_howMany_28 hl rfl (by decide) (by decide) h (fun _ => rfl) (fun v28 h ls hl => ?_)
          refine p_iinc (w := (nI 1)) 3 (fun v31 => [(3, .int v31), (2, .int v28), (0, .ref (gA G (β + 0))), (1, .int x1)]) hx hb dX4_howMany_31 hl rfl (by decide) (by decide) h (fun _ => rfl) (fun v31 h ls hl => ?_)
          refine lv_goto (tgt := 4) hx hb dX4_howMany_34 (by decide) ?_
          exact hih4 x1 v28 v31 _ _ _ h hw (lv_sub hl [2, 3, 1, 0] rfl)
  unfold pX4_howMany at h
  refine lv_iconst (v := (nI 0)) hx hb dX4_howMany_0 (by decide) ?_
  refine lv_istore_n (lv' := [(2, .int (nI 0)), (0, .ref (gA G (β + 0))), (1, .int a1)]) hx hb dX4_howMany_1 rfl hl (by decide) rfl (fun ls hl => ?_)
  refine lv_iconst (v := (nI 0)) hx hb dX4_howMany_2 (by decide) ?_
  refine lv_istore_n (lv' := [(3, .int (nI 0)), (2, .int (nI 0)), (0, .ref (gA G (β + 0))), (1, .int a1)]) hx hb dX4_howMany_3 rfl hl (by decide) rfl (fun ls hl => ?_)
  exact k4 fuel a1 (nI 0) (nI 0) _ _ _ h hw (lv_sub hl [2, 3, 1, 0] rfl)

set_option maxHeartbeats 4000000 in
set_option maxRecDepth 100000 in
theorem mX4_hasTooLittle (l : Launch) (G : mG) {β : Nat} {M S : mM} {a1 : Int32} {r : Int32} (hn : β + 17 ≤ gN G) (hR : isSt G β) (h : pX4_hasTooLittle a1 S = some r) : MC l G yX4_hasTooLittle zzX4_hasTooLittle 1 24 [.ref (gA G (β + 0)), .int a1] (wB M β 17 S) (wB M β 17 S) (some (.int r)) := by
  refine mc_of (cc := cX4_hasTooLittle) (maxL := 2) (ret := (some .boolean)) (by decide) rfl (Nat.le_of_ble_eq_true rfl) ?_
  intro p e s m args below meth c H ls hx hb hr hts hown hml hlocks hE hw hl
  have hl : lv_has ls 2 [(0, .ref (gA G (β + 0))), (1, .int a1)] := hl
  have hinX4 : ∀ w ∈ wsX40, w ∈ zzX4_hasTooLittle := fun w h9 => wz_in (zinX4 w h9)
  unfold pX4_hasTooLittle at h
  refine lv_aload_n hx hb dX4_hasTooLittle_0 rfl (lv_at hl 0 rfl) ?_
  refine r_get (v := .ref (gA G (β + 9))) hx hb hts hinX4 hown hE hw hn 0 (by decide) (congrFun hR.1 _) rfl 4 (by decide) (hts _ (wz_in qF_X4_29)) rfl dX4_hasTooLittle_1 ?_
  refine lv_iload_n hx hb dX4_hasTooLittle_4 rfl (lv_at hl 1 rfl) ?_
  refine lv_iconst (v := (nI 3)) hx hb dX4_hasTooLittle_5 (by decide) ?_
  obtain ⟨v6, h6, h⟩ := cr1_some h
  refine r_callV (As := [.int a1, .int (nI 3)]) (rest := []) (st1 := [.int v6]) hx hb hml hown hts hE hw hl (mc_subR 9 2 (by decide) (mX5_get l G (by show β + 9 + 2 ≤ _; omega) hR.2.2.2.2.2.1 h6)) (cwV 2 hts (zV gV_X4_96) rfl rfl rfl kdX5_get ⟨Nat.le_of_ble_eq_true rfl, Nat.le_of_ble_eq_true rfl⟩) (by omega) (congrFun hR.2.2.2.2.2.1.1 _) rfl rfl rfl rfl (Nat.le_of_ble_eq_true rfl) dX4_hasTooLittle_6 ⟨Nat.zero_le _, Nat.zero_le _⟩ rfl (fun H locs hw => ?_)
  refine lv_aload_n hx hb dX4_hasTooLittle_9 rfl (lv_at hl 0 rfl) ?_
  refine r_get (v := .ref (gA G (β + 9))) hx hb hts hinX4 hown hE hw hn 0 (by decide) (congrFun hR.1 _) rfl 4 (by decide) (hts _ (wz_in qF_X4_29)) rfl dX4_hasTooLittle_10 ?_
  refine lv_iload_n hx hb dX4_hasTooLittle_13 rfl (lv_at hl 1 rfl) ?_
  refine lv_iconst (v := (nI 1)) hx hb dX4_hasTooLittle_14 (by decide) ?_
  obtain ⟨v15, h15, h⟩ := cr1_some h
  refine r_callV (As := [.int a1, .int (nI 1)]) (rest := [.int v6]) (st1 := [.int v15, .int v6]) hx hb hml hown hts hE hw hl (mc_subR 9 2 (by decide) (mX5_get l G (by show β + 9 + 2 ≤ _; omega) hR.2.2.2.2.2.1 h15)) (cwV 2 hts (zV gV_X4_96) rfl rfl rfl kdX5_get ⟨Nat.le_of_ble_eq_true rfl, Nat.le_of_ble_eq_true rfl⟩) (by omega) (congrFun hR.2.2.2.2.2.1.1 _) rfl rfl rfl rfl (Nat.le_of_ble_eq_true rfl) dX4_hasTooLittle_15 ⟨Nat.zero_le _, Nat.zero_le _⟩ rfl (fun H locs hw => ?_)
  refine bi_ge (tgt := 25) hx hb dX4_hasTooLittle_18 (by decide) h (fun h => ?_) (fun h => ?_)
  · refine lv_iconst (v := (nI 0)) hx hb dX4_hasTooLittle_25 (by decide) ?_
    exact e_z hx hb hr hlocks hw dX4_hasTooLittle_26 h
  · refine lv_iconst (v := (nI 1)) hx hb dX4_hasTooLittle_21 (by decide) ?_
    refine lv_goto (tgt := 26) hx hb dX4_hasTooLittle_22 (by decide) ?_
    exact e_z hx hb hr hlocks hw dX4_hasTooLittle_26 h

set_option maxHeartbeats 4000000 in
set_option maxRecDepth 100000 in
theorem mX4_fillUp (l : Launch) (G : mG) {β : Nat} {M S S' : mM} {a1 : Int32} (hn : β + 17 ≤ gN G) (hR : isSt G β) (h : pX4_fillUp a1 S = some S') : MC l G yX4_fillUp zzX4_fillUp 2 46 [.ref (gA G (β + 0)), .int a1] (wB M β 17 S) (wB M β 17 S') none := by
  refine mc_of (cc := cX4_fillUp) (maxL := 7) (ret := none) (by decide) rfl (Nat.le_of_ble_eq_true rfl) ?_
  intro p e s m args below meth c H ls hx hb hr hts hown hml hlocks hE hw hl
  have hl : lv_has ls 7 [(0, .ref (gA G (β + 0))), (1, .int a1)] := hl
  have hinX4 : ∀ w ∈ wsX40, w ∈ zzX4_fillUp := fun w h9 => wz_in (zinX4 w h9)
  have k26 : ∀ (k : Nat), ∀ (x1 : Int32) (x2 : Int32) (x3 : Int32) (S : mM) (H : Heap) (locs : List Loc) (ls : Array Slot), pX4_fillUp_l26  k x1 x2 x3 S = some S' → mW G s (wB M β 17 S) H locs → lv_has ls 7 [(0, .ref (gA G (β + 0))), (1, .int x1), (2, .int x2), (3, .int x3)] → W p l e { frames := 2, cells := 0, slots := 0, locals := 46 } s m args below meth c H locs 0 0 (mZ below G none (wB M β 17 S') args s) (F0 m 26 ls []) := by
    intro k
    induction k with
    | zero => intro x1 x2 x3 S H locs ls h; cases h
    | succ k hih26 =>
      intro x1 x2 x3 S H locs ls h hw hl
      obtain ⟨ih26, hk26⟩ : ∃ f, f = pX4_fillUp_l26  k := ⟨_, rfl⟩
      replace h : pX4_fillUp_lb26  (pX4_fillUp_l26  k) x1 x2 x3 S = some S' := h
      rw [← hk26] at h hih26
      clear hk26
      unfold pX4_fillUp_lb26 at h
      refine lv_iload_n hx hb dX4_fillUp_26 rfl (lv_at hl 3 rfl) ?_
      refine lv_aload_n hx hb dX4_fillUp_27 rfl (lv_at hl 0 rfl) ?_
      refine r_get (v := .ref (gA G (β + 11))) hx hb hts hinX4 hown hE hw hn 0 (by decide) (congrFun hR.1 _) rfl 5 (by decide) (hts _ (wz_in qF_X4_35)) rfl dX4_fillUp_28 ?_
      refine lv_iload_n hx hb dX4_fillUp_31 rfl (lv_at hl 1 rfl) ?_
      obtain ⟨v32, h32, h⟩ := cr1_some h
      refine r_callV (As := [.int x1]) (rest := [.int x3]) (st1 := [.int v32, .int x3]) hx hb hml hown hts hE hw hl (mc_subR 11 3 (by decide) (mX2_size l G (by show β + 11 + 3 ≤ _; omega) hR.2.2.2.2.2.2.1 h32)) (cwV 1 hts (zV gV_X4_92) rfl rfl rfl kdX2_size ⟨Nat.le_of_ble_eq_true rfl, Nat.le_of_ble_eq_true rfl⟩) (by omega) (congrFun hR.2.2.2.2.2.2.1.1 _) rfl rfl rfl rfl (Nat.le_of_ble_eq_true rfl) dX4_fillUp_32 ⟨Nat.zero_le _, Nat.zero_le _⟩ rfl (fun H locs hw => ?_)
      refine bi_ge (tgt := 139) hx hb dX4_fillUp_35 (by decide) h (fun h => ?_) (fun h => ?_)
      · exact e_vw hx hb hr hlocks hw dX4_fillUp_139 h
      · refine lv_aload_n hx hb dX4_fillUp_38 rfl (lv_at hl 0 rfl) ?_
        refine r_get (v := .ref (gA G (β + 11))) hx hb hts hinX4 hown hE hw hn 0 (by decide) (congrFun hR.1 _) rfl 5 (by decide) (hts _ (wz_in qF_X4_35)) rfl dX4_fillUp_39 ?_
        refine lv_iload_n hx hb dX4_fillUp_42 rfl (lv_at hl 1 rfl) ?_
        refine lv_iload_n hx hb dX4_fillUp_43 rfl (lv_at hl 3 rfl) ?_
        obtain ⟨v44, h44, h⟩ := cr1_some h
        refine r_callV (As := [.int x1, .int x3]) (rest := []) (st1 := [.int v44]) hx hb hml hown hts hE hw hl (mc_subR 11 3 (by decide) (mX2_get l G (by show β + 11 + 3 ≤ _; omega) hR.2.2.2.2.2.2.1 h44)) (cwV 2 hts (zV gV_X4_105) rfl rfl rfl kdX2_get ⟨Nat.le_of_ble_eq_true rfl, Nat.le_of_ble_eq_true rfl⟩) (by omega) (congrFun hR.2.2.2.2.2.2.1.1 _) rfl rfl rfl rfl (Nat.le_of_ble_eq_true rfl) dX4_fillUp_44 ⟨Nat.zero_le _, Nat.zero_le _⟩ rfl (fun H locs hw => ?_)
        refine lv_istore (lv' := [(4, .int v44), (0, .ref (gA G (β + 0))), (1, .int x1), (2, .int x2), (3, .int x3)]) hx hb dX4_fillUp_47 hl (by decide) rfl (fun ls hl => ?_)
        refine lv_aload_n hx hb dX4_fillUp_49 rfl (lv_at hl 1 rfl) ?_
        refine r_get (v := .ref (gA G (β + 9))) hx hb hts hinX4 hown hE hw hn 0 (by decide) (congrFun hR.1 _) rfl 4 (by decide) (hts _ (wz_in qF_X4_29)) rfl dX4_fillUp_50 ?_
        refine lv_iload hx hb dX4_fillUp_53 (lv_at hl 0 rfl) ?_
        refine lv_iconst (v := (nI 2)) hx hb dX4_fillUp_55 (by decide) ?_
        obtain ⟨v56, h56, h⟩ := cr1_some h
        refine r_callV (As := [.int v44, .int (nI 2)]) (rest := []) (st1 := [.int v56]) hx hb hml hown hts hE hw hl (mc_subR 9 2 (by decide) (mX5_get l G (by show β + 9 + 2 ≤ _; omega) hR.2.2.2.2.2.1 h56)) (cwV 2 hts (zV gV_X4_96) rfl rfl rfl kdX5_get ⟨Nat.le_of_ble_eq_true rfl, Nat.le_of_ble_eq_true rfl⟩) (by omega) (congrFun hR.2.2.2.2.2.1.1 _) rfl rfl rfl rfl (Nat.le_of_ble_eq_true rfl) dX4_fillUp_56 ⟨Nat.zero_le _, Nat.zero_le _⟩ rfl (fun H locs hw => ?_)
        refine lv_aload_n hx hb dX4_fillUp_59 rfl (lv_at hl 1 rfl) ?_
        refine r_get (v := .ref (gA G (β + 9))) hx hb hts hinX4 hown hE hw hn 0 (by decide) (congrFun hR.1 _) rfl 4 (by decide) (hts _ (wz_in qF_X4_29)) rfl dX4_fillUp_60 ?_
        refine lv_iload hx hb dX4_fillUp_63 (lv_at hl 0 rfl) ?_
        refine lv_iconst (v := (nI 3)) hx hb dX4_fillUp_65 (by decide) ?_
        obtain ⟨v66, h66, h⟩ := cr1_some h
        refine r_callV (As := [.int v44, .int (nI 3)]) (rest := [.int v56]) (st1 := [.int v66, .int v56]) hx hb hml hown hts hE hw hl (mc_subR 9 2 (by decide) (mX5_get l G (by show β + 9 + 2 ≤ _; omega) hR.2.2.2.2.2.1 h66)) (cwV 2 hts (zV gV_X4_96) rfl rfl rfl kdX5_get ⟨Nat.le_of_ble_eq_true rfl, Nat.le_of_ble_eq_true rfl⟩) (by omega) (congrFun hR.2.2.2.2.2.1.1 _) rfl rfl rfl rfl (Nat.le_of_ble_eq_true rfl) dX4_fillUp_66 ⟨Nat.zero_le _, Nat.zero_le _⟩ rfl (fun H locs hw => ?_)
        refine lv_isub hx hb dX4_fillUp_69 ?_
        refine p_topi h (fun v70 h => ?_)
        refine lv_istore (lv' := [(5, .int v70), (4, .int v44), (0, .ref (gA G (β + 0))), (1, .int x1), (2, .int x2), (3, .int x3)]) hx hb dX4_fillUp_70 hl (by decide) rfl (fun ls hl => ?_)
        refine lv_iload hx hb dX4_fillUp_72 (lv_at hl 0 rfl) ?_
        refine lv_aload_n hx hb dX4_fillUp_74 rfl (lv_at hl 2 rfl) ?_
        refine r_get (v := .ref (gA G (β + 5))) hx hb hts hinX4 hown hE hw hn 0 (by decide) (congrFun hR.1 _) rfl 2 (by decide) (hts _ (wz_in qF_X4_23)) rfl dX4_fillUp_75 ?_
        refine lv_iload_n hx hb dX4_fillUp_78 rfl (lv_at hl 4 rfl) ?_
        refine lv_iconst (v := (nI 1)) hx hb dX4_fillUp_79 (by decide) ?_
        obtain ⟨v80, h80, h⟩ := cr1_some h
        refine r_callV (As := [.int x2, .int (nI 1)]) (rest := [.int v70]) (st1 := [.int v80, .int v70]) hx hb hml hown hts hE hw hl (mc_subR 5 2 (by decide) (mX5_get l G (by show β + 5 + 2 ≤ _; omega) hR.2.2.2.1 h80)) (cwV 2 hts (zV gV_X4_96) rfl rfl rfl kdX5_get ⟨Nat.le_of_ble_eq_true rfl, Nat.le_of_ble_eq_true rfl⟩) (by omega) (congrFun hR.2.2.2.1.1 _) rfl rfl rfl rfl (Nat.le_of_ble_eq_true rfl) dX4_fillUp_80 ⟨Nat.zero_le _, Nat.zero_le _⟩ rfl (fun H locs hw => ?_)
        refine va_mmin hx hb (hml.trans hl.1.symm) hown (hts _ (wz_in qM_X4_106)) (hts _ (wz_in qT_min)) (hts _ (wz_in qN_J9)) (hts _ (wz_in qC_min)) (Nat.le_of_ble_eq_true rfl) (Nat.le_of_ble_eq_true rfl) (Nat.zero_le _) (Nat.zero_le _) dX4_fillUp_83 ?_
        refine p_topi h (fun v83 h => ?_)
        refine lv_istore (lv' := [(6, .int v83), (5, .int v70), (4, .int v44), (0, .ref (gA G (β + 0))), (1, .int x1), (2, .int x2), (3, .int x3)]) hx hb dX4_fillUp_86 hl (by decide) rfl (fun ls hl => ?_)
        refine lv_aload_n hx hb dX4_fillUp_88 rfl (lv_at hl 3 rfl) ?_
        refine r_get (v := .ref (gA G (β + 9))) hx hb hts hinX4 hown hE hw hn 0 (by decide) (congrFun hR.1 _) rfl 4 (by decide) (hts _ (wz_in qF_X4_29)) rfl dX4_fillUp_89 ?_
        refine lv_iload hx hb dX4_fillUp_92 (lv_at hl 2 rfl) ?_
        refine lv_iconst (v := (nI 3)) hx hb dX4_fillUp_94 (by decide) ?_
        refine lv_iload hx hb dX4_fillUp_95 (lv_at hl 0 rfl) ?_
        obtain ⟨T97, h97, h⟩ := cvs_some h
        refine r_callV (As := [.int v44, .int (nI 3), .int v83]) (rest := []) (st1 := []) hx hb hml hown hts hE hw hl (mc_sub 9 2 (by decide) (mX5_raise l G (by show β + 9 + 2 ≤ _; omega) hR.2.2.2.2.2.1 h97)) (cwV 3 hts (zV gV_X4_126) rfl rfl rfl kdX5_raise ⟨Nat.le_of_ble_eq_true rfl, Nat.le_of_ble_eq_true rfl⟩) (by omega) (congrFun hR.2.2.2.2.2.1.1 _) rfl rfl rfl rfl (Nat.le_of_ble_eq_true rfl) dX4_fillUp_97 ⟨Nat.zero_le _, Nat.zero_le _⟩ rfl (fun H locs hw => ?_)
        generalize wB S 9 2 T97 = S97 at h hw
        refine lv_aload_n hx hb dX4_fillUp_100 rfl (lv_at hl 3 rfl) ?_
        refine r_get (v := .ref (gA G (β + 5))) hx hb hts hinX4 hown hE hw hn 0 (by decide) (congrFun hR.1 _) rfl 2 (by decide) (hts _ (wz_in qF_X4_23)) rfl dX4_fillUp_101 ?_
        refine lv_iload_n hx hb dX4_fillUp_104 rfl (lv_at hl 5 rfl) ?_
        refine lv_iconst (v := (nI 1)) hx hb dX4_fillUp_105 (by decide) ?_
        refine lv_iload hx hb dX4_fillUp_106 (lv_at hl 0 rfl) ?_
        refine lv_ineg hx hb dX4_fillUp_108 ?_
        obtain ⟨T109, h109, h⟩ := cvs_some h
        refine r_callV (As := [.int x2, .int (nI 1), .int (-v83)]) (rest := []) (st1 := []) hx hb hml hown hts hE hw hl (mc_sub 5 2 (by decide) (mX5_raise l G (by show β + 5 + 2 ≤ _; omega) hR.2.2.2.1 h109)) (cwV 3 hts (zV gV_X4_126) rfl rfl rfl kdX5_raise ⟨Nat.le_of_ble_eq_true rfl, Nat.le_of_ble_eq_true rfl⟩) (by omega) (congrFun hR.2.2.2.1.1 _) rfl rfl rfl rfl (Nat.le_of_ble_eq_true rfl) dX4_fillUp_109 ⟨Nat.zero_le _, Nat.zero_le _⟩ rfl (fun H locs hw => ?_)
        generalize wB S97 5 2 T109 = S109 at h hw
        refine lv_aload_n hx hb dX4_fillUp_112 rfl (lv_at hl 3 rfl) ?_
        refine lv_aload_n hx hb dX4_fillUp_113 rfl (lv_at hl 3 rfl) ?_
        refine p_get hx hb hts hinX4 hown hE hw hn 0 (by decide) (congrFun hR.1 _) rfl 9 (by decide) (hts _ (wz_in qF_X4_66)) rfl dX4_fillUp_114 h (fun v114 h => ?_)
        refine b_ne (tgt := 125) hx hb dX4_fillUp_117 (by decide) h (fun h => ?_) (fun h => ?_)
        · refine lv_iconst (v := (nI 1)) hx hb dX4_fillUp_125 (by decide) ?_
          refine lv_goto (tgt := 130) hx hb dX4_fillUp_126 (by decide) ?_
          refine p_putz hx hb hts hinX4 tyX4 tyX4_ok nmX4 hown hE hw hn 0 (by decide) (congrFun hR.1 _) rfl 9 (by decide) (hts _ (wz_in qF_X4_66)) rfl (by decide +kernel) (Nat.le_of_ble_eq_true rfl) (congrFun hR.1 _) dX4_fillUp_130 h (fun S130 h H locs hw => ?_)
          refine p_iinc (w := (nI 1)) 6 (fun v133 => [(3, .int v133), (6, .int v83), (5, .int v70), (4, .int v44), (0, .ref (gA G (β + 0))), (1, .int x1), (2, .int x2)]) hx hb dX4_fillUp_133 hl rfl (by decide) (by decide) h (fun _ => rfl) (fun v133 h ls hl => ?_)
          refine lv_goto (tgt := 26) hx hb dX4_fillUp_136 (by decide) ?_
          exact hih26 x1 x2 v133 S130 _ _ _ h hw (lv_sub hl [4, 5, 6, 0] rfl)
        · refine lv_iload hx hb dX4_fillUp_120 (lv_at hl 0 rfl) ?_
          refine b_le (tgt := 129) hx hb dX4_fillUp_122 (by decide) h (fun h => ?_) (fun h => ?_)
          · refine lv_iconst (v := (nI 0)) hx hb dX4_fillUp_129 (by decide) ?_
            refine p_putz hx hb hts hinX4 tyX4 tyX4_ok nmX4 hown hE hw hn 0 (by decide) (congrFun hR.1 _) rfl 9 (by decide) (hts _ (wz_in qF_X4_66)) rfl (by decide +kernel) (Nat.le_of_ble_eq_true rfl) (congrFun hR.1 _) dX4_fillUp_130 h (fun S130 h H locs hw => ?_)
            refine p_iinc (w := (nI 1)) 6 (fun v133 => [(3, .int v133), (6, .int v83), (5, .int v70), (4, .int v44), (0, .ref (gA G (β + 0))), (1, .int x1), (2, .int x2)]) hx hb dX4_fillUp_133 hl rfl (by decide) (by decide) h (fun _ => rfl) (fun v133 h ls hl => ?_)
            refine lv_goto (tgt := 26) hx hb dX4_fillUp_136 (by decide) ?_
            exact hih26 x1 x2 v133 S130 _ _ _ h hw (lv_sub hl [4, 5, 6, 0] rfl)
          · refine lv_iconst (v := (nI 1)) hx hb dX4_fillUp_125 (by decide) ?_
            refine lv_goto (tgt := 130) hx hb dX4_fillUp_126 (by decide) ?_
            refine p_putz hx hb hts hinX4 tyX4 tyX4_ok nmX4 hown hE hw hn 0 (by decide) (congrFun hR.1 _) rfl 9 (by decide) (hts _ (wz_in qF_X4_66)) rfl (by decide +kernel) (Nat.le_of_ble_eq_true rfl) (congrFun hR.1 _) dX4_fillUp_130 h (fun S130 h H locs hw => ?_)
            refine p_iinc (w := (nI 1)) 6 (fun v133 => [(3, .int v133), (6, .int v83), (5, .int v70), (4, .int v44), (0, .ref (gA G (β + 0))), (1, .int x1), (2, .int x2)]) hx hb dX4_fillUp_133 hl rfl (by decide) (by decide) h (fun _ => rfl) (fun v133 h ls hl => ?_)
            refine lv_goto (tgt := 26) hx hb dX4_fillUp_136 (by decide) ?_
            exact hih26 x1 x2 v133 S130 _ _ _ h hw (lv_sub hl [4, 5, 6, 0] rfl)
  unfold pX4_fillUp at h
  refine lv_aload_n hx hb dX4_fillUp_0 rfl (lv_at hl 0 rfl) ?_
  refine r_get (v := .ref (gA G (β + 5))) hx hb hts hinX4 hown hE hw hn 0 (by decide) (congrFun hR.1 _) rfl 2 (by decide) (hts _ (wz_in qF_X4_23)) rfl dX4_fillUp_1 ?_
  refine lv_aload_n hx hb dX4_fillUp_4 rfl (lv_at hl 0 rfl) ?_
  refine r_get (v := .ref (gA G (β + 7))) hx hb hts hinX4 hown hE hw hn 0 (by decide) (congrFun hR.1 _) rfl 3 (by decide) (hts _ (wz_in qF_X4_26)) rfl dX4_fillUp_5 ?_
  refine lv_iload_n hx hb dX4_fillUp_8 rfl (lv_at hl 1 rfl) ?_
  refine lv_iconst (v := (nI 0)) hx hb dX4_fillUp_9 (by decide) ?_
  obtain ⟨v10, h10, h⟩ := cr1_some h
  refine r_callV (As := [.int a1, .int (nI 0)]) (rest := [.ref (gA G (β + 5))]) (st1 := [.int v10, .ref (gA G (β + 5))]) hx hb hml hown hts hE hw hl (mc_subR 7 2 (by decide) (mX5_get l G (by show β + 7 + 2 ≤ _; omega) hR.2.2.2.2.1 h10)) (cwV 2 hts (zV gV_X4_96) rfl rfl rfl kdX5_get ⟨Nat.le_of_ble_eq_true rfl, Nat.le_of_ble_eq_true rfl⟩) (by omega) (congrFun hR.2.2.2.2.1.1 _) rfl rfl rfl rfl (Nat.le_of_ble_eq_true rfl) dX4_fillUp_10 ⟨Nat.zero_le _, Nat.zero_le _⟩ rfl (fun H locs hw => ?_)
  obtain ⟨v13, h13, h⟩ := cr1_some h
  refine r_callV (As := [.int v10]) (rest := []) (st1 := [.int v13]) hx hb hml hown hts hE hw hl (mc_subR 5 2 (by decide) (mX5_rowAt l G (by show β + 5 + 2 ≤ _; omega) hR.2.2.2.1 h13)) (cwV 1 hts (zV gV_X4_153) rfl rfl rfl kdX5_rowAt ⟨Nat.le_of_ble_eq_true rfl, Nat.le_of_ble_eq_true rfl⟩) (by omega) (congrFun hR.2.2.2.1.1 _) rfl rfl rfl rfl (Nat.le_of_ble_eq_true rfl) dX4_fillUp_13 ⟨Nat.zero_le _, Nat.zero_le _⟩ rfl (fun H locs hw => ?_)
  refine lv_istore_n (lv' := [(2, .int v13), (0, .ref (gA G (β + 0))), (1, .int a1)]) hx hb dX4_fillUp_16 rfl hl (by decide) rfl (fun ls hl => ?_)
  refine lv_iload_n hx hb dX4_fillUp_17 rfl (lv_at hl 0 rfl) ?_
  refine lv_bipush (v := (-9)) hx hb dX4_fillUp_18 (by decide) ?_
  refine bi_ne (tgt := 24) hx hb dX4_fillUp_20 (by decide) h (fun h => ?_) (fun h => ?_)
  · refine lv_iconst (v := (nI 0)) hx hb dX4_fillUp_24 (by decide) ?_
    refine lv_istore_n (lv' := [(3, .int (nI 0)), (2, .int v13), (0, .ref (gA G (β + 0))), (1, .int a1)]) hx hb dX4_fillUp_25 rfl hl (by decide) rfl (fun ls hl => ?_)
    exact k26 fuel a1 v13 (nI 0) S _ _ _ h hw (lv_sub hl [2, 3, 1, 0] rfl)
  · exact e_vw hx hb hr hlocks hw dX4_fillUp_23 h

set_option maxHeartbeats 4000000 in
set_option maxRecDepth 100000 in
theorem mX4_goOn (l : Launch) (G : mG) {β : Nat} {M S S' : mM} {a1 : Int32} (hn : β + 17 ≤ gN G) (hR : isSt G β) (h : pX4_goOn a1 S = some S') : MC l G yX4_goOn zzX4_goOn 2 48 [.ref (gA G (β + 0)), .int a1] (wB M β 17 S) (wB M β 17 S') none := by
  refine mc_of (cc := cX4_goOn) (maxL := 6) (ret := none) (by decide) rfl (Nat.le_of_ble_eq_true rfl) ?_
  intro p e s m args below meth c H ls hx hb hr hts hown hml hlocks hE hw hl
  have hl : lv_has ls 6 [(0, .ref (gA G (β + 0))), (1, .int a1)] := hl
  have hinX4 : ∀ w ∈ wsX40, w ∈ zzX4_goOn := fun w h9 => wz_in (zinX4 w h9)
  have k23 : ∀ (k : Nat), ∀ (x1 : Int32) (x2 : Int32) (x3 : Int32) (S : mM) (H : Heap) (locs : List Loc) (ls : Array Slot), pX4_goOn_l23  k x1 x2 x3 S = some S' → mW G s (wB M β 17 S) H locs → lv_has ls 6 [(0, .ref (gA G (β + 0))), (1, .int x1), (2, .int x2), (3, .int x3)] → W p l e { frames := 2, cells := 0, slots := 0, locals := 48 } s m args below meth c H locs 0 0 (mZ below G none (wB M β 17 S') args s) (F0 m 23 ls []) := by
    intro k
    induction k with
    | zero => intro x1 x2 x3 S H locs ls h; cases h
    | succ k hih23 =>
      intro x1 x2 x3 S H locs ls h hw hl
      obtain ⟨ih23, hk23⟩ : ∃ f, f = pX4_goOn_l23  k := ⟨_, rfl⟩
      replace h : pX4_goOn_lb23  (pX4_goOn_l23  k) x1 x2 x3 S = some S' := h
      rw [← hk23] at h hih23
      clear hk23
      unfold pX4_goOn_lb23 at h
      refine lv_iload_n hx hb dX4_goOn_23 rfl (lv_at hl 3 rfl) ?_
      refine lv_aload_n hx hb dX4_goOn_24 rfl (lv_at hl 0 rfl) ?_
      refine r_get (v := .ref (gA G (β + 11))) hx hb hts hinX4 hown hE hw hn 0 (by decide) (congrFun hR.1 _) rfl 5 (by decide) (hts _ (wz_in qF_X4_35)) rfl dX4_goOn_25 ?_
      refine lv_iload_n hx hb dX4_goOn_28 rfl (lv_at hl 1 rfl) ?_
      obtain ⟨v29, h29, h⟩ := cr1_some h
      refine r_callV (As := [.int x1]) (rest := [.int x3]) (st1 := [.int v29, .int x3]) hx hb hml hown hts hE hw hl (mc_subR 11 3 (by decide) (mX2_size l G (by show β + 11 + 3 ≤ _; omega) hR.2.2.2.2.2.2.1 h29)) (cwV 1 hts (zV gV_X4_92) rfl rfl rfl kdX2_size ⟨Nat.le_of_ble_eq_true rfl, Nat.le_of_ble_eq_true rfl⟩) (by omega) (congrFun hR.2.2.2.2.2.2.1.1 _) rfl rfl rfl rfl (Nat.le_of_ble_eq_true rfl) dX4_goOn_29 ⟨Nat.zero_le _, Nat.zero_le _⟩ rfl (fun H locs hw => ?_)
      refine bi_ge (tgt := 103) hx hb dX4_goOn_32 (by decide) h (fun h => ?_) (fun h => ?_)
      · refine lv_iload_n hx hb dX4_goOn_103 rfl (lv_at hl 2 rfl) ?_
        refine b_eq (tgt := 115) hx hb dX4_goOn_104 (by decide) h (fun h => ?_) (fun h => ?_)
        · exact e_vw hx hb hr hlocks hw dX4_goOn_115 h
        · refine lv_aload_n hx hb dX4_goOn_107 rfl (lv_at hl 0 rfl) ?_
          refine r_get (v := .ref (gA G (β + 11))) hx hb hts hinX4 hown hE hw hn 0 (by decide) (congrFun hR.1 _) rfl 5 (by decide) (hts _ (wz_in qF_X4_35)) rfl dX4_goOn_108 ?_
          refine lv_iload_n hx hb dX4_goOn_111 rfl (lv_at hl 1 rfl) ?_
          obtain ⟨T112, h112, h⟩ := cvs_some h
          refine r_callV (As := [.int x1]) (rest := []) (st1 := []) hx hb hml hown hts hE hw hl (mc_sub 11 3 (by decide) (mX2_emptyLine l G (by show β + 11 + 3 ≤ _; omega) hR.2.2.2.2.2.2.1 h112)) (cwV 1 hts (zV gV_X4_168) rfl rfl rfl kdX2_emptyLine ⟨Nat.le_of_ble_eq_true rfl, Nat.le_of_ble_eq_true rfl⟩) (by omega) (congrFun hR.2.2.2.2.2.2.1.1 _) rfl rfl rfl rfl (Nat.le_of_ble_eq_true rfl) dX4_goOn_112 ⟨Nat.zero_le _, Nat.zero_le _⟩ rfl (fun H locs hw => ?_)
          generalize wB S 11 3 T112 = S112 at h hw
          exact e_vw hx hb hr hlocks hw dX4_goOn_115 h
      · refine lv_aload_n hx hb dX4_goOn_35 rfl (lv_at hl 0 rfl) ?_
        refine r_get (v := .ref (gA G (β + 11))) hx hb hts hinX4 hown hE hw hn 0 (by decide) (congrFun hR.1 _) rfl 5 (by decide) (hts _ (wz_in qF_X4_35)) rfl dX4_goOn_36 ?_
        refine lv_iload_n hx hb dX4_goOn_39 rfl (lv_at hl 1 rfl) ?_
        refine lv_iload_n hx hb dX4_goOn_40 rfl (lv_at hl 3 rfl) ?_
        obtain ⟨v41, h41, h⟩ := cr1_some h
        refine r_callV (As := [.int x1, .int x3]) (rest := []) (st1 := [.int v41]) hx hb hml hown hts hE hw hl (mc_subR 11 3 (by decide) (mX2_get l G (by show β + 11 + 3 ≤ _; omega) hR.2.2.2.2.2.2.1 h41)) (cwV 2 hts (zV gV_X4_105) rfl rfl rfl kdX2_get ⟨Nat.le_of_ble_eq_true rfl, Nat.le_of_ble_eq_true rfl⟩) (by omega) (congrFun hR.2.2.2.2.2.2.1.1 _) rfl rfl rfl rfl (Nat.le_of_ble_eq_true rfl) dX4_goOn_41 ⟨Nat.zero_le _, Nat.zero_le _⟩ rfl (fun H locs hw => ?_)
        refine lv_istore (lv' := [(4, .int v41), (0, .ref (gA G (β + 0))), (1, .int x1), (2, .int x2), (3, .int x3)]) hx hb dX4_goOn_44 hl (by decide) rfl (fun ls hl => ?_)
        refine lv_aload_n hx hb dX4_goOn_46 rfl (lv_at hl 1 rfl) ?_
        refine r_get (v := .ref (gA G (β + 9))) hx hb hts hinX4 hown hE hw hn 0 (by decide) (congrFun hR.1 _) rfl 4 (by decide) (hts _ (wz_in qF_X4_29)) rfl dX4_goOn_47 ?_
        refine lv_iload hx hb dX4_goOn_50 (lv_at hl 0 rfl) ?_
        refine lv_iconst (v := (nI 1)) hx hb dX4_goOn_52 (by decide) ?_
        obtain ⟨v53, h53, h⟩ := cr1_some h
        refine r_callV (As := [.int v41, .int (nI 1)]) (rest := []) (st1 := [.int v53]) hx hb hml hown hts hE hw hl (mc_subR 9 2 (by decide) (mX5_get l G (by show β + 9 + 2 ≤ _; omega) hR.2.2.2.2.2.1 h53)) (cwV 2 hts (zV gV_X4_96) rfl rfl rfl kdX5_get ⟨Nat.le_of_ble_eq_true rfl, Nat.le_of_ble_eq_true rfl⟩) (by omega) (congrFun hR.2.2.2.2.2.1.1 _) rfl rfl rfl rfl (Nat.le_of_ble_eq_true rfl) dX4_goOn_53 ⟨Nat.zero_le _, Nat.zero_le _⟩ rfl (fun H locs hw => ?_)
        refine lv_istore (lv' := [(5, .int v53), (4, .int v41), (0, .ref (gA G (β + 0))), (1, .int x1), (2, .int x2), (3, .int x3)]) hx hb dX4_goOn_56 hl (by decide) rfl (fun ls hl => ?_)
        refine lv_aload_n hx hb dX4_goOn_58 rfl (lv_at hl 2 rfl) ?_
        refine r_get (v := .ref (gA G (β + 9))) hx hb hts hinX4 hown hE hw hn 0 (by decide) (congrFun hR.1 _) rfl 4 (by decide) (hts _ (wz_in qF_X4_29)) rfl dX4_goOn_59 ?_
        refine lv_iload hx hb dX4_goOn_62 (lv_at hl 1 rfl) ?_
        refine lv_iconst (v := (nI 3)) hx hb dX4_goOn_64 (by decide) ?_
        refine lv_iload hx hb dX4_goOn_65 (lv_at hl 0 rfl) ?_
        refine lv_ineg hx hb dX4_goOn_67 ?_
        obtain ⟨T68, h68, h⟩ := cvs_some h
        refine r_callV (As := [.int v41, .int (nI 3), .int (-v53)]) (rest := []) (st1 := []) hx hb hml hown hts hE hw hl (mc_sub 9 2 (by decide) (mX5_raise l G (by show β + 9 + 2 ≤ _; omega) hR.2.2.2.2.2.1 h68)) (cwV 3 hts (zV gV_X4_126) rfl rfl rfl kdX5_raise ⟨Nat.le_of_ble_eq_true rfl, Nat.le_of_ble_eq_true rfl⟩) (by omega) (congrFun hR.2.2.2.2.2.1.1 _) rfl rfl rfl rfl (Nat.le_of_ble_eq_true rfl) dX4_goOn_68 ⟨Nat.zero_le _, Nat.zero_le _⟩ rfl (fun H locs hw => ?_)
        generalize wB S 9 2 T68 = S68 at h hw
        refine lv_aload_n hx hb dX4_goOn_71 rfl (lv_at hl 2 rfl) ?_
        refine r_get (v := .ref (gA G (β + 9))) hx hb hts hinX4 hown hE hw hn 0 (by decide) (congrFun hR.1 _) rfl 4 (by decide) (hts _ (wz_in qF_X4_29)) rfl dX4_goOn_72 ?_
        refine lv_iload hx hb dX4_goOn_75 (lv_at hl 1 rfl) ?_
        refine lv_bipush (v := (nI 6)) hx hb dX4_goOn_77 (by decide) ?_
        refine lv_iload hx hb dX4_goOn_79 (lv_at hl 0 rfl) ?_
        obtain ⟨T81, h81, h⟩ := cvs_some h
        refine r_callV (As := [.int v41, .int (nI 6), .int v53]) (rest := []) (st1 := []) hx hb hml hown hts hE hw hl (mc_sub 9 2 (by decide) (mX5_raise l G (by show β + 9 + 2 ≤ _; omega) hR.2.2.2.2.2.1 h81)) (cwV 3 hts (zV gV_X4_126) rfl rfl rfl kdX5_raise ⟨Nat.le_of_ble_eq_true rfl, Nat.le_of_ble_eq_true rfl⟩) (by omega) (congrFun hR.2.2.2.2.2.1.1 _) rfl rfl rfl rfl (Nat.le_of_ble_eq_true rfl) dX4_goOn_81 ⟨Nat.zero_le _, Nat.zero_le _⟩ rfl (fun H locs hw => ?_)
        generalize wB S68 9 2 T81 = S81 at h hw
        refine lv_iload_n hx hb dX4_goOn_84 rfl (lv_at hl 4 rfl) ?_
        refine b_eq (tgt := 97) hx hb dX4_goOn_85 (by decide) h (fun h => ?_) (fun h => ?_)
        · refine p_iinc (w := (nI 1)) 5 (fun v97 => [(3, .int v97), (5, .int v53), (4, .int v41), (0, .ref (gA G (β + 0))), (1, .int x1), (2, .int x2)]) hx hb dX4_goOn_97 hl rfl (by decide) (by decide) h (fun _ => rfl) (fun v97 h ls hl => ?_)
          refine lv_goto (tgt := 23) hx hb dX4_goOn_100 (by decide) ?_
          exact hih23 x1 x2 v97 S81 _ _ _ h hw (lv_sub hl [3, 4, 5, 0] rfl)
        · refine lv_aload_n hx hb dX4_goOn_88 rfl (lv_at hl 2 rfl) ?_
          refine lv_iload hx hb dX4_goOn_89 (lv_at hl 1 rfl) ?_
          refine lv_iconst (v := (nI 2)) hx hb dX4_goOn_91 (by decide) ?_
          refine lv_bipush (v := (-9)) hx hb dX4_goOn_92 (by decide) ?_
          obtain ⟨S94, h94, h⟩ := cr1_some h
          refine r_callV (As := [.int v41, .int (nI 2), .int (-9)]) (rest := []) (st1 := []) hx hb hml hown hts hE hw hl (mX4_moveTo l G (by omega) hR h94) (cwV 3 hts (zV gV_X4_78) rfl rfl rfl kdX4_moveTo ⟨Nat.le_of_ble_eq_true rfl, Nat.le_of_ble_eq_true rfl⟩) (by omega) (congrFun hR.1 _) rfl rfl rfl rfl (Nat.le_of_ble_eq_true rfl) dX4_goOn_94 ⟨Nat.zero_le _, Nat.zero_le _⟩ rfl (fun H locs hw => ?_)
          refine p_iinc (w := (nI 1)) 5 (fun v97 => [(3, .int v97), (5, .int v53), (4, .int v41), (0, .ref (gA G (β + 0))), (1, .int x1), (2, .int x2)]) hx hb dX4_goOn_97 hl rfl (by decide) (by decide) h (fun _ => rfl) (fun v97 h ls hl => ?_)
          refine lv_goto (tgt := 23) hx hb dX4_goOn_100 (by decide) ?_
          exact hih23 x1 x2 v97 S94 _ _ _ h hw (lv_sub hl [3, 4, 5, 0] rfl)
  unfold pX4_goOn at h
  refine lv_aload_n hx hb dX4_goOn_0 rfl (lv_at hl 0 rfl) ?_
  refine lv_iconst (v := (nI 1)) hx hb dX4_goOn_1 (by decide) ?_
  refine p_putz hx hb hts hinX4 tyX4 tyX4_ok nmX4 hown hE hw hn 0 (by decide) (congrFun hR.1 _) rfl 9 (by decide) (hts _ (wz_in qF_X4_66)) rfl (by decide +kernel) (Nat.le_of_ble_eq_true rfl) (congrFun hR.1 _) dX4_goOn_2 h (fun S2 h H locs hw => ?_)
  refine lv_aload_n hx hb dX4_goOn_5 rfl (lv_at hl 0 rfl) ?_
  refine r_get (v := .ref (gA G (β + 7))) hx hb hts hinX4 hown hE hw hn 0 (by decide) (congrFun hR.1 _) rfl 3 (by decide) (hts _ (wz_in qF_X4_26)) rfl dX4_goOn_6 ?_
  refine lv_iload_n hx hb dX4_goOn_9 rfl (lv_at hl 1 rfl) ?_
  refine lv_iconst (v := (nI 0)) hx hb dX4_goOn_10 (by decide) ?_
  refine lv_iconst (v := (nI 1)) hx hb dX4_goOn_11 (by decide) ?_
  obtain ⟨T12, h12, h⟩ := cvs_some h
  refine r_callV (As := [.int a1, .int (nI 0), .int (nI 1)]) (rest := []) (st1 := []) hx hb hml hown hts hE hw hl (mc_sub 7 2 (by decide) (mX5_raise l G (by show β + 7 + 2 ≤ _; omega) hR.2.2.2.2.1 h12)) (cwV 3 hts (zV gV_X4_126) rfl rfl rfl kdX5_raise ⟨Nat.le_of_ble_eq_true rfl, Nat.le_of_ble_eq_true rfl⟩) (by omega) (congrFun hR.2.2.2.2.1.1 _) rfl rfl rfl rfl (Nat.le_of_ble_eq_true rfl) dX4_goOn_12 ⟨Nat.zero_le _, Nat.zero_le _⟩ rfl (fun H locs hw => ?_)
  generalize wB S2 7 2 T12 = S12 at h hw
  refine lv_aload_n hx hb dX4_goOn_15 rfl (lv_at hl 0 rfl) ?_
  refine lv_iload_n hx hb dX4_goOn_16 rfl (lv_at hl 1 rfl) ?_
  obtain ⟨v17, h17, h⟩ := cr1_some h
  refine r_callV (As := [.int a1]) (rest := []) (st1 := [.int v17]) hx hb hml hown hts hE hw hl (mX4_isAtEnd l G (by omega) hR h17) (cwV 1 hts (zV gV_X4_119) rfl rfl rfl kdX4_isAtEnd ⟨Nat.le_of_ble_eq_true rfl, Nat.le_of_ble_eq_true rfl⟩) (by omega) (congrFun hR.1 _) rfl rfl rfl rfl (Nat.le_of_ble_eq_true rfl) dX4_goOn_17 ⟨Nat.zero_le _, Nat.zero_le _⟩ rfl (fun H locs hw => ?_)
  refine lv_istore_n (lv' := [(2, .int v17), (0, .ref (gA G (β + 0))), (1, .int a1)]) hx hb dX4_goOn_20 rfl hl (by decide) rfl (fun ls hl => ?_)
  refine lv_iconst (v := (nI 0)) hx hb dX4_goOn_21 (by decide) ?_
  refine lv_istore_n (lv' := [(3, .int (nI 0)), (2, .int v17), (0, .ref (gA G (β + 0))), (1, .int a1)]) hx hb dX4_goOn_22 rfl hl (by decide) rfl (fun ls hl => ?_)
  exact k23 fuel a1 v17 (nI 0) S12 _ _ _ h hw (lv_sub hl [2, 3, 1, 0] rfl)
