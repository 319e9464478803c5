/-! ===== walks, by program ===== -/
set_option maxHeartbeats 4000000 in
set_option maxRecDepth 100000 in
theorem mX0_size (l : Launch) (G : mG) {β : Nat} {M S : mM} {r : Int32} (hn : β + 316 ≤ gN G) (hR : isWR G β) (h : pX0_size S = some r) : MC l G yX0_size zzX0_size 0 0 [.ref (gA G (β + 37))] (wB M β 316 S) (wB M β 316 S) (some (.int r)) := by
  refine mc_of (cc := cX0_size) (maxL := 1) (ret := (some .int)) (by decide) rfl (Nat.le_of_ble_eq_true rfl) ?_
  intro p e s m args below meth c H ls hx hb hr hts hown hml hlocks hE hw hl
  have hl : lv_has ls 1 [(0, .ref (gA G (β + 37)))] := hl
  have hinX0 : ∀ w ∈ wsX00, w ∈ zzX0_size := fun w h9 => wz_in (zinX0 w h9)
  unfold pX0_size at h
  refine lv_aload_n hx hb dX0_size_0 rfl (lv_at hl 0 rfl) ?_
  refine p_get hx hb hts hinX0 hown hE hw hn 37 (by decide) (congrFun hR.2.2.2.2.2.1 _) rfl 2 (by decide) (hts _ (wz_in qF_X0_20)) rfl dX0_size_1 h (fun v1 h => ?_)
  exact e_i hx hb hr hlocks hw dX0_size_4 h

set_option maxHeartbeats 4000000 in
set_option maxRecDepth 100000 in
theorem mX3_copyAt (l : Launch) (G : mG) {β : Nat} {M S : mM} {b1 nm : Nat} {a1 : Int32} {r : Option Nat} (hn : β + 316 ≤ gN G) (hR : isWR G β) (h1 : b1 + (3 + 17 * nm) ≤ 316) (hs1 : isShelf G (β + b1) nm) (h : pX3_copyAt b1 nm a1 S = some r) : MC l G yX3_copyAt zzX3_copyAt 0 0 [.ref (gA G (β + b1)), .int a1] (wB M β 316 S) (wB M β 316 S) (some (vo G β r)) := by
  refine mc_of (cc := cX3_copyAt) (maxL := 2) (ret := (some (.object "WinterRoad$State"))) (by decide) rfl (Nat.le_of_ble_eq_true rfl) ?_
  intro p e s m args below meth c H ls hx hb hr hts hown hml hlocks hE hw hl
  have hl : lv_has ls 2 [(0, .ref (gA G (β + b1))), (1, .int a1)] := hl
  have hinX3 : ∀ w ∈ wsX30, w ∈ zzX3_copyAt := fun w h9 => wz_in (zinX3 w h9)
  unfold pX3_copyAt at h
  refine lv_iload_n hx hb dX3_copyAt_0 rfl (lv_at hl 1 rfl) ?_
  refine b_lt (tgt := 22) hx hb dX3_copyAt_1 (by decide) h (fun h => ?_) (fun h => ?_)
  · refine lv_null hx hb dX3_copyAt_22 ?_
    exact e_n hx hb hr hlocks hw dX3_copyAt_23 h
  · refine lv_iload_n hx hb dX3_copyAt_4 rfl (lv_at hl 1 rfl) ?_
    refine lv_aload_n hx hb dX3_copyAt_5 rfl (lv_at hl 0 rfl) ?_
    refine r_get (v := .ref (gA G (β + (b1 + 1)))) hx hb hts hinX3 hown hE hw hn b1 (by omega) (congrFun hs1.1 _) rfl 0 (by decide) (hts _ (wz_in qF_X3_15)) rfl dX3_copyAt_6 ?_
    refine r_alen (v := nI nm) hx hb hE hw hn (b1 + 1) 3 (by omega) (congrFun hs1.2.1 _) rfl rfl dX3_copyAt_9 ?_
    refine bi_ge (tgt := 22) hx hb dX3_copyAt_10 (by decide) h (fun h => ?_) (fun h => ?_)
    · refine lv_null hx hb dX3_copyAt_22 ?_
      exact e_n hx hb hr hlocks hw dX3_copyAt_23 h
    · refine lv_aload_n hx hb dX3_copyAt_13 rfl (lv_at hl 0 rfl) ?_
      refine r_get (v := .ref (gA G (β + (b1 + 1)))) hx hb hts hinX3 hown hE hw hn b1 (by omega) (congrFun hs1.1 _) rfl 0 (by decide) (hts _ (wz_in qF_X3_15)) rfl dX3_copyAt_14 ?_
      refine lv_iload_n hx hb dX3_copyAt_17 rfl (lv_at hl 1 rfl) ?_
      obtain ⟨hi18, h⟩ := gd_some h
      refine r_aald hx hb hE hw hn (b1 + 1) (by omega) (congrFun hs1.2.1 _) hi18 dX3_copyAt_18 ?_
      show W p l e _ s m args below meth c H _ 0 0 _ (F0 m 19 ls (.ref (gA G (β + b1 + 3 + 17 * a1.toNatClampNeg)) :: []))
      rw [show β + b1 + 3 + 17 * a1.toNatClampNeg = β + (b1 + 3 + 17 * a1.toNatClampNeg) by omega]
      refine lv_goto (tgt := 23) hx hb dX3_copyAt_19 (by decide) ?_
      exact e_o hx hb hr hlocks hw dX3_copyAt_23 h

set_option maxHeartbeats 4000000 in
set_option maxRecDepth 100000 in
theorem mX3_keep (l : Launch) (G : mG) {β : Nat} {M S S' : mM} {b1 nm : Nat} {a1 : Int32} (hn : β + 316 ≤ gN G) (hR : isWR G β) (h1 : b1 + (3 + 17 * nm) ≤ 316) (hs1 : isShelf G (β + b1) nm) (h : pX3_keep b1 nm a1 S = some S') : MC l G yX3_keep zzX3_keep 3 60 [.ref (gA G (β + b1)), .int a1, .ref (gA G (β + 3))] (wB M β 316 S) (wB M β 316 S') none := by
  refine mc_of (cc := cX3_keep) (maxL := 4) (ret := none) (by decide) rfl (Nat.le_of_ble_eq_true rfl) ?_
  intro p e s m args below meth c H ls hx hb hr hts hown hml hlocks hE hw hl
  have hl : lv_has ls 4 [(0, .ref (gA G (β + b1))), (1, .int a1), (2, .ref (gA G (β + 3)))] := hl
  have hinX3 : ∀ w ∈ wsX30, w ∈ zzX3_keep := fun w h9 => wz_in (zinX3 w h9)
  unfold pX3_keep at h
  refine lv_aload_n hx hb dX3_keep_0 rfl (lv_at hl 0 rfl) ?_
  refine lv_iload_n hx hb dX3_keep_1 rfl (lv_at hl 1 rfl) ?_
  rcases bo_some h with ⟨h2, h⟩ | ⟨k2, h2, h⟩
  · refine r_callV (As := [.int a1]) (rest := []) (st1 := [.null]) hx hb hml hown hts hE hw hl (mX3_copyAt l G (by omega) hR (by omega) hs1 h2) (cwV 1 hts (zV gV_X3_26) rfl rfl rfl kdX3_copyAt ⟨Nat.le_of_ble_eq_true rfl, Nat.le_of_ble_eq_true rfl⟩) (by omega) (congrFun hs1.1 _) rfl rfl rfl rfl (Nat.le_of_ble_eq_true rfl) dX3_keep_2 ⟨Nat.zero_le _, Nat.zero_le _⟩ rfl (fun H locs hw => ?_)
    refine lv_astore_nN (lv' := [(3, .null), (0, .ref (gA G (β + b1))), (1, .int a1), (2, .ref (gA G (β + 3)))]) hx hb dX3_keep_5 rfl hl (by decide) rfl (fun ls hl => ?_)
    refine lv_aload_nN hx hb dX3_keep_6 rfl (lv_at hl 0 rfl) ?_
    refine lv_ifnullN (tgt := 35) hx hb dX3_keep_7 (by decide) ?_
    exact e_vw hx hb hr hlocks hw dX3_keep_35 h
  · obtain ⟨hk2, hq2⟩ := copyAt_st hs1 h1 h2
    refine r_callV (As := [.int a1]) (rest := []) (st1 := [.ref (gA G (β + k2))]) hx hb hml hown hts hE hw hl (mX3_copyAt l G (by omega) hR (by omega) hs1 h2) (cwV 1 hts (zV gV_X3_26) rfl rfl rfl kdX3_copyAt ⟨Nat.le_of_ble_eq_true rfl, Nat.le_of_ble_eq_true rfl⟩) (by omega) (congrFun hs1.1 _) rfl rfl rfl rfl (Nat.le_of_ble_eq_true rfl) dX3_keep_2 ⟨Nat.zero_le _, Nat.zero_le _⟩ rfl (fun H locs hw => ?_)
    refine lv_astore_n (lv' := [(3, .ref (gA G (β + k2))), (0, .ref (gA G (β + b1))), (1, .int a1), (2, .ref (gA G (β + 3)))]) hx hb dX3_keep_5 rfl hl (by decide) rfl (fun ls hl => ?_)
    refine lv_aload_n hx hb dX3_keep_6 rfl (lv_at hl 0 rfl) ?_
    refine lv_ifnull hx hb dX3_keep_7 ?_
    refine lv_iload_n hx hb dX3_keep_10 rfl (lv_at hl 2 rfl) ?_
    refine b_lt (tgt := 35) hx hb dX3_keep_11 (by decide) h (fun h => ?_) (fun h => ?_)
    · exact e_vw hx hb hr hlocks hw dX3_keep_35 h
    · refine lv_iload_n hx hb dX3_keep_14 rfl (lv_at hl 2 rfl) ?_
      refine lv_aload_n hx hb dX3_keep_15 rfl (lv_at hl 1 rfl) ?_
      refine r_get (v := .ref (gA G (β + (b1 + 2)))) hx hb hts hinX3 hown hE hw hn b1 (by omega) (congrFun hs1.1 _) rfl 1 (by decide) (hts _ (wz_in qF_X3_21)) rfl dX3_keep_16 ?_
      refine r_alen (v := nI nm) hx hb hE hw hn (b1 + 2) 1 (by omega) (congrFun hs1.2.2.1 _) rfl rfl dX3_keep_19 ?_
      refine bi_ge (tgt := 35) hx hb dX3_keep_20 (by decide) h (fun h => ?_) (fun h => ?_)
      · exact e_vw hx hb hr hlocks hw dX3_keep_35 h
      · refine lv_aload_n hx hb dX3_keep_23 rfl (lv_at hl 0 rfl) ?_
        refine lv_aload_n hx hb dX3_keep_24 rfl (lv_at hl 3 rfl) ?_
        obtain ⟨S25, h25, h⟩ := cr1_some h
        refine r_callV (As := [.ref (gA G (β + 3))]) (rest := []) (st1 := []) hx hb hml hown hts hE hw hl (mX4_copyFrom l G (by omega) hR (by omega) (by decide) hk2 hR.2.2.2.1 h25) (cwV 1 hts (zV gV_X3_30) rfl rfl rfl kdX4_copyFrom ⟨Nat.le_of_ble_eq_true rfl, Nat.le_of_ble_eq_true rfl⟩) (by omega) (congrFun hk2.1 _) rfl rfl rfl rfl (Nat.le_of_ble_eq_true rfl) dX3_keep_25 ⟨Nat.zero_le _, Nat.zero_le _⟩ rfl (fun H locs hw => ?_)
        refine lv_aload_n hx hb dX3_keep_28 rfl (lv_at hl 1 rfl) ?_
        refine r_get (v := .ref (gA G (β + (b1 + 2)))) hx hb hts hinX3 hown hE hw hn b1 (by omega) (congrFun hs1.1 _) rfl 1 (by decide) (hts _ (wz_in qF_X3_21)) rfl dX3_keep_29 ?_
        refine lv_iload_n hx hb dX3_keep_32 rfl (lv_at hl 2 rfl) ?_
        refine lv_iconst (v := (nI 1)) hx hb dX3_keep_33 (by decide) ?_
        refine p_zast hx hb hE hw hn (b1 + 2) (by omega) (congrFun hs1.2.2.1) dX3_keep_34 h (fun S34 h H locs hw => ?_)
        exact e_vw hx hb hr hlocks hw dX3_keep_35 h

set_option maxHeartbeats 4000000 in
set_option maxRecDepth 100000 in
theorem mX0_remember (l : Launch) (G : mG) {β : Nat} {M S S' : mM} (hn : β + 316 ≤ gN G) (hR : isWR G β) (h : pX0_remember S = some S') : MC l G yX0_remember zzX0_remember 4 83 [.ref (gA G (β + 37)), .ref (gA G (β + 3))] (wB M β 316 S) (wB M β 316 S') none := by
  refine mc_of (cc := cX0_remember) (maxL := 2) (ret := none) (by decide) rfl (Nat.le_of_ble_eq_true rfl) ?_
  intro p e s m args below meth c H ls hx hb hr hts hown hml hlocks hE hw hl
  have hl : lv_has ls 2 [(0, .ref (gA G (β + 37))), (1, .ref (gA G (β + 3)))] := hl
  have hinX0 : ∀ w ∈ wsX00, w ∈ zzX0_remember := fun w h9 => wz_in (zinX0 w h9)
  unfold pX0_remember at h
  refine lv_aload_n hx hb dX0_remember_0 rfl (lv_at hl 0 rfl) ?_
  refine r_get (v := .ref (gA G (β + 38))) hx hb hts hinX0 hown hE hw hn 37 (by decide) (congrFun hR.2.2.2.2.2.1 _) rfl 0 (by decide) (hts _ (wz_in qF_X0_14)) rfl dX0_remember_1 ?_
  refine lv_aload_n hx hb dX0_remember_4 rfl (lv_at hl 0 rfl) ?_
  refine p_get hx hb hts hinX0 hown hE hw hn 37 (by decide) (congrFun hR.2.2.2.2.2.1 _) rfl 1 (by decide) (hts _ (wz_in qF_X0_24)) rfl dX0_remember_5 h (fun v5 h => ?_)
  refine lv_aload_n hx hb dX0_remember_8 rfl (lv_at hl 1 rfl) ?_
  obtain ⟨S9, h9, h⟩ := cr1_some h
  refine r_callV (As := [.int v5, .ref (gA G (β + 3))]) (rest := []) (st1 := []) hx hb hml hown hts hE hw hl (mX3_keep l G (by omega) hR (by decide) hR.2.2.2.2.2.2.1 h9) (cwV 2 hts (zV gV_X0_27) rfl rfl rfl kdX3_keep ⟨Nat.le_of_ble_eq_true rfl, Nat.le_of_ble_eq_true rfl⟩) (by omega) (congrFun hR.2.2.2.2.2.2.1.1 _) rfl rfl rfl rfl (Nat.le_of_ble_eq_true rfl) dX0_remember_9 ⟨Nat.zero_le _, Nat.zero_le _⟩ rfl (fun H locs hw => ?_)
  refine lv_aload_n hx hb dX0_remember_12 rfl (lv_at hl 0 rfl) ?_
  refine lv_aload_n hx hb dX0_remember_13 rfl (lv_at hl 0 rfl) ?_
  refine p_get hx hb hts hinX0 hown hE hw hn 37 (by decide) (congrFun hR.2.2.2.2.2.1 _) rfl 1 (by decide) (hts _ (wz_in qF_X0_24)) rfl dX0_remember_14 h (fun v14 h => ?_)
  refine lv_iconst (v := (nI 1)) hx hb dX0_remember_17 (by decide) ?_
  refine lv_iadd hx hb dX0_remember_18 ?_
  refine lv_bipush (v := (nI 14)) hx hb dX0_remember_19 (by decide) ?_
  refine lv_irem hx hb dX0_remember_21 (by decide) ?_
  refine p_put hx hb hts hinX0 tyX0 tyX0_ok nmX0 hown hE hw hn 37 (by decide) (congrFun hR.2.2.2.2.2.1 _) rfl 1 (by decide) (hts _ (wz_in qF_X0_24)) rfl (by decide +kernel) (Nat.le_of_ble_eq_true rfl) (congrFun hR.2.2.2.2.2.1 _) dX0_remember_22 h (fun S22 h H locs hw => ?_)
  refine lv_aload_n hx hb dX0_remember_25 rfl (lv_at hl 0 rfl) ?_
  refine lv_aload_n hx hb dX0_remember_26 rfl (lv_at hl 0 rfl) ?_
  refine p_get hx hb hts hinX0 hown hE hw hn 37 (by decide) (congrFun hR.2.2.2.2.2.1 _) rfl 2 (by decide) (hts _ (wz_in qF_X0_20)) rfl dX0_remember_27 h (fun v27 h => ?_)
  refine lv_iconst (v := (nI 1)) hx hb dX0_remember_30 (by decide) ?_
  refine lv_iadd hx hb dX0_remember_31 ?_
  refine lv_bipush (v := (nI 14)) hx hb dX0_remember_32 (by decide) ?_
  refine va_mmin hx hb (hml.trans hl.1.symm) hown (hts _ (wz_in qM_X0_31)) (hts _ (wz_in qT_min)) (hts _ (wz_in qN_J9)) (hts _ (wz_in qC_min)) (Nat.le_of_ble_eq_true rfl) (Nat.le_of_ble_eq_true rfl) (Nat.zero_le _) (Nat.zero_le _) dX0_remember_34 ?_
  refine p_topi h (fun v34 h => ?_)
  refine p_put hx hb hts hinX0 tyX0 tyX0_ok nmX0 hown hE hw hn 37 (by decide) (congrFun hR.2.2.2.2.2.1 _) rfl 2 (by decide) (hts _ (wz_in qF_X0_20)) rfl (by decide +kernel) (Nat.le_of_ble_eq_true rfl) (congrFun hR.2.2.2.2.2.1 _) dX0_remember_37 h (fun S37 h H locs hw => ?_)
  exact e_vw hx hb hr hlocks hw dX0_remember_40 h

set_option maxHeartbeats 4000000 in
set_option maxRecDepth 100000 in
theorem mX3_giveBack (l : Launch) (G : mG) {β : Nat} {M S S' : mM} {b1 nm : Nat} {a1 : Int32} (hn : β + 316 ≤ gN G) (hR : isWR G β) (h1 : b1 + (3 + 17 * nm) ≤ 316) (hs1 : isShelf G (β + b1) nm) (h : pX3_giveBack b1 nm a1 S = some S') : MC l G yX3_giveBack zzX3_giveBack 3 60 [.ref (gA G (β + b1)), .int a1, .ref (gA G (β + 3))] (wB M β 316 S) (wB M β 316 S') none := by
  refine mc_of (cc := cX3_giveBack) (maxL := 4) (ret := none) (by decide) rfl (Nat.le_of_ble_eq_true rfl) ?_
  intro p e s m args below meth c H ls hx hb hr hts hown hml hlocks hE hw hl
  have hl : lv_has ls 4 [(0, .ref (gA G (β + b1))), (1, .int a1), (2, .ref (gA G (β + 3)))] := hl
  unfold pX3_giveBack at h
  refine lv_aload_n hx hb dX3_giveBack_0 rfl (lv_at hl 0 rfl) ?_
  refine lv_iload_n hx hb dX3_giveBack_1 rfl (lv_at hl 1 rfl) ?_
  rcases bo_some h with ⟨h2, h⟩ | ⟨k2, h2, h⟩
  · refine r_callV (As := [.int a1]) (rest := []) (st1 := [.null]) hx hb hml hown hts hE hw hl (mX3_copyAt l G (by omega) hR (by omega) hs1 h2) (cwV 1 hts (zV gV_X3_26) rfl rfl rfl kdX3_copyAt ⟨Nat.le_of_ble_eq_true rfl, Nat.le_of_ble_eq_true rfl⟩) (by omega) (congrFun hs1.1 _) rfl rfl rfl rfl (Nat.le_of_ble_eq_true rfl) dX3_giveBack_2 ⟨Nat.zero_le _, Nat.zero_le _⟩ rfl (fun H locs hw => ?_)
    refine lv_astore_nN (lv' := [(3, .null), (0, .ref (gA G (β + b1))), (1, .int a1), (2, .ref (gA G (β + 3)))]) hx hb dX3_giveBack_5 rfl hl (by decide) rfl (fun ls hl => ?_)
    refine lv_aload_nN hx hb dX3_giveBack_6 rfl (lv_at hl 0 rfl) ?_
    refine lv_ifnullN (tgt := 15) hx hb dX3_giveBack_7 (by decide) ?_
    exact e_vw hx hb hr hlocks hw dX3_giveBack_15 h
  · obtain ⟨hk2, hq2⟩ := copyAt_st hs1 h1 h2
    refine r_callV (As := [.int a1]) (rest := []) (st1 := [.ref (gA G (β + k2))]) hx hb hml hown hts hE hw hl (mX3_copyAt l G (by omega) hR (by omega) hs1 h2) (cwV 1 hts (zV gV_X3_26) rfl rfl rfl kdX3_copyAt ⟨Nat.le_of_ble_eq_true rfl, Nat.le_of_ble_eq_true rfl⟩) (by omega) (congrFun hs1.1 _) rfl rfl rfl rfl (Nat.le_of_ble_eq_true rfl) dX3_giveBack_2 ⟨Nat.zero_le _, Nat.zero_le _⟩ rfl (fun H locs hw => ?_)
    refine lv_astore_n (lv' := [(3, .ref (gA G (β + k2))), (0, .ref (gA G (β + b1))), (1, .int a1), (2, .ref (gA G (β + 3)))]) hx hb dX3_giveBack_5 rfl hl (by decide) rfl (fun ls hl => ?_)
    refine lv_aload_n hx hb dX3_giveBack_6 rfl (lv_at hl 0 rfl) ?_
    refine lv_ifnull hx hb dX3_giveBack_7 ?_
    refine lv_aload_n hx hb dX3_giveBack_10 rfl (lv_at hl 3 rfl) ?_
    refine lv_aload_n hx hb dX3_giveBack_11 rfl (lv_at hl 0 rfl) ?_
    obtain ⟨S12, h12, h⟩ := cr1_some h
    refine r_callV (As := [.ref (gA G (β + k2))]) (rest := []) (st1 := []) hx hb hml hown hts hE hw hl (mX4_copyFrom l G (by omega) hR (by decide) (by omega) hR.2.2.2.1 hk2 h12) (cwV 1 hts (zV gV_X3_30) rfl rfl rfl kdX4_copyFrom ⟨Nat.le_of_ble_eq_true rfl, Nat.le_of_ble_eq_true rfl⟩) (by omega) (congrFun hR.2.2.2.1.1 _) rfl rfl rfl rfl (Nat.le_of_ble_eq_true rfl) dX3_giveBack_12 ⟨Nat.zero_le _, Nat.zero_le _⟩ rfl (fun H locs hw => ?_)
    exact e_vw hx hb hr hlocks hw dX3_giveBack_15 h

set_option maxHeartbeats 4000000 in
set_option maxRecDepth 100000 in
theorem mX0_takeBack (l : Launch) (G : mG) {β : Nat} {M S S' : mM} (hn : β + 316 ≤ gN G) (hR : isWR G β) (h : pX0_takeBack S = some S') : MC l G yX0_takeBack zzX0_takeBack 4 83 [.ref (gA G (β + 37)), .ref (gA G (β + 3))] (wB M β 316 S) (wB M β 316 S') none := by
  refine mc_of (cc := cX0_takeBack) (maxL := 2) (ret := none) (by decide) rfl (Nat.le_of_ble_eq_true rfl) ?_
  intro p e s m args below meth c H ls hx hb hr hts hown hml hlocks hE hw hl
  have hl : lv_has ls 2 [(0, .ref (gA G (β + 37))), (1, .ref (gA G (β + 3)))] := hl
  have hinX0 : ∀ w ∈ wsX00, w ∈ zzX0_takeBack := fun w h9 => wz_in (zinX0 w h9)
  unfold pX0_takeBack at h
  refine lv_aload_n hx hb dX0_takeBack_0 rfl (lv_at hl 0 rfl) ?_
  refine p_get hx hb hts hinX0 hown hE hw hn 37 (by decide) (congrFun hR.2.2.2.2.2.1 _) rfl 2 (by decide) (hts _ (wz_in qF_X0_20)) rfl dX0_takeBack_1 h (fun v1 h => ?_)
  refine b_le (tgt := 45) hx hb dX0_takeBack_4 (by decide) h (fun h => ?_) (fun h => ?_)
  · exact e_vw hx hb hr hlocks hw dX0_takeBack_45 h
  · refine lv_aload_n hx hb dX0_takeBack_7 rfl (lv_at hl 0 rfl) ?_
    refine lv_aload_n hx hb dX0_takeBack_8 rfl (lv_at hl 0 rfl) ?_
    refine p_get hx hb hts hinX0 hown hE hw hn 37 (by decide) (congrFun hR.2.2.2.2.2.1 _) rfl 1 (by decide) (hts _ (wz_in qF_X0_24)) rfl dX0_takeBack_9 h (fun v9 h => ?_)
    refine lv_bipush (v := (nI 14)) hx hb dX0_takeBack_12 (by decide) ?_
    refine lv_iadd hx hb dX0_takeBack_14 ?_
    refine lv_iconst (v := (nI 1)) hx hb dX0_takeBack_15 (by decide) ?_
    refine lv_isub hx hb dX0_takeBack_16 ?_
    refine lv_bipush (v := (nI 14)) hx hb dX0_takeBack_17 (by decide) ?_
    refine lv_irem hx hb dX0_takeBack_19 (by decide) ?_
    refine p_put hx hb hts hinX0 tyX0 tyX0_ok nmX0 hown hE hw hn 37 (by decide) (congrFun hR.2.2.2.2.2.1 _) rfl 1 (by decide) (hts _ (wz_in qF_X0_24)) rfl (by decide +kernel) (Nat.le_of_ble_eq_true rfl) (congrFun hR.2.2.2.2.2.1 _) dX0_takeBack_20 h (fun S20 h H locs hw => ?_)
    refine lv_aload_n hx hb dX0_takeBack_23 rfl (lv_at hl 0 rfl) ?_
    refine lv_dup hx hb dX0_takeBack_24 rfl ?_
    refine p_get hx hb hts hinX0 hown hE hw hn 37 (by decide) (congrFun hR.2.2.2.2.2.1 _) rfl 2 (by decide) (hts _ (wz_in qF_X0_20)) rfl dX0_takeBack_25 h (fun v25 h => ?_)
    refine lv_iconst (v := (nI 1)) hx hb dX0_takeBack_28 (by decide) ?_
    refine lv_isub hx hb dX0_takeBack_29 ?_
    refine p_put hx hb hts hinX0 tyX0 tyX0_ok nmX0 hown hE hw hn 37 (by decide) (congrFun hR.2.2.2.2.2.1 _) rfl 2 (by decide) (hts _ (wz_in qF_X0_20)) rfl (by decide +kernel) (Nat.le_of_ble_eq_true rfl) (congrFun hR.2.2.2.2.2.1 _) dX0_takeBack_30 h (fun S30 h H locs hw => ?_)
    refine lv_aload_n hx hb dX0_takeBack_33 rfl (lv_at hl 0 rfl) ?_
    refine r_get (v := .ref (gA G (β + 38))) hx hb hts hinX0 hown hE hw hn 37 (by decide) (congrFun hR.2.2.2.2.2.1 _) rfl 0 (by decide) (hts _ (wz_in qF_X0_14)) rfl dX0_takeBack_34 ?_
    refine lv_aload_n hx hb dX0_takeBack_37 rfl (lv_at hl 0 rfl) ?_
    refine p_get hx hb hts hinX0 hown hE hw hn 37 (by decide) (congrFun hR.2.2.2.2.2.1 _) rfl 1 (by decide) (hts _ (wz_in qF_X0_24)) rfl dX0_takeBack_38 h (fun v38 h => ?_)
    refine lv_aload_n hx hb dX0_takeBack_41 rfl (lv_at hl 1 rfl) ?_
    obtain ⟨S42, h42, h⟩ := cr1_some h
    refine r_callV (As := [.int v38, .ref (gA G (β + 3))]) (rest := []) (st1 := []) hx hb hml hown hts hE hw hl (mX3_giveBack l G (by omega) hR (by decide) hR.2.2.2.2.2.2.1 h42) (cwV 2 hts (zV gV_X0_37) rfl rfl rfl kdX3_giveBack ⟨Nat.le_of_ble_eq_true rfl, Nat.le_of_ble_eq_true rfl⟩) (by omega) (congrFun hR.2.2.2.2.2.2.1.1 _) rfl rfl rfl rfl (Nat.le_of_ble_eq_true rfl) dX0_takeBack_42 ⟨Nat.zero_le _, Nat.zero_le _⟩ rfl (fun H locs hw => ?_)
    exact e_vw hx hb hr hlocks hw dX0_takeBack_45 h

set_option maxHeartbeats 4000000 in
set_option maxRecDepth 100000 in
theorem mX0_forget (l : Launch) (G : mG) {β : Nat} {M S S' : mM} (hn : β + 316 ≤ gN G) (hR : isWR G β) (h : pX0_forget S = some S') : MC l G yX0_forget zzX0_forget 0 0 [.ref (gA G (β + 37))] (wB M β 316 S) (wB M β 316 S') none := by
  refine mc_of (cc := cX0_forget) (maxL := 1) (ret := none) (by decide) rfl (Nat.le_of_ble_eq_true rfl) ?_
  intro p e s m args below meth c H ls hx hb hr hts hown hml hlocks hE hw hl
  have hl : lv_has ls 1 [(0, .ref (gA G (β + 37)))] := hl
  have hinX0 : ∀ w ∈ wsX00, w ∈ zzX0_forget := fun w h9 => wz_in (zinX0 w h9)
  unfold pX0_forget at h
  refine lv_aload_n hx hb dX0_forget_0 rfl (lv_at hl 0 rfl) ?_
  refine lv_iconst (v := (nI 0)) hx hb dX0_forget_1 (by decide) ?_
  refine p_put hx hb hts hinX0 tyX0 tyX0_ok nmX0 hown hE hw hn 37 (by decide) (congrFun hR.2.2.2.2.2.1 _) rfl 2 (by decide) (hts _ (wz_in qF_X0_20)) rfl (by decide +kernel) (Nat.le_of_ble_eq_true rfl) (congrFun hR.2.2.2.2.2.1 _) dX0_forget_2 h (fun S2 h H locs hw => ?_)
  exact e_vw hx hb hr hlocks hw dX0_forget_5 h

set_option maxHeartbeats 4000000 in
set_option maxRecDepth 100000 in
theorem mX1_isFull (l : Launch) (G : mG) {β : Nat} {M S : mM} {r : Int32} (hn : β + 316 ≤ gN G) (hR : isWR G β) (h : pX1_isFull S = some r) : MC l G yX1_isFull zzX1_isFull 0 0 [.ref (gA G (β + 1))] (wB M β 316 S) (wB M β 316 S) (some (.int r)) := by
  refine mc_of (cc := cX1_isFull) (maxL := 1) (ret := (some .boolean)) (by decide) rfl (Nat.le_of_ble_eq_true rfl) ?_
  intro p e s m args below meth c H ls hx hb hr hts hown hml hlocks hE hw hl
  have hl : lv_has ls 1 [(0, .ref (gA G (β + 1)))] := hl
  have hinX1 : ∀ w ∈ wsX10, w ∈ zzX1_isFull := fun w h9 => wz_in (zinX1 w h9)
  unfold pX1_isFull at h
  refine lv_aload_n hx hb dX1_isFull_0 rfl (lv_at hl 0 rfl) ?_
  refine p_get hx hb hts hinX1 hown hE hw hn 1 (by decide) (congrFun hR.2.1 _) rfl 1 (by decide) (hts _ (wz_in qF_X1_15)) rfl dX1_isFull_1 h (fun v1 h => ?_)
  refine lv_sipush (v := (nI 140)) hx hb dX1_isFull_4 (by decide) ?_
  refine bi_lt (tgt := 14) hx hb dX1_isFull_7 (by decide) h (fun h => ?_) (fun h => ?_)
  · refine lv_iconst (v := (nI 0)) hx hb dX1_isFull_14 (by decide) ?_
    exact e_z hx hb hr hlocks hw dX1_isFull_15 h
  · refine lv_iconst (v := (nI 1)) hx hb dX1_isFull_10 (by decide) ?_
    refine lv_goto (tgt := 15) hx hb dX1_isFull_11 (by decide) ?_
    exact e_z hx hb hr hlocks hw dX1_isFull_15 h

set_option maxHeartbeats 4000000 in
set_option maxRecDepth 100000 in
theorem mX1_addSign (l : Launch) (G : mG) {β : Nat} {M S S' : mM} {a1 : Int32} {r : Int32} (hn : β + 316 ≤ gN G) (hR : isWR G β) (h : pX1_addSign a1 S = some (r, S')) : MC l G yX1_addSign zzX1_addSign 0 0 [.ref (gA G (β + 1)), .int a1] (wB M β 316 S) (wB M β 316 S') (some (.int r)) := by
  refine mc_of (cc := cX1_addSign) (maxL := 2) (ret := (some .int)) (by decide) rfl (Nat.le_of_ble_eq_true rfl) ?_
  intro p e s m args below meth c H ls hx hb hr hts hown hml hlocks hE hw hl
  have hl : lv_has ls 2 [(0, .ref (gA G (β + 1))), (1, .int a1)] := hl
  have hinX1 : ∀ w ∈ wsX10, w ∈ zzX1_addSign := fun w h9 => wz_in (zinX1 w h9)
  unfold pX1_addSign at h
  refine lv_aload_n hx hb dX1_addSign_0 rfl (lv_at hl 0 rfl) ?_
  refine p_get hx hb hts hinX1 hown hE hw hn 1 (by decide) (congrFun hR.2.1 _) rfl 1 (by decide) (hts _ (wz_in qF_X1_15)) rfl dX1_addSign_1 h (fun v1 h => ?_)
  refine b_lt (tgt := 39) hx hb dX1_addSign_4 (by decide) h (fun h => ?_) (fun h => ?_)
  · refine lv_aload_n hx hb dX1_addSign_39 rfl (lv_at hl 0 rfl) ?_
    refine p_get hx hb hts hinX1 hown hE hw hn 1 (by decide) (congrFun hR.2.1 _) rfl 1 (by decide) (hts _ (wz_in qF_X1_15)) rfl dX1_addSign_40 h (fun v40 h => ?_)
    exact e_iw hx hb hr hlocks hw dX1_addSign_43 h
  · refine lv_aload_n hx hb dX1_addSign_7 rfl (lv_at hl 0 rfl) ?_
    refine p_get hx hb hts hinX1 hown hE hw hn 1 (by decide) (congrFun hR.2.1 _) rfl 1 (by decide) (hts _ (wz_in qF_X1_15)) rfl dX1_addSign_8 h (fun v8 h => ?_)
    refine lv_aload_n hx hb dX1_addSign_11 rfl (lv_at hl 0 rfl) ?_
    refine r_get (v := .ref (gA G (β + 2))) hx hb hts hinX1 hown hE hw hn 1 (by decide) (congrFun hR.2.1 _) rfl 0 (by decide) (hts _ (wz_in qF_X1_9)) rfl dX1_addSign_12 ?_
    refine r_alen (v := nI 140) hx hb hE hw hn 2 2 (by decide) (congrFun hR.2.2.1 _) rfl rfl dX1_addSign_15 ?_
    refine bi_ge (tgt := 39) hx hb dX1_addSign_16 (by decide) h (fun h => ?_) (fun h => ?_)
    · refine lv_aload_n hx hb dX1_addSign_39 rfl (lv_at hl 0 rfl) ?_
      refine p_get hx hb hts hinX1 hown hE hw hn 1 (by decide) (congrFun hR.2.1 _) rfl 1 (by decide) (hts _ (wz_in qF_X1_15)) rfl dX1_addSign_40 h (fun v40 h => ?_)
      exact e_iw hx hb hr hlocks hw dX1_addSign_43 h
    · refine lv_aload_n hx hb dX1_addSign_19 rfl (lv_at hl 0 rfl) ?_
      refine r_get (v := .ref (gA G (β + 2))) hx hb hts hinX1 hown hE hw hn 1 (by decide) (congrFun hR.2.1 _) rfl 0 (by decide) (hts _ (wz_in qF_X1_9)) rfl dX1_addSign_20 ?_
      refine lv_aload_n hx hb dX1_addSign_23 rfl (lv_at hl 0 rfl) ?_
      refine p_get hx hb hts hinX1 hown hE hw hn 1 (by decide) (congrFun hR.2.1 _) rfl 1 (by decide) (hts _ (wz_in qF_X1_15)) rfl dX1_addSign_24 h (fun v24 h => ?_)
      refine lv_iload_n hx hb dX1_addSign_27 rfl (lv_at hl 1 rfl) ?_
      refine p_cast hx hb hE hw hn 2 (by decide) (congrFun hR.2.2.1) dX1_addSign_28 h (fun S28 h H locs hw => ?_)
      refine lv_aload_n hx hb dX1_addSign_29 rfl (lv_at hl 0 rfl) ?_
      refine lv_dup hx hb dX1_addSign_30 rfl ?_
      refine p_get hx hb hts hinX1 hown hE hw hn 1 (by decide) (congrFun hR.2.1 _) rfl 1 (by decide) (hts _ (wz_in qF_X1_15)) rfl dX1_addSign_31 h (fun v31 h => ?_)
      refine lv_iconst (v := (nI 1)) hx hb dX1_addSign_34 (by decide) ?_
      refine lv_iadd hx hb dX1_addSign_35 ?_
      refine p_put hx hb hts hinX1 tyX1 tyX1_ok nmX1 hown hE hw hn 1 (by decide) (congrFun hR.2.1 _) rfl 1 (by decide) (hts _ (wz_in qF_X1_15)) rfl (by decide +kernel) (Nat.le_of_ble_eq_true rfl) (congrFun hR.2.1 _) dX1_addSign_36 h (fun S36 h H locs hw => ?_)
      refine lv_aload_n hx hb dX1_addSign_39 rfl (lv_at hl 0 rfl) ?_
      refine p_get hx hb hts hinX1 hown hE hw hn 1 (by decide) (congrFun hR.2.1 _) rfl 1 (by decide) (hts _ (wz_in qF_X1_15)) rfl dX1_addSign_40 h (fun v40 h => ?_)
      exact e_iw hx hb hr hlocks hw dX1_addSign_43 h

set_option maxHeartbeats 4000000 in
set_option maxRecDepth 100000 in
theorem mX1_emptyOut (l : Launch) (G : mG) {β : Nat} {M S S' : mM} {r : Int32} (hn : β + 316 ≤ gN G) (hR : isWR G β) (h : pX1_emptyOut S = some (r, S')) : MC l G yX1_emptyOut zzX1_emptyOut 0 0 [.ref (gA G (β + 1))] (wB M β 316 S) (wB M β 316 S') (some (.int r)) := by
  refine mc_of (cc := cX1_emptyOut) (maxL := 2) (ret := (some .int)) (by decide) rfl (Nat.le_of_ble_eq_true rfl) ?_
  intro p e s m args below meth c H ls hx hb hr hts hown hml hlocks hE hw hl
  have hl : lv_has ls 2 [(0, .ref (gA G (β + 1)))] := hl
  have hinX1 : ∀ w ∈ wsX10, w ∈ zzX1_emptyOut := fun w h9 => wz_in (zinX1 w h9)
  unfold pX1_emptyOut at h
  refine lv_aload_n hx hb dX1_emptyOut_0 rfl (lv_at hl 0 rfl) ?_
  refine p_get hx hb hts hinX1 hown hE hw hn 1 (by decide) (congrFun hR.2.1 _) rfl 1 (by decide) (hts _ (wz_in qF_X1_15)) rfl dX1_emptyOut_1 h (fun v1 h => ?_)
  refine lv_istore_n (lv' := [(1, .int v1), (0, .ref (gA G (β + 1)))]) hx hb dX1_emptyOut_4 rfl hl (by decide) rfl (fun ls hl => ?_)
  refine lv_aload_n hx hb dX1_emptyOut_5 rfl (lv_at hl 1 rfl) ?_
  refine lv_iconst (v := (nI 0)) hx hb dX1_emptyOut_6 (by decide) ?_
  refine p_put hx hb hts hinX1 tyX1 tyX1_ok nmX1 hown hE hw hn 1 (by decide) (congrFun hR.2.1 _) rfl 1 (by decide) (hts _ (wz_in qF_X1_15)) rfl (by decide +kernel) (Nat.le_of_ble_eq_true rfl) (congrFun hR.2.1 _) dX1_emptyOut_7 h (fun S7 h H locs hw => ?_)
  refine lv_iload_n hx hb dX1_emptyOut_10 rfl (lv_at hl 0 rfl) ?_
  exact e_iw hx hb hr hlocks hw dX1_emptyOut_11 h

set_option maxHeartbeats 4000000 in
set_option maxRecDepth 100000 in
theorem mX1_signAt (l : Launch) (G : mG) {β : Nat} {M S : mM} {r : Int32} (hn : β + 316 ≤ gN G) (hR : isWR G β) (h : pX1_signAt S = some r) : MC l G yX1_signAt zzX1_signAt 0 0 [.ref (gA G (β + 1))] (wB M β 316 S) (wB M β 316 S) (some (.int r)) := by
  refine mc_of (cc := cX1_signAt) (maxL := 1) (ret := (some .int)) (by decide) rfl (Nat.le_of_ble_eq_true rfl) ?_
  intro p e s m args below meth c H ls hx hb hr hts hown hml hlocks hE hw hl
  have hl : lv_has ls 1 [(0, .ref (gA G (β + 1)))] := hl
  have hinX1 : ∀ w ∈ wsX10, w ∈ zzX1_signAt := fun w h9 => wz_in (zinX1 w h9)
  unfold pX1_signAt at h
  refine lv_aload_n hx hb dX1_signAt_0 rfl (lv_at hl 0 rfl) ?_
  refine p_get hx hb hts hinX1 hown hE hw hn 1 (by decide) (congrFun hR.2.1 _) rfl 2 (by decide) (hts _ (wz_in qF_X1_19)) rfl dX1_signAt_1 h (fun v1 h => ?_)
  refine b_lt (tgt := 42) hx hb dX1_signAt_4 (by decide) h (fun h => ?_) (fun h => ?_)
  · refine lv_bipush (v := (-9)) hx hb dX1_signAt_42 (by decide) ?_
    exact e_i hx hb hr hlocks hw dX1_signAt_44 h
  · refine lv_aload_n hx hb dX1_signAt_7 rfl (lv_at hl 0 rfl) ?_
    refine p_get hx hb hts hinX1 hown hE hw hn 1 (by decide) (congrFun hR.2.1 _) rfl 2 (by decide) (hts _ (wz_in qF_X1_19)) rfl dX1_signAt_8 h (fun v8 h => ?_)
    refine lv_aload_n hx hb dX1_signAt_11 rfl (lv_at hl 0 rfl) ?_
    refine p_get hx hb hts hinX1 hown hE hw hn 1 (by decide) (congrFun hR.2.1 _) rfl 1 (by decide) (hts _ (wz_in qF_X1_15)) rfl dX1_signAt_12 h (fun v12 h => ?_)
    refine bi_ge (tgt := 42) hx hb dX1_signAt_15 (by decide) h (fun h => ?_) (fun h => ?_)
    · refine lv_bipush (v := (-9)) hx hb dX1_signAt_42 (by decide) ?_
      exact e_i hx hb hr hlocks hw dX1_signAt_44 h
    · refine lv_aload_n hx hb dX1_signAt_18 rfl (lv_at hl 0 rfl) ?_
      refine p_get hx hb hts hinX1 hown hE hw hn 1 (by decide) (congrFun hR.2.1 _) rfl 2 (by decide) (hts _ (wz_in qF_X1_19)) rfl dX1_signAt_19 h (fun v19 h => ?_)
      refine lv_aload_n hx hb dX1_signAt_22 rfl (lv_at hl 0 rfl) ?_
      refine r_get (v := .ref (gA G (β + 2))) hx hb hts hinX1 hown hE hw hn 1 (by decide) (congrFun hR.2.1 _) rfl 0 (by decide) (hts _ (wz_in qF_X1_9)) rfl dX1_signAt_23 ?_
      refine r_alen (v := nI 140) hx hb hE hw hn 2 2 (by decide) (congrFun hR.2.2.1 _) rfl rfl dX1_signAt_26 ?_
      refine bi_ge (tgt := 42) hx hb dX1_signAt_27 (by decide) h (fun h => ?_) (fun h => ?_)
      · refine lv_bipush (v := (-9)) hx hb dX1_signAt_42 (by decide) ?_
        exact e_i hx hb hr hlocks hw dX1_signAt_44 h
      · refine lv_aload_n hx hb dX1_signAt_30 rfl (lv_at hl 0 rfl) ?_
        refine r_get (v := .ref (gA G (β + 2))) hx hb hts hinX1 hown hE hw hn 1 (by decide) (congrFun hR.2.1 _) rfl 0 (by decide) (hts _ (wz_in qF_X1_9)) rfl dX1_signAt_31 ?_
        refine lv_aload_n hx hb dX1_signAt_34 rfl (lv_at hl 0 rfl) ?_
        refine p_get hx hb hts hinX1 hown hE hw hn 1 (by decide) (congrFun hR.2.1 _) rfl 2 (by decide) (hts _ (wz_in qF_X1_19)) rfl dX1_signAt_35 h (fun v35 h => ?_)
        refine p_cald hx hb hE hw hn 2 (by decide) (congrFun hR.2.2.1) dX1_signAt_38 h (fun v38 h => ?_)
        refine lv_goto (tgt := 44) hx hb dX1_signAt_39 (by decide) ?_
        exact e_i hx hb hr hlocks hw dX1_signAt_44 h

set_option maxHeartbeats 4000000 in
set_option maxRecDepth 100000 in
theorem mX1_number (l : Launch) (G : mG) {β : Nat} {M S S' : mM} {a1 : Int32} {a2 : Int32} {a3 : Int32} {r : Int32} (hn : β + 316 ≤ gN G) (hR : isWR G β) (h : pX1_number a1 a2 a3 S = some (r, S')) : MC l G yX1_number zzX1_number 1 22 [.ref (gA G (β + 1)), .int a1, .int a2, .int a3] (wB M β 316 S) (wB M β 316 S') (some (.int r)) := by
  refine mc_of (cc := cX1_number) (maxL := 9) (ret := (some .int)) (by decide) rfl (Nat.le_of_ble_eq_true rfl) ?_
  intro p e s m args below meth c H ls hx hb hr hts hown hml hlocks hE hw hl
  have hl : lv_has ls 9 [(0, .ref (gA G (β + 1))), (1, .int a1), (2, .int a2), (3, .int a3)] := hl
  have hinX1 : ∀ w ∈ wsX10, w ∈ zzX1_number := fun w h9 => wz_in (zinX1 w h9)
  have k100 : ∀ (ih31 : Int32 → Int32 → Int32 → Int32 → Int32 → Int32 → mM → Option (Int32 × mM)) (_ : ∀ (x1 : Int32) (x2 : Int32) (x3 : Int32) (x4 : Int32) (x5 : Int32) (x6 : Int32) (S : mM) (H : Heap) (locs : List Loc) (ls : Array Slot), ih31 x1 x2 x3 x4 x5 x6 S = some (r, S') → mW G s (wB M β 316 S) H locs → lv_has ls 9 [(0, .ref (gA G (β + 1))), (1, .int x1), (2, .int x2), (3, .int x3), (4, .int x4), (5, .int x5), (6, .int x6)] → W p l e { frames := 1, cells := 0, slots := 0, locals := 22 } s m args below meth c H locs 0 0 (mZ below G (some (.int r)) (wB M β 316 S') args s) (F0 m 31 ls [])), ∀ (x1 : Int32) (x2 : Int32) (x3 : Int32) (x4 : Int32) (x5 : Int32) (x6 : Int32) (x7 : Int32) (t1 : Int32) (S : mM) (H : Heap) (locs : List Loc) (ls : Array Slot), pX1_number_b100 ih31 x1 x2 x3 x4 x5 x6 x7 t1 S = some (r, S') → mW G s (wB M β 316 S) H locs → lv_has ls 9 [(0, .ref (gA G (β + 1))), (1, .int x1), (2, .int x2), (3, .int x3), (4, .int x4), (5, .int x5), (6, .int x6), (7, .int x7)] → W p l e { frames := 1, cells := 0, slots := 0, locals := 22 } s m args below meth c H locs 0 0 (mZ below G (some (.int r)) (wB M β 316 S') args s) (F0 m 100 ls [.int t1, .ref (gA G (β + 1))]) := by
    intro ih31 hih31 x1 x2 x3 x4 x5 x6 x7 t1 S H locs ls h hw hl
    unfold pX1_number_b100 at h
    refine p_putz hx hb hts hinX1 tyX1 tyX1_ok nmX1 hown hE hw hn 1 (by decide) (congrFun hR.2.1 _) rfl 3 (by decide) (hts _ (wz_in qF_X1_26)) rfl (by decide +kernel) (Nat.le_of_ble_eq_true rfl) (congrFun hR.2.1 _) dX1_number_100 h (fun S100 h H locs hw => ?_)
    refine lv_aload_n hx hb dX1_number_103 rfl (lv_at hl 0 rfl) ?_
    refine p_get hx hb hts hinX1 hown hE hw hn 1 (by decide) (congrFun hR.2.1 _) rfl 3 (by decide) (hts _ (wz_in qF_X1_26)) rfl dX1_number_104 h (fun v104 h => ?_)
    refine b_ne (tgt := 137) hx hb dX1_number_107 (by decide) h (fun h => ?_) (fun h => ?_)
    · refine p_iinc (w := (nI 1)) 6 (fun v137 => [(6, .int v137), (0, .ref (gA G (β + 1))), (1, .int x1), (2, .int x2), (3, .int x3), (4, .int x4), (5, .int x5), (7, .int x7)]) hx hb dX1_number_137 hl rfl (by decide) (by decide) h (fun _ => rfl) (fun v137 h ls hl => ?_)
      refine lv_goto (tgt := 31) hx hb dX1_number_140 (by decide) ?_
      exact hih31 x1 x2 x3 x4 x5 v137 S100 _ _ _ h hw (lv_sub hl [1, 2, 3, 4, 5, 6, 0] rfl)
    · refine lv_iload hx hb dX1_number_110 (lv_at hl 4 rfl) ?_
      refine lv_bipush (v := (nI 10)) hx hb dX1_number_112 (by decide) ?_
      refine lv_imul hx hb dX1_number_114 ?_
      refine lv_iload hx hb dX1_number_115 (lv_at hl 7 rfl) ?_
      refine lv_iadd hx hb dX1_number_117 ?_
      refine p_topi h (fun v118 h => ?_)
      refine lv_istore (lv' := [(4, .int v118), (0, .ref (gA G (β + 1))), (1, .int x1), (2, .int x2), (3, .int x3), (5, .int x5), (6, .int x6), (7, .int x7)]) hx hb dX1_number_118 hl (by decide) rfl (fun ls hl => ?_)
      refine lv_aload_n hx hb dX1_number_120 rfl (lv_at hl 1 rfl) ?_
      refine lv_dup hx hb dX1_number_121 rfl ?_
      refine p_get hx hb hts hinX1 hown hE hw hn 1 (by decide) (congrFun hR.2.1 _) rfl 2 (by decide) (hts _ (wz_in qF_X1_19)) rfl dX1_number_122 h (fun v122 h => ?_)
      refine lv_iconst (v := (nI 1)) hx hb dX1_number_125 (by decide) ?_
      refine lv_iadd hx hb dX1_number_126 ?_
      refine p_put hx hb hts hinX1 tyX1 tyX1_ok nmX1 hown hE hw hn 1 (by decide) (congrFun hR.2.1 _) rfl 2 (by decide) (hts _ (wz_in qF_X1_19)) rfl (by decide +kernel) (Nat.le_of_ble_eq_true rfl) (congrFun hR.2.1 _) dX1_number_127 h (fun S127 h H locs hw => ?_)
      refine lv_iload hx hb dX1_number_130 (lv_at hl 5 rfl) ?_
      refine lv_bipush (v := (nI 10)) hx hb dX1_number_132 (by decide) ?_
      refine lv_idiv hx hb dX1_number_134 (by decide) ?_
      refine p_topi h (fun v135 h => ?_)
      refine lv_istore (lv' := [(5, .int v135), (4, .int v118), (0, .ref (gA G (β + 1))), (1, .int x1), (2, .int x2), (3, .int x3), (6, .int x6), (7, .int x7)]) hx hb dX1_number_135 hl (by decide) rfl (fun ls hl => ?_)
      refine p_iinc (w := (nI 1)) 6 (fun v137 => [(6, .int v137), (5, .int v135), (4, .int v118), (0, .ref (gA G (β + 1))), (1, .int x1), (2, .int x2), (3, .int x3), (7, .int x7)]) hx hb dX1_number_137 hl rfl (by decide) (by decide) h (fun _ => rfl) (fun v137 h ls hl => ?_)
      refine lv_goto (tgt := 31) hx hb dX1_number_140 (by decide) ?_
      exact hih31 x1 x2 x3 v118 v135 v137 S127 _ _ _ h hw (lv_sub hl [3, 4, 5, 6, 2, 1, 0] rfl)
  have k95 : ∀ (ih31 : Int32 → Int32 → Int32 → Int32 → Int32 → Int32 → mM → Option (Int32 × mM)) (_ : ∀ (x1 : Int32) (x2 : Int32) (x3 : Int32) (x4 : Int32) (x5 : Int32) (x6 : Int32) (S : mM) (H : Heap) (locs : List Loc) (ls : Array Slot), ih31 x1 x2 x3 x4 x5 x6 S = some (r, S') → mW G s (wB M β 316 S) H locs → lv_has ls 9 [(0, .ref (gA G (β + 1))), (1, .int x1), (2, .int x2), (3, .int x3), (4, .int x4), (5, .int x5), (6, .int x6)] → W p l e { frames := 1, cells := 0, slots := 0, locals := 22 } s m args below meth c H locs 0 0 (mZ below G (some (.int r)) (wB M β 316 S') args s) (F0 m 31 ls [])), ∀ (x1 : Int32) (x2 : Int32) (x3 : Int32) (x4 : Int32) (x5 : Int32) (x6 : Int32) (x7 : Int32) (S : mM) (H : Heap) (locs : List Loc) (ls : Array Slot), pX1_number_b95 ih31 x1 x2 x3 x4 x5 x6 x7 S = some (r, S') → mW G s (wB M β 316 S) H locs → lv_has ls 9 [(0, .ref (gA G (β + 1))), (1, .int x1), (2, .int x2), (3, .int x3), (4, .int x4), (5, .int x5), (6, .int x6), (7, .int x7)] → W p l e { frames := 1, cells := 0, slots := 0, locals := 22 } s m args below meth c H locs 0 0 (mZ below G (some (.int r)) (wB M β 316 S') args s) (F0 m 95 ls [.ref (gA G (β + 1))]) := by
    intro ih31 hih31 x1 x2 x3 x4 x5 x6 x7 S H locs ls h hw hl
    unfold pX1_number_b95 at h
    refine lv_iconst (v := (nI 1)) hx hb dX1_number_95 (by decide) ?_
    refine lv_goto (tgt := 100) hx hb dX1_number_96 (by decide) ?_
    exact k100 ih31 hih31 x1 x2 x3 x4 x5 x6 x7 (nI 1) S _ _ _ h hw (lv_sub hl [0, 1, 2, 3, 4, 5, 6, 7] rfl)
  have k31 : ∀ (k : Nat), ∀ (x1 : Int32) (x2 : Int32) (x3 : Int32) (x4 : Int32) (x5 : Int32) (x6 : Int32) (S : mM) (H : Heap) (locs : List Loc) (ls : Array Slot), pX1_number_l31  k x1 x2 x3 x4 x5 x6 S = some (r, S') → mW G s (wB M β 316 S) H locs → lv_has ls 9 [(0, .ref (gA G (β + 1))), (1, .int x1), (2, .int x2), (3, .int x3), (4, .int x4), (5, .int x5), (6, .int x6)] → W p l e { frames := 1, cells := 0, slots := 0, locals := 22 } s m args below meth c H locs 0 0 (mZ below G (some (.int r)) (wB M β 316 S') args s) (F0 m 31 ls []) := by
    intro k
    induction k with
    | zero => intro x1 x2 x3 x4 x5 x6 S H locs ls h; cases h
    | succ k hih31 =>
      intro x1 x2 x3 x4 x5 x6 S H locs ls h hw hl
      obtain ⟨ih31, hk31⟩ : ∃ f, f = pX1_number_l31  k := ⟨_, rfl⟩
      replace h : pX1_number_lb31  (pX1_number_l31  k) x1 x2 x3 x4 x5 x6 S = some (r, S') := h
      rw [← hk31] at h hih31
      clear hk31
      unfold pX1_number_lb31 at h
      refine lv_iload hx hb dX1_number_31 (lv_at hl 6 rfl) ?_
      refine lv_iload_n hx hb dX1_number_33 rfl (lv_at hl 1 rfl) ?_
      refine bi_ge (tgt := 143) hx hb dX1_number_34 (by decide) h (fun h => ?_) (fun h => ?_)
      · refine lv_iload hx hb dX1_number_143 (lv_at hl 4 rfl) ?_
        exact e_iw hx hb hr hlocks hw dX1_number_145 h
      · refine lv_aload_n hx hb dX1_number_37 rfl (lv_at hl 0 rfl) ?_
        refine p_get hx hb hts hinX1 hown hE hw hn 1 (by decide) (congrFun hR.2.1 _) rfl 3 (by decide) (hts _ (wz_in qF_X1_26)) rfl dX1_number_38 h (fun v38 h => ?_)
        refine b_ne (tgt := 143) hx hb dX1_number_41 (by decide) h (fun h => ?_) (fun h => ?_)
        · refine lv_iload hx hb dX1_number_143 (lv_at hl 4 rfl) ?_
          exact e_iw hx hb hr hlocks hw dX1_number_145 h
        · refine lv_aload_n hx hb dX1_number_44 rfl (lv_at hl 0 rfl) ?_
          obtain ⟨v45, h45, h⟩ := cr1_some h
          refine r_callV (As := []) (rest := []) (st1 := [.int v45]) hx hb hml hown hts hE hw hl (mX1_signAt l G (by omega) hR h45) (cwV 0 hts (zV gV_X1_22) rfl rfl rfl kdX1_signAt ⟨Nat.le_of_ble_eq_true rfl, Nat.le_of_ble_eq_true rfl⟩) (by omega) (congrFun hR.2.1 _) rfl rfl rfl rfl (Nat.le_of_ble_eq_true rfl) dX1_number_45 ⟨Nat.zero_le _, Nat.zero_le _⟩ rfl (fun H locs hw => ?_)
          refine lv_bipush (v := (nI 48)) hx hb dX1_number_48 (by decide) ?_
          refine lv_isub hx hb dX1_number_50 ?_
          refine p_topi h (fun v51 h => ?_)
          refine lv_istore (lv' := [(7, .int v51), (0, .ref (gA G (β + 1))), (1, .int x1), (2, .int x2), (3, .int x3), (4, .int x4), (5, .int x5), (6, .int x6)]) hx hb dX1_number_51 hl (by decide) rfl (fun ls hl => ?_)
          refine lv_iload hx hb dX1_number_53 (lv_at hl 5 rfl) ?_
          refine lv_bipush (v := (nI 10)) hx hb dX1_number_55 (by decide) ?_
          refine lv_imul hx hb dX1_number_57 ?_
          refine lv_iload hx hb dX1_number_58 (lv_at hl 0 rfl) ?_
          refine lv_iadd hx hb dX1_number_60 ?_
          refine lv_iload hx hb dX1_number_61 (lv_at hl 6 rfl) ?_
          refine lv_imul hx hb dX1_number_63 ?_
          refine p_topi h (fun v64 h => ?_)
          refine lv_istore (lv' := [(8, .int v64), (7, .int v51), (0, .ref (gA G (β + 1))), (1, .int x1), (2, .int x2), (3, .int x3), (4, .int x4), (5, .int x5), (6, .int x6)]) hx hb dX1_number_64 hl (by decide) rfl (fun ls hl => ?_)
          refine lv_aload_n hx hb dX1_number_66 rfl (lv_at hl 2 rfl) ?_
          refine lv_iload hx hb dX1_number_67 (lv_at hl 1 rfl) ?_
          refine lv_iconst (v := (nI 0)) hx hb dX1_number_69 (by decide) ?_
          refine lv_bipush (v := (nI 9)) hx hb dX1_number_70 (by decide) ?_
          obtain ⟨v72, h72, h⟩ := cr1_some h
          refine r_callSN (host := RX6) (As := [.int v51, .int (nI 0), .int (nI 9)]) (rest := [.ref (gA G (β + 1))]) (st1 := [.int v72, .ref (gA G (β + 1))]) hx hb hml hown hts hE hw hl (mX6_isWithin l G (M := (wB M β 316 S)) h72) ⟨va_cnB 3 hts (zN qC_X6_isWithin) rfl rfl rfl hE.2.2.2.1.1 (hts _ (wz_in qN_X6)) kdX6_isWithin ⟨Nat.le_of_ble_eq_true rfl, Nat.le_of_ble_eq_true rfl⟩, hts _ (wz_in qT_X6_isWithin), trivial⟩ rfl rfl (Nat.le_of_ble_eq_true rfl) dX1_number_72 ⟨Nat.zero_le _, Nat.zero_le _⟩ rfl (fun H locs hw => ?_)
          refine b_eq (tgt := 95) hx hb dX1_number_75 (by decide) h (fun h => ?_) (fun h => ?_)
          · exact k95 ih31 hih31 x1 x2 x3 x4 x5 x6 v51 S _ _ _ h hw (lv_sub hl [2, 3, 4, 5, 6, 7, 8, 1] rfl)
          · refine lv_iload hx hb dX1_number_78 (lv_at hl 0 rfl) ?_
            refine lv_iload_n hx hb dX1_number_80 rfl (lv_at hl 5 rfl) ?_
            refine bi_gt (tgt := 95) hx hb dX1_number_81 (by decide) h (fun h => ?_) (fun h => ?_)
            · exact k95 ih31 hih31 x1 x2 x3 x4 x5 x6 v51 S _ _ _ h hw (lv_sub hl [2, 3, 4, 5, 6, 7, 8, 1] rfl)
            · refine lv_iload hx hb dX1_number_84 (lv_at hl 0 rfl) ?_
              refine lv_iload hx hb dX1_number_86 (lv_at hl 7 rfl) ?_
              refine lv_iadd hx hb dX1_number_88 ?_
              refine lv_iconst (v := (nI 1)) hx hb dX1_number_89 (by decide) ?_
              refine lv_isub hx hb dX1_number_90 ?_
              refine lv_iload_n hx hb dX1_number_91 rfl (lv_at hl 4 rfl) ?_
              refine bi_ge (tgt := 99) hx hb dX1_number_92 (by decide) h (fun h => ?_) (fun h => ?_)
              · refine lv_iconst (v := (nI 0)) hx hb dX1_number_99 (by decide) ?_
                exact k100 ih31 hih31 x1 x2 x3 x4 x5 x6 v51 (nI 0) S _ _ _ h hw (lv_sub hl [2, 3, 4, 5, 6, 7, 8, 1] rfl)
              · exact k95 ih31 hih31 x1 x2 x3 x4 x5 x6 v51 S _ _ _ h hw (lv_sub hl [2, 3, 4, 5, 6, 7, 8, 1] rfl)
  have k9 : ∀ (k : Nat), ∀ (x1 : Int32) (x2 : Int32) (x3 : Int32) (x4 : Int32) (x5 : Int32) (x6 : Int32) (S : mM) (H : Heap) (locs : List Loc) (ls : Array Slot), pX1_number_l9  k x1 x2 x3 x4 x5 x6 S = some (r, S') → mW G s (wB M β 316 S) H locs → lv_has ls 9 [(0, .ref (gA G (β + 1))), (1, .int x1), (2, .int x2), (3, .int x3), (4, .int x4), (5, .int x5), (6, .int x6)] → W p l e { frames := 1, cells := 0, slots := 0, locals := 22 } s m args below meth c H locs 0 0 (mZ below G (some (.int r)) (wB M β 316 S') args s) (F0 m 9 ls []) := by
    intro k
    induction k with
    | zero => intro x1 x2 x3 x4 x5 x6 S H locs ls h; cases h
    | succ k hih9 =>
      intro x1 x2 x3 x4 x5 x6 S H locs ls h hw hl
      obtain ⟨ih9, hk9⟩ : ∃ f, f = pX1_number_l9  k := ⟨_, rfl⟩
      replace h : pX1_number_lb9  (pX1_number_l9  k) x1 x2 x3 x4 x5 x6 S = some (r, S') := h
      rw [← hk9] at h hih9
      clear hk9
      unfold pX1_number_lb9 at h
      refine lv_iload hx hb dX1_number_9 (lv_at hl 6 rfl) ?_
      refine lv_iload_n hx hb dX1_number_11 rfl (lv_at hl 1 rfl) ?_
      refine bi_ge (tgt := 28) hx hb dX1_number_12 (by decide) h (fun h => ?_) (fun h => ?_)
      · refine lv_iconst (v := (nI 0)) hx hb dX1_number_28 (by decide) ?_
        refine lv_istore (lv' := [(6, .int (nI 0)), (0, .ref (gA G (β + 1))), (1, .int x1), (2, .int x2), (3, .int x3), (4, .int x4), (5, .int x5)]) hx hb dX1_number_29 hl (by decide) rfl (fun ls hl => ?_)
        exact k31 fuel x1 x2 x3 x4 x5 (nI 0) S _ _ _ h hw (lv_sub hl [1, 2, 3, 4, 5, 6, 0] rfl)
      · refine lv_iload hx hb dX1_number_15 (lv_at hl 5 rfl) ?_
        refine lv_bipush (v := (nI 10)) hx hb dX1_number_17 (by decide) ?_
        refine lv_imul hx hb dX1_number_19 ?_
        refine p_topi h (fun v20 h => ?_)
        refine lv_istore (lv' := [(5, .int v20), (0, .ref (gA G (β + 1))), (1, .int x1), (2, .int x2), (3, .int x3), (4, .int x4), (6, .int x6)]) hx hb dX1_number_20 hl (by decide) rfl (fun ls hl => ?_)
        refine p_iinc (w := (nI 1)) 6 (fun v22 => [(6, .int v22), (5, .int v20), (0, .ref (gA G (β + 1))), (1, .int x1), (2, .int x2), (3, .int x3), (4, .int x4)]) hx hb dX1_number_22 hl rfl (by decide) (by decide) h (fun _ => rfl) (fun v22 h ls hl => ?_)
        refine lv_goto (tgt := 9) hx hb dX1_number_25 (by decide) ?_
        exact hih9 x1 x2 x3 x4 v20 v22 S _ _ _ h hw (lv_sub hl [2, 3, 4, 5, 6, 1, 0] rfl)
  unfold pX1_number at h
  refine lv_iconst (v := (nI 0)) hx hb dX1_number_0 (by decide) ?_
  refine lv_istore (lv' := [(4, .int (nI 0)), (0, .ref (gA G (β + 1))), (1, .int a1), (2, .int a2), (3, .int a3)]) hx hb dX1_number_1 hl (by decide) rfl (fun ls hl => ?_)
  refine lv_iconst (v := (nI 1)) hx hb dX1_number_3 (by decide) ?_
  refine lv_istore (lv' := [(5, .int (nI 1)), (4, .int (nI 0)), (0, .ref (gA G (β + 1))), (1, .int a1), (2, .int a2), (3, .int a3)]) hx hb dX1_number_4 hl (by decide) rfl (fun ls hl => ?_)
  refine lv_iconst (v := (nI 1)) hx hb dX1_number_6 (by decide) ?_
  refine lv_istore (lv' := [(6, .int (nI 1)), (5, .int (nI 1)), (4, .int (nI 0)), (0, .ref (gA G (β + 1))), (1, .int a1), (2, .int a2), (3, .int a3)]) hx hb dX1_number_7 hl (by decide) rfl (fun ls hl => ?_)
  exact k9 fuel a1 a2 a3 (nI 0) (nI 1) (nI 1) S _ _ _ h hw (lv_sub hl [3, 4, 5, 6, 2, 1, 0] rfl)

set_option maxHeartbeats 4000000 in
set_option maxRecDepth 100000 in
theorem mX1_isAllowed (l : Launch) (G : mG) {β : Nat} {M S : mM} {a1 : Int32} {r : Int32} (hn : β + 316 ≤ gN G) (hR : isWR G β) (h : pX1_isAllowed a1 S = some r) : MC l G yX1_isAllowed zzX1_isAllowed 2 42 [.ref (gA G (β + 1)), .int a1, .ref (gA G (β + 20))] (wB M β 316 S) (wB M β 316 S) (some (.int r)) := by
  refine mc_of (cc := cX1_isAllowed) (maxL := 3) (ret := (some .boolean)) (by decide) rfl (Nat.le_of_ble_eq_true rfl) ?_
  intro p e s m args below meth c H ls hx hb hr hts hown hml hlocks hE hw hl
  have hl : lv_has ls 3 [(0, .ref (gA G (β + 1))), (1, .int a1), (2, .ref (gA G (β + 20)))] := hl
  have hinX4 : ∀ w ∈ wsX40, w ∈ zzX1_isAllowed := fun w h9 => wz_in (zinX4 w h9)
  unfold pX1_isAllowed at h
  refine lv_iload_n hx hb dX1_isAllowed_0 rfl (lv_at hl 1 rfl) ?_
  refine sw_if h (fun hc98 h => ?_) (fun hc98 h => ?_)
  · rw [hc98]
    refine lv_lookup (off := 67) (tgt := 68) hx hb dX1_isAllowed_1 (by decide) (by decide +kernel) (by decide) ?_
    refine lv_aload_n hx hb dX1_isAllowed_68 rfl (lv_at hl 2 rfl) ?_
    refine r_get (v := .ref (gA G (β + 23))) hx hb hts hinX4 hown hE hw hn 20 (by decide) (congrFun hR.2.2.2.2.1.1 _) rfl 1 (by decide) (hts _ (wz_in qF_X1_73)) rfl dX1_isAllowed_69 ?_
    obtain ⟨v72, h72, h⟩ := cr1_some h
    refine r_callV (As := []) (rest := []) (st1 := [.int v72]) hx hb hml hown hts hE hw hl (mc_subR 23 2 (by decide) (mX5_isFull l G (by show β + 23 + 2 ≤ _; omega) hR.2.2.2.2.1.2.2.1 h72)) (cwV 0 hts (zV gV_X1_67) rfl rfl rfl kdX5_isFull ⟨Nat.le_of_ble_eq_true rfl, Nat.le_of_ble_eq_true rfl⟩) (by omega) (congrFun hR.2.2.2.2.1.2.2.1.1 _) rfl rfl rfl rfl (Nat.le_of_ble_eq_true rfl) dX1_isAllowed_72 ⟨Nat.zero_le _, Nat.zero_le _⟩ rfl (fun H locs hw => ?_)
    refine b_ne (tgt := 82) hx hb dX1_isAllowed_75 (by decide) h (fun h => ?_) (fun h => ?_)
    · refine lv_iconst (v := (nI 0)) hx hb dX1_isAllowed_82 (by decide) ?_
      exact e_z hx hb hr hlocks hw dX1_isAllowed_83 h
    · refine lv_iconst (v := (nI 1)) hx hb dX1_isAllowed_78 (by decide) ?_
      refine lv_goto (tgt := 83) hx hb dX1_isAllowed_79 (by decide) ?_
      exact e_z hx hb hr hlocks hw dX1_isAllowed_83 h
  refine sw_if h (fun hc99 h => ?_) (fun hc99 h => ?_)
  · rw [hc99]
    refine lv_lookup (off := 99) (tgt := 100) hx hb dX1_isAllowed_1 (by decide) (by decide +kernel) (by decide) ?_
    refine lv_aload_n hx hb dX1_isAllowed_100 rfl (lv_at hl 2 rfl) ?_
    refine r_get (v := .ref (gA G (β + 27))) hx hb hts hinX4 hown hE hw hn 20 (by decide) (congrFun hR.2.2.2.2.1.1 _) rfl 3 (by decide) (hts _ (wz_in qF_X1_79)) rfl dX1_isAllowed_101 ?_
    obtain ⟨v104, h104, h⟩ := cr1_some h
    refine r_callV (As := []) (rest := []) (st1 := [.int v104]) hx hb hml hown hts hE hw hl (mc_subR 27 2 (by decide) (mX5_isFull l G (by show β + 27 + 2 ≤ _; omega) hR.2.2.2.2.1.2.2.2.2.1 h104)) (cwV 0 hts (zV gV_X1_67) rfl rfl rfl kdX5_isFull ⟨Nat.le_of_ble_eq_true rfl, Nat.le_of_ble_eq_true rfl⟩) (by omega) (congrFun hR.2.2.2.2.1.2.2.2.2.1.1 _) rfl rfl rfl rfl (Nat.le_of_ble_eq_true rfl) dX1_isAllowed_104 ⟨Nat.zero_le _, Nat.zero_le _⟩ rfl (fun H locs hw => ?_)
    refine b_ne (tgt := 114) hx hb dX1_isAllowed_107 (by decide) h (fun h => ?_) (fun h => ?_)
    · refine lv_iconst (v := (nI 0)) hx hb dX1_isAllowed_114 (by decide) ?_
      exact e_z hx hb hr hlocks hw dX1_isAllowed_115 h
    · refine lv_iconst (v := (nI 1)) hx hb dX1_isAllowed_110 (by decide) ?_
      refine lv_goto (tgt := 115) hx hb dX1_isAllowed_111 (by decide) ?_
      exact e_z hx hb hr hlocks hw dX1_isAllowed_115 h
  refine sw_if h (fun hc100 h => ?_) (fun hc100 h => ?_)
  · rw [hc100]
    refine lv_lookup (off := 83) (tgt := 84) hx hb dX1_isAllowed_1 (by decide) (by decide +kernel) (by decide) ?_
    refine lv_aload_n hx hb dX1_isAllowed_84 rfl (lv_at hl 2 rfl) ?_
    refine r_get (v := .ref (gA G (β + 25))) hx hb hts hinX4 hown hE hw hn 20 (by decide) (congrFun hR.2.2.2.2.1.1 _) rfl 2 (by decide) (hts _ (wz_in qF_X1_76)) rfl dX1_isAllowed_85 ?_
    obtain ⟨v88, h88, h⟩ := cr1_some h
    refine r_callV (As := []) (rest := []) (st1 := [.int v88]) hx hb hml hown hts hE hw hl (mc_subR 25 2 (by decide) (mX5_isFull l G (by show β + 25 + 2 ≤ _; omega) hR.2.2.2.2.1.2.2.2.1 h88)) (cwV 0 hts (zV gV_X1_67) rfl rfl rfl kdX5_isFull ⟨Nat.le_of_ble_eq_true rfl, Nat.le_of_ble_eq_true rfl⟩) (by omega) (congrFun hR.2.2.2.2.1.2.2.2.1.1 _) rfl rfl rfl rfl (Nat.le_of_ble_eq_true rfl) dX1_isAllowed_88 ⟨Nat.zero_le _, Nat.zero_le _⟩ rfl (fun H locs hw => ?_)
    refine b_ne (tgt := 98) hx hb dX1_isAllowed_91 (by decide) h (fun h => ?_) (fun h => ?_)
    · refine lv_iconst (v := (nI 0)) hx hb dX1_isAllowed_98 (by decide) ?_
      exact e_z hx hb hr hlocks hw dX1_isAllowed_99 h
    · refine lv_iconst (v := (nI 1)) hx hb dX1_isAllowed_94 (by decide) ?_
      refine lv_goto (tgt := 99) hx hb dX1_isAllowed_95 (by decide) ?_
      exact e_z hx hb hr hlocks hw dX1_isAllowed_99 h
  refine sw_if h (fun hc103 h => ?_) (fun hc103 h => ?_)
  · rw [hc103]
    refine lv_lookup (off := 51) (tgt := 52) hx hb dX1_isAllowed_1 (by decide) (by decide +kernel) (by decide) ?_
    refine lv_aload_n hx hb dX1_isAllowed_52 rfl (lv_at hl 2 rfl) ?_
    refine r_get (v := .ref (gA G (β + 21))) hx hb hts hinX4 hown hE hw hn 20 (by decide) (congrFun hR.2.2.2.2.1.1 _) rfl 0 (by decide) (hts _ (wz_in qF_X1_63)) rfl dX1_isAllowed_53 ?_
    obtain ⟨v56, h56, h⟩ := cr1_some h
    refine r_callV (As := []) (rest := []) (st1 := [.int v56]) hx hb hml hown hts hE hw hl (mc_subR 21 2 (by decide) (mX5_isFull l G (by show β + 21 + 2 ≤ _; omega) hR.2.2.2.2.1.2.1 h56)) (cwV 0 hts (zV gV_X1_67) rfl rfl rfl kdX5_isFull ⟨Nat.le_of_ble_eq_true rfl, Nat.le_of_ble_eq_true rfl⟩) (by omega) (congrFun hR.2.2.2.2.1.2.1.1 _) rfl rfl rfl rfl (Nat.le_of_ble_eq_true rfl) dX1_isAllowed_56 ⟨Nat.zero_le _, Nat.zero_le _⟩ rfl (fun H locs hw => ?_)
    refine b_ne (tgt := 66) hx hb dX1_isAllowed_59 (by decide) h (fun h => ?_) (fun h => ?_)
    · refine lv_iconst (v := (nI 0)) hx hb dX1_isAllowed_66 (by decide) ?_
      exact e_z hx hb hr hlocks hw dX1_isAllowed_67 h
    · refine lv_iconst (v := (nI 1)) hx hb dX1_isAllowed_62 (by decide) ?_
      refine lv_goto (tgt := 67) hx hb dX1_isAllowed_63 (by decide) ?_
      exact e_z hx hb hr hlocks hw dX1_isAllowed_67 h
  refine sw_if h (fun hc118 h => ?_) (fun hc118 h => ?_)
  · rw [hc118]
    refine lv_lookup (off := 115) (tgt := 116) hx hb dX1_isAllowed_1 (by decide) (by decide +kernel) (by decide) ?_
    refine lv_aload_n hx hb dX1_isAllowed_116 rfl (lv_at hl 2 rfl) ?_
    refine lv_aload_n hx hb dX1_isAllowed_117 rfl (lv_at hl 2 rfl) ?_
    refine r_get (v := .ref (gA G (β + 27))) hx hb hts hinX4 hown hE hw hn 20 (by decide) (congrFun hR.2.2.2.2.1.1 _) rfl 3 (by decide) (hts _ (wz_in qF_X1_79)) rfl dX1_isAllowed_118 ?_
    obtain ⟨v121, h121, h⟩ := cr1_some h
    refine r_callV (As := []) (rest := [.ref (gA G (β + 20))]) (st1 := [.int v121, .ref (gA G (β + 20))]) hx hb hml hown hts hE hw hl (mc_subR 27 2 (by decide) (mX5_count l G (by show β + 27 + 2 ≤ _; omega) hR.2.2.2.2.1.2.2.2.2.1 h121)) (cwV 0 hts (zV gV_X1_82) rfl rfl rfl kdX5_count ⟨Nat.le_of_ble_eq_true rfl, Nat.le_of_ble_eq_true rfl⟩) (by omega) (congrFun hR.2.2.2.2.1.2.2.2.2.1.1 _) rfl rfl rfl rfl (Nat.le_of_ble_eq_true rfl) dX1_isAllowed_121 ⟨Nat.zero_le _, Nat.zero_le _⟩ rfl (fun H locs hw => ?_)
    refine lv_iconst (v := (nI 1)) hx hb dX1_isAllowed_124 (by decide) ?_
    refine lv_isub hx hb dX1_isAllowed_125 ?_
    obtain ⟨v126, h126, h⟩ := cr1_some h
    refine r_callV (As := [.int (v121 - (nI 1))]) (rest := []) (st1 := [.int v126]) hx hb hml hown hts hE hw hl (mc_subR 20 17 (by decide) (mX4_hasRoomForVehicle l G (by show β + 20 + 17 ≤ _; omega) hR.2.2.2.2.1 h126)) (cwV 1 hts (zV gV_X1_85) rfl rfl rfl kdX4_hasRoomForVehicle ⟨Nat.le_of_ble_eq_true rfl, Nat.le_of_ble_eq_true rfl⟩) (by omega) (congrFun hR.2.2.2.2.1.1 _) rfl rfl rfl rfl (Nat.le_of_ble_eq_true rfl) dX1_isAllowed_126 ⟨Nat.zero_le _, Nat.zero_le _⟩ rfl (fun H locs hw => ?_)
    exact e_z hx hb hr hlocks hw dX1_isAllowed_129 h
  · refine lv_lookup (off := 129) (tgt := 130) hx hb dX1_isAllowed_1 (by decide) (by rw [lv_osw hc98 (by decide)]; rw [lv_osw hc99 (by decide)]; rw [lv_osw hc100 (by decide)]; rw [lv_osw hc103 (by decide)]; rw [lv_osw hc118 (by decide)]; rfl) (by decide) ?_
    refine lv_iconst (v := (nI 0)) hx hb dX1_isAllowed_130 (by decide) ?_
    exact e_z hx hb hr hlocks hw dX1_isAllowed_131 h

set_option maxHeartbeats 4000000 in
set_option maxRecDepth 100000 in
theorem mX1_kilometer (l : Launch) (G : mG) {β : Nat} {M S S' : mM} {b1 : Nat} {n : Nat} {a2 : Int32} {a3 : Int32} {r : Int32} (hn : β + 316 ≤ gN G) (hR : isWR G β) (h1 : b1 + 2 ≤ 316) (hs1 : isTab G (β + b1) n) (h : pX1_kilometer b1 n a2 a3 S = some (r, S')) : MC l G yX1_kilometer zzX1_kilometer 2 50 [.ref (gA G (β + 1)), .ref (gA G (β + b1)), .int a2, .int a3] (wB M β 316 S) (wB M β 316 S') (some (.int r)) := by
  refine mc_of (cc := cX1_kilometer) (maxL := 5) (ret := (some .int)) (by decide) rfl (Nat.le_of_ble_eq_true rfl) ?_
  intro p e s m args below meth c H ls hx hb hr hts hown hml hlocks hE hw hl
  have hl : lv_has ls 5 [(0, .ref (gA G (β + 1))), (1, .ref (gA G (β + b1))), (2, .int a2), (3, .int a3)] := hl
  have hinX1 : ∀ w ∈ wsX10, w ∈ zzX1_kilometer := fun w h9 => wz_in (zinX1 w h9)
  unfold pX1_kilometer at h
  refine lv_aload_n hx hb dX1_kilometer_0 rfl (lv_at hl 0 rfl) ?_
  refine lv_iconst (v := (nI 2)) hx hb dX1_kilometer_1 (by decide) ?_
  refine lv_iload_n hx hb dX1_kilometer_2 rfl (lv_at hl 2 rfl) ?_
  refine lv_iload_n hx hb dX1_kilometer_3 rfl (lv_at hl 3 rfl) ?_
  obtain ⟨v4, S4, h4, h⟩ := cw2_some h
  refine r_callV (As := [.int (nI 2), .int a2, .int a3]) (rest := []) (st1 := [.int v4]) hx hb hml hown hts hE hw hl (mX1_number l G (by omega) hR h4) (cwV 3 hts (zV gV_X1_30) rfl rfl rfl kdX1_number ⟨Nat.le_of_ble_eq_true rfl, Nat.le_of_ble_eq_true rfl⟩) (by omega) (congrFun hR.2.1 _) rfl rfl rfl rfl (Nat.le_of_ble_eq_true rfl) dX1_kilometer_4 ⟨Nat.zero_le _, Nat.zero_le _⟩ rfl (fun H locs hw => ?_)
  refine lv_istore (lv' := [(4, .int v4), (0, .ref (gA G (β + 1))), (1, .ref (gA G (β + b1))), (2, .int a2), (3, .int a3)]) hx hb dX1_kilometer_7 hl (by decide) rfl (fun ls hl => ?_)
  refine lv_aload_n hx hb dX1_kilometer_9 rfl (lv_at hl 1 rfl) ?_
  refine p_get hx hb hts hinX1 hown hE hw hn 1 (by decide) (congrFun hR.2.1 _) rfl 3 (by decide) (hts _ (wz_in qF_X1_26)) rfl dX1_kilometer_10 h (fun v10 h => ?_)
  refine b_ne (tgt := 42) hx hb dX1_kilometer_13 (by decide) h (fun h => ?_) (fun h => ?_)
  · refine lv_iload hx hb dX1_kilometer_42 (lv_at hl 0 rfl) ?_
    exact e_iw hx hb hr hlocks hw dX1_kilometer_44 h
  · refine lv_aload_n hx hb dX1_kilometer_16 rfl (lv_at hl 2 rfl) ?_
    refine lv_iload hx hb dX1_kilometer_17 (lv_at hl 0 rfl) ?_
    obtain ⟨v19, h19, h⟩ := cr1_some h
    refine r_callV (As := [.int v4]) (rest := []) (st1 := [.int v19]) hx hb hml hown hts hE hw hl (mc_subR b1 2 (by omega) (mX5_rowAt l G (by show β + b1 + 2 ≤ _; omega) hs1 h19)) (cwV 1 hts (zV gV_X1_110) rfl rfl rfl kdX5_rowAt ⟨Nat.le_of_ble_eq_true rfl, Nat.le_of_ble_eq_true rfl⟩) (by omega) (congrFun hs1.1 _) rfl rfl rfl rfl (Nat.le_of_ble_eq_true rfl) dX1_kilometer_19 ⟨Nat.zero_le _, Nat.zero_le _⟩ rfl (fun H locs hw => ?_)
    refine lv_bipush (v := (-9)) hx hb dX1_kilometer_22 (by decide) ?_
    refine bi_eq (tgt := 42) hx hb dX1_kilometer_24 (by decide) h (fun h => ?_) (fun h => ?_)
    · refine lv_iload hx hb dX1_kilometer_42 (lv_at hl 0 rfl) ?_
      exact e_iw hx hb hr hlocks hw dX1_kilometer_44 h
    · refine lv_aload_n hx hb dX1_kilometer_27 rfl (lv_at hl 1 rfl) ?_
      refine lv_iconst (v := (nI 1)) hx hb dX1_kilometer_28 (by decide) ?_
      refine p_putz hx hb hts hinX1 tyX1 tyX1_ok nmX1 hown hE hw hn 1 (by decide) (congrFun hR.2.1 _) rfl 3 (by decide) (hts _ (wz_in qF_X1_26)) rfl (by decide +kernel) (Nat.le_of_ble_eq_true rfl) (congrFun hR.2.1 _) dX1_kilometer_29 h (fun S29 h H locs hw => ?_)
      refine lv_aload_n hx hb dX1_kilometer_32 rfl (lv_at hl 1 rfl) ?_
      refine lv_dup hx hb dX1_kilometer_33 rfl ?_
      refine p_get hx hb hts hinX1 hown hE hw hn 1 (by decide) (congrFun hR.2.1 _) rfl 2 (by decide) (hts _ (wz_in qF_X1_19)) rfl dX1_kilometer_34 h (fun v34 h => ?_)
      refine lv_iconst (v := (nI 1)) hx hb dX1_kilometer_37 (by decide) ?_
      refine lv_isub hx hb dX1_kilometer_38 ?_
      refine p_put hx hb hts hinX1 tyX1 tyX1_ok nmX1 hown hE hw hn 1 (by decide) (congrFun hR.2.1 _) rfl 2 (by decide) (hts _ (wz_in qF_X1_19)) rfl (by decide +kernel) (Nat.le_of_ble_eq_true rfl) (congrFun hR.2.1 _) dX1_kilometer_39 h (fun S39 h H locs hw => ?_)
      refine lv_iload hx hb dX1_kilometer_42 (lv_at hl 0 rfl) ?_
      exact e_iw hx hb hr hlocks hw dX1_kilometer_44 h

set_option maxHeartbeats 4000000 in
set_option maxRecDepth 100000 in
theorem mX1_readBay (l : Launch) (G : mG) {β : Nat} {M S S' : mM} (hn : β + 316 ≤ gN G) (hR : isWR G β) (h : pX1_readBay S = some S') : MC l G yX1_readBay zzX1_readBay 3 74 [.ref (gA G (β + 1)), .ref (gA G (β + 20))] (wB M β 316 S) (wB M β 316 S') none := by
  refine mc_of (cc := cX1_readBay) (maxL := 4) (ret := none) (by decide) rfl (Nat.le_of_ble_eq_true rfl) ?_
  intro p e s m args below meth c H ls hx hb hr hts hown hml hlocks hE hw hl
  have hl : lv_has ls 4 [(0, .ref (gA G (β + 1))), (1, .ref (gA G (β + 20)))] := hl
  have hinX1 : ∀ w ∈ wsX10, w ∈ zzX1_readBay := fun w h9 => wz_in (zinX1 w h9)
  have hinX4 : ∀ w ∈ wsX40, w ∈ zzX1_readBay := fun w h9 => wz_in (zinX4 w h9)
  unfold pX1_readBay at h
  refine lv_aload_n hx hb dX1_readBay_0 rfl (lv_at hl 0 rfl) ?_
  refine lv_aload_n hx hb dX1_readBay_1 rfl (lv_at hl 1 rfl) ?_
  refine r_get (v := .ref (gA G (β + 23))) hx hb hts hinX4 hown hE hw hn 20 (by decide) (congrFun hR.2.2.2.2.1.1 _) rfl 1 (by decide) (hts _ (wz_in qF_X1_73)) rfl dX1_readBay_2 ?_
  refine lv_iconst (v := (nI 1)) hx hb dX1_readBay_5 (by decide) ?_
  refine lv_aload_n hx hb dX1_readBay_6 rfl (lv_at hl 1 rfl) ?_
  obtain ⟨v7, h7, h⟩ := cr1_some h
  refine r_callV (As := []) (rest := [.int (nI 1), .ref (gA G (β + 23)), .ref (gA G (β + 1))]) (st1 := [.int v7, .int (nI 1), .ref (gA G (β + 23)), .ref (gA G (β + 1))]) hx hb hml hown hts hE hw hl (mc_subR 20 17 (by decide) (mX4_length l G (by show β + 20 + 17 ≤ _; omega) hR.2.2.2.2.1 h7)) (cwV 0 hts (zV gV_X1_89) rfl rfl rfl kdX4_length ⟨Nat.le_of_ble_eq_true rfl, Nat.le_of_ble_eq_true rfl⟩) (by omega) (congrFun hR.2.2.2.2.1.1 _) rfl rfl rfl rfl (Nat.le_of_ble_eq_true rfl) dX1_readBay_7 ⟨Nat.zero_le _, Nat.zero_le _⟩ rfl (fun H locs hw => ?_)
  refine lv_iconst (v := (nI 1)) hx hb dX1_readBay_10 (by decide) ?_
  refine lv_isub hx hb dX1_readBay_11 ?_
  obtain ⟨v12, S12, h12, h⟩ := cw2_some h
  refine r_callV (As := [.ref (gA G (β + 23)), .int (nI 1), .int (v7 - (nI 1))]) (rest := []) (st1 := [.int v12]) hx hb hml hown hts hE hw hl (mX1_kilometer l G (by omega) hR (by decide) hR.2.2.2.2.1.2.2.1 h12) (cwV 3 hts (zV gV_X1_91) rfl rfl rfl kdX1_kilometer ⟨Nat.le_of_ble_eq_true rfl, Nat.le_of_ble_eq_true rfl⟩) (by omega) (congrFun hR.2.1 _) rfl rfl rfl rfl (Nat.le_of_ble_eq_true rfl) dX1_readBay_12 ⟨Nat.zero_le _, Nat.zero_le _⟩ rfl (fun H locs hw => ?_)
  refine lv_istore_n (lv' := [(2, .int v12), (0, .ref (gA G (β + 1))), (1, .ref (gA G (β + 20)))]) hx hb dX1_readBay_15 rfl hl (by decide) rfl (fun ls hl => ?_)
  refine lv_aload_n hx hb dX1_readBay_16 rfl (lv_at hl 1 rfl) ?_
  refine lv_iconst (v := (nI 1)) hx hb dX1_readBay_17 (by decide) ?_
  refine lv_iconst (v := (nI 1)) hx hb dX1_readBay_18 (by decide) ?_
  refine lv_bipush (v := (nI 6)) hx hb dX1_readBay_19 (by decide) ?_
  obtain ⟨v21, S21, h21, h⟩ := cw2_some h
  refine r_callV (As := [.int (nI 1), .int (nI 1), .int (nI 6)]) (rest := []) (st1 := [.int v21]) hx hb hml hown hts hE hw hl (mX1_number l G (by omega) hR h21) (cwV 3 hts (zV gV_X1_30) rfl rfl rfl kdX1_number ⟨Nat.le_of_ble_eq_true rfl, Nat.le_of_ble_eq_true rfl⟩) (by omega) (congrFun hR.2.1 _) rfl rfl rfl rfl (Nat.le_of_ble_eq_true rfl) dX1_readBay_21 ⟨Nat.zero_le _, Nat.zero_le _⟩ rfl (fun H locs hw => ?_)
  refine lv_istore_n (lv' := [(3, .int v21), (2, .int v12), (0, .ref (gA G (β + 1))), (1, .ref (gA G (β + 20)))]) hx hb dX1_readBay_24 rfl hl (by decide) rfl (fun ls hl => ?_)
  refine lv_aload_n hx hb dX1_readBay_25 rfl (lv_at hl 2 rfl) ?_
  refine p_get hx hb hts hinX1 hown hE hw hn 1 (by decide) (congrFun hR.2.1 _) rfl 3 (by decide) (hts _ (wz_in qF_X1_26)) rfl dX1_readBay_26 h (fun v26 h => ?_)
  refine b_ne (tgt := 39) hx hb dX1_readBay_29 (by decide) h (fun h => ?_) (fun h => ?_)
  · exact e_vw hx hb hr hlocks hw dX1_readBay_39 h
  · refine lv_aload_n hx hb dX1_readBay_32 rfl (lv_at hl 3 rfl) ?_
    refine lv_iload_n hx hb dX1_readBay_33 rfl (lv_at hl 1 rfl) ?_
    refine lv_iload_n hx hb dX1_readBay_34 rfl (lv_at hl 0 rfl) ?_
    obtain ⟨v35, T35, h35, h⟩ := cws_some h
    refine r_callV (As := [.int v12, .int v21]) (rest := []) (st1 := [.int v35]) hx hb hml hown hts hE hw hl (mc_sub 20 17 (by decide) (mX4_newBay l G (by show β + 20 + 17 ≤ _; omega) hR.2.2.2.2.1 h35)) (cwV 2 hts (zV gV_X1_99) rfl rfl rfl kdX4_newBay ⟨Nat.le_of_ble_eq_true rfl, Nat.le_of_ble_eq_true rfl⟩) (by omega) (congrFun hR.2.2.2.2.1.1 _) rfl rfl rfl rfl (Nat.le_of_ble_eq_true rfl) dX1_readBay_35 ⟨Nat.zero_le _, Nat.zero_le _⟩ rfl (fun H locs hw => ?_)
    generalize wB S21 20 17 T35 = S35 at h hw
    refine lv_pop hx hb dX1_readBay_38 rfl ?_
    exact e_vw hx hb hr hlocks hw dX1_readBay_39 h

set_option maxHeartbeats 4000000 in
set_option maxRecDepth 100000 in
theorem mX1_readDepot (l : Launch) (G : mG) {β : Nat} {M S S' : mM} (hn : β + 316 ≤ gN G) (hR : isWR G β) (h : pX1_readDepot S = some S') : MC l G yX1_readDepot zzX1_readDepot 3 74 [.ref (gA G (β + 1)), .ref (gA G (β + 20))] (wB M β 316 S) (wB M β 316 S') none := by
  refine mc_of (cc := cX1_readDepot) (maxL := 4) (ret := none) (by decide) rfl (Nat.le_of_ble_eq_true rfl) ?_
  intro p e s m args below meth c H ls hx hb hr hts hown hml hlocks hE hw hl
  have hl : lv_has ls 4 [(0, .ref (gA G (β + 1))), (1, .ref (gA G (β + 20)))] := hl
  have hinX1 : ∀ w ∈ wsX10, w ∈ zzX1_readDepot := fun w h9 => wz_in (zinX1 w h9)
  have hinX4 : ∀ w ∈ wsX40, w ∈ zzX1_readDepot := fun w h9 => wz_in (zinX4 w h9)
  unfold pX1_readDepot at h
  refine lv_aload_n hx hb dX1_readDepot_0 rfl (lv_at hl 0 rfl) ?_
  refine lv_aload_n hx hb dX1_readDepot_1 rfl (lv_at hl 1 rfl) ?_
  refine r_get (v := .ref (gA G (β + 25))) hx hb hts hinX4 hown hE hw hn 20 (by decide) (congrFun hR.2.2.2.2.1.1 _) rfl 2 (by decide) (hts _ (wz_in qF_X1_76)) rfl dX1_readDepot_2 ?_
  refine lv_iconst (v := (nI 0)) hx hb dX1_readDepot_5 (by decide) ?_
  refine lv_aload_n hx hb dX1_readDepot_6 rfl (lv_at hl 1 rfl) ?_
  obtain ⟨v7, h7, h⟩ := cr1_some h
  refine r_callV (As := []) (rest := [.int (nI 0), .ref (gA G (β + 25)), .ref (gA G (β + 1))]) (st1 := [.int v7, .int (nI 0), .ref (gA G (β + 25)), .ref (gA G (β + 1))]) hx hb hml hown hts hE hw hl (mc_subR 20 17 (by decide) (mX4_length l G (by show β + 20 + 17 ≤ _; omega) hR.2.2.2.2.1 h7)) (cwV 0 hts (zV gV_X1_89) rfl rfl rfl kdX4_length ⟨Nat.le_of_ble_eq_true rfl, Nat.le_of_ble_eq_true rfl⟩) (by omega) (congrFun hR.2.2.2.2.1.1 _) rfl rfl rfl rfl (Nat.le_of_ble_eq_true rfl) dX1_readDepot_7 ⟨Nat.zero_le _, Nat.zero_le _⟩ rfl (fun H locs hw => ?_)
  obtain ⟨v10, S10, h10, h⟩ := cw2_some h
  refine r_callV (As := [.ref (gA G (β + 25)), .int (nI 0), .int v7]) (rest := []) (st1 := [.int v10]) hx hb hml hown hts hE hw hl (mX1_kilometer l G (by omega) hR (by decide) hR.2.2.2.2.1.2.2.2.1 h10) (cwV 3 hts (zV gV_X1_91) rfl rfl rfl kdX1_kilometer ⟨Nat.le_of_ble_eq_true rfl, Nat.le_of_ble_eq_true rfl⟩) (by omega) (congrFun hR.2.1 _) rfl rfl rfl rfl (Nat.le_of_ble_eq_true rfl) dX1_readDepot_10 ⟨Nat.zero_le _, Nat.zero_le _⟩ rfl (fun H locs hw => ?_)
  refine lv_istore_n (lv' := [(2, .int v10), (0, .ref (gA G (β + 1))), (1, .ref (gA G (β + 20)))]) hx hb dX1_readDepot_13 rfl hl (by decide) rfl (fun ls hl => ?_)
  refine lv_aload_n hx hb dX1_readDepot_14 rfl (lv_at hl 1 rfl) ?_
  refine lv_iconst (v := (nI 3)) hx hb dX1_readDepot_15 (by decide) ?_
  refine lv_iconst (v := (nI 0)) hx hb dX1_readDepot_16 (by decide) ?_
  refine lv_sipush (v := (nI 999)) hx hb dX1_readDepot_17 (by decide) ?_
  obtain ⟨v20, S20, h20, h⟩ := cw2_some h
  refine r_callV (As := [.int (nI 3), .int (nI 0), .int (nI 999)]) (rest := []) (st1 := [.int v20]) hx hb hml hown hts hE hw hl (mX1_number l G (by omega) hR h20) (cwV 3 hts (zV gV_X1_30) rfl rfl rfl kdX1_number ⟨Nat.le_of_ble_eq_true rfl, Nat.le_of_ble_eq_true rfl⟩) (by omega) (congrFun hR.2.1 _) rfl rfl rfl rfl (Nat.le_of_ble_eq_true rfl) dX1_readDepot_20 ⟨Nat.zero_le _, Nat.zero_le _⟩ rfl (fun H locs hw => ?_)
  refine lv_istore_n (lv' := [(3, .int v20), (2, .int v10), (0, .ref (gA G (β + 1))), (1, .ref (gA G (β + 20)))]) hx hb dX1_readDepot_23 rfl hl (by decide) rfl (fun ls hl => ?_)
  refine lv_aload_n hx hb dX1_readDepot_24 rfl (lv_at hl 2 rfl) ?_
  refine p_get hx hb hts hinX1 hown hE hw hn 1 (by decide) (congrFun hR.2.1 _) rfl 3 (by decide) (hts _ (wz_in qF_X1_26)) rfl dX1_readDepot_25 h (fun v25 h => ?_)
  refine b_ne (tgt := 38) hx hb dX1_readDepot_28 (by decide) h (fun h => ?_) (fun h => ?_)
  · exact e_vw hx hb hr hlocks hw dX1_readDepot_38 h
  · refine lv_aload_n hx hb dX1_readDepot_31 rfl (lv_at hl 3 rfl) ?_
    refine lv_iload_n hx hb dX1_readDepot_32 rfl (lv_at hl 1 rfl) ?_
    refine lv_iload_n hx hb dX1_readDepot_33 rfl (lv_at hl 0 rfl) ?_
    obtain ⟨v34, T34, h34, h⟩ := cws_some h
    refine r_callV (As := [.int v10, .int v20]) (rest := []) (st1 := [.int v34]) hx hb hml hown hts hE hw hl (mc_sub 20 17 (by decide) (mX4_newDepot l G (by show β + 20 + 17 ≤ _; omega) hR.2.2.2.2.1 h34)) (cwV 2 hts (zV gV_X1_103) rfl rfl rfl kdX4_newDepot ⟨Nat.le_of_ble_eq_true rfl, Nat.le_of_ble_eq_true rfl⟩) (by omega) (congrFun hR.2.2.2.2.1.1 _) rfl rfl rfl rfl (Nat.le_of_ble_eq_true rfl) dX1_readDepot_34 ⟨Nat.zero_le _, Nat.zero_le _⟩ rfl (fun H locs hw => ?_)
    generalize wB S20 20 17 T34 = S34 at h hw
    refine lv_pop hx hb dX1_readDepot_37 rfl ?_
    exact e_vw hx hb hr hlocks hw dX1_readDepot_38 h

set_option maxHeartbeats 4000000 in
set_option maxRecDepth 100000 in
theorem mX1_readGate (l : Launch) (G : mG) {β : Nat} {M S S' : mM} (hn : β + 316 ≤ gN G) (hR : isWR G β) (h : pX1_readGate S = some S') : MC l G yX1_readGate zzX1_readGate 3 74 [.ref (gA G (β + 1)), .ref (gA G (β + 20))] (wB M β 316 S) (wB M β 316 S') none := by
  refine mc_of (cc := cX1_readGate) (maxL := 6) (ret := none) (by decide) rfl (Nat.le_of_ble_eq_true rfl) ?_
  intro p e s m args below meth c H ls hx hb hr hts hown hml hlocks hE hw hl
  have hl : lv_has ls 6 [(0, .ref (gA G (β + 1))), (1, .ref (gA G (β + 20)))] := hl
  have hinX1 : ∀ w ∈ wsX10, w ∈ zzX1_readGate := fun w h9 => wz_in (zinX1 w h9)
  have hinX4 : ∀ w ∈ wsX40, w ∈ zzX1_readGate := fun w h9 => wz_in (zinX4 w h9)
  unfold pX1_readGate at h
  refine lv_aload_n hx hb dX1_readGate_0 rfl (lv_at hl 0 rfl) ?_
  refine lv_aload_n hx hb dX1_readGate_1 rfl (lv_at hl 1 rfl) ?_
  refine r_get (v := .ref (gA G (β + 21))) hx hb hts hinX4 hown hE hw hn 20 (by decide) (congrFun hR.2.2.2.2.1.1 _) rfl 0 (by decide) (hts _ (wz_in qF_X1_63)) rfl dX1_readGate_2 ?_
  refine lv_iconst (v := (nI 1)) hx hb dX1_readGate_5 (by decide) ?_
  refine lv_aload_n hx hb dX1_readGate_6 rfl (lv_at hl 1 rfl) ?_
  obtain ⟨v7, h7, h⟩ := cr1_some h
  refine r_callV (As := []) (rest := [.int (nI 1), .ref (gA G (β + 21)), .ref (gA G (β + 1))]) (st1 := [.int v7, .int (nI 1), .ref (gA G (β + 21)), .ref (gA G (β + 1))]) hx hb hml hown hts hE hw hl (mc_subR 20 17 (by decide) (mX4_length l G (by show β + 20 + 17 ≤ _; omega) hR.2.2.2.2.1 h7)) (cwV 0 hts (zV gV_X1_89) rfl rfl rfl kdX4_length ⟨Nat.le_of_ble_eq_true rfl, Nat.le_of_ble_eq_true rfl⟩) (by omega) (congrFun hR.2.2.2.2.1.1 _) rfl rfl rfl rfl (Nat.le_of_ble_eq_true rfl) dX1_readGate_7 ⟨Nat.zero_le _, Nat.zero_le _⟩ rfl (fun H locs hw => ?_)
  refine lv_iconst (v := (nI 1)) hx hb dX1_readGate_10 (by decide) ?_
  refine lv_isub hx hb dX1_readGate_11 ?_
  obtain ⟨v12, S12, h12, h⟩ := cw2_some h
  refine r_callV (As := [.ref (gA G (β + 21)), .int (nI 1), .int (v7 - (nI 1))]) (rest := []) (st1 := [.int v12]) hx hb hml hown hts hE hw hl (mX1_kilometer l G (by omega) hR (by decide) hR.2.2.2.2.1.2.1 h12) (cwV 3 hts (zV gV_X1_91) rfl rfl rfl kdX1_kilometer ⟨Nat.le_of_ble_eq_true rfl, Nat.le_of_ble_eq_true rfl⟩) (by omega) (congrFun hR.2.1 _) rfl rfl rfl rfl (Nat.le_of_ble_eq_true rfl) dX1_readGate_12 ⟨Nat.zero_le _, Nat.zero_le _⟩ rfl (fun H locs hw => ?_)
  refine lv_istore_n (lv' := [(2, .int v12), (0, .ref (gA G (β + 1))), (1, .ref (gA G (β + 20)))]) hx hb dX1_readGate_15 rfl hl (by decide) rfl (fun ls hl => ?_)
  refine lv_aload_n hx hb dX1_readGate_16 rfl (lv_at hl 1 rfl) ?_
  refine lv_iconst (v := (nI 2)) hx hb dX1_readGate_17 (by decide) ?_
  refine lv_iconst (v := (nI 2)) hx hb dX1_readGate_18 (by decide) ?_
  refine lv_bipush (v := (nI 24)) hx hb dX1_readGate_19 (by decide) ?_
  obtain ⟨v21, S21, h21, h⟩ := cw2_some h
  refine r_callV (As := [.int (nI 2), .int (nI 2), .int (nI 24)]) (rest := []) (st1 := [.int v21]) hx hb hml hown hts hE hw hl (mX1_number l G (by omega) hR h21) (cwV 3 hts (zV gV_X1_30) rfl rfl rfl kdX1_number ⟨Nat.le_of_ble_eq_true rfl, Nat.le_of_ble_eq_true rfl⟩) (by omega) (congrFun hR.2.1 _) rfl rfl rfl rfl (Nat.le_of_ble_eq_true rfl) dX1_readGate_21 ⟨Nat.zero_le _, Nat.zero_le _⟩ rfl (fun H locs hw => ?_)
  refine lv_istore_n (lv' := [(3, .int v21), (2, .int v12), (0, .ref (gA G (β + 1))), (1, .ref (gA G (β + 20)))]) hx hb dX1_readGate_24 rfl hl (by decide) rfl (fun ls hl => ?_)
  refine lv_aload_n hx hb dX1_readGate_25 rfl (lv_at hl 2 rfl) ?_
  refine lv_iconst (v := (nI 2)) hx hb dX1_readGate_26 (by decide) ?_
  refine lv_iconst (v := (nI 0)) hx hb dX1_readGate_27 (by decide) ?_
  refine lv_iload_n hx hb dX1_readGate_28 rfl (lv_at hl 0 rfl) ?_
  refine lv_iconst (v := (nI 1)) hx hb dX1_readGate_29 (by decide) ?_
  refine lv_isub hx hb dX1_readGate_30 ?_
  obtain ⟨v31, S31, h31, h⟩ := cw2_some h
  refine r_callV (As := [.int (nI 2), .int (nI 0), .int (v21 - (nI 1))]) (rest := []) (st1 := [.int v31]) hx hb hml hown hts hE hw hl (mX1_number l G (by omega) hR h31) (cwV 3 hts (zV gV_X1_30) rfl rfl rfl kdX1_number ⟨Nat.le_of_ble_eq_true rfl, Nat.le_of_ble_eq_true rfl⟩) (by omega) (congrFun hR.2.1 _) rfl rfl rfl rfl (Nat.le_of_ble_eq_true rfl) dX1_readGate_31 ⟨Nat.zero_le _, Nat.zero_le _⟩ rfl (fun H locs hw => ?_)
  refine lv_istore (lv' := [(4, .int v31), (3, .int v21), (2, .int v12), (0, .ref (gA G (β + 1))), (1, .ref (gA G (β + 20)))]) hx hb dX1_readGate_34 hl (by decide) rfl (fun ls hl => ?_)
  refine lv_aload_n hx hb dX1_readGate_36 rfl (lv_at hl 3 rfl) ?_
  refine lv_iconst (v := (nI 2)) hx hb dX1_readGate_37 (by decide) ?_
  refine lv_iconst (v := (nI 0)) hx hb dX1_readGate_38 (by decide) ?_
  refine lv_iload_n hx hb dX1_readGate_39 rfl (lv_at hl 1 rfl) ?_
  refine lv_iconst (v := (nI 1)) hx hb dX1_readGate_40 (by decide) ?_
  refine lv_isub hx hb dX1_readGate_41 ?_
  obtain ⟨v42, S42, h42, h⟩ := cw2_some h
  refine r_callV (As := [.int (nI 2), .int (nI 0), .int (v21 - (nI 1))]) (rest := []) (st1 := [.int v42]) hx hb hml hown hts hE hw hl (mX1_number l G (by omega) hR h42) (cwV 3 hts (zV gV_X1_30) rfl rfl rfl kdX1_number ⟨Nat.le_of_ble_eq_true rfl, Nat.le_of_ble_eq_true rfl⟩) (by omega) (congrFun hR.2.1 _) rfl rfl rfl rfl (Nat.le_of_ble_eq_true rfl) dX1_readGate_42 ⟨Nat.zero_le _, Nat.zero_le _⟩ rfl (fun H locs hw => ?_)
  refine lv_istore (lv' := [(5, .int v42), (4, .int v31), (3, .int v21), (2, .int v12), (0, .ref (gA G (β + 1))), (1, .ref (gA G (β + 20)))]) hx hb dX1_readGate_45 hl (by decide) rfl (fun ls hl => ?_)
  refine lv_aload_n hx hb dX1_readGate_47 rfl (lv_at hl 4 rfl) ?_
  refine p_get hx hb hts hinX1 hown hE hw hn 1 (by decide) (congrFun hR.2.1 _) rfl 3 (by decide) (hts _ (wz_in qF_X1_26)) rfl dX1_readGate_48 h (fun v48 h => ?_)
  refine b_ne (tgt := 65) hx hb dX1_readGate_51 (by decide) h (fun h => ?_) (fun h => ?_)
  · exact e_vw hx hb hr hlocks hw dX1_readGate_65 h
  · refine lv_aload_n hx hb dX1_readGate_54 rfl (lv_at hl 5 rfl) ?_
    refine lv_iload_n hx hb dX1_readGate_55 rfl (lv_at hl 3 rfl) ?_
    refine lv_iload_n hx hb dX1_readGate_56 rfl (lv_at hl 2 rfl) ?_
    refine lv_iload hx hb dX1_readGate_57 (lv_at hl 1 rfl) ?_
    refine lv_iload hx hb dX1_readGate_59 (lv_at hl 0 rfl) ?_
    obtain ⟨v61, T61, h61, h⟩ := cws_some h
    refine r_callV (As := [.int v12, .int v21, .int v31, .int v42]) (rest := []) (st1 := [.int v61]) hx hb hml hown hts hE hw hl (mc_sub 20 17 (by decide) (mX4_newGate l G (by show β + 20 + 17 ≤ _; omega) hR.2.2.2.2.1 h61)) (cwV 4 hts (zV gV_X1_95) rfl rfl rfl kdX4_newGate ⟨Nat.le_of_ble_eq_true rfl, Nat.le_of_ble_eq_true rfl⟩) (by omega) (congrFun hR.2.2.2.2.1.1 _) rfl rfl rfl rfl (Nat.le_of_ble_eq_true rfl) dX1_readGate_61 ⟨Nat.zero_le _, Nat.zero_le _⟩ rfl (fun H locs hw => ?_)
    generalize wB S42 20 17 T61 = S61 at h hw
    refine lv_pop hx hb dX1_readGate_64 rfl ?_
    exact e_vw hx hb hr hlocks hw dX1_readGate_65 h

set_option maxHeartbeats 4000000 in
set_option maxRecDepth 100000 in
theorem mX1_readVehicle (l : Launch) (G : mG) {β : Nat} {M S S' : mM} (hn : β + 316 ≤ gN G) (hR : isWR G β) (h : pX1_readVehicle S = some S') : MC l G yX1_readVehicle zzX1_readVehicle 3 74 [.ref (gA G (β + 1)), .ref (gA G (β + 20))] (wB M β 316 S) (wB M β 316 S') none := by
  refine mc_of (cc := cX1_readVehicle) (maxL := 6) (ret := none) (by decide) rfl (Nat.le_of_ble_eq_true rfl) ?_
  intro p e s m args below meth c H ls hx hb hr hts hown hml hlocks hE hw hl
  have hl : lv_has ls 6 [(0, .ref (gA G (β + 1))), (1, .ref (gA G (β + 20)))] := hl
  have hinX1 : ∀ w ∈ wsX10, w ∈ zzX1_readVehicle := fun w h9 => wz_in (zinX1 w h9)
  have hinX4 : ∀ w ∈ wsX40, w ∈ zzX1_readVehicle := fun w h9 => wz_in (zinX4 w h9)
  unfold pX1_readVehicle at h
  refine lv_aload_n hx hb dX1_readVehicle_0 rfl (lv_at hl 0 rfl) ?_
  refine lv_iconst (v := (nI 1)) hx hb dX1_readVehicle_1 (by decide) ?_
  refine lv_iconst (v := (nI 1)) hx hb dX1_readVehicle_2 (by decide) ?_
  refine lv_bipush (v := (nI 9)) hx hb dX1_readVehicle_3 (by decide) ?_
  obtain ⟨v5, S5, h5, h⟩ := cw2_some h
  refine r_callV (As := [.int (nI 1), .int (nI 1), .int (nI 9)]) (rest := []) (st1 := [.int v5]) hx hb hml hown hts hE hw hl (mX1_number l G (by omega) hR h5) (cwV 3 hts (zV gV_X1_30) rfl rfl rfl kdX1_number ⟨Nat.le_of_ble_eq_true rfl, Nat.le_of_ble_eq_true rfl⟩) (by omega) (congrFun hR.2.1 _) rfl rfl rfl rfl (Nat.le_of_ble_eq_true rfl) dX1_readVehicle_5 ⟨Nat.zero_le _, Nat.zero_le _⟩ rfl (fun H locs hw => ?_)
  refine lv_istore_n (lv' := [(2, .int v5), (0, .ref (gA G (β + 1))), (1, .ref (gA G (β + 20)))]) hx hb dX1_readVehicle_8 rfl hl (by decide) rfl (fun ls hl => ?_)
  refine lv_aload_n hx hb dX1_readVehicle_9 rfl (lv_at hl 1 rfl) ?_
  refine lv_iconst (v := (nI 1)) hx hb dX1_readVehicle_10 (by decide) ?_
  refine lv_iconst (v := (nI 1)) hx hb dX1_readVehicle_11 (by decide) ?_
  refine lv_iconst (v := (nI 4)) hx hb dX1_readVehicle_12 (by decide) ?_
  obtain ⟨v13, S13, h13, h⟩ := cw2_some h
  refine r_callV (As := [.int (nI 1), .int (nI 1), .int (nI 4)]) (rest := []) (st1 := [.int v13]) hx hb hml hown hts hE hw hl (mX1_number l G (by omega) hR h13) (cwV 3 hts (zV gV_X1_30) rfl rfl rfl kdX1_number ⟨Nat.le_of_ble_eq_true rfl, Nat.le_of_ble_eq_true rfl⟩) (by omega) (congrFun hR.2.1 _) rfl rfl rfl rfl (Nat.le_of_ble_eq_true rfl) dX1_readVehicle_13 ⟨Nat.zero_le _, Nat.zero_le _⟩ rfl (fun H locs hw => ?_)
  refine lv_istore_n (lv' := [(3, .int v13), (2, .int v5), (0, .ref (gA G (β + 1))), (1, .ref (gA G (β + 20)))]) hx hb dX1_readVehicle_16 rfl hl (by decide) rfl (fun ls hl => ?_)
  refine lv_aload_n hx hb dX1_readVehicle_17 rfl (lv_at hl 2 rfl) ?_
  refine lv_iconst (v := (nI 2)) hx hb dX1_readVehicle_18 (by decide) ?_
  refine lv_bipush (v := (nI 20)) hx hb dX1_readVehicle_19 (by decide) ?_
  refine lv_bipush (v := (nI 99)) hx hb dX1_readVehicle_21 (by decide) ?_
  obtain ⟨v23, S23, h23, h⟩ := cw2_some h
  refine r_callV (As := [.int (nI 2), .int (nI 20), .int (nI 99)]) (rest := []) (st1 := [.int v23]) hx hb hml hown hts hE hw hl (mX1_number l G (by omega) hR h23) (cwV 3 hts (zV gV_X1_30) rfl rfl rfl kdX1_number ⟨Nat.le_of_ble_eq_true rfl, Nat.le_of_ble_eq_true rfl⟩) (by omega) (congrFun hR.2.1 _) rfl rfl rfl rfl (Nat.le_of_ble_eq_true rfl) dX1_readVehicle_23 ⟨Nat.zero_le _, Nat.zero_le _⟩ rfl (fun H locs hw => ?_)
  refine lv_istore (lv' := [(4, .int v23), (3, .int v13), (2, .int v5), (0, .ref (gA G (β + 1))), (1, .ref (gA G (β + 20)))]) hx hb dX1_readVehicle_26 hl (by decide) rfl (fun ls hl => ?_)
  refine lv_aload_n hx hb dX1_readVehicle_28 rfl (lv_at hl 3 rfl) ?_
  refine lv_iconst (v := (nI 2)) hx hb dX1_readVehicle_29 (by decide) ?_
  refine lv_iconst (v := (nI 0)) hx hb dX1_readVehicle_30 (by decide) ?_
  refine lv_iload hx hb dX1_readVehicle_31 (lv_at hl 0 rfl) ?_
  obtain ⟨v33, S33, h33, h⟩ := cw2_some h
  refine r_callV (As := [.int (nI 2), .int (nI 0), .int v23]) (rest := []) (st1 := [.int v33]) hx hb hml hown hts hE hw hl (mX1_number l G (by omega) hR h33) (cwV 3 hts (zV gV_X1_30) rfl rfl rfl kdX1_number ⟨Nat.le_of_ble_eq_true rfl, Nat.le_of_ble_eq_true rfl⟩) (by omega) (congrFun hR.2.1 _) rfl rfl rfl rfl (Nat.le_of_ble_eq_true rfl) dX1_readVehicle_33 ⟨Nat.zero_le _, Nat.zero_le _⟩ rfl (fun H locs hw => ?_)
  refine lv_istore (lv' := [(5, .int v33), (4, .int v23), (3, .int v13), (2, .int v5), (0, .ref (gA G (β + 1))), (1, .ref (gA G (β + 20)))]) hx hb dX1_readVehicle_36 hl (by decide) rfl (fun ls hl => ?_)
  refine lv_aload_n hx hb dX1_readVehicle_38 rfl (lv_at hl 4 rfl) ?_
  refine p_get hx hb hts hinX1 hown hE hw hn 1 (by decide) (congrFun hR.2.1 _) rfl 3 (by decide) (hts _ (wz_in qF_X1_26)) rfl dX1_readVehicle_39 h (fun v39 h => ?_)
  refine b_ne (tgt := 65) hx hb dX1_readVehicle_42 (by decide) h (fun h => ?_) (fun h => ?_)
  · exact e_vw hx hb hr hlocks hw dX1_readVehicle_65 h
  · refine lv_aload_n hx hb dX1_readVehicle_45 rfl (lv_at hl 5 rfl) ?_
    refine lv_aload_n hx hb dX1_readVehicle_46 rfl (lv_at hl 5 rfl) ?_
    refine r_get (v := .ref (gA G (β + 27))) hx hb hts hinX4 hown hE hw hn 20 (by decide) (congrFun hR.2.2.2.2.1.1 _) rfl 3 (by decide) (hts _ (wz_in qF_X1_79)) rfl dX1_readVehicle_47 ?_
    obtain ⟨v50, h50, h⟩ := cr1_some h
    refine r_callV (As := []) (rest := [.ref (gA G (β + 20))]) (st1 := [.int v50, .ref (gA G (β + 20))]) hx hb hml hown hts hE hw hl (mc_subR 27 2 (by decide) (mX5_count l G (by show β + 27 + 2 ≤ _; omega) hR.2.2.2.2.1.2.2.2.2.1 h50)) (cwV 0 hts (zV gV_X1_82) rfl rfl rfl kdX5_count ⟨Nat.le_of_ble_eq_true rfl, Nat.le_of_ble_eq_true rfl⟩) (by omega) (congrFun hR.2.2.2.2.1.2.2.2.2.1.1 _) rfl rfl rfl rfl (Nat.le_of_ble_eq_true rfl) dX1_readVehicle_50 ⟨Nat.zero_le _, Nat.zero_le _⟩ rfl (fun H locs hw => ?_)
    refine lv_iconst (v := (nI 1)) hx hb dX1_readVehicle_53 (by decide) ?_
    refine lv_isub hx hb dX1_readVehicle_54 ?_
    refine lv_iload_n hx hb dX1_readVehicle_55 rfl (lv_at hl 3 rfl) ?_
    refine lv_iload_n hx hb dX1_readVehicle_56 rfl (lv_at hl 2 rfl) ?_
    refine lv_iload hx hb dX1_readVehicle_57 (lv_at hl 1 rfl) ?_
    refine lv_iload hx hb dX1_readVehicle_59 (lv_at hl 0 rfl) ?_
    obtain ⟨v61, T61, h61, h⟩ := cws_some h
    refine r_callV (As := [.int (v50 - (nI 1)), .int v5, .int v13, .int v23, .int v33]) (rest := []) (st1 := [.int v61]) hx hb hml hown hts hE hw hl (mc_sub 20 17 (by decide) (mX4_newVehicle l G (by show β + 20 + 17 ≤ _; omega) hR.2.2.2.2.1 h61)) (cwV 5 hts (zV gV_X1_106) rfl rfl rfl kdX4_newVehicle ⟨Nat.le_of_ble_eq_true rfl, Nat.le_of_ble_eq_true rfl⟩) (by omega) (congrFun hR.2.2.2.2.1.1 _) rfl rfl rfl rfl (Nat.le_of_ble_eq_true rfl) dX1_readVehicle_61 ⟨Nat.zero_le _, Nat.zero_le _⟩ rfl (fun H locs hw => ?_)
    generalize wB S33 20 17 T61 = S61 at h hw
    refine lv_pop hx hb dX1_readVehicle_64 rfl ?_
    exact e_vw hx hb hr hlocks hw dX1_readVehicle_65 h

set_option maxHeartbeats 4000000 in
set_option maxRecDepth 100000 in
theorem mX1_readPart (l : Launch) (G : mG) {β : Nat} {M S S' : mM} (hn : β + 316 ≤ gN G) (hR : isWR G β) (h : pX1_readPart S = some S') : MC l G yX1_readPart zzX1_readPart 4 99 [.ref (gA G (β + 1)), .ref (gA G (β + 20))] (wB M β 316 S) (wB M β 316 S') none := by
  refine mc_of (cc := cX1_readPart) (maxL := 3) (ret := none) (by decide) rfl (Nat.le_of_ble_eq_true rfl) ?_
  intro p e s m args below meth c H ls hx hb hr hts hown hml hlocks hE hw hl
  have hl : lv_has ls 3 [(0, .ref (gA G (β + 1))), (1, .ref (gA G (β + 20)))] := hl
  have hinX1 : ∀ w ∈ wsX10, w ∈ zzX1_readPart := fun w h9 => wz_in (zinX1 w h9)
  have k20 : ∀ (x2 : Int32) (t1 : Int32) (S : mM) (H : Heap) (locs : List Loc) (ls : Array Slot), pX1_readPart_b20  x2 t1 S = some S' → mW G s (wB M β 316 S) H locs → lv_has ls 3 [(0, .ref (gA G (β + 1))), (1, .ref (gA G (β + 20))), (2, .int x2)] → W p l e { frames := 4, cells := 0, slots := 0, locals := 99 } s m args below meth c H locs 0 0 (mZ below G none (wB M β 316 S') args s) (F0 m 20 ls [.int t1, .ref (gA G (β + 1))]) := by
    intro x2 t1 S H locs ls h hw hl
    unfold pX1_readPart_b20 at h
    refine p_putz hx hb hts hinX1 tyX1 tyX1_ok nmX1 hown hE hw hn 1 (by decide) (congrFun hR.2.1 _) rfl 3 (by decide) (hts _ (wz_in qF_X1_26)) rfl (by decide +kernel) (Nat.le_of_ble_eq_true rfl) (congrFun hR.2.1 _) dX1_readPart_20 h (fun S20 h H locs hw => ?_)
    refine lv_aload_n hx hb dX1_readPart_23 rfl (lv_at hl 0 rfl) ?_
    refine p_get hx hb hts hinX1 hown hE hw hn 1 (by decide) (congrFun hR.2.1 _) rfl 3 (by decide) (hts _ (wz_in qF_X1_26)) rfl dX1_readPart_24 h (fun v24 h => ?_)
    refine b_eq (tgt := 31) hx hb dX1_readPart_27 (by decide) h (fun h => ?_) (fun h => ?_)
    · refine lv_aload_n hx hb dX1_readPart_31 rfl (lv_at hl 0 rfl) ?_
      refine lv_dup hx hb dX1_readPart_32 rfl ?_
      refine p_get hx hb hts hinX1 hown hE hw hn 1 (by decide) (congrFun hR.2.1 _) rfl 2 (by decide) (hts _ (wz_in qF_X1_19)) rfl dX1_readPart_33 h (fun v33 h => ?_)
      refine lv_iconst (v := (nI 1)) hx hb dX1_readPart_36 (by decide) ?_
      refine lv_iadd hx hb dX1_readPart_37 ?_
      refine p_put hx hb hts hinX1 tyX1 tyX1_ok nmX1 hown hE hw hn 1 (by decide) (congrFun hR.2.1 _) rfl 2 (by decide) (hts _ (wz_in qF_X1_19)) rfl (by decide +kernel) (Nat.le_of_ble_eq_true rfl) (congrFun hR.2.1 _) dX1_readPart_38 h (fun S38 h H locs hw => ?_)
      refine lv_iload_n hx hb dX1_readPart_41 rfl (lv_at hl 2 rfl) ?_
      refine sw_if h (fun hc98 h => ?_) (fun hc98 h => ?_)
      · rw [hc98]
        refine lv_tableIn (off := 46) (tgt := 88) hx hb dX1_readPart_42 (by decide) (by decide) rfl (by decide) ?_
        refine lv_aload_n hx hb dX1_readPart_88 rfl (lv_at hl 0 rfl) ?_
        refine lv_aload_n hx hb dX1_readPart_89 rfl (lv_at hl 1 rfl) ?_
        obtain ⟨S90, h90, h⟩ := cr1_some h
        refine r_callV (As := [.ref (gA G (β + 20))]) (rest := []) (st1 := []) hx hb hml hown hts hE hw hl (mX1_readBay l G (by omega) hR h90) (cwV 1 hts (zV gV_X1_51) rfl rfl rfl kdX1_readBay ⟨Nat.le_of_ble_eq_true rfl, Nat.le_of_ble_eq_true rfl⟩) (by omega) (congrFun hR.2.1 _) rfl rfl rfl rfl (Nat.le_of_ble_eq_true rfl) dX1_readPart_90 ⟨Nat.zero_le _, Nat.zero_le _⟩ rfl (fun H locs hw => ?_)
        refine lv_goto (tgt := 117) hx hb dX1_readPart_93 (by decide) ?_
        exact e_vw hx hb hr hlocks hw dX1_readPart_117 h
      refine sw_if h (fun hc99 h => ?_) (fun hc99 h => ?_)
      · rw [hc99]
        refine lv_tableIn (off := 62) (tgt := 104) hx hb dX1_readPart_42 (by decide) (by decide) rfl (by decide) ?_
        refine lv_aload_n hx hb dX1_readPart_104 rfl (lv_at hl 1 rfl) ?_
        obtain ⟨v105, T105, h105, h⟩ := cws_some h
        refine r_callV (As := []) (rest := []) (st1 := [.int v105]) hx hb hml hown hts hE hw hl (mc_sub 20 17 (by decide) (mX4_newConvoy l G (by show β + 20 + 17 ≤ _; omega) hR.2.2.2.2.1 h105)) (cwV 0 hts (zV gV_X1_57) rfl rfl rfl kdX4_newConvoy ⟨Nat.le_of_ble_eq_true rfl, Nat.le_of_ble_eq_true rfl⟩) (by omega) (congrFun hR.2.2.2.2.1.1 _) rfl rfl rfl rfl (Nat.le_of_ble_eq_true rfl) dX1_readPart_105 ⟨Nat.zero_le _, Nat.zero_le _⟩ rfl (fun H locs hw => ?_)
        generalize wB S38 20 17 T105 = S105 at h hw
        refine lv_pop hx hb dX1_readPart_108 rfl ?_
        refine lv_goto (tgt := 117) hx hb dX1_readPart_109 (by decide) ?_
        exact e_vw hx hb hr hlocks hw dX1_readPart_117 h
      refine sw_if h (fun hc100 h => ?_) (fun hc100 h => ?_)
      · rw [hc100]
        refine lv_tableIn (off := 54) (tgt := 96) hx hb dX1_readPart_42 (by decide) (by decide) rfl (by decide) ?_
        refine lv_aload_n hx hb dX1_readPart_96 rfl (lv_at hl 0 rfl) ?_
        refine lv_aload_n hx hb dX1_readPart_97 rfl (lv_at hl 1 rfl) ?_
        obtain ⟨S98, h98, h⟩ := cr1_some h
        refine r_callV (As := [.ref (gA G (β + 20))]) (rest := []) (st1 := []) hx hb hml hown hts hE hw hl (mX1_readDepot l G (by omega) hR h98) (cwV 1 hts (zV gV_X1_54) rfl rfl rfl kdX1_readDepot ⟨Nat.le_of_ble_eq_true rfl, Nat.le_of_ble_eq_true rfl⟩) (by omega) (congrFun hR.2.1 _) rfl rfl rfl rfl (Nat.le_of_ble_eq_true rfl) dX1_readPart_98 ⟨Nat.zero_le _, Nat.zero_le _⟩ rfl (fun H locs hw => ?_)
        refine lv_goto (tgt := 117) hx hb dX1_readPart_101 (by decide) ?_
        exact e_vw hx hb hr hlocks hw dX1_readPart_117 h
      refine sw_if h (fun hc101 h => ?_) (fun hc101 h => ?_)
      · rw [hc101]
        refine lv_tableIn (off := 70) (tgt := 112) hx hb dX1_readPart_42 (by decide) (by decide) rfl (by decide) ?_
        refine lv_aload_n hx hb dX1_readPart_112 rfl (lv_at hl 0 rfl) ?_
        refine lv_aload_n hx hb dX1_readPart_113 rfl (lv_at hl 1 rfl) ?_
        obtain ⟨S114, h114, h⟩ := cr1_some h
        refine r_callV (As := [.ref (gA G (β + 20))]) (rest := []) (st1 := []) hx hb hml hown hts hE hw hl (mX1_readVehicle l G (by omega) hR h114) (cwV 1 hts (zV gV_X1_60) rfl rfl rfl kdX1_readVehicle ⟨Nat.le_of_ble_eq_true rfl, Nat.le_of_ble_eq_true rfl⟩) (by omega) (congrFun hR.2.1 _) rfl rfl rfl rfl (Nat.le_of_ble_eq_true rfl) dX1_readPart_114 ⟨Nat.zero_le _, Nat.zero_le _⟩ rfl (fun H locs hw => ?_)
        exact e_vw hx hb hr hlocks hw dX1_readPart_117 h
      refine sw_if h (fun hc102 h => ?_) (fun hc102 h => ?_)
      · rw [hc102]
        refine lv_tableIn (off := 70) (tgt := 112) hx hb dX1_readPart_42 (by decide) (by decide) rfl (by decide) ?_
        refine lv_aload_n hx hb dX1_readPart_112 rfl (lv_at hl 0 rfl) ?_
        refine lv_aload_n hx hb dX1_readPart_113 rfl (lv_at hl 1 rfl) ?_
        obtain ⟨S114, h114, h⟩ := cr1_some h
        refine r_callV (As := [.ref (gA G (β + 20))]) (rest := []) (st1 := []) hx hb hml hown hts hE hw hl (mX1_readVehicle l G (by omega) hR h114) (cwV 1 hts (zV gV_X1_60) rfl rfl rfl kdX1_readVehicle ⟨Nat.le_of_ble_eq_true rfl, Nat.le_of_ble_eq_true rfl⟩) (by omega) (congrFun hR.2.1 _) rfl rfl rfl rfl (Nat.le_of_ble_eq_true rfl) dX1_readPart_114 ⟨Nat.zero_le _, Nat.zero_le _⟩ rfl (fun H locs hw => ?_)
        exact e_vw hx hb hr hlocks hw dX1_readPart_117 h
      refine sw_if h (fun hc103 h => ?_) (fun hc103 h => ?_)
      · rw [hc103]
        refine lv_tableIn (off := 38) (tgt := 80) hx hb dX1_readPart_42 (by decide) (by decide) rfl (by decide) ?_
        refine lv_aload_n hx hb dX1_readPart_80 rfl (lv_at hl 0 rfl) ?_
        refine lv_aload_n hx hb dX1_readPart_81 rfl (lv_at hl 1 rfl) ?_
        obtain ⟨S82, h82, h⟩ := cr1_some h
        refine r_callV (As := [.ref (gA G (β + 20))]) (rest := []) (st1 := []) hx hb hml hown hts hE hw hl (mX1_readGate l G (by omega) hR h82) (cwV 1 hts (zV gV_X1_48) rfl rfl rfl kdX1_readGate ⟨Nat.le_of_ble_eq_true rfl, Nat.le_of_ble_eq_true rfl⟩) (by omega) (congrFun hR.2.1 _) rfl rfl rfl rfl (Nat.le_of_ble_eq_true rfl) dX1_readPart_82 ⟨Nat.zero_le _, Nat.zero_le _⟩ rfl (fun H locs hw => ?_)
        refine lv_goto (tgt := 117) hx hb dX1_readPart_85 (by decide) ?_
        exact e_vw hx hb hr hlocks hw dX1_readPart_117 h
      · refine lv_tableOut (tgt := 112) hx hb dX1_readPart_42 (by have q0 := lv_neT hc98 (by decide : ((nI 98) : Int32).toInt = 98); have q1 := lv_neT hc99 (by decide : ((nI 99) : Int32).toInt = 99); have q2 := lv_neT hc100 (by decide : ((nI 100) : Int32).toInt = 100); have q3 := lv_neT hc101 (by decide : ((nI 101) : Int32).toInt = 101); have q4 := lv_neT hc102 (by decide : ((nI 102) : Int32).toInt = 102); have q5 := lv_neT hc103 (by decide : ((nI 103) : Int32).toInt = 103); omega) (by decide) ?_
        refine lv_aload_n hx hb dX1_readPart_112 rfl (lv_at hl 0 rfl) ?_
        refine lv_aload_n hx hb dX1_readPart_113 rfl (lv_at hl 1 rfl) ?_
        obtain ⟨S114, h114, h⟩ := cr1_some h
        refine r_callV (As := [.ref (gA G (β + 20))]) (rest := []) (st1 := []) hx hb hml hown hts hE hw hl (mX1_readVehicle l G (by omega) hR h114) (cwV 1 hts (zV gV_X1_60) rfl rfl rfl kdX1_readVehicle ⟨Nat.le_of_ble_eq_true rfl, Nat.le_of_ble_eq_true rfl⟩) (by omega) (congrFun hR.2.1 _) rfl rfl rfl rfl (Nat.le_of_ble_eq_true rfl) dX1_readPart_114 ⟨Nat.zero_le _, Nat.zero_le _⟩ rfl (fun H locs hw => ?_)
        exact e_vw hx hb hr hlocks hw dX1_readPart_117 h
    · exact e_vw hx hb hr hlocks hw dX1_readPart_30 h
  unfold pX1_readPart at h
  refine lv_aload_n hx hb dX1_readPart_0 rfl (lv_at hl 0 rfl) ?_
  obtain ⟨v1, h1, h⟩ := cr1_some h
  refine r_callV (As := []) (rest := []) (st1 := [.int v1]) hx hb hml hown hts hE hw hl (mX1_signAt l G (by omega) hR h1) (cwV 0 hts (zV gV_X1_22) rfl rfl rfl kdX1_signAt ⟨Nat.le_of_ble_eq_true rfl, Nat.le_of_ble_eq_true rfl⟩) (by omega) (congrFun hR.2.1 _) rfl rfl rfl rfl (Nat.le_of_ble_eq_true rfl) dX1_readPart_1 ⟨Nat.zero_le _, Nat.zero_le _⟩ rfl (fun H locs hw => ?_)
  refine lv_istore_n (lv' := [(2, .int v1), (0, .ref (gA G (β + 1))), (1, .ref (gA G (β + 20)))]) hx hb dX1_readPart_4 rfl hl (by decide) rfl (fun ls hl => ?_)
  refine lv_aload_n hx hb dX1_readPart_5 rfl (lv_at hl 1 rfl) ?_
  refine lv_aload_n hx hb dX1_readPart_6 rfl (lv_at hl 1 rfl) ?_
  refine lv_iload_n hx hb dX1_readPart_7 rfl (lv_at hl 0 rfl) ?_
  refine lv_aload_n hx hb dX1_readPart_8 rfl (lv_at hl 2 rfl) ?_
  obtain ⟨v9, h9, h⟩ := cr1_some h
  refine r_callV (As := [.int v1, .ref (gA G (β + 20))]) (rest := [.ref (gA G (β + 1))]) (st1 := [.int v9, .ref (gA G (β + 1))]) hx hb hml hown hts hE hw hl (mX1_isAllowed l G (by omega) hR h9) (cwV 2 hts (zV gV_X1_44) rfl rfl rfl kdX1_isAllowed ⟨Nat.le_of_ble_eq_true rfl, Nat.le_of_ble_eq_true rfl⟩) (by omega) (congrFun hR.2.1 _) rfl rfl rfl rfl (Nat.le_of_ble_eq_true rfl) dX1_readPart_9 ⟨Nat.zero_le _, Nat.zero_le _⟩ rfl (fun H locs hw => ?_)
  refine b_ne (tgt := 19) hx hb dX1_readPart_12 (by decide) h (fun h => ?_) (fun h => ?_)
  · refine lv_iconst (v := (nI 0)) hx hb dX1_readPart_19 (by decide) ?_
    exact k20  v1 (nI 0) S _ _ _ h hw (lv_sub hl [1, 2, 0] rfl)
  · refine lv_iconst (v := (nI 1)) hx hb dX1_readPart_15 (by decide) ?_
    refine lv_goto (tgt := 20) hx hb dX1_readPart_16 (by decide) ?_
    exact k20  v1 (nI 1) S _ _ _ h hw (lv_sub hl [1, 2, 0] rfl)
