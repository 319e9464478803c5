/-! ===== walks, by program ===== -/
set_option maxHeartbeats 4000000 in
set_option maxRecDepth 100000 in
theorem mX6_addConvoy (l : Launch) (G : mG) {β : Nat} {M S S' : mM} {r : Int32} (hn : β + 316 ≤ gN G) (hR : isWR G β) (h : pX6_addConvoy S = some (.inl r, S')) : MC l G yX6_addConvoy zzX6_addConvoy 5 104 [.ref (gA G (β + 0))] (wB M β 316 S) (wB M β 316 S') (some (.int r)) := by
  refine mc_of (cc := cX6_addConvoy) (maxL := 1) (ret := (some .int)) (by decide) rfl (Nat.le_of_ble_eq_true rfl) ?_
  intro p e s m args below meth c H ls hx hb hr hts hown hml hlocks hE hw hl
  have hl : lv_has ls 1 [(0, .ref (gA G (β + 0)))] := hl
  have hinX4 : ∀ w ∈ wsX40, w ∈ zzX6_addConvoy := fun w h9 => wz_in (zinX4 w h9)
  have hinX6 : ∀ w ∈ wsX60, w ∈ zzX6_addConvoy := fun w h9 => wz_in (zinX6 w h9)
  unfold pX6_addConvoy at h
  refine lv_aload_n hx hb dX6_addConvoy_0 rfl (lv_at hl 0 rfl) ?_
  refine r_get (v := .ref (gA G (β + 3))) hx hb hts hinX6 hown hE hw hn 0 (by decide) (congrFun hR.1 _) rfl 1 (by decide) (hts _ (wz_in qF_X6_19)) rfl dX6_addConvoy_1 ?_
  refine r_get (v := .ref (gA G (β + 10))) hx hb hts hinX4 hown hE hw hn 3 (by decide) (congrFun hR.2.2.2.1.1 _) rfl 3 (by decide) (hts _ (wz_in qF_X6_102)) rfl dX6_addConvoy_4 ?_
  obtain ⟨v7, h7, h⟩ := cr1_some h
  refine r_callV (As := []) (rest := []) (st1 := [.int v7]) hx hb hml hown hts hE hw hl (mc_subR 10 2 (by decide) (mX5_isFull l G (by show β + 10 + 2 ≤ _; omega) hR.2.2.2.1.2.2.2.2.1 h7)) (cwV 0 hts (zV gV_X6_149) rfl rfl rfl kdX5_isFull ⟨Nat.le_of_ble_eq_true rfl, Nat.le_of_ble_eq_true rfl⟩) (by omega) (congrFun hR.2.2.2.1.2.2.2.2.1.1 _) rfl rfl rfl rfl (Nat.le_of_ble_eq_true rfl) dX6_addConvoy_7 ⟨Nat.zero_le _, Nat.zero_le _⟩ rfl (fun H locs hw => ?_)
  rcases bx_some h with ⟨h10, h⟩ | ⟨E10, h10, h⟩
  · refine r_callS (As := [.int v7]) (rest := []) (st1 := []) hx hb hml hown hts hE hw hl (mX6_refuseIf l G (M := (wB M β 316 S)) h10) (va_cwS 1 hts (zS gS_X6_53) rfl rfl rfl kdX6_refuseIf ⟨Nat.le_of_ble_eq_true rfl, Nat.le_of_ble_eq_true rfl⟩) rfl rfl (Nat.le_of_ble_eq_true rfl) dX6_addConvoy_10 ⟨Nat.zero_le _, Nat.zero_le _⟩ rfl (fun H locs hw => ?_)
    refine lv_aload_n hx hb dX6_addConvoy_13 rfl (lv_at hl 0 rfl) ?_
    refine r_get (v := .ref (gA G (β + 37))) hx hb hts hinX6 hown hE hw hn 0 (by decide) (congrFun hR.1 _) rfl 3 (by decide) (hts _ (wz_in qF_X6_29)) rfl dX6_addConvoy_14 ?_
    refine lv_aload_n hx hb dX6_addConvoy_17 rfl (lv_at hl 0 rfl) ?_
    refine r_get (v := .ref (gA G (β + 3))) hx hb hts hinX6 hown hE hw hn 0 (by decide) (congrFun hR.1 _) rfl 1 (by decide) (hts _ (wz_in qF_X6_19)) rfl dX6_addConvoy_18 ?_
    obtain ⟨S21, h21, h⟩ := cr1_some h
    refine r_callV (As := [.ref (gA G (β + 3))]) (rest := []) (st1 := []) hx hb hml hown hts hE hw hl (mX0_remember l G (by omega) hR h21) (cwV 1 hts (zV gV_X6_153) rfl rfl rfl kdX0_remember ⟨Nat.le_of_ble_eq_true rfl, Nat.le_of_ble_eq_true rfl⟩) (by omega) (congrFun hR.2.2.2.2.2.1 _) rfl rfl rfl rfl (Nat.le_of_ble_eq_true rfl) dX6_addConvoy_21 ⟨Nat.zero_le _, Nat.zero_le _⟩ rfl (fun H locs hw => ?_)
    refine lv_aload_n hx hb dX6_addConvoy_24 rfl (lv_at hl 0 rfl) ?_
    refine r_get (v := .ref (gA G (β + 3))) hx hb hts hinX6 hown hE hw hn 0 (by decide) (congrFun hR.1 _) rfl 1 (by decide) (hts _ (wz_in qF_X6_19)) rfl dX6_addConvoy_25 ?_
    obtain ⟨v28, T28, h28, h⟩ := cws_some h
    refine r_callV (As := []) (rest := []) (st1 := [.int v28]) hx hb hml hown hts hE hw hl (mc_sub 3 17 (by decide) (mX4_newConvoy l G (by show β + 3 + 17 ≤ _; omega) hR.2.2.2.1 h28)) (cwV 0 hts (zV gV_X6_166) rfl rfl rfl kdX4_newConvoy ⟨Nat.le_of_ble_eq_true rfl, Nat.le_of_ble_eq_true rfl⟩) (by omega) (congrFun hR.2.2.2.1.1 _) rfl rfl rfl rfl (Nat.le_of_ble_eq_true rfl) dX6_addConvoy_28 ⟨Nat.zero_le _, Nat.zero_le _⟩ rfl (fun H locs hw => ?_)
    generalize wB S21 3 17 T28 = S28 at h hw
    cases h
    exact r_iret hx hb hr hlocks hw dX6_addConvoy_31
  · cases h
set_option maxHeartbeats 4000000 in
set_option maxRecDepth 100000 in
theorem xX6_addConvoy (l : Launch) (hfl : l.stackTraces = false) (G : mG) {β : Nat} {M S S' : mM} {E : String} (hn : β + 316 ≤ gN G) (hR : isWR G β) (h : pX6_addConvoy S = some (.inr E, S')) : MX l G yX6_addConvoy zzX6_addConvoy 7 104 [.ref (gA G (β + 0))] (wB M β 316 S) (wB M β 316 S') E := by
  refine mx_of (cc := cX6_addConvoy) (maxL := 1) (ret := (some .int)) (by decide) rfl (Nat.le_of_ble_eq_true rfl) ?_
  intro p e s m args below meth c H ls hx hb hr hts hown hml hlocks hout hE hw _ hl
  have hl : lv_has ls 1 [(0, .ref (gA G (β + 0)))] := hl
  have hinX4 : ∀ w ∈ wsX40, w ∈ zzX6_addConvoy := fun w h9 => wz_in (zinX4 w h9)
  have hinX6 : ∀ w ∈ wsX60, w ∈ zzX6_addConvoy := fun w h9 => wz_in (zinX6 w h9)
  unfold pX6_addConvoy at h
  refine lv_aload_n hx hb dX6_addConvoy_0 rfl (lv_at hl 0 rfl) ?_
  refine r_get (v := .ref (gA G (β + 3))) hx hb hts hinX6 hown hE hw hn 0 (by decide) (congrFun hR.1 _) rfl 1 (by decide) (hts _ (wz_in qF_X6_19)) rfl dX6_addConvoy_1 ?_
  refine r_get (v := .ref (gA G (β + 10))) hx hb hts hinX4 hown hE hw hn 3 (by decide) (congrFun hR.2.2.2.1.1 _) rfl 3 (by decide) (hts _ (wz_in qF_X6_102)) rfl dX6_addConvoy_4 ?_
  obtain ⟨v7, h7, h⟩ := cr1_some h
  refine r_callV (As := []) (rest := []) (st1 := [.int v7]) hx hb hml hown hts hE hw hl (mc_subR 10 2 (by decide) (mX5_isFull l G (by show β + 10 + 2 ≤ _; omega) hR.2.2.2.1.2.2.2.2.1 h7)) (cwV 0 hts (zV gV_X6_149) rfl rfl rfl kdX5_isFull ⟨Nat.le_of_ble_eq_true rfl, Nat.le_of_ble_eq_true rfl⟩) (by omega) (congrFun hR.2.2.2.1.2.2.2.2.1.1 _) rfl rfl rfl rfl (Nat.le_of_ble_eq_true rfl) dX6_addConvoy_7 ⟨Nat.zero_le _, Nat.zero_le _⟩ rfl (fun H locs hw => ?_)
  rcases bx_some h with ⟨h10, h⟩ | ⟨E10, h10, h⟩
  · refine r_callS (As := [.int v7]) (rest := []) (st1 := []) hx hb hml hown hts hE hw hl (mX6_refuseIf l G (M := (wB M β 316 S)) h10) (va_cwS 1 hts (zS gS_X6_53) rfl rfl rfl kdX6_refuseIf ⟨Nat.le_of_ble_eq_true rfl, Nat.le_of_ble_eq_true rfl⟩) rfl rfl (Nat.le_of_ble_eq_true rfl) dX6_addConvoy_10 ⟨Nat.zero_le _, Nat.zero_le _⟩ rfl (fun H locs hw => ?_)
    refine lv_aload_n hx hb dX6_addConvoy_13 rfl (lv_at hl 0 rfl) ?_
    refine r_get (v := .ref (gA G (β + 37))) hx hb hts hinX6 hown hE hw hn 0 (by decide) (congrFun hR.1 _) rfl 3 (by decide) (hts _ (wz_in qF_X6_29)) rfl dX6_addConvoy_14 ?_
    refine lv_aload_n hx hb dX6_addConvoy_17 rfl (lv_at hl 0 rfl) ?_
    refine r_get (v := .ref (gA G (β + 3))) hx hb hts hinX6 hown hE hw hn 0 (by decide) (congrFun hR.1 _) rfl 1 (by decide) (hts _ (wz_in qF_X6_19)) rfl dX6_addConvoy_18 ?_
    obtain ⟨S21, h21, h⟩ := cr1_some h
    refine r_callV (As := [.ref (gA G (β + 3))]) (rest := []) (st1 := []) hx hb hml hown hts hE hw hl (mX0_remember l G (by omega) hR h21) (cwV 1 hts (zV gV_X6_153) rfl rfl rfl kdX0_remember ⟨Nat.le_of_ble_eq_true rfl, Nat.le_of_ble_eq_true rfl⟩) (by omega) (congrFun hR.2.2.2.2.2.1 _) rfl rfl rfl rfl (Nat.le_of_ble_eq_true rfl) dX6_addConvoy_21 ⟨Nat.zero_le _, Nat.zero_le _⟩ rfl (fun H locs hw => ?_)
    refine lv_aload_n hx hb dX6_addConvoy_24 rfl (lv_at hl 0 rfl) ?_
    refine r_get (v := .ref (gA G (β + 3))) hx hb hts hinX6 hown hE hw hn 0 (by decide) (congrFun hR.1 _) rfl 1 (by decide) (hts _ (wz_in qF_X6_19)) rfl dX6_addConvoy_25 ?_
    obtain ⟨v28, T28, h28, h⟩ := cws_some h
    refine r_callV (As := []) (rest := []) (st1 := [.int v28]) hx hb hml hown hts hE hw hl (mc_sub 3 17 (by decide) (mX4_newConvoy l G (by show β + 3 + 17 ≤ _; omega) hR.2.2.2.1 h28)) (cwV 0 hts (zV gV_X6_166) rfl rfl rfl kdX4_newConvoy ⟨Nat.le_of_ble_eq_true rfl, Nat.le_of_ble_eq_true rfl⟩) (by omega) (congrFun hR.2.2.2.1.1 _) rfl rfl rfl rfl (Nat.le_of_ble_eq_true rfl) dX6_addConvoy_28 ⟨Nat.zero_le _, Nat.zero_le _⟩ rfl (fun H locs hw => ?_)
    generalize wB S21 3 17 T28 = S28 at h hw
    cases h
  · rw [← (Prod.mk.inj (Option.some.inj h)).2, ← Sum.inr.inj (Prod.mk.inj (Option.some.inj h)).1]
    exact x_callS (As := [.int v7]) (rest := []) hx hb hml hown hts hE hw hl (xX6_refuseIf l hfl G (M := (wB M β 316 S)) h10) (va_cwS 1 hts (zS gS_X6_53) rfl rfl rfl kdX6_refuseIf ⟨Nat.le_of_ble_eq_true rfl, Nat.le_of_ble_eq_true rfl⟩) rfl rfl (Nat.le_of_ble_eq_true rfl) dX6_addConvoy_10 ⟨Nat.le_refl _, Nat.le_refl _⟩ hout hlocks

set_option maxHeartbeats 4000000 in
set_option maxRecDepth 100000 in
theorem mX6_addVehicle (l : Launch) (G : mG) {β : Nat} {M S S' : mM} {a1 : Int32} {a2 : Int32} {a3 : Int32} {a4 : Int32} {a5 : Int32} {r : Int32} (hn : β + 316 ≤ gN G) (hR : isWR G β) (h : pX6_addVehicle a1 a2 a3 a4 a5 S = some (.inl r, S')) : MC l G yX6_addVehicle zzX6_addVehicle 5 104 [.ref (gA G (β + 0)), .int a1, .int a2, .int a3, .int a4, .int a5] (wB M β 316 S) (wB M β 316 S') (some (.int r)) := by
  refine mc_of (cc := cX6_addVehicle) (maxL := 6) (ret := (some .int)) (by decide) rfl (Nat.le_of_ble_eq_true rfl) ?_
  intro p e s m args below meth c H ls hx hb hr hts hown hml hlocks hE hw hl
  have hl : lv_has ls 6 [(0, .ref (gA G (β + 0))), (1, .int a1), (2, .int a2), (3, .int a3), (4, .int a4), (5, .int a5)] := hl
  have hinX4 : ∀ w ∈ wsX40, w ∈ zzX6_addVehicle := fun w h9 => wz_in (zinX4 w h9)
  have hinX6 : ∀ w ∈ wsX60, w ∈ zzX6_addVehicle := fun w h9 => wz_in (zinX6 w h9)
  have k68 : ∀ (x1 : Int32) (x2 : Int32) (x3 : Int32) (x4 : Int32) (x5 : Int32) (t0 : Int32) (S : mM) (H : Heap) (locs : List Loc) (ls : Array Slot), pX6_addVehicle_b68  x1 x2 x3 x4 x5 t0 S = some (.inl r, S') → mW G s (wB M β 316 S) H locs → lv_has ls 6 [(0, .ref (gA G (β + 0))), (1, .int x1), (2, .int x2), (3, .int x3), (4, .int x4), (5, .int x5)] → W p l e { frames := 5, cells := 0, slots := 0, locals := 104 } s m args below meth c H locs 0 0 (mZ below G (some (.int r)) (wB M β 316 S') args s) (F0 m 68 ls [.int t0]) := by
    intro x1 x2 x3 x4 x5 t0 S H locs ls h hw hl
    unfold pX6_addVehicle_b68 at h
    rcases bx_some h with ⟨h68, h⟩ | ⟨E68, h68, h⟩
    · refine r_callS (As := [.int t0]) (rest := []) (st1 := []) hx hb hml hown hts hE hw hl (mX6_refuseIf l G (M := (wB M β 316 S)) h68) (va_cwS 1 hts (zS gS_X6_53) rfl rfl rfl kdX6_refuseIf ⟨Nat.le_of_ble_eq_true rfl, Nat.le_of_ble_eq_true rfl⟩) rfl rfl (Nat.le_of_ble_eq_true rfl) dX6_addVehicle_68 ⟨Nat.zero_le _, Nat.zero_le _⟩ rfl (fun H locs hw => ?_)
      refine lv_aload_n hx hb dX6_addVehicle_71 rfl (lv_at hl 0 rfl) ?_
      refine r_get (v := .ref (gA G (β + 37))) hx hb hts hinX6 hown hE hw hn 0 (by decide) (congrFun hR.1 _) rfl 3 (by decide) (hts _ (wz_in qF_X6_29)) rfl dX6_addVehicle_72 ?_
      refine lv_aload_n hx hb dX6_addVehicle_75 rfl (lv_at hl 0 rfl) ?_
      refine r_get (v := .ref (gA G (β + 3))) hx hb hts hinX6 hown hE hw hn 0 (by decide) (congrFun hR.1 _) rfl 1 (by decide) (hts _ (wz_in qF_X6_19)) rfl dX6_addVehicle_76 ?_
      obtain ⟨S79, h79, h⟩ := cr1_some h
      refine r_callV (As := [.ref (gA G (β + 3))]) (rest := []) (st1 := []) hx hb hml hown hts hE hw hl (mX0_remember l G (by omega) hR h79) (cwV 1 hts (zV gV_X6_153) rfl rfl rfl kdX0_remember ⟨Nat.le_of_ble_eq_true rfl, Nat.le_of_ble_eq_true rfl⟩) (by omega) (congrFun hR.2.2.2.2.2.1 _) rfl rfl rfl rfl (Nat.le_of_ble_eq_true rfl) dX6_addVehicle_79 ⟨Nat.zero_le _, Nat.zero_le _⟩ rfl (fun H locs hw => ?_)
      refine lv_aload_n hx hb dX6_addVehicle_82 rfl (lv_at hl 0 rfl) ?_
      refine r_get (v := .ref (gA G (β + 3))) hx hb hts hinX6 hown hE hw hn 0 (by decide) (congrFun hR.1 _) rfl 1 (by decide) (hts _ (wz_in qF_X6_19)) rfl dX6_addVehicle_83 ?_
      refine lv_iload_n hx hb dX6_addVehicle_86 rfl (lv_at hl 1 rfl) ?_
      refine lv_iload_n hx hb dX6_addVehicle_87 rfl (lv_at hl 2 rfl) ?_
      refine lv_iload_n hx hb dX6_addVehicle_88 rfl (lv_at hl 3 rfl) ?_
      refine lv_iload hx hb dX6_addVehicle_89 (lv_at hl 4 rfl) ?_
      refine lv_iload hx hb dX6_addVehicle_91 (lv_at hl 5 rfl) ?_
      obtain ⟨v93, T93, h93, h⟩ := cws_some h
      refine r_callV (As := [.int x1, .int x2, .int x3, .int x4, .int x5]) (rest := []) (st1 := [.int v93]) hx hb hml hown hts hE hw hl (mc_sub 3 17 (by decide) (mX4_newVehicle l G (by show β + 3 + 17 ≤ _; omega) hR.2.2.2.1 h93)) (cwV 5 hts (zV gV_X6_172) rfl rfl rfl kdX4_newVehicle ⟨Nat.le_of_ble_eq_true rfl, Nat.le_of_ble_eq_true rfl⟩) (by omega) (congrFun hR.2.2.2.1.1 _) rfl rfl rfl rfl (Nat.le_of_ble_eq_true rfl) dX6_addVehicle_93 ⟨Nat.zero_le _, Nat.zero_le _⟩ rfl (fun H locs hw => ?_)
      generalize wB S79 3 17 T93 = S93 at h hw
      cases h
      exact r_iret hx hb hr hlocks hw dX6_addVehicle_96
    · cases h
  have k63 : ∀ (x1 : Int32) (x2 : Int32) (x3 : Int32) (x4 : Int32) (x5 : Int32) (S : mM) (H : Heap) (locs : List Loc) (ls : Array Slot), pX6_addVehicle_b63  x1 x2 x3 x4 x5 S = some (.inl r, S') → mW G s (wB M β 316 S) H locs → lv_has ls 6 [(0, .ref (gA G (β + 0))), (1, .int x1), (2, .int x2), (3, .int x3), (4, .int x4), (5, .int x5)] → W p l e { frames := 5, cells := 0, slots := 0, locals := 104 } s m args below meth c H locs 0 0 (mZ below G (some (.int r)) (wB M β 316 S') args s) (F0 m 63 ls []) := by
    intro x1 x2 x3 x4 x5 S H locs ls h hw hl
    unfold pX6_addVehicle_b63 at h
    refine lv_iconst (v := (nI 1)) hx hb dX6_addVehicle_63 (by decide) ?_
    refine lv_goto (tgt := 68) hx hb dX6_addVehicle_64 (by decide) ?_
    exact k68  x1 x2 x3 x4 x5 (nI 1) S _ _ _ h hw (lv_sub hl [0, 1, 2, 3, 4, 5] rfl)
  unfold pX6_addVehicle at h
  refine lv_aload_n hx hb dX6_addVehicle_0 rfl (lv_at hl 0 rfl) ?_
  refine r_get (v := .ref (gA G (β + 3))) hx hb hts hinX6 hown hE hw hn 0 (by decide) (congrFun hR.1 _) rfl 1 (by decide) (hts _ (wz_in qF_X6_19)) rfl dX6_addVehicle_1 ?_
  refine r_get (v := .ref (gA G (β + 10))) hx hb hts hinX4 hown hE hw hn 3 (by decide) (congrFun hR.2.2.2.1.1 _) rfl 3 (by decide) (hts _ (wz_in qF_X6_102)) rfl dX6_addVehicle_4 ?_
  refine lv_iload_n hx hb dX6_addVehicle_7 rfl (lv_at hl 1 rfl) ?_
  rcases bx_some h with ⟨h8, h⟩ | ⟨E8, h8, h⟩
  · refine r_callS (As := [.ref (gA G (β + 10)), .int a1]) (rest := []) (st1 := []) hx hb hml hown hts hE hw hl (mc_subR 10 2 (by decide) (mX6_checkExists l G (by show β + 10 + 2 ≤ _; omega) hR.2.2.2.1.2.2.2.2.1 h8)) (va_cwS 2 hts (zS gS_X6_112) rfl rfl rfl kdX6_checkExists ⟨Nat.le_of_ble_eq_true rfl, Nat.le_of_ble_eq_true rfl⟩) rfl rfl (Nat.le_of_ble_eq_true rfl) dX6_addVehicle_8 ⟨Nat.zero_le _, Nat.zero_le _⟩ rfl (fun H locs hw => ?_)
    refine lv_iload_n hx hb dX6_addVehicle_11 rfl (lv_at hl 2 rfl) ?_
    refine lv_iconst (v := (nI 1)) hx hb dX6_addVehicle_12 (by decide) ?_
    refine lv_bipush (v := (nI 9)) hx hb dX6_addVehicle_13 (by decide) ?_
    rcases bx_some h with ⟨h15, h⟩ | ⟨E15, h15, h⟩
    · refine r_callS (As := [.int a2, .int (nI 1), .int (nI 9)]) (rest := []) (st1 := []) hx hb hml hown hts hE hw hl (mX6_checkRange l G (M := (wB M β 316 S)) h15) (va_cwS 3 hts (zS gS_X6_45) rfl rfl rfl kdX6_checkRange ⟨Nat.le_of_ble_eq_true rfl, Nat.le_of_ble_eq_true rfl⟩) rfl rfl (Nat.le_of_ble_eq_true rfl) dX6_addVehicle_15 ⟨Nat.zero_le _, Nat.zero_le _⟩ rfl (fun H locs hw => ?_)
      refine lv_iload_n hx hb dX6_addVehicle_18 rfl (lv_at hl 3 rfl) ?_
      refine lv_iconst (v := (nI 1)) hx hb dX6_addVehicle_19 (by decide) ?_
      refine lv_iconst (v := (nI 4)) hx hb dX6_addVehicle_20 (by decide) ?_
      rcases bx_some h with ⟨h21, h⟩ | ⟨E21, h21, h⟩
      · refine r_callS (As := [.int a3, .int (nI 1), .int (nI 4)]) (rest := []) (st1 := []) hx hb hml hown hts hE hw hl (mX6_checkRange l G (M := (wB M β 316 S)) h21) (va_cwS 3 hts (zS gS_X6_45) rfl rfl rfl kdX6_checkRange ⟨Nat.le_of_ble_eq_true rfl, Nat.le_of_ble_eq_true rfl⟩) rfl rfl (Nat.le_of_ble_eq_true rfl) dX6_addVehicle_21 ⟨Nat.zero_le _, Nat.zero_le _⟩ rfl (fun H locs hw => ?_)
        refine lv_iload hx hb dX6_addVehicle_24 (lv_at hl 4 rfl) ?_
        refine lv_bipush (v := (nI 20)) hx hb dX6_addVehicle_26 (by decide) ?_
        refine lv_bipush (v := (nI 99)) hx hb dX6_addVehicle_28 (by decide) ?_
        rcases bx_some h with ⟨h30, h⟩ | ⟨E30, h30, h⟩
        · refine r_callS (As := [.int a4, .int (nI 20), .int (nI 99)]) (rest := []) (st1 := []) hx hb hml hown hts hE hw hl (mX6_checkRange l G (M := (wB M β 316 S)) h30) (va_cwS 3 hts (zS gS_X6_45) rfl rfl rfl kdX6_checkRange ⟨Nat.le_of_ble_eq_true rfl, Nat.le_of_ble_eq_true rfl⟩) rfl rfl (Nat.le_of_ble_eq_true rfl) dX6_addVehicle_30 ⟨Nat.zero_le _, Nat.zero_le _⟩ rfl (fun H locs hw => ?_)
          refine lv_iload hx hb dX6_addVehicle_33 (lv_at hl 5 rfl) ?_
          refine lv_iconst (v := (nI 0)) hx hb dX6_addVehicle_35 (by decide) ?_
          refine lv_iload hx hb dX6_addVehicle_36 (lv_at hl 4 rfl) ?_
          rcases bx_some h with ⟨h38, h⟩ | ⟨E38, h38, h⟩
          · refine r_callS (As := [.int a5, .int (nI 0), .int a4]) (rest := []) (st1 := []) hx hb hml hown hts hE hw hl (mX6_checkRange l G (M := (wB M β 316 S)) h38) (va_cwS 3 hts (zS gS_X6_45) rfl rfl rfl kdX6_checkRange ⟨Nat.le_of_ble_eq_true rfl, Nat.le_of_ble_eq_true rfl⟩) rfl rfl (Nat.le_of_ble_eq_true rfl) dX6_addVehicle_38 ⟨Nat.zero_le _, Nat.zero_le _⟩ rfl (fun H locs hw => ?_)
            refine lv_aload_n hx hb dX6_addVehicle_41 rfl (lv_at hl 0 rfl) ?_
            refine r_get (v := .ref (gA G (β + 3))) hx hb hts hinX6 hown hE hw hn 0 (by decide) (congrFun hR.1 _) rfl 1 (by decide) (hts _ (wz_in qF_X6_19)) rfl dX6_addVehicle_42 ?_
            refine lv_iload_n hx hb dX6_addVehicle_45 rfl (lv_at hl 1 rfl) ?_
            obtain ⟨v46, h46, h⟩ := cr1_some h
            refine r_callV (As := [.int a1]) (rest := []) (st1 := [.int v46]) hx hb hml hown hts hE hw hl (mc_subR 3 17 (by decide) (mX4_hasRoomForVehicle l G (by show β + 3 + 17 ≤ _; omega) hR.2.2.2.1 h46)) (cwV 1 hts (zV gV_X6_169) rfl rfl rfl kdX4_hasRoomForVehicle ⟨Nat.le_of_ble_eq_true rfl, Nat.le_of_ble_eq_true rfl⟩) (by omega) (congrFun hR.2.2.2.1.1 _) rfl rfl rfl rfl (Nat.le_of_ble_eq_true rfl) dX6_addVehicle_46 ⟨Nat.zero_le _, Nat.zero_le _⟩ rfl (fun H locs hw => ?_)
            refine b_eq (tgt := 63) hx hb dX6_addVehicle_49 (by decide) h (fun h => ?_) (fun h => ?_)
            · exact k63  a1 a2 a3 a4 a5 S _ _ _ h hw (lv_sub hl [0, 1, 2, 3, 4, 5] rfl)
            · refine lv_aload_n hx hb dX6_addVehicle_52 rfl (lv_at hl 0 rfl) ?_
              refine r_get (v := .ref (gA G (β + 3))) hx hb hts hinX6 hown hE hw hn 0 (by decide) (congrFun hR.1 _) rfl 1 (by decide) (hts _ (wz_in qF_X6_19)) rfl dX6_addVehicle_53 ?_
              refine lv_iload_n hx hb dX6_addVehicle_56 rfl (lv_at hl 1 rfl) ?_
              obtain ⟨v57, h57, h⟩ := cr1_some h
              refine r_callV (As := [.int a1]) (rest := []) (st1 := [.int v57]) hx hb hml hown hts hE hw hl (mc_subR 3 17 (by decide) (mX4_isAtEnd l G (by show β + 3 + 17 ≤ _; omega) hR.2.2.2.1 h57)) (cwV 1 hts (zV gV_X6_135) rfl rfl rfl kdX4_isAtEnd ⟨Nat.le_of_ble_eq_true rfl, Nat.le_of_ble_eq_true rfl⟩) (by omega) (congrFun hR.2.2.2.1.1 _) rfl rfl rfl rfl (Nat.le_of_ble_eq_true rfl) dX6_addVehicle_57 ⟨Nat.zero_le _, Nat.zero_le _⟩ rfl (fun H locs hw => ?_)
              refine b_eq (tgt := 67) hx hb dX6_addVehicle_60 (by decide) h (fun h => ?_) (fun h => ?_)
              · refine lv_iconst (v := (nI 0)) hx hb dX6_addVehicle_67 (by decide) ?_
                exact k68  a1 a2 a3 a4 a5 (nI 0) S _ _ _ h hw (lv_sub hl [0, 1, 2, 3, 4, 5] rfl)
              · exact k63  a1 a2 a3 a4 a5 S _ _ _ h hw (lv_sub hl [0, 1, 2, 3, 4, 5] rfl)
          · cases h
        · cases h
      · cases h
    · cases h
  · cases h
set_option maxHeartbeats 4000000 in
set_option maxRecDepth 100000 in
theorem xX6_addVehicle (l : Launch) (hfl : l.stackTraces = false) (G : mG) {β : Nat} {M S S' : mM} {a1 : Int32} {a2 : Int32} {a3 : Int32} {a4 : Int32} {a5 : Int32} {E : String} (hn : β + 316 ≤ gN G) (hR : isWR G β) (h : pX6_addVehicle a1 a2 a3 a4 a5 S = some (.inr E, S')) : MX l G yX6_addVehicle zzX6_addVehicle 8 124 [.ref (gA G (β + 0)), .int a1, .int a2, .int a3, .int a4, .int a5] (wB M β 316 S) (wB M β 316 S') E := by
  refine mx_of (cc := cX6_addVehicle) (maxL := 6) (ret := (some .int)) (by decide) rfl (Nat.le_of_ble_eq_true rfl) ?_
  intro p e s m args below meth c H ls hx hb hr hts hown hml hlocks hout hE hw _ hl
  have hl : lv_has ls 6 [(0, .ref (gA G (β + 0))), (1, .int a1), (2, .int a2), (3, .int a3), (4, .int a4), (5, .int a5)] := hl
  have hinX4 : ∀ w ∈ wsX40, w ∈ zzX6_addVehicle := fun w h9 => wz_in (zinX4 w h9)
  have hinX6 : ∀ w ∈ wsX60, w ∈ zzX6_addVehicle := fun w h9 => wz_in (zinX6 w h9)
  have k68 : ∀ (x1 : Int32) (x2 : Int32) (x3 : Int32) (x4 : Int32) (x5 : Int32) (t0 : Int32) (S : mM) (H : Heap) (locs : List Loc) (ls : Array Slot), pX6_addVehicle_b68  x1 x2 x3 x4 x5 t0 S = some (.inr E, S') → mW G s (wB M β 316 S) H locs → lv_has ls 6 [(0, .ref (gA G (β + 0))), (1, .int x1), (2, .int x2), (3, .int x3), (4, .int x4), (5, .int x5)] → W p l e { frames := 8, cells := 1, slots := 6, locals := 124 } s m args below meth c H locs 0 0 (mY below G E (wB M β 316 S') args s) (F0 m 68 ls [.int t0]) := by
    intro x1 x2 x3 x4 x5 t0 S H locs ls h hw hl
    unfold pX6_addVehicle_b68 at h
    rcases bx_some h with ⟨h68, h⟩ | ⟨E68, h68, h⟩
    · refine r_callS (As := [.int t0]) (rest := []) (st1 := []) hx hb hml hown hts hE hw hl (mX6_refuseIf l G (M := (wB M β 316 S)) h68) (va_cwS 1 hts (zS gS_X6_53) rfl rfl rfl kdX6_refuseIf ⟨Nat.le_of_ble_eq_true rfl, Nat.le_of_ble_eq_true rfl⟩) rfl rfl (Nat.le_of_ble_eq_true rfl) dX6_addVehicle_68 ⟨Nat.zero_le _, Nat.zero_le _⟩ rfl (fun H locs hw => ?_)
      refine lv_aload_n hx hb dX6_addVehicle_71 rfl (lv_at hl 0 rfl) ?_
      refine r_get (v := .ref (gA G (β + 37))) hx hb hts hinX6 hown hE hw hn 0 (by decide) (congrFun hR.1 _) rfl 3 (by decide) (hts _ (wz_in qF_X6_29)) rfl dX6_addVehicle_72 ?_
      refine lv_aload_n hx hb dX6_addVehicle_75 rfl (lv_at hl 0 rfl) ?_
      refine r_get (v := .ref (gA G (β + 3))) hx hb hts hinX6 hown hE hw hn 0 (by decide) (congrFun hR.1 _) rfl 1 (by decide) (hts _ (wz_in qF_X6_19)) rfl dX6_addVehicle_76 ?_
      obtain ⟨S79, h79, h⟩ := cr1_some h
      refine r_callV (As := [.ref (gA G (β + 3))]) (rest := []) (st1 := []) hx hb hml hown hts hE hw hl (mX0_remember l G (by omega) hR h79) (cwV 1 hts (zV gV_X6_153) rfl rfl rfl kdX0_remember ⟨Nat.le_of_ble_eq_true rfl, Nat.le_of_ble_eq_true rfl⟩) (by omega) (congrFun hR.2.2.2.2.2.1 _) rfl rfl rfl rfl (Nat.le_of_ble_eq_true rfl) dX6_addVehicle_79 ⟨Nat.zero_le _, Nat.zero_le _⟩ rfl (fun H locs hw => ?_)
      refine lv_aload_n hx hb dX6_addVehicle_82 rfl (lv_at hl 0 rfl) ?_
      refine r_get (v := .ref (gA G (β + 3))) hx hb hts hinX6 hown hE hw hn 0 (by decide) (congrFun hR.1 _) rfl 1 (by decide) (hts _ (wz_in qF_X6_19)) rfl dX6_addVehicle_83 ?_
      refine lv_iload_n hx hb dX6_addVehicle_86 rfl (lv_at hl 1 rfl) ?_
      refine lv_iload_n hx hb dX6_addVehicle_87 rfl (lv_at hl 2 rfl) ?_
      refine lv_iload_n hx hb dX6_addVehicle_88 rfl (lv_at hl 3 rfl) ?_
      refine lv_iload hx hb dX6_addVehicle_89 (lv_at hl 4 rfl) ?_
      refine lv_iload hx hb dX6_addVehicle_91 (lv_at hl 5 rfl) ?_
      obtain ⟨v93, T93, h93, h⟩ := cws_some h
      refine r_callV (As := [.int x1, .int x2, .int x3, .int x4, .int x5]) (rest := []) (st1 := [.int v93]) hx hb hml hown hts hE hw hl (mc_sub 3 17 (by decide) (mX4_newVehicle l G (by show β + 3 + 17 ≤ _; omega) hR.2.2.2.1 h93)) (cwV 5 hts (zV gV_X6_172) rfl rfl rfl kdX4_newVehicle ⟨Nat.le_of_ble_eq_true rfl, Nat.le_of_ble_eq_true rfl⟩) (by omega) (congrFun hR.2.2.2.1.1 _) rfl rfl rfl rfl (Nat.le_of_ble_eq_true rfl) dX6_addVehicle_93 ⟨Nat.zero_le _, Nat.zero_le _⟩ rfl (fun H locs hw => ?_)
      generalize wB S79 3 17 T93 = S93 at h hw
      cases h
    · rw [← (Prod.mk.inj (Option.some.inj h)).2, ← Sum.inr.inj (Prod.mk.inj (Option.some.inj h)).1]
      exact x_callS (As := [.int t0]) (rest := []) hx hb hml hown hts hE hw hl (xX6_refuseIf l hfl G (M := (wB M β 316 S)) h68) (va_cwS 1 hts (zS gS_X6_53) rfl rfl rfl kdX6_refuseIf ⟨Nat.le_of_ble_eq_true rfl, Nat.le_of_ble_eq_true rfl⟩) rfl rfl (Nat.le_of_ble_eq_true rfl) dX6_addVehicle_68 ⟨Nat.le_refl _, Nat.le_refl _⟩ hout hlocks
  have k63 : ∀ (x1 : Int32) (x2 : Int32) (x3 : Int32) (x4 : Int32) (x5 : Int32) (S : mM) (H : Heap) (locs : List Loc) (ls : Array Slot), pX6_addVehicle_b63  x1 x2 x3 x4 x5 S = some (.inr E, S') → mW G s (wB M β 316 S) H locs → lv_has ls 6 [(0, .ref (gA G (β + 0))), (1, .int x1), (2, .int x2), (3, .int x3), (4, .int x4), (5, .int x5)] → W p l e { frames := 8, cells := 1, slots := 6, locals := 124 } s m args below meth c H locs 0 0 (mY below G E (wB M β 316 S') args s) (F0 m 63 ls []) := by
    intro x1 x2 x3 x4 x5 S H locs ls h hw hl
    unfold pX6_addVehicle_b63 at h
    refine lv_iconst (v := (nI 1)) hx hb dX6_addVehicle_63 (by decide) ?_
    refine lv_goto (tgt := 68) hx hb dX6_addVehicle_64 (by decide) ?_
    exact k68  x1 x2 x3 x4 x5 (nI 1) S _ _ _ h hw (lv_sub hl [0, 1, 2, 3, 4, 5] rfl)
  unfold pX6_addVehicle at h
  refine lv_aload_n hx hb dX6_addVehicle_0 rfl (lv_at hl 0 rfl) ?_
  refine r_get (v := .ref (gA G (β + 3))) hx hb hts hinX6 hown hE hw hn 0 (by decide) (congrFun hR.1 _) rfl 1 (by decide) (hts _ (wz_in qF_X6_19)) rfl dX6_addVehicle_1 ?_
  refine r_get (v := .ref (gA G (β + 10))) hx hb hts hinX4 hown hE hw hn 3 (by decide) (congrFun hR.2.2.2.1.1 _) rfl 3 (by decide) (hts _ (wz_in qF_X6_102)) rfl dX6_addVehicle_4 ?_
  refine lv_iload_n hx hb dX6_addVehicle_7 rfl (lv_at hl 1 rfl) ?_
  rcases bx_some h with ⟨h8, h⟩ | ⟨E8, h8, h⟩
  · refine r_callS (As := [.ref (gA G (β + 10)), .int a1]) (rest := []) (st1 := []) hx hb hml hown hts hE hw hl (mc_subR 10 2 (by decide) (mX6_checkExists l G (by show β + 10 + 2 ≤ _; omega) hR.2.2.2.1.2.2.2.2.1 h8)) (va_cwS 2 hts (zS gS_X6_112) rfl rfl rfl kdX6_checkExists ⟨Nat.le_of_ble_eq_true rfl, Nat.le_of_ble_eq_true rfl⟩) rfl rfl (Nat.le_of_ble_eq_true rfl) dX6_addVehicle_8 ⟨Nat.zero_le _, Nat.zero_le _⟩ rfl (fun H locs hw => ?_)
    refine lv_iload_n hx hb dX6_addVehicle_11 rfl (lv_at hl 2 rfl) ?_
    refine lv_iconst (v := (nI 1)) hx hb dX6_addVehicle_12 (by decide) ?_
    refine lv_bipush (v := (nI 9)) hx hb dX6_addVehicle_13 (by decide) ?_
    rcases bx_some h with ⟨h15, h⟩ | ⟨E15, h15, h⟩
    · refine r_callS (As := [.int a2, .int (nI 1), .int (nI 9)]) (rest := []) (st1 := []) hx hb hml hown hts hE hw hl (mX6_checkRange l G (M := (wB M β 316 S)) h15) (va_cwS 3 hts (zS gS_X6_45) rfl rfl rfl kdX6_checkRange ⟨Nat.le_of_ble_eq_true rfl, Nat.le_of_ble_eq_true rfl⟩) rfl rfl (Nat.le_of_ble_eq_true rfl) dX6_addVehicle_15 ⟨Nat.zero_le _, Nat.zero_le _⟩ rfl (fun H locs hw => ?_)
      refine lv_iload_n hx hb dX6_addVehicle_18 rfl (lv_at hl 3 rfl) ?_
      refine lv_iconst (v := (nI 1)) hx hb dX6_addVehicle_19 (by decide) ?_
      refine lv_iconst (v := (nI 4)) hx hb dX6_addVehicle_20 (by decide) ?_
      rcases bx_some h with ⟨h21, h⟩ | ⟨E21, h21, h⟩
      · refine r_callS (As := [.int a3, .int (nI 1), .int (nI 4)]) (rest := []) (st1 := []) hx hb hml hown hts hE hw hl (mX6_checkRange l G (M := (wB M β 316 S)) h21) (va_cwS 3 hts (zS gS_X6_45) rfl rfl rfl kdX6_checkRange ⟨Nat.le_of_ble_eq_true rfl, Nat.le_of_ble_eq_true rfl⟩) rfl rfl (Nat.le_of_ble_eq_true rfl) dX6_addVehicle_21 ⟨Nat.zero_le _, Nat.zero_le _⟩ rfl (fun H locs hw => ?_)
        refine lv_iload hx hb dX6_addVehicle_24 (lv_at hl 4 rfl) ?_
        refine lv_bipush (v := (nI 20)) hx hb dX6_addVehicle_26 (by decide) ?_
        refine lv_bipush (v := (nI 99)) hx hb dX6_addVehicle_28 (by decide) ?_
        rcases bx_some h with ⟨h30, h⟩ | ⟨E30, h30, h⟩
        · refine r_callS (As := [.int a4, .int (nI 20), .int (nI 99)]) (rest := []) (st1 := []) hx hb hml hown hts hE hw hl (mX6_checkRange l G (M := (wB M β 316 S)) h30) (va_cwS 3 hts (zS gS_X6_45) rfl rfl rfl kdX6_checkRange ⟨Nat.le_of_ble_eq_true rfl, Nat.le_of_ble_eq_true rfl⟩) rfl rfl (Nat.le_of_ble_eq_true rfl) dX6_addVehicle_30 ⟨Nat.zero_le _, Nat.zero_le _⟩ rfl (fun H locs hw => ?_)
          refine lv_iload hx hb dX6_addVehicle_33 (lv_at hl 5 rfl) ?_
          refine lv_iconst (v := (nI 0)) hx hb dX6_addVehicle_35 (by decide) ?_
          refine lv_iload hx hb dX6_addVehicle_36 (lv_at hl 4 rfl) ?_
          rcases bx_some h with ⟨h38, h⟩ | ⟨E38, h38, h⟩
          · refine r_callS (As := [.int a5, .int (nI 0), .int a4]) (rest := []) (st1 := []) hx hb hml hown hts hE hw hl (mX6_checkRange l G (M := (wB M β 316 S)) h38) (va_cwS 3 hts (zS gS_X6_45) rfl rfl rfl kdX6_checkRange ⟨Nat.le_of_ble_eq_true rfl, Nat.le_of_ble_eq_true rfl⟩) rfl rfl (Nat.le_of_ble_eq_true rfl) dX6_addVehicle_38 ⟨Nat.zero_le _, Nat.zero_le _⟩ rfl (fun H locs hw => ?_)
            refine lv_aload_n hx hb dX6_addVehicle_41 rfl (lv_at hl 0 rfl) ?_
            refine r_get (v := .ref (gA G (β + 3))) hx hb hts hinX6 hown hE hw hn 0 (by decide) (congrFun hR.1 _) rfl 1 (by decide) (hts _ (wz_in qF_X6_19)) rfl dX6_addVehicle_42 ?_
            refine lv_iload_n hx hb dX6_addVehicle_45 rfl (lv_at hl 1 rfl) ?_
            obtain ⟨v46, h46, h⟩ := cr1_some h
            refine r_callV (As := [.int a1]) (rest := []) (st1 := [.int v46]) hx hb hml hown hts hE hw hl (mc_subR 3 17 (by decide) (mX4_hasRoomForVehicle l G (by show β + 3 + 17 ≤ _; omega) hR.2.2.2.1 h46)) (cwV 1 hts (zV gV_X6_169) rfl rfl rfl kdX4_hasRoomForVehicle ⟨Nat.le_of_ble_eq_true rfl, Nat.le_of_ble_eq_true rfl⟩) (by omega) (congrFun hR.2.2.2.1.1 _) rfl rfl rfl rfl (Nat.le_of_ble_eq_true rfl) dX6_addVehicle_46 ⟨Nat.zero_le _, Nat.zero_le _⟩ rfl (fun H locs hw => ?_)
            refine b_eq (tgt := 63) hx hb dX6_addVehicle_49 (by decide) h (fun h => ?_) (fun h => ?_)
            · exact k63  a1 a2 a3 a4 a5 S _ _ _ h hw (lv_sub hl [0, 1, 2, 3, 4, 5] rfl)
            · refine lv_aload_n hx hb dX6_addVehicle_52 rfl (lv_at hl 0 rfl) ?_
              refine r_get (v := .ref (gA G (β + 3))) hx hb hts hinX6 hown hE hw hn 0 (by decide) (congrFun hR.1 _) rfl 1 (by decide) (hts _ (wz_in qF_X6_19)) rfl dX6_addVehicle_53 ?_
              refine lv_iload_n hx hb dX6_addVehicle_56 rfl (lv_at hl 1 rfl) ?_
              obtain ⟨v57, h57, h⟩ := cr1_some h
              refine r_callV (As := [.int a1]) (rest := []) (st1 := [.int v57]) hx hb hml hown hts hE hw hl (mc_subR 3 17 (by decide) (mX4_isAtEnd l G (by show β + 3 + 17 ≤ _; omega) hR.2.2.2.1 h57)) (cwV 1 hts (zV gV_X6_135) rfl rfl rfl kdX4_isAtEnd ⟨Nat.le_of_ble_eq_true rfl, Nat.le_of_ble_eq_true rfl⟩) (by omega) (congrFun hR.2.2.2.1.1 _) rfl rfl rfl rfl (Nat.le_of_ble_eq_true rfl) dX6_addVehicle_57 ⟨Nat.zero_le _, Nat.zero_le _⟩ rfl (fun H locs hw => ?_)
              refine b_eq (tgt := 67) hx hb dX6_addVehicle_60 (by decide) h (fun h => ?_) (fun h => ?_)
              · refine lv_iconst (v := (nI 0)) hx hb dX6_addVehicle_67 (by decide) ?_
                exact k68  a1 a2 a3 a4 a5 (nI 0) S _ _ _ h hw (lv_sub hl [0, 1, 2, 3, 4, 5] rfl)
              · exact k63  a1 a2 a3 a4 a5 S _ _ _ h hw (lv_sub hl [0, 1, 2, 3, 4, 5] rfl)
          · rw [← (Prod.mk.inj (Option.some.inj h)).2, ← Sum.inr.inj (Prod.mk.inj (Option.some.inj h)).1]
            exact x_callS (As := [.int a5, .int (nI 0), .int a4]) (rest := []) hx hb hml hown hts hE hw hl (xX6_checkRange l hfl G (M := (wB M β 316 S)) h38) (va_cwS 3 hts (zS gS_X6_45) rfl rfl rfl kdX6_checkRange ⟨Nat.le_of_ble_eq_true rfl, Nat.le_of_ble_eq_true rfl⟩) rfl rfl (Nat.le_of_ble_eq_true rfl) dX6_addVehicle_38 ⟨Nat.le_refl _, Nat.le_refl _⟩ hout hlocks
        · rw [← (Prod.mk.inj (Option.some.inj h)).2, ← Sum.inr.inj (Prod.mk.inj (Option.some.inj h)).1]
          exact x_callS (As := [.int a4, .int (nI 20), .int (nI 99)]) (rest := []) hx hb hml hown hts hE hw hl (xX6_checkRange l hfl G (M := (wB M β 316 S)) h30) (va_cwS 3 hts (zS gS_X6_45) rfl rfl rfl kdX6_checkRange ⟨Nat.le_of_ble_eq_true rfl, Nat.le_of_ble_eq_true rfl⟩) rfl rfl (Nat.le_of_ble_eq_true rfl) dX6_addVehicle_30 ⟨Nat.le_refl _, Nat.le_refl _⟩ hout hlocks
      · rw [← (Prod.mk.inj (Option.some.inj h)).2, ← Sum.inr.inj (Prod.mk.inj (Option.some.inj h)).1]
        exact x_callS (As := [.int a3, .int (nI 1), .int (nI 4)]) (rest := []) hx hb hml hown hts hE hw hl (xX6_checkRange l hfl G (M := (wB M β 316 S)) h21) (va_cwS 3 hts (zS gS_X6_45) rfl rfl rfl kdX6_checkRange ⟨Nat.le_of_ble_eq_true rfl, Nat.le_of_ble_eq_true rfl⟩) rfl rfl (Nat.le_of_ble_eq_true rfl) dX6_addVehicle_21 ⟨Nat.le_refl _, Nat.le_refl _⟩ hout hlocks
    · rw [← (Prod.mk.inj (Option.some.inj h)).2, ← Sum.inr.inj (Prod.mk.inj (Option.some.inj h)).1]
      exact x_callS (As := [.int a2, .int (nI 1), .int (nI 9)]) (rest := []) hx hb hml hown hts hE hw hl (xX6_checkRange l hfl G (M := (wB M β 316 S)) h15) (va_cwS 3 hts (zS gS_X6_45) rfl rfl rfl kdX6_checkRange ⟨Nat.le_of_ble_eq_true rfl, Nat.le_of_ble_eq_true rfl⟩) rfl rfl (Nat.le_of_ble_eq_true rfl) dX6_addVehicle_15 ⟨Nat.le_refl _, Nat.le_refl _⟩ hout hlocks
  · rw [← (Prod.mk.inj (Option.some.inj h)).2, ← Sum.inr.inj (Prod.mk.inj (Option.some.inj h)).1]
    exact x_callS (As := [.ref (gA G (β + 10)), .int a1]) (rest := []) hx hb hml hown hts hE hw hl (mx_subR 10 2 (by decide) (xX6_checkExists l hfl G (by show β + 10 + 2 ≤ _; omega) hR.2.2.2.1.2.2.2.2.1 h8)) (va_cwS 2 hts (zS gS_X6_112) rfl rfl rfl kdX6_checkExists ⟨Nat.le_of_ble_eq_true rfl, Nat.le_of_ble_eq_true rfl⟩) rfl rfl (Nat.le_of_ble_eq_true rfl) dX6_addVehicle_8 ⟨Nat.le_refl _, Nat.le_refl _⟩ hout hlocks

set_option maxHeartbeats 4000000 in
set_option maxRecDepth 100000 in
theorem mX6_hold (l : Launch) (G : mG) {β : Nat} {M S S' : mM} {a1 : Int32} {a2 : Int32} {r : Int32} (hn : β + 316 ≤ gN G) (hR : isWR G β) (h : pX6_hold a1 a2 S = some (.inl r, S')) : MC l G yX6_hold zzX6_hold 5 104 [.ref (gA G (β + 0)), .int a1, .int a2] (wB M β 316 S) (wB M β 316 S') (some (.int r)) := by
  refine mc_of (cc := cX6_hold) (maxL := 4) (ret := (some .int)) (by decide) rfl (Nat.le_of_ble_eq_true rfl) ?_
  intro p e s m args below meth c H ls hx hb hr hts hown hml hlocks hE hw hl
  have hl : lv_has ls 4 [(0, .ref (gA G (β + 0))), (1, .int a1), (2, .int a2)] := hl
  have hinX4 : ∀ w ∈ wsX40, w ∈ zzX6_hold := fun w h9 => wz_in (zinX4 w h9)
  have hinX6 : ∀ w ∈ wsX60, w ∈ zzX6_hold := fun w h9 => wz_in (zinX6 w h9)
  unfold pX6_hold at h
  refine lv_aload_n hx hb dX6_hold_0 rfl (lv_at hl 0 rfl) ?_
  refine r_get (v := .ref (gA G (β + 3))) hx hb hts hinX6 hown hE hw hn 0 (by decide) (congrFun hR.1 _) rfl 1 (by decide) (hts _ (wz_in qF_X6_19)) rfl dX6_hold_1 ?_
  refine r_get (v := .ref (gA G (β + 10))) hx hb hts hinX4 hown hE hw hn 3 (by decide) (congrFun hR.2.2.2.1.1 _) rfl 3 (by decide) (hts _ (wz_in qF_X6_102)) rfl dX6_hold_4 ?_
  refine lv_iload_n hx hb dX6_hold_7 rfl (lv_at hl 1 rfl) ?_
  rcases bx_some h with ⟨h8, h⟩ | ⟨E8, h8, h⟩
  · refine r_callS (As := [.ref (gA G (β + 10)), .int a1]) (rest := []) (st1 := []) hx hb hml hown hts hE hw hl (mc_subR 10 2 (by decide) (mX6_checkExists l G (by show β + 10 + 2 ≤ _; omega) hR.2.2.2.1.2.2.2.2.1 h8)) (va_cwS 2 hts (zS gS_X6_112) rfl rfl rfl kdX6_checkExists ⟨Nat.le_of_ble_eq_true rfl, Nat.le_of_ble_eq_true rfl⟩) rfl rfl (Nat.le_of_ble_eq_true rfl) dX6_hold_8 ⟨Nat.zero_le _, Nat.zero_le _⟩ rfl (fun H locs hw => ?_)
    refine lv_iload_n hx hb dX6_hold_11 rfl (lv_at hl 2 rfl) ?_
    refine lv_iconst (v := (nI 0)) hx hb dX6_hold_12 (by decide) ?_
    refine lv_bipush (v := (nI 23)) hx hb dX6_hold_13 (by decide) ?_
    rcases bx_some h with ⟨h15, h⟩ | ⟨E15, h15, h⟩
    · refine r_callS (As := [.int a2, .int (nI 0), .int (nI 23)]) (rest := []) (st1 := []) hx hb hml hown hts hE hw hl (mX6_checkRange l G (M := (wB M β 316 S)) h15) (va_cwS 3 hts (zS gS_X6_45) rfl rfl rfl kdX6_checkRange ⟨Nat.le_of_ble_eq_true rfl, Nat.le_of_ble_eq_true rfl⟩) rfl rfl (Nat.le_of_ble_eq_true rfl) dX6_hold_15 ⟨Nat.zero_le _, Nat.zero_le _⟩ rfl (fun H locs hw => ?_)
      refine lv_aload_n hx hb dX6_hold_18 rfl (lv_at hl 0 rfl) ?_
      refine r_get (v := .ref (gA G (β + 37))) hx hb hts hinX6 hown hE hw hn 0 (by decide) (congrFun hR.1 _) rfl 3 (by decide) (hts _ (wz_in qF_X6_29)) rfl dX6_hold_19 ?_
      refine lv_aload_n hx hb dX6_hold_22 rfl (lv_at hl 0 rfl) ?_
      refine r_get (v := .ref (gA G (β + 3))) hx hb hts hinX6 hown hE hw hn 0 (by decide) (congrFun hR.1 _) rfl 1 (by decide) (hts _ (wz_in qF_X6_19)) rfl dX6_hold_23 ?_
      obtain ⟨S26, h26, h⟩ := cr1_some h
      refine r_callV (As := [.ref (gA G (β + 3))]) (rest := []) (st1 := []) hx hb hml hown hts hE hw hl (mX0_remember l G (by omega) hR h26) (cwV 1 hts (zV gV_X6_153) rfl rfl rfl kdX0_remember ⟨Nat.le_of_ble_eq_true rfl, Nat.le_of_ble_eq_true rfl⟩) (by omega) (congrFun hR.2.2.2.2.2.1 _) rfl rfl rfl rfl (Nat.le_of_ble_eq_true rfl) dX6_hold_26 ⟨Nat.zero_le _, Nat.zero_le _⟩ rfl (fun H locs hw => ?_)
      refine lv_aload_n hx hb dX6_hold_29 rfl (lv_at hl 0 rfl) ?_
      refine r_get (v := .ref (gA G (β + 3))) hx hb hts hinX6 hown hE hw hn 0 (by decide) (congrFun hR.1 _) rfl 1 (by decide) (hts _ (wz_in qF_X6_19)) rfl dX6_hold_30 ?_
      refine r_get (v := .ref (gA G (β + 10))) hx hb hts hinX4 hown hE hw hn 3 (by decide) (congrFun hR.2.2.2.1.1 _) rfl 3 (by decide) (hts _ (wz_in qF_X6_102)) rfl dX6_hold_33 ?_
      refine lv_iload_n hx hb dX6_hold_36 rfl (lv_at hl 1 rfl) ?_
      refine lv_iconst (v := (nI 1)) hx hb dX6_hold_37 (by decide) ?_
      obtain ⟨v38, h38, h⟩ := cr1_some h
      refine r_callV (As := [.int a1, .int (nI 1)]) (rest := []) (st1 := [.int v38]) hx hb hml hown hts hE hw hl (mc_subR 10 2 (by decide) (mX5_get l G (by show β + 10 + 2 ≤ _; omega) hR.2.2.2.1.2.2.2.2.1 h38)) (cwV 2 hts (zV gV_X6_116) rfl rfl rfl kdX5_get ⟨Nat.le_of_ble_eq_true rfl, Nat.le_of_ble_eq_true rfl⟩) (by omega) (congrFun hR.2.2.2.1.2.2.2.2.1.1 _) rfl rfl rfl rfl (Nat.le_of_ble_eq_true rfl) dX6_hold_38 ⟨Nat.zero_le _, Nat.zero_le _⟩ rfl (fun H locs hw => ?_)
      refine lv_istore_n (lv' := [(3, .int v38), (0, .ref (gA G (β + 0))), (1, .int a1), (2, .int a2)]) hx hb dX6_hold_41 rfl hl (by decide) rfl (fun ls hl => ?_)
      refine lv_aload_n hx hb dX6_hold_42 rfl (lv_at hl 1 rfl) ?_
      refine r_get (v := .ref (gA G (β + 3))) hx hb hts hinX6 hown hE hw hn 0 (by decide) (congrFun hR.1 _) rfl 1 (by decide) (hts _ (wz_in qF_X6_19)) rfl dX6_hold_43 ?_
      refine r_get (v := .ref (gA G (β + 10))) hx hb hts hinX4 hown hE hw hn 3 (by decide) (congrFun hR.2.2.2.1.1 _) rfl 3 (by decide) (hts _ (wz_in qF_X6_102)) rfl dX6_hold_46 ?_
      refine lv_iload_n hx hb dX6_hold_49 rfl (lv_at hl 2 rfl) ?_
      refine lv_iconst (v := (nI 1)) hx hb dX6_hold_50 (by decide) ?_
      refine lv_iload_n hx hb dX6_hold_51 rfl (lv_at hl 3 rfl) ?_
      obtain ⟨T52, h52, h⟩ := cvs_some h
      refine r_callV (As := [.int a1, .int (nI 1), .int a2]) (rest := []) (st1 := []) hx hb hml hown hts hE hw hl (mc_sub 10 2 (by decide) (mX5_put l G (by show β + 10 + 2 ≤ _; omega) hR.2.2.2.1.2.2.2.2.1 h52)) (cwV 3 hts (zV gV_X6_176) rfl rfl rfl kdX5_put ⟨Nat.le_of_ble_eq_true rfl, Nat.le_of_ble_eq_true rfl⟩) (by omega) (congrFun hR.2.2.2.1.2.2.2.2.1.1 _) rfl rfl rfl rfl (Nat.le_of_ble_eq_true rfl) dX6_hold_52 ⟨Nat.zero_le _, Nat.zero_le _⟩ rfl (fun H locs hw => ?_)
      generalize wB S26 10 2 T52 = S52 at h hw
      refine lv_iload_n hx hb dX6_hold_55 rfl (lv_at hl 0 rfl) ?_
      cases h
      exact r_iret hx hb hr hlocks hw dX6_hold_56
    · cases h
  · cases h
set_option maxHeartbeats 4000000 in
set_option maxRecDepth 100000 in
theorem xX6_hold (l : Launch) (hfl : l.stackTraces = false) (G : mG) {β : Nat} {M S S' : mM} {a1 : Int32} {a2 : Int32} {E : String} (hn : β + 316 ≤ gN G) (hR : isWR G β) (h : pX6_hold a1 a2 S = some (.inr E, S')) : MX l G yX6_hold zzX6_hold 8 124 [.ref (gA G (β + 0)), .int a1, .int a2] (wB M β 316 S) (wB M β 316 S') E := by
  refine mx_of (cc := cX6_hold) (maxL := 4) (ret := (some .int)) (by decide) rfl (Nat.le_of_ble_eq_true rfl) ?_
  intro p e s m args below meth c H ls hx hb hr hts hown hml hlocks hout hE hw _ hl
  have hl : lv_has ls 4 [(0, .ref (gA G (β + 0))), (1, .int a1), (2, .int a2)] := hl
  have hinX4 : ∀ w ∈ wsX40, w ∈ zzX6_hold := fun w h9 => wz_in (zinX4 w h9)
  have hinX6 : ∀ w ∈ wsX60, w ∈ zzX6_hold := fun w h9 => wz_in (zinX6 w h9)
  unfold pX6_hold at h
  refine lv_aload_n hx hb dX6_hold_0 rfl (lv_at hl 0 rfl) ?_
  refine r_get (v := .ref (gA G (β + 3))) hx hb hts hinX6 hown hE hw hn 0 (by decide) (congrFun hR.1 _) rfl 1 (by decide) (hts _ (wz_in qF_X6_19)) rfl dX6_hold_1 ?_
  refine r_get (v := .ref (gA G (β + 10))) hx hb hts hinX4 hown hE hw hn 3 (by decide) (congrFun hR.2.2.2.1.1 _) rfl 3 (by decide) (hts _ (wz_in qF_X6_102)) rfl dX6_hold_4 ?_
  refine lv_iload_n hx hb dX6_hold_7 rfl (lv_at hl 1 rfl) ?_
  rcases bx_some h with ⟨h8, h⟩ | ⟨E8, h8, h⟩
  · refine r_callS (As := [.ref (gA G (β + 10)), .int a1]) (rest := []) (st1 := []) hx hb hml hown hts hE hw hl (mc_subR 10 2 (by decide) (mX6_checkExists l G (by show β + 10 + 2 ≤ _; omega) hR.2.2.2.1.2.2.2.2.1 h8)) (va_cwS 2 hts (zS gS_X6_112) rfl rfl rfl kdX6_checkExists ⟨Nat.le_of_ble_eq_true rfl, Nat.le_of_ble_eq_true rfl⟩) rfl rfl (Nat.le_of_ble_eq_true rfl) dX6_hold_8 ⟨Nat.zero_le _, Nat.zero_le _⟩ rfl (fun H locs hw => ?_)
    refine lv_iload_n hx hb dX6_hold_11 rfl (lv_at hl 2 rfl) ?_
    refine lv_iconst (v := (nI 0)) hx hb dX6_hold_12 (by decide) ?_
    refine lv_bipush (v := (nI 23)) hx hb dX6_hold_13 (by decide) ?_
    rcases bx_some h with ⟨h15, h⟩ | ⟨E15, h15, h⟩
    · refine r_callS (As := [.int a2, .int (nI 0), .int (nI 23)]) (rest := []) (st1 := []) hx hb hml hown hts hE hw hl (mX6_checkRange l G (M := (wB M β 316 S)) h15) (va_cwS 3 hts (zS gS_X6_45) rfl rfl rfl kdX6_checkRange ⟨Nat.le_of_ble_eq_true rfl, Nat.le_of_ble_eq_true rfl⟩) rfl rfl (Nat.le_of_ble_eq_true rfl) dX6_hold_15 ⟨Nat.zero_le _, Nat.zero_le _⟩ rfl (fun H locs hw => ?_)
      refine lv_aload_n hx hb dX6_hold_18 rfl (lv_at hl 0 rfl) ?_
      refine r_get (v := .ref (gA G (β + 37))) hx hb hts hinX6 hown hE hw hn 0 (by decide) (congrFun hR.1 _) rfl 3 (by decide) (hts _ (wz_in qF_X6_29)) rfl dX6_hold_19 ?_
      refine lv_aload_n hx hb dX6_hold_22 rfl (lv_at hl 0 rfl) ?_
      refine r_get (v := .ref (gA G (β + 3))) hx hb hts hinX6 hown hE hw hn 0 (by decide) (congrFun hR.1 _) rfl 1 (by decide) (hts _ (wz_in qF_X6_19)) rfl dX6_hold_23 ?_
      obtain ⟨S26, h26, h⟩ := cr1_some h
      refine r_callV (As := [.ref (gA G (β + 3))]) (rest := []) (st1 := []) hx hb hml hown hts hE hw hl (mX0_remember l G (by omega) hR h26) (cwV 1 hts (zV gV_X6_153) rfl rfl rfl kdX0_remember ⟨Nat.le_of_ble_eq_true rfl, Nat.le_of_ble_eq_true rfl⟩) (by omega) (congrFun hR.2.2.2.2.2.1 _) rfl rfl rfl rfl (Nat.le_of_ble_eq_true rfl) dX6_hold_26 ⟨Nat.zero_le _, Nat.zero_le _⟩ rfl (fun H locs hw => ?_)
      refine lv_aload_n hx hb dX6_hold_29 rfl (lv_at hl 0 rfl) ?_
      refine r_get (v := .ref (gA G (β + 3))) hx hb hts hinX6 hown hE hw hn 0 (by decide) (congrFun hR.1 _) rfl 1 (by decide) (hts _ (wz_in qF_X6_19)) rfl dX6_hold_30 ?_
      refine r_get (v := .ref (gA G (β + 10))) hx hb hts hinX4 hown hE hw hn 3 (by decide) (congrFun hR.2.2.2.1.1 _) rfl 3 (by decide) (hts _ (wz_in qF_X6_102)) rfl dX6_hold_33 ?_
      refine lv_iload_n hx hb dX6_hold_36 rfl (lv_at hl 1 rfl) ?_
      refine lv_iconst (v := (nI 1)) hx hb dX6_hold_37 (by decide) ?_
      obtain ⟨v38, h38, h⟩ := cr1_some h
      refine r_callV (As := [.int a1, .int (nI 1)]) (rest := []) (st1 := [.int v38]) hx hb hml hown hts hE hw hl (mc_subR 10 2 (by decide) (mX5_get l G (by show β + 10 + 2 ≤ _; omega) hR.2.2.2.1.2.2.2.2.1 h38)) (cwV 2 hts (zV gV_X6_116) rfl rfl rfl kdX5_get ⟨Nat.le_of_ble_eq_true rfl, Nat.le_of_ble_eq_true rfl⟩) (by omega) (congrFun hR.2.2.2.1.2.2.2.2.1.1 _) rfl rfl rfl rfl (Nat.le_of_ble_eq_true rfl) dX6_hold_38 ⟨Nat.zero_le _, Nat.zero_le _⟩ rfl (fun H locs hw => ?_)
      refine lv_istore_n (lv' := [(3, .int v38), (0, .ref (gA G (β + 0))), (1, .int a1), (2, .int a2)]) hx hb dX6_hold_41 rfl hl (by decide) rfl (fun ls hl => ?_)
      refine lv_aload_n hx hb dX6_hold_42 rfl (lv_at hl 1 rfl) ?_
      refine r_get (v := .ref (gA G (β + 3))) hx hb hts hinX6 hown hE hw hn 0 (by decide) (congrFun hR.1 _) rfl 1 (by decide) (hts _ (wz_in qF_X6_19)) rfl dX6_hold_43 ?_
      refine r_get (v := .ref (gA G (β + 10))) hx hb hts hinX4 hown hE hw hn 3 (by decide) (congrFun hR.2.2.2.1.1 _) rfl 3 (by decide) (hts _ (wz_in qF_X6_102)) rfl dX6_hold_46 ?_
      refine lv_iload_n hx hb dX6_hold_49 rfl (lv_at hl 2 rfl) ?_
      refine lv_iconst (v := (nI 1)) hx hb dX6_hold_50 (by decide) ?_
      refine lv_iload_n hx hb dX6_hold_51 rfl (lv_at hl 3 rfl) ?_
      obtain ⟨T52, h52, h⟩ := cvs_some h
      refine r_callV (As := [.int a1, .int (nI 1), .int a2]) (rest := []) (st1 := []) hx hb hml hown hts hE hw hl (mc_sub 10 2 (by decide) (mX5_put l G (by show β + 10 + 2 ≤ _; omega) hR.2.2.2.1.2.2.2.2.1 h52)) (cwV 3 hts (zV gV_X6_176) rfl rfl rfl kdX5_put ⟨Nat.le_of_ble_eq_true rfl, Nat.le_of_ble_eq_true rfl⟩) (by omega) (congrFun hR.2.2.2.1.2.2.2.2.1.1 _) rfl rfl rfl rfl (Nat.le_of_ble_eq_true rfl) dX6_hold_52 ⟨Nat.zero_le _, Nat.zero_le _⟩ rfl (fun H locs hw => ?_)
      generalize wB S26 10 2 T52 = S52 at h hw
      refine lv_iload_n hx hb dX6_hold_55 rfl (lv_at hl 0 rfl) ?_
      cases h
    · rw [← (Prod.mk.inj (Option.some.inj h)).2, ← Sum.inr.inj (Prod.mk.inj (Option.some.inj h)).1]
      exact x_callS (As := [.int a2, .int (nI 0), .int (nI 23)]) (rest := []) hx hb hml hown hts hE hw hl (xX6_checkRange l hfl G (M := (wB M β 316 S)) h15) (va_cwS 3 hts (zS gS_X6_45) rfl rfl rfl kdX6_checkRange ⟨Nat.le_of_ble_eq_true rfl, Nat.le_of_ble_eq_true rfl⟩) rfl rfl (Nat.le_of_ble_eq_true rfl) dX6_hold_15 ⟨Nat.le_refl _, Nat.le_refl _⟩ hout hlocks
  · rw [← (Prod.mk.inj (Option.some.inj h)).2, ← Sum.inr.inj (Prod.mk.inj (Option.some.inj h)).1]
    exact x_callS (As := [.ref (gA G (β + 10)), .int a1]) (rest := []) hx hb hml hown hts hE hw hl (mx_subR 10 2 (by decide) (xX6_checkExists l hfl G (by show β + 10 + 2 ≤ _; omega) hR.2.2.2.1.2.2.2.2.1 h8)) (va_cwS 2 hts (zS gS_X6_112) rfl rfl rfl kdX6_checkExists ⟨Nat.le_of_ble_eq_true rfl, Nat.le_of_ble_eq_true rfl⟩) rfl rfl (Nat.le_of_ble_eq_true rfl) dX6_hold_8 ⟨Nat.le_refl _, Nat.le_refl _⟩ hout hlocks

set_option maxHeartbeats 4000000 in
set_option maxRecDepth 100000 in
theorem mX6_supply (l : Launch) (G : mG) {β : Nat} {M S S' : mM} {a1 : Int32} {a2 : Int32} {r : Int32} (hn : β + 316 ≤ gN G) (hR : isWR G β) (h : pX6_supply a1 a2 S = some (.inl r, S')) : MC l G yX6_supply zzX6_supply 5 104 [.ref (gA G (β + 0)), .int a1, .int a2] (wB M β 316 S) (wB M β 316 S') (some (.int r)) := by
  refine mc_of (cc := cX6_supply) (maxL := 3) (ret := (some .int)) (by decide) rfl (Nat.le_of_ble_eq_true rfl) ?_
  intro p e s m args below meth c H ls hx hb hr hts hown hml hlocks hE hw hl
  have hl : lv_has ls 3 [(0, .ref (gA G (β + 0))), (1, .int a1), (2, .int a2)] := hl
  have hinX4 : ∀ w ∈ wsX40, w ∈ zzX6_supply := fun w h9 => wz_in (zinX4 w h9)
  have hinX6 : ∀ w ∈ wsX60, w ∈ zzX6_supply := fun w h9 => wz_in (zinX6 w h9)
  have k44 : ∀ (x1 : Int32) (x2 : Int32) (t0 : Int32) (S : mM) (H : Heap) (locs : List Loc) (ls : Array Slot), pX6_supply_b44  x1 x2 t0 S = some (.inl r, S') → mW G s (wB M β 316 S) H locs → lv_has ls 3 [(0, .ref (gA G (β + 0))), (1, .int x1), (2, .int x2)] → W p l e { frames := 5, cells := 0, slots := 0, locals := 104 } s m args below meth c H locs 0 0 (mZ below G (some (.int r)) (wB M β 316 S') args s) (F0 m 44 ls [.int t0]) := by
    intro x1 x2 t0 S H locs ls h hw hl
    unfold pX6_supply_b44 at h
    rcases bx_some h with ⟨h44, h⟩ | ⟨E44, h44, h⟩
    · refine r_callS (As := [.int t0]) (rest := []) (st1 := []) hx hb hml hown hts hE hw hl (mX6_refuseIf l G (M := (wB M β 316 S)) h44) (va_cwS 1 hts (zS gS_X6_53) rfl rfl rfl kdX6_refuseIf ⟨Nat.le_of_ble_eq_true rfl, Nat.le_of_ble_eq_true rfl⟩) rfl rfl (Nat.le_of_ble_eq_true rfl) dX6_supply_44 ⟨Nat.zero_le _, Nat.zero_le _⟩ rfl (fun H locs hw => ?_)
      refine lv_aload_n hx hb dX6_supply_47 rfl (lv_at hl 0 rfl) ?_
      refine r_get (v := .ref (gA G (β + 37))) hx hb hts hinX6 hown hE hw hn 0 (by decide) (congrFun hR.1 _) rfl 3 (by decide) (hts _ (wz_in qF_X6_29)) rfl dX6_supply_48 ?_
      refine lv_aload_n hx hb dX6_supply_51 rfl (lv_at hl 0 rfl) ?_
      refine r_get (v := .ref (gA G (β + 3))) hx hb hts hinX6 hown hE hw hn 0 (by decide) (congrFun hR.1 _) rfl 1 (by decide) (hts _ (wz_in qF_X6_19)) rfl dX6_supply_52 ?_
      obtain ⟨S55, h55, h⟩ := cr1_some h
      refine r_callV (As := [.ref (gA G (β + 3))]) (rest := []) (st1 := []) hx hb hml hown hts hE hw hl (mX0_remember l G (by omega) hR h55) (cwV 1 hts (zV gV_X6_153) rfl rfl rfl kdX0_remember ⟨Nat.le_of_ble_eq_true rfl, Nat.le_of_ble_eq_true rfl⟩) (by omega) (congrFun hR.2.2.2.2.2.1 _) rfl rfl rfl rfl (Nat.le_of_ble_eq_true rfl) dX6_supply_55 ⟨Nat.zero_le _, Nat.zero_le _⟩ rfl (fun H locs hw => ?_)
      refine lv_aload_n hx hb dX6_supply_58 rfl (lv_at hl 0 rfl) ?_
      refine r_get (v := .ref (gA G (β + 3))) hx hb hts hinX6 hown hE hw hn 0 (by decide) (congrFun hR.1 _) rfl 1 (by decide) (hts _ (wz_in qF_X6_19)) rfl dX6_supply_59 ?_
      refine r_get (v := .ref (gA G (β + 8))) hx hb hts hinX4 hown hE hw hn 3 (by decide) (congrFun hR.2.2.2.1.1 _) rfl 2 (by decide) (hts _ (wz_in qF_X6_99)) rfl dX6_supply_62 ?_
      refine lv_iload_n hx hb dX6_supply_65 rfl (lv_at hl 1 rfl) ?_
      refine lv_iconst (v := (nI 1)) hx hb dX6_supply_66 (by decide) ?_
      refine lv_iload_n hx hb dX6_supply_67 rfl (lv_at hl 2 rfl) ?_
      obtain ⟨T68, h68, h⟩ := cvs_some h
      refine r_callV (As := [.int x1, .int (nI 1), .int x2]) (rest := []) (st1 := []) hx hb hml hown hts hE hw hl (mc_sub 8 2 (by decide) (mX5_raise l G (by show β + 8 + 2 ≤ _; omega) hR.2.2.2.1.2.2.2.1 h68)) (cwV 3 hts (zV gV_X6_179) rfl rfl rfl kdX5_raise ⟨Nat.le_of_ble_eq_true rfl, Nat.le_of_ble_eq_true rfl⟩) (by omega) (congrFun hR.2.2.2.1.2.2.2.1.1 _) rfl rfl rfl rfl (Nat.le_of_ble_eq_true rfl) dX6_supply_68 ⟨Nat.zero_le _, Nat.zero_le _⟩ rfl (fun H locs hw => ?_)
      generalize wB S55 8 2 T68 = S68 at h hw
      refine lv_aload_n hx hb dX6_supply_71 rfl (lv_at hl 0 rfl) ?_
      refine r_get (v := .ref (gA G (β + 3))) hx hb hts hinX6 hown hE hw hn 0 (by decide) (congrFun hR.1 _) rfl 1 (by decide) (hts _ (wz_in qF_X6_19)) rfl dX6_supply_72 ?_
      refine r_get (v := .ref (gA G (β + 8))) hx hb hts hinX4 hown hE hw hn 3 (by decide) (congrFun hR.2.2.2.1.1 _) rfl 2 (by decide) (hts _ (wz_in qF_X6_99)) rfl dX6_supply_75 ?_
      refine lv_iload_n hx hb dX6_supply_78 rfl (lv_at hl 1 rfl) ?_
      refine lv_iconst (v := (nI 1)) hx hb dX6_supply_79 (by decide) ?_
      obtain ⟨v80, h80, h⟩ := cr1_some h
      refine r_callV (As := [.int x1, .int (nI 1)]) (rest := []) (st1 := [.int v80]) hx hb hml hown hts hE hw hl (mc_subR 8 2 (by decide) (mX5_get l G (by show β + 8 + 2 ≤ _; omega) hR.2.2.2.1.2.2.2.1 h80)) (cwV 2 hts (zV gV_X6_116) rfl rfl rfl kdX5_get ⟨Nat.le_of_ble_eq_true rfl, Nat.le_of_ble_eq_true rfl⟩) (by omega) (congrFun hR.2.2.2.1.2.2.2.1.1 _) rfl rfl rfl rfl (Nat.le_of_ble_eq_true rfl) dX6_supply_80 ⟨Nat.zero_le _, Nat.zero_le _⟩ rfl (fun H locs hw => ?_)
      cases h
      exact r_iret hx hb hr hlocks hw dX6_supply_83
    · cases h
  unfold pX6_supply at h
  refine lv_aload_n hx hb dX6_supply_0 rfl (lv_at hl 0 rfl) ?_
  refine r_get (v := .ref (gA G (β + 3))) hx hb hts hinX6 hown hE hw hn 0 (by decide) (congrFun hR.1 _) rfl 1 (by decide) (hts _ (wz_in qF_X6_19)) rfl dX6_supply_1 ?_
  refine r_get (v := .ref (gA G (β + 8))) hx hb hts hinX4 hown hE hw hn 3 (by decide) (congrFun hR.2.2.2.1.1 _) rfl 2 (by decide) (hts _ (wz_in qF_X6_99)) rfl dX6_supply_4 ?_
  refine lv_iload_n hx hb dX6_supply_7 rfl (lv_at hl 1 rfl) ?_
  rcases bx_some h with ⟨h8, h⟩ | ⟨E8, h8, h⟩
  · refine r_callS (As := [.ref (gA G (β + 8)), .int a1]) (rest := []) (st1 := []) hx hb hml hown hts hE hw hl (mc_subR 8 2 (by decide) (mX6_checkExists l G (by show β + 8 + 2 ≤ _; omega) hR.2.2.2.1.2.2.2.1 h8)) (va_cwS 2 hts (zS gS_X6_112) rfl rfl rfl kdX6_checkExists ⟨Nat.le_of_ble_eq_true rfl, Nat.le_of_ble_eq_true rfl⟩) rfl rfl (Nat.le_of_ble_eq_true rfl) dX6_supply_8 ⟨Nat.zero_le _, Nat.zero_le _⟩ rfl (fun H locs hw => ?_)
    refine lv_iload_n hx hb dX6_supply_11 rfl (lv_at hl 2 rfl) ?_
    refine lv_iconst (v := (nI 1)) hx hb dX6_supply_12 (by decide) ?_
    refine lv_sipush (v := (nI 500)) hx hb dX6_supply_13 (by decide) ?_
    rcases bx_some h with ⟨h16, h⟩ | ⟨E16, h16, h⟩
    · refine r_callS (As := [.int a2, .int (nI 1), .int (nI 500)]) (rest := []) (st1 := []) hx hb hml hown hts hE hw hl (mX6_checkRange l G (M := (wB M β 316 S)) h16) (va_cwS 3 hts (zS gS_X6_45) rfl rfl rfl kdX6_checkRange ⟨Nat.le_of_ble_eq_true rfl, Nat.le_of_ble_eq_true rfl⟩) rfl rfl (Nat.le_of_ble_eq_true rfl) dX6_supply_16 ⟨Nat.zero_le _, Nat.zero_le _⟩ rfl (fun H locs hw => ?_)
      refine lv_aload_n hx hb dX6_supply_19 rfl (lv_at hl 0 rfl) ?_
      refine r_get (v := .ref (gA G (β + 3))) hx hb hts hinX6 hown hE hw hn 0 (by decide) (congrFun hR.1 _) rfl 1 (by decide) (hts _ (wz_in qF_X6_19)) rfl dX6_supply_20 ?_
      refine r_get (v := .ref (gA G (β + 8))) hx hb hts hinX4 hown hE hw hn 3 (by decide) (congrFun hR.2.2.2.1.1 _) rfl 2 (by decide) (hts _ (wz_in qF_X6_99)) rfl dX6_supply_23 ?_
      refine lv_iload_n hx hb dX6_supply_26 rfl (lv_at hl 1 rfl) ?_
      refine lv_iconst (v := (nI 1)) hx hb dX6_supply_27 (by decide) ?_
      obtain ⟨v28, h28, h⟩ := cr1_some h
      refine r_callV (As := [.int a1, .int (nI 1)]) (rest := []) (st1 := [.int v28]) hx hb hml hown hts hE hw hl (mc_subR 8 2 (by decide) (mX5_get l G (by show β + 8 + 2 ≤ _; omega) hR.2.2.2.1.2.2.2.1 h28)) (cwV 2 hts (zV gV_X6_116) rfl rfl rfl kdX5_get ⟨Nat.le_of_ble_eq_true rfl, Nat.le_of_ble_eq_true rfl⟩) (by omega) (congrFun hR.2.2.2.1.2.2.2.1.1 _) rfl rfl rfl rfl (Nat.le_of_ble_eq_true rfl) dX6_supply_28 ⟨Nat.zero_le _, Nat.zero_le _⟩ rfl (fun H locs hw => ?_)
      refine lv_iload_n hx hb dX6_supply_31 rfl (lv_at hl 2 rfl) ?_
      refine lv_iadd hx hb dX6_supply_32 ?_
      refine lv_sipush (v := (nI 999)) hx hb dX6_supply_33 (by decide) ?_
      refine bi_le (tgt := 43) hx hb dX6_supply_36 (by decide) h (fun h => ?_) (fun h => ?_)
      · refine lv_iconst (v := (nI 0)) hx hb dX6_supply_43 (by decide) ?_
        exact k44  a1 a2 (nI 0) S _ _ _ h hw (lv_sub hl [0, 1, 2] rfl)
      · refine lv_iconst (v := (nI 1)) hx hb dX6_supply_39 (by decide) ?_
        refine lv_goto (tgt := 44) hx hb dX6_supply_40 (by decide) ?_
        exact k44  a1 a2 (nI 1) S _ _ _ h hw (lv_sub hl [0, 1, 2] rfl)
    · cases h
  · cases h
set_option maxHeartbeats 4000000 in
set_option maxRecDepth 100000 in
theorem xX6_supply (l : Launch) (hfl : l.stackTraces = false) (G : mG) {β : Nat} {M S S' : mM} {a1 : Int32} {a2 : Int32} {E : String} (hn : β + 316 ≤ gN G) (hR : isWR G β) (h : pX6_supply a1 a2 S = some (.inr E, S')) : MX l G yX6_supply zzX6_supply 8 124 [.ref (gA G (β + 0)), .int a1, .int a2] (wB M β 316 S) (wB M β 316 S') E := by
  refine mx_of (cc := cX6_supply) (maxL := 3) (ret := (some .int)) (by decide) rfl (Nat.le_of_ble_eq_true rfl) ?_
  intro p e s m args below meth c H ls hx hb hr hts hown hml hlocks hout hE hw _ hl
  have hl : lv_has ls 3 [(0, .ref (gA G (β + 0))), (1, .int a1), (2, .int a2)] := hl
  have hinX4 : ∀ w ∈ wsX40, w ∈ zzX6_supply := fun w h9 => wz_in (zinX4 w h9)
  have hinX6 : ∀ w ∈ wsX60, w ∈ zzX6_supply := fun w h9 => wz_in (zinX6 w h9)
  have k44 : ∀ (x1 : Int32) (x2 : Int32) (t0 : Int32) (S : mM) (H : Heap) (locs : List Loc) (ls : Array Slot), pX6_supply_b44  x1 x2 t0 S = some (.inr E, S') → mW G s (wB M β 316 S) H locs → lv_has ls 3 [(0, .ref (gA G (β + 0))), (1, .int x1), (2, .int x2)] → W p l e { frames := 8, cells := 1, slots := 6, locals := 124 } s m args below meth c H locs 0 0 (mY below G E (wB M β 316 S') args s) (F0 m 44 ls [.int t0]) := by
    intro x1 x2 t0 S H locs ls h hw hl
    unfold pX6_supply_b44 at h
    rcases bx_some h with ⟨h44, h⟩ | ⟨E44, h44, h⟩
    · refine r_callS (As := [.int t0]) (rest := []) (st1 := []) hx hb hml hown hts hE hw hl (mX6_refuseIf l G (M := (wB M β 316 S)) h44) (va_cwS 1 hts (zS gS_X6_53) rfl rfl rfl kdX6_refuseIf ⟨Nat.le_of_ble_eq_true rfl, Nat.le_of_ble_eq_true rfl⟩) rfl rfl (Nat.le_of_ble_eq_true rfl) dX6_supply_44 ⟨Nat.zero_le _, Nat.zero_le _⟩ rfl (fun H locs hw => ?_)
      refine lv_aload_n hx hb dX6_supply_47 rfl (lv_at hl 0 rfl) ?_
      refine r_get (v := .ref (gA G (β + 37))) hx hb hts hinX6 hown hE hw hn 0 (by decide) (congrFun hR.1 _) rfl 3 (by decide) (hts _ (wz_in qF_X6_29)) rfl dX6_supply_48 ?_
      refine lv_aload_n hx hb dX6_supply_51 rfl (lv_at hl 0 rfl) ?_
      refine r_get (v := .ref (gA G (β + 3))) hx hb hts hinX6 hown hE hw hn 0 (by decide) (congrFun hR.1 _) rfl 1 (by decide) (hts _ (wz_in qF_X6_19)) rfl dX6_supply_52 ?_
      obtain ⟨S55, h55, h⟩ := cr1_some h
      refine r_callV (As := [.ref (gA G (β + 3))]) (rest := []) (st1 := []) hx hb hml hown hts hE hw hl (mX0_remember l G (by omega) hR h55) (cwV 1 hts (zV gV_X6_153) rfl rfl rfl kdX0_remember ⟨Nat.le_of_ble_eq_true rfl, Nat.le_of_ble_eq_true rfl⟩) (by omega) (congrFun hR.2.2.2.2.2.1 _) rfl rfl rfl rfl (Nat.le_of_ble_eq_true rfl) dX6_supply_55 ⟨Nat.zero_le _, Nat.zero_le _⟩ rfl (fun H locs hw => ?_)
      refine lv_aload_n hx hb dX6_supply_58 rfl (lv_at hl 0 rfl) ?_
      refine r_get (v := .ref (gA G (β + 3))) hx hb hts hinX6 hown hE hw hn 0 (by decide) (congrFun hR.1 _) rfl 1 (by decide) (hts _ (wz_in qF_X6_19)) rfl dX6_supply_59 ?_
      refine r_get (v := .ref (gA G (β + 8))) hx hb hts hinX4 hown hE hw hn 3 (by decide) (congrFun hR.2.2.2.1.1 _) rfl 2 (by decide) (hts _ (wz_in qF_X6_99)) rfl dX6_supply_62 ?_
      refine lv_iload_n hx hb dX6_supply_65 rfl (lv_at hl 1 rfl) ?_
      refine lv_iconst (v := (nI 1)) hx hb dX6_supply_66 (by decide) ?_
      refine lv_iload_n hx hb dX6_supply_67 rfl (lv_at hl 2 rfl) ?_
      obtain ⟨T68, h68, h⟩ := cvs_some h
      refine r_callV (As := [.int x1, .int (nI 1), .int x2]) (rest := []) (st1 := []) hx hb hml hown hts hE hw hl (mc_sub 8 2 (by decide) (mX5_raise l G (by show β + 8 + 2 ≤ _; omega) hR.2.2.2.1.2.2.2.1 h68)) (cwV 3 hts (zV gV_X6_179) rfl rfl rfl kdX5_raise ⟨Nat.le_of_ble_eq_true rfl, Nat.le_of_ble_eq_true rfl⟩) (by omega) (congrFun hR.2.2.2.1.2.2.2.1.1 _) rfl rfl rfl rfl (Nat.le_of_ble_eq_true rfl) dX6_supply_68 ⟨Nat.zero_le _, Nat.zero_le _⟩ rfl (fun H locs hw => ?_)
      generalize wB S55 8 2 T68 = S68 at h hw
      refine lv_aload_n hx hb dX6_supply_71 rfl (lv_at hl 0 rfl) ?_
      refine r_get (v := .ref (gA G (β + 3))) hx hb hts hinX6 hown hE hw hn 0 (by decide) (congrFun hR.1 _) rfl 1 (by decide) (hts _ (wz_in qF_X6_19)) rfl dX6_supply_72 ?_
      refine r_get (v := .ref (gA G (β + 8))) hx hb hts hinX4 hown hE hw hn 3 (by decide) (congrFun hR.2.2.2.1.1 _) rfl 2 (by decide) (hts _ (wz_in qF_X6_99)) rfl dX6_supply_75 ?_
      refine lv_iload_n hx hb dX6_supply_78 rfl (lv_at hl 1 rfl) ?_
      refine lv_iconst (v := (nI 1)) hx hb dX6_supply_79 (by decide) ?_
      obtain ⟨v80, h80, h⟩ := cr1_some h
      refine r_callV (As := [.int x1, .int (nI 1)]) (rest := []) (st1 := [.int v80]) hx hb hml hown hts hE hw hl (mc_subR 8 2 (by decide) (mX5_get l G (by show β + 8 + 2 ≤ _; omega) hR.2.2.2.1.2.2.2.1 h80)) (cwV 2 hts (zV gV_X6_116) rfl rfl rfl kdX5_get ⟨Nat.le_of_ble_eq_true rfl, Nat.le_of_ble_eq_true rfl⟩) (by omega) (congrFun hR.2.2.2.1.2.2.2.1.1 _) rfl rfl rfl rfl (Nat.le_of_ble_eq_true rfl) dX6_supply_80 ⟨Nat.zero_le _, Nat.zero_le _⟩ rfl (fun H locs hw => ?_)
      cases h
    · rw [← (Prod.mk.inj (Option.some.inj h)).2, ← Sum.inr.inj (Prod.mk.inj (Option.some.inj h)).1]
      exact x_callS (As := [.int t0]) (rest := []) hx hb hml hown hts hE hw hl (xX6_refuseIf l hfl G (M := (wB M β 316 S)) h44) (va_cwS 1 hts (zS gS_X6_53) rfl rfl rfl kdX6_refuseIf ⟨Nat.le_of_ble_eq_true rfl, Nat.le_of_ble_eq_true rfl⟩) rfl rfl (Nat.le_of_ble_eq_true rfl) dX6_supply_44 ⟨Nat.le_refl _, Nat.le_refl _⟩ hout hlocks
  unfold pX6_supply at h
  refine lv_aload_n hx hb dX6_supply_0 rfl (lv_at hl 0 rfl) ?_
  refine r_get (v := .ref (gA G (β + 3))) hx hb hts hinX6 hown hE hw hn 0 (by decide) (congrFun hR.1 _) rfl 1 (by decide) (hts _ (wz_in qF_X6_19)) rfl dX6_supply_1 ?_
  refine r_get (v := .ref (gA G (β + 8))) hx hb hts hinX4 hown hE hw hn 3 (by decide) (congrFun hR.2.2.2.1.1 _) rfl 2 (by decide) (hts _ (wz_in qF_X6_99)) rfl dX6_supply_4 ?_
  refine lv_iload_n hx hb dX6_supply_7 rfl (lv_at hl 1 rfl) ?_
  rcases bx_some h with ⟨h8, h⟩ | ⟨E8, h8, h⟩
  · refine r_callS (As := [.ref (gA G (β + 8)), .int a1]) (rest := []) (st1 := []) hx hb hml hown hts hE hw hl (mc_subR 8 2 (by decide) (mX6_checkExists l G (by show β + 8 + 2 ≤ _; omega) hR.2.2.2.1.2.2.2.1 h8)) (va_cwS 2 hts (zS gS_X6_112) rfl rfl rfl kdX6_checkExists ⟨Nat.le_of_ble_eq_true rfl, Nat.le_of_ble_eq_true rfl⟩) rfl rfl (Nat.le_of_ble_eq_true rfl) dX6_supply_8 ⟨Nat.zero_le _, Nat.zero_le _⟩ rfl (fun H locs hw => ?_)
    refine lv_iload_n hx hb dX6_supply_11 rfl (lv_at hl 2 rfl) ?_
    refine lv_iconst (v := (nI 1)) hx hb dX6_supply_12 (by decide) ?_
    refine lv_sipush (v := (nI 500)) hx hb dX6_supply_13 (by decide) ?_
    rcases bx_some h with ⟨h16, h⟩ | ⟨E16, h16, h⟩
    · refine r_callS (As := [.int a2, .int (nI 1), .int (nI 500)]) (rest := []) (st1 := []) hx hb hml hown hts hE hw hl (mX6_checkRange l G (M := (wB M β 316 S)) h16) (va_cwS 3 hts (zS gS_X6_45) rfl rfl rfl kdX6_checkRange ⟨Nat.le_of_ble_eq_true rfl, Nat.le_of_ble_eq_true rfl⟩) rfl rfl (Nat.le_of_ble_eq_true rfl) dX6_supply_16 ⟨Nat.zero_le _, Nat.zero_le _⟩ rfl (fun H locs hw => ?_)
      refine lv_aload_n hx hb dX6_supply_19 rfl (lv_at hl 0 rfl) ?_
      refine r_get (v := .ref (gA G (β + 3))) hx hb hts hinX6 hown hE hw hn 0 (by decide) (congrFun hR.1 _) rfl 1 (by decide) (hts _ (wz_in qF_X6_19)) rfl dX6_supply_20 ?_
      refine r_get (v := .ref (gA G (β + 8))) hx hb hts hinX4 hown hE hw hn 3 (by decide) (congrFun hR.2.2.2.1.1 _) rfl 2 (by decide) (hts _ (wz_in qF_X6_99)) rfl dX6_supply_23 ?_
      refine lv_iload_n hx hb dX6_supply_26 rfl (lv_at hl 1 rfl) ?_
      refine lv_iconst (v := (nI 1)) hx hb dX6_supply_27 (by decide) ?_
      obtain ⟨v28, h28, h⟩ := cr1_some h
      refine r_callV (As := [.int a1, .int (nI 1)]) (rest := []) (st1 := [.int v28]) hx hb hml hown hts hE hw hl (mc_subR 8 2 (by decide) (mX5_get l G (by show β + 8 + 2 ≤ _; omega) hR.2.2.2.1.2.2.2.1 h28)) (cwV 2 hts (zV gV_X6_116) rfl rfl rfl kdX5_get ⟨Nat.le_of_ble_eq_true rfl, Nat.le_of_ble_eq_true rfl⟩) (by omega) (congrFun hR.2.2.2.1.2.2.2.1.1 _) rfl rfl rfl rfl (Nat.le_of_ble_eq_true rfl) dX6_supply_28 ⟨Nat.zero_le _, Nat.zero_le _⟩ rfl (fun H locs hw => ?_)
      refine lv_iload_n hx hb dX6_supply_31 rfl (lv_at hl 2 rfl) ?_
      refine lv_iadd hx hb dX6_supply_32 ?_
      refine lv_sipush (v := (nI 999)) hx hb dX6_supply_33 (by decide) ?_
      refine bi_le (tgt := 43) hx hb dX6_supply_36 (by decide) h (fun h => ?_) (fun h => ?_)
      · refine lv_iconst (v := (nI 0)) hx hb dX6_supply_43 (by decide) ?_
        exact k44  a1 a2 (nI 0) S _ _ _ h hw (lv_sub hl [0, 1, 2] rfl)
      · refine lv_iconst (v := (nI 1)) hx hb dX6_supply_39 (by decide) ?_
        refine lv_goto (tgt := 44) hx hb dX6_supply_40 (by decide) ?_
        exact k44  a1 a2 (nI 1) S _ _ _ h hw (lv_sub hl [0, 1, 2] rfl)
    · rw [← (Prod.mk.inj (Option.some.inj h)).2, ← Sum.inr.inj (Prod.mk.inj (Option.some.inj h)).1]
      exact x_callS (As := [.int a2, .int (nI 1), .int (nI 500)]) (rest := []) hx hb hml hown hts hE hw hl (xX6_checkRange l hfl G (M := (wB M β 316 S)) h16) (va_cwS 3 hts (zS gS_X6_45) rfl rfl rfl kdX6_checkRange ⟨Nat.le_of_ble_eq_true rfl, Nat.le_of_ble_eq_true rfl⟩) rfl rfl (Nat.le_of_ble_eq_true rfl) dX6_supply_16 ⟨Nat.le_refl _, Nat.le_refl _⟩ hout hlocks
  · rw [← (Prod.mk.inj (Option.some.inj h)).2, ← Sum.inr.inj (Prod.mk.inj (Option.some.inj h)).1]
    exact x_callS (As := [.ref (gA G (β + 8)), .int a1]) (rest := []) hx hb hml hown hts hE hw hl (mx_subR 8 2 (by decide) (xX6_checkExists l hfl G (by show β + 8 + 2 ≤ _; omega) hR.2.2.2.1.2.2.2.1 h8)) (va_cwS 2 hts (zS gS_X6_112) rfl rfl rfl kdX6_checkExists ⟨Nat.le_of_ble_eq_true rfl, Nat.le_of_ble_eq_true rfl⟩) rfl rfl (Nat.le_of_ble_eq_true rfl) dX6_supply_8 ⟨Nat.le_refl _, Nat.le_refl _⟩ hout hlocks

set_option maxHeartbeats 4000000 in
set_option maxRecDepth 100000 in
theorem mX6_pass (l : Launch) (G : mG) {β : Nat} {M S S' : mM} {a1 : Int32} {r : Int32} (hn : β + 316 ≤ gN G) (hR : isWR G β) (h : pX6_pass a1 S = some (.inl r, S')) : MC l G yX6_pass zzX6_pass 6 143 [.ref (gA G (β + 0)), .int a1] (wB M β 316 S) (wB M β 316 S') (some (.int r)) := by
  refine mc_of (cc := cX6_pass) (maxL := 3) (ret := (some .int)) (by decide) rfl (Nat.le_of_ble_eq_true rfl) ?_
  intro p e s m args below meth c H ls hx hb hr hts hown hml hlocks hE hw hl
  have hl : lv_has ls 3 [(0, .ref (gA G (β + 0))), (1, .int a1)] := hl
  have hinX6 : ∀ w ∈ wsX60, w ∈ zzX6_pass := fun w h9 => wz_in (zinX6 w h9)
  unfold pX6_pass at h
  refine lv_iload_n hx hb dX6_pass_0 rfl (lv_at hl 1 rfl) ?_
  refine lv_iconst (v := (nI 1)) hx hb dX6_pass_1 (by decide) ?_
  refine lv_bipush (v := (nI 99)) hx hb dX6_pass_2 (by decide) ?_
  rcases bx_some h with ⟨h4, h⟩ | ⟨E4, h4, h⟩
  · refine r_callS (As := [.int a1, .int (nI 1), .int (nI 99)]) (rest := []) (st1 := []) hx hb hml hown hts hE hw hl (mX6_checkRange l G (M := (wB M β 316 S)) h4) (va_cwS 3 hts (zS gS_X6_45) rfl rfl rfl kdX6_checkRange ⟨Nat.le_of_ble_eq_true rfl, Nat.le_of_ble_eq_true rfl⟩) rfl rfl (Nat.le_of_ble_eq_true rfl) dX6_pass_4 ⟨Nat.zero_le _, Nat.zero_le _⟩ rfl (fun H locs hw => ?_)
    refine lv_aload_n hx hb dX6_pass_7 rfl (lv_at hl 0 rfl) ?_
    refine r_get (v := .ref (gA G (β + 37))) hx hb hts hinX6 hown hE hw hn 0 (by decide) (congrFun hR.1 _) rfl 3 (by decide) (hts _ (wz_in qF_X6_29)) rfl dX6_pass_8 ?_
    refine lv_aload_n hx hb dX6_pass_11 rfl (lv_at hl 0 rfl) ?_
    refine r_get (v := .ref (gA G (β + 3))) hx hb hts hinX6 hown hE hw hn 0 (by decide) (congrFun hR.1 _) rfl 1 (by decide) (hts _ (wz_in qF_X6_19)) rfl dX6_pass_12 ?_
    obtain ⟨S15, h15, h⟩ := cr1_some h
    refine r_callV (As := [.ref (gA G (β + 3))]) (rest := []) (st1 := []) hx hb hml hown hts hE hw hl (mX0_remember l G (by omega) hR h15) (cwV 1 hts (zV gV_X6_153) rfl rfl rfl kdX0_remember ⟨Nat.le_of_ble_eq_true rfl, Nat.le_of_ble_eq_true rfl⟩) (by omega) (congrFun hR.2.2.2.2.2.1 _) rfl rfl rfl rfl (Nat.le_of_ble_eq_true rfl) dX6_pass_15 ⟨Nat.zero_le _, Nat.zero_le _⟩ rfl (fun H locs hw => ?_)
    refine lv_aload_n hx hb dX6_pass_18 rfl (lv_at hl 0 rfl) ?_
    refine r_get (v := .ref (gA G (β + 3))) hx hb hts hinX6 hown hE hw hn 0 (by decide) (congrFun hR.1 _) rfl 1 (by decide) (hts _ (wz_in qF_X6_19)) rfl dX6_pass_19 ?_
    refine lv_iconst (v := (nI 2)) hx hb dX6_pass_22 (by decide) ?_
    obtain ⟨v23, h23, h⟩ := cr1_some h
    refine r_callV (As := [.int (nI 2)]) (rest := []) (st1 := [.int v23]) hx hb hml hown hts hE hw hl (mc_subR 3 17 (by decide) (mX4_howMany l G (by show β + 3 + 17 ≤ _; omega) hR.2.2.2.1 h23)) (cwV 1 hts (zV gV_X6_105) rfl rfl rfl kdX4_howMany ⟨Nat.le_of_ble_eq_true rfl, Nat.le_of_ble_eq_true rfl⟩) (by omega) (congrFun hR.2.2.2.1.1 _) rfl rfl rfl rfl (Nat.le_of_ble_eq_true rfl) dX6_pass_23 ⟨Nat.zero_le _, Nat.zero_le _⟩ rfl (fun H locs hw => ?_)
    refine lv_istore_n (lv' := [(2, .int v23), (0, .ref (gA G (β + 0))), (1, .int a1)]) hx hb dX6_pass_26 rfl hl (by decide) rfl (fun ls hl => ?_)
    refine lv_aload_n hx hb dX6_pass_27 rfl (lv_at hl 1 rfl) ?_
    refine r_get (v := .ref (gA G (β + 3))) hx hb hts hinX6 hown hE hw hn 0 (by decide) (congrFun hR.1 _) rfl 1 (by decide) (hts _ (wz_in qF_X6_19)) rfl dX6_pass_28 ?_
    refine lv_iload_n hx hb dX6_pass_31 rfl (lv_at hl 2 rfl) ?_
    obtain ⟨v32, T32, h32, h⟩ := cws_some h
    refine r_callV (As := [.int a1]) (rest := []) (st1 := [.int v32]) hx hb hml hown hts hE hw hl (mc_sub 3 17 (by decide) (mX4_letGoBy l G (by show β + 3 + 17 ≤ _; omega) hR.2.2.2.1 h32)) (cwV 1 hts (zV gV_X6_182) rfl rfl rfl kdX4_letGoBy ⟨Nat.le_of_ble_eq_true rfl, Nat.le_of_ble_eq_true rfl⟩) (by omega) (congrFun hR.2.2.2.1.1 _) rfl rfl rfl rfl (Nat.le_of_ble_eq_true rfl) dX6_pass_32 ⟨Nat.zero_le _, Nat.zero_le _⟩ rfl (fun H locs hw => ?_)
    generalize wB S15 3 17 T32 = S32 at h hw
    refine lv_pop hx hb dX6_pass_35 rfl ?_
    refine lv_aload_n hx hb dX6_pass_36 rfl (lv_at hl 1 rfl) ?_
    refine r_get (v := .ref (gA G (β + 3))) hx hb hts hinX6 hown hE hw hn 0 (by decide) (congrFun hR.1 _) rfl 1 (by decide) (hts _ (wz_in qF_X6_19)) rfl dX6_pass_37 ?_
    refine lv_iconst (v := (nI 2)) hx hb dX6_pass_40 (by decide) ?_
    obtain ⟨v41, h41, h⟩ := cr1_some h
    refine r_callV (As := [.int (nI 2)]) (rest := []) (st1 := [.int v41]) hx hb hml hown hts hE hw hl (mc_subR 3 17 (by decide) (mX4_howMany l G (by show β + 3 + 17 ≤ _; omega) hR.2.2.2.1 h41)) (cwV 1 hts (zV gV_X6_105) rfl rfl rfl kdX4_howMany ⟨Nat.le_of_ble_eq_true rfl, Nat.le_of_ble_eq_true rfl⟩) (by omega) (congrFun hR.2.2.2.1.1 _) rfl rfl rfl rfl (Nat.le_of_ble_eq_true rfl) dX6_pass_41 ⟨Nat.zero_le _, Nat.zero_le _⟩ rfl (fun H locs hw => ?_)
    refine lv_iload_n hx hb dX6_pass_44 rfl (lv_at hl 0 rfl) ?_
    refine lv_isub hx hb dX6_pass_45 ?_
    cases h
    exact r_iret hx hb hr hlocks hw dX6_pass_46
  · cases h
set_option maxHeartbeats 4000000 in
set_option maxRecDepth 100000 in
theorem xX6_pass (l : Launch) (hfl : l.stackTraces = false) (G : mG) {β : Nat} {M S S' : mM} {a1 : Int32} {E : String} (hn : β + 316 ≤ gN G) (hR : isWR G β) (h : pX6_pass a1 S = some (.inr E, S')) : MX l G yX6_pass zzX6_pass 8 143 [.ref (gA G (β + 0)), .int a1] (wB M β 316 S) (wB M β 316 S') E := by
  refine mx_of (cc := cX6_pass) (maxL := 3) (ret := (some .int)) (by decide) rfl (Nat.le_of_ble_eq_true rfl) ?_
  intro p e s m args below meth c H ls hx hb hr hts hown hml hlocks hout hE hw _ hl
  have hl : lv_has ls 3 [(0, .ref (gA G (β + 0))), (1, .int a1)] := hl
  have hinX6 : ∀ w ∈ wsX60, w ∈ zzX6_pass := fun w h9 => wz_in (zinX6 w h9)
  unfold pX6_pass at h
  refine lv_iload_n hx hb dX6_pass_0 rfl (lv_at hl 1 rfl) ?_
  refine lv_iconst (v := (nI 1)) hx hb dX6_pass_1 (by decide) ?_
  refine lv_bipush (v := (nI 99)) hx hb dX6_pass_2 (by decide) ?_
  rcases bx_some h with ⟨h4, h⟩ | ⟨E4, h4, h⟩
  · refine r_callS (As := [.int a1, .int (nI 1), .int (nI 99)]) (rest := []) (st1 := []) hx hb hml hown hts hE hw hl (mX6_checkRange l G (M := (wB M β 316 S)) h4) (va_cwS 3 hts (zS gS_X6_45) rfl rfl rfl kdX6_checkRange ⟨Nat.le_of_ble_eq_true rfl, Nat.le_of_ble_eq_true rfl⟩) rfl rfl (Nat.le_of_ble_eq_true rfl) dX6_pass_4 ⟨Nat.zero_le _, Nat.zero_le _⟩ rfl (fun H locs hw => ?_)
    refine lv_aload_n hx hb dX6_pass_7 rfl (lv_at hl 0 rfl) ?_
    refine r_get (v := .ref (gA G (β + 37))) hx hb hts hinX6 hown hE hw hn 0 (by decide) (congrFun hR.1 _) rfl 3 (by decide) (hts _ (wz_in qF_X6_29)) rfl dX6_pass_8 ?_
    refine lv_aload_n hx hb dX6_pass_11 rfl (lv_at hl 0 rfl) ?_
    refine r_get (v := .ref (gA G (β + 3))) hx hb hts hinX6 hown hE hw hn 0 (by decide) (congrFun hR.1 _) rfl 1 (by decide) (hts _ (wz_in qF_X6_19)) rfl dX6_pass_12 ?_
    obtain ⟨S15, h15, h⟩ := cr1_some h
    refine r_callV (As := [.ref (gA G (β + 3))]) (rest := []) (st1 := []) hx hb hml hown hts hE hw hl (mX0_remember l G (by omega) hR h15) (cwV 1 hts (zV gV_X6_153) rfl rfl rfl kdX0_remember ⟨Nat.le_of_ble_eq_true rfl, Nat.le_of_ble_eq_true rfl⟩) (by omega) (congrFun hR.2.2.2.2.2.1 _) rfl rfl rfl rfl (Nat.le_of_ble_eq_true rfl) dX6_pass_15 ⟨Nat.zero_le _, Nat.zero_le _⟩ rfl (fun H locs hw => ?_)
    refine lv_aload_n hx hb dX6_pass_18 rfl (lv_at hl 0 rfl) ?_
    refine r_get (v := .ref (gA G (β + 3))) hx hb hts hinX6 hown hE hw hn 0 (by decide) (congrFun hR.1 _) rfl 1 (by decide) (hts _ (wz_in qF_X6_19)) rfl dX6_pass_19 ?_
    refine lv_iconst (v := (nI 2)) hx hb dX6_pass_22 (by decide) ?_
    obtain ⟨v23, h23, h⟩ := cr1_some h
    refine r_callV (As := [.int (nI 2)]) (rest := []) (st1 := [.int v23]) hx hb hml hown hts hE hw hl (mc_subR 3 17 (by decide) (mX4_howMany l G (by show β + 3 + 17 ≤ _; omega) hR.2.2.2.1 h23)) (cwV 1 hts (zV gV_X6_105) rfl rfl rfl kdX4_howMany ⟨Nat.le_of_ble_eq_true rfl, Nat.le_of_ble_eq_true rfl⟩) (by omega) (congrFun hR.2.2.2.1.1 _) rfl rfl rfl rfl (Nat.le_of_ble_eq_true rfl) dX6_pass_23 ⟨Nat.zero_le _, Nat.zero_le _⟩ rfl (fun H locs hw => ?_)
    refine lv_istore_n (lv' := [(2, .int v23), (0, .ref (gA G (β + 0))), (1, .int a1)]) hx hb dX6_pass_26 rfl hl (by decide) rfl (fun ls hl => ?_)
    refine lv_aload_n hx hb dX6_pass_27 rfl (lv_at hl 1 rfl) ?_
    refine r_get (v := .ref (gA G (β + 3))) hx hb hts hinX6 hown hE hw hn 0 (by decide) (congrFun hR.1 _) rfl 1 (by decide) (hts _ (wz_in qF_X6_19)) rfl dX6_pass_28 ?_
    refine lv_iload_n hx hb dX6_pass_31 rfl (lv_at hl 2 rfl) ?_
    obtain ⟨v32, T32, h32, h⟩ := cws_some h
    refine r_callV (As := [.int a1]) (rest := []) (st1 := [.int v32]) hx hb hml hown hts hE hw hl (mc_sub 3 17 (by decide) (mX4_letGoBy l G (by show β + 3 + 17 ≤ _; omega) hR.2.2.2.1 h32)) (cwV 1 hts (zV gV_X6_182) rfl rfl rfl kdX4_letGoBy ⟨Nat.le_of_ble_eq_true rfl, Nat.le_of_ble_eq_true rfl⟩) (by omega) (congrFun hR.2.2.2.1.1 _) rfl rfl rfl rfl (Nat.le_of_ble_eq_true rfl) dX6_pass_32 ⟨Nat.zero_le _, Nat.zero_le _⟩ rfl (fun H locs hw => ?_)
    generalize wB S15 3 17 T32 = S32 at h hw
    refine lv_pop hx hb dX6_pass_35 rfl ?_
    refine lv_aload_n hx hb dX6_pass_36 rfl (lv_at hl 1 rfl) ?_
    refine r_get (v := .ref (gA G (β + 3))) hx hb hts hinX6 hown hE hw hn 0 (by decide) (congrFun hR.1 _) rfl 1 (by decide) (hts _ (wz_in qF_X6_19)) rfl dX6_pass_37 ?_
    refine lv_iconst (v := (nI 2)) hx hb dX6_pass_40 (by decide) ?_
    obtain ⟨v41, h41, h⟩ := cr1_some h
    refine r_callV (As := [.int (nI 2)]) (rest := []) (st1 := [.int v41]) hx hb hml hown hts hE hw hl (mc_subR 3 17 (by decide) (mX4_howMany l G (by show β + 3 + 17 ≤ _; omega) hR.2.2.2.1 h41)) (cwV 1 hts (zV gV_X6_105) rfl rfl rfl kdX4_howMany ⟨Nat.le_of_ble_eq_true rfl, Nat.le_of_ble_eq_true rfl⟩) (by omega) (congrFun hR.2.2.2.1.1 _) rfl rfl rfl rfl (Nat.le_of_ble_eq_true rfl) dX6_pass_41 ⟨Nat.zero_le _, Nat.zero_le _⟩ rfl (fun H locs hw => ?_)
    refine lv_iload_n hx hb dX6_pass_44 rfl (lv_at hl 0 rfl) ?_
    refine lv_isub hx hb dX6_pass_45 ?_
    cases h
  · rw [← (Prod.mk.inj (Option.some.inj h)).2, ← Sum.inr.inj (Prod.mk.inj (Option.some.inj h)).1]
    exact x_callS (As := [.int a1, .int (nI 1), .int (nI 99)]) (rest := []) hx hb hml hown hts hE hw hl (xX6_checkRange l hfl G (M := (wB M β 316 S)) h4) (va_cwS 3 hts (zS gS_X6_45) rfl rfl rfl kdX6_checkRange ⟨Nat.le_of_ble_eq_true rfl, Nat.le_of_ble_eq_true rfl⟩) rfl rfl (Nat.le_of_ble_eq_true rfl) dX6_pass_4 ⟨Nat.le_refl _, Nat.le_refl _⟩ hout hlocks

set_option maxHeartbeats 4000000 in
set_option maxRecDepth 100000 in
theorem mX6_undo (l : Launch) (G : mG) {β : Nat} {M S S' : mM} {r : Int32} (hn : β + 316 ≤ gN G) (hR : isWR G β) (h : pX6_undo S = some (.inl r, S')) : MC l G yX6_undo zzX6_undo 5 104 [.ref (gA G (β + 0))] (wB M β 316 S) (wB M β 316 S') (some (.int r)) := by
  refine mc_of (cc := cX6_undo) (maxL := 1) (ret := (some .int)) (by decide) rfl (Nat.le_of_ble_eq_true rfl) ?_
  intro p e s m args below meth c H ls hx hb hr hts hown hml hlocks hE hw hl
  have hl : lv_has ls 1 [(0, .ref (gA G (β + 0)))] := hl
  have hinX6 : ∀ w ∈ wsX60, w ∈ zzX6_undo := fun w h9 => wz_in (zinX6 w h9)
  have k15 : ∀ (t0 : Int32) (S : mM) (H : Heap) (locs : List Loc) (ls : Array Slot), pX6_undo_b15  t0 S = some (.inl r, S') → mW G s (wB M β 316 S) H locs → lv_has ls 1 [(0, .ref (gA G (β + 0)))] → W p l e { frames := 5, cells := 0, slots := 0, locals := 104 } s m args below meth c H locs 0 0 (mZ below G (some (.int r)) (wB M β 316 S') args s) (F0 m 15 ls [.int t0]) := by
    intro t0 S H locs ls h hw hl
    unfold pX6_undo_b15 at h
    rcases bx_some h with ⟨h15, h⟩ | ⟨E15, h15, h⟩
    · refine r_callS (As := [.int t0]) (rest := []) (st1 := []) hx hb hml hown hts hE hw hl (mX6_refuseIf l G (M := (wB M β 316 S)) h15) (va_cwS 1 hts (zS gS_X6_53) rfl rfl rfl kdX6_refuseIf ⟨Nat.le_of_ble_eq_true rfl, Nat.le_of_ble_eq_true rfl⟩) rfl rfl (Nat.le_of_ble_eq_true rfl) dX6_undo_15 ⟨Nat.zero_le _, Nat.zero_le _⟩ rfl (fun H locs hw => ?_)
      refine lv_aload_n hx hb dX6_undo_18 rfl (lv_at hl 0 rfl) ?_
      refine r_get (v := .ref (gA G (β + 37))) hx hb hts hinX6 hown hE hw hn 0 (by decide) (congrFun hR.1 _) rfl 3 (by decide) (hts _ (wz_in qF_X6_29)) rfl dX6_undo_19 ?_
      refine lv_aload_n hx hb dX6_undo_22 rfl (lv_at hl 0 rfl) ?_
      refine r_get (v := .ref (gA G (β + 3))) hx hb hts hinX6 hown hE hw hn 0 (by decide) (congrFun hR.1 _) rfl 1 (by decide) (hts _ (wz_in qF_X6_19)) rfl dX6_undo_23 ?_
      obtain ⟨S26, h26, h⟩ := cr1_some h
      refine r_callV (As := [.ref (gA G (β + 3))]) (rest := []) (st1 := []) hx hb hml hown hts hE hw hl (mX0_takeBack l G (by omega) hR h26) (cwV 1 hts (zV gV_X6_187) rfl rfl rfl kdX0_takeBack ⟨Nat.le_of_ble_eq_true rfl, Nat.le_of_ble_eq_true rfl⟩) (by omega) (congrFun hR.2.2.2.2.2.1 _) rfl rfl rfl rfl (Nat.le_of_ble_eq_true rfl) dX6_undo_26 ⟨Nat.zero_le _, Nat.zero_le _⟩ rfl (fun H locs hw => ?_)
      refine lv_aload_n hx hb dX6_undo_29 rfl (lv_at hl 0 rfl) ?_
      refine r_get (v := .ref (gA G (β + 37))) hx hb hts hinX6 hown hE hw hn 0 (by decide) (congrFun hR.1 _) rfl 3 (by decide) (hts _ (wz_in qF_X6_29)) rfl dX6_undo_30 ?_
      obtain ⟨v33, h33, h⟩ := cr1_some h
      refine r_callV (As := []) (rest := []) (st1 := [.int v33]) hx hb hml hown hts hE hw hl (mX0_size l G (by omega) hR h33) (cwV 0 hts (zV gV_X6_185) rfl rfl rfl kdX0_size ⟨Nat.le_of_ble_eq_true rfl, Nat.le_of_ble_eq_true rfl⟩) (by omega) (congrFun hR.2.2.2.2.2.1 _) rfl rfl rfl rfl (Nat.le_of_ble_eq_true rfl) dX6_undo_33 ⟨Nat.zero_le _, Nat.zero_le _⟩ rfl (fun H locs hw => ?_)
      cases h
      exact r_iret hx hb hr hlocks hw dX6_undo_36
    · cases h
  unfold pX6_undo at h
  refine lv_aload_n hx hb dX6_undo_0 rfl (lv_at hl 0 rfl) ?_
  refine r_get (v := .ref (gA G (β + 37))) hx hb hts hinX6 hown hE hw hn 0 (by decide) (congrFun hR.1 _) rfl 3 (by decide) (hts _ (wz_in qF_X6_29)) rfl dX6_undo_1 ?_
  obtain ⟨v4, h4, h⟩ := cr1_some h
  refine r_callV (As := []) (rest := []) (st1 := [.int v4]) hx hb hml hown hts hE hw hl (mX0_size l G (by omega) hR h4) (cwV 0 hts (zV gV_X6_185) rfl rfl rfl kdX0_size ⟨Nat.le_of_ble_eq_true rfl, Nat.le_of_ble_eq_true rfl⟩) (by omega) (congrFun hR.2.2.2.2.2.1 _) rfl rfl rfl rfl (Nat.le_of_ble_eq_true rfl) dX6_undo_4 ⟨Nat.zero_le _, Nat.zero_le _⟩ rfl (fun H locs hw => ?_)
  refine b_ne (tgt := 14) hx hb dX6_undo_7 (by decide) h (fun h => ?_) (fun h => ?_)
  · refine lv_iconst (v := (nI 0)) hx hb dX6_undo_14 (by decide) ?_
    exact k15  (nI 0) S _ _ _ h hw (lv_sub hl [0] rfl)
  · refine lv_iconst (v := (nI 1)) hx hb dX6_undo_10 (by decide) ?_
    refine lv_goto (tgt := 15) hx hb dX6_undo_11 (by decide) ?_
    exact k15  (nI 1) S _ _ _ h hw (lv_sub hl [0] rfl)
set_option maxHeartbeats 4000000 in
set_option maxRecDepth 100000 in
theorem xX6_undo (l : Launch) (hfl : l.stackTraces = false) (G : mG) {β : Nat} {M S S' : mM} {E : String} (hn : β + 316 ≤ gN G) (hR : isWR G β) (h : pX6_undo S = some (.inr E, S')) : MX l G yX6_undo zzX6_undo 7 104 [.ref (gA G (β + 0))] (wB M β 316 S) (wB M β 316 S') E := by
  refine mx_of (cc := cX6_undo) (maxL := 1) (ret := (some .int)) (by decide) rfl (Nat.le_of_ble_eq_true rfl) ?_
  intro p e s m args below meth c H ls hx hb hr hts hown hml hlocks hout hE hw _ hl
  have hl : lv_has ls 1 [(0, .ref (gA G (β + 0)))] := hl
  have hinX6 : ∀ w ∈ wsX60, w ∈ zzX6_undo := fun w h9 => wz_in (zinX6 w h9)
  have k15 : ∀ (t0 : Int32) (S : mM) (H : Heap) (locs : List Loc) (ls : Array Slot), pX6_undo_b15  t0 S = some (.inr E, S') → mW G s (wB M β 316 S) H locs → lv_has ls 1 [(0, .ref (gA G (β + 0)))] → W p l e { frames := 7, cells := 1, slots := 6, locals := 104 } s m args below meth c H locs 0 0 (mY below G E (wB M β 316 S') args s) (F0 m 15 ls [.int t0]) := by
    intro t0 S H locs ls h hw hl
    unfold pX6_undo_b15 at h
    rcases bx_some h with ⟨h15, h⟩ | ⟨E15, h15, h⟩
    · refine r_callS (As := [.int t0]) (rest := []) (st1 := []) hx hb hml hown hts hE hw hl (mX6_refuseIf l G (M := (wB M β 316 S)) h15) (va_cwS 1 hts (zS gS_X6_53) rfl rfl rfl kdX6_refuseIf ⟨Nat.le_of_ble_eq_true rfl, Nat.le_of_ble_eq_true rfl⟩) rfl rfl (Nat.le_of_ble_eq_true rfl) dX6_undo_15 ⟨Nat.zero_le _, Nat.zero_le _⟩ rfl (fun H locs hw => ?_)
      refine lv_aload_n hx hb dX6_undo_18 rfl (lv_at hl 0 rfl) ?_
      refine r_get (v := .ref (gA G (β + 37))) hx hb hts hinX6 hown hE hw hn 0 (by decide) (congrFun hR.1 _) rfl 3 (by decide) (hts _ (wz_in qF_X6_29)) rfl dX6_undo_19 ?_
      refine lv_aload_n hx hb dX6_undo_22 rfl (lv_at hl 0 rfl) ?_
      refine r_get (v := .ref (gA G (β + 3))) hx hb hts hinX6 hown hE hw hn 0 (by decide) (congrFun hR.1 _) rfl 1 (by decide) (hts _ (wz_in qF_X6_19)) rfl dX6_undo_23 ?_
      obtain ⟨S26, h26, h⟩ := cr1_some h
      refine r_callV (As := [.ref (gA G (β + 3))]) (rest := []) (st1 := []) hx hb hml hown hts hE hw hl (mX0_takeBack l G (by omega) hR h26) (cwV 1 hts (zV gV_X6_187) rfl rfl rfl kdX0_takeBack ⟨Nat.le_of_ble_eq_true rfl, Nat.le_of_ble_eq_true rfl⟩) (by omega) (congrFun hR.2.2.2.2.2.1 _) rfl rfl rfl rfl (Nat.le_of_ble_eq_true rfl) dX6_undo_26 ⟨Nat.zero_le _, Nat.zero_le _⟩ rfl (fun H locs hw => ?_)
      refine lv_aload_n hx hb dX6_undo_29 rfl (lv_at hl 0 rfl) ?_
      refine r_get (v := .ref (gA G (β + 37))) hx hb hts hinX6 hown hE hw hn 0 (by decide) (congrFun hR.1 _) rfl 3 (by decide) (hts _ (wz_in qF_X6_29)) rfl dX6_undo_30 ?_
      obtain ⟨v33, h33, h⟩ := cr1_some h
      refine r_callV (As := []) (rest := []) (st1 := [.int v33]) hx hb hml hown hts hE hw hl (mX0_size l G (by omega) hR h33) (cwV 0 hts (zV gV_X6_185) rfl rfl rfl kdX0_size ⟨Nat.le_of_ble_eq_true rfl, Nat.le_of_ble_eq_true rfl⟩) (by omega) (congrFun hR.2.2.2.2.2.1 _) rfl rfl rfl rfl (Nat.le_of_ble_eq_true rfl) dX6_undo_33 ⟨Nat.zero_le _, Nat.zero_le _⟩ rfl (fun H locs hw => ?_)
      cases h
    · rw [← (Prod.mk.inj (Option.some.inj h)).2, ← Sum.inr.inj (Prod.mk.inj (Option.some.inj h)).1]
      exact x_callS (As := [.int t0]) (rest := []) hx hb hml hown hts hE hw hl (xX6_refuseIf l hfl G (M := (wB M β 316 S)) h15) (va_cwS 1 hts (zS gS_X6_53) rfl rfl rfl kdX6_refuseIf ⟨Nat.le_of_ble_eq_true rfl, Nat.le_of_ble_eq_true rfl⟩) rfl rfl (Nat.le_of_ble_eq_true rfl) dX6_undo_15 ⟨Nat.le_refl _, Nat.le_refl _⟩ hout hlocks
  unfold pX6_undo at h
  refine lv_aload_n hx hb dX6_undo_0 rfl (lv_at hl 0 rfl) ?_
  refine r_get (v := .ref (gA G (β + 37))) hx hb hts hinX6 hown hE hw hn 0 (by decide) (congrFun hR.1 _) rfl 3 (by decide) (hts _ (wz_in qF_X6_29)) rfl dX6_undo_1 ?_
  obtain ⟨v4, h4, h⟩ := cr1_some h
  refine r_callV (As := []) (rest := []) (st1 := [.int v4]) hx hb hml hown hts hE hw hl (mX0_size l G (by omega) hR h4) (cwV 0 hts (zV gV_X6_185) rfl rfl rfl kdX0_size ⟨Nat.le_of_ble_eq_true rfl, Nat.le_of_ble_eq_true rfl⟩) (by omega) (congrFun hR.2.2.2.2.2.1 _) rfl rfl rfl rfl (Nat.le_of_ble_eq_true rfl) dX6_undo_4 ⟨Nat.zero_le _, Nat.zero_le _⟩ rfl (fun H locs hw => ?_)
  refine b_ne (tgt := 14) hx hb dX6_undo_7 (by decide) h (fun h => ?_) (fun h => ?_)
  · refine lv_iconst (v := (nI 0)) hx hb dX6_undo_14 (by decide) ?_
    exact k15  (nI 0) S _ _ _ h hw (lv_sub hl [0] rfl)
  · refine lv_iconst (v := (nI 1)) hx hb dX6_undo_10 (by decide) ?_
    refine lv_goto (tgt := 15) hx hb dX6_undo_11 (by decide) ?_
    exact k15  (nI 1) S _ _ _ h hw (lv_sub hl [0] rfl)

set_option maxHeartbeats 4000000 in
set_option maxRecDepth 100000 in
theorem mX6_arrives (l : Launch) (G : mG) {β : Nat} {M S S' : mM} {a1 : Int32} {r : Int32} (hn : β + 316 ≤ gN G) (hR : isWR G β) (h : pX6_arrives a1 S = some (.inl r, S')) : MC l G yX6_arrives zzX6_arrives 6 143 [.ref (gA G (β + 0)), .int a1] (wB M β 316 S) (wB M β 316 S') (some (.int r)) := by
  refine mc_of (cc := cX6_arrives) (maxL := 2) (ret := (some .int)) (by decide) rfl (Nat.le_of_ble_eq_true rfl) ?_
  intro p e s m args below meth c H ls hx hb hr hts hown hml hlocks hE hw hl
  have hl : lv_has ls 2 [(0, .ref (gA G (β + 0))), (1, .int a1)] := hl
  have hinX4 : ∀ w ∈ wsX40, w ∈ zzX6_arrives := fun w h9 => wz_in (zinX4 w h9)
  have hinX6 : ∀ w ∈ wsX60, w ∈ zzX6_arrives := fun w h9 => wz_in (zinX6 w h9)
  unfold pX6_arrives at h
  refine lv_aload_n hx hb dX6_arrives_0 rfl (lv_at hl 0 rfl) ?_
  refine r_get (v := .ref (gA G (β + 3))) hx hb hts hinX6 hown hE hw hn 0 (by decide) (congrFun hR.1 _) rfl 1 (by decide) (hts _ (wz_in qF_X6_19)) rfl dX6_arrives_1 ?_
  refine r_get (v := .ref (gA G (β + 10))) hx hb hts hinX4 hown hE hw hn 3 (by decide) (congrFun hR.2.2.2.1.1 _) rfl 3 (by decide) (hts _ (wz_in qF_X6_102)) rfl dX6_arrives_4 ?_
  refine lv_iload_n hx hb dX6_arrives_7 rfl (lv_at hl 1 rfl) ?_
  rcases bx_some h with ⟨h8, h⟩ | ⟨E8, h8, h⟩
  · refine r_callS (As := [.ref (gA G (β + 10)), .int a1]) (rest := []) (st1 := []) hx hb hml hown hts hE hw hl (mc_subR 10 2 (by decide) (mX6_checkExists l G (by show β + 10 + 2 ≤ _; omega) hR.2.2.2.1.2.2.2.2.1 h8)) (va_cwS 2 hts (zS gS_X6_112) rfl rfl rfl kdX6_checkExists ⟨Nat.le_of_ble_eq_true rfl, Nat.le_of_ble_eq_true rfl⟩) rfl rfl (Nat.le_of_ble_eq_true rfl) dX6_arrives_8 ⟨Nat.zero_le _, Nat.zero_le _⟩ rfl (fun H locs hw => ?_)
    refine lv_aload_n hx hb dX6_arrives_11 rfl (lv_at hl 0 rfl) ?_
    refine r_get (v := .ref (gA G (β + 20))) hx hb hts hinX6 hown hE hw hn 0 (by decide) (congrFun hR.1 _) rfl 2 (by decide) (hts _ (wz_in qF_X6_23)) rfl dX6_arrives_12 ?_
    refine lv_aload_n hx hb dX6_arrives_15 rfl (lv_at hl 0 rfl) ?_
    refine r_get (v := .ref (gA G (β + 3))) hx hb hts hinX6 hown hE hw hn 0 (by decide) (congrFun hR.1 _) rfl 1 (by decide) (hts _ (wz_in qF_X6_19)) rfl dX6_arrives_16 ?_
    obtain ⟨S19, h19, h⟩ := cr1_some h
    refine r_callV (As := [.ref (gA G (β + 3))]) (rest := []) (st1 := []) hx hb hml hown hts hE hw hl (mX4_copyFrom l G (by omega) hR (by decide) (by decide) hR.2.2.2.2.1 hR.2.2.2.1 h19) (cwV 1 hts (zV gV_X6_69) rfl rfl rfl kdX4_copyFrom ⟨Nat.le_of_ble_eq_true rfl, Nat.le_of_ble_eq_true rfl⟩) (by omega) (congrFun hR.2.2.2.2.1.1 _) rfl rfl rfl rfl (Nat.le_of_ble_eq_true rfl) dX6_arrives_19 ⟨Nat.zero_le _, Nat.zero_le _⟩ rfl (fun H locs hw => ?_)
    refine lv_aload_n hx hb dX6_arrives_22 rfl (lv_at hl 0 rfl) ?_
    refine r_get (v := .ref (gA G (β + 20))) hx hb hts hinX6 hown hE hw hn 0 (by decide) (congrFun hR.1 _) rfl 2 (by decide) (hts _ (wz_in qF_X6_23)) rfl dX6_arrives_23 ?_
    refine lv_iload_n hx hb dX6_arrives_26 rfl (lv_at hl 1 rfl) ?_
    obtain ⟨v27, T27, h27, h⟩ := cws_some h
    refine r_callV (As := [.int a1]) (rest := []) (st1 := [.int v27]) hx hb hml hown hts hE hw hl (mc_sub 20 17 (by decide) (mX4_hoursToEnd l G (by show β + 20 + 17 ≤ _; omega) hR.2.2.2.2.1 h27)) (cwV 1 hts (zV gV_X6_190) rfl rfl rfl kdX4_hoursToEnd ⟨Nat.le_of_ble_eq_true rfl, Nat.le_of_ble_eq_true rfl⟩) (by omega) (congrFun hR.2.2.2.2.1.1 _) rfl rfl rfl rfl (Nat.le_of_ble_eq_true rfl) dX6_arrives_27 ⟨Nat.zero_le _, Nat.zero_le _⟩ rfl (fun H locs hw => ?_)
    generalize wB S19 20 17 T27 = S27 at h hw
    cases h
    exact r_iret hx hb hr hlocks hw dX6_arrives_30
  · cases h
set_option maxHeartbeats 4000000 in
set_option maxRecDepth 100000 in
theorem xX6_arrives (l : Launch) (hfl : l.stackTraces = false) (G : mG) {β : Nat} {M S S' : mM} {a1 : Int32} {E : String} (hn : β + 316 ≤ gN G) (hR : isWR G β) (h : pX6_arrives a1 S = some (.inr E, S')) : MX l G yX6_arrives zzX6_arrives 7 143 [.ref (gA G (β + 0)), .int a1] (wB M β 316 S) (wB M β 316 S') E := by
  refine mx_of (cc := cX6_arrives) (maxL := 2) (ret := (some .int)) (by decide) rfl (Nat.le_of_ble_eq_true rfl) ?_
  intro p e s m args below meth c H ls hx hb hr hts hown hml hlocks hout hE hw _ hl
  have hl : lv_has ls 2 [(0, .ref (gA G (β + 0))), (1, .int a1)] := hl
  have hinX4 : ∀ w ∈ wsX40, w ∈ zzX6_arrives := fun w h9 => wz_in (zinX4 w h9)
  have hinX6 : ∀ w ∈ wsX60, w ∈ zzX6_arrives := fun w h9 => wz_in (zinX6 w h9)
  unfold pX6_arrives at h
  refine lv_aload_n hx hb dX6_arrives_0 rfl (lv_at hl 0 rfl) ?_
  refine r_get (v := .ref (gA G (β + 3))) hx hb hts hinX6 hown hE hw hn 0 (by decide) (congrFun hR.1 _) rfl 1 (by decide) (hts _ (wz_in qF_X6_19)) rfl dX6_arrives_1 ?_
  refine r_get (v := .ref (gA G (β + 10))) hx hb hts hinX4 hown hE hw hn 3 (by decide) (congrFun hR.2.2.2.1.1 _) rfl 3 (by decide) (hts _ (wz_in qF_X6_102)) rfl dX6_arrives_4 ?_
  refine lv_iload_n hx hb dX6_arrives_7 rfl (lv_at hl 1 rfl) ?_
  rcases bx_some h with ⟨h8, h⟩ | ⟨E8, h8, h⟩
  · refine r_callS (As := [.ref (gA G (β + 10)), .int a1]) (rest := []) (st1 := []) hx hb hml hown hts hE hw hl (mc_subR 10 2 (by decide) (mX6_checkExists l G (by show β + 10 + 2 ≤ _; omega) hR.2.2.2.1.2.2.2.2.1 h8)) (va_cwS 2 hts (zS gS_X6_112) rfl rfl rfl kdX6_checkExists ⟨Nat.le_of_ble_eq_true rfl, Nat.le_of_ble_eq_true rfl⟩) rfl rfl (Nat.le_of_ble_eq_true rfl) dX6_arrives_8 ⟨Nat.zero_le _, Nat.zero_le _⟩ rfl (fun H locs hw => ?_)
    refine lv_aload_n hx hb dX6_arrives_11 rfl (lv_at hl 0 rfl) ?_
    refine r_get (v := .ref (gA G (β + 20))) hx hb hts hinX6 hown hE hw hn 0 (by decide) (congrFun hR.1 _) rfl 2 (by decide) (hts _ (wz_in qF_X6_23)) rfl dX6_arrives_12 ?_
    refine lv_aload_n hx hb dX6_arrives_15 rfl (lv_at hl 0 rfl) ?_
    refine r_get (v := .ref (gA G (β + 3))) hx hb hts hinX6 hown hE hw hn 0 (by decide) (congrFun hR.1 _) rfl 1 (by decide) (hts _ (wz_in qF_X6_19)) rfl dX6_arrives_16 ?_
    obtain ⟨S19, h19, h⟩ := cr1_some h
    refine r_callV (As := [.ref (gA G (β + 3))]) (rest := []) (st1 := []) hx hb hml hown hts hE hw hl (mX4_copyFrom l G (by omega) hR (by decide) (by decide) hR.2.2.2.2.1 hR.2.2.2.1 h19) (cwV 1 hts (zV gV_X6_69) rfl rfl rfl kdX4_copyFrom ⟨Nat.le_of_ble_eq_true rfl, Nat.le_of_ble_eq_true rfl⟩) (by omega) (congrFun hR.2.2.2.2.1.1 _) rfl rfl rfl rfl (Nat.le_of_ble_eq_true rfl) dX6_arrives_19 ⟨Nat.zero_le _, Nat.zero_le _⟩ rfl (fun H locs hw => ?_)
    refine lv_aload_n hx hb dX6_arrives_22 rfl (lv_at hl 0 rfl) ?_
    refine r_get (v := .ref (gA G (β + 20))) hx hb hts hinX6 hown hE hw hn 0 (by decide) (congrFun hR.1 _) rfl 2 (by decide) (hts _ (wz_in qF_X6_23)) rfl dX6_arrives_23 ?_
    refine lv_iload_n hx hb dX6_arrives_26 rfl (lv_at hl 1 rfl) ?_
    obtain ⟨v27, T27, h27, h⟩ := cws_some h
    refine r_callV (As := [.int a1]) (rest := []) (st1 := [.int v27]) hx hb hml hown hts hE hw hl (mc_sub 20 17 (by decide) (mX4_hoursToEnd l G (by show β + 20 + 17 ≤ _; omega) hR.2.2.2.2.1 h27)) (cwV 1 hts (zV gV_X6_190) rfl rfl rfl kdX4_hoursToEnd ⟨Nat.le_of_ble_eq_true rfl, Nat.le_of_ble_eq_true rfl⟩) (by omega) (congrFun hR.2.2.2.2.1.1 _) rfl rfl rfl rfl (Nat.le_of_ble_eq_true rfl) dX6_arrives_27 ⟨Nat.zero_le _, Nat.zero_le _⟩ rfl (fun H locs hw => ?_)
    generalize wB S19 20 17 T27 = S27 at h hw
    cases h
  · rw [← (Prod.mk.inj (Option.some.inj h)).2, ← Sum.inr.inj (Prod.mk.inj (Option.some.inj h)).1]
    exact x_callS (As := [.ref (gA G (β + 10)), .int a1]) (rest := []) hx hb hml hown hts hE hw hl (mx_subR 10 2 (by decide) (xX6_checkExists l hfl G (by show β + 10 + 2 ≤ _; omega) hR.2.2.2.1.2.2.2.2.1 h8)) (va_cwS 2 hts (zS gS_X6_112) rfl rfl rfl kdX6_checkExists ⟨Nat.le_of_ble_eq_true rfl, Nat.le_of_ble_eq_true rfl⟩) rfl rfl (Nat.le_of_ble_eq_true rfl) dX6_arrives_8 ⟨Nat.le_refl _, Nat.le_refl _⟩ hout hlocks

set_option maxHeartbeats 4000000 in
set_option maxRecDepth 100000 in
theorem mX6_leaves (l : Launch) (G : mG) {β : Nat} {M S S' : mM} {a1 : Int32} {r : Int32} (hn : β + 316 ≤ gN G) (hR : isWR G β) (h : pX6_leaves a1 S = some (.inl r, S')) : MC l G yX6_leaves zzX6_leaves 6 143 [.ref (gA G (β + 0)), .int a1] (wB M β 316 S) (wB M β 316 S') (some (.int r)) := by
  refine mc_of (cc := cX6_leaves) (maxL := 2) (ret := (some .int)) (by decide) rfl (Nat.le_of_ble_eq_true rfl) ?_
  intro p e s m args below meth c H ls hx hb hr hts hown hml hlocks hE hw hl
  have hl : lv_has ls 2 [(0, .ref (gA G (β + 0))), (1, .int a1)] := hl
  have hinX4 : ∀ w ∈ wsX40, w ∈ zzX6_leaves := fun w h9 => wz_in (zinX4 w h9)
  have hinX6 : ∀ w ∈ wsX60, w ∈ zzX6_leaves := fun w h9 => wz_in (zinX6 w h9)
  unfold pX6_leaves at h
  refine lv_aload_n hx hb dX6_leaves_0 rfl (lv_at hl 0 rfl) ?_
  refine r_get (v := .ref (gA G (β + 3))) hx hb hts hinX6 hown hE hw hn 0 (by decide) (congrFun hR.1 _) rfl 1 (by decide) (hts _ (wz_in qF_X6_19)) rfl dX6_leaves_1 ?_
  refine r_get (v := .ref (gA G (β + 10))) hx hb hts hinX4 hown hE hw hn 3 (by decide) (congrFun hR.2.2.2.1.1 _) rfl 3 (by decide) (hts _ (wz_in qF_X6_102)) rfl dX6_leaves_4 ?_
  refine lv_iload_n hx hb dX6_leaves_7 rfl (lv_at hl 1 rfl) ?_
  rcases bx_some h with ⟨h8, h⟩ | ⟨E8, h8, h⟩
  · refine r_callS (As := [.ref (gA G (β + 10)), .int a1]) (rest := []) (st1 := []) hx hb hml hown hts hE hw hl (mc_subR 10 2 (by decide) (mX6_checkExists l G (by show β + 10 + 2 ≤ _; omega) hR.2.2.2.1.2.2.2.2.1 h8)) (va_cwS 2 hts (zS gS_X6_112) rfl rfl rfl kdX6_checkExists ⟨Nat.le_of_ble_eq_true rfl, Nat.le_of_ble_eq_true rfl⟩) rfl rfl (Nat.le_of_ble_eq_true rfl) dX6_leaves_8 ⟨Nat.zero_le _, Nat.zero_le _⟩ rfl (fun H locs hw => ?_)
    refine lv_aload_n hx hb dX6_leaves_11 rfl (lv_at hl 0 rfl) ?_
    refine r_get (v := .ref (gA G (β + 20))) hx hb hts hinX6 hown hE hw hn 0 (by decide) (congrFun hR.1 _) rfl 2 (by decide) (hts _ (wz_in qF_X6_23)) rfl dX6_leaves_12 ?_
    refine lv_aload_n hx hb dX6_leaves_15 rfl (lv_at hl 0 rfl) ?_
    refine r_get (v := .ref (gA G (β + 3))) hx hb hts hinX6 hown hE hw hn 0 (by decide) (congrFun hR.1 _) rfl 1 (by decide) (hts _ (wz_in qF_X6_19)) rfl dX6_leaves_16 ?_
    obtain ⟨S19, h19, h⟩ := cr1_some h
    refine r_callV (As := [.ref (gA G (β + 3))]) (rest := []) (st1 := []) hx hb hml hown hts hE hw hl (mX4_copyFrom l G (by omega) hR (by decide) (by decide) hR.2.2.2.2.1 hR.2.2.2.1 h19) (cwV 1 hts (zV gV_X6_69) rfl rfl rfl kdX4_copyFrom ⟨Nat.le_of_ble_eq_true rfl, Nat.le_of_ble_eq_true rfl⟩) (by omega) (congrFun hR.2.2.2.2.1.1 _) rfl rfl rfl rfl (Nat.le_of_ble_eq_true rfl) dX6_leaves_19 ⟨Nat.zero_le _, Nat.zero_le _⟩ rfl (fun H locs hw => ?_)
    refine lv_aload_n hx hb dX6_leaves_22 rfl (lv_at hl 0 rfl) ?_
    refine r_get (v := .ref (gA G (β + 20))) hx hb hts hinX6 hown hE hw hn 0 (by decide) (congrFun hR.1 _) rfl 2 (by decide) (hts _ (wz_in qF_X6_23)) rfl dX6_leaves_23 ?_
    refine lv_iload_n hx hb dX6_leaves_26 rfl (lv_at hl 1 rfl) ?_
    obtain ⟨v27, T27, h27, h⟩ := cws_some h
    refine r_callV (As := [.int a1]) (rest := []) (st1 := [.int v27]) hx hb hml hown hts hE hw hl (mc_sub 20 17 (by decide) (mX4_firstLeftBy l G (by show β + 20 + 17 ≤ _; omega) hR.2.2.2.2.1 h27)) (cwV 1 hts (zV gV_X6_193) rfl rfl rfl kdX4_firstLeftBy ⟨Nat.le_of_ble_eq_true rfl, Nat.le_of_ble_eq_true rfl⟩) (by omega) (congrFun hR.2.2.2.2.1.1 _) rfl rfl rfl rfl (Nat.le_of_ble_eq_true rfl) dX6_leaves_27 ⟨Nat.zero_le _, Nat.zero_le _⟩ rfl (fun H locs hw => ?_)
    generalize wB S19 20 17 T27 = S27 at h hw
    cases h
    exact r_iret hx hb hr hlocks hw dX6_leaves_30
  · cases h
set_option maxHeartbeats 4000000 in
set_option maxRecDepth 100000 in
theorem xX6_leaves (l : Launch) (hfl : l.stackTraces = false) (G : mG) {β : Nat} {M S S' : mM} {a1 : Int32} {E : String} (hn : β + 316 ≤ gN G) (hR : isWR G β) (h : pX6_leaves a1 S = some (.inr E, S')) : MX l G yX6_leaves zzX6_leaves 7 143 [.ref (gA G (β + 0)), .int a1] (wB M β 316 S) (wB M β 316 S') E := by
  refine mx_of (cc := cX6_leaves) (maxL := 2) (ret := (some .int)) (by decide) rfl (Nat.le_of_ble_eq_true rfl) ?_
  intro p e s m args below meth c H ls hx hb hr hts hown hml hlocks hout hE hw _ hl
  have hl : lv_has ls 2 [(0, .ref (gA G (β + 0))), (1, .int a1)] := hl
  have hinX4 : ∀ w ∈ wsX40, w ∈ zzX6_leaves := fun w h9 => wz_in (zinX4 w h9)
  have hinX6 : ∀ w ∈ wsX60, w ∈ zzX6_leaves := fun w h9 => wz_in (zinX6 w h9)
  unfold pX6_leaves at h
  refine lv_aload_n hx hb dX6_leaves_0 rfl (lv_at hl 0 rfl) ?_
  refine r_get (v := .ref (gA G (β + 3))) hx hb hts hinX6 hown hE hw hn 0 (by decide) (congrFun hR.1 _) rfl 1 (by decide) (hts _ (wz_in qF_X6_19)) rfl dX6_leaves_1 ?_
  refine r_get (v := .ref (gA G (β + 10))) hx hb hts hinX4 hown hE hw hn 3 (by decide) (congrFun hR.2.2.2.1.1 _) rfl 3 (by decide) (hts _ (wz_in qF_X6_102)) rfl dX6_leaves_4 ?_
  refine lv_iload_n hx hb dX6_leaves_7 rfl (lv_at hl 1 rfl) ?_
  rcases bx_some h with ⟨h8, h⟩ | ⟨E8, h8, h⟩
  · refine r_callS (As := [.ref (gA G (β + 10)), .int a1]) (rest := []) (st1 := []) hx hb hml hown hts hE hw hl (mc_subR 10 2 (by decide) (mX6_checkExists l G (by show β + 10 + 2 ≤ _; omega) hR.2.2.2.1.2.2.2.2.1 h8)) (va_cwS 2 hts (zS gS_X6_112) rfl rfl rfl kdX6_checkExists ⟨Nat.le_of_ble_eq_true rfl, Nat.le_of_ble_eq_true rfl⟩) rfl rfl (Nat.le_of_ble_eq_true rfl) dX6_leaves_8 ⟨Nat.zero_le _, Nat.zero_le _⟩ rfl (fun H locs hw => ?_)
    refine lv_aload_n hx hb dX6_leaves_11 rfl (lv_at hl 0 rfl) ?_
    refine r_get (v := .ref (gA G (β + 20))) hx hb hts hinX6 hown hE hw hn 0 (by decide) (congrFun hR.1 _) rfl 2 (by decide) (hts _ (wz_in qF_X6_23)) rfl dX6_leaves_12 ?_
    refine lv_aload_n hx hb dX6_leaves_15 rfl (lv_at hl 0 rfl) ?_
    refine r_get (v := .ref (gA G (β + 3))) hx hb hts hinX6 hown hE hw hn 0 (by decide) (congrFun hR.1 _) rfl 1 (by decide) (hts _ (wz_in qF_X6_19)) rfl dX6_leaves_16 ?_
    obtain ⟨S19, h19, h⟩ := cr1_some h
    refine r_callV (As := [.ref (gA G (β + 3))]) (rest := []) (st1 := []) hx hb hml hown hts hE hw hl (mX4_copyFrom l G (by omega) hR (by decide) (by decide) hR.2.2.2.2.1 hR.2.2.2.1 h19) (cwV 1 hts (zV gV_X6_69) rfl rfl rfl kdX4_copyFrom ⟨Nat.le_of_ble_eq_true rfl, Nat.le_of_ble_eq_true rfl⟩) (by omega) (congrFun hR.2.2.2.2.1.1 _) rfl rfl rfl rfl (Nat.le_of_ble_eq_true rfl) dX6_leaves_19 ⟨Nat.zero_le _, Nat.zero_le _⟩ rfl (fun H locs hw => ?_)
    refine lv_aload_n hx hb dX6_leaves_22 rfl (lv_at hl 0 rfl) ?_
    refine r_get (v := .ref (gA G (β + 20))) hx hb hts hinX6 hown hE hw hn 0 (by decide) (congrFun hR.1 _) rfl 2 (by decide) (hts _ (wz_in qF_X6_23)) rfl dX6_leaves_23 ?_
    refine lv_iload_n hx hb dX6_leaves_26 rfl (lv_at hl 1 rfl) ?_
    obtain ⟨v27, T27, h27, h⟩ := cws_some h
    refine r_callV (As := [.int a1]) (rest := []) (st1 := [.int v27]) hx hb hml hown hts hE hw hl (mc_sub 20 17 (by decide) (mX4_firstLeftBy l G (by show β + 20 + 17 ≤ _; omega) hR.2.2.2.2.1 h27)) (cwV 1 hts (zV gV_X6_193) rfl rfl rfl kdX4_firstLeftBy ⟨Nat.le_of_ble_eq_true rfl, Nat.le_of_ble_eq_true rfl⟩) (by omega) (congrFun hR.2.2.2.2.1.1 _) rfl rfl rfl rfl (Nat.le_of_ble_eq_true rfl) dX6_leaves_27 ⟨Nat.zero_le _, Nat.zero_le _⟩ rfl (fun H locs hw => ?_)
    generalize wB S19 20 17 T27 = S27 at h hw
    cases h
  · rw [← (Prod.mk.inj (Option.some.inj h)).2, ← Sum.inr.inj (Prod.mk.inj (Option.some.inj h)).1]
    exact x_callS (As := [.ref (gA G (β + 10)), .int a1]) (rest := []) hx hb hml hown hts hE hw hl (mx_subR 10 2 (by decide) (xX6_checkExists l hfl G (by show β + 10 + 2 ≤ _; omega) hR.2.2.2.1.2.2.2.2.1 h8)) (va_cwS 2 hts (zS gS_X6_112) rfl rfl rfl kdX6_checkExists ⟨Nat.le_of_ble_eq_true rfl, Nat.le_of_ble_eq_true rfl⟩) rfl rfl (Nat.le_of_ble_eq_true rfl) dX6_leaves_8 ⟨Nat.le_refl _, Nat.le_refl _⟩ hout hlocks
