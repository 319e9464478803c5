/-! ===== walks, by program ===== -/
set_option maxHeartbeats 4000000 in
set_option maxRecDepth 100000 in
theorem mX6_member (l : Launch) (G : mG) {β : Nat} {M S : mM} {a1 : Int32} {a2 : Int32} {r : Int32} (hn : β + 316 ≤ gN G) (hR : isWR G β) (h : pX6_member a1 a2 S = some (.inl r)) : MC l G yX6_member zzX6_member 2 42 [.ref (gA G (β + 0)), .int a1, .int a2] (wB M β 316 S) (wB M β 316 S) (some (.int r)) := by
  refine mc_of (cc := cX6_member) (maxL := 3) (ret := (some .int)) (by decide) rfl (Nat.le_of_ble_eq_true rfl) ?_
  intro p e s m args below meth c H ls hx hb hr hts hown hml hlocks hE hw hl
  have hl : lv_has ls 3 [(0, .ref (gA G (β + 0))), (1, .int a1), (2, .int a2)] := hl
  have hinX4 : ∀ w ∈ wsX40, w ∈ zzX6_member := fun w h9 => wz_in (zinX4 w h9)
  have hinX6 : ∀ w ∈ wsX60, w ∈ zzX6_member := fun w h9 => wz_in (zinX6 w h9)
  have k20 : ∀ (x1 : Int32) (x2 : Int32) (t0 : Int32) (H : Heap) (locs : List Loc) (ls : Array Slot), pX6_member_b20  S x1 x2 t0 = some (.inl r) → mW G s (wB M β 316 S) H locs → lv_has ls 3 [(0, .ref (gA G (β + 0))), (1, .int x1), (2, .int x2)] → W p l e { frames := 2, cells := 0, slots := 0, locals := 42 } s m args below meth c H locs 0 0 (mZ below G (some (.int r)) (wB M β 316 S) args s) (F0 m 20 ls [.int t0]) := by
    intro x1 x2 t0 H locs ls h hw hl
    unfold pX6_member_b20 at h
    rcases bx_some h with ⟨h20, h⟩ | ⟨E20, h20, h⟩
    · refine r_callS (As := [.int t0]) (rest := []) (st1 := []) hx hb hml hown hts hE hw hl (mX6_refuseArgumentIf l G (M := (wB M β 316 S)) h20) (va_cwS 1 hts (zS gS_X6_139) rfl rfl rfl kdX6_refuseArgumentIf ⟨Nat.le_of_ble_eq_true rfl, Nat.le_of_ble_eq_true rfl⟩) rfl rfl (Nat.le_of_ble_eq_true rfl) dX6_member_20 ⟨Nat.zero_le _, Nat.zero_le _⟩ rfl (fun H locs hw => ?_)
      refine lv_aload_n hx hb dX6_member_23 rfl (lv_at hl 0 rfl) ?_
      refine r_get (v := .ref (gA G (β + 3))) hx hb hts hinX6 hown hE hw hn 0 (by decide) (congrFun hR.1 _) rfl 1 (by decide) (hts _ (wz_in qF_X6_19)) rfl dX6_member_24 ?_
      refine r_get (v := .ref (gA G (β + 14))) hx hb hts hinX4 hown hE hw hn 3 (by decide) (congrFun hR.2.2.2.1.1 _) rfl 5 (by decide) (hts _ (wz_in qF_X6_120)) rfl dX6_member_27 ?_
      refine lv_iload_n hx hb dX6_member_30 rfl (lv_at hl 1 rfl) ?_
      refine lv_iload_n hx hb dX6_member_31 rfl (lv_at hl 2 rfl) ?_
      obtain ⟨v32, h32, h⟩ := cr1_some h
      refine r_callV (As := [.int x1, .int x2]) (rest := []) (st1 := [.int v32]) hx hb hml hown hts hE hw hl (mc_subR 14 3 (by decide) (mX2_get l G (by show β + 14 + 3 ≤ _; omega) hR.2.2.2.1.2.2.2.2.2.2.1 h32)) (cwV 2 hts (zV gV_X6_142) rfl rfl rfl kdX2_get ⟨Nat.le_of_ble_eq_true rfl, Nat.le_of_ble_eq_true rfl⟩) (by omega) (congrFun hR.2.2.2.1.2.2.2.2.2.2.1.1 _) rfl rfl rfl rfl (Nat.le_of_ble_eq_true rfl) dX6_member_32 ⟨Nat.zero_le _, Nat.zero_le _⟩ rfl (fun H locs hw => ?_)
      cases h
      exact r_iret hx hb hr hlocks hw dX6_member_35
    · cases h
  unfold pX6_member at h
  refine lv_aload_n hx hb dX6_member_0 rfl (lv_at hl 0 rfl) ?_
  refine r_get (v := .ref (gA G (β + 3))) hx hb hts hinX6 hown hE hw hn 0 (by decide) (congrFun hR.1 _) rfl 1 (by decide) (hts _ (wz_in qF_X6_19)) rfl dX6_member_1 ?_
  refine r_get (v := .ref (gA G (β + 10))) hx hb hts hinX4 hown hE hw hn 3 (by decide) (congrFun hR.2.2.2.1.1 _) rfl 3 (by decide) (hts _ (wz_in qF_X6_102)) rfl dX6_member_4 ?_
  refine lv_iload_n hx hb dX6_member_7 rfl (lv_at hl 1 rfl) ?_
  rcases bx_some h with ⟨h8, h⟩ | ⟨E8, h8, h⟩
  · refine r_callS (As := [.ref (gA G (β + 10)), .int a1]) (rest := []) (st1 := []) hx hb hml hown hts hE hw hl (mc_subR 10 2 (by decide) (mX6_checkExists l G (by show β + 10 + 2 ≤ _; omega) hR.2.2.2.1.2.2.2.2.1 h8)) (va_cwS 2 hts (zS gS_X6_112) rfl rfl rfl kdX6_checkExists ⟨Nat.le_of_ble_eq_true rfl, Nat.le_of_ble_eq_true rfl⟩) rfl rfl (Nat.le_of_ble_eq_true rfl) dX6_member_8 ⟨Nat.zero_le _, Nat.zero_le _⟩ rfl (fun H locs hw => ?_)
    refine lv_iload_n hx hb dX6_member_11 rfl (lv_at hl 2 rfl) ?_
    refine b_ge (tgt := 19) hx hb dX6_member_12 (by decide) h (fun h => ?_) (fun h => ?_)
    · refine lv_iconst (v := (nI 0)) hx hb dX6_member_19 (by decide) ?_
      exact k20  a1 a2 (nI 0) _ _ _ h hw (lv_sub hl [0, 1, 2] rfl)
    · refine lv_iconst (v := (nI 1)) hx hb dX6_member_15 (by decide) ?_
      refine lv_goto (tgt := 20) hx hb dX6_member_16 (by decide) ?_
      exact k20  a1 a2 (nI 1) _ _ _ h hw (lv_sub hl [0, 1, 2] rfl)
  · cases h
set_option maxHeartbeats 4000000 in
set_option maxRecDepth 100000 in
theorem xX6_member (l : Launch) (hfl : l.stackTraces = false) (G : mG) {β : Nat} {M S : mM} {a1 : Int32} {a2 : Int32} {E : String} (hn : β + 316 ≤ gN G) (hR : isWR G β) (h : pX6_member a1 a2 S = some (.inr E)) : MX l G yX6_member zzX6_member 7 103 [.ref (gA G (β + 0)), .int a1, .int a2] (wB M β 316 S) (wB M β 316 S) E := by
  refine mx_of (cc := cX6_member) (maxL := 3) (ret := (some .int)) (by decide) rfl (Nat.le_of_ble_eq_true rfl) ?_
  intro p e s m args below meth c H ls hx hb hr hts hown hml hlocks hout hE hw _ hl
  have hl : lv_has ls 3 [(0, .ref (gA G (β + 0))), (1, .int a1), (2, .int a2)] := hl
  have hinX4 : ∀ w ∈ wsX40, w ∈ zzX6_member := fun w h9 => wz_in (zinX4 w h9)
  have hinX6 : ∀ w ∈ wsX60, w ∈ zzX6_member := fun w h9 => wz_in (zinX6 w h9)
  have k20 : ∀ (x1 : Int32) (x2 : Int32) (t0 : Int32) (H : Heap) (locs : List Loc) (ls : Array Slot), pX6_member_b20  S x1 x2 t0 = some (.inr E) → mW G s (wB M β 316 S) H locs → lv_has ls 3 [(0, .ref (gA G (β + 0))), (1, .int x1), (2, .int x2)] → W p l e { frames := 7, cells := 1, slots := 6, locals := 103 } s m args below meth c H locs 0 0 (mY below G E (wB M β 316 S) args s) (F0 m 20 ls [.int t0]) := by
    intro x1 x2 t0 H locs ls h hw hl
    unfold pX6_member_b20 at h
    rcases bx_some h with ⟨h20, h⟩ | ⟨E20, h20, h⟩
    · refine r_callS (As := [.int t0]) (rest := []) (st1 := []) hx hb hml hown hts hE hw hl (mX6_refuseArgumentIf l G (M := (wB M β 316 S)) h20) (va_cwS 1 hts (zS gS_X6_139) rfl rfl rfl kdX6_refuseArgumentIf ⟨Nat.le_of_ble_eq_true rfl, Nat.le_of_ble_eq_true rfl⟩) rfl rfl (Nat.le_of_ble_eq_true rfl) dX6_member_20 ⟨Nat.zero_le _, Nat.zero_le _⟩ rfl (fun H locs hw => ?_)
      refine lv_aload_n hx hb dX6_member_23 rfl (lv_at hl 0 rfl) ?_
      refine r_get (v := .ref (gA G (β + 3))) hx hb hts hinX6 hown hE hw hn 0 (by decide) (congrFun hR.1 _) rfl 1 (by decide) (hts _ (wz_in qF_X6_19)) rfl dX6_member_24 ?_
      refine r_get (v := .ref (gA G (β + 14))) hx hb hts hinX4 hown hE hw hn 3 (by decide) (congrFun hR.2.2.2.1.1 _) rfl 5 (by decide) (hts _ (wz_in qF_X6_120)) rfl dX6_member_27 ?_
      refine lv_iload_n hx hb dX6_member_30 rfl (lv_at hl 1 rfl) ?_
      refine lv_iload_n hx hb dX6_member_31 rfl (lv_at hl 2 rfl) ?_
      obtain ⟨v32, h32, h⟩ := cr1_some h
      refine r_callV (As := [.int x1, .int x2]) (rest := []) (st1 := [.int v32]) hx hb hml hown hts hE hw hl (mc_subR 14 3 (by decide) (mX2_get l G (by show β + 14 + 3 ≤ _; omega) hR.2.2.2.1.2.2.2.2.2.2.1 h32)) (cwV 2 hts (zV gV_X6_142) rfl rfl rfl kdX2_get ⟨Nat.le_of_ble_eq_true rfl, Nat.le_of_ble_eq_true rfl⟩) (by omega) (congrFun hR.2.2.2.1.2.2.2.2.2.2.1.1 _) rfl rfl rfl rfl (Nat.le_of_ble_eq_true rfl) dX6_member_32 ⟨Nat.zero_le _, Nat.zero_le _⟩ rfl (fun H locs hw => ?_)
      cases h
    · rw [← Sum.inr.inj (Option.some.inj h)]
      exact x_callS (As := [.int t0]) (rest := []) hx hb hml hown hts hE hw hl (xX6_refuseArgumentIf l hfl G (M := (wB M β 316 S)) h20) (va_cwS 1 hts (zS gS_X6_139) rfl rfl rfl kdX6_refuseArgumentIf ⟨Nat.le_of_ble_eq_true rfl, Nat.le_of_ble_eq_true rfl⟩) rfl rfl (Nat.le_of_ble_eq_true rfl) dX6_member_20 ⟨Nat.le_refl _, Nat.le_refl _⟩ hout hlocks
  unfold pX6_member at h
  refine lv_aload_n hx hb dX6_member_0 rfl (lv_at hl 0 rfl) ?_
  refine r_get (v := .ref (gA G (β + 3))) hx hb hts hinX6 hown hE hw hn 0 (by decide) (congrFun hR.1 _) rfl 1 (by decide) (hts _ (wz_in qF_X6_19)) rfl dX6_member_1 ?_
  refine r_get (v := .ref (gA G (β + 10))) hx hb hts hinX4 hown hE hw hn 3 (by decide) (congrFun hR.2.2.2.1.1 _) rfl 3 (by decide) (hts _ (wz_in qF_X6_102)) rfl dX6_member_4 ?_
  refine lv_iload_n hx hb dX6_member_7 rfl (lv_at hl 1 rfl) ?_
  rcases bx_some h with ⟨h8, h⟩ | ⟨E8, h8, h⟩
  · refine r_callS (As := [.ref (gA G (β + 10)), .int a1]) (rest := []) (st1 := []) hx hb hml hown hts hE hw hl (mc_subR 10 2 (by decide) (mX6_checkExists l G (by show β + 10 + 2 ≤ _; omega) hR.2.2.2.1.2.2.2.2.1 h8)) (va_cwS 2 hts (zS gS_X6_112) rfl rfl rfl kdX6_checkExists ⟨Nat.le_of_ble_eq_true rfl, Nat.le_of_ble_eq_true rfl⟩) rfl rfl (Nat.le_of_ble_eq_true rfl) dX6_member_8 ⟨Nat.zero_le _, Nat.zero_le _⟩ rfl (fun H locs hw => ?_)
    refine lv_iload_n hx hb dX6_member_11 rfl (lv_at hl 2 rfl) ?_
    refine b_ge (tgt := 19) hx hb dX6_member_12 (by decide) h (fun h => ?_) (fun h => ?_)
    · refine lv_iconst (v := (nI 0)) hx hb dX6_member_19 (by decide) ?_
      exact k20  a1 a2 (nI 0) _ _ _ h hw (lv_sub hl [0, 1, 2] rfl)
    · refine lv_iconst (v := (nI 1)) hx hb dX6_member_15 (by decide) ?_
      refine lv_goto (tgt := 20) hx hb dX6_member_16 (by decide) ?_
      exact k20  a1 a2 (nI 1) _ _ _ h hw (lv_sub hl [0, 1, 2] rfl)
  · rw [← Sum.inr.inj (Option.some.inj h)]
    exact x_callS (As := [.ref (gA G (β + 10)), .int a1]) (rest := []) hx hb hml hown hts hE hw hl (mx_subR 10 2 (by decide) (xX6_checkExists l hfl G (by show β + 10 + 2 ≤ _; omega) hR.2.2.2.1.2.2.2.2.1 h8)) (va_cwS 2 hts (zS gS_X6_112) rfl rfl rfl kdX6_checkExists ⟨Nat.le_of_ble_eq_true rfl, Nat.le_of_ble_eq_true rfl⟩) rfl rfl (Nat.le_of_ble_eq_true rfl) dX6_member_8 ⟨Nat.le_refl _, Nat.le_refl _⟩ hout hlocks

set_option maxHeartbeats 4000000 in
set_option maxRecDepth 100000 in
theorem mX6_vehicle (l : Launch) (G : mG) {β : Nat} {M S : mM} {a1 : Int32} {a2 : Int32} {r : Int32} (hn : β + 316 ≤ gN G) (hR : isWR G β) (h : pX6_vehicle a1 a2 S = some (.inl r)) : MC l G yX6_vehicle zzX6_vehicle 2 44 [.ref (gA G (β + 0)), .int a1, .int a2] (wB M β 316 S) (wB M β 316 S) (some (.int r)) := by
  refine mc_of (cc := cX6_vehicle) (maxL := 3) (ret := (some .int)) (by decide) rfl (Nat.le_of_ble_eq_true rfl) ?_
  intro p e s m args below meth c H ls hx hb hr hts hown hml hlocks hE hw hl
  have hl : lv_has ls 3 [(0, .ref (gA G (β + 0))), (1, .int a1), (2, .int a2)] := hl
  have hinX4 : ∀ w ∈ wsX40, w ∈ zzX6_vehicle := fun w h9 => wz_in (zinX4 w h9)
  have hinX6 : ∀ w ∈ wsX60, w ∈ zzX6_vehicle := fun w h9 => wz_in (zinX6 w h9)
  unfold pX6_vehicle at h
  refine lv_aload_n hx hb dX6_vehicle_0 rfl (lv_at hl 0 rfl) ?_
  refine r_get (v := .ref (gA G (β + 3))) hx hb hts hinX6 hown hE hw hn 0 (by decide) (congrFun hR.1 _) rfl 1 (by decide) (hts _ (wz_in qF_X6_19)) rfl dX6_vehicle_1 ?_
  refine r_get (v := .ref (gA G (β + 12))) hx hb hts hinX4 hown hE hw hn 3 (by decide) (congrFun hR.2.2.2.1.1 _) rfl 4 (by decide) (hts _ (wz_in qF_X6_78)) rfl dX6_vehicle_4 ?_
  refine lv_iload_n hx hb dX6_vehicle_7 rfl (lv_at hl 1 rfl) ?_
  rcases bx_some h with ⟨h8, h⟩ | ⟨E8, h8, h⟩
  · refine r_callS (As := [.ref (gA G (β + 12)), .int a1]) (rest := []) (st1 := []) hx hb hml hown hts hE hw hl (mc_subR 12 2 (by decide) (mX6_checkExists l G (by show β + 12 + 2 ≤ _; omega) hR.2.2.2.1.2.2.2.2.2.1 h8)) (va_cwS 2 hts (zS gS_X6_112) rfl rfl rfl kdX6_checkExists ⟨Nat.le_of_ble_eq_true rfl, Nat.le_of_ble_eq_true rfl⟩) rfl rfl (Nat.le_of_ble_eq_true rfl) dX6_vehicle_8 ⟨Nat.zero_le _, Nat.zero_le _⟩ rfl (fun H locs hw => ?_)
    refine lv_iload_n hx hb dX6_vehicle_11 rfl (lv_at hl 2 rfl) ?_
    refine lv_iconst (v := (nI 0)) hx hb dX6_vehicle_12 (by decide) ?_
    refine lv_bipush (v := (nI 6)) hx hb dX6_vehicle_13 (by decide) ?_
    rcases bx_some h with ⟨h15, h⟩ | ⟨E15, h15, h⟩
    · refine r_callS (As := [.int a2, .int (nI 0), .int (nI 6)]) (rest := []) (st1 := []) hx hb hml hown hts hE hw hl (mX6_checkRange l G (M := (wB M β 316 S)) h15) (va_cwS 3 hts (zS gS_X6_45) rfl rfl rfl kdX6_checkRange ⟨Nat.le_of_ble_eq_true rfl, Nat.le_of_ble_eq_true rfl⟩) rfl rfl (Nat.le_of_ble_eq_true rfl) dX6_vehicle_15 ⟨Nat.zero_le _, Nat.zero_le _⟩ rfl (fun H locs hw => ?_)
      refine lv_aload_n hx hb dX6_vehicle_18 rfl (lv_at hl 0 rfl) ?_
      refine r_get (v := .ref (gA G (β + 3))) hx hb hts hinX6 hown hE hw hn 0 (by decide) (congrFun hR.1 _) rfl 1 (by decide) (hts _ (wz_in qF_X6_19)) rfl dX6_vehicle_19 ?_
      refine r_get (v := .ref (gA G (β + 12))) hx hb hts hinX4 hown hE hw hn 3 (by decide) (congrFun hR.2.2.2.1.1 _) rfl 4 (by decide) (hts _ (wz_in qF_X6_78)) rfl dX6_vehicle_22 ?_
      refine lv_iload_n hx hb dX6_vehicle_25 rfl (lv_at hl 1 rfl) ?_
      refine lv_iload_n hx hb dX6_vehicle_26 rfl (lv_at hl 2 rfl) ?_
      obtain ⟨v27, h27, h⟩ := cr1_some h
      refine r_callV (As := [.int a1, .int a2]) (rest := []) (st1 := [.int v27]) hx hb hml hown hts hE hw hl (mc_subR 12 2 (by decide) (mX5_get l G (by show β + 12 + 2 ≤ _; omega) hR.2.2.2.1.2.2.2.2.2.1 h27)) (cwV 2 hts (zV gV_X6_116) rfl rfl rfl kdX5_get ⟨Nat.le_of_ble_eq_true rfl, Nat.le_of_ble_eq_true rfl⟩) (by omega) (congrFun hR.2.2.2.1.2.2.2.2.2.1.1 _) rfl rfl rfl rfl (Nat.le_of_ble_eq_true rfl) dX6_vehicle_27 ⟨Nat.zero_le _, Nat.zero_le _⟩ rfl (fun H locs hw => ?_)
      cases h
      exact r_iret hx hb hr hlocks hw dX6_vehicle_30
    · cases h
  · cases h
set_option maxHeartbeats 4000000 in
set_option maxRecDepth 100000 in
theorem xX6_vehicle (l : Launch) (hfl : l.stackTraces = false) (G : mG) {β : Nat} {M S : mM} {a1 : Int32} {a2 : Int32} {E : String} (hn : β + 316 ≤ gN G) (hR : isWR G β) (h : pX6_vehicle a1 a2 S = some (.inr E)) : MX l G yX6_vehicle zzX6_vehicle 8 124 [.ref (gA G (β + 0)), .int a1, .int a2] (wB M β 316 S) (wB M β 316 S) E := by
  refine mx_of (cc := cX6_vehicle) (maxL := 3) (ret := (some .int)) (by decide) rfl (Nat.le_of_ble_eq_true rfl) ?_
  intro p e s m args below meth c H ls hx hb hr hts hown hml hlocks hout hE hw _ hl
  have hl : lv_has ls 3 [(0, .ref (gA G (β + 0))), (1, .int a1), (2, .int a2)] := hl
  have hinX4 : ∀ w ∈ wsX40, w ∈ zzX6_vehicle := fun w h9 => wz_in (zinX4 w h9)
  have hinX6 : ∀ w ∈ wsX60, w ∈ zzX6_vehicle := fun w h9 => wz_in (zinX6 w h9)
  unfold pX6_vehicle at h
  refine lv_aload_n hx hb dX6_vehicle_0 rfl (lv_at hl 0 rfl) ?_
  refine r_get (v := .ref (gA G (β + 3))) hx hb hts hinX6 hown hE hw hn 0 (by decide) (congrFun hR.1 _) rfl 1 (by decide) (hts _ (wz_in qF_X6_19)) rfl dX6_vehicle_1 ?_
  refine r_get (v := .ref (gA G (β + 12))) hx hb hts hinX4 hown hE hw hn 3 (by decide) (congrFun hR.2.2.2.1.1 _) rfl 4 (by decide) (hts _ (wz_in qF_X6_78)) rfl dX6_vehicle_4 ?_
  refine lv_iload_n hx hb dX6_vehicle_7 rfl (lv_at hl 1 rfl) ?_
  rcases bx_some h with ⟨h8, h⟩ | ⟨E8, h8, h⟩
  · refine r_callS (As := [.ref (gA G (β + 12)), .int a1]) (rest := []) (st1 := []) hx hb hml hown hts hE hw hl (mc_subR 12 2 (by decide) (mX6_checkExists l G (by show β + 12 + 2 ≤ _; omega) hR.2.2.2.1.2.2.2.2.2.1 h8)) (va_cwS 2 hts (zS gS_X6_112) rfl rfl rfl kdX6_checkExists ⟨Nat.le_of_ble_eq_true rfl, Nat.le_of_ble_eq_true rfl⟩) rfl rfl (Nat.le_of_ble_eq_true rfl) dX6_vehicle_8 ⟨Nat.zero_le _, Nat.zero_le _⟩ rfl (fun H locs hw => ?_)
    refine lv_iload_n hx hb dX6_vehicle_11 rfl (lv_at hl 2 rfl) ?_
    refine lv_iconst (v := (nI 0)) hx hb dX6_vehicle_12 (by decide) ?_
    refine lv_bipush (v := (nI 6)) hx hb dX6_vehicle_13 (by decide) ?_
    rcases bx_some h with ⟨h15, h⟩ | ⟨E15, h15, h⟩
    · refine r_callS (As := [.int a2, .int (nI 0), .int (nI 6)]) (rest := []) (st1 := []) hx hb hml hown hts hE hw hl (mX6_checkRange l G (M := (wB M β 316 S)) h15) (va_cwS 3 hts (zS gS_X6_45) rfl rfl rfl kdX6_checkRange ⟨Nat.le_of_ble_eq_true rfl, Nat.le_of_ble_eq_true rfl⟩) rfl rfl (Nat.le_of_ble_eq_true rfl) dX6_vehicle_15 ⟨Nat.zero_le _, Nat.zero_le _⟩ rfl (fun H locs hw => ?_)
      refine lv_aload_n hx hb dX6_vehicle_18 rfl (lv_at hl 0 rfl) ?_
      refine r_get (v := .ref (gA G (β + 3))) hx hb hts hinX6 hown hE hw hn 0 (by decide) (congrFun hR.1 _) rfl 1 (by decide) (hts _ (wz_in qF_X6_19)) rfl dX6_vehicle_19 ?_
      refine r_get (v := .ref (gA G (β + 12))) hx hb hts hinX4 hown hE hw hn 3 (by decide) (congrFun hR.2.2.2.1.1 _) rfl 4 (by decide) (hts _ (wz_in qF_X6_78)) rfl dX6_vehicle_22 ?_
      refine lv_iload_n hx hb dX6_vehicle_25 rfl (lv_at hl 1 rfl) ?_
      refine lv_iload_n hx hb dX6_vehicle_26 rfl (lv_at hl 2 rfl) ?_
      obtain ⟨v27, h27, h⟩ := cr1_some h
      refine r_callV (As := [.int a1, .int a2]) (rest := []) (st1 := [.int v27]) hx hb hml hown hts hE hw hl (mc_subR 12 2 (by decide) (mX5_get l G (by show β + 12 + 2 ≤ _; omega) hR.2.2.2.1.2.2.2.2.2.1 h27)) (cwV 2 hts (zV gV_X6_116) rfl rfl rfl kdX5_get ⟨Nat.le_of_ble_eq_true rfl, Nat.le_of_ble_eq_true rfl⟩) (by omega) (congrFun hR.2.2.2.1.2.2.2.2.2.1.1 _) rfl rfl rfl rfl (Nat.le_of_ble_eq_true rfl) dX6_vehicle_27 ⟨Nat.zero_le _, Nat.zero_le _⟩ rfl (fun H locs hw => ?_)
      cases h
    · rw [← Sum.inr.inj (Option.some.inj h)]
      exact x_callS (As := [.int a2, .int (nI 0), .int (nI 6)]) (rest := []) hx hb hml hown hts hE hw hl (xX6_checkRange l hfl G (M := (wB M β 316 S)) h15) (va_cwS 3 hts (zS gS_X6_45) rfl rfl rfl kdX6_checkRange ⟨Nat.le_of_ble_eq_true rfl, Nat.le_of_ble_eq_true rfl⟩) rfl rfl (Nat.le_of_ble_eq_true rfl) dX6_vehicle_15 ⟨Nat.le_refl _, Nat.le_refl _⟩ hout hlocks
  · rw [← Sum.inr.inj (Option.some.inj h)]
    exact x_callS (As := [.ref (gA G (β + 12)), .int a1]) (rest := []) hx hb hml hown hts hE hw hl (mx_subR 12 2 (by decide) (xX6_checkExists l hfl G (by show β + 12 + 2 ≤ _; omega) hR.2.2.2.1.2.2.2.2.2.1 h8)) (va_cwS 2 hts (zS gS_X6_112) rfl rfl rfl kdX6_checkExists ⟨Nat.le_of_ble_eq_true rfl, Nat.le_of_ble_eq_true rfl⟩) rfl rfl (Nat.le_of_ble_eq_true rfl) dX6_vehicle_8 ⟨Nat.le_refl _, Nat.le_refl _⟩ hout hlocks

set_option maxHeartbeats 4000000 in
set_option maxRecDepth 100000 in
theorem mX6_gate (l : Launch) (G : mG) {β : Nat} {M S : mM} {a1 : Int32} {a2 : Int32} {r : Int32} (hn : β + 316 ≤ gN G) (hR : isWR G β) (h : pX6_gate a1 a2 S = some (.inl r)) : MC l G yX6_gate zzX6_gate 2 47 [.ref (gA G (β + 0)), .int a1, .int a2] (wB M β 316 S) (wB M β 316 S) (some (.int r)) := by
  refine mc_of (cc := cX6_gate) (maxL := 3) (ret := (some .int)) (by decide) rfl (Nat.le_of_ble_eq_true rfl) ?_
  intro p e s m args below meth c H ls hx hb hr hts hown hml hlocks hE hw hl
  have hl : lv_has ls 3 [(0, .ref (gA G (β + 0))), (1, .int a1), (2, .int a2)] := hl
  have hinX4 : ∀ w ∈ wsX40, w ∈ zzX6_gate := fun w h9 => wz_in (zinX4 w h9)
  have hinX6 : ∀ w ∈ wsX60, w ∈ zzX6_gate := fun w h9 => wz_in (zinX6 w h9)
  unfold pX6_gate at h
  refine lv_aload_n hx hb dX6_gate_0 rfl (lv_at hl 0 rfl) ?_
  refine r_get (v := .ref (gA G (β + 3))) hx hb hts hinX6 hown hE hw hn 0 (by decide) (congrFun hR.1 _) rfl 1 (by decide) (hts _ (wz_in qF_X6_19)) rfl dX6_gate_1 ?_
  refine r_get (v := .ref (gA G (β + 4))) hx hb hts hinX4 hown hE hw hn 3 (by decide) (congrFun hR.2.2.2.1.1 _) rfl 0 (by decide) (hts _ (wz_in qF_X6_93)) rfl dX6_gate_4 ?_
  refine lv_iload_n hx hb dX6_gate_7 rfl (lv_at hl 1 rfl) ?_
  rcases bx_some h with ⟨h8, h⟩ | ⟨E8, h8, h⟩
  · refine r_callS (As := [.ref (gA G (β + 4)), .int a1]) (rest := []) (st1 := []) hx hb hml hown hts hE hw hl (mc_subR 4 2 (by decide) (mX6_checkExists l G (by show β + 4 + 2 ≤ _; omega) hR.2.2.2.1.2.1 h8)) (va_cwS 2 hts (zS gS_X6_112) rfl rfl rfl kdX6_checkExists ⟨Nat.le_of_ble_eq_true rfl, Nat.le_of_ble_eq_true rfl⟩) rfl rfl (Nat.le_of_ble_eq_true rfl) dX6_gate_8 ⟨Nat.zero_le _, Nat.zero_le _⟩ rfl (fun H locs hw => ?_)
    refine lv_iload_n hx hb dX6_gate_11 rfl (lv_at hl 2 rfl) ?_
    refine lv_iconst (v := (nI 0)) hx hb dX6_gate_12 (by decide) ?_
    refine lv_iconst (v := (nI 5)) hx hb dX6_gate_13 (by decide) ?_
    rcases bx_some h with ⟨h14, h⟩ | ⟨E14, h14, h⟩
    · refine r_callS (As := [.int a2, .int (nI 0), .int (nI 5)]) (rest := []) (st1 := []) hx hb hml hown hts hE hw hl (mX6_checkRange l G (M := (wB M β 316 S)) h14) (va_cwS 3 hts (zS gS_X6_45) rfl rfl rfl kdX6_checkRange ⟨Nat.le_of_ble_eq_true rfl, Nat.le_of_ble_eq_true rfl⟩) rfl rfl (Nat.le_of_ble_eq_true rfl) dX6_gate_14 ⟨Nat.zero_le _, Nat.zero_le _⟩ rfl (fun H locs hw => ?_)
      refine lv_iload_n hx hb dX6_gate_17 rfl (lv_at hl 2 rfl) ?_
      refine sw_if h (fun hc4 h => ?_) (fun hc4 h => ?_)
      · rw [hc4]
        refine lv_lookup (off := 26) (tgt := 44) hx hb dX6_gate_18 (by decide) (by decide +kernel) (by decide) ?_
        refine lv_aload_n hx hb dX6_gate_44 rfl (lv_at hl 0 rfl) ?_
        refine r_get (v := .ref (gA G (β + 3))) hx hb hts hinX6 hown hE hw hn 0 (by decide) (congrFun hR.1 _) rfl 1 (by decide) (hts _ (wz_in qF_X6_19)) rfl dX6_gate_45 ?_
        refine lv_iload_n hx hb dX6_gate_48 rfl (lv_at hl 1 rfl) ?_
        obtain ⟨v49, h49, h⟩ := cr1_some h
        refine r_callV (As := [.int a1]) (rest := []) (st1 := [.int v49]) hx hb hml hown hts hE hw hl (mc_subR 3 17 (by decide) (mX4_closedFor l G (by show β + 3 + 17 ≤ _; omega) hR.2.2.2.1 h49)) (cwV 1 hts (zV gV_X6_143) rfl rfl rfl kdX4_closedFor ⟨Nat.le_of_ble_eq_true rfl, Nat.le_of_ble_eq_true rfl⟩) (by omega) (congrFun hR.2.2.2.1.1 _) rfl rfl rfl rfl (Nat.le_of_ble_eq_true rfl) dX6_gate_49 ⟨Nat.zero_le _, Nat.zero_le _⟩ rfl (fun H locs hw => ?_)
        refine b_le (tgt := 59) hx hb dX6_gate_52 (by decide) h (fun h => ?_) (fun h => ?_)
        · refine lv_iconst (v := (nI 0)) hx hb dX6_gate_59 (by decide) ?_
          cases h
          exact r_iret hx hb hr hlocks hw dX6_gate_60
        · refine lv_iconst (v := (nI 1)) hx hb dX6_gate_55 (by decide) ?_
          refine lv_goto (tgt := 60) hx hb dX6_gate_56 (by decide) ?_
          cases h
          exact r_iret hx hb hr hlocks hw dX6_gate_60
      refine sw_if h (fun hc5 h => ?_) (fun hc5 h => ?_)
      · rw [hc5]
        refine lv_lookup (off := 43) (tgt := 61) hx hb dX6_gate_18 (by decide) (by decide +kernel) (by decide) ?_
        refine lv_aload_n hx hb dX6_gate_61 rfl (lv_at hl 0 rfl) ?_
        refine r_get (v := .ref (gA G (β + 3))) hx hb hts hinX6 hown hE hw hn 0 (by decide) (congrFun hR.1 _) rfl 1 (by decide) (hts _ (wz_in qF_X6_19)) rfl dX6_gate_62 ?_
        refine lv_iload_n hx hb dX6_gate_65 rfl (lv_at hl 1 rfl) ?_
        obtain ⟨v66, h66, h⟩ := cr1_some h
        refine r_callV (As := [.int a1]) (rest := []) (st1 := [.int v66]) hx hb hml hown hts hE hw hl (mc_subR 3 17 (by decide) (mX4_closedFor l G (by show β + 3 + 17 ≤ _; omega) hR.2.2.2.1 h66)) (cwV 1 hts (zV gV_X6_143) rfl rfl rfl kdX4_closedFor ⟨Nat.le_of_ble_eq_true rfl, Nat.le_of_ble_eq_true rfl⟩) (by omega) (congrFun hR.2.2.2.1.1 _) rfl rfl rfl rfl (Nat.le_of_ble_eq_true rfl) dX6_gate_66 ⟨Nat.zero_le _, Nat.zero_le _⟩ rfl (fun H locs hw => ?_)
        cases h
        exact r_iret hx hb hr hlocks hw dX6_gate_69
      · refine lv_lookup (off := 52) (tgt := 70) hx hb dX6_gate_18 (by decide) (by rw [lv_osw hc4 (by decide)]; rw [lv_osw hc5 (by decide)]; rfl) (by decide) ?_
        refine lv_aload_n hx hb dX6_gate_70 rfl (lv_at hl 0 rfl) ?_
        refine r_get (v := .ref (gA G (β + 3))) hx hb hts hinX6 hown hE hw hn 0 (by decide) (congrFun hR.1 _) rfl 1 (by decide) (hts _ (wz_in qF_X6_19)) rfl dX6_gate_71 ?_
        refine r_get (v := .ref (gA G (β + 4))) hx hb hts hinX4 hown hE hw hn 3 (by decide) (congrFun hR.2.2.2.1.1 _) rfl 0 (by decide) (hts _ (wz_in qF_X6_93)) rfl dX6_gate_74 ?_
        refine lv_iload_n hx hb dX6_gate_77 rfl (lv_at hl 1 rfl) ?_
        refine lv_iload_n hx hb dX6_gate_78 rfl (lv_at hl 2 rfl) ?_
        obtain ⟨v79, h79, h⟩ := cr1_some h
        refine r_callV (As := [.int a1, .int a2]) (rest := []) (st1 := [.int v79]) hx hb hml hown hts hE hw hl (mc_subR 4 2 (by decide) (mX5_get l G (by show β + 4 + 2 ≤ _; omega) hR.2.2.2.1.2.1 h79)) (cwV 2 hts (zV gV_X6_116) rfl rfl rfl kdX5_get ⟨Nat.le_of_ble_eq_true rfl, Nat.le_of_ble_eq_true rfl⟩) (by omega) (congrFun hR.2.2.2.1.2.1.1 _) rfl rfl rfl rfl (Nat.le_of_ble_eq_true rfl) dX6_gate_79 ⟨Nat.zero_le _, Nat.zero_le _⟩ rfl (fun H locs hw => ?_)
        cases h
        exact r_iret hx hb hr hlocks hw dX6_gate_82
    · cases h
  · cases h
set_option maxHeartbeats 4000000 in
set_option maxRecDepth 100000 in
theorem xX6_gate (l : Launch) (hfl : l.stackTraces = false) (G : mG) {β : Nat} {M S : mM} {a1 : Int32} {a2 : Int32} {E : String} (hn : β + 316 ≤ gN G) (hR : isWR G β) (h : pX6_gate a1 a2 S = some (.inr E)) : MX l G yX6_gate zzX6_gate 8 124 [.ref (gA G (β + 0)), .int a1, .int a2] (wB M β 316 S) (wB M β 316 S) E := by
  refine mx_of (cc := cX6_gate) (maxL := 3) (ret := (some .int)) (by decide) rfl (Nat.le_of_ble_eq_true rfl) ?_
  intro p e s m args below meth c H ls hx hb hr hts hown hml hlocks hout hE hw _ hl
  have hl : lv_has ls 3 [(0, .ref (gA G (β + 0))), (1, .int a1), (2, .int a2)] := hl
  have hinX4 : ∀ w ∈ wsX40, w ∈ zzX6_gate := fun w h9 => wz_in (zinX4 w h9)
  have hinX6 : ∀ w ∈ wsX60, w ∈ zzX6_gate := fun w h9 => wz_in (zinX6 w h9)
  unfold pX6_gate at h
  refine lv_aload_n hx hb dX6_gate_0 rfl (lv_at hl 0 rfl) ?_
  refine r_get (v := .ref (gA G (β + 3))) hx hb hts hinX6 hown hE hw hn 0 (by decide) (congrFun hR.1 _) rfl 1 (by decide) (hts _ (wz_in qF_X6_19)) rfl dX6_gate_1 ?_
  refine r_get (v := .ref (gA G (β + 4))) hx hb hts hinX4 hown hE hw hn 3 (by decide) (congrFun hR.2.2.2.1.1 _) rfl 0 (by decide) (hts _ (wz_in qF_X6_93)) rfl dX6_gate_4 ?_
  refine lv_iload_n hx hb dX6_gate_7 rfl (lv_at hl 1 rfl) ?_
  rcases bx_some h with ⟨h8, h⟩ | ⟨E8, h8, h⟩
  · refine r_callS (As := [.ref (gA G (β + 4)), .int a1]) (rest := []) (st1 := []) hx hb hml hown hts hE hw hl (mc_subR 4 2 (by decide) (mX6_checkExists l G (by show β + 4 + 2 ≤ _; omega) hR.2.2.2.1.2.1 h8)) (va_cwS 2 hts (zS gS_X6_112) rfl rfl rfl kdX6_checkExists ⟨Nat.le_of_ble_eq_true rfl, Nat.le_of_ble_eq_true rfl⟩) rfl rfl (Nat.le_of_ble_eq_true rfl) dX6_gate_8 ⟨Nat.zero_le _, Nat.zero_le _⟩ rfl (fun H locs hw => ?_)
    refine lv_iload_n hx hb dX6_gate_11 rfl (lv_at hl 2 rfl) ?_
    refine lv_iconst (v := (nI 0)) hx hb dX6_gate_12 (by decide) ?_
    refine lv_iconst (v := (nI 5)) hx hb dX6_gate_13 (by decide) ?_
    rcases bx_some h with ⟨h14, h⟩ | ⟨E14, h14, h⟩
    · refine r_callS (As := [.int a2, .int (nI 0), .int (nI 5)]) (rest := []) (st1 := []) hx hb hml hown hts hE hw hl (mX6_checkRange l G (M := (wB M β 316 S)) h14) (va_cwS 3 hts (zS gS_X6_45) rfl rfl rfl kdX6_checkRange ⟨Nat.le_of_ble_eq_true rfl, Nat.le_of_ble_eq_true rfl⟩) rfl rfl (Nat.le_of_ble_eq_true rfl) dX6_gate_14 ⟨Nat.zero_le _, Nat.zero_le _⟩ rfl (fun H locs hw => ?_)
      refine lv_iload_n hx hb dX6_gate_17 rfl (lv_at hl 2 rfl) ?_
      refine sw_if h (fun hc4 h => ?_) (fun hc4 h => ?_)
      · rw [hc4]
        refine lv_lookup (off := 26) (tgt := 44) hx hb dX6_gate_18 (by decide) (by decide +kernel) (by decide) ?_
        refine lv_aload_n hx hb dX6_gate_44 rfl (lv_at hl 0 rfl) ?_
        refine r_get (v := .ref (gA G (β + 3))) hx hb hts hinX6 hown hE hw hn 0 (by decide) (congrFun hR.1 _) rfl 1 (by decide) (hts _ (wz_in qF_X6_19)) rfl dX6_gate_45 ?_
        refine lv_iload_n hx hb dX6_gate_48 rfl (lv_at hl 1 rfl) ?_
        obtain ⟨v49, h49, h⟩ := cr1_some h
        refine r_callV (As := [.int a1]) (rest := []) (st1 := [.int v49]) hx hb hml hown hts hE hw hl (mc_subR 3 17 (by decide) (mX4_closedFor l G (by show β + 3 + 17 ≤ _; omega) hR.2.2.2.1 h49)) (cwV 1 hts (zV gV_X6_143) rfl rfl rfl kdX4_closedFor ⟨Nat.le_of_ble_eq_true rfl, Nat.le_of_ble_eq_true rfl⟩) (by omega) (congrFun hR.2.2.2.1.1 _) rfl rfl rfl rfl (Nat.le_of_ble_eq_true rfl) dX6_gate_49 ⟨Nat.zero_le _, Nat.zero_le _⟩ rfl (fun H locs hw => ?_)
        refine b_le (tgt := 59) hx hb dX6_gate_52 (by decide) h (fun h => ?_) (fun h => ?_)
        · refine lv_iconst (v := (nI 0)) hx hb dX6_gate_59 (by decide) ?_
          cases h
        · refine lv_iconst (v := (nI 1)) hx hb dX6_gate_55 (by decide) ?_
          refine lv_goto (tgt := 60) hx hb dX6_gate_56 (by decide) ?_
          cases h
      refine sw_if h (fun hc5 h => ?_) (fun hc5 h => ?_)
      · rw [hc5]
        refine lv_lookup (off := 43) (tgt := 61) hx hb dX6_gate_18 (by decide) (by decide +kernel) (by decide) ?_
        refine lv_aload_n hx hb dX6_gate_61 rfl (lv_at hl 0 rfl) ?_
        refine r_get (v := .ref (gA G (β + 3))) hx hb hts hinX6 hown hE hw hn 0 (by decide) (congrFun hR.1 _) rfl 1 (by decide) (hts _ (wz_in qF_X6_19)) rfl dX6_gate_62 ?_
        refine lv_iload_n hx hb dX6_gate_65 rfl (lv_at hl 1 rfl) ?_
        obtain ⟨v66, h66, h⟩ := cr1_some h
        refine r_callV (As := [.int a1]) (rest := []) (st1 := [.int v66]) hx hb hml hown hts hE hw hl (mc_subR 3 17 (by decide) (mX4_closedFor l G (by show β + 3 + 17 ≤ _; omega) hR.2.2.2.1 h66)) (cwV 1 hts (zV gV_X6_143) rfl rfl rfl kdX4_closedFor ⟨Nat.le_of_ble_eq_true rfl, Nat.le_of_ble_eq_true rfl⟩) (by omega) (congrFun hR.2.2.2.1.1 _) rfl rfl rfl rfl (Nat.le_of_ble_eq_true rfl) dX6_gate_66 ⟨Nat.zero_le _, Nat.zero_le _⟩ rfl (fun H locs hw => ?_)
        cases h
      · refine lv_lookup (off := 52) (tgt := 70) hx hb dX6_gate_18 (by decide) (by rw [lv_osw hc4 (by decide)]; rw [lv_osw hc5 (by decide)]; rfl) (by decide) ?_
        refine lv_aload_n hx hb dX6_gate_70 rfl (lv_at hl 0 rfl) ?_
        refine r_get (v := .ref (gA G (β + 3))) hx hb hts hinX6 hown hE hw hn 0 (by decide) (congrFun hR.1 _) rfl 1 (by decide) (hts _ (wz_in qF_X6_19)) rfl dX6_gate_71 ?_
        refine r_get (v := .ref (gA G (β + 4))) hx hb hts hinX4 hown hE hw hn 3 (by decide) (congrFun hR.2.2.2.1.1 _) rfl 0 (by decide) (hts _ (wz_in qF_X6_93)) rfl dX6_gate_74 ?_
        refine lv_iload_n hx hb dX6_gate_77 rfl (lv_at hl 1 rfl) ?_
        refine lv_iload_n hx hb dX6_gate_78 rfl (lv_at hl 2 rfl) ?_
        obtain ⟨v79, h79, h⟩ := cr1_some h
        refine r_callV (As := [.int a1, .int a2]) (rest := []) (st1 := [.int v79]) hx hb hml hown hts hE hw hl (mc_subR 4 2 (by decide) (mX5_get l G (by show β + 4 + 2 ≤ _; omega) hR.2.2.2.1.2.1 h79)) (cwV 2 hts (zV gV_X6_116) rfl rfl rfl kdX5_get ⟨Nat.le_of_ble_eq_true rfl, Nat.le_of_ble_eq_true rfl⟩) (by omega) (congrFun hR.2.2.2.1.2.1.1 _) rfl rfl rfl rfl (Nat.le_of_ble_eq_true rfl) dX6_gate_79 ⟨Nat.zero_le _, Nat.zero_le _⟩ rfl (fun H locs hw => ?_)
        cases h
    · rw [← Sum.inr.inj (Option.some.inj h)]
      exact x_callS (As := [.int a2, .int (nI 0), .int (nI 5)]) (rest := []) hx hb hml hown hts hE hw hl (xX6_checkRange l hfl G (M := (wB M β 316 S)) h14) (va_cwS 3 hts (zS gS_X6_45) rfl rfl rfl kdX6_checkRange ⟨Nat.le_of_ble_eq_true rfl, Nat.le_of_ble_eq_true rfl⟩) rfl rfl (Nat.le_of_ble_eq_true rfl) dX6_gate_14 ⟨Nat.le_refl _, Nat.le_refl _⟩ hout hlocks
  · rw [← Sum.inr.inj (Option.some.inj h)]
    exact x_callS (As := [.ref (gA G (β + 4)), .int a1]) (rest := []) hx hb hml hown hts hE hw hl (mx_subR 4 2 (by decide) (xX6_checkExists l hfl G (by show β + 4 + 2 ≤ _; omega) hR.2.2.2.1.2.1 h8)) (va_cwS 2 hts (zS gS_X6_112) rfl rfl rfl kdX6_checkExists ⟨Nat.le_of_ble_eq_true rfl, Nat.le_of_ble_eq_true rfl⟩) rfl rfl (Nat.le_of_ble_eq_true rfl) dX6_gate_8 ⟨Nat.le_refl _, Nat.le_refl _⟩ hout hlocks

set_option maxHeartbeats 4000000 in
set_option maxRecDepth 100000 in
theorem mX6_bay (l : Launch) (G : mG) {β : Nat} {M S : mM} {a1 : Int32} {a2 : Int32} {r : Int32} (hn : β + 316 ≤ gN G) (hR : isWR G β) (h : pX6_bay a1 a2 S = some (.inl r)) : MC l G yX6_bay zzX6_bay 2 44 [.ref (gA G (β + 0)), .int a1, .int a2] (wB M β 316 S) (wB M β 316 S) (some (.int r)) := by
  refine mc_of (cc := cX6_bay) (maxL := 3) (ret := (some .int)) (by decide) rfl (Nat.le_of_ble_eq_true rfl) ?_
  intro p e s m args below meth c H ls hx hb hr hts hown hml hlocks hE hw hl
  have hl : lv_has ls 3 [(0, .ref (gA G (β + 0))), (1, .int a1), (2, .int a2)] := hl
  have hinX4 : ∀ w ∈ wsX40, w ∈ zzX6_bay := fun w h9 => wz_in (zinX4 w h9)
  have hinX6 : ∀ w ∈ wsX60, w ∈ zzX6_bay := fun w h9 => wz_in (zinX6 w h9)
  unfold pX6_bay at h
  refine lv_aload_n hx hb dX6_bay_0 rfl (lv_at hl 0 rfl) ?_
  refine r_get (v := .ref (gA G (β + 3))) hx hb hts hinX6 hown hE hw hn 0 (by decide) (congrFun hR.1 _) rfl 1 (by decide) (hts _ (wz_in qF_X6_19)) rfl dX6_bay_1 ?_
  refine r_get (v := .ref (gA G (β + 6))) hx hb hts hinX4 hown hE hw hn 3 (by decide) (congrFun hR.2.2.2.1.1 _) rfl 1 (by decide) (hts _ (wz_in qF_X6_96)) rfl dX6_bay_4 ?_
  refine lv_iload_n hx hb dX6_bay_7 rfl (lv_at hl 1 rfl) ?_
  rcases bx_some h with ⟨h8, h⟩ | ⟨E8, h8, h⟩
  · refine r_callS (As := [.ref (gA G (β + 6)), .int a1]) (rest := []) (st1 := []) hx hb hml hown hts hE hw hl (mc_subR 6 2 (by decide) (mX6_checkExists l G (by show β + 6 + 2 ≤ _; omega) hR.2.2.2.1.2.2.1 h8)) (va_cwS 2 hts (zS gS_X6_112) rfl rfl rfl kdX6_checkExists ⟨Nat.le_of_ble_eq_true rfl, Nat.le_of_ble_eq_true rfl⟩) rfl rfl (Nat.le_of_ble_eq_true rfl) dX6_bay_8 ⟨Nat.zero_le _, Nat.zero_le _⟩ rfl (fun H locs hw => ?_)
    refine lv_iload_n hx hb dX6_bay_11 rfl (lv_at hl 2 rfl) ?_
    refine lv_iconst (v := (nI 0)) hx hb dX6_bay_12 (by decide) ?_
    refine lv_iconst (v := (nI 3)) hx hb dX6_bay_13 (by decide) ?_
    rcases bx_some h with ⟨h14, h⟩ | ⟨E14, h14, h⟩
    · refine r_callS (As := [.int a2, .int (nI 0), .int (nI 3)]) (rest := []) (st1 := []) hx hb hml hown hts hE hw hl (mX6_checkRange l G (M := (wB M β 316 S)) h14) (va_cwS 3 hts (zS gS_X6_45) rfl rfl rfl kdX6_checkRange ⟨Nat.le_of_ble_eq_true rfl, Nat.le_of_ble_eq_true rfl⟩) rfl rfl (Nat.le_of_ble_eq_true rfl) dX6_bay_14 ⟨Nat.zero_le _, Nat.zero_le _⟩ rfl (fun H locs hw => ?_)
      refine lv_iload_n hx hb dX6_bay_17 rfl (lv_at hl 2 rfl) ?_
      refine sw_if h (fun hc2 h => ?_) (fun hc2 h => ?_)
      · rw [hc2]
        refine lv_lookup (off := 26) (tgt := 44) hx hb dX6_bay_18 (by decide) (by decide +kernel) (by decide) ?_
        refine lv_aload_n hx hb dX6_bay_44 rfl (lv_at hl 0 rfl) ?_
        refine r_get (v := .ref (gA G (β + 3))) hx hb hts hinX6 hown hE hw hn 0 (by decide) (congrFun hR.1 _) rfl 1 (by decide) (hts _ (wz_in qF_X6_19)) rfl dX6_bay_45 ?_
        refine r_get (v := .ref (gA G (β + 17))) hx hb hts hinX4 hown hE hw hn 3 (by decide) (congrFun hR.2.2.2.1.1 _) rfl 6 (by decide) (hts _ (wz_in qF_X6_146)) rfl dX6_bay_48 ?_
        refine lv_iload_n hx hb dX6_bay_51 rfl (lv_at hl 1 rfl) ?_
        obtain ⟨v52, h52, h⟩ := cr1_some h
        refine r_callV (As := [.int a1]) (rest := []) (st1 := [.int v52]) hx hb hml hown hts hE hw hl (mc_subR 17 3 (by decide) (mX2_size l G (by show β + 17 + 3 ≤ _; omega) hR.2.2.2.1.2.2.2.2.2.2.2 h52)) (cwV 1 hts (zV gV_X6_124) rfl rfl rfl kdX2_size ⟨Nat.le_of_ble_eq_true rfl, Nat.le_of_ble_eq_true rfl⟩) (by omega) (congrFun hR.2.2.2.1.2.2.2.2.2.2.2.1 _) rfl rfl rfl rfl (Nat.le_of_ble_eq_true rfl) dX6_bay_52 ⟨Nat.zero_le _, Nat.zero_le _⟩ rfl (fun H locs hw => ?_)
        cases h
        exact r_iret hx hb hr hlocks hw dX6_bay_55
      refine sw_if h (fun hc3 h => ?_) (fun hc3 h => ?_)
      · rw [hc3]
        refine lv_lookup (off := 38) (tgt := 56) hx hb dX6_bay_18 (by decide) (by decide +kernel) (by decide) ?_
        refine lv_aload_n hx hb dX6_bay_56 rfl (lv_at hl 0 rfl) ?_
        refine r_get (v := .ref (gA G (β + 3))) hx hb hts hinX6 hown hE hw hn 0 (by decide) (congrFun hR.1 _) rfl 1 (by decide) (hts _ (wz_in qF_X6_19)) rfl dX6_bay_57 ?_
        refine r_get (v := .ref (gA G (β + 17))) hx hb hts hinX4 hown hE hw hn 3 (by decide) (congrFun hR.2.2.2.1.1 _) rfl 6 (by decide) (hts _ (wz_in qF_X6_146)) rfl dX6_bay_60 ?_
        refine lv_iload_n hx hb dX6_bay_63 rfl (lv_at hl 1 rfl) ?_
        refine lv_iconst (v := (nI 0)) hx hb dX6_bay_64 (by decide) ?_
        obtain ⟨v65, h65, h⟩ := cr1_some h
        refine r_callV (As := [.int a1, .int (nI 0)]) (rest := []) (st1 := [.int v65]) hx hb hml hown hts hE hw hl (mc_subR 17 3 (by decide) (mX2_get l G (by show β + 17 + 3 ≤ _; omega) hR.2.2.2.1.2.2.2.2.2.2.2 h65)) (cwV 2 hts (zV gV_X6_142) rfl rfl rfl kdX2_get ⟨Nat.le_of_ble_eq_true rfl, Nat.le_of_ble_eq_true rfl⟩) (by omega) (congrFun hR.2.2.2.1.2.2.2.2.2.2.2.1 _) rfl rfl rfl rfl (Nat.le_of_ble_eq_true rfl) dX6_bay_65 ⟨Nat.zero_le _, Nat.zero_le _⟩ rfl (fun H locs hw => ?_)
        cases h
        exact r_iret hx hb hr hlocks hw dX6_bay_68
      · refine lv_lookup (off := 51) (tgt := 69) hx hb dX6_bay_18 (by decide) (by rw [lv_osw hc2 (by decide)]; rw [lv_osw hc3 (by decide)]; rfl) (by decide) ?_
        refine lv_aload_n hx hb dX6_bay_69 rfl (lv_at hl 0 rfl) ?_
        refine r_get (v := .ref (gA G (β + 3))) hx hb hts hinX6 hown hE hw hn 0 (by decide) (congrFun hR.1 _) rfl 1 (by decide) (hts _ (wz_in qF_X6_19)) rfl dX6_bay_70 ?_
        refine r_get (v := .ref (gA G (β + 6))) hx hb hts hinX4 hown hE hw hn 3 (by decide) (congrFun hR.2.2.2.1.1 _) rfl 1 (by decide) (hts _ (wz_in qF_X6_96)) rfl dX6_bay_73 ?_
        refine lv_iload_n hx hb dX6_bay_76 rfl (lv_at hl 1 rfl) ?_
        refine lv_iload_n hx hb dX6_bay_77 rfl (lv_at hl 2 rfl) ?_
        obtain ⟨v78, h78, h⟩ := cr1_some h
        refine r_callV (As := [.int a1, .int a2]) (rest := []) (st1 := [.int v78]) hx hb hml hown hts hE hw hl (mc_subR 6 2 (by decide) (mX5_get l G (by show β + 6 + 2 ≤ _; omega) hR.2.2.2.1.2.2.1 h78)) (cwV 2 hts (zV gV_X6_116) rfl rfl rfl kdX5_get ⟨Nat.le_of_ble_eq_true rfl, Nat.le_of_ble_eq_true rfl⟩) (by omega) (congrFun hR.2.2.2.1.2.2.1.1 _) rfl rfl rfl rfl (Nat.le_of_ble_eq_true rfl) dX6_bay_78 ⟨Nat.zero_le _, Nat.zero_le _⟩ rfl (fun H locs hw => ?_)
        cases h
        exact r_iret hx hb hr hlocks hw dX6_bay_81
    · cases h
  · cases h
set_option maxHeartbeats 4000000 in
set_option maxRecDepth 100000 in
theorem xX6_bay (l : Launch) (hfl : l.stackTraces = false) (G : mG) {β : Nat} {M S : mM} {a1 : Int32} {a2 : Int32} {E : String} (hn : β + 316 ≤ gN G) (hR : isWR G β) (h : pX6_bay a1 a2 S = some (.inr E)) : MX l G yX6_bay zzX6_bay 8 124 [.ref (gA G (β + 0)), .int a1, .int a2] (wB M β 316 S) (wB M β 316 S) E := by
  refine mx_of (cc := cX6_bay) (maxL := 3) (ret := (some .int)) (by decide) rfl (Nat.le_of_ble_eq_true rfl) ?_
  intro p e s m args below meth c H ls hx hb hr hts hown hml hlocks hout hE hw _ hl
  have hl : lv_has ls 3 [(0, .ref (gA G (β + 0))), (1, .int a1), (2, .int a2)] := hl
  have hinX4 : ∀ w ∈ wsX40, w ∈ zzX6_bay := fun w h9 => wz_in (zinX4 w h9)
  have hinX6 : ∀ w ∈ wsX60, w ∈ zzX6_bay := fun w h9 => wz_in (zinX6 w h9)
  unfold pX6_bay at h
  refine lv_aload_n hx hb dX6_bay_0 rfl (lv_at hl 0 rfl) ?_
  refine r_get (v := .ref (gA G (β + 3))) hx hb hts hinX6 hown hE hw hn 0 (by decide) (congrFun hR.1 _) rfl 1 (by decide) (hts _ (wz_in qF_X6_19)) rfl dX6_bay_1 ?_
  refine r_get (v := .ref (gA G (β + 6))) hx hb hts hinX4 hown hE hw hn 3 (by decide) (congrFun hR.2.2.2.1.1 _) rfl 1 (by decide) (hts _ (wz_in qF_X6_96)) rfl dX6_bay_4 ?_
  refine lv_iload_n hx hb dX6_bay_7 rfl (lv_at hl 1 rfl) ?_
  rcases bx_some h with ⟨h8, h⟩ | ⟨E8, h8, h⟩
  · refine r_callS (As := [.ref (gA G (β + 6)), .int a1]) (rest := []) (st1 := []) hx hb hml hown hts hE hw hl (mc_subR 6 2 (by decide) (mX6_checkExists l G (by show β + 6 + 2 ≤ _; omega) hR.2.2.2.1.2.2.1 h8)) (va_cwS 2 hts (zS gS_X6_112) rfl rfl rfl kdX6_checkExists ⟨Nat.le_of_ble_eq_true rfl, Nat.le_of_ble_eq_true rfl⟩) rfl rfl (Nat.le_of_ble_eq_true rfl) dX6_bay_8 ⟨Nat.zero_le _, Nat.zero_le _⟩ rfl (fun H locs hw => ?_)
    refine lv_iload_n hx hb dX6_bay_11 rfl (lv_at hl 2 rfl) ?_
    refine lv_iconst (v := (nI 0)) hx hb dX6_bay_12 (by decide) ?_
    refine lv_iconst (v := (nI 3)) hx hb dX6_bay_13 (by decide) ?_
    rcases bx_some h with ⟨h14, h⟩ | ⟨E14, h14, h⟩
    · refine r_callS (As := [.int a2, .int (nI 0), .int (nI 3)]) (rest := []) (st1 := []) hx hb hml hown hts hE hw hl (mX6_checkRange l G (M := (wB M β 316 S)) h14) (va_cwS 3 hts (zS gS_X6_45) rfl rfl rfl kdX6_checkRange ⟨Nat.le_of_ble_eq_true rfl, Nat.le_of_ble_eq_true rfl⟩) rfl rfl (Nat.le_of_ble_eq_true rfl) dX6_bay_14 ⟨Nat.zero_le _, Nat.zero_le _⟩ rfl (fun H locs hw => ?_)
      refine lv_iload_n hx hb dX6_bay_17 rfl (lv_at hl 2 rfl) ?_
      refine sw_if h (fun hc2 h => ?_) (fun hc2 h => ?_)
      · rw [hc2]
        refine lv_lookup (off := 26) (tgt := 44) hx hb dX6_bay_18 (by decide) (by decide +kernel) (by decide) ?_
        refine lv_aload_n hx hb dX6_bay_44 rfl (lv_at hl 0 rfl) ?_
        refine r_get (v := .ref (gA G (β + 3))) hx hb hts hinX6 hown hE hw hn 0 (by decide) (congrFun hR.1 _) rfl 1 (by decide) (hts _ (wz_in qF_X6_19)) rfl dX6_bay_45 ?_
        refine r_get (v := .ref (gA G (β + 17))) hx hb hts hinX4 hown hE hw hn 3 (by decide) (congrFun hR.2.2.2.1.1 _) rfl 6 (by decide) (hts _ (wz_in qF_X6_146)) rfl dX6_bay_48 ?_
        refine lv_iload_n hx hb dX6_bay_51 rfl (lv_at hl 1 rfl) ?_
        obtain ⟨v52, h52, h⟩ := cr1_some h
        refine r_callV (As := [.int a1]) (rest := []) (st1 := [.int v52]) hx hb hml hown hts hE hw hl (mc_subR 17 3 (by decide) (mX2_size l G (by show β + 17 + 3 ≤ _; omega) hR.2.2.2.1.2.2.2.2.2.2.2 h52)) (cwV 1 hts (zV gV_X6_124) rfl rfl rfl kdX2_size ⟨Nat.le_of_ble_eq_true rfl, Nat.le_of_ble_eq_true rfl⟩) (by omega) (congrFun hR.2.2.2.1.2.2.2.2.2.2.2.1 _) rfl rfl rfl rfl (Nat.le_of_ble_eq_true rfl) dX6_bay_52 ⟨Nat.zero_le _, Nat.zero_le _⟩ rfl (fun H locs hw => ?_)
        cases h
      refine sw_if h (fun hc3 h => ?_) (fun hc3 h => ?_)
      · rw [hc3]
        refine lv_lookup (off := 38) (tgt := 56) hx hb dX6_bay_18 (by decide) (by decide +kernel) (by decide) ?_
        refine lv_aload_n hx hb dX6_bay_56 rfl (lv_at hl 0 rfl) ?_
        refine r_get (v := .ref (gA G (β + 3))) hx hb hts hinX6 hown hE hw hn 0 (by decide) (congrFun hR.1 _) rfl 1 (by decide) (hts _ (wz_in qF_X6_19)) rfl dX6_bay_57 ?_
        refine r_get (v := .ref (gA G (β + 17))) hx hb hts hinX4 hown hE hw hn 3 (by decide) (congrFun hR.2.2.2.1.1 _) rfl 6 (by decide) (hts _ (wz_in qF_X6_146)) rfl dX6_bay_60 ?_
        refine lv_iload_n hx hb dX6_bay_63 rfl (lv_at hl 1 rfl) ?_
        refine lv_iconst (v := (nI 0)) hx hb dX6_bay_64 (by decide) ?_
        obtain ⟨v65, h65, h⟩ := cr1_some h
        refine r_callV (As := [.int a1, .int (nI 0)]) (rest := []) (st1 := [.int v65]) hx hb hml hown hts hE hw hl (mc_subR 17 3 (by decide) (mX2_get l G (by show β + 17 + 3 ≤ _; omega) hR.2.2.2.1.2.2.2.2.2.2.2 h65)) (cwV 2 hts (zV gV_X6_142) rfl rfl rfl kdX2_get ⟨Nat.le_of_ble_eq_true rfl, Nat.le_of_ble_eq_true rfl⟩) (by omega) (congrFun hR.2.2.2.1.2.2.2.2.2.2.2.1 _) rfl rfl rfl rfl (Nat.le_of_ble_eq_true rfl) dX6_bay_65 ⟨Nat.zero_le _, Nat.zero_le _⟩ rfl (fun H locs hw => ?_)
        cases h
      · refine lv_lookup (off := 51) (tgt := 69) hx hb dX6_bay_18 (by decide) (by rw [lv_osw hc2 (by decide)]; rw [lv_osw hc3 (by decide)]; rfl) (by decide) ?_
        refine lv_aload_n hx hb dX6_bay_69 rfl (lv_at hl 0 rfl) ?_
        refine r_get (v := .ref (gA G (β + 3))) hx hb hts hinX6 hown hE hw hn 0 (by decide) (congrFun hR.1 _) rfl 1 (by decide) (hts _ (wz_in qF_X6_19)) rfl dX6_bay_70 ?_
        refine r_get (v := .ref (gA G (β + 6))) hx hb hts hinX4 hown hE hw hn 3 (by decide) (congrFun hR.2.2.2.1.1 _) rfl 1 (by decide) (hts _ (wz_in qF_X6_96)) rfl dX6_bay_73 ?_
        refine lv_iload_n hx hb dX6_bay_76 rfl (lv_at hl 1 rfl) ?_
        refine lv_iload_n hx hb dX6_bay_77 rfl (lv_at hl 2 rfl) ?_
        obtain ⟨v78, h78, h⟩ := cr1_some h
        refine r_callV (As := [.int a1, .int a2]) (rest := []) (st1 := [.int v78]) hx hb hml hown hts hE hw hl (mc_subR 6 2 (by decide) (mX5_get l G (by show β + 6 + 2 ≤ _; omega) hR.2.2.2.1.2.2.1 h78)) (cwV 2 hts (zV gV_X6_116) rfl rfl rfl kdX5_get ⟨Nat.le_of_ble_eq_true rfl, Nat.le_of_ble_eq_true rfl⟩) (by omega) (congrFun hR.2.2.2.1.2.2.1.1 _) rfl rfl rfl rfl (Nat.le_of_ble_eq_true rfl) dX6_bay_78 ⟨Nat.zero_le _, Nat.zero_le _⟩ rfl (fun H locs hw => ?_)
        cases h
    · rw [← Sum.inr.inj (Option.some.inj h)]
      exact x_callS (As := [.int a2, .int (nI 0), .int (nI 3)]) (rest := []) hx hb hml hown hts hE hw hl (xX6_checkRange l hfl G (M := (wB M β 316 S)) h14) (va_cwS 3 hts (zS gS_X6_45) rfl rfl rfl kdX6_checkRange ⟨Nat.le_of_ble_eq_true rfl, Nat.le_of_ble_eq_true rfl⟩) rfl rfl (Nat.le_of_ble_eq_true rfl) dX6_bay_14 ⟨Nat.le_refl _, Nat.le_refl _⟩ hout hlocks
  · rw [← Sum.inr.inj (Option.some.inj h)]
    exact x_callS (As := [.ref (gA G (β + 6)), .int a1]) (rest := []) hx hb hml hown hts hE hw hl (mx_subR 6 2 (by decide) (xX6_checkExists l hfl G (by show β + 6 + 2 ≤ _; omega) hR.2.2.2.1.2.2.1 h8)) (va_cwS 2 hts (zS gS_X6_112) rfl rfl rfl kdX6_checkExists ⟨Nat.le_of_ble_eq_true rfl, Nat.le_of_ble_eq_true rfl⟩) rfl rfl (Nat.le_of_ble_eq_true rfl) dX6_bay_8 ⟨Nat.le_refl _, Nat.le_refl _⟩ hout hlocks

set_option maxHeartbeats 4000000 in
set_option maxRecDepth 100000 in
theorem mX6_depot (l : Launch) (G : mG) {β : Nat} {M S : mM} {a1 : Int32} {a2 : Int32} {r : Int32} (hn : β + 316 ≤ gN G) (hR : isWR G β) (h : pX6_depot a1 a2 S = some (.inl r)) : MC l G yX6_depot zzX6_depot 2 44 [.ref (gA G (β + 0)), .int a1, .int a2] (wB M β 316 S) (wB M β 316 S) (some (.int r)) := by
  refine mc_of (cc := cX6_depot) (maxL := 3) (ret := (some .int)) (by decide) rfl (Nat.le_of_ble_eq_true rfl) ?_
  intro p e s m args below meth c H ls hx hb hr hts hown hml hlocks hE hw hl
  have hl : lv_has ls 3 [(0, .ref (gA G (β + 0))), (1, .int a1), (2, .int a2)] := hl
  have hinX4 : ∀ w ∈ wsX40, w ∈ zzX6_depot := fun w h9 => wz_in (zinX4 w h9)
  have hinX6 : ∀ w ∈ wsX60, w ∈ zzX6_depot := fun w h9 => wz_in (zinX6 w h9)
  unfold pX6_depot at h
  refine lv_aload_n hx hb dX6_depot_0 rfl (lv_at hl 0 rfl) ?_
  refine r_get (v := .ref (gA G (β + 3))) hx hb hts hinX6 hown hE hw hn 0 (by decide) (congrFun hR.1 _) rfl 1 (by decide) (hts _ (wz_in qF_X6_19)) rfl dX6_depot_1 ?_
  refine r_get (v := .ref (gA G (β + 8))) hx hb hts hinX4 hown hE hw hn 3 (by decide) (congrFun hR.2.2.2.1.1 _) rfl 2 (by decide) (hts _ (wz_in qF_X6_99)) rfl dX6_depot_4 ?_
  refine lv_iload_n hx hb dX6_depot_7 rfl (lv_at hl 1 rfl) ?_
  rcases bx_some h with ⟨h8, h⟩ | ⟨E8, h8, h⟩
  · refine r_callS (As := [.ref (gA G (β + 8)), .int a1]) (rest := []) (st1 := []) hx hb hml hown hts hE hw hl (mc_subR 8 2 (by decide) (mX6_checkExists l G (by show β + 8 + 2 ≤ _; omega) hR.2.2.2.1.2.2.2.1 h8)) (va_cwS 2 hts (zS gS_X6_112) rfl rfl rfl kdX6_checkExists ⟨Nat.le_of_ble_eq_true rfl, Nat.le_of_ble_eq_true rfl⟩) rfl rfl (Nat.le_of_ble_eq_true rfl) dX6_depot_8 ⟨Nat.zero_le _, Nat.zero_le _⟩ rfl (fun H locs hw => ?_)
    refine lv_iload_n hx hb dX6_depot_11 rfl (lv_at hl 2 rfl) ?_
    refine lv_iconst (v := (nI 0)) hx hb dX6_depot_12 (by decide) ?_
    refine lv_iconst (v := (nI 1)) hx hb dX6_depot_13 (by decide) ?_
    rcases bx_some h with ⟨h14, h⟩ | ⟨E14, h14, h⟩
    · refine r_callS (As := [.int a2, .int (nI 0), .int (nI 1)]) (rest := []) (st1 := []) hx hb hml hown hts hE hw hl (mX6_checkRange l G (M := (wB M β 316 S)) h14) (va_cwS 3 hts (zS gS_X6_45) rfl rfl rfl kdX6_checkRange ⟨Nat.le_of_ble_eq_true rfl, Nat.le_of_ble_eq_true rfl⟩) rfl rfl (Nat.le_of_ble_eq_true rfl) dX6_depot_14 ⟨Nat.zero_le _, Nat.zero_le _⟩ rfl (fun H locs hw => ?_)
      refine lv_aload_n hx hb dX6_depot_17 rfl (lv_at hl 0 rfl) ?_
      refine r_get (v := .ref (gA G (β + 3))) hx hb hts hinX6 hown hE hw hn 0 (by decide) (congrFun hR.1 _) rfl 1 (by decide) (hts _ (wz_in qF_X6_19)) rfl dX6_depot_18 ?_
      refine r_get (v := .ref (gA G (β + 8))) hx hb hts hinX4 hown hE hw hn 3 (by decide) (congrFun hR.2.2.2.1.1 _) rfl 2 (by decide) (hts _ (wz_in qF_X6_99)) rfl dX6_depot_21 ?_
      refine lv_iload_n hx hb dX6_depot_24 rfl (lv_at hl 1 rfl) ?_
      refine lv_iload_n hx hb dX6_depot_25 rfl (lv_at hl 2 rfl) ?_
      obtain ⟨v26, h26, h⟩ := cr1_some h
      refine r_callV (As := [.int a1, .int a2]) (rest := []) (st1 := [.int v26]) hx hb hml hown hts hE hw hl (mc_subR 8 2 (by decide) (mX5_get l G (by show β + 8 + 2 ≤ _; omega) hR.2.2.2.1.2.2.2.1 h26)) (cwV 2 hts (zV gV_X6_116) rfl rfl rfl kdX5_get ⟨Nat.le_of_ble_eq_true rfl, Nat.le_of_ble_eq_true rfl⟩) (by omega) (congrFun hR.2.2.2.1.2.2.2.1.1 _) rfl rfl rfl rfl (Nat.le_of_ble_eq_true rfl) dX6_depot_26 ⟨Nat.zero_le _, Nat.zero_le _⟩ rfl (fun H locs hw => ?_)
      cases h
      exact r_iret hx hb hr hlocks hw dX6_depot_29
    · cases h
  · cases h
set_option maxHeartbeats 4000000 in
set_option maxRecDepth 100000 in
theorem xX6_depot (l : Launch) (hfl : l.stackTraces = false) (G : mG) {β : Nat} {M S : mM} {a1 : Int32} {a2 : Int32} {E : String} (hn : β + 316 ≤ gN G) (hR : isWR G β) (h : pX6_depot a1 a2 S = some (.inr E)) : MX l G yX6_depot zzX6_depot 8 124 [.ref (gA G (β + 0)), .int a1, .int a2] (wB M β 316 S) (wB M β 316 S) E := by
  refine mx_of (cc := cX6_depot) (maxL := 3) (ret := (some .int)) (by decide) rfl (Nat.le_of_ble_eq_true rfl) ?_
  intro p e s m args below meth c H ls hx hb hr hts hown hml hlocks hout hE hw _ hl
  have hl : lv_has ls 3 [(0, .ref (gA G (β + 0))), (1, .int a1), (2, .int a2)] := hl
  have hinX4 : ∀ w ∈ wsX40, w ∈ zzX6_depot := fun w h9 => wz_in (zinX4 w h9)
  have hinX6 : ∀ w ∈ wsX60, w ∈ zzX6_depot := fun w h9 => wz_in (zinX6 w h9)
  unfold pX6_depot at h
  refine lv_aload_n hx hb dX6_depot_0 rfl (lv_at hl 0 rfl) ?_
  refine r_get (v := .ref (gA G (β + 3))) hx hb hts hinX6 hown hE hw hn 0 (by decide) (congrFun hR.1 _) rfl 1 (by decide) (hts _ (wz_in qF_X6_19)) rfl dX6_depot_1 ?_
  refine r_get (v := .ref (gA G (β + 8))) hx hb hts hinX4 hown hE hw hn 3 (by decide) (congrFun hR.2.2.2.1.1 _) rfl 2 (by decide) (hts _ (wz_in qF_X6_99)) rfl dX6_depot_4 ?_
  refine lv_iload_n hx hb dX6_depot_7 rfl (lv_at hl 1 rfl) ?_
  rcases bx_some h with ⟨h8, h⟩ | ⟨E8, h8, h⟩
  · refine r_callS (As := [.ref (gA G (β + 8)), .int a1]) (rest := []) (st1 := []) hx hb hml hown hts hE hw hl (mc_subR 8 2 (by decide) (mX6_checkExists l G (by show β + 8 + 2 ≤ _; omega) hR.2.2.2.1.2.2.2.1 h8)) (va_cwS 2 hts (zS gS_X6_112) rfl rfl rfl kdX6_checkExists ⟨Nat.le_of_ble_eq_true rfl, Nat.le_of_ble_eq_true rfl⟩) rfl rfl (Nat.le_of_ble_eq_true rfl) dX6_depot_8 ⟨Nat.zero_le _, Nat.zero_le _⟩ rfl (fun H locs hw => ?_)
    refine lv_iload_n hx hb dX6_depot_11 rfl (lv_at hl 2 rfl) ?_
    refine lv_iconst (v := (nI 0)) hx hb dX6_depot_12 (by decide) ?_
    refine lv_iconst (v := (nI 1)) hx hb dX6_depot_13 (by decide) ?_
    rcases bx_some h with ⟨h14, h⟩ | ⟨E14, h14, h⟩
    · refine r_callS (As := [.int a2, .int (nI 0), .int (nI 1)]) (rest := []) (st1 := []) hx hb hml hown hts hE hw hl (mX6_checkRange l G (M := (wB M β 316 S)) h14) (va_cwS 3 hts (zS gS_X6_45) rfl rfl rfl kdX6_checkRange ⟨Nat.le_of_ble_eq_true rfl, Nat.le_of_ble_eq_true rfl⟩) rfl rfl (Nat.le_of_ble_eq_true rfl) dX6_depot_14 ⟨Nat.zero_le _, Nat.zero_le _⟩ rfl (fun H locs hw => ?_)
      refine lv_aload_n hx hb dX6_depot_17 rfl (lv_at hl 0 rfl) ?_
      refine r_get (v := .ref (gA G (β + 3))) hx hb hts hinX6 hown hE hw hn 0 (by decide) (congrFun hR.1 _) rfl 1 (by decide) (hts _ (wz_in qF_X6_19)) rfl dX6_depot_18 ?_
      refine r_get (v := .ref (gA G (β + 8))) hx hb hts hinX4 hown hE hw hn 3 (by decide) (congrFun hR.2.2.2.1.1 _) rfl 2 (by decide) (hts _ (wz_in qF_X6_99)) rfl dX6_depot_21 ?_
      refine lv_iload_n hx hb dX6_depot_24 rfl (lv_at hl 1 rfl) ?_
      refine lv_iload_n hx hb dX6_depot_25 rfl (lv_at hl 2 rfl) ?_
      obtain ⟨v26, h26, h⟩ := cr1_some h
      refine r_callV (As := [.int a1, .int a2]) (rest := []) (st1 := [.int v26]) hx hb hml hown hts hE hw hl (mc_subR 8 2 (by decide) (mX5_get l G (by show β + 8 + 2 ≤ _; omega) hR.2.2.2.1.2.2.2.1 h26)) (cwV 2 hts (zV gV_X6_116) rfl rfl rfl kdX5_get ⟨Nat.le_of_ble_eq_true rfl, Nat.le_of_ble_eq_true rfl⟩) (by omega) (congrFun hR.2.2.2.1.2.2.2.1.1 _) rfl rfl rfl rfl (Nat.le_of_ble_eq_true rfl) dX6_depot_26 ⟨Nat.zero_le _, Nat.zero_le _⟩ rfl (fun H locs hw => ?_)
      cases h
    · rw [← Sum.inr.inj (Option.some.inj h)]
      exact x_callS (As := [.int a2, .int (nI 0), .int (nI 1)]) (rest := []) hx hb hml hown hts hE hw hl (xX6_checkRange l hfl G (M := (wB M β 316 S)) h14) (va_cwS 3 hts (zS gS_X6_45) rfl rfl rfl kdX6_checkRange ⟨Nat.le_of_ble_eq_true rfl, Nat.le_of_ble_eq_true rfl⟩) rfl rfl (Nat.le_of_ble_eq_true rfl) dX6_depot_14 ⟨Nat.le_refl _, Nat.le_refl _⟩ hout hlocks
  · rw [← Sum.inr.inj (Option.some.inj h)]
    exact x_callS (As := [.ref (gA G (β + 8)), .int a1]) (rest := []) hx hb hml hown hts hE hw hl (mx_subR 8 2 (by decide) (xX6_checkExists l hfl G (by show β + 8 + 2 ≤ _; omega) hR.2.2.2.1.2.2.2.1 h8)) (va_cwS 2 hts (zS gS_X6_112) rfl rfl rfl kdX6_checkExists ⟨Nat.le_of_ble_eq_true rfl, Nat.le_of_ble_eq_true rfl⟩) rfl rfl (Nat.le_of_ble_eq_true rfl) dX6_depot_8 ⟨Nat.le_refl _, Nat.le_refl _⟩ hout hlocks

set_option maxHeartbeats 4000000 in
set_option maxRecDepth 100000 in
theorem mX6_addGate (l : Launch) (G : mG) {β : Nat} {M S S' : mM} {a1 : Int32} {a2 : Int32} {a3 : Int32} {a4 : Int32} {r : Int32} (hn : β + 316 ≤ gN G) (hR : isWR G β) (h : pX6_addGate a1 a2 a3 a4 S = some (.inl r, S')) : MC l G yX6_addGate zzX6_addGate 5 104 [.ref (gA G (β + 0)), .int a1, .int a2, .int a3, .int a4] (wB M β 316 S) (wB M β 316 S') (some (.int r)) := by
  refine mc_of (cc := cX6_addGate) (maxL := 5) (ret := (some .int)) (by decide) rfl (Nat.le_of_ble_eq_true rfl) ?_
  intro p e s m args below meth c H ls hx hb hr hts hown hml hlocks hE hw hl
  have hl : lv_has ls 5 [(0, .ref (gA G (β + 0))), (1, .int a1), (2, .int a2), (3, .int a3), (4, .int a4)] := hl
  have hinX4 : ∀ w ∈ wsX40, w ∈ zzX6_addGate := fun w h9 => wz_in (zinX4 w h9)
  have hinX6 : ∀ w ∈ wsX60, w ∈ zzX6_addGate := fun w h9 => wz_in (zinX6 w h9)
  have k72 : ∀ (x1 : Int32) (x2 : Int32) (x3 : Int32) (x4 : Int32) (t0 : Int32) (S : mM) (H : Heap) (locs : List Loc) (ls : Array Slot), pX6_addGate_b72  x1 x2 x3 x4 t0 S = some (.inl r, S') → mW G s (wB M β 316 S) H locs → lv_has ls 5 [(0, .ref (gA G (β + 0))), (1, .int x1), (2, .int x2), (3, .int x3), (4, .int x4)] → W p l e { frames := 5, cells := 0, slots := 0, locals := 104 } s m args below meth c H locs 0 0 (mZ below G (some (.int r)) (wB M β 316 S') args s) (F0 m 72 ls [.int t0]) := by
    intro x1 x2 x3 x4 t0 S H locs ls h hw hl
    unfold pX6_addGate_b72 at h
    rcases bx_some h with ⟨h72, h⟩ | ⟨E72, h72, h⟩
    · refine r_callS (As := [.int t0]) (rest := []) (st1 := []) hx hb hml hown hts hE hw hl (mX6_refuseIf l G (M := (wB M β 316 S)) h72) (va_cwS 1 hts (zS gS_X6_53) rfl rfl rfl kdX6_refuseIf ⟨Nat.le_of_ble_eq_true rfl, Nat.le_of_ble_eq_true rfl⟩) rfl rfl (Nat.le_of_ble_eq_true rfl) dX6_addGate_72 ⟨Nat.zero_le _, Nat.zero_le _⟩ rfl (fun H locs hw => ?_)
      refine lv_aload_n hx hb dX6_addGate_75 rfl (lv_at hl 0 rfl) ?_
      refine r_get (v := .ref (gA G (β + 37))) hx hb hts hinX6 hown hE hw hn 0 (by decide) (congrFun hR.1 _) rfl 3 (by decide) (hts _ (wz_in qF_X6_29)) rfl dX6_addGate_76 ?_
      refine lv_aload_n hx hb dX6_addGate_79 rfl (lv_at hl 0 rfl) ?_
      refine r_get (v := .ref (gA G (β + 3))) hx hb hts hinX6 hown hE hw hn 0 (by decide) (congrFun hR.1 _) rfl 1 (by decide) (hts _ (wz_in qF_X6_19)) rfl dX6_addGate_80 ?_
      obtain ⟨S83, h83, h⟩ := cr1_some h
      refine r_callV (As := [.ref (gA G (β + 3))]) (rest := []) (st1 := []) hx hb hml hown hts hE hw hl (mX0_remember l G (by omega) hR h83) (cwV 1 hts (zV gV_X6_153) rfl rfl rfl kdX0_remember ⟨Nat.le_of_ble_eq_true rfl, Nat.le_of_ble_eq_true rfl⟩) (by omega) (congrFun hR.2.2.2.2.2.1 _) rfl rfl rfl rfl (Nat.le_of_ble_eq_true rfl) dX6_addGate_83 ⟨Nat.zero_le _, Nat.zero_le _⟩ rfl (fun H locs hw => ?_)
      refine lv_aload_n hx hb dX6_addGate_86 rfl (lv_at hl 0 rfl) ?_
      refine r_get (v := .ref (gA G (β + 3))) hx hb hts hinX6 hown hE hw hn 0 (by decide) (congrFun hR.1 _) rfl 1 (by decide) (hts _ (wz_in qF_X6_19)) rfl dX6_addGate_87 ?_
      refine lv_iload_n hx hb dX6_addGate_90 rfl (lv_at hl 1 rfl) ?_
      refine lv_iload_n hx hb dX6_addGate_91 rfl (lv_at hl 2 rfl) ?_
      refine lv_iload_n hx hb dX6_addGate_92 rfl (lv_at hl 3 rfl) ?_
      refine lv_iload hx hb dX6_addGate_93 (lv_at hl 4 rfl) ?_
      obtain ⟨v95, T95, h95, h⟩ := cws_some h
      refine r_callV (As := [.int x1, .int x2, .int x3, .int x4]) (rest := []) (st1 := [.int v95]) hx hb hml hown hts hE hw hl (mc_sub 3 17 (by decide) (mX4_newGate l G (by show β + 3 + 17 ≤ _; omega) hR.2.2.2.1 h95)) (cwV 4 hts (zV gV_X6_156) rfl rfl rfl kdX4_newGate ⟨Nat.le_of_ble_eq_true rfl, Nat.le_of_ble_eq_true rfl⟩) (by omega) (congrFun hR.2.2.2.1.1 _) rfl rfl rfl rfl (Nat.le_of_ble_eq_true rfl) dX6_addGate_95 ⟨Nat.zero_le _, Nat.zero_le _⟩ rfl (fun H locs hw => ?_)
      generalize wB S83 3 17 T95 = S95 at h hw
      cases h
      exact r_iret hx hb hr hlocks hw dX6_addGate_98
    · cases h
  have k67 : ∀ (x1 : Int32) (x2 : Int32) (x3 : Int32) (x4 : Int32) (S : mM) (H : Heap) (locs : List Loc) (ls : Array Slot), pX6_addGate_b67  x1 x2 x3 x4 S = some (.inl r, S') → mW G s (wB M β 316 S) H locs → lv_has ls 5 [(0, .ref (gA G (β + 0))), (1, .int x1), (2, .int x2), (3, .int x3), (4, .int x4)] → W p l e { frames := 5, cells := 0, slots := 0, locals := 104 } s m args below meth c H locs 0 0 (mZ below G (some (.int r)) (wB M β 316 S') args s) (F0 m 67 ls []) := by
    intro x1 x2 x3 x4 S H locs ls h hw hl
    unfold pX6_addGate_b67 at h
    refine lv_iconst (v := (nI 1)) hx hb dX6_addGate_67 (by decide) ?_
    refine lv_goto (tgt := 72) hx hb dX6_addGate_68 (by decide) ?_
    exact k72  x1 x2 x3 x4 (nI 1) S _ _ _ h hw (lv_sub hl [0, 1, 2, 3, 4] rfl)
  unfold pX6_addGate at h
  refine lv_iload_n hx hb dX6_addGate_0 rfl (lv_at hl 1 rfl) ?_
  refine lv_iconst (v := (nI 1)) hx hb dX6_addGate_1 (by decide) ?_
  refine lv_aload_n hx hb dX6_addGate_2 rfl (lv_at hl 0 rfl) ?_
  refine r_get (v := .ref (gA G (β + 3))) hx hb hts hinX6 hown hE hw hn 0 (by decide) (congrFun hR.1 _) rfl 1 (by decide) (hts _ (wz_in qF_X6_19)) rfl dX6_addGate_3 ?_
  obtain ⟨v6, h6, h⟩ := cr1_some h
  refine r_callV (As := []) (rest := [.int (nI 1), .int a1]) (st1 := [.int v6, .int (nI 1), .int a1]) hx hb hml hown hts hE hw hl (mc_subR 3 17 (by decide) (mX4_length l G (by show β + 3 + 17 ≤ _; omega) hR.2.2.2.1 h6)) (cwV 0 hts (zV gV_X6_87) rfl rfl rfl kdX4_length ⟨Nat.le_of_ble_eq_true rfl, Nat.le_of_ble_eq_true rfl⟩) (by omega) (congrFun hR.2.2.2.1.1 _) rfl rfl rfl rfl (Nat.le_of_ble_eq_true rfl) dX6_addGate_6 ⟨Nat.zero_le _, Nat.zero_le _⟩ rfl (fun H locs hw => ?_)
  refine lv_iconst (v := (nI 1)) hx hb dX6_addGate_9 (by decide) ?_
  refine lv_isub hx hb dX6_addGate_10 ?_
  rcases bx_some h with ⟨h11, h⟩ | ⟨E11, h11, h⟩
  · refine r_callS (As := [.int a1, .int (nI 1), .int (v6 - (nI 1))]) (rest := []) (st1 := []) hx hb hml hown hts hE hw hl (mX6_checkRange l G (M := (wB M β 316 S)) h11) (va_cwS 3 hts (zS gS_X6_45) rfl rfl rfl kdX6_checkRange ⟨Nat.le_of_ble_eq_true rfl, Nat.le_of_ble_eq_true rfl⟩) rfl rfl (Nat.le_of_ble_eq_true rfl) dX6_addGate_11 ⟨Nat.zero_le _, Nat.zero_le _⟩ rfl (fun H locs hw => ?_)
    refine lv_iload_n hx hb dX6_addGate_14 rfl (lv_at hl 2 rfl) ?_
    refine lv_iconst (v := (nI 2)) hx hb dX6_addGate_15 (by decide) ?_
    refine lv_bipush (v := (nI 24)) hx hb dX6_addGate_16 (by decide) ?_
    rcases bx_some h with ⟨h18, h⟩ | ⟨E18, h18, h⟩
    · refine r_callS (As := [.int a2, .int (nI 2), .int (nI 24)]) (rest := []) (st1 := []) hx hb hml hown hts hE hw hl (mX6_checkRange l G (M := (wB M β 316 S)) h18) (va_cwS 3 hts (zS gS_X6_45) rfl rfl rfl kdX6_checkRange ⟨Nat.le_of_ble_eq_true rfl, Nat.le_of_ble_eq_true rfl⟩) rfl rfl (Nat.le_of_ble_eq_true rfl) dX6_addGate_18 ⟨Nat.zero_le _, Nat.zero_le _⟩ rfl (fun H locs hw => ?_)
      refine lv_iload_n hx hb dX6_addGate_21 rfl (lv_at hl 3 rfl) ?_
      refine lv_iconst (v := (nI 0)) hx hb dX6_addGate_22 (by decide) ?_
      refine lv_iload_n hx hb dX6_addGate_23 rfl (lv_at hl 2 rfl) ?_
      refine lv_iconst (v := (nI 1)) hx hb dX6_addGate_24 (by decide) ?_
      refine lv_isub hx hb dX6_addGate_25 ?_
      rcases bx_some h with ⟨h26, h⟩ | ⟨E26, h26, h⟩
      · refine r_callS (As := [.int a3, .int (nI 0), .int (a2 - (nI 1))]) (rest := []) (st1 := []) hx hb hml hown hts hE hw hl (mX6_checkRange l G (M := (wB M β 316 S)) h26) (va_cwS 3 hts (zS gS_X6_45) rfl rfl rfl kdX6_checkRange ⟨Nat.le_of_ble_eq_true rfl, Nat.le_of_ble_eq_true rfl⟩) rfl rfl (Nat.le_of_ble_eq_true rfl) dX6_addGate_26 ⟨Nat.zero_le _, Nat.zero_le _⟩ rfl (fun H locs hw => ?_)
        refine lv_iload hx hb dX6_addGate_29 (lv_at hl 4 rfl) ?_
        refine lv_iconst (v := (nI 0)) hx hb dX6_addGate_31 (by decide) ?_
        refine lv_iload_n hx hb dX6_addGate_32 rfl (lv_at hl 2 rfl) ?_
        refine lv_iconst (v := (nI 1)) hx hb dX6_addGate_33 (by decide) ?_
        refine lv_isub hx hb dX6_addGate_34 ?_
        rcases bx_some h with ⟨h35, h⟩ | ⟨E35, h35, h⟩
        · refine r_callS (As := [.int a4, .int (nI 0), .int (a2 - (nI 1))]) (rest := []) (st1 := []) hx hb hml hown hts hE hw hl (mX6_checkRange l G (M := (wB M β 316 S)) h35) (va_cwS 3 hts (zS gS_X6_45) rfl rfl rfl kdX6_checkRange ⟨Nat.le_of_ble_eq_true rfl, Nat.le_of_ble_eq_true rfl⟩) rfl rfl (Nat.le_of_ble_eq_true rfl) dX6_addGate_35 ⟨Nat.zero_le _, Nat.zero_le _⟩ rfl (fun H locs hw => ?_)
          refine lv_aload_n hx hb dX6_addGate_38 rfl (lv_at hl 0 rfl) ?_
          refine r_get (v := .ref (gA G (β + 3))) hx hb hts hinX6 hown hE hw hn 0 (by decide) (congrFun hR.1 _) rfl 1 (by decide) (hts _ (wz_in qF_X6_19)) rfl dX6_addGate_39 ?_
          refine r_get (v := .ref (gA G (β + 4))) hx hb hts hinX4 hown hE hw hn 3 (by decide) (congrFun hR.2.2.2.1.1 _) rfl 0 (by decide) (hts _ (wz_in qF_X6_93)) rfl dX6_addGate_42 ?_
          obtain ⟨v45, h45, h⟩ := cr1_some h
          refine r_callV (As := []) (rest := []) (st1 := [.int v45]) hx hb hml hown hts hE hw hl (mc_subR 4 2 (by decide) (mX5_isFull l G (by show β + 4 + 2 ≤ _; omega) hR.2.2.2.1.2.1 h45)) (cwV 0 hts (zV gV_X6_149) rfl rfl rfl kdX5_isFull ⟨Nat.le_of_ble_eq_true rfl, Nat.le_of_ble_eq_true rfl⟩) (by omega) (congrFun hR.2.2.2.1.2.1.1 _) rfl rfl rfl rfl (Nat.le_of_ble_eq_true rfl) dX6_addGate_45 ⟨Nat.zero_le _, Nat.zero_le _⟩ rfl (fun H locs hw => ?_)
          refine b_ne (tgt := 67) hx hb dX6_addGate_48 (by decide) h (fun h => ?_) (fun h => ?_)
          · exact k67  a1 a2 a3 a4 S _ _ _ h hw (lv_sub hl [0, 1, 2, 3, 4] rfl)
          · refine lv_aload_n hx hb dX6_addGate_51 rfl (lv_at hl 0 rfl) ?_
            refine r_get (v := .ref (gA G (β + 3))) hx hb hts hinX6 hown hE hw hn 0 (by decide) (congrFun hR.1 _) rfl 1 (by decide) (hts _ (wz_in qF_X6_19)) rfl dX6_addGate_52 ?_
            refine r_get (v := .ref (gA G (β + 4))) hx hb hts hinX4 hown hE hw hn 3 (by decide) (congrFun hR.2.2.2.1.1 _) rfl 0 (by decide) (hts _ (wz_in qF_X6_93)) rfl dX6_addGate_55 ?_
            refine lv_iload_n hx hb dX6_addGate_58 rfl (lv_at hl 1 rfl) ?_
            obtain ⟨v59, h59, h⟩ := cr1_some h
            refine r_callV (As := [.int a1]) (rest := []) (st1 := [.int v59]) hx hb hml hown hts hE hw hl (mc_subR 4 2 (by decide) (mX5_rowAt l G (by show β + 4 + 2 ≤ _; omega) hR.2.2.2.1.2.1 h59)) (cwV 1 hts (zV gV_X6_150) rfl rfl rfl kdX5_rowAt ⟨Nat.le_of_ble_eq_true rfl, Nat.le_of_ble_eq_true rfl⟩) (by omega) (congrFun hR.2.2.2.1.2.1.1 _) rfl rfl rfl rfl (Nat.le_of_ble_eq_true rfl) dX6_addGate_59 ⟨Nat.zero_le _, Nat.zero_le _⟩ rfl (fun H locs hw => ?_)
            refine lv_bipush (v := (-9)) hx hb dX6_addGate_62 (by decide) ?_
            refine bi_eq (tgt := 71) hx hb dX6_addGate_64 (by decide) h (fun h => ?_) (fun h => ?_)
            · refine lv_iconst (v := (nI 0)) hx hb dX6_addGate_71 (by decide) ?_
              exact k72  a1 a2 a3 a4 (nI 0) S _ _ _ h hw (lv_sub hl [0, 1, 2, 3, 4] rfl)
            · exact k67  a1 a2 a3 a4 S _ _ _ h hw (lv_sub hl [0, 1, 2, 3, 4] rfl)
        · cases h
      · cases h
    · cases h
  · cases h
set_option maxHeartbeats 4000000 in
set_option maxRecDepth 100000 in
theorem xX6_addGate (l : Launch) (hfl : l.stackTraces = false) (G : mG) {β : Nat} {M S S' : mM} {a1 : Int32} {a2 : Int32} {a3 : Int32} {a4 : Int32} {E : String} (hn : β + 316 ≤ gN G) (hR : isWR G β) (h : pX6_addGate a1 a2 a3 a4 S = some (.inr E, S')) : MX l G yX6_addGate zzX6_addGate 8 124 [.ref (gA G (β + 0)), .int a1, .int a2, .int a3, .int a4] (wB M β 316 S) (wB M β 316 S') E := by
  refine mx_of (cc := cX6_addGate) (maxL := 5) (ret := (some .int)) (by decide) rfl (Nat.le_of_ble_eq_true rfl) ?_
  intro p e s m args below meth c H ls hx hb hr hts hown hml hlocks hout hE hw _ hl
  have hl : lv_has ls 5 [(0, .ref (gA G (β + 0))), (1, .int a1), (2, .int a2), (3, .int a3), (4, .int a4)] := hl
  have hinX4 : ∀ w ∈ wsX40, w ∈ zzX6_addGate := fun w h9 => wz_in (zinX4 w h9)
  have hinX6 : ∀ w ∈ wsX60, w ∈ zzX6_addGate := fun w h9 => wz_in (zinX6 w h9)
  have k72 : ∀ (x1 : Int32) (x2 : Int32) (x3 : Int32) (x4 : Int32) (t0 : Int32) (S : mM) (H : Heap) (locs : List Loc) (ls : Array Slot), pX6_addGate_b72  x1 x2 x3 x4 t0 S = some (.inr E, S') → mW G s (wB M β 316 S) H locs → lv_has ls 5 [(0, .ref (gA G (β + 0))), (1, .int x1), (2, .int x2), (3, .int x3), (4, .int x4)] → W p l e { frames := 8, cells := 1, slots := 6, locals := 124 } s m args below meth c H locs 0 0 (mY below G E (wB M β 316 S') args s) (F0 m 72 ls [.int t0]) := by
    intro x1 x2 x3 x4 t0 S H locs ls h hw hl
    unfold pX6_addGate_b72 at h
    rcases bx_some h with ⟨h72, h⟩ | ⟨E72, h72, h⟩
    · refine r_callS (As := [.int t0]) (rest := []) (st1 := []) hx hb hml hown hts hE hw hl (mX6_refuseIf l G (M := (wB M β 316 S)) h72) (va_cwS 1 hts (zS gS_X6_53) rfl rfl rfl kdX6_refuseIf ⟨Nat.le_of_ble_eq_true rfl, Nat.le_of_ble_eq_true rfl⟩) rfl rfl (Nat.le_of_ble_eq_true rfl) dX6_addGate_72 ⟨Nat.zero_le _, Nat.zero_le _⟩ rfl (fun H locs hw => ?_)
      refine lv_aload_n hx hb dX6_addGate_75 rfl (lv_at hl 0 rfl) ?_
      refine r_get (v := .ref (gA G (β + 37))) hx hb hts hinX6 hown hE hw hn 0 (by decide) (congrFun hR.1 _) rfl 3 (by decide) (hts _ (wz_in qF_X6_29)) rfl dX6_addGate_76 ?_
      refine lv_aload_n hx hb dX6_addGate_79 rfl (lv_at hl 0 rfl) ?_
      refine r_get (v := .ref (gA G (β + 3))) hx hb hts hinX6 hown hE hw hn 0 (by decide) (congrFun hR.1 _) rfl 1 (by decide) (hts _ (wz_in qF_X6_19)) rfl dX6_addGate_80 ?_
      obtain ⟨S83, h83, h⟩ := cr1_some h
      refine r_callV (As := [.ref (gA G (β + 3))]) (rest := []) (st1 := []) hx hb hml hown hts hE hw hl (mX0_remember l G (by omega) hR h83) (cwV 1 hts (zV gV_X6_153) rfl rfl rfl kdX0_remember ⟨Nat.le_of_ble_eq_true rfl, Nat.le_of_ble_eq_true rfl⟩) (by omega) (congrFun hR.2.2.2.2.2.1 _) rfl rfl rfl rfl (Nat.le_of_ble_eq_true rfl) dX6_addGate_83 ⟨Nat.zero_le _, Nat.zero_le _⟩ rfl (fun H locs hw => ?_)
      refine lv_aload_n hx hb dX6_addGate_86 rfl (lv_at hl 0 rfl) ?_
      refine r_get (v := .ref (gA G (β + 3))) hx hb hts hinX6 hown hE hw hn 0 (by decide) (congrFun hR.1 _) rfl 1 (by decide) (hts _ (wz_in qF_X6_19)) rfl dX6_addGate_87 ?_
      refine lv_iload_n hx hb dX6_addGate_90 rfl (lv_at hl 1 rfl) ?_
      refine lv_iload_n hx hb dX6_addGate_91 rfl (lv_at hl 2 rfl) ?_
      refine lv_iload_n hx hb dX6_addGate_92 rfl (lv_at hl 3 rfl) ?_
      refine lv_iload hx hb dX6_addGate_93 (lv_at hl 4 rfl) ?_
      obtain ⟨v95, T95, h95, h⟩ := cws_some h
      refine r_callV (As := [.int x1, .int x2, .int x3, .int x4]) (rest := []) (st1 := [.int v95]) hx hb hml hown hts hE hw hl (mc_sub 3 17 (by decide) (mX4_newGate l G (by show β + 3 + 17 ≤ _; omega) hR.2.2.2.1 h95)) (cwV 4 hts (zV gV_X6_156) rfl rfl rfl kdX4_newGate ⟨Nat.le_of_ble_eq_true rfl, Nat.le_of_ble_eq_true rfl⟩) (by omega) (congrFun hR.2.2.2.1.1 _) rfl rfl rfl rfl (Nat.le_of_ble_eq_true rfl) dX6_addGate_95 ⟨Nat.zero_le _, Nat.zero_le _⟩ rfl (fun H locs hw => ?_)
      generalize wB S83 3 17 T95 = S95 at h hw
      cases h
    · rw [← (Prod.mk.inj (Option.some.inj h)).2, ← Sum.inr.inj (Prod.mk.inj (Option.some.inj h)).1]
      exact x_callS (As := [.int t0]) (rest := []) hx hb hml hown hts hE hw hl (xX6_refuseIf l hfl G (M := (wB M β 316 S)) h72) (va_cwS 1 hts (zS gS_X6_53) rfl rfl rfl kdX6_refuseIf ⟨Nat.le_of_ble_eq_true rfl, Nat.le_of_ble_eq_true rfl⟩) rfl rfl (Nat.le_of_ble_eq_true rfl) dX6_addGate_72 ⟨Nat.le_refl _, Nat.le_refl _⟩ hout hlocks
  have k67 : ∀ (x1 : Int32) (x2 : Int32) (x3 : Int32) (x4 : Int32) (S : mM) (H : Heap) (locs : List Loc) (ls : Array Slot), pX6_addGate_b67  x1 x2 x3 x4 S = some (.inr E, S') → mW G s (wB M β 316 S) H locs → lv_has ls 5 [(0, .ref (gA G (β + 0))), (1, .int x1), (2, .int x2), (3, .int x3), (4, .int x4)] → W p l e { frames := 8, cells := 1, slots := 6, locals := 124 } s m args below meth c H locs 0 0 (mY below G E (wB M β 316 S') args s) (F0 m 67 ls []) := by
    intro x1 x2 x3 x4 S H locs ls h hw hl
    unfold pX6_addGate_b67 at h
    refine lv_iconst (v := (nI 1)) hx hb dX6_addGate_67 (by decide) ?_
    refine lv_goto (tgt := 72) hx hb dX6_addGate_68 (by decide) ?_
    exact k72  x1 x2 x3 x4 (nI 1) S _ _ _ h hw (lv_sub hl [0, 1, 2, 3, 4] rfl)
  unfold pX6_addGate at h
  refine lv_iload_n hx hb dX6_addGate_0 rfl (lv_at hl 1 rfl) ?_
  refine lv_iconst (v := (nI 1)) hx hb dX6_addGate_1 (by decide) ?_
  refine lv_aload_n hx hb dX6_addGate_2 rfl (lv_at hl 0 rfl) ?_
  refine r_get (v := .ref (gA G (β + 3))) hx hb hts hinX6 hown hE hw hn 0 (by decide) (congrFun hR.1 _) rfl 1 (by decide) (hts _ (wz_in qF_X6_19)) rfl dX6_addGate_3 ?_
  obtain ⟨v6, h6, h⟩ := cr1_some h
  refine r_callV (As := []) (rest := [.int (nI 1), .int a1]) (st1 := [.int v6, .int (nI 1), .int a1]) hx hb hml hown hts hE hw hl (mc_subR 3 17 (by decide) (mX4_length l G (by show β + 3 + 17 ≤ _; omega) hR.2.2.2.1 h6)) (cwV 0 hts (zV gV_X6_87) rfl rfl rfl kdX4_length ⟨Nat.le_of_ble_eq_true rfl, Nat.le_of_ble_eq_true rfl⟩) (by omega) (congrFun hR.2.2.2.1.1 _) rfl rfl rfl rfl (Nat.le_of_ble_eq_true rfl) dX6_addGate_6 ⟨Nat.zero_le _, Nat.zero_le _⟩ rfl (fun H locs hw => ?_)
  refine lv_iconst (v := (nI 1)) hx hb dX6_addGate_9 (by decide) ?_
  refine lv_isub hx hb dX6_addGate_10 ?_
  rcases bx_some h with ⟨h11, h⟩ | ⟨E11, h11, h⟩
  · refine r_callS (As := [.int a1, .int (nI 1), .int (v6 - (nI 1))]) (rest := []) (st1 := []) hx hb hml hown hts hE hw hl (mX6_checkRange l G (M := (wB M β 316 S)) h11) (va_cwS 3 hts (zS gS_X6_45) rfl rfl rfl kdX6_checkRange ⟨Nat.le_of_ble_eq_true rfl, Nat.le_of_ble_eq_true rfl⟩) rfl rfl (Nat.le_of_ble_eq_true rfl) dX6_addGate_11 ⟨Nat.zero_le _, Nat.zero_le _⟩ rfl (fun H locs hw => ?_)
    refine lv_iload_n hx hb dX6_addGate_14 rfl (lv_at hl 2 rfl) ?_
    refine lv_iconst (v := (nI 2)) hx hb dX6_addGate_15 (by decide) ?_
    refine lv_bipush (v := (nI 24)) hx hb dX6_addGate_16 (by decide) ?_
    rcases bx_some h with ⟨h18, h⟩ | ⟨E18, h18, h⟩
    · refine r_callS (As := [.int a2, .int (nI 2), .int (nI 24)]) (rest := []) (st1 := []) hx hb hml hown hts hE hw hl (mX6_checkRange l G (M := (wB M β 316 S)) h18) (va_cwS 3 hts (zS gS_X6_45) rfl rfl rfl kdX6_checkRange ⟨Nat.le_of_ble_eq_true rfl, Nat.le_of_ble_eq_true rfl⟩) rfl rfl (Nat.le_of_ble_eq_true rfl) dX6_addGate_18 ⟨Nat.zero_le _, Nat.zero_le _⟩ rfl (fun H locs hw => ?_)
      refine lv_iload_n hx hb dX6_addGate_21 rfl (lv_at hl 3 rfl) ?_
      refine lv_iconst (v := (nI 0)) hx hb dX6_addGate_22 (by decide) ?_
      refine lv_iload_n hx hb dX6_addGate_23 rfl (lv_at hl 2 rfl) ?_
      refine lv_iconst (v := (nI 1)) hx hb dX6_addGate_24 (by decide) ?_
      refine lv_isub hx hb dX6_addGate_25 ?_
      rcases bx_some h with ⟨h26, h⟩ | ⟨E26, h26, h⟩
      · refine r_callS (As := [.int a3, .int (nI 0), .int (a2 - (nI 1))]) (rest := []) (st1 := []) hx hb hml hown hts hE hw hl (mX6_checkRange l G (M := (wB M β 316 S)) h26) (va_cwS 3 hts (zS gS_X6_45) rfl rfl rfl kdX6_checkRange ⟨Nat.le_of_ble_eq_true rfl, Nat.le_of_ble_eq_true rfl⟩) rfl rfl (Nat.le_of_ble_eq_true rfl) dX6_addGate_26 ⟨Nat.zero_le _, Nat.zero_le _⟩ rfl (fun H locs hw => ?_)
        refine lv_iload hx hb dX6_addGate_29 (lv_at hl 4 rfl) ?_
        refine lv_iconst (v := (nI 0)) hx hb dX6_addGate_31 (by decide) ?_
        refine lv_iload_n hx hb dX6_addGate_32 rfl (lv_at hl 2 rfl) ?_
        refine lv_iconst (v := (nI 1)) hx hb dX6_addGate_33 (by decide) ?_
        refine lv_isub hx hb dX6_addGate_34 ?_
        rcases bx_some h with ⟨h35, h⟩ | ⟨E35, h35, h⟩
        · refine r_callS (As := [.int a4, .int (nI 0), .int (a2 - (nI 1))]) (rest := []) (st1 := []) hx hb hml hown hts hE hw hl (mX6_checkRange l G (M := (wB M β 316 S)) h35) (va_cwS 3 hts (zS gS_X6_45) rfl rfl rfl kdX6_checkRange ⟨Nat.le_of_ble_eq_true rfl, Nat.le_of_ble_eq_true rfl⟩) rfl rfl (Nat.le_of_ble_eq_true rfl) dX6_addGate_35 ⟨Nat.zero_le _, Nat.zero_le _⟩ rfl (fun H locs hw => ?_)
          refine lv_aload_n hx hb dX6_addGate_38 rfl (lv_at hl 0 rfl) ?_
          refine r_get (v := .ref (gA G (β + 3))) hx hb hts hinX6 hown hE hw hn 0 (by decide) (congrFun hR.1 _) rfl 1 (by decide) (hts _ (wz_in qF_X6_19)) rfl dX6_addGate_39 ?_
          refine r_get (v := .ref (gA G (β + 4))) hx hb hts hinX4 hown hE hw hn 3 (by decide) (congrFun hR.2.2.2.1.1 _) rfl 0 (by decide) (hts _ (wz_in qF_X6_93)) rfl dX6_addGate_42 ?_
          obtain ⟨v45, h45, h⟩ := cr1_some h
          refine r_callV (As := []) (rest := []) (st1 := [.int v45]) hx hb hml hown hts hE hw hl (mc_subR 4 2 (by decide) (mX5_isFull l G (by show β + 4 + 2 ≤ _; omega) hR.2.2.2.1.2.1 h45)) (cwV 0 hts (zV gV_X6_149) rfl rfl rfl kdX5_isFull ⟨Nat.le_of_ble_eq_true rfl, Nat.le_of_ble_eq_true rfl⟩) (by omega) (congrFun hR.2.2.2.1.2.1.1 _) rfl rfl rfl rfl (Nat.le_of_ble_eq_true rfl) dX6_addGate_45 ⟨Nat.zero_le _, Nat.zero_le _⟩ rfl (fun H locs hw => ?_)
          refine b_ne (tgt := 67) hx hb dX6_addGate_48 (by decide) h (fun h => ?_) (fun h => ?_)
          · exact k67  a1 a2 a3 a4 S _ _ _ h hw (lv_sub hl [0, 1, 2, 3, 4] rfl)
          · refine lv_aload_n hx hb dX6_addGate_51 rfl (lv_at hl 0 rfl) ?_
            refine r_get (v := .ref (gA G (β + 3))) hx hb hts hinX6 hown hE hw hn 0 (by decide) (congrFun hR.1 _) rfl 1 (by decide) (hts _ (wz_in qF_X6_19)) rfl dX6_addGate_52 ?_
            refine r_get (v := .ref (gA G (β + 4))) hx hb hts hinX4 hown hE hw hn 3 (by decide) (congrFun hR.2.2.2.1.1 _) rfl 0 (by decide) (hts _ (wz_in qF_X6_93)) rfl dX6_addGate_55 ?_
            refine lv_iload_n hx hb dX6_addGate_58 rfl (lv_at hl 1 rfl) ?_
            obtain ⟨v59, h59, h⟩ := cr1_some h
            refine r_callV (As := [.int a1]) (rest := []) (st1 := [.int v59]) hx hb hml hown hts hE hw hl (mc_subR 4 2 (by decide) (mX5_rowAt l G (by show β + 4 + 2 ≤ _; omega) hR.2.2.2.1.2.1 h59)) (cwV 1 hts (zV gV_X6_150) rfl rfl rfl kdX5_rowAt ⟨Nat.le_of_ble_eq_true rfl, Nat.le_of_ble_eq_true rfl⟩) (by omega) (congrFun hR.2.2.2.1.2.1.1 _) rfl rfl rfl rfl (Nat.le_of_ble_eq_true rfl) dX6_addGate_59 ⟨Nat.zero_le _, Nat.zero_le _⟩ rfl (fun H locs hw => ?_)
            refine lv_bipush (v := (-9)) hx hb dX6_addGate_62 (by decide) ?_
            refine bi_eq (tgt := 71) hx hb dX6_addGate_64 (by decide) h (fun h => ?_) (fun h => ?_)
            · refine lv_iconst (v := (nI 0)) hx hb dX6_addGate_71 (by decide) ?_
              exact k72  a1 a2 a3 a4 (nI 0) S _ _ _ h hw (lv_sub hl [0, 1, 2, 3, 4] rfl)
            · exact k67  a1 a2 a3 a4 S _ _ _ h hw (lv_sub hl [0, 1, 2, 3, 4] rfl)
        · rw [← (Prod.mk.inj (Option.some.inj h)).2, ← Sum.inr.inj (Prod.mk.inj (Option.some.inj h)).1]
          exact x_callS (As := [.int a4, .int (nI 0), .int (a2 - (nI 1))]) (rest := []) hx hb hml hown hts hE hw hl (xX6_checkRange l hfl G (M := (wB M β 316 S)) h35) (va_cwS 3 hts (zS gS_X6_45) rfl rfl rfl kdX6_checkRange ⟨Nat.le_of_ble_eq_true rfl, Nat.le_of_ble_eq_true rfl⟩) rfl rfl (Nat.le_of_ble_eq_true rfl) dX6_addGate_35 ⟨Nat.le_refl _, Nat.le_refl _⟩ hout hlocks
      · rw [← (Prod.mk.inj (Option.some.inj h)).2, ← Sum.inr.inj (Prod.mk.inj (Option.some.inj h)).1]
        exact x_callS (As := [.int a3, .int (nI 0), .int (a2 - (nI 1))]) (rest := []) hx hb hml hown hts hE hw hl (xX6_checkRange l hfl G (M := (wB M β 316 S)) h26) (va_cwS 3 hts (zS gS_X6_45) rfl rfl rfl kdX6_checkRange ⟨Nat.le_of_ble_eq_true rfl, Nat.le_of_ble_eq_true rfl⟩) rfl rfl (Nat.le_of_ble_eq_true rfl) dX6_addGate_26 ⟨Nat.le_refl _, Nat.le_refl _⟩ hout hlocks
    · rw [← (Prod.mk.inj (Option.some.inj h)).2, ← Sum.inr.inj (Prod.mk.inj (Option.some.inj h)).1]
      exact x_callS (As := [.int a2, .int (nI 2), .int (nI 24)]) (rest := []) hx hb hml hown hts hE hw hl (xX6_checkRange l hfl G (M := (wB M β 316 S)) h18) (va_cwS 3 hts (zS gS_X6_45) rfl rfl rfl kdX6_checkRange ⟨Nat.le_of_ble_eq_true rfl, Nat.le_of_ble_eq_true rfl⟩) rfl rfl (Nat.le_of_ble_eq_true rfl) dX6_addGate_18 ⟨Nat.le_refl _, Nat.le_refl _⟩ hout hlocks
  · rw [← (Prod.mk.inj (Option.some.inj h)).2, ← Sum.inr.inj (Prod.mk.inj (Option.some.inj h)).1]
    exact x_callS (As := [.int a1, .int (nI 1), .int (v6 - (nI 1))]) (rest := []) hx hb hml hown hts hE hw hl (xX6_checkRange l hfl G (M := (wB M β 316 S)) h11) (va_cwS 3 hts (zS gS_X6_45) rfl rfl rfl kdX6_checkRange ⟨Nat.le_of_ble_eq_true rfl, Nat.le_of_ble_eq_true rfl⟩) rfl rfl (Nat.le_of_ble_eq_true rfl) dX6_addGate_11 ⟨Nat.le_refl _, Nat.le_refl _⟩ hout hlocks

set_option maxHeartbeats 4000000 in
set_option maxRecDepth 100000 in
theorem mX6_addBay (l : Launch) (G : mG) {β : Nat} {M S S' : mM} {a1 : Int32} {a2 : Int32} {r : Int32} (hn : β + 316 ≤ gN G) (hR : isWR G β) (h : pX6_addBay a1 a2 S = some (.inl r, S')) : MC l G yX6_addBay zzX6_addBay 5 104 [.ref (gA G (β + 0)), .int a1, .int a2] (wB M β 316 S) (wB M β 316 S') (some (.int r)) := by
  refine mc_of (cc := cX6_addBay) (maxL := 3) (ret := (some .int)) (by decide) rfl (Nat.le_of_ble_eq_true rfl) ?_
  intro p e s m args below meth c H ls hx hb hr hts hown hml hlocks hE hw hl
  have hl : lv_has ls 3 [(0, .ref (gA G (β + 0))), (1, .int a1), (2, .int a2)] := hl
  have hinX4 : ∀ w ∈ wsX40, w ∈ zzX6_addBay := fun w h9 => wz_in (zinX4 w h9)
  have hinX6 : ∀ w ∈ wsX60, w ∈ zzX6_addBay := fun w h9 => wz_in (zinX6 w h9)
  have k55 : ∀ (x1 : Int32) (x2 : Int32) (t0 : Int32) (S : mM) (H : Heap) (locs : List Loc) (ls : Array Slot), pX6_addBay_b55  x1 x2 t0 S = some (.inl r, S') → mW G s (wB M β 316 S) H locs → lv_has ls 3 [(0, .ref (gA G (β + 0))), (1, .int x1), (2, .int x2)] → W p l e { frames := 5, cells := 0, slots := 0, locals := 104 } s m args below meth c H locs 0 0 (mZ below G (some (.int r)) (wB M β 316 S') args s) (F0 m 55 ls [.int t0]) := by
    intro x1 x2 t0 S H locs ls h hw hl
    unfold pX6_addBay_b55 at h
    rcases bx_some h with ⟨h55, h⟩ | ⟨E55, h55, h⟩
    · refine r_callS (As := [.int t0]) (rest := []) (st1 := []) hx hb hml hown hts hE hw hl (mX6_refuseIf l G (M := (wB M β 316 S)) h55) (va_cwS 1 hts (zS gS_X6_53) rfl rfl rfl kdX6_refuseIf ⟨Nat.le_of_ble_eq_true rfl, Nat.le_of_ble_eq_true rfl⟩) rfl rfl (Nat.le_of_ble_eq_true rfl) dX6_addBay_55 ⟨Nat.zero_le _, Nat.zero_le _⟩ rfl (fun H locs hw => ?_)
      refine lv_aload_n hx hb dX6_addBay_58 rfl (lv_at hl 0 rfl) ?_
      refine r_get (v := .ref (gA G (β + 37))) hx hb hts hinX6 hown hE hw hn 0 (by decide) (congrFun hR.1 _) rfl 3 (by decide) (hts _ (wz_in qF_X6_29)) rfl dX6_addBay_59 ?_
      refine lv_aload_n hx hb dX6_addBay_62 rfl (lv_at hl 0 rfl) ?_
      refine r_get (v := .ref (gA G (β + 3))) hx hb hts hinX6 hown hE hw hn 0 (by decide) (congrFun hR.1 _) rfl 1 (by decide) (hts _ (wz_in qF_X6_19)) rfl dX6_addBay_63 ?_
      obtain ⟨S66, h66, h⟩ := cr1_some h
      refine r_callV (As := [.ref (gA G (β + 3))]) (rest := []) (st1 := []) hx hb hml hown hts hE hw hl (mX0_remember l G (by omega) hR h66) (cwV 1 hts (zV gV_X6_153) rfl rfl rfl kdX0_remember ⟨Nat.le_of_ble_eq_true rfl, Nat.le_of_ble_eq_true rfl⟩) (by omega) (congrFun hR.2.2.2.2.2.1 _) rfl rfl rfl rfl (Nat.le_of_ble_eq_true rfl) dX6_addBay_66 ⟨Nat.zero_le _, Nat.zero_le _⟩ rfl (fun H locs hw => ?_)
      refine lv_aload_n hx hb dX6_addBay_69 rfl (lv_at hl 0 rfl) ?_
      refine r_get (v := .ref (gA G (β + 3))) hx hb hts hinX6 hown hE hw hn 0 (by decide) (congrFun hR.1 _) rfl 1 (by decide) (hts _ (wz_in qF_X6_19)) rfl dX6_addBay_70 ?_
      refine lv_iload_n hx hb dX6_addBay_73 rfl (lv_at hl 1 rfl) ?_
      refine lv_iload_n hx hb dX6_addBay_74 rfl (lv_at hl 2 rfl) ?_
      obtain ⟨v75, T75, h75, h⟩ := cws_some h
      refine r_callV (As := [.int x1, .int x2]) (rest := []) (st1 := [.int v75]) hx hb hml hown hts hE hw hl (mc_sub 3 17 (by decide) (mX4_newBay l G (by show β + 3 + 17 ≤ _; omega) hR.2.2.2.1 h75)) (cwV 2 hts (zV gV_X6_160) rfl rfl rfl kdX4_newBay ⟨Nat.le_of_ble_eq_true rfl, Nat.le_of_ble_eq_true rfl⟩) (by omega) (congrFun hR.2.2.2.1.1 _) rfl rfl rfl rfl (Nat.le_of_ble_eq_true rfl) dX6_addBay_75 ⟨Nat.zero_le _, Nat.zero_le _⟩ rfl (fun H locs hw => ?_)
      generalize wB S66 3 17 T75 = S75 at h hw
      cases h
      exact r_iret hx hb hr hlocks hw dX6_addBay_78
    · cases h
  have k50 : ∀ (x1 : Int32) (x2 : Int32) (S : mM) (H : Heap) (locs : List Loc) (ls : Array Slot), pX6_addBay_b50  x1 x2 S = some (.inl r, S') → mW G s (wB M β 316 S) H locs → lv_has ls 3 [(0, .ref (gA G (β + 0))), (1, .int x1), (2, .int x2)] → W p l e { frames := 5, cells := 0, slots := 0, locals := 104 } s m args below meth c H locs 0 0 (mZ below G (some (.int r)) (wB M β 316 S') args s) (F0 m 50 ls []) := by
    intro x1 x2 S H locs ls h hw hl
    unfold pX6_addBay_b50 at h
    refine lv_iconst (v := (nI 1)) hx hb dX6_addBay_50 (by decide) ?_
    refine lv_goto (tgt := 55) hx hb dX6_addBay_51 (by decide) ?_
    exact k55  x1 x2 (nI 1) S _ _ _ h hw (lv_sub hl [0, 1, 2] rfl)
  unfold pX6_addBay at h
  refine lv_iload_n hx hb dX6_addBay_0 rfl (lv_at hl 1 rfl) ?_
  refine lv_iconst (v := (nI 1)) hx hb dX6_addBay_1 (by decide) ?_
  refine lv_aload_n hx hb dX6_addBay_2 rfl (lv_at hl 0 rfl) ?_
  refine r_get (v := .ref (gA G (β + 3))) hx hb hts hinX6 hown hE hw hn 0 (by decide) (congrFun hR.1 _) rfl 1 (by decide) (hts _ (wz_in qF_X6_19)) rfl dX6_addBay_3 ?_
  obtain ⟨v6, h6, h⟩ := cr1_some h
  refine r_callV (As := []) (rest := [.int (nI 1), .int a1]) (st1 := [.int v6, .int (nI 1), .int a1]) hx hb hml hown hts hE hw hl (mc_subR 3 17 (by decide) (mX4_length l G (by show β + 3 + 17 ≤ _; omega) hR.2.2.2.1 h6)) (cwV 0 hts (zV gV_X6_87) rfl rfl rfl kdX4_length ⟨Nat.le_of_ble_eq_true rfl, Nat.le_of_ble_eq_true rfl⟩) (by omega) (congrFun hR.2.2.2.1.1 _) rfl rfl rfl rfl (Nat.le_of_ble_eq_true rfl) dX6_addBay_6 ⟨Nat.zero_le _, Nat.zero_le _⟩ rfl (fun H locs hw => ?_)
  refine lv_iconst (v := (nI 1)) hx hb dX6_addBay_9 (by decide) ?_
  refine lv_isub hx hb dX6_addBay_10 ?_
  rcases bx_some h with ⟨h11, h⟩ | ⟨E11, h11, h⟩
  · refine r_callS (As := [.int a1, .int (nI 1), .int (v6 - (nI 1))]) (rest := []) (st1 := []) hx hb hml hown hts hE hw hl (mX6_checkRange l G (M := (wB M β 316 S)) h11) (va_cwS 3 hts (zS gS_X6_45) rfl rfl rfl kdX6_checkRange ⟨Nat.le_of_ble_eq_true rfl, Nat.le_of_ble_eq_true rfl⟩) rfl rfl (Nat.le_of_ble_eq_true rfl) dX6_addBay_11 ⟨Nat.zero_le _, Nat.zero_le _⟩ rfl (fun H locs hw => ?_)
    refine lv_iload_n hx hb dX6_addBay_14 rfl (lv_at hl 2 rfl) ?_
    refine lv_iconst (v := (nI 1)) hx hb dX6_addBay_15 (by decide) ?_
    refine lv_bipush (v := (nI 6)) hx hb dX6_addBay_16 (by decide) ?_
    rcases bx_some h with ⟨h18, h⟩ | ⟨E18, h18, h⟩
    · refine r_callS (As := [.int a2, .int (nI 1), .int (nI 6)]) (rest := []) (st1 := []) hx hb hml hown hts hE hw hl (mX6_checkRange l G (M := (wB M β 316 S)) h18) (va_cwS 3 hts (zS gS_X6_45) rfl rfl rfl kdX6_checkRange ⟨Nat.le_of_ble_eq_true rfl, Nat.le_of_ble_eq_true rfl⟩) rfl rfl (Nat.le_of_ble_eq_true rfl) dX6_addBay_18 ⟨Nat.zero_le _, Nat.zero_le _⟩ rfl (fun H locs hw => ?_)
      refine lv_aload_n hx hb dX6_addBay_21 rfl (lv_at hl 0 rfl) ?_
      refine r_get (v := .ref (gA G (β + 3))) hx hb hts hinX6 hown hE hw hn 0 (by decide) (congrFun hR.1 _) rfl 1 (by decide) (hts _ (wz_in qF_X6_19)) rfl dX6_addBay_22 ?_
      refine r_get (v := .ref (gA G (β + 6))) hx hb hts hinX4 hown hE hw hn 3 (by decide) (congrFun hR.2.2.2.1.1 _) rfl 1 (by decide) (hts _ (wz_in qF_X6_96)) rfl dX6_addBay_25 ?_
      obtain ⟨v28, h28, h⟩ := cr1_some h
      refine r_callV (As := []) (rest := []) (st1 := [.int v28]) hx hb hml hown hts hE hw hl (mc_subR 6 2 (by decide) (mX5_isFull l G (by show β + 6 + 2 ≤ _; omega) hR.2.2.2.1.2.2.1 h28)) (cwV 0 hts (zV gV_X6_149) rfl rfl rfl kdX5_isFull ⟨Nat.le_of_ble_eq_true rfl, Nat.le_of_ble_eq_true rfl⟩) (by omega) (congrFun hR.2.2.2.1.2.2.1.1 _) rfl rfl rfl rfl (Nat.le_of_ble_eq_true rfl) dX6_addBay_28 ⟨Nat.zero_le _, Nat.zero_le _⟩ rfl (fun H locs hw => ?_)
      refine b_ne (tgt := 50) hx hb dX6_addBay_31 (by decide) h (fun h => ?_) (fun h => ?_)
      · exact k50  a1 a2 S _ _ _ h hw (lv_sub hl [0, 1, 2] rfl)
      · refine lv_aload_n hx hb dX6_addBay_34 rfl (lv_at hl 0 rfl) ?_
        refine r_get (v := .ref (gA G (β + 3))) hx hb hts hinX6 hown hE hw hn 0 (by decide) (congrFun hR.1 _) rfl 1 (by decide) (hts _ (wz_in qF_X6_19)) rfl dX6_addBay_35 ?_
        refine r_get (v := .ref (gA G (β + 6))) hx hb hts hinX4 hown hE hw hn 3 (by decide) (congrFun hR.2.2.2.1.1 _) rfl 1 (by decide) (hts _ (wz_in qF_X6_96)) rfl dX6_addBay_38 ?_
        refine lv_iload_n hx hb dX6_addBay_41 rfl (lv_at hl 1 rfl) ?_
        obtain ⟨v42, h42, h⟩ := cr1_some h
        refine r_callV (As := [.int a1]) (rest := []) (st1 := [.int v42]) hx hb hml hown hts hE hw hl (mc_subR 6 2 (by decide) (mX5_rowAt l G (by show β + 6 + 2 ≤ _; omega) hR.2.2.2.1.2.2.1 h42)) (cwV 1 hts (zV gV_X6_150) rfl rfl rfl kdX5_rowAt ⟨Nat.le_of_ble_eq_true rfl, Nat.le_of_ble_eq_true rfl⟩) (by omega) (congrFun hR.2.2.2.1.2.2.1.1 _) rfl rfl rfl rfl (Nat.le_of_ble_eq_true rfl) dX6_addBay_42 ⟨Nat.zero_le _, Nat.zero_le _⟩ rfl (fun H locs hw => ?_)
        refine lv_bipush (v := (-9)) hx hb dX6_addBay_45 (by decide) ?_
        refine bi_eq (tgt := 54) hx hb dX6_addBay_47 (by decide) h (fun h => ?_) (fun h => ?_)
        · refine lv_iconst (v := (nI 0)) hx hb dX6_addBay_54 (by decide) ?_
          exact k55  a1 a2 (nI 0) S _ _ _ h hw (lv_sub hl [0, 1, 2] rfl)
        · exact k50  a1 a2 S _ _ _ h hw (lv_sub hl [0, 1, 2] rfl)
    · cases h
  · cases h
set_option maxHeartbeats 4000000 in
set_option maxRecDepth 100000 in
theorem xX6_addBay (l : Launch) (hfl : l.stackTraces = false) (G : mG) {β : Nat} {M S S' : mM} {a1 : Int32} {a2 : Int32} {E : String} (hn : β + 316 ≤ gN G) (hR : isWR G β) (h : pX6_addBay a1 a2 S = some (.inr E, S')) : MX l G yX6_addBay zzX6_addBay 8 124 [.ref (gA G (β + 0)), .int a1, .int a2] (wB M β 316 S) (wB M β 316 S') E := by
  refine mx_of (cc := cX6_addBay) (maxL := 3) (ret := (some .int)) (by decide) rfl (Nat.le_of_ble_eq_true rfl) ?_
  intro p e s m args below meth c H ls hx hb hr hts hown hml hlocks hout hE hw _ hl
  have hl : lv_has ls 3 [(0, .ref (gA G (β + 0))), (1, .int a1), (2, .int a2)] := hl
  have hinX4 : ∀ w ∈ wsX40, w ∈ zzX6_addBay := fun w h9 => wz_in (zinX4 w h9)
  have hinX6 : ∀ w ∈ wsX60, w ∈ zzX6_addBay := fun w h9 => wz_in (zinX6 w h9)
  have k55 : ∀ (x1 : Int32) (x2 : Int32) (t0 : Int32) (S : mM) (H : Heap) (locs : List Loc) (ls : Array Slot), pX6_addBay_b55  x1 x2 t0 S = some (.inr E, S') → mW G s (wB M β 316 S) H locs → lv_has ls 3 [(0, .ref (gA G (β + 0))), (1, .int x1), (2, .int x2)] → W p l e { frames := 8, cells := 1, slots := 6, locals := 124 } s m args below meth c H locs 0 0 (mY below G E (wB M β 316 S') args s) (F0 m 55 ls [.int t0]) := by
    intro x1 x2 t0 S H locs ls h hw hl
    unfold pX6_addBay_b55 at h
    rcases bx_some h with ⟨h55, h⟩ | ⟨E55, h55, h⟩
    · refine r_callS (As := [.int t0]) (rest := []) (st1 := []) hx hb hml hown hts hE hw hl (mX6_refuseIf l G (M := (wB M β 316 S)) h55) (va_cwS 1 hts (zS gS_X6_53) rfl rfl rfl kdX6_refuseIf ⟨Nat.le_of_ble_eq_true rfl, Nat.le_of_ble_eq_true rfl⟩) rfl rfl (Nat.le_of_ble_eq_true rfl) dX6_addBay_55 ⟨Nat.zero_le _, Nat.zero_le _⟩ rfl (fun H locs hw => ?_)
      refine lv_aload_n hx hb dX6_addBay_58 rfl (lv_at hl 0 rfl) ?_
      refine r_get (v := .ref (gA G (β + 37))) hx hb hts hinX6 hown hE hw hn 0 (by decide) (congrFun hR.1 _) rfl 3 (by decide) (hts _ (wz_in qF_X6_29)) rfl dX6_addBay_59 ?_
      refine lv_aload_n hx hb dX6_addBay_62 rfl (lv_at hl 0 rfl) ?_
      refine r_get (v := .ref (gA G (β + 3))) hx hb hts hinX6 hown hE hw hn 0 (by decide) (congrFun hR.1 _) rfl 1 (by decide) (hts _ (wz_in qF_X6_19)) rfl dX6_addBay_63 ?_
      obtain ⟨S66, h66, h⟩ := cr1_some h
      refine r_callV (As := [.ref (gA G (β + 3))]) (rest := []) (st1 := []) hx hb hml hown hts hE hw hl (mX0_remember l G (by omega) hR h66) (cwV 1 hts (zV gV_X6_153) rfl rfl rfl kdX0_remember ⟨Nat.le_of_ble_eq_true rfl, Nat.le_of_ble_eq_true rfl⟩) (by omega) (congrFun hR.2.2.2.2.2.1 _) rfl rfl rfl rfl (Nat.le_of_ble_eq_true rfl) dX6_addBay_66 ⟨Nat.zero_le _, Nat.zero_le _⟩ rfl (fun H locs hw => ?_)
      refine lv_aload_n hx hb dX6_addBay_69 rfl (lv_at hl 0 rfl) ?_
      refine r_get (v := .ref (gA G (β + 3))) hx hb hts hinX6 hown hE hw hn 0 (by decide) (congrFun hR.1 _) rfl 1 (by decide) (hts _ (wz_in qF_X6_19)) rfl dX6_addBay_70 ?_
      refine lv_iload_n hx hb dX6_addBay_73 rfl (lv_at hl 1 rfl) ?_
      refine lv_iload_n hx hb dX6_addBay_74 rfl (lv_at hl 2 rfl) ?_
      obtain ⟨v75, T75, h75, h⟩ := cws_some h
      refine r_callV (As := [.int x1, .int x2]) (rest := []) (st1 := [.int v75]) hx hb hml hown hts hE hw hl (mc_sub 3 17 (by decide) (mX4_newBay l G (by show β + 3 + 17 ≤ _; omega) hR.2.2.2.1 h75)) (cwV 2 hts (zV gV_X6_160) rfl rfl rfl kdX4_newBay ⟨Nat.le_of_ble_eq_true rfl, Nat.le_of_ble_eq_true rfl⟩) (by omega) (congrFun hR.2.2.2.1.1 _) rfl rfl rfl rfl (Nat.le_of_ble_eq_true rfl) dX6_addBay_75 ⟨Nat.zero_le _, Nat.zero_le _⟩ rfl (fun H locs hw => ?_)
      generalize wB S66 3 17 T75 = S75 at h hw
      cases h
    · rw [← (Prod.mk.inj (Option.some.inj h)).2, ← Sum.inr.inj (Prod.mk.inj (Option.some.inj h)).1]
      exact x_callS (As := [.int t0]) (rest := []) hx hb hml hown hts hE hw hl (xX6_refuseIf l hfl G (M := (wB M β 316 S)) h55) (va_cwS 1 hts (zS gS_X6_53) rfl rfl rfl kdX6_refuseIf ⟨Nat.le_of_ble_eq_true rfl, Nat.le_of_ble_eq_true rfl⟩) rfl rfl (Nat.le_of_ble_eq_true rfl) dX6_addBay_55 ⟨Nat.le_refl _, Nat.le_refl _⟩ hout hlocks
  have k50 : ∀ (x1 : Int32) (x2 : Int32) (S : mM) (H : Heap) (locs : List Loc) (ls : Array Slot), pX6_addBay_b50  x1 x2 S = some (.inr E, S') → mW G s (wB M β 316 S) H locs → lv_has ls 3 [(0, .ref (gA G (β + 0))), (1, .int x1), (2, .int x2)] → W p l e { frames := 8, cells := 1, slots := 6, locals := 124 } s m args below meth c H locs 0 0 (mY below G E (wB M β 316 S') args s) (F0 m 50 ls []) := by
    intro x1 x2 S H locs ls h hw hl
    unfold pX6_addBay_b50 at h
    refine lv_iconst (v := (nI 1)) hx hb dX6_addBay_50 (by decide) ?_
    refine lv_goto (tgt := 55) hx hb dX6_addBay_51 (by decide) ?_
    exact k55  x1 x2 (nI 1) S _ _ _ h hw (lv_sub hl [0, 1, 2] rfl)
  unfold pX6_addBay at h
  refine lv_iload_n hx hb dX6_addBay_0 rfl (lv_at hl 1 rfl) ?_
  refine lv_iconst (v := (nI 1)) hx hb dX6_addBay_1 (by decide) ?_
  refine lv_aload_n hx hb dX6_addBay_2 rfl (lv_at hl 0 rfl) ?_
  refine r_get (v := .ref (gA G (β + 3))) hx hb hts hinX6 hown hE hw hn 0 (by decide) (congrFun hR.1 _) rfl 1 (by decide) (hts _ (wz_in qF_X6_19)) rfl dX6_addBay_3 ?_
  obtain ⟨v6, h6, h⟩ := cr1_some h
  refine r_callV (As := []) (rest := [.int (nI 1), .int a1]) (st1 := [.int v6, .int (nI 1), .int a1]) hx hb hml hown hts hE hw hl (mc_subR 3 17 (by decide) (mX4_length l G (by show β + 3 + 17 ≤ _; omega) hR.2.2.2.1 h6)) (cwV 0 hts (zV gV_X6_87) rfl rfl rfl kdX4_length ⟨Nat.le_of_ble_eq_true rfl, Nat.le_of_ble_eq_true rfl⟩) (by omega) (congrFun hR.2.2.2.1.1 _) rfl rfl rfl rfl (Nat.le_of_ble_eq_true rfl) dX6_addBay_6 ⟨Nat.zero_le _, Nat.zero_le _⟩ rfl (fun H locs hw => ?_)
  refine lv_iconst (v := (nI 1)) hx hb dX6_addBay_9 (by decide) ?_
  refine lv_isub hx hb dX6_addBay_10 ?_
  rcases bx_some h with ⟨h11, h⟩ | ⟨E11, h11, h⟩
  · refine r_callS (As := [.int a1, .int (nI 1), .int (v6 - (nI 1))]) (rest := []) (st1 := []) hx hb hml hown hts hE hw hl (mX6_checkRange l G (M := (wB M β 316 S)) h11) (va_cwS 3 hts (zS gS_X6_45) rfl rfl rfl kdX6_checkRange ⟨Nat.le_of_ble_eq_true rfl, Nat.le_of_ble_eq_true rfl⟩) rfl rfl (Nat.le_of_ble_eq_true rfl) dX6_addBay_11 ⟨Nat.zero_le _, Nat.zero_le _⟩ rfl (fun H locs hw => ?_)
    refine lv_iload_n hx hb dX6_addBay_14 rfl (lv_at hl 2 rfl) ?_
    refine lv_iconst (v := (nI 1)) hx hb dX6_addBay_15 (by decide) ?_
    refine lv_bipush (v := (nI 6)) hx hb dX6_addBay_16 (by decide) ?_
    rcases bx_some h with ⟨h18, h⟩ | ⟨E18, h18, h⟩
    · refine r_callS (As := [.int a2, .int (nI 1), .int (nI 6)]) (rest := []) (st1 := []) hx hb hml hown hts hE hw hl (mX6_checkRange l G (M := (wB M β 316 S)) h18) (va_cwS 3 hts (zS gS_X6_45) rfl rfl rfl kdX6_checkRange ⟨Nat.le_of_ble_eq_true rfl, Nat.le_of_ble_eq_true rfl⟩) rfl rfl (Nat.le_of_ble_eq_true rfl) dX6_addBay_18 ⟨Nat.zero_le _, Nat.zero_le _⟩ rfl (fun H locs hw => ?_)
      refine lv_aload_n hx hb dX6_addBay_21 rfl (lv_at hl 0 rfl) ?_
      refine r_get (v := .ref (gA G (β + 3))) hx hb hts hinX6 hown hE hw hn 0 (by decide) (congrFun hR.1 _) rfl 1 (by decide) (hts _ (wz_in qF_X6_19)) rfl dX6_addBay_22 ?_
      refine r_get (v := .ref (gA G (β + 6))) hx hb hts hinX4 hown hE hw hn 3 (by decide) (congrFun hR.2.2.2.1.1 _) rfl 1 (by decide) (hts _ (wz_in qF_X6_96)) rfl dX6_addBay_25 ?_
      obtain ⟨v28, h28, h⟩ := cr1_some h
      refine r_callV (As := []) (rest := []) (st1 := [.int v28]) hx hb hml hown hts hE hw hl (mc_subR 6 2 (by decide) (mX5_isFull l G (by show β + 6 + 2 ≤ _; omega) hR.2.2.2.1.2.2.1 h28)) (cwV 0 hts (zV gV_X6_149) rfl rfl rfl kdX5_isFull ⟨Nat.le_of_ble_eq_true rfl, Nat.le_of_ble_eq_true rfl⟩) (by omega) (congrFun hR.2.2.2.1.2.2.1.1 _) rfl rfl rfl rfl (Nat.le_of_ble_eq_true rfl) dX6_addBay_28 ⟨Nat.zero_le _, Nat.zero_le _⟩ rfl (fun H locs hw => ?_)
      refine b_ne (tgt := 50) hx hb dX6_addBay_31 (by decide) h (fun h => ?_) (fun h => ?_)
      · exact k50  a1 a2 S _ _ _ h hw (lv_sub hl [0, 1, 2] rfl)
      · refine lv_aload_n hx hb dX6_addBay_34 rfl (lv_at hl 0 rfl) ?_
        refine r_get (v := .ref (gA G (β + 3))) hx hb hts hinX6 hown hE hw hn 0 (by decide) (congrFun hR.1 _) rfl 1 (by decide) (hts _ (wz_in qF_X6_19)) rfl dX6_addBay_35 ?_
        refine r_get (v := .ref (gA G (β + 6))) hx hb hts hinX4 hown hE hw hn 3 (by decide) (congrFun hR.2.2.2.1.1 _) rfl 1 (by decide) (hts _ (wz_in qF_X6_96)) rfl dX6_addBay_38 ?_
        refine lv_iload_n hx hb dX6_addBay_41 rfl (lv_at hl 1 rfl) ?_
        obtain ⟨v42, h42, h⟩ := cr1_some h
        refine r_callV (As := [.int a1]) (rest := []) (st1 := [.int v42]) hx hb hml hown hts hE hw hl (mc_subR 6 2 (by decide) (mX5_rowAt l G (by show β + 6 + 2 ≤ _; omega) hR.2.2.2.1.2.2.1 h42)) (cwV 1 hts (zV gV_X6_150) rfl rfl rfl kdX5_rowAt ⟨Nat.le_of_ble_eq_true rfl, Nat.le_of_ble_eq_true rfl⟩) (by omega) (congrFun hR.2.2.2.1.2.2.1.1 _) rfl rfl rfl rfl (Nat.le_of_ble_eq_true rfl) dX6_addBay_42 ⟨Nat.zero_le _, Nat.zero_le _⟩ rfl (fun H locs hw => ?_)
        refine lv_bipush (v := (-9)) hx hb dX6_addBay_45 (by decide) ?_
        refine bi_eq (tgt := 54) hx hb dX6_addBay_47 (by decide) h (fun h => ?_) (fun h => ?_)
        · refine lv_iconst (v := (nI 0)) hx hb dX6_addBay_54 (by decide) ?_
          exact k55  a1 a2 (nI 0) S _ _ _ h hw (lv_sub hl [0, 1, 2] rfl)
        · exact k50  a1 a2 S _ _ _ h hw (lv_sub hl [0, 1, 2] rfl)
    · rw [← (Prod.mk.inj (Option.some.inj h)).2, ← Sum.inr.inj (Prod.mk.inj (Option.some.inj h)).1]
      exact x_callS (As := [.int a2, .int (nI 1), .int (nI 6)]) (rest := []) hx hb hml hown hts hE hw hl (xX6_checkRange l hfl G (M := (wB M β 316 S)) h18) (va_cwS 3 hts (zS gS_X6_45) rfl rfl rfl kdX6_checkRange ⟨Nat.le_of_ble_eq_true rfl, Nat.le_of_ble_eq_true rfl⟩) rfl rfl (Nat.le_of_ble_eq_true rfl) dX6_addBay_18 ⟨Nat.le_refl _, Nat.le_refl _⟩ hout hlocks
  · rw [← (Prod.mk.inj (Option.some.inj h)).2, ← Sum.inr.inj (Prod.mk.inj (Option.some.inj h)).1]
    exact x_callS (As := [.int a1, .int (nI 1), .int (v6 - (nI 1))]) (rest := []) hx hb hml hown hts hE hw hl (xX6_checkRange l hfl G (M := (wB M β 316 S)) h11) (va_cwS 3 hts (zS gS_X6_45) rfl rfl rfl kdX6_checkRange ⟨Nat.le_of_ble_eq_true rfl, Nat.le_of_ble_eq_true rfl⟩) rfl rfl (Nat.le_of_ble_eq_true rfl) dX6_addBay_11 ⟨Nat.le_refl _, Nat.le_refl _⟩ hout hlocks

set_option maxHeartbeats 4000000 in
set_option maxRecDepth 100000 in
theorem mX6_addDepot (l : Launch) (G : mG) {β : Nat} {M S S' : mM} {a1 : Int32} {a2 : Int32} {r : Int32} (hn : β + 316 ≤ gN G) (hR : isWR G β) (h : pX6_addDepot a1 a2 S = some (.inl r, S')) : MC l G yX6_addDepot zzX6_addDepot 5 104 [.ref (gA G (β + 0)), .int a1, .int a2] (wB M β 316 S) (wB M β 316 S') (some (.int r)) := by
  refine mc_of (cc := cX6_addDepot) (maxL := 3) (ret := (some .int)) (by decide) rfl (Nat.le_of_ble_eq_true rfl) ?_
  intro p e s m args below meth c H ls hx hb hr hts hown hml hlocks hE hw hl
  have hl : lv_has ls 3 [(0, .ref (gA G (β + 0))), (1, .int a1), (2, .int a2)] := hl
  have hinX4 : ∀ w ∈ wsX40, w ∈ zzX6_addDepot := fun w h9 => wz_in (zinX4 w h9)
  have hinX6 : ∀ w ∈ wsX60, w ∈ zzX6_addDepot := fun w h9 => wz_in (zinX6 w h9)
  have k54 : ∀ (x1 : Int32) (x2 : Int32) (t0 : Int32) (S : mM) (H : Heap) (locs : List Loc) (ls : Array Slot), pX6_addDepot_b54  x1 x2 t0 S = some (.inl r, S') → mW G s (wB M β 316 S) H locs → lv_has ls 3 [(0, .ref (gA G (β + 0))), (1, .int x1), (2, .int x2)] → W p l e { frames := 5, cells := 0, slots := 0, locals := 104 } s m args below meth c H locs 0 0 (mZ below G (some (.int r)) (wB M β 316 S') args s) (F0 m 54 ls [.int t0]) := by
    intro x1 x2 t0 S H locs ls h hw hl
    unfold pX6_addDepot_b54 at h
    rcases bx_some h with ⟨h54, h⟩ | ⟨E54, h54, h⟩
    · refine r_callS (As := [.int t0]) (rest := []) (st1 := []) hx hb hml hown hts hE hw hl (mX6_refuseIf l G (M := (wB M β 316 S)) h54) (va_cwS 1 hts (zS gS_X6_53) rfl rfl rfl kdX6_refuseIf ⟨Nat.le_of_ble_eq_true rfl, Nat.le_of_ble_eq_true rfl⟩) rfl rfl (Nat.le_of_ble_eq_true rfl) dX6_addDepot_54 ⟨Nat.zero_le _, Nat.zero_le _⟩ rfl (fun H locs hw => ?_)
      refine lv_aload_n hx hb dX6_addDepot_57 rfl (lv_at hl 0 rfl) ?_
      refine r_get (v := .ref (gA G (β + 37))) hx hb hts hinX6 hown hE hw hn 0 (by decide) (congrFun hR.1 _) rfl 3 (by decide) (hts _ (wz_in qF_X6_29)) rfl dX6_addDepot_58 ?_
      refine lv_aload_n hx hb dX6_addDepot_61 rfl (lv_at hl 0 rfl) ?_
      refine r_get (v := .ref (gA G (β + 3))) hx hb hts hinX6 hown hE hw hn 0 (by decide) (congrFun hR.1 _) rfl 1 (by decide) (hts _ (wz_in qF_X6_19)) rfl dX6_addDepot_62 ?_
      obtain ⟨S65, h65, h⟩ := cr1_some h
      refine r_callV (As := [.ref (gA G (β + 3))]) (rest := []) (st1 := []) hx hb hml hown hts hE hw hl (mX0_remember l G (by omega) hR h65) (cwV 1 hts (zV gV_X6_153) rfl rfl rfl kdX0_remember ⟨Nat.le_of_ble_eq_true rfl, Nat.le_of_ble_eq_true rfl⟩) (by omega) (congrFun hR.2.2.2.2.2.1 _) rfl rfl rfl rfl (Nat.le_of_ble_eq_true rfl) dX6_addDepot_65 ⟨Nat.zero_le _, Nat.zero_le _⟩ rfl (fun H locs hw => ?_)
      refine lv_aload_n hx hb dX6_addDepot_68 rfl (lv_at hl 0 rfl) ?_
      refine r_get (v := .ref (gA G (β + 3))) hx hb hts hinX6 hown hE hw hn 0 (by decide) (congrFun hR.1 _) rfl 1 (by decide) (hts _ (wz_in qF_X6_19)) rfl dX6_addDepot_69 ?_
      refine lv_iload_n hx hb dX6_addDepot_72 rfl (lv_at hl 1 rfl) ?_
      refine lv_iload_n hx hb dX6_addDepot_73 rfl (lv_at hl 2 rfl) ?_
      obtain ⟨v74, T74, h74, h⟩ := cws_some h
      refine r_callV (As := [.int x1, .int x2]) (rest := []) (st1 := [.int v74]) hx hb hml hown hts hE hw hl (mc_sub 3 17 (by decide) (mX4_newDepot l G (by show β + 3 + 17 ≤ _; omega) hR.2.2.2.1 h74)) (cwV 2 hts (zV gV_X6_163) rfl rfl rfl kdX4_newDepot ⟨Nat.le_of_ble_eq_true rfl, Nat.le_of_ble_eq_true rfl⟩) (by omega) (congrFun hR.2.2.2.1.1 _) rfl rfl rfl rfl (Nat.le_of_ble_eq_true rfl) dX6_addDepot_74 ⟨Nat.zero_le _, Nat.zero_le _⟩ rfl (fun H locs hw => ?_)
      generalize wB S65 3 17 T74 = S74 at h hw
      cases h
      exact r_iret hx hb hr hlocks hw dX6_addDepot_77
    · cases h
  have k49 : ∀ (x1 : Int32) (x2 : Int32) (S : mM) (H : Heap) (locs : List Loc) (ls : Array Slot), pX6_addDepot_b49  x1 x2 S = some (.inl r, S') → mW G s (wB M β 316 S) H locs → lv_has ls 3 [(0, .ref (gA G (β + 0))), (1, .int x1), (2, .int x2)] → W p l e { frames := 5, cells := 0, slots := 0, locals := 104 } s m args below meth c H locs 0 0 (mZ below G (some (.int r)) (wB M β 316 S') args s) (F0 m 49 ls []) := by
    intro x1 x2 S H locs ls h hw hl
    unfold pX6_addDepot_b49 at h
    refine lv_iconst (v := (nI 1)) hx hb dX6_addDepot_49 (by decide) ?_
    refine lv_goto (tgt := 54) hx hb dX6_addDepot_50 (by decide) ?_
    exact k54  x1 x2 (nI 1) S _ _ _ h hw (lv_sub hl [0, 1, 2] rfl)
  unfold pX6_addDepot at h
  refine lv_iload_n hx hb dX6_addDepot_0 rfl (lv_at hl 1 rfl) ?_
  refine lv_iconst (v := (nI 0)) hx hb dX6_addDepot_1 (by decide) ?_
  refine lv_aload_n hx hb dX6_addDepot_2 rfl (lv_at hl 0 rfl) ?_
  refine r_get (v := .ref (gA G (β + 3))) hx hb hts hinX6 hown hE hw hn 0 (by decide) (congrFun hR.1 _) rfl 1 (by decide) (hts _ (wz_in qF_X6_19)) rfl dX6_addDepot_3 ?_
  obtain ⟨v6, h6, h⟩ := cr1_some h
  refine r_callV (As := []) (rest := [.int (nI 0), .int a1]) (st1 := [.int v6, .int (nI 0), .int a1]) hx hb hml hown hts hE hw hl (mc_subR 3 17 (by decide) (mX4_length l G (by show β + 3 + 17 ≤ _; omega) hR.2.2.2.1 h6)) (cwV 0 hts (zV gV_X6_87) rfl rfl rfl kdX4_length ⟨Nat.le_of_ble_eq_true rfl, Nat.le_of_ble_eq_true rfl⟩) (by omega) (congrFun hR.2.2.2.1.1 _) rfl rfl rfl rfl (Nat.le_of_ble_eq_true rfl) dX6_addDepot_6 ⟨Nat.zero_le _, Nat.zero_le _⟩ rfl (fun H locs hw => ?_)
  rcases bx_some h with ⟨h9, h⟩ | ⟨E9, h9, h⟩
  · refine r_callS (As := [.int a1, .int (nI 0), .int v6]) (rest := []) (st1 := []) hx hb hml hown hts hE hw hl (mX6_checkRange l G (M := (wB M β 316 S)) h9) (va_cwS 3 hts (zS gS_X6_45) rfl rfl rfl kdX6_checkRange ⟨Nat.le_of_ble_eq_true rfl, Nat.le_of_ble_eq_true rfl⟩) rfl rfl (Nat.le_of_ble_eq_true rfl) dX6_addDepot_9 ⟨Nat.zero_le _, Nat.zero_le _⟩ rfl (fun H locs hw => ?_)
    refine lv_iload_n hx hb dX6_addDepot_12 rfl (lv_at hl 2 rfl) ?_
    refine lv_iconst (v := (nI 0)) hx hb dX6_addDepot_13 (by decide) ?_
    refine lv_sipush (v := (nI 999)) hx hb dX6_addDepot_14 (by decide) ?_
    rcases bx_some h with ⟨h17, h⟩ | ⟨E17, h17, h⟩
    · refine r_callS (As := [.int a2, .int (nI 0), .int (nI 999)]) (rest := []) (st1 := []) hx hb hml hown hts hE hw hl (mX6_checkRange l G (M := (wB M β 316 S)) h17) (va_cwS 3 hts (zS gS_X6_45) rfl rfl rfl kdX6_checkRange ⟨Nat.le_of_ble_eq_true rfl, Nat.le_of_ble_eq_true rfl⟩) rfl rfl (Nat.le_of_ble_eq_true rfl) dX6_addDepot_17 ⟨Nat.zero_le _, Nat.zero_le _⟩ rfl (fun H locs hw => ?_)
      refine lv_aload_n hx hb dX6_addDepot_20 rfl (lv_at hl 0 rfl) ?_
      refine r_get (v := .ref (gA G (β + 3))) hx hb hts hinX6 hown hE hw hn 0 (by decide) (congrFun hR.1 _) rfl 1 (by decide) (hts _ (wz_in qF_X6_19)) rfl dX6_addDepot_21 ?_
      refine r_get (v := .ref (gA G (β + 8))) hx hb hts hinX4 hown hE hw hn 3 (by decide) (congrFun hR.2.2.2.1.1 _) rfl 2 (by decide) (hts _ (wz_in qF_X6_99)) rfl dX6_addDepot_24 ?_
      obtain ⟨v27, h27, h⟩ := cr1_some h
      refine r_callV (As := []) (rest := []) (st1 := [.int v27]) hx hb hml hown hts hE hw hl (mc_subR 8 2 (by decide) (mX5_isFull l G (by show β + 8 + 2 ≤ _; omega) hR.2.2.2.1.2.2.2.1 h27)) (cwV 0 hts (zV gV_X6_149) rfl rfl rfl kdX5_isFull ⟨Nat.le_of_ble_eq_true rfl, Nat.le_of_ble_eq_true rfl⟩) (by omega) (congrFun hR.2.2.2.1.2.2.2.1.1 _) rfl rfl rfl rfl (Nat.le_of_ble_eq_true rfl) dX6_addDepot_27 ⟨Nat.zero_le _, Nat.zero_le _⟩ rfl (fun H locs hw => ?_)
      refine b_ne (tgt := 49) hx hb dX6_addDepot_30 (by decide) h (fun h => ?_) (fun h => ?_)
      · exact k49  a1 a2 S _ _ _ h hw (lv_sub hl [0, 1, 2] rfl)
      · refine lv_aload_n hx hb dX6_addDepot_33 rfl (lv_at hl 0 rfl) ?_
        refine r_get (v := .ref (gA G (β + 3))) hx hb hts hinX6 hown hE hw hn 0 (by decide) (congrFun hR.1 _) rfl 1 (by decide) (hts _ (wz_in qF_X6_19)) rfl dX6_addDepot_34 ?_
        refine r_get (v := .ref (gA G (β + 8))) hx hb hts hinX4 hown hE hw hn 3 (by decide) (congrFun hR.2.2.2.1.1 _) rfl 2 (by decide) (hts _ (wz_in qF_X6_99)) rfl dX6_addDepot_37 ?_
        refine lv_iload_n hx hb dX6_addDepot_40 rfl (lv_at hl 1 rfl) ?_
        obtain ⟨v41, h41, h⟩ := cr1_some h
        refine r_callV (As := [.int a1]) (rest := []) (st1 := [.int v41]) hx hb hml hown hts hE hw hl (mc_subR 8 2 (by decide) (mX5_rowAt l G (by show β + 8 + 2 ≤ _; omega) hR.2.2.2.1.2.2.2.1 h41)) (cwV 1 hts (zV gV_X6_150) rfl rfl rfl kdX5_rowAt ⟨Nat.le_of_ble_eq_true rfl, Nat.le_of_ble_eq_true rfl⟩) (by omega) (congrFun hR.2.2.2.1.2.2.2.1.1 _) rfl rfl rfl rfl (Nat.le_of_ble_eq_true rfl) dX6_addDepot_41 ⟨Nat.zero_le _, Nat.zero_le _⟩ rfl (fun H locs hw => ?_)
        refine lv_bipush (v := (-9)) hx hb dX6_addDepot_44 (by decide) ?_
        refine bi_eq (tgt := 53) hx hb dX6_addDepot_46 (by decide) h (fun h => ?_) (fun h => ?_)
        · refine lv_iconst (v := (nI 0)) hx hb dX6_addDepot_53 (by decide) ?_
          exact k54  a1 a2 (nI 0) S _ _ _ h hw (lv_sub hl [0, 1, 2] rfl)
        · exact k49  a1 a2 S _ _ _ h hw (lv_sub hl [0, 1, 2] rfl)
    · cases h
  · cases h
set_option maxHeartbeats 4000000 in
set_option maxRecDepth 100000 in
theorem xX6_addDepot (l : Launch) (hfl : l.stackTraces = false) (G : mG) {β : Nat} {M S S' : mM} {a1 : Int32} {a2 : Int32} {E : String} (hn : β + 316 ≤ gN G) (hR : isWR G β) (h : pX6_addDepot a1 a2 S = some (.inr E, S')) : MX l G yX6_addDepot zzX6_addDepot 8 124 [.ref (gA G (β + 0)), .int a1, .int a2] (wB M β 316 S) (wB M β 316 S') E := by
  refine mx_of (cc := cX6_addDepot) (maxL := 3) (ret := (some .int)) (by decide) rfl (Nat.le_of_ble_eq_true rfl) ?_
  intro p e s m args below meth c H ls hx hb hr hts hown hml hlocks hout hE hw _ hl
  have hl : lv_has ls 3 [(0, .ref (gA G (β + 0))), (1, .int a1), (2, .int a2)] := hl
  have hinX4 : ∀ w ∈ wsX40, w ∈ zzX6_addDepot := fun w h9 => wz_in (zinX4 w h9)
  have hinX6 : ∀ w ∈ wsX60, w ∈ zzX6_addDepot := fun w h9 => wz_in (zinX6 w h9)
  have k54 : ∀ (x1 : Int32) (x2 : Int32) (t0 : Int32) (S : mM) (H : Heap) (locs : List Loc) (ls : Array Slot), pX6_addDepot_b54  x1 x2 t0 S = some (.inr E, S') → mW G s (wB M β 316 S) H locs → lv_has ls 3 [(0, .ref (gA G (β + 0))), (1, .int x1), (2, .int x2)] → W p l e { frames := 8, cells := 1, slots := 6, locals := 124 } s m args below meth c H locs 0 0 (mY below G E (wB M β 316 S') args s) (F0 m 54 ls [.int t0]) := by
    intro x1 x2 t0 S H locs ls h hw hl
    unfold pX6_addDepot_b54 at h
    rcases bx_some h with ⟨h54, h⟩ | ⟨E54, h54, h⟩
    · refine r_callS (As := [.int t0]) (rest := []) (st1 := []) hx hb hml hown hts hE hw hl (mX6_refuseIf l G (M := (wB M β 316 S)) h54) (va_cwS 1 hts (zS gS_X6_53) rfl rfl rfl kdX6_refuseIf ⟨Nat.le_of_ble_eq_true rfl, Nat.le_of_ble_eq_true rfl⟩) rfl rfl (Nat.le_of_ble_eq_true rfl) dX6_addDepot_54 ⟨Nat.zero_le _, Nat.zero_le _⟩ rfl (fun H locs hw => ?_)
      refine lv_aload_n hx hb dX6_addDepot_57 rfl (lv_at hl 0 rfl) ?_
      refine r_get (v := .ref (gA G (β + 37))) hx hb hts hinX6 hown hE hw hn 0 (by decide) (congrFun hR.1 _) rfl 3 (by decide) (hts _ (wz_in qF_X6_29)) rfl dX6_addDepot_58 ?_
      refine lv_aload_n hx hb dX6_addDepot_61 rfl (lv_at hl 0 rfl) ?_
      refine r_get (v := .ref (gA G (β + 3))) hx hb hts hinX6 hown hE hw hn 0 (by decide) (congrFun hR.1 _) rfl 1 (by decide) (hts _ (wz_in qF_X6_19)) rfl dX6_addDepot_62 ?_
      obtain ⟨S65, h65, h⟩ := cr1_some h
      refine r_callV (As := [.ref (gA G (β + 3))]) (rest := []) (st1 := []) hx hb hml hown hts hE hw hl (mX0_remember l G (by omega) hR h65) (cwV 1 hts (zV gV_X6_153) rfl rfl rfl kdX0_remember ⟨Nat.le_of_ble_eq_true rfl, Nat.le_of_ble_eq_true rfl⟩) (by omega) (congrFun hR.2.2.2.2.2.1 _) rfl rfl rfl rfl (Nat.le_of_ble_eq_true rfl) dX6_addDepot_65 ⟨Nat.zero_le _, Nat.zero_le _⟩ rfl (fun H locs hw => ?_)
      refine lv_aload_n hx hb dX6_addDepot_68 rfl (lv_at hl 0 rfl) ?_
      refine r_get (v := .ref (gA G (β + 3))) hx hb hts hinX6 hown hE hw hn 0 (by decide) (congrFun hR.1 _) rfl 1 (by decide) (hts _ (wz_in qF_X6_19)) rfl dX6_addDepot_69 ?_
      refine lv_iload_n hx hb dX6_addDepot_72 rfl (lv_at hl 1 rfl) ?_
      refine lv_iload_n hx hb dX6_addDepot_73 rfl (lv_at hl 2 rfl) ?_
      obtain ⟨v74, T74, h74, h⟩ := cws_some h
      refine r_callV (As := [.int x1, .int x2]) (rest := []) (st1 := [.int v74]) hx hb hml hown hts hE hw hl (mc_sub 3 17 (by decide) (mX4_newDepot l G (by show β + 3 + 17 ≤ _; omega) hR.2.2.2.1 h74)) (cwV 2 hts (zV gV_X6_163) rfl rfl rfl kdX4_newDepot ⟨Nat.le_of_ble_eq_true rfl, Nat.le_of_ble_eq_true rfl⟩) (by omega) (congrFun hR.2.2.2.1.1 _) rfl rfl rfl rfl (Nat.le_of_ble_eq_true rfl) dX6_addDepot_74 ⟨Nat.zero_le _, Nat.zero_le _⟩ rfl (fun H locs hw => ?_)
      generalize wB S65 3 17 T74 = S74 at h hw
      cases h
    · rw [← (Prod.mk.inj (Option.some.inj h)).2, ← Sum.inr.inj (Prod.mk.inj (Option.some.inj h)).1]
      exact x_callS (As := [.int t0]) (rest := []) hx hb hml hown hts hE hw hl (xX6_refuseIf l hfl G (M := (wB M β 316 S)) h54) (va_cwS 1 hts (zS gS_X6_53) rfl rfl rfl kdX6_refuseIf ⟨Nat.le_of_ble_eq_true rfl, Nat.le_of_ble_eq_true rfl⟩) rfl rfl (Nat.le_of_ble_eq_true rfl) dX6_addDepot_54 ⟨Nat.le_refl _, Nat.le_refl _⟩ hout hlocks
  have k49 : ∀ (x1 : Int32) (x2 : Int32) (S : mM) (H : Heap) (locs : List Loc) (ls : Array Slot), pX6_addDepot_b49  x1 x2 S = some (.inr E, S') → mW G s (wB M β 316 S) H locs → lv_has ls 3 [(0, .ref (gA G (β + 0))), (1, .int x1), (2, .int x2)] → W p l e { frames := 8, cells := 1, slots := 6, locals := 124 } s m args below meth c H locs 0 0 (mY below G E (wB M β 316 S') args s) (F0 m 49 ls []) := by
    intro x1 x2 S H locs ls h hw hl
    unfold pX6_addDepot_b49 at h
    refine lv_iconst (v := (nI 1)) hx hb dX6_addDepot_49 (by decide) ?_
    refine lv_goto (tgt := 54) hx hb dX6_addDepot_50 (by decide) ?_
    exact k54  x1 x2 (nI 1) S _ _ _ h hw (lv_sub hl [0, 1, 2] rfl)
  unfold pX6_addDepot at h
  refine lv_iload_n hx hb dX6_addDepot_0 rfl (lv_at hl 1 rfl) ?_
  refine lv_iconst (v := (nI 0)) hx hb dX6_addDepot_1 (by decide) ?_
  refine lv_aload_n hx hb dX6_addDepot_2 rfl (lv_at hl 0 rfl) ?_
  refine r_get (v := .ref (gA G (β + 3))) hx hb hts hinX6 hown hE hw hn 0 (by decide) (congrFun hR.1 _) rfl 1 (by decide) (hts _ (wz_in qF_X6_19)) rfl dX6_addDepot_3 ?_
  obtain ⟨v6, h6, h⟩ := cr1_some h
  refine r_callV (As := []) (rest := [.int (nI 0), .int a1]) (st1 := [.int v6, .int (nI 0), .int a1]) hx hb hml hown hts hE hw hl (mc_subR 3 17 (by decide) (mX4_length l G (by show β + 3 + 17 ≤ _; omega) hR.2.2.2.1 h6)) (cwV 0 hts (zV gV_X6_87) rfl rfl rfl kdX4_length ⟨Nat.le_of_ble_eq_true rfl, Nat.le_of_ble_eq_true rfl⟩) (by omega) (congrFun hR.2.2.2.1.1 _) rfl rfl rfl rfl (Nat.le_of_ble_eq_true rfl) dX6_addDepot_6 ⟨Nat.zero_le _, Nat.zero_le _⟩ rfl (fun H locs hw => ?_)
  rcases bx_some h with ⟨h9, h⟩ | ⟨E9, h9, h⟩
  · refine r_callS (As := [.int a1, .int (nI 0), .int v6]) (rest := []) (st1 := []) hx hb hml hown hts hE hw hl (mX6_checkRange l G (M := (wB M β 316 S)) h9) (va_cwS 3 hts (zS gS_X6_45) rfl rfl rfl kdX6_checkRange ⟨Nat.le_of_ble_eq_true rfl, Nat.le_of_ble_eq_true rfl⟩) rfl rfl (Nat.le_of_ble_eq_true rfl) dX6_addDepot_9 ⟨Nat.zero_le _, Nat.zero_le _⟩ rfl (fun H locs hw => ?_)
    refine lv_iload_n hx hb dX6_addDepot_12 rfl (lv_at hl 2 rfl) ?_
    refine lv_iconst (v := (nI 0)) hx hb dX6_addDepot_13 (by decide) ?_
    refine lv_sipush (v := (nI 999)) hx hb dX6_addDepot_14 (by decide) ?_
    rcases bx_some h with ⟨h17, h⟩ | ⟨E17, h17, h⟩
    · refine r_callS (As := [.int a2, .int (nI 0), .int (nI 999)]) (rest := []) (st1 := []) hx hb hml hown hts hE hw hl (mX6_checkRange l G (M := (wB M β 316 S)) h17) (va_cwS 3 hts (zS gS_X6_45) rfl rfl rfl kdX6_checkRange ⟨Nat.le_of_ble_eq_true rfl, Nat.le_of_ble_eq_true rfl⟩) rfl rfl (Nat.le_of_ble_eq_true rfl) dX6_addDepot_17 ⟨Nat.zero_le _, Nat.zero_le _⟩ rfl (fun H locs hw => ?_)
      refine lv_aload_n hx hb dX6_addDepot_20 rfl (lv_at hl 0 rfl) ?_
      refine r_get (v := .ref (gA G (β + 3))) hx hb hts hinX6 hown hE hw hn 0 (by decide) (congrFun hR.1 _) rfl 1 (by decide) (hts _ (wz_in qF_X6_19)) rfl dX6_addDepot_21 ?_
      refine r_get (v := .ref (gA G (β + 8))) hx hb hts hinX4 hown hE hw hn 3 (by decide) (congrFun hR.2.2.2.1.1 _) rfl 2 (by decide) (hts _ (wz_in qF_X6_99)) rfl dX6_addDepot_24 ?_
      obtain ⟨v27, h27, h⟩ := cr1_some h
      refine r_callV (As := []) (rest := []) (st1 := [.int v27]) hx hb hml hown hts hE hw hl (mc_subR 8 2 (by decide) (mX5_isFull l G (by show β + 8 + 2 ≤ _; omega) hR.2.2.2.1.2.2.2.1 h27)) (cwV 0 hts (zV gV_X6_149) rfl rfl rfl kdX5_isFull ⟨Nat.le_of_ble_eq_true rfl, Nat.le_of_ble_eq_true rfl⟩) (by omega) (congrFun hR.2.2.2.1.2.2.2.1.1 _) rfl rfl rfl rfl (Nat.le_of_ble_eq_true rfl) dX6_addDepot_27 ⟨Nat.zero_le _, Nat.zero_le _⟩ rfl (fun H locs hw => ?_)
      refine b_ne (tgt := 49) hx hb dX6_addDepot_30 (by decide) h (fun h => ?_) (fun h => ?_)
      · exact k49  a1 a2 S _ _ _ h hw (lv_sub hl [0, 1, 2] rfl)
      · refine lv_aload_n hx hb dX6_addDepot_33 rfl (lv_at hl 0 rfl) ?_
        refine r_get (v := .ref (gA G (β + 3))) hx hb hts hinX6 hown hE hw hn 0 (by decide) (congrFun hR.1 _) rfl 1 (by decide) (hts _ (wz_in qF_X6_19)) rfl dX6_addDepot_34 ?_
        refine r_get (v := .ref (gA G (β + 8))) hx hb hts hinX4 hown hE hw hn 3 (by decide) (congrFun hR.2.2.2.1.1 _) rfl 2 (by decide) (hts _ (wz_in qF_X6_99)) rfl dX6_addDepot_37 ?_
        refine lv_iload_n hx hb dX6_addDepot_40 rfl (lv_at hl 1 rfl) ?_
        obtain ⟨v41, h41, h⟩ := cr1_some h
        refine r_callV (As := [.int a1]) (rest := []) (st1 := [.int v41]) hx hb hml hown hts hE hw hl (mc_subR 8 2 (by decide) (mX5_rowAt l G (by show β + 8 + 2 ≤ _; omega) hR.2.2.2.1.2.2.2.1 h41)) (cwV 1 hts (zV gV_X6_150) rfl rfl rfl kdX5_rowAt ⟨Nat.le_of_ble_eq_true rfl, Nat.le_of_ble_eq_true rfl⟩) (by omega) (congrFun hR.2.2.2.1.2.2.2.1.1 _) rfl rfl rfl rfl (Nat.le_of_ble_eq_true rfl) dX6_addDepot_41 ⟨Nat.zero_le _, Nat.zero_le _⟩ rfl (fun H locs hw => ?_)
        refine lv_bipush (v := (-9)) hx hb dX6_addDepot_44 (by decide) ?_
        refine bi_eq (tgt := 53) hx hb dX6_addDepot_46 (by decide) h (fun h => ?_) (fun h => ?_)
        · refine lv_iconst (v := (nI 0)) hx hb dX6_addDepot_53 (by decide) ?_
          exact k54  a1 a2 (nI 0) S _ _ _ h hw (lv_sub hl [0, 1, 2] rfl)
        · exact k49  a1 a2 S _ _ _ h hw (lv_sub hl [0, 1, 2] rfl)
    · rw [← (Prod.mk.inj (Option.some.inj h)).2, ← Sum.inr.inj (Prod.mk.inj (Option.some.inj h)).1]
      exact x_callS (As := [.int a2, .int (nI 0), .int (nI 999)]) (rest := []) hx hb hml hown hts hE hw hl (xX6_checkRange l hfl G (M := (wB M β 316 S)) h17) (va_cwS 3 hts (zS gS_X6_45) rfl rfl rfl kdX6_checkRange ⟨Nat.le_of_ble_eq_true rfl, Nat.le_of_ble_eq_true rfl⟩) rfl rfl (Nat.le_of_ble_eq_true rfl) dX6_addDepot_17 ⟨Nat.le_refl _, Nat.le_refl _⟩ hout hlocks
  · rw [← (Prod.mk.inj (Option.some.inj h)).2, ← Sum.inr.inj (Prod.mk.inj (Option.some.inj h)).1]
    exact x_callS (As := [.int a1, .int (nI 0), .int v6]) (rest := []) hx hb hml hown hts hE hw hl (xX6_checkRange l hfl G (M := (wB M β 316 S)) h9) (va_cwS 3 hts (zS gS_X6_45) rfl rfl rfl kdX6_checkRange ⟨Nat.le_of_ble_eq_true rfl, Nat.le_of_ble_eq_true rfl⟩) rfl rfl (Nat.le_of_ble_eq_true rfl) dX6_addDepot_9 ⟨Nat.le_refl _, Nat.le_refl _⟩ hout hlocks
