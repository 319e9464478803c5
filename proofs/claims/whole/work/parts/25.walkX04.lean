/-! ===== walks, by program ===== -/
set_option maxHeartbeats 4000000 in
set_option maxRecDepth 100000 in
theorem mX6_restore (l : Launch) (G : mG) {β : Nat} {M S S' : mM} {a1 : Int32} {r : Int32} (hn : β + 316 ≤ gN G) (hR : isWR G β) (h : pX6_restore a1 S = some (.inl r, S')) : MC l G yX6_restore zzX6_restore 4 83 [.ref (gA G (β + 0)), .int a1] (wB M β 316 S) (wB M β 316 S') (some (.int r)) := by
  refine mc_of (cc := cX6_restore) (maxL := 2) (ret := (some .int)) (by decide) rfl (Nat.le_of_ble_eq_true rfl) ?_
  intro p e s m args below meth c H ls hx hb hr hts hown hml hlocks hE hw hl
  have hl : lv_has ls 2 [(0, .ref (gA G (β + 0))), (1, .int a1)] := hl
  have hinX6 : ∀ w ∈ wsX60, w ∈ zzX6_restore := fun w h9 => wz_in (zinX6 w h9)
  have k20 : ∀ (x1 : Int32) (t0 : Int32) (S : mM) (H : Heap) (locs : List Loc) (ls : Array Slot), pX6_restore_b20  x1 t0 S = some (.inl r, S') → mW G s (wB M β 316 S) H locs → lv_has ls 2 [(0, .ref (gA G (β + 0))), (1, .int x1)] → W p l e { frames := 4, cells := 0, slots := 0, locals := 83 } s m args below meth c H locs 0 0 (mZ below G (some (.int r)) (wB M β 316 S') args s) (F0 m 20 ls [.int t0]) := by
    intro x1 t0 S H locs ls h hw hl
    unfold pX6_restore_b20 at h
    rcases bx_some h with ⟨h20, h⟩ | ⟨E20, h20, h⟩
    · refine r_callS (As := [.int t0]) (rest := []) (st1 := []) hx hb hml hown hts hE hw hl (mX6_refuseIf l G (M := (wB M β 316 S)) h20) (va_cwS 1 hts (zS gS_X6_53) rfl rfl rfl kdX6_refuseIf ⟨Nat.le_of_ble_eq_true rfl, Nat.le_of_ble_eq_true rfl⟩) rfl rfl (Nat.le_of_ble_eq_true rfl) dX6_restore_20 ⟨Nat.zero_le _, Nat.zero_le _⟩ rfl (fun H locs hw => ?_)
      refine lv_aload_n hx hb dX6_restore_23 rfl (lv_at hl 0 rfl) ?_
      refine r_get (v := .ref (gA G (β + 279))) hx hb hts hinX6 hown hE hw hn 0 (by decide) (congrFun hR.1 _) rfl 4 (by decide) (hts _ (wz_in qF_X6_38)) rfl dX6_restore_24 ?_
      refine lv_iload_n hx hb dX6_restore_27 rfl (lv_at hl 1 rfl) ?_
      refine lv_aload_n hx hb dX6_restore_28 rfl (lv_at hl 0 rfl) ?_
      refine r_get (v := .ref (gA G (β + 3))) hx hb hts hinX6 hown hE hw hn 0 (by decide) (congrFun hR.1 _) rfl 1 (by decide) (hts _ (wz_in qF_X6_19)) rfl dX6_restore_29 ?_
      obtain ⟨S32, h32, h⟩ := cr1_some h
      refine r_callV (As := [.int x1, .ref (gA G (β + 3))]) (rest := []) (st1 := []) hx hb hml hown hts hE hw hl (mX3_giveBack l G (by omega) hR (by decide) hR.2.2.2.2.2.2.2 h32) (cwV 2 hts (zV gV_X6_228) rfl rfl rfl kdX3_giveBack ⟨Nat.le_of_ble_eq_true rfl, Nat.le_of_ble_eq_true rfl⟩) (by omega) (congrFun hR.2.2.2.2.2.2.2.1 _) rfl rfl rfl rfl (Nat.le_of_ble_eq_true rfl) dX6_restore_32 ⟨Nat.zero_le _, Nat.zero_le _⟩ rfl (fun H locs hw => ?_)
      refine lv_aload_n hx hb dX6_restore_35 rfl (lv_at hl 0 rfl) ?_
      refine r_get (v := .ref (gA G (β + 37))) hx hb hts hinX6 hown hE hw hn 0 (by decide) (congrFun hR.1 _) rfl 3 (by decide) (hts _ (wz_in qF_X6_29)) rfl dX6_restore_36 ?_
      obtain ⟨S39, h39, h⟩ := cr1_some h
      refine r_callV (As := []) (rest := []) (st1 := []) hx hb hml hown hts hE hw hl (mX0_forget l G (by omega) hR h39) (cwV 0 hts (zV gV_X6_73) rfl rfl rfl kdX0_forget ⟨Nat.le_of_ble_eq_true rfl, Nat.le_of_ble_eq_true rfl⟩) (by omega) (congrFun hR.2.2.2.2.2.1 _) rfl rfl rfl rfl (Nat.le_of_ble_eq_true rfl) dX6_restore_39 ⟨Nat.zero_le _, Nat.zero_le _⟩ rfl (fun H locs hw => ?_)
      refine lv_aload_n hx hb dX6_restore_42 rfl (lv_at hl 0 rfl) ?_
      refine r_get (v := .ref (gA G (β + 3))) hx hb hts hinX6 hown hE hw hn 0 (by decide) (congrFun hR.1 _) rfl 1 (by decide) (hts _ (wz_in qF_X6_19)) rfl dX6_restore_43 ?_
      obtain ⟨v46, h46, h⟩ := cr1_some h
      refine r_callV (As := []) (rest := []) (st1 := [.int v46]) hx hb hml hown hts hE hw hl (mc_subR 3 17 (by decide) (mX4_hours l G (by show β + 3 + 17 ≤ _; omega) hR.2.2.2.1 h46)) (cwV 0 hts (zV gV_X6_90) rfl rfl rfl kdX4_hours ⟨Nat.le_of_ble_eq_true rfl, Nat.le_of_ble_eq_true rfl⟩) (by omega) (congrFun hR.2.2.2.1.1 _) rfl rfl rfl rfl (Nat.le_of_ble_eq_true rfl) dX6_restore_46 ⟨Nat.zero_le _, Nat.zero_le _⟩ rfl (fun H locs hw => ?_)
      cases h
      exact r_iret hx hb hr hlocks hw dX6_restore_49
    · cases h
  unfold pX6_restore at h
  refine lv_iload_n hx hb dX6_restore_0 rfl (lv_at hl 1 rfl) ?_
  rcases bx_some h with ⟨h1, h⟩ | ⟨E1, h1, h⟩
  · refine r_callS (As := [.int a1]) (rest := []) (st1 := []) hx hb hml hown hts hE hw hl (mX6_checkSlot l G (M := (wB M β 316 S)) h1) (va_cwS 1 hts (zS gS_X6_218) rfl rfl rfl kdX6_checkSlot ⟨Nat.le_of_ble_eq_true rfl, Nat.le_of_ble_eq_true rfl⟩) rfl rfl (Nat.le_of_ble_eq_true rfl) dX6_restore_1 ⟨Nat.zero_le _, Nat.zero_le _⟩ rfl (fun H locs hw => ?_)
    refine lv_aload_n hx hb dX6_restore_4 rfl (lv_at hl 0 rfl) ?_
    refine r_get (v := .ref (gA G (β + 279))) hx hb hts hinX6 hown hE hw hn 0 (by decide) (congrFun hR.1 _) rfl 4 (by decide) (hts _ (wz_in qF_X6_38)) rfl dX6_restore_5 ?_
    refine lv_iload_n hx hb dX6_restore_8 rfl (lv_at hl 1 rfl) ?_
    obtain ⟨v9, h9, h⟩ := cr1_some h
    refine r_callV (As := [.int a1]) (rest := []) (st1 := [.int v9]) hx hb hml hown hts hE hw hl (mX3_holds l G (by omega) hR (by decide) hR.2.2.2.2.2.2.2 h9) (cwV 1 hts (zV gV_X6_225) rfl rfl rfl kdX3_holds ⟨Nat.le_of_ble_eq_true rfl, Nat.le_of_ble_eq_true rfl⟩) (by omega) (congrFun hR.2.2.2.2.2.2.2.1 _) rfl rfl rfl rfl (Nat.le_of_ble_eq_true rfl) dX6_restore_9 ⟨Nat.zero_le _, Nat.zero_le _⟩ rfl (fun H locs hw => ?_)
    refine b_ne (tgt := 19) hx hb dX6_restore_12 (by decide) h (fun h => ?_) (fun h => ?_)
    · refine lv_iconst (v := (nI 0)) hx hb dX6_restore_19 (by decide) ?_
      exact k20  a1 (nI 0) S _ _ _ h hw (lv_sub hl [0, 1] rfl)
    · refine lv_iconst (v := (nI 1)) hx hb dX6_restore_15 (by decide) ?_
      refine lv_goto (tgt := 20) hx hb dX6_restore_16 (by decide) ?_
      exact k20  a1 (nI 1) S _ _ _ h hw (lv_sub hl [0, 1] rfl)
  · cases h
set_option maxHeartbeats 4000000 in
set_option maxRecDepth 100000 in
theorem xX6_restore (l : Launch) (hfl : l.stackTraces = false) (G : mG) {β : Nat} {M S S' : mM} {a1 : Int32} {E : String} (hn : β + 316 ≤ gN G) (hR : isWR G β) (h : pX6_restore a1 S = some (.inr E, S')) : MX l G yX6_restore zzX6_restore 7 102 [.ref (gA G (β + 0)), .int a1] (wB M β 316 S) (wB M β 316 S') E := by
  refine mx_of (cc := cX6_restore) (maxL := 2) (ret := (some .int)) (by decide) rfl (Nat.le_of_ble_eq_true rfl) ?_
  intro p e s m args below meth c H ls hx hb hr hts hown hml hlocks hout hE hw _ hl
  have hl : lv_has ls 2 [(0, .ref (gA G (β + 0))), (1, .int a1)] := hl
  have hinX6 : ∀ w ∈ wsX60, w ∈ zzX6_restore := fun w h9 => wz_in (zinX6 w h9)
  have k20 : ∀ (x1 : Int32) (t0 : Int32) (S : mM) (H : Heap) (locs : List Loc) (ls : Array Slot), pX6_restore_b20  x1 t0 S = some (.inr E, S') → mW G s (wB M β 316 S) H locs → lv_has ls 2 [(0, .ref (gA G (β + 0))), (1, .int x1)] → W p l e { frames := 7, cells := 1, slots := 6, locals := 102 } s m args below meth c H locs 0 0 (mY below G E (wB M β 316 S') args s) (F0 m 20 ls [.int t0]) := by
    intro x1 t0 S H locs ls h hw hl
    unfold pX6_restore_b20 at h
    rcases bx_some h with ⟨h20, h⟩ | ⟨E20, h20, h⟩
    · refine r_callS (As := [.int t0]) (rest := []) (st1 := []) hx hb hml hown hts hE hw hl (mX6_refuseIf l G (M := (wB M β 316 S)) h20) (va_cwS 1 hts (zS gS_X6_53) rfl rfl rfl kdX6_refuseIf ⟨Nat.le_of_ble_eq_true rfl, Nat.le_of_ble_eq_true rfl⟩) rfl rfl (Nat.le_of_ble_eq_true rfl) dX6_restore_20 ⟨Nat.zero_le _, Nat.zero_le _⟩ rfl (fun H locs hw => ?_)
      refine lv_aload_n hx hb dX6_restore_23 rfl (lv_at hl 0 rfl) ?_
      refine r_get (v := .ref (gA G (β + 279))) hx hb hts hinX6 hown hE hw hn 0 (by decide) (congrFun hR.1 _) rfl 4 (by decide) (hts _ (wz_in qF_X6_38)) rfl dX6_restore_24 ?_
      refine lv_iload_n hx hb dX6_restore_27 rfl (lv_at hl 1 rfl) ?_
      refine lv_aload_n hx hb dX6_restore_28 rfl (lv_at hl 0 rfl) ?_
      refine r_get (v := .ref (gA G (β + 3))) hx hb hts hinX6 hown hE hw hn 0 (by decide) (congrFun hR.1 _) rfl 1 (by decide) (hts _ (wz_in qF_X6_19)) rfl dX6_restore_29 ?_
      obtain ⟨S32, h32, h⟩ := cr1_some h
      refine r_callV (As := [.int x1, .ref (gA G (β + 3))]) (rest := []) (st1 := []) hx hb hml hown hts hE hw hl (mX3_giveBack l G (by omega) hR (by decide) hR.2.2.2.2.2.2.2 h32) (cwV 2 hts (zV gV_X6_228) rfl rfl rfl kdX3_giveBack ⟨Nat.le_of_ble_eq_true rfl, Nat.le_of_ble_eq_true rfl⟩) (by omega) (congrFun hR.2.2.2.2.2.2.2.1 _) rfl rfl rfl rfl (Nat.le_of_ble_eq_true rfl) dX6_restore_32 ⟨Nat.zero_le _, Nat.zero_le _⟩ rfl (fun H locs hw => ?_)
      refine lv_aload_n hx hb dX6_restore_35 rfl (lv_at hl 0 rfl) ?_
      refine r_get (v := .ref (gA G (β + 37))) hx hb hts hinX6 hown hE hw hn 0 (by decide) (congrFun hR.1 _) rfl 3 (by decide) (hts _ (wz_in qF_X6_29)) rfl dX6_restore_36 ?_
      obtain ⟨S39, h39, h⟩ := cr1_some h
      refine r_callV (As := []) (rest := []) (st1 := []) hx hb hml hown hts hE hw hl (mX0_forget l G (by omega) hR h39) (cwV 0 hts (zV gV_X6_73) rfl rfl rfl kdX0_forget ⟨Nat.le_of_ble_eq_true rfl, Nat.le_of_ble_eq_true rfl⟩) (by omega) (congrFun hR.2.2.2.2.2.1 _) rfl rfl rfl rfl (Nat.le_of_ble_eq_true rfl) dX6_restore_39 ⟨Nat.zero_le _, Nat.zero_le _⟩ rfl (fun H locs hw => ?_)
      refine lv_aload_n hx hb dX6_restore_42 rfl (lv_at hl 0 rfl) ?_
      refine r_get (v := .ref (gA G (β + 3))) hx hb hts hinX6 hown hE hw hn 0 (by decide) (congrFun hR.1 _) rfl 1 (by decide) (hts _ (wz_in qF_X6_19)) rfl dX6_restore_43 ?_
      obtain ⟨v46, h46, h⟩ := cr1_some h
      refine r_callV (As := []) (rest := []) (st1 := [.int v46]) hx hb hml hown hts hE hw hl (mc_subR 3 17 (by decide) (mX4_hours l G (by show β + 3 + 17 ≤ _; omega) hR.2.2.2.1 h46)) (cwV 0 hts (zV gV_X6_90) rfl rfl rfl kdX4_hours ⟨Nat.le_of_ble_eq_true rfl, Nat.le_of_ble_eq_true rfl⟩) (by omega) (congrFun hR.2.2.2.1.1 _) rfl rfl rfl rfl (Nat.le_of_ble_eq_true rfl) dX6_restore_46 ⟨Nat.zero_le _, Nat.zero_le _⟩ rfl (fun H locs hw => ?_)
      cases h
    · rw [← (Prod.mk.inj (Option.some.inj h)).2, ← Sum.inr.inj (Prod.mk.inj (Option.some.inj h)).1]
      exact x_callS (As := [.int t0]) (rest := []) hx hb hml hown hts hE hw hl (xX6_refuseIf l hfl G (M := (wB M β 316 S)) h20) (va_cwS 1 hts (zS gS_X6_53) rfl rfl rfl kdX6_refuseIf ⟨Nat.le_of_ble_eq_true rfl, Nat.le_of_ble_eq_true rfl⟩) rfl rfl (Nat.le_of_ble_eq_true rfl) dX6_restore_20 ⟨Nat.le_refl _, Nat.le_refl _⟩ hout hlocks
  unfold pX6_restore at h
  refine lv_iload_n hx hb dX6_restore_0 rfl (lv_at hl 1 rfl) ?_
  rcases bx_some h with ⟨h1, h⟩ | ⟨E1, h1, h⟩
  · refine r_callS (As := [.int a1]) (rest := []) (st1 := []) hx hb hml hown hts hE hw hl (mX6_checkSlot l G (M := (wB M β 316 S)) h1) (va_cwS 1 hts (zS gS_X6_218) rfl rfl rfl kdX6_checkSlot ⟨Nat.le_of_ble_eq_true rfl, Nat.le_of_ble_eq_true rfl⟩) rfl rfl (Nat.le_of_ble_eq_true rfl) dX6_restore_1 ⟨Nat.zero_le _, Nat.zero_le _⟩ rfl (fun H locs hw => ?_)
    refine lv_aload_n hx hb dX6_restore_4 rfl (lv_at hl 0 rfl) ?_
    refine r_get (v := .ref (gA G (β + 279))) hx hb hts hinX6 hown hE hw hn 0 (by decide) (congrFun hR.1 _) rfl 4 (by decide) (hts _ (wz_in qF_X6_38)) rfl dX6_restore_5 ?_
    refine lv_iload_n hx hb dX6_restore_8 rfl (lv_at hl 1 rfl) ?_
    obtain ⟨v9, h9, h⟩ := cr1_some h
    refine r_callV (As := [.int a1]) (rest := []) (st1 := [.int v9]) hx hb hml hown hts hE hw hl (mX3_holds l G (by omega) hR (by decide) hR.2.2.2.2.2.2.2 h9) (cwV 1 hts (zV gV_X6_225) rfl rfl rfl kdX3_holds ⟨Nat.le_of_ble_eq_true rfl, Nat.le_of_ble_eq_true rfl⟩) (by omega) (congrFun hR.2.2.2.2.2.2.2.1 _) rfl rfl rfl rfl (Nat.le_of_ble_eq_true rfl) dX6_restore_9 ⟨Nat.zero_le _, Nat.zero_le _⟩ rfl (fun H locs hw => ?_)
    refine b_ne (tgt := 19) hx hb dX6_restore_12 (by decide) h (fun h => ?_) (fun h => ?_)
    · refine lv_iconst (v := (nI 0)) hx hb dX6_restore_19 (by decide) ?_
      exact k20  a1 (nI 0) S _ _ _ h hw (lv_sub hl [0, 1] rfl)
    · refine lv_iconst (v := (nI 1)) hx hb dX6_restore_15 (by decide) ?_
      refine lv_goto (tgt := 20) hx hb dX6_restore_16 (by decide) ?_
      exact k20  a1 (nI 1) S _ _ _ h hw (lv_sub hl [0, 1] rfl)
  · rw [← (Prod.mk.inj (Option.some.inj h)).2, ← Sum.inr.inj (Prod.mk.inj (Option.some.inj h)).1]
    exact x_callS (As := [.int a1]) (rest := []) hx hb hml hown hts hE hw hl (xX6_checkSlot l hfl G (M := (wB M β 316 S)) h1) (va_cwS 1 hts (zS gS_X6_218) rfl rfl rfl kdX6_checkSlot ⟨Nat.le_of_ble_eq_true rfl, Nat.le_of_ble_eq_true rfl⟩) rfl rfl (Nat.le_of_ble_eq_true rfl) dX6_restore_1 ⟨Nat.le_refl _, Nat.le_refl _⟩ hout hlocks
