/-! ===== walks, by program ===== -/
set_option maxHeartbeats 4000000 in
set_option maxRecDepth 100000 in
theorem mX6_groupOf (l : Launch) (G : mG) {M : mM} {a1 : Int64} {a2 : Int32} {r : Int32} (h : pX6_groupOf a1 a2 = some r) : MC l G yX6_groupOf zzX6_groupOf 0 0 [.long a1, .int a2] M M (some (.int r)) := by
  refine mc_of (cc := cX6_groupOf) (maxL := 6) (ret := (some .int)) (by decide) rfl (Nat.le_of_ble_eq_true rfl) ?_
  intro p e s m args below meth c H ls hx hb hr hts hown hml hlocks hE hw hl
  have hl : lv_has ls 6 [(0, .long a1), (2, .int a2)] := hl
  have k5 : ∀ (k : Nat), ∀ (x2 : Int32) (x3 : Int64) (x5 : Int32) (H : Heap) (locs : List Loc) (ls : Array Slot), pX6_groupOf_l5  k x2 x3 x5 = some r → mW G s M H locs → lv_has ls 6 [(2, .int x2), (3, .long x3), (5, .int x5)] → W p l e { frames := 0, cells := 0, slots := 0, locals := 0 } s m args below meth c H locs 0 0 (mZ below G (some (.int r)) M args s) (F0 m 5 ls []) := by
    intro k
    induction k with
    | zero => intro x2 x3 x5 H locs ls h; cases h
    | succ k hih5 =>
      intro x2 x3 x5 H locs ls h hw hl
      obtain ⟨ih5, hk5⟩ : ∃ f, f = pX6_groupOf_l5  k := ⟨_, rfl⟩
      replace h : pX6_groupOf_lb5  (pX6_groupOf_l5  k) x2 x3 x5 = some r := h
      rw [← hk5] at h hih5
      clear hk5
      unfold pX6_groupOf_lb5 at h
      refine lv_iload hx hb dX6_groupOf_5 (lv_at hl 2 rfl) ?_
      refine lv_iload_n hx hb dX6_groupOf_7 rfl (lv_at hl 0 rfl) ?_
      refine bi_ge (tgt := 23) hx hb dX6_groupOf_8 (by decide) h (fun h => ?_) (fun h => ?_)
      · refine lv_lload_n hx hb dX6_groupOf_23 rfl (lv_at hl 1 rfl) ?_
        refine lv_ldc2 (v := (lN 100000)) hx hb hown (hts _ (wz_in qK_X6_199)) dX6_groupOf_24 ?_
        refine lv_lrem hx hb dX6_groupOf_27 (by decide) ?_
        refine lv_l2i hx hb dX6_groupOf_28 rfl ?_
        exact e_i hx hb hr hlocks hw dX6_groupOf_29 h
      · refine lv_lload_n hx hb dX6_groupOf_11 rfl (lv_at hl 1 rfl) ?_
        refine lv_ldc2 (v := (lN 100000)) hx hb hown (hts _ (wz_in qK_X6_199)) dX6_groupOf_12 ?_
        refine lv_ldiv hx hb dX6_groupOf_15 (by decide) ?_
        refine p_topl h (fun v16 h => ?_)
        refine lv_lstore_n (lv' := [(3, .long v16), (2, .int x2), (5, .int x5)]) hx hb dX6_groupOf_16 rfl hl (by decide) rfl (fun ls hl => ?_)
        refine p_iinc (w := (nI 1)) 2 (fun v17 => [(5, .int v17), (3, .long v16), (2, .int x2)]) hx hb dX6_groupOf_17 hl rfl (by decide) (by decide) h (fun _ => rfl) (fun v17 h ls hl => ?_)
        refine lv_goto (tgt := 5) hx hb dX6_groupOf_20 (by decide) ?_
        exact hih5 x2 v16 v17 _ _ _ h hw (lv_sub hl [2, 1, 0] rfl)
  unfold pX6_groupOf at h
  refine lv_lload_n hx hb dX6_groupOf_0 rfl (lv_at hl 0 rfl) ?_
  refine lv_lstore_n (lv' := [(3, .long a1), (0, .long a1), (2, .int a2)]) hx hb dX6_groupOf_1 rfl hl (by decide) rfl (fun ls hl => ?_)
  refine lv_iconst (v := (nI 0)) hx hb dX6_groupOf_2 (by decide) ?_
  refine lv_istore (lv' := [(5, .int (nI 0)), (3, .long a1), (0, .long a1), (2, .int a2)]) hx hb dX6_groupOf_3 hl (by decide) rfl (fun ls hl => ?_)
  exact k5 fuel a2 a1 (nI 0) _ _ _ h hw (lv_sub hl [3, 1, 0] rfl)

set_option maxHeartbeats 4000000 in
set_option maxRecDepth 100000 in
theorem mX6_refuseArgumentIf (l : Launch) (G : mG) {M : mM} {a1 : Int32} (h : pX6_refuseArgumentIf a1 = some none) : MC l G yX6_refuseArgumentIf zzX6_refuseArgumentIf 0 0 [.int a1] M M none := by
  refine mc_of (cc := cX6_refuseArgumentIf) (maxL := 1) (ret := none) (by decide) rfl (Nat.le_of_ble_eq_true rfl) ?_
  intro p e s m args below meth c H ls hx hb hr hts hown hml hlocks hE hw hl
  have hl : lv_has ls 1 [(0, .int a1)] := hl
  unfold pX6_refuseArgumentIf at h
  refine lv_iload_n hx hb dX6_refuseArgumentIf_0 rfl (lv_at hl 0 rfl) ?_
  refine b_eq (tgt := 14) hx hb dX6_refuseArgumentIf_1 (by decide) h (fun h => ?_) (fun h => ?_)
  · cases h
    exact r_vret hx hb hr hlocks hw dX6_refuseArgumentIf_14
  · cases h
set_option maxHeartbeats 4000000 in
set_option maxRecDepth 100000 in
theorem xX6_refuseArgumentIf (l : Launch) (hfl : l.stackTraces = false) (G : mG) {M : mM} {a1 : Int32} {E : String} (h : pX6_refuseArgumentIf a1 = some (some E)) : MX l G yX6_refuseArgumentIf zzX6_refuseArgumentIf 6 82 [.int a1] M M E := by
  refine mx_of (cc := cX6_refuseArgumentIf) (maxL := 1) (ret := none) (by decide) rfl (Nat.le_of_ble_eq_true rfl) ?_
  intro p e s m args below meth c H ls hx hb hr hts hown hml hlocks hout hE hw _ hl
  have hl : lv_has ls 1 [(0, .int a1)] := hl
  unfold pX6_refuseArgumentIf at h
  refine lv_iload_n hx hb dX6_refuseArgumentIf_0 rfl (lv_at hl 0 rfl) ?_
  refine b_eq (tgt := 14) hx hb dX6_refuseArgumentIf_1 (by decide) h (fun h => ?_) (fun h => ?_)
  · cases h
  · cases h
    exact x_throw (B := exB "java/lang/IllegalArgumentException") (names := ["java/lang/RuntimeException", "java/lang/Exception"]) hx hb hfl hml hl hown (by decide +kernel) (by decide +kernel) (hts _ (wz_in qL_X6_247)) (hts _ (wz_in qN_java_lang_IllegalArgumentException)) hE.2.2.2.2.1.2.2.1 (fun w hw9 => hts w (wz_in (ex251_g w hw9))) ex251_b (vx_c (va_Nw.use rfl hE.2.2.2.2.2.2.2.1) (vx_c (va_Nw.use rfl hE.2.2.2.2.2.2.2.2.2.1) (vx_c (va_Nw.use rfl hE.2.2.2.2.2.2.2.2.2.2.1) (vx_c (va_Nw.use rfl hE.2.2.2.2.2.2.2.2.2.2.2) vx_n)))) ex251_o hE hw dX6_refuseArgumentIf_4 dX6_refuseArgumentIf_7 dX6_refuseArgumentIf_8 dX6_refuseArgumentIf_10 dX6_refuseArgumentIf_13 hout (Nat.le_of_ble_eq_true rfl) (Nat.le_of_ble_eq_true rfl) (Nat.le_refl _) (Nat.le_refl _) hlocks

set_option maxHeartbeats 4000000 in
set_option maxRecDepth 100000 in
theorem mX6_checkRange (l : Launch) (G : mG) {M : mM} {a1 : Int32} {a2 : Int32} {a3 : Int32} (h : pX6_checkRange a1 a2 a3 = some none) : MC l G yX6_checkRange zzX6_checkRange 1 22 [.int a1, .int a2, .int a3] M M none := by
  refine mc_of (cc := cX6_checkRange) (maxL := 3) (ret := none) (by decide) rfl (Nat.le_of_ble_eq_true rfl) ?_
  intro p e s m args below meth c H ls hx hb hr hts hown hml hlocks hE hw hl
  have hl : lv_has ls 3 [(0, .int a1), (1, .int a2), (2, .int a3)] := hl
  have k14 : ∀ (t0 : Int32) (H : Heap) (locs : List Loc) (ls : Array Slot), pX6_checkRange_b14  t0 = some none → mW G s M H locs → lv_has ls 3 [] → W p l e { frames := 1, cells := 0, slots := 0, locals := 22 } s m args below meth c H locs 0 0 (mZ below G none M args s) (F0 m 14 ls [.int t0]) := by
    intro t0 H locs ls h hw hl
    unfold pX6_checkRange_b14 at h
    rcases bx_some h with ⟨h14, h⟩ | ⟨E14, h14, h⟩
    · refine r_callS (As := [.int t0]) (rest := []) (st1 := []) hx hb hml hown hts hE hw hl (mX6_refuseArgumentIf l G (M := M) h14) (va_cwS 1 hts (zS gS_X6_139) rfl rfl rfl kdX6_refuseArgumentIf ⟨Nat.le_of_ble_eq_true rfl, Nat.le_of_ble_eq_true rfl⟩) rfl rfl (Nat.le_of_ble_eq_true rfl) dX6_checkRange_14 ⟨Nat.zero_le _, Nat.zero_le _⟩ rfl (fun H locs hw => ?_)
      cases h
      exact r_vret hx hb hr hlocks hw dX6_checkRange_17
    · cases h
  unfold pX6_checkRange at h
  refine lv_iload_n hx hb dX6_checkRange_0 rfl (lv_at hl 0 rfl) ?_
  refine lv_iload_n hx hb dX6_checkRange_1 rfl (lv_at hl 1 rfl) ?_
  refine lv_iload_n hx hb dX6_checkRange_2 rfl (lv_at hl 2 rfl) ?_
  obtain ⟨v3, h3, h⟩ := cr1_some h
  refine r_callS (As := [.int a1, .int a2, .int a3]) (rest := []) (st1 := [.int v3]) hx hb hml hown hts hE hw hl (mX6_isWithin l G (M := M) h3) (va_cwS 3 hts (zS gS_X6_241) rfl rfl rfl kdX6_isWithin ⟨Nat.le_of_ble_eq_true rfl, Nat.le_of_ble_eq_true rfl⟩) rfl rfl (Nat.le_of_ble_eq_true rfl) dX6_checkRange_3 ⟨Nat.zero_le _, Nat.zero_le _⟩ rfl (fun H locs hw => ?_)
  refine b_ne (tgt := 13) hx hb dX6_checkRange_6 (by decide) h (fun h => ?_) (fun h => ?_)
  · refine lv_iconst (v := (nI 0)) hx hb dX6_checkRange_13 (by decide) ?_
    exact k14  (nI 0) _ _ _ h hw (lv_sub hl [] rfl)
  · refine lv_iconst (v := (nI 1)) hx hb dX6_checkRange_9 (by decide) ?_
    refine lv_goto (tgt := 14) hx hb dX6_checkRange_10 (by decide) ?_
    exact k14  (nI 1) _ _ _ h hw (lv_sub hl [] rfl)
set_option maxHeartbeats 4000000 in
set_option maxRecDepth 100000 in
theorem xX6_checkRange (l : Launch) (hfl : l.stackTraces = false) (G : mG) {M : mM} {a1 : Int32} {a2 : Int32} {a3 : Int32} {E : String} (h : pX6_checkRange a1 a2 a3 = some (some E)) : MX l G yX6_checkRange zzX6_checkRange 7 102 [.int a1, .int a2, .int a3] M M E := by
  refine mx_of (cc := cX6_checkRange) (maxL := 3) (ret := none) (by decide) rfl (Nat.le_of_ble_eq_true rfl) ?_
  intro p e s m args below meth c H ls hx hb hr hts hown hml hlocks hout hE hw _ hl
  have hl : lv_has ls 3 [(0, .int a1), (1, .int a2), (2, .int a3)] := hl
  have k14 : ∀ (t0 : Int32) (H : Heap) (locs : List Loc) (ls : Array Slot), pX6_checkRange_b14  t0 = some (some E) → mW G s M H locs → lv_has ls 3 [] → W p l e { frames := 7, cells := 1, slots := 6, locals := 102 } s m args below meth c H locs 0 0 (mY below G E M args s) (F0 m 14 ls [.int t0]) := by
    intro t0 H locs ls h hw hl
    unfold pX6_checkRange_b14 at h
    rcases bx_some h with ⟨h14, h⟩ | ⟨E14, h14, h⟩
    · refine r_callS (As := [.int t0]) (rest := []) (st1 := []) hx hb hml hown hts hE hw hl (mX6_refuseArgumentIf l G (M := M) h14) (va_cwS 1 hts (zS gS_X6_139) rfl rfl rfl kdX6_refuseArgumentIf ⟨Nat.le_of_ble_eq_true rfl, Nat.le_of_ble_eq_true rfl⟩) rfl rfl (Nat.le_of_ble_eq_true rfl) dX6_checkRange_14 ⟨Nat.zero_le _, Nat.zero_le _⟩ rfl (fun H locs hw => ?_)
      cases h
    · rw [← Option.some.inj (Option.some.inj h)]
      exact x_callS (As := [.int t0]) (rest := []) hx hb hml hown hts hE hw hl (xX6_refuseArgumentIf l hfl G (M := M) h14) (va_cwS 1 hts (zS gS_X6_139) rfl rfl rfl kdX6_refuseArgumentIf ⟨Nat.le_of_ble_eq_true rfl, Nat.le_of_ble_eq_true rfl⟩) rfl rfl (Nat.le_of_ble_eq_true rfl) dX6_checkRange_14 ⟨Nat.le_refl _, Nat.le_refl _⟩ hout hlocks
  unfold pX6_checkRange at h
  refine lv_iload_n hx hb dX6_checkRange_0 rfl (lv_at hl 0 rfl) ?_
  refine lv_iload_n hx hb dX6_checkRange_1 rfl (lv_at hl 1 rfl) ?_
  refine lv_iload_n hx hb dX6_checkRange_2 rfl (lv_at hl 2 rfl) ?_
  obtain ⟨v3, h3, h⟩ := cr1_some h
  refine r_callS (As := [.int a1, .int a2, .int a3]) (rest := []) (st1 := [.int v3]) hx hb hml hown hts hE hw hl (mX6_isWithin l G (M := M) h3) (va_cwS 3 hts (zS gS_X6_241) rfl rfl rfl kdX6_isWithin ⟨Nat.le_of_ble_eq_true rfl, Nat.le_of_ble_eq_true rfl⟩) rfl rfl (Nat.le_of_ble_eq_true rfl) dX6_checkRange_3 ⟨Nat.zero_le _, Nat.zero_le _⟩ rfl (fun H locs hw => ?_)
  refine b_ne (tgt := 13) hx hb dX6_checkRange_6 (by decide) h (fun h => ?_) (fun h => ?_)
  · refine lv_iconst (v := (nI 0)) hx hb dX6_checkRange_13 (by decide) ?_
    exact k14  (nI 0) _ _ _ h hw (lv_sub hl [] rfl)
  · refine lv_iconst (v := (nI 1)) hx hb dX6_checkRange_9 (by decide) ?_
    refine lv_goto (tgt := 14) hx hb dX6_checkRange_10 (by decide) ?_
    exact k14  (nI 1) _ _ _ h hw (lv_sub hl [] rfl)

set_option maxHeartbeats 4000000 in
set_option maxRecDepth 100000 in
theorem mX6_refuseIf (l : Launch) (G : mG) {M : mM} {a1 : Int32} (h : pX6_refuseIf a1 = some none) : MC l G yX6_refuseIf zzX6_refuseIf 0 0 [.int a1] M M none := by
  refine mc_of (cc := cX6_refuseIf) (maxL := 1) (ret := none) (by decide) rfl (Nat.le_of_ble_eq_true rfl) ?_
  intro p e s m args below meth c H ls hx hb hr hts hown hml hlocks hE hw hl
  have hl : lv_has ls 1 [(0, .int a1)] := hl
  unfold pX6_refuseIf at h
  refine lv_iload_n hx hb dX6_refuseIf_0 rfl (lv_at hl 0 rfl) ?_
  refine b_eq (tgt := 14) hx hb dX6_refuseIf_1 (by decide) h (fun h => ?_) (fun h => ?_)
  · cases h
    exact r_vret hx hb hr hlocks hw dX6_refuseIf_14
  · cases h
set_option maxHeartbeats 4000000 in
set_option maxRecDepth 100000 in
theorem xX6_refuseIf (l : Launch) (hfl : l.stackTraces = false) (G : mG) {M : mM} {a1 : Int32} {E : String} (h : pX6_refuseIf a1 = some (some E)) : MX l G yX6_refuseIf zzX6_refuseIf 6 82 [.int a1] M M E := by
  refine mx_of (cc := cX6_refuseIf) (maxL := 1) (ret := none) (by decide) rfl (Nat.le_of_ble_eq_true rfl) ?_
  intro p e s m args below meth c H ls hx hb hr hts hown hml hlocks hout hE hw _ hl
  have hl : lv_has ls 1 [(0, .int a1)] := hl
  unfold pX6_refuseIf at h
  refine lv_iload_n hx hb dX6_refuseIf_0 rfl (lv_at hl 0 rfl) ?_
  refine b_eq (tgt := 14) hx hb dX6_refuseIf_1 (by decide) h (fun h => ?_) (fun h => ?_)
  · cases h
  · cases h
    exact x_throw (B := exB "java/lang/IllegalStateException") (names := ["java/lang/RuntimeException", "java/lang/Exception"]) hx hb hfl hml hl hown (by decide +kernel) (by decide +kernel) (hts _ (wz_in qL_X6_252)) (hts _ (wz_in qN_java_lang_IllegalStateException)) hE.2.2.2.2.1.2.2.2 (fun w hw9 => hts w (wz_in (ex256_g w hw9))) ex256_b (vx_c (va_Nw.use rfl hE.2.2.2.2.2.2.2.2.1) (vx_c (va_Nw.use rfl hE.2.2.2.2.2.2.2.2.2.1) (vx_c (va_Nw.use rfl hE.2.2.2.2.2.2.2.2.2.2.1) (vx_c (va_Nw.use rfl hE.2.2.2.2.2.2.2.2.2.2.2) vx_n)))) ex256_o hE hw dX6_refuseIf_4 dX6_refuseIf_7 dX6_refuseIf_8 dX6_refuseIf_10 dX6_refuseIf_13 hout (Nat.le_of_ble_eq_true rfl) (Nat.le_of_ble_eq_true rfl) (Nat.le_refl _) (Nat.le_refl _) hlocks

set_option maxHeartbeats 4000000 in
set_option maxRecDepth 100000 in
theorem mX6_append (l : Launch) (G : mG) {β : Nat} {M S S' : mM} {a1 : Int32} {r : Int32} (hn : β + 316 ≤ gN G) (hR : isWR G β) (h : pX6_append a1 S = some (.inl r, S')) : MC l G yX6_append zzX6_append 2 44 [.ref (gA G (β + 0)), .int a1] (wB M β 316 S) (wB M β 316 S') (some (.int r)) := by
  refine mc_of (cc := cX6_append) (maxL := 2) (ret := (some .int)) (by decide) rfl (Nat.le_of_ble_eq_true rfl) ?_
  intro p e s m args below meth c H ls hx hb hr hts hown hml hlocks hE hw hl
  have hl : lv_has ls 2 [(0, .ref (gA G (β + 0))), (1, .int a1)] := hl
  have hinX6 : ∀ w ∈ wsX60, w ∈ zzX6_append := fun w h9 => wz_in (zinX6 w h9)
  unfold pX6_append at h
  refine lv_iload_n hx hb dX6_append_0 rfl (lv_at hl 1 rfl) ?_
  refine lv_iconst (v := (nI 0)) hx hb dX6_append_1 (by decide) ?_
  refine lv_sipush (v := (nI 255)) hx hb dX6_append_2 (by decide) ?_
  rcases bx_some h with ⟨h5, h⟩ | ⟨E5, h5, h⟩
  · refine r_callS (As := [.int a1, .int (nI 0), .int (nI 255)]) (rest := []) (st1 := []) hx hb hml hown hts hE hw hl (mX6_checkRange l G (M := (wB M β 316 S)) h5) (va_cwS 3 hts (zS gS_X6_45) rfl rfl rfl kdX6_checkRange ⟨Nat.le_of_ble_eq_true rfl, Nat.le_of_ble_eq_true rfl⟩) rfl rfl (Nat.le_of_ble_eq_true rfl) dX6_append_5 ⟨Nat.zero_le _, Nat.zero_le _⟩ rfl (fun H locs hw => ?_)
    refine lv_aload_n hx hb dX6_append_8 rfl (lv_at hl 0 rfl) ?_
    refine r_get (v := .ref (gA G (β + 1))) hx hb hts hinX6 hown hE hw hn 0 (by decide) (congrFun hR.1 _) rfl 0 (by decide) (hts _ (wz_in qF_X6_10)) rfl dX6_append_9 ?_
    obtain ⟨v12, h12, h⟩ := cr1_some h
    refine r_callV (As := []) (rest := []) (st1 := [.int v12]) hx hb hml hown hts hE hw hl (mX1_isFull l G (by omega) hR h12) (cwV 0 hts (zV gV_X6_49) rfl rfl rfl kdX1_isFull ⟨Nat.le_of_ble_eq_true rfl, Nat.le_of_ble_eq_true rfl⟩) (by omega) (congrFun hR.2.1 _) rfl rfl rfl rfl (Nat.le_of_ble_eq_true rfl) dX6_append_12 ⟨Nat.zero_le _, Nat.zero_le _⟩ rfl (fun H locs hw => ?_)
    rcases bx_some h with ⟨h15, h⟩ | ⟨E15, h15, h⟩
    · refine r_callS (As := [.int v12]) (rest := []) (st1 := []) hx hb hml hown hts hE hw hl (mX6_refuseIf l G (M := (wB M β 316 S)) h15) (va_cwS 1 hts (zS gS_X6_53) rfl rfl rfl kdX6_refuseIf ⟨Nat.le_of_ble_eq_true rfl, Nat.le_of_ble_eq_true rfl⟩) rfl rfl (Nat.le_of_ble_eq_true rfl) dX6_append_15 ⟨Nat.zero_le _, Nat.zero_le _⟩ rfl (fun H locs hw => ?_)
      refine lv_aload_n hx hb dX6_append_18 rfl (lv_at hl 0 rfl) ?_
      refine r_get (v := .ref (gA G (β + 1))) hx hb hts hinX6 hown hE hw hn 0 (by decide) (congrFun hR.1 _) rfl 0 (by decide) (hts _ (wz_in qF_X6_10)) rfl dX6_append_19 ?_
      refine lv_iload_n hx hb dX6_append_22 rfl (lv_at hl 1 rfl) ?_
      refine lv_i2c hx hb dX6_append_23 rfl ?_
      obtain ⟨v24, S24, h24, h⟩ := cw2_some h
      refine r_callV (As := [.int ((a1.toUInt32 % 65536).toInt32)]) (rest := []) (st1 := [.int v24]) hx hb hml hown hts hE hw hl (mX1_addSign l G (by omega) hR h24) (cwV 1 hts (zV gV_X6_57) rfl rfl rfl kdX1_addSign ⟨Nat.le_of_ble_eq_true rfl, Nat.le_of_ble_eq_true rfl⟩) (by omega) (congrFun hR.2.1 _) rfl rfl rfl rfl (Nat.le_of_ble_eq_true rfl) dX6_append_24 ⟨Nat.zero_le _, Nat.zero_le _⟩ rfl (fun H locs hw => ?_)
      cases h
      exact r_iret hx hb hr hlocks hw dX6_append_27
    · cases h
  · cases h
set_option maxHeartbeats 4000000 in
set_option maxRecDepth 100000 in
theorem xX6_append (l : Launch) (hfl : l.stackTraces = false) (G : mG) {β : Nat} {M S S' : mM} {a1 : Int32} {E : String} (hn : β + 316 ≤ gN G) (hR : isWR G β) (h : pX6_append a1 S = some (.inr E, S')) : MX l G yX6_append zzX6_append 8 124 [.ref (gA G (β + 0)), .int a1] (wB M β 316 S) (wB M β 316 S') E := by
  refine mx_of (cc := cX6_append) (maxL := 2) (ret := (some .int)) (by decide) rfl (Nat.le_of_ble_eq_true rfl) ?_
  intro p e s m args below meth c H ls hx hb hr hts hown hml hlocks hout hE hw _ hl
  have hl : lv_has ls 2 [(0, .ref (gA G (β + 0))), (1, .int a1)] := hl
  have hinX6 : ∀ w ∈ wsX60, w ∈ zzX6_append := fun w h9 => wz_in (zinX6 w h9)
  unfold pX6_append at h
  refine lv_iload_n hx hb dX6_append_0 rfl (lv_at hl 1 rfl) ?_
  refine lv_iconst (v := (nI 0)) hx hb dX6_append_1 (by decide) ?_
  refine lv_sipush (v := (nI 255)) hx hb dX6_append_2 (by decide) ?_
  rcases bx_some h with ⟨h5, h⟩ | ⟨E5, h5, h⟩
  · refine r_callS (As := [.int a1, .int (nI 0), .int (nI 255)]) (rest := []) (st1 := []) hx hb hml hown hts hE hw hl (mX6_checkRange l G (M := (wB M β 316 S)) h5) (va_cwS 3 hts (zS gS_X6_45) rfl rfl rfl kdX6_checkRange ⟨Nat.le_of_ble_eq_true rfl, Nat.le_of_ble_eq_true rfl⟩) rfl rfl (Nat.le_of_ble_eq_true rfl) dX6_append_5 ⟨Nat.zero_le _, Nat.zero_le _⟩ rfl (fun H locs hw => ?_)
    refine lv_aload_n hx hb dX6_append_8 rfl (lv_at hl 0 rfl) ?_
    refine r_get (v := .ref (gA G (β + 1))) hx hb hts hinX6 hown hE hw hn 0 (by decide) (congrFun hR.1 _) rfl 0 (by decide) (hts _ (wz_in qF_X6_10)) rfl dX6_append_9 ?_
    obtain ⟨v12, h12, h⟩ := cr1_some h
    refine r_callV (As := []) (rest := []) (st1 := [.int v12]) hx hb hml hown hts hE hw hl (mX1_isFull l G (by omega) hR h12) (cwV 0 hts (zV gV_X6_49) rfl rfl rfl kdX1_isFull ⟨Nat.le_of_ble_eq_true rfl, Nat.le_of_ble_eq_true rfl⟩) (by omega) (congrFun hR.2.1 _) rfl rfl rfl rfl (Nat.le_of_ble_eq_true rfl) dX6_append_12 ⟨Nat.zero_le _, Nat.zero_le _⟩ rfl (fun H locs hw => ?_)
    rcases bx_some h with ⟨h15, h⟩ | ⟨E15, h15, h⟩
    · refine r_callS (As := [.int v12]) (rest := []) (st1 := []) hx hb hml hown hts hE hw hl (mX6_refuseIf l G (M := (wB M β 316 S)) h15) (va_cwS 1 hts (zS gS_X6_53) rfl rfl rfl kdX6_refuseIf ⟨Nat.le_of_ble_eq_true rfl, Nat.le_of_ble_eq_true rfl⟩) rfl rfl (Nat.le_of_ble_eq_true rfl) dX6_append_15 ⟨Nat.zero_le _, Nat.zero_le _⟩ rfl (fun H locs hw => ?_)
      refine lv_aload_n hx hb dX6_append_18 rfl (lv_at hl 0 rfl) ?_
      refine r_get (v := .ref (gA G (β + 1))) hx hb hts hinX6 hown hE hw hn 0 (by decide) (congrFun hR.1 _) rfl 0 (by decide) (hts _ (wz_in qF_X6_10)) rfl dX6_append_19 ?_
      refine lv_iload_n hx hb dX6_append_22 rfl (lv_at hl 1 rfl) ?_
      refine lv_i2c hx hb dX6_append_23 rfl ?_
      obtain ⟨v24, S24, h24, h⟩ := cw2_some h
      refine r_callV (As := [.int ((a1.toUInt32 % 65536).toInt32)]) (rest := []) (st1 := [.int v24]) hx hb hml hown hts hE hw hl (mX1_addSign l G (by omega) hR h24) (cwV 1 hts (zV gV_X6_57) rfl rfl rfl kdX1_addSign ⟨Nat.le_of_ble_eq_true rfl, Nat.le_of_ble_eq_true rfl⟩) (by omega) (congrFun hR.2.1 _) rfl rfl rfl rfl (Nat.le_of_ble_eq_true rfl) dX6_append_24 ⟨Nat.zero_le _, Nat.zero_le _⟩ rfl (fun H locs hw => ?_)
      cases h
    · rw [← (Prod.mk.inj (Option.some.inj h)).2, ← Sum.inr.inj (Prod.mk.inj (Option.some.inj h)).1]
      exact x_callS (As := [.int v12]) (rest := []) hx hb hml hown hts hE hw hl (xX6_refuseIf l hfl G (M := (wB M β 316 S)) h15) (va_cwS 1 hts (zS gS_X6_53) rfl rfl rfl kdX6_refuseIf ⟨Nat.le_of_ble_eq_true rfl, Nat.le_of_ble_eq_true rfl⟩) rfl rfl (Nat.le_of_ble_eq_true rfl) dX6_append_15 ⟨Nat.le_refl _, Nat.le_refl _⟩ hout hlocks
  · rw [← (Prod.mk.inj (Option.some.inj h)).2, ← Sum.inr.inj (Prod.mk.inj (Option.some.inj h)).1]
    exact x_callS (As := [.int a1, .int (nI 0), .int (nI 255)]) (rest := []) hx hb hml hown hts hE hw hl (xX6_checkRange l hfl G (M := (wB M β 316 S)) h5) (va_cwS 3 hts (zS gS_X6_45) rfl rfl rfl kdX6_checkRange ⟨Nat.le_of_ble_eq_true rfl, Nat.le_of_ble_eq_true rfl⟩) rfl rfl (Nat.le_of_ble_eq_true rfl) dX6_append_5 ⟨Nat.le_refl _, Nat.le_refl _⟩ hout hlocks

set_option maxHeartbeats 4000000 in
set_option maxRecDepth 100000 in
theorem mX6_clearText (l : Launch) (G : mG) {β : Nat} {M S S' : mM} {r : Int32} (hn : β + 316 ≤ gN G) (hR : isWR G β) (h : pX6_clearText S = some (r, S')) : MC l G yX6_clearText zzX6_clearText 1 21 [.ref (gA G (β + 0))] (wB M β 316 S) (wB M β 316 S') (some (.int r)) := by
  refine mc_of (cc := cX6_clearText) (maxL := 1) (ret := (some .int)) (by decide) rfl (Nat.le_of_ble_eq_true rfl) ?_
  intro p e s m args below meth c H ls hx hb hr hts hown hml hlocks hE hw hl
  have hl : lv_has ls 1 [(0, .ref (gA G (β + 0)))] := hl
  have hinX6 : ∀ w ∈ wsX60, w ∈ zzX6_clearText := fun w h9 => wz_in (zinX6 w h9)
  unfold pX6_clearText at h
  refine lv_aload_n hx hb dX6_clearText_0 rfl (lv_at hl 0 rfl) ?_
  refine r_get (v := .ref (gA G (β + 1))) hx hb hts hinX6 hown hE hw hn 0 (by decide) (congrFun hR.1 _) rfl 0 (by decide) (hts _ (wz_in qF_X6_10)) rfl dX6_clearText_1 ?_
  obtain ⟨v4, S4, h4, h⟩ := cw2_some h
  refine r_callV (As := []) (rest := []) (st1 := [.int v4]) hx hb hml hown hts hE hw hl (mX1_emptyOut l G (by omega) hR h4) (cwV 0 hts (zV gV_X6_61) rfl rfl rfl kdX1_emptyOut ⟨Nat.le_of_ble_eq_true rfl, Nat.le_of_ble_eq_true rfl⟩) (by omega) (congrFun hR.2.1 _) rfl rfl rfl rfl (Nat.le_of_ble_eq_true rfl) dX6_clearText_4 ⟨Nat.zero_le _, Nat.zero_le _⟩ rfl (fun H locs hw => ?_)
  exact e_iw hx hb hr hlocks hw dX6_clearText_7 h

set_option maxHeartbeats 4000000 in
set_option maxRecDepth 100000 in
theorem mX6_errorPosition (l : Launch) (G : mG) {β : Nat} {M S S' : mM} {r : Int32} (hn : β + 316 ≤ gN G) (hR : isWR G β) (h : pX6_errorPosition S = some (r, S')) : MC l G yX6_errorPosition zzX6_errorPosition 6 144 [.ref (gA G (β + 0))] (wB M β 316 S) (wB M β 316 S') (some (.int r)) := by
  refine mc_of (cc := cX6_errorPosition) (maxL := 1) (ret := (some .int)) (by decide) rfl (Nat.le_of_ble_eq_true rfl) ?_
  intro p e s m args below meth c H ls hx hb hr hts hown hml hlocks hE hw hl
  have hl : lv_has ls 1 [(0, .ref (gA G (β + 0)))] := hl
  have hinX6 : ∀ w ∈ wsX60, w ∈ zzX6_errorPosition := fun w h9 => wz_in (zinX6 w h9)
  unfold pX6_errorPosition at h
  refine lv_aload_n hx hb dX6_errorPosition_0 rfl (lv_at hl 0 rfl) ?_
  refine r_get (v := .ref (gA G (β + 1))) hx hb hts hinX6 hown hE hw hn 0 (by decide) (congrFun hR.1 _) rfl 0 (by decide) (hts _ (wz_in qF_X6_10)) rfl dX6_errorPosition_1 ?_
  refine lv_aload_n hx hb dX6_errorPosition_4 rfl (lv_at hl 0 rfl) ?_
  refine r_get (v := .ref (gA G (β + 20))) hx hb hts hinX6 hown hE hw hn 0 (by decide) (congrFun hR.1 _) rfl 2 (by decide) (hts _ (wz_in qF_X6_23)) rfl dX6_errorPosition_5 ?_
  obtain ⟨v8, S8, h8, h⟩ := cw2_some h
  refine r_callV (As := [.ref (gA G (β + 20))]) (rest := []) (st1 := [.int v8]) hx hb hml hown hts hE hw hl (mX1_readInto l G (by omega) hR h8) (cwV 1 hts (zV gV_X6_65) rfl rfl rfl kdX1_readInto ⟨Nat.le_of_ble_eq_true rfl, Nat.le_of_ble_eq_true rfl⟩) (by omega) (congrFun hR.2.1 _) rfl rfl rfl rfl (Nat.le_of_ble_eq_true rfl) dX6_errorPosition_8 ⟨Nat.zero_le _, Nat.zero_le _⟩ rfl (fun H locs hw => ?_)
  exact e_iw hx hb hr hlocks hw dX6_errorPosition_11 h

set_option maxHeartbeats 4000000 in
set_option maxRecDepth 100000 in
theorem mX6_load (l : Launch) (G : mG) {β : Nat} {M S S' : mM} {r : Int32} (hn : β + 316 ≤ gN G) (hR : isWR G β) (h : pX6_load S = some (.inl r, S')) : MC l G yX6_load zzX6_load 6 144 [.ref (gA G (β + 0))] (wB M β 316 S) (wB M β 316 S') (some (.int r)) := by
  refine mc_of (cc := cX6_load) (maxL := 1) (ret := (some .int)) (by decide) rfl (Nat.le_of_ble_eq_true rfl) ?_
  intro p e s m args below meth c H ls hx hb hr hts hown hml hlocks hE hw hl
  have hl : lv_has ls 1 [(0, .ref (gA G (β + 0)))] := hl
  have hinX4 : ∀ w ∈ wsX40, w ∈ zzX6_load := fun w h9 => wz_in (zinX4 w h9)
  have hinX6 : ∀ w ∈ wsX60, w ∈ zzX6_load := fun w h9 => wz_in (zinX6 w h9)
  have k21 : ∀ (t0 : Int32) (S : mM) (H : Heap) (locs : List Loc) (ls : Array Slot), pX6_load_b21  t0 S = some (.inl r, S') → mW G s (wB M β 316 S) H locs → lv_has ls 1 [(0, .ref (gA G (β + 0)))] → W p l e { frames := 6, cells := 0, slots := 0, locals := 144 } s m args below meth c H locs 0 0 (mZ below G (some (.int r)) (wB M β 316 S') args s) (F0 m 21 ls [.int t0]) := by
    intro t0 S H locs ls h hw hl
    unfold pX6_load_b21 at h
    rcases bx_some h with ⟨h21, h⟩ | ⟨E21, h21, h⟩
    · refine r_callS (As := [.int t0]) (rest := []) (st1 := []) hx hb hml hown hts hE hw hl (mX6_refuseIf l G (M := (wB M β 316 S)) h21) (va_cwS 1 hts (zS gS_X6_53) rfl rfl rfl kdX6_refuseIf ⟨Nat.le_of_ble_eq_true rfl, Nat.le_of_ble_eq_true rfl⟩) rfl rfl (Nat.le_of_ble_eq_true rfl) dX6_load_21 ⟨Nat.zero_le _, Nat.zero_le _⟩ rfl (fun H locs hw => ?_)
      refine lv_aload_n hx hb dX6_load_24 rfl (lv_at hl 0 rfl) ?_
      refine r_get (v := .ref (gA G (β + 3))) hx hb hts hinX6 hown hE hw hn 0 (by decide) (congrFun hR.1 _) rfl 1 (by decide) (hts _ (wz_in qF_X6_19)) rfl dX6_load_25 ?_
      refine lv_aload_n hx hb dX6_load_28 rfl (lv_at hl 0 rfl) ?_
      refine r_get (v := .ref (gA G (β + 20))) hx hb hts hinX6 hown hE hw hn 0 (by decide) (congrFun hR.1 _) rfl 2 (by decide) (hts _ (wz_in qF_X6_23)) rfl dX6_load_29 ?_
      obtain ⟨S32, h32, h⟩ := cr1_some h
      refine r_callV (As := [.ref (gA G (β + 20))]) (rest := []) (st1 := []) hx hb hml hown hts hE hw hl (mX4_copyFrom l G (by omega) hR (by decide) (by decide) hR.2.2.2.1 hR.2.2.2.2.1 h32) (cwV 1 hts (zV gV_X6_69) rfl rfl rfl kdX4_copyFrom ⟨Nat.le_of_ble_eq_true rfl, Nat.le_of_ble_eq_true rfl⟩) (by omega) (congrFun hR.2.2.2.1.1 _) rfl rfl rfl rfl (Nat.le_of_ble_eq_true rfl) dX6_load_32 ⟨Nat.zero_le _, Nat.zero_le _⟩ rfl (fun H locs hw => ?_)
      refine lv_aload_n hx hb dX6_load_35 rfl (lv_at hl 0 rfl) ?_
      refine r_get (v := .ref (gA G (β + 37))) hx hb hts hinX6 hown hE hw hn 0 (by decide) (congrFun hR.1 _) rfl 3 (by decide) (hts _ (wz_in qF_X6_29)) rfl dX6_load_36 ?_
      obtain ⟨S39, h39, h⟩ := cr1_some h
      refine r_callV (As := []) (rest := []) (st1 := []) hx hb hml hown hts hE hw hl (mX0_forget l G (by omega) hR h39) (cwV 0 hts (zV gV_X6_73) rfl rfl rfl kdX0_forget ⟨Nat.le_of_ble_eq_true rfl, Nat.le_of_ble_eq_true rfl⟩) (by omega) (congrFun hR.2.2.2.2.2.1 _) rfl rfl rfl rfl (Nat.le_of_ble_eq_true rfl) dX6_load_39 ⟨Nat.zero_le _, Nat.zero_le _⟩ rfl (fun H locs hw => ?_)
      refine lv_aload_n hx hb dX6_load_42 rfl (lv_at hl 0 rfl) ?_
      refine r_get (v := .ref (gA G (β + 279))) hx hb hts hinX6 hown hE hw hn 0 (by decide) (congrFun hR.1 _) rfl 4 (by decide) (hts _ (wz_in qF_X6_38)) rfl dX6_load_43 ?_
      obtain ⟨S46, h46, h⟩ := cr1_some h
      refine r_callV (As := []) (rest := []) (st1 := []) hx hb hml hown hts hE hw hl (mX3_emptyOut l G (by omega) hR (by decide) hR.2.2.2.2.2.2.2 h46) (cwV 0 hts (zV gV_X6_76) rfl rfl rfl kdX3_emptyOut ⟨Nat.le_of_ble_eq_true rfl, Nat.le_of_ble_eq_true rfl⟩) (by omega) (congrFun hR.2.2.2.2.2.2.2.1 _) rfl rfl rfl rfl (Nat.le_of_ble_eq_true rfl) dX6_load_46 ⟨Nat.zero_le _, Nat.zero_le _⟩ rfl (fun H locs hw => ?_)
      refine lv_aload_n hx hb dX6_load_49 rfl (lv_at hl 0 rfl) ?_
      refine r_get (v := .ref (gA G (β + 3))) hx hb hts hinX6 hown hE hw hn 0 (by decide) (congrFun hR.1 _) rfl 1 (by decide) (hts _ (wz_in qF_X6_19)) rfl dX6_load_50 ?_
      refine r_get (v := .ref (gA G (β + 12))) hx hb hts hinX4 hown hE hw hn 3 (by decide) (congrFun hR.2.2.2.1.1 _) rfl 4 (by decide) (hts _ (wz_in qF_X6_78)) rfl dX6_load_53 ?_
      obtain ⟨v56, h56, h⟩ := cr1_some h
      refine r_callV (As := []) (rest := []) (st1 := [.int v56]) hx hb hml hown hts hE hw hl (mc_subR 12 2 (by decide) (mX5_count l G (by show β + 12 + 2 ≤ _; omega) hR.2.2.2.1.2.2.2.2.2.1 h56)) (cwV 0 hts (zV gV_X6_82) rfl rfl rfl kdX5_count ⟨Nat.le_of_ble_eq_true rfl, Nat.le_of_ble_eq_true rfl⟩) (by omega) (congrFun hR.2.2.2.1.2.2.2.2.2.1.1 _) rfl rfl rfl rfl (Nat.le_of_ble_eq_true rfl) dX6_load_56 ⟨Nat.zero_le _, Nat.zero_le _⟩ rfl (fun H locs hw => ?_)
      cases h
      exact r_iret hx hb hr hlocks hw dX6_load_59
    · cases h
  unfold pX6_load at h
  refine lv_aload_n hx hb dX6_load_0 rfl (lv_at hl 0 rfl) ?_
  refine r_get (v := .ref (gA G (β + 1))) hx hb hts hinX6 hown hE hw hn 0 (by decide) (congrFun hR.1 _) rfl 0 (by decide) (hts _ (wz_in qF_X6_10)) rfl dX6_load_1 ?_
  refine lv_aload_n hx hb dX6_load_4 rfl (lv_at hl 0 rfl) ?_
  refine r_get (v := .ref (gA G (β + 20))) hx hb hts hinX6 hown hE hw hn 0 (by decide) (congrFun hR.1 _) rfl 2 (by decide) (hts _ (wz_in qF_X6_23)) rfl dX6_load_5 ?_
  obtain ⟨v8, S8, h8, h⟩ := cw2_some h
  refine r_callV (As := [.ref (gA G (β + 20))]) (rest := []) (st1 := [.int v8]) hx hb hml hown hts hE hw hl (mX1_readInto l G (by omega) hR h8) (cwV 1 hts (zV gV_X6_65) rfl rfl rfl kdX1_readInto ⟨Nat.le_of_ble_eq_true rfl, Nat.le_of_ble_eq_true rfl⟩) (by omega) (congrFun hR.2.1 _) rfl rfl rfl rfl (Nat.le_of_ble_eq_true rfl) dX6_load_8 ⟨Nat.zero_le _, Nat.zero_le _⟩ rfl (fun H locs hw => ?_)
  refine lv_bipush (v := (-9)) hx hb dX6_load_11 (by decide) ?_
  refine bi_eq (tgt := 20) hx hb dX6_load_13 (by decide) h (fun h => ?_) (fun h => ?_)
  · refine lv_iconst (v := (nI 0)) hx hb dX6_load_20 (by decide) ?_
    exact k21  (nI 0) S8 _ _ _ h hw (lv_sub hl [0] rfl)
  · refine lv_iconst (v := (nI 1)) hx hb dX6_load_16 (by decide) ?_
    refine lv_goto (tgt := 21) hx hb dX6_load_17 (by decide) ?_
    exact k21  (nI 1) S8 _ _ _ h hw (lv_sub hl [0] rfl)
set_option maxHeartbeats 4000000 in
set_option maxRecDepth 100000 in
theorem xX6_load (l : Launch) (hfl : l.stackTraces = false) (G : mG) {β : Nat} {M S S' : mM} {E : String} (hn : β + 316 ≤ gN G) (hR : isWR G β) (h : pX6_load S = some (.inr E, S')) : MX l G yX6_load zzX6_load 7 144 [.ref (gA G (β + 0))] (wB M β 316 S) (wB M β 316 S') E := by
  refine mx_of (cc := cX6_load) (maxL := 1) (ret := (some .int)) (by decide) rfl (Nat.le_of_ble_eq_true rfl) ?_
  intro p e s m args below meth c H ls hx hb hr hts hown hml hlocks hout hE hw _ hl
  have hl : lv_has ls 1 [(0, .ref (gA G (β + 0)))] := hl
  have hinX4 : ∀ w ∈ wsX40, w ∈ zzX6_load := fun w h9 => wz_in (zinX4 w h9)
  have hinX6 : ∀ w ∈ wsX60, w ∈ zzX6_load := fun w h9 => wz_in (zinX6 w h9)
  have k21 : ∀ (t0 : Int32) (S : mM) (H : Heap) (locs : List Loc) (ls : Array Slot), pX6_load_b21  t0 S = some (.inr E, S') → mW G s (wB M β 316 S) H locs → lv_has ls 1 [(0, .ref (gA G (β + 0)))] → W p l e { frames := 7, cells := 1, slots := 6, locals := 144 } s m args below meth c H locs 0 0 (mY below G E (wB M β 316 S') args s) (F0 m 21 ls [.int t0]) := by
    intro t0 S H locs ls h hw hl
    unfold pX6_load_b21 at h
    rcases bx_some h with ⟨h21, h⟩ | ⟨E21, h21, h⟩
    · refine r_callS (As := [.int t0]) (rest := []) (st1 := []) hx hb hml hown hts hE hw hl (mX6_refuseIf l G (M := (wB M β 316 S)) h21) (va_cwS 1 hts (zS gS_X6_53) rfl rfl rfl kdX6_refuseIf ⟨Nat.le_of_ble_eq_true rfl, Nat.le_of_ble_eq_true rfl⟩) rfl rfl (Nat.le_of_ble_eq_true rfl) dX6_load_21 ⟨Nat.zero_le _, Nat.zero_le _⟩ rfl (fun H locs hw => ?_)
      refine lv_aload_n hx hb dX6_load_24 rfl (lv_at hl 0 rfl) ?_
      refine r_get (v := .ref (gA G (β + 3))) hx hb hts hinX6 hown hE hw hn 0 (by decide) (congrFun hR.1 _) rfl 1 (by decide) (hts _ (wz_in qF_X6_19)) rfl dX6_load_25 ?_
      refine lv_aload_n hx hb dX6_load_28 rfl (lv_at hl 0 rfl) ?_
      refine r_get (v := .ref (gA G (β + 20))) hx hb hts hinX6 hown hE hw hn 0 (by decide) (congrFun hR.1 _) rfl 2 (by decide) (hts _ (wz_in qF_X6_23)) rfl dX6_load_29 ?_
      obtain ⟨S32, h32, h⟩ := cr1_some h
      refine r_callV (As := [.ref (gA G (β + 20))]) (rest := []) (st1 := []) hx hb hml hown hts hE hw hl (mX4_copyFrom l G (by omega) hR (by decide) (by decide) hR.2.2.2.1 hR.2.2.2.2.1 h32) (cwV 1 hts (zV gV_X6_69) rfl rfl rfl kdX4_copyFrom ⟨Nat.le_of_ble_eq_true rfl, Nat.le_of_ble_eq_true rfl⟩) (by omega) (congrFun hR.2.2.2.1.1 _) rfl rfl rfl rfl (Nat.le_of_ble_eq_true rfl) dX6_load_32 ⟨Nat.zero_le _, Nat.zero_le _⟩ rfl (fun H locs hw => ?_)
      refine lv_aload_n hx hb dX6_load_35 rfl (lv_at hl 0 rfl) ?_
      refine r_get (v := .ref (gA G (β + 37))) hx hb hts hinX6 hown hE hw hn 0 (by decide) (congrFun hR.1 _) rfl 3 (by decide) (hts _ (wz_in qF_X6_29)) rfl dX6_load_36 ?_
      obtain ⟨S39, h39, h⟩ := cr1_some h
      refine r_callV (As := []) (rest := []) (st1 := []) hx hb hml hown hts hE hw hl (mX0_forget l G (by omega) hR h39) (cwV 0 hts (zV gV_X6_73) rfl rfl rfl kdX0_forget ⟨Nat.le_of_ble_eq_true rfl, Nat.le_of_ble_eq_true rfl⟩) (by omega) (congrFun hR.2.2.2.2.2.1 _) rfl rfl rfl rfl (Nat.le_of_ble_eq_true rfl) dX6_load_39 ⟨Nat.zero_le _, Nat.zero_le _⟩ rfl (fun H locs hw => ?_)
      refine lv_aload_n hx hb dX6_load_42 rfl (lv_at hl 0 rfl) ?_
      refine r_get (v := .ref (gA G (β + 279))) hx hb hts hinX6 hown hE hw hn 0 (by decide) (congrFun hR.1 _) rfl 4 (by decide) (hts _ (wz_in qF_X6_38)) rfl dX6_load_43 ?_
      obtain ⟨S46, h46, h⟩ := cr1_some h
      refine r_callV (As := []) (rest := []) (st1 := []) hx hb hml hown hts hE hw hl (mX3_emptyOut l G (by omega) hR (by decide) hR.2.2.2.2.2.2.2 h46) (cwV 0 hts (zV gV_X6_76) rfl rfl rfl kdX3_emptyOut ⟨Nat.le_of_ble_eq_true rfl, Nat.le_of_ble_eq_true rfl⟩) (by omega) (congrFun hR.2.2.2.2.2.2.2.1 _) rfl rfl rfl rfl (Nat.le_of_ble_eq_true rfl) dX6_load_46 ⟨Nat.zero_le _, Nat.zero_le _⟩ rfl (fun H locs hw => ?_)
      refine lv_aload_n hx hb dX6_load_49 rfl (lv_at hl 0 rfl) ?_
      refine r_get (v := .ref (gA G (β + 3))) hx hb hts hinX6 hown hE hw hn 0 (by decide) (congrFun hR.1 _) rfl 1 (by decide) (hts _ (wz_in qF_X6_19)) rfl dX6_load_50 ?_
      refine r_get (v := .ref (gA G (β + 12))) hx hb hts hinX4 hown hE hw hn 3 (by decide) (congrFun hR.2.2.2.1.1 _) rfl 4 (by decide) (hts _ (wz_in qF_X6_78)) rfl dX6_load_53 ?_
      obtain ⟨v56, h56, h⟩ := cr1_some h
      refine r_callV (As := []) (rest := []) (st1 := [.int v56]) hx hb hml hown hts hE hw hl (mc_subR 12 2 (by decide) (mX5_count l G (by show β + 12 + 2 ≤ _; omega) hR.2.2.2.1.2.2.2.2.2.1 h56)) (cwV 0 hts (zV gV_X6_82) rfl rfl rfl kdX5_count ⟨Nat.le_of_ble_eq_true rfl, Nat.le_of_ble_eq_true rfl⟩) (by omega) (congrFun hR.2.2.2.1.2.2.2.2.2.1.1 _) rfl rfl rfl rfl (Nat.le_of_ble_eq_true rfl) dX6_load_56 ⟨Nat.zero_le _, Nat.zero_le _⟩ rfl (fun H locs hw => ?_)
      cases h
    · rw [← (Prod.mk.inj (Option.some.inj h)).2, ← Sum.inr.inj (Prod.mk.inj (Option.some.inj h)).1]
      exact x_callS (As := [.int t0]) (rest := []) hx hb hml hown hts hE hw hl (xX6_refuseIf l hfl G (M := (wB M β 316 S)) h21) (va_cwS 1 hts (zS gS_X6_53) rfl rfl rfl kdX6_refuseIf ⟨Nat.le_of_ble_eq_true rfl, Nat.le_of_ble_eq_true rfl⟩) rfl rfl (Nat.le_of_ble_eq_true rfl) dX6_load_21 ⟨Nat.le_refl _, Nat.le_refl _⟩ hout hlocks
  unfold pX6_load at h
  refine lv_aload_n hx hb dX6_load_0 rfl (lv_at hl 0 rfl) ?_
  refine r_get (v := .ref (gA G (β + 1))) hx hb hts hinX6 hown hE hw hn 0 (by decide) (congrFun hR.1 _) rfl 0 (by decide) (hts _ (wz_in qF_X6_10)) rfl dX6_load_1 ?_
  refine lv_aload_n hx hb dX6_load_4 rfl (lv_at hl 0 rfl) ?_
  refine r_get (v := .ref (gA G (β + 20))) hx hb hts hinX6 hown hE hw hn 0 (by decide) (congrFun hR.1 _) rfl 2 (by decide) (hts _ (wz_in qF_X6_23)) rfl dX6_load_5 ?_
  obtain ⟨v8, S8, h8, h⟩ := cw2_some h
  refine r_callV (As := [.ref (gA G (β + 20))]) (rest := []) (st1 := [.int v8]) hx hb hml hown hts hE hw hl (mX1_readInto l G (by omega) hR h8) (cwV 1 hts (zV gV_X6_65) rfl rfl rfl kdX1_readInto ⟨Nat.le_of_ble_eq_true rfl, Nat.le_of_ble_eq_true rfl⟩) (by omega) (congrFun hR.2.1 _) rfl rfl rfl rfl (Nat.le_of_ble_eq_true rfl) dX6_load_8 ⟨Nat.zero_le _, Nat.zero_le _⟩ rfl (fun H locs hw => ?_)
  refine lv_bipush (v := (-9)) hx hb dX6_load_11 (by decide) ?_
  refine bi_eq (tgt := 20) hx hb dX6_load_13 (by decide) h (fun h => ?_) (fun h => ?_)
  · refine lv_iconst (v := (nI 0)) hx hb dX6_load_20 (by decide) ?_
    exact k21  (nI 0) S8 _ _ _ h hw (lv_sub hl [0] rfl)
  · refine lv_iconst (v := (nI 1)) hx hb dX6_load_16 (by decide) ?_
    refine lv_goto (tgt := 21) hx hb dX6_load_17 (by decide) ?_
    exact k21  (nI 1) S8 _ _ _ h hw (lv_sub hl [0] rfl)

set_option maxHeartbeats 4000000 in
set_option maxRecDepth 100000 in
theorem mX6_about (l : Launch) (G : mG) {β : Nat} {M S : mM} {a1 : Int32} {r : Int32} (hn : β + 316 ≤ gN G) (hR : isWR G β) (h : pX6_about a1 S = some (.inl r)) : MC l G yX6_about zzX6_about 2 47 [.ref (gA G (β + 0)), .int a1] (wB M β 316 S) (wB M β 316 S) (some (.int r)) := by
  refine mc_of (cc := cX6_about) (maxL := 2) (ret := (some .int)) (by decide) rfl (Nat.le_of_ble_eq_true rfl) ?_
  intro p e s m args below meth c H ls hx hb hr hts hown hml hlocks hE hw hl
  have hl : lv_has ls 2 [(0, .ref (gA G (β + 0))), (1, .int a1)] := hl
  have hinX4 : ∀ w ∈ wsX40, w ∈ zzX6_about := fun w h9 => wz_in (zinX4 w h9)
  have hinX6 : ∀ w ∈ wsX60, w ∈ zzX6_about := fun w h9 => wz_in (zinX6 w h9)
  unfold pX6_about at h
  refine lv_iload_n hx hb dX6_about_0 rfl (lv_at hl 1 rfl) ?_
  refine lv_iconst (v := (nI 0)) hx hb dX6_about_1 (by decide) ?_
  refine lv_bipush (v := (nI 11)) hx hb dX6_about_2 (by decide) ?_
  rcases bx_some h with ⟨h4, h⟩ | ⟨E4, h4, h⟩
  · refine r_callS (As := [.int a1, .int (nI 0), .int (nI 11)]) (rest := []) (st1 := []) hx hb hml hown hts hE hw hl (mX6_checkRange l G (M := (wB M β 316 S)) h4) (va_cwS 3 hts (zS gS_X6_45) rfl rfl rfl kdX6_checkRange ⟨Nat.le_of_ble_eq_true rfl, Nat.le_of_ble_eq_true rfl⟩) rfl rfl (Nat.le_of_ble_eq_true rfl) dX6_about_4 ⟨Nat.zero_le _, Nat.zero_le _⟩ rfl (fun H locs hw => ?_)
    refine lv_iload_n hx hb dX6_about_7 rfl (lv_at hl 1 rfl) ?_
    refine sw_if h (fun hc0 h => ?_) (fun hc0 h => ?_)
    · rw [hc0]
      refine lv_tableIn (off := 60) (tgt := 68) hx hb dX6_about_8 (by decide) (by decide) rfl (by decide) ?_
      refine lv_aload_n hx hb dX6_about_68 rfl (lv_at hl 0 rfl) ?_
      refine r_get (v := .ref (gA G (β + 3))) hx hb hts hinX6 hown hE hw hn 0 (by decide) (congrFun hR.1 _) rfl 1 (by decide) (hts _ (wz_in qF_X6_19)) rfl dX6_about_69 ?_
      obtain ⟨v72, h72, h⟩ := cr1_some h
      refine r_callV (As := []) (rest := []) (st1 := [.int v72]) hx hb hml hown hts hE hw hl (mc_subR 3 17 (by decide) (mX4_length l G (by show β + 3 + 17 ≤ _; omega) hR.2.2.2.1 h72)) (cwV 0 hts (zV gV_X6_87) rfl rfl rfl kdX4_length ⟨Nat.le_of_ble_eq_true rfl, Nat.le_of_ble_eq_true rfl⟩) (by omega) (congrFun hR.2.2.2.1.1 _) rfl rfl rfl rfl (Nat.le_of_ble_eq_true rfl) dX6_about_72 ⟨Nat.zero_le _, Nat.zero_le _⟩ rfl (fun H locs hw => ?_)
      cases h
      exact r_iret hx hb hr hlocks hw dX6_about_75
    refine sw_if h (fun hc1 h => ?_) (fun hc1 h => ?_)
    · rw [hc1]
      refine lv_tableIn (off := 68) (tgt := 76) hx hb dX6_about_8 (by decide) (by decide) rfl (by decide) ?_
      refine lv_aload_n hx hb dX6_about_76 rfl (lv_at hl 0 rfl) ?_
      refine r_get (v := .ref (gA G (β + 3))) hx hb hts hinX6 hown hE hw hn 0 (by decide) (congrFun hR.1 _) rfl 1 (by decide) (hts _ (wz_in qF_X6_19)) rfl dX6_about_77 ?_
      obtain ⟨v80, h80, h⟩ := cr1_some h
      refine r_callV (As := []) (rest := []) (st1 := [.int v80]) hx hb hml hown hts hE hw hl (mc_subR 3 17 (by decide) (mX4_hours l G (by show β + 3 + 17 ≤ _; omega) hR.2.2.2.1 h80)) (cwV 0 hts (zV gV_X6_90) rfl rfl rfl kdX4_hours ⟨Nat.le_of_ble_eq_true rfl, Nat.le_of_ble_eq_true rfl⟩) (by omega) (congrFun hR.2.2.2.1.1 _) rfl rfl rfl rfl (Nat.le_of_ble_eq_true rfl) dX6_about_80 ⟨Nat.zero_le _, Nat.zero_le _⟩ rfl (fun H locs hw => ?_)
      cases h
      exact r_iret hx hb hr hlocks hw dX6_about_83
    refine sw_if h (fun hc2 h => ?_) (fun hc2 h => ?_)
    · rw [hc2]
      refine lv_tableIn (off := 76) (tgt := 84) hx hb dX6_about_8 (by decide) (by decide) rfl (by decide) ?_
      refine lv_aload_n hx hb dX6_about_84 rfl (lv_at hl 0 rfl) ?_
      refine r_get (v := .ref (gA G (β + 3))) hx hb hts hinX6 hown hE hw hn 0 (by decide) (congrFun hR.1 _) rfl 1 (by decide) (hts _ (wz_in qF_X6_19)) rfl dX6_about_85 ?_
      refine r_get (v := .ref (gA G (β + 4))) hx hb hts hinX4 hown hE hw hn 3 (by decide) (congrFun hR.2.2.2.1.1 _) rfl 0 (by decide) (hts _ (wz_in qF_X6_93)) rfl dX6_about_88 ?_
      obtain ⟨v91, h91, h⟩ := cr1_some h
      refine r_callV (As := []) (rest := []) (st1 := [.int v91]) hx hb hml hown hts hE hw hl (mc_subR 4 2 (by decide) (mX5_count l G (by show β + 4 + 2 ≤ _; omega) hR.2.2.2.1.2.1 h91)) (cwV 0 hts (zV gV_X6_82) rfl rfl rfl kdX5_count ⟨Nat.le_of_ble_eq_true rfl, Nat.le_of_ble_eq_true rfl⟩) (by omega) (congrFun hR.2.2.2.1.2.1.1 _) rfl rfl rfl rfl (Nat.le_of_ble_eq_true rfl) dX6_about_91 ⟨Nat.zero_le _, Nat.zero_le _⟩ rfl (fun H locs hw => ?_)
      cases h
      exact r_iret hx hb hr hlocks hw dX6_about_94
    refine sw_if h (fun hc3 h => ?_) (fun hc3 h => ?_)
    · rw [hc3]
      refine lv_tableIn (off := 87) (tgt := 95) hx hb dX6_about_8 (by decide) (by decide) rfl (by decide) ?_
      refine lv_aload_n hx hb dX6_about_95 rfl (lv_at hl 0 rfl) ?_
      refine r_get (v := .ref (gA G (β + 3))) hx hb hts hinX6 hown hE hw hn 0 (by decide) (congrFun hR.1 _) rfl 1 (by decide) (hts _ (wz_in qF_X6_19)) rfl dX6_about_96 ?_
      refine r_get (v := .ref (gA G (β + 6))) hx hb hts hinX4 hown hE hw hn 3 (by decide) (congrFun hR.2.2.2.1.1 _) rfl 1 (by decide) (hts _ (wz_in qF_X6_96)) rfl dX6_about_99 ?_
      obtain ⟨v102, h102, h⟩ := cr1_some h
      refine r_callV (As := []) (rest := []) (st1 := [.int v102]) hx hb hml hown hts hE hw hl (mc_subR 6 2 (by decide) (mX5_count l G (by show β + 6 + 2 ≤ _; omega) hR.2.2.2.1.2.2.1 h102)) (cwV 0 hts (zV gV_X6_82) rfl rfl rfl kdX5_count ⟨Nat.le_of_ble_eq_true rfl, Nat.le_of_ble_eq_true rfl⟩) (by omega) (congrFun hR.2.2.2.1.2.2.1.1 _) rfl rfl rfl rfl (Nat.le_of_ble_eq_true rfl) dX6_about_102 ⟨Nat.zero_le _, Nat.zero_le _⟩ rfl (fun H locs hw => ?_)
      cases h
      exact r_iret hx hb hr hlocks hw dX6_about_105
    refine sw_if h (fun hc4 h => ?_) (fun hc4 h => ?_)
    · rw [hc4]
      refine lv_tableIn (off := 98) (tgt := 106) hx hb dX6_about_8 (by decide) (by decide) rfl (by decide) ?_
      refine lv_aload_n hx hb dX6_about_106 rfl (lv_at hl 0 rfl) ?_
      refine r_get (v := .ref (gA G (β + 3))) hx hb hts hinX6 hown hE hw hn 0 (by decide) (congrFun hR.1 _) rfl 1 (by decide) (hts _ (wz_in qF_X6_19)) rfl dX6_about_107 ?_
      refine r_get (v := .ref (gA G (β + 8))) hx hb hts hinX4 hown hE hw hn 3 (by decide) (congrFun hR.2.2.2.1.1 _) rfl 2 (by decide) (hts _ (wz_in qF_X6_99)) rfl dX6_about_110 ?_
      obtain ⟨v113, h113, h⟩ := cr1_some h
      refine r_callV (As := []) (rest := []) (st1 := [.int v113]) hx hb hml hown hts hE hw hl (mc_subR 8 2 (by decide) (mX5_count l G (by show β + 8 + 2 ≤ _; omega) hR.2.2.2.1.2.2.2.1 h113)) (cwV 0 hts (zV gV_X6_82) rfl rfl rfl kdX5_count ⟨Nat.le_of_ble_eq_true rfl, Nat.le_of_ble_eq_true rfl⟩) (by omega) (congrFun hR.2.2.2.1.2.2.2.1.1 _) rfl rfl rfl rfl (Nat.le_of_ble_eq_true rfl) dX6_about_113 ⟨Nat.zero_le _, Nat.zero_le _⟩ rfl (fun H locs hw => ?_)
      cases h
      exact r_iret hx hb hr hlocks hw dX6_about_116
    refine sw_if h (fun hc5 h => ?_) (fun hc5 h => ?_)
    · rw [hc5]
      refine lv_tableIn (off := 109) (tgt := 117) hx hb dX6_about_8 (by decide) (by decide) rfl (by decide) ?_
      refine lv_aload_n hx hb dX6_about_117 rfl (lv_at hl 0 rfl) ?_
      refine r_get (v := .ref (gA G (β + 3))) hx hb hts hinX6 hown hE hw hn 0 (by decide) (congrFun hR.1 _) rfl 1 (by decide) (hts _ (wz_in qF_X6_19)) rfl dX6_about_118 ?_
      refine r_get (v := .ref (gA G (β + 10))) hx hb hts hinX4 hown hE hw hn 3 (by decide) (congrFun hR.2.2.2.1.1 _) rfl 3 (by decide) (hts _ (wz_in qF_X6_102)) rfl dX6_about_121 ?_
      obtain ⟨v124, h124, h⟩ := cr1_some h
      refine r_callV (As := []) (rest := []) (st1 := [.int v124]) hx hb hml hown hts hE hw hl (mc_subR 10 2 (by decide) (mX5_count l G (by show β + 10 + 2 ≤ _; omega) hR.2.2.2.1.2.2.2.2.1 h124)) (cwV 0 hts (zV gV_X6_82) rfl rfl rfl kdX5_count ⟨Nat.le_of_ble_eq_true rfl, Nat.le_of_ble_eq_true rfl⟩) (by omega) (congrFun hR.2.2.2.1.2.2.2.2.1.1 _) rfl rfl rfl rfl (Nat.le_of_ble_eq_true rfl) dX6_about_124 ⟨Nat.zero_le _, Nat.zero_le _⟩ rfl (fun H locs hw => ?_)
      cases h
      exact r_iret hx hb hr hlocks hw dX6_about_127
    refine sw_if h (fun hc6 h => ?_) (fun hc6 h => ?_)
    · rw [hc6]
      refine lv_tableIn (off := 120) (tgt := 128) hx hb dX6_about_8 (by decide) (by decide) rfl (by decide) ?_
      refine lv_aload_n hx hb dX6_about_128 rfl (lv_at hl 0 rfl) ?_
      refine r_get (v := .ref (gA G (β + 3))) hx hb hts hinX6 hown hE hw hn 0 (by decide) (congrFun hR.1 _) rfl 1 (by decide) (hts _ (wz_in qF_X6_19)) rfl dX6_about_129 ?_
      refine r_get (v := .ref (gA G (β + 12))) hx hb hts hinX4 hown hE hw hn 3 (by decide) (congrFun hR.2.2.2.1.1 _) rfl 4 (by decide) (hts _ (wz_in qF_X6_78)) rfl dX6_about_132 ?_
      obtain ⟨v135, h135, h⟩ := cr1_some h
      refine r_callV (As := []) (rest := []) (st1 := [.int v135]) hx hb hml hown hts hE hw hl (mc_subR 12 2 (by decide) (mX5_count l G (by show β + 12 + 2 ≤ _; omega) hR.2.2.2.1.2.2.2.2.2.1 h135)) (cwV 0 hts (zV gV_X6_82) rfl rfl rfl kdX5_count ⟨Nat.le_of_ble_eq_true rfl, Nat.le_of_ble_eq_true rfl⟩) (by omega) (congrFun hR.2.2.2.1.2.2.2.2.2.1.1 _) rfl rfl rfl rfl (Nat.le_of_ble_eq_true rfl) dX6_about_135 ⟨Nat.zero_le _, Nat.zero_le _⟩ rfl (fun H locs hw => ?_)
      cases h
      exact r_iret hx hb hr hlocks hw dX6_about_138
    refine sw_if h (fun hc7 h => ?_) (fun hc7 h => ?_)
    · rw [hc7]
      refine lv_tableIn (off := 131) (tgt := 139) hx hb dX6_about_8 (by decide) (by decide) rfl (by decide) ?_
      refine lv_aload_n hx hb dX6_about_139 rfl (lv_at hl 0 rfl) ?_
      refine r_get (v := .ref (gA G (β + 3))) hx hb hts hinX6 hown hE hw hn 0 (by decide) (congrFun hR.1 _) rfl 1 (by decide) (hts _ (wz_in qF_X6_19)) rfl dX6_about_140 ?_
      refine lv_iconst (v := (nI 2)) hx hb dX6_about_143 (by decide) ?_
      obtain ⟨v144, h144, h⟩ := cr1_some h
      refine r_callV (As := [.int (nI 2)]) (rest := []) (st1 := [.int v144]) hx hb hml hown hts hE hw hl (mc_subR 3 17 (by decide) (mX4_howMany l G (by show β + 3 + 17 ≤ _; omega) hR.2.2.2.1 h144)) (cwV 1 hts (zV gV_X6_105) rfl rfl rfl kdX4_howMany ⟨Nat.le_of_ble_eq_true rfl, Nat.le_of_ble_eq_true rfl⟩) (by omega) (congrFun hR.2.2.2.1.1 _) rfl rfl rfl rfl (Nat.le_of_ble_eq_true rfl) dX6_about_144 ⟨Nat.zero_le _, Nat.zero_le _⟩ rfl (fun H locs hw => ?_)
      cases h
      exact r_iret hx hb hr hlocks hw dX6_about_147
    refine sw_if h (fun hc8 h => ?_) (fun hc8 h => ?_)
    · rw [hc8]
      refine lv_tableIn (off := 140) (tgt := 148) hx hb dX6_about_8 (by decide) (by decide) rfl (by decide) ?_
      refine lv_aload_n hx hb dX6_about_148 rfl (lv_at hl 0 rfl) ?_
      refine r_get (v := .ref (gA G (β + 3))) hx hb hts hinX6 hown hE hw hn 0 (by decide) (congrFun hR.1 _) rfl 1 (by decide) (hts _ (wz_in qF_X6_19)) rfl dX6_about_149 ?_
      refine lv_iconst (v := (nI 1)) hx hb dX6_about_152 (by decide) ?_
      obtain ⟨v153, h153, h⟩ := cr1_some h
      refine r_callV (As := [.int (nI 1)]) (rest := []) (st1 := [.int v153]) hx hb hml hown hts hE hw hl (mc_subR 3 17 (by decide) (mX4_howMany l G (by show β + 3 + 17 ≤ _; omega) hR.2.2.2.1 h153)) (cwV 1 hts (zV gV_X6_105) rfl rfl rfl kdX4_howMany ⟨Nat.le_of_ble_eq_true rfl, Nat.le_of_ble_eq_true rfl⟩) (by omega) (congrFun hR.2.2.2.1.1 _) rfl rfl rfl rfl (Nat.le_of_ble_eq_true rfl) dX6_about_153 ⟨Nat.zero_le _, Nat.zero_le _⟩ rfl (fun H locs hw => ?_)
      cases h
      exact r_iret hx hb hr hlocks hw dX6_about_156
    refine sw_if h (fun hc9 h => ?_) (fun hc9 h => ?_)
    · rw [hc9]
      refine lv_tableIn (off := 149) (tgt := 157) hx hb dX6_about_8 (by decide) (by decide) rfl (by decide) ?_
      refine lv_aload_n hx hb dX6_about_157 rfl (lv_at hl 0 rfl) ?_
      refine r_get (v := .ref (gA G (β + 3))) hx hb hts hinX6 hown hE hw hn 0 (by decide) (congrFun hR.1 _) rfl 1 (by decide) (hts _ (wz_in qF_X6_19)) rfl dX6_about_158 ?_
      refine r_get (v := .ref (gA G (β + 12))) hx hb hts hinX4 hown hE hw hn 3 (by decide) (congrFun hR.2.2.2.1.1 _) rfl 4 (by decide) (hts _ (wz_in qF_X6_78)) rfl dX6_about_161 ?_
      refine lv_iconst (v := (nI 3)) hx hb dX6_about_164 (by decide) ?_
      obtain ⟨v165, h165, h⟩ := cr1_some h
      refine r_callV (As := [.int (nI 3)]) (rest := []) (st1 := [.int v165]) hx hb hml hown hts hE hw hl (mc_subR 12 2 (by decide) (mX5_sum l G (by show β + 12 + 2 ≤ _; omega) hR.2.2.2.1.2.2.2.2.2.1 h165)) (cwV 1 hts (zV gV_X6_109) rfl rfl rfl kdX5_sum ⟨Nat.le_of_ble_eq_true rfl, Nat.le_of_ble_eq_true rfl⟩) (by omega) (congrFun hR.2.2.2.1.2.2.2.2.2.1.1 _) rfl rfl rfl rfl (Nat.le_of_ble_eq_true rfl) dX6_about_165 ⟨Nat.zero_le _, Nat.zero_le _⟩ rfl (fun H locs hw => ?_)
      cases h
      exact r_iret hx hb hr hlocks hw dX6_about_168
    refine sw_if h (fun hc10 h => ?_) (fun hc10 h => ?_)
    · rw [hc10]
      refine lv_tableIn (off := 161) (tgt := 169) hx hb dX6_about_8 (by decide) (by decide) rfl (by decide) ?_
      refine lv_aload_n hx hb dX6_about_169 rfl (lv_at hl 0 rfl) ?_
      refine r_get (v := .ref (gA G (β + 3))) hx hb hts hinX6 hown hE hw hn 0 (by decide) (congrFun hR.1 _) rfl 1 (by decide) (hts _ (wz_in qF_X6_19)) rfl dX6_about_170 ?_
      refine r_get (v := .ref (gA G (β + 8))) hx hb hts hinX4 hown hE hw hn 3 (by decide) (congrFun hR.2.2.2.1.1 _) rfl 2 (by decide) (hts _ (wz_in qF_X6_99)) rfl dX6_about_173 ?_
      refine lv_iconst (v := (nI 1)) hx hb dX6_about_176 (by decide) ?_
      obtain ⟨v177, h177, h⟩ := cr1_some h
      refine r_callV (As := [.int (nI 1)]) (rest := []) (st1 := [.int v177]) hx hb hml hown hts hE hw hl (mc_subR 8 2 (by decide) (mX5_sum l G (by show β + 8 + 2 ≤ _; omega) hR.2.2.2.1.2.2.2.1 h177)) (cwV 1 hts (zV gV_X6_109) rfl rfl rfl kdX5_sum ⟨Nat.le_of_ble_eq_true rfl, Nat.le_of_ble_eq_true rfl⟩) (by omega) (congrFun hR.2.2.2.1.2.2.2.1.1 _) rfl rfl rfl rfl (Nat.le_of_ble_eq_true rfl) dX6_about_177 ⟨Nat.zero_le _, Nat.zero_le _⟩ rfl (fun H locs hw => ?_)
      cases h
      exact r_iret hx hb hr hlocks hw dX6_about_180
    · refine lv_tableOut (tgt := 181) hx hb dX6_about_8 (by have q0 := lv_neT hc0 (by decide : ((nI 0) : Int32).toInt = 0); have q1 := lv_neT hc1 (by decide : ((nI 1) : Int32).toInt = 1); have q2 := lv_neT hc2 (by decide : ((nI 2) : Int32).toInt = 2); have q3 := lv_neT hc3 (by decide : ((nI 3) : Int32).toInt = 3); have q4 := lv_neT hc4 (by decide : ((nI 4) : Int32).toInt = 4); have q5 := lv_neT hc5 (by decide : ((nI 5) : Int32).toInt = 5); have q6 := lv_neT hc6 (by decide : ((nI 6) : Int32).toInt = 6); have q7 := lv_neT hc7 (by decide : ((nI 7) : Int32).toInt = 7); have q8 := lv_neT hc8 (by decide : ((nI 8) : Int32).toInt = 8); have q9 := lv_neT hc9 (by decide : ((nI 9) : Int32).toInt = 9); have q10 := lv_neT hc10 (by decide : ((nI 10) : Int32).toInt = 10); omega) (by decide) ?_
      refine lv_aload_n hx hb dX6_about_181 rfl (lv_at hl 0 rfl) ?_
      refine r_get (v := .ref (gA G (β + 3))) hx hb hts hinX6 hown hE hw hn 0 (by decide) (congrFun hR.1 _) rfl 1 (by decide) (hts _ (wz_in qF_X6_19)) rfl dX6_about_182 ?_
      refine r_get (v := .ref (gA G (β + 12))) hx hb hts hinX4 hown hE hw hn 3 (by decide) (congrFun hR.2.2.2.1.1 _) rfl 4 (by decide) (hts _ (wz_in qF_X6_78)) rfl dX6_about_185 ?_
      refine lv_bipush (v := (nI 6)) hx hb dX6_about_188 (by decide) ?_
      obtain ⟨v190, h190, h⟩ := cr1_some h
      refine r_callV (As := [.int (nI 6)]) (rest := []) (st1 := [.int v190]) hx hb hml hown hts hE hw hl (mc_subR 12 2 (by decide) (mX5_sum l G (by show β + 12 + 2 ≤ _; omega) hR.2.2.2.1.2.2.2.2.2.1 h190)) (cwV 1 hts (zV gV_X6_109) rfl rfl rfl kdX5_sum ⟨Nat.le_of_ble_eq_true rfl, Nat.le_of_ble_eq_true rfl⟩) (by omega) (congrFun hR.2.2.2.1.2.2.2.2.2.1.1 _) rfl rfl rfl rfl (Nat.le_of_ble_eq_true rfl) dX6_about_190 ⟨Nat.zero_le _, Nat.zero_le _⟩ rfl (fun H locs hw => ?_)
      cases h
      exact r_iret hx hb hr hlocks hw dX6_about_193
  · cases h
set_option maxHeartbeats 4000000 in
set_option maxRecDepth 100000 in
theorem xX6_about (l : Launch) (hfl : l.stackTraces = false) (G : mG) {β : Nat} {M S : mM} {a1 : Int32} {E : String} (hn : β + 316 ≤ gN G) (hR : isWR G β) (h : pX6_about a1 S = some (.inr E)) : MX l G yX6_about zzX6_about 8 124 [.ref (gA G (β + 0)), .int a1] (wB M β 316 S) (wB M β 316 S) E := by
  refine mx_of (cc := cX6_about) (maxL := 2) (ret := (some .int)) (by decide) rfl (Nat.le_of_ble_eq_true rfl) ?_
  intro p e s m args below meth c H ls hx hb hr hts hown hml hlocks hout hE hw _ hl
  have hl : lv_has ls 2 [(0, .ref (gA G (β + 0))), (1, .int a1)] := hl
  have hinX4 : ∀ w ∈ wsX40, w ∈ zzX6_about := fun w h9 => wz_in (zinX4 w h9)
  have hinX6 : ∀ w ∈ wsX60, w ∈ zzX6_about := fun w h9 => wz_in (zinX6 w h9)
  unfold pX6_about at h
  refine lv_iload_n hx hb dX6_about_0 rfl (lv_at hl 1 rfl) ?_
  refine lv_iconst (v := (nI 0)) hx hb dX6_about_1 (by decide) ?_
  refine lv_bipush (v := (nI 11)) hx hb dX6_about_2 (by decide) ?_
  rcases bx_some h with ⟨h4, h⟩ | ⟨E4, h4, h⟩
  · refine r_callS (As := [.int a1, .int (nI 0), .int (nI 11)]) (rest := []) (st1 := []) hx hb hml hown hts hE hw hl (mX6_checkRange l G (M := (wB M β 316 S)) h4) (va_cwS 3 hts (zS gS_X6_45) rfl rfl rfl kdX6_checkRange ⟨Nat.le_of_ble_eq_true rfl, Nat.le_of_ble_eq_true rfl⟩) rfl rfl (Nat.le_of_ble_eq_true rfl) dX6_about_4 ⟨Nat.zero_le _, Nat.zero_le _⟩ rfl (fun H locs hw => ?_)
    refine lv_iload_n hx hb dX6_about_7 rfl (lv_at hl 1 rfl) ?_
    refine sw_if h (fun hc0 h => ?_) (fun hc0 h => ?_)
    · rw [hc0]
      refine lv_tableIn (off := 60) (tgt := 68) hx hb dX6_about_8 (by decide) (by decide) rfl (by decide) ?_
      refine lv_aload_n hx hb dX6_about_68 rfl (lv_at hl 0 rfl) ?_
      refine r_get (v := .ref (gA G (β + 3))) hx hb hts hinX6 hown hE hw hn 0 (by decide) (congrFun hR.1 _) rfl 1 (by decide) (hts _ (wz_in qF_X6_19)) rfl dX6_about_69 ?_
      obtain ⟨v72, h72, h⟩ := cr1_some h
      refine r_callV (As := []) (rest := []) (st1 := [.int v72]) hx hb hml hown hts hE hw hl (mc_subR 3 17 (by decide) (mX4_length l G (by show β + 3 + 17 ≤ _; omega) hR.2.2.2.1 h72)) (cwV 0 hts (zV gV_X6_87) rfl rfl rfl kdX4_length ⟨Nat.le_of_ble_eq_true rfl, Nat.le_of_ble_eq_true rfl⟩) (by omega) (congrFun hR.2.2.2.1.1 _) rfl rfl rfl rfl (Nat.le_of_ble_eq_true rfl) dX6_about_72 ⟨Nat.zero_le _, Nat.zero_le _⟩ rfl (fun H locs hw => ?_)
      cases h
    refine sw_if h (fun hc1 h => ?_) (fun hc1 h => ?_)
    · rw [hc1]
      refine lv_tableIn (off := 68) (tgt := 76) hx hb dX6_about_8 (by decide) (by decide) rfl (by decide) ?_
      refine lv_aload_n hx hb dX6_about_76 rfl (lv_at hl 0 rfl) ?_
      refine r_get (v := .ref (gA G (β + 3))) hx hb hts hinX6 hown hE hw hn 0 (by decide) (congrFun hR.1 _) rfl 1 (by decide) (hts _ (wz_in qF_X6_19)) rfl dX6_about_77 ?_
      obtain ⟨v80, h80, h⟩ := cr1_some h
      refine r_callV (As := []) (rest := []) (st1 := [.int v80]) hx hb hml hown hts hE hw hl (mc_subR 3 17 (by decide) (mX4_hours l G (by show β + 3 + 17 ≤ _; omega) hR.2.2.2.1 h80)) (cwV 0 hts (zV gV_X6_90) rfl rfl rfl kdX4_hours ⟨Nat.le_of_ble_eq_true rfl, Nat.le_of_ble_eq_true rfl⟩) (by omega) (congrFun hR.2.2.2.1.1 _) rfl rfl rfl rfl (Nat.le_of_ble_eq_true rfl) dX6_about_80 ⟨Nat.zero_le _, Nat.zero_le _⟩ rfl (fun H locs hw => ?_)
      cases h
    refine sw_if h (fun hc2 h => ?_) (fun hc2 h => ?_)
    · rw [hc2]
      refine lv_tableIn (off := 76) (tgt := 84) hx hb dX6_about_8 (by decide) (by decide) rfl (by decide) ?_
      refine lv_aload_n hx hb dX6_about_84 rfl (lv_at hl 0 rfl) ?_
      refine r_get (v := .ref (gA G (β + 3))) hx hb hts hinX6 hown hE hw hn 0 (by decide) (congrFun hR.1 _) rfl 1 (by decide) (hts _ (wz_in qF_X6_19)) rfl dX6_about_85 ?_
      refine r_get (v := .ref (gA G (β + 4))) hx hb hts hinX4 hown hE hw hn 3 (by decide) (congrFun hR.2.2.2.1.1 _) rfl 0 (by decide) (hts _ (wz_in qF_X6_93)) rfl dX6_about_88 ?_
      obtain ⟨v91, h91, h⟩ := cr1_some h
      refine r_callV (As := []) (rest := []) (st1 := [.int v91]) hx hb hml hown hts hE hw hl (mc_subR 4 2 (by decide) (mX5_count l G (by show β + 4 + 2 ≤ _; omega) hR.2.2.2.1.2.1 h91)) (cwV 0 hts (zV gV_X6_82) rfl rfl rfl kdX5_count ⟨Nat.le_of_ble_eq_true rfl, Nat.le_of_ble_eq_true rfl⟩) (by omega) (congrFun hR.2.2.2.1.2.1.1 _) rfl rfl rfl rfl (Nat.le_of_ble_eq_true rfl) dX6_about_91 ⟨Nat.zero_le _, Nat.zero_le _⟩ rfl (fun H locs hw => ?_)
      cases h
    refine sw_if h (fun hc3 h => ?_) (fun hc3 h => ?_)
    · rw [hc3]
      refine lv_tableIn (off := 87) (tgt := 95) hx hb dX6_about_8 (by decide) (by decide) rfl (by decide) ?_
      refine lv_aload_n hx hb dX6_about_95 rfl (lv_at hl 0 rfl) ?_
      refine r_get (v := .ref (gA G (β + 3))) hx hb hts hinX6 hown hE hw hn 0 (by decide) (congrFun hR.1 _) rfl 1 (by decide) (hts _ (wz_in qF_X6_19)) rfl dX6_about_96 ?_
      refine r_get (v := .ref (gA G (β + 6))) hx hb hts hinX4 hown hE hw hn 3 (by decide) (congrFun hR.2.2.2.1.1 _) rfl 1 (by decide) (hts _ (wz_in qF_X6_96)) rfl dX6_about_99 ?_
      obtain ⟨v102, h102, h⟩ := cr1_some h
      refine r_callV (As := []) (rest := []) (st1 := [.int v102]) hx hb hml hown hts hE hw hl (mc_subR 6 2 (by decide) (mX5_count l G (by show β + 6 + 2 ≤ _; omega) hR.2.2.2.1.2.2.1 h102)) (cwV 0 hts (zV gV_X6_82) rfl rfl rfl kdX5_count ⟨Nat.le_of_ble_eq_true rfl, Nat.le_of_ble_eq_true rfl⟩) (by omega) (congrFun hR.2.2.2.1.2.2.1.1 _) rfl rfl rfl rfl (Nat.le_of_ble_eq_true rfl) dX6_about_102 ⟨Nat.zero_le _, Nat.zero_le _⟩ rfl (fun H locs hw => ?_)
      cases h
    refine sw_if h (fun hc4 h => ?_) (fun hc4 h => ?_)
    · rw [hc4]
      refine lv_tableIn (off := 98) (tgt := 106) hx hb dX6_about_8 (by decide) (by decide) rfl (by decide) ?_
      refine lv_aload_n hx hb dX6_about_106 rfl (lv_at hl 0 rfl) ?_
      refine r_get (v := .ref (gA G (β + 3))) hx hb hts hinX6 hown hE hw hn 0 (by decide) (congrFun hR.1 _) rfl 1 (by decide) (hts _ (wz_in qF_X6_19)) rfl dX6_about_107 ?_
      refine r_get (v := .ref (gA G (β + 8))) hx hb hts hinX4 hown hE hw hn 3 (by decide) (congrFun hR.2.2.2.1.1 _) rfl 2 (by decide) (hts _ (wz_in qF_X6_99)) rfl dX6_about_110 ?_
      obtain ⟨v113, h113, h⟩ := cr1_some h
      refine r_callV (As := []) (rest := []) (st1 := [.int v113]) hx hb hml hown hts hE hw hl (mc_subR 8 2 (by decide) (mX5_count l G (by show β + 8 + 2 ≤ _; omega) hR.2.2.2.1.2.2.2.1 h113)) (cwV 0 hts (zV gV_X6_82) rfl rfl rfl kdX5_count ⟨Nat.le_of_ble_eq_true rfl, Nat.le_of_ble_eq_true rfl⟩) (by omega) (congrFun hR.2.2.2.1.2.2.2.1.1 _) rfl rfl rfl rfl (Nat.le_of_ble_eq_true rfl) dX6_about_113 ⟨Nat.zero_le _, Nat.zero_le _⟩ rfl (fun H locs hw => ?_)
      cases h
    refine sw_if h (fun hc5 h => ?_) (fun hc5 h => ?_)
    · rw [hc5]
      refine lv_tableIn (off := 109) (tgt := 117) hx hb dX6_about_8 (by decide) (by decide) rfl (by decide) ?_
      refine lv_aload_n hx hb dX6_about_117 rfl (lv_at hl 0 rfl) ?_
      refine r_get (v := .ref (gA G (β + 3))) hx hb hts hinX6 hown hE hw hn 0 (by decide) (congrFun hR.1 _) rfl 1 (by decide) (hts _ (wz_in qF_X6_19)) rfl dX6_about_118 ?_
      refine r_get (v := .ref (gA G (β + 10))) hx hb hts hinX4 hown hE hw hn 3 (by decide) (congrFun hR.2.2.2.1.1 _) rfl 3 (by decide) (hts _ (wz_in qF_X6_102)) rfl dX6_about_121 ?_
      obtain ⟨v124, h124, h⟩ := cr1_some h
      refine r_callV (As := []) (rest := []) (st1 := [.int v124]) hx hb hml hown hts hE hw hl (mc_subR 10 2 (by decide) (mX5_count l G (by show β + 10 + 2 ≤ _; omega) hR.2.2.2.1.2.2.2.2.1 h124)) (cwV 0 hts (zV gV_X6_82) rfl rfl rfl kdX5_count ⟨Nat.le_of_ble_eq_true rfl, Nat.le_of_ble_eq_true rfl⟩) (by omega) (congrFun hR.2.2.2.1.2.2.2.2.1.1 _) rfl rfl rfl rfl (Nat.le_of_ble_eq_true rfl) dX6_about_124 ⟨Nat.zero_le _, Nat.zero_le _⟩ rfl (fun H locs hw => ?_)
      cases h
    refine sw_if h (fun hc6 h => ?_) (fun hc6 h => ?_)
    · rw [hc6]
      refine lv_tableIn (off := 120) (tgt := 128) hx hb dX6_about_8 (by decide) (by decide) rfl (by decide) ?_
      refine lv_aload_n hx hb dX6_about_128 rfl (lv_at hl 0 rfl) ?_
      refine r_get (v := .ref (gA G (β + 3))) hx hb hts hinX6 hown hE hw hn 0 (by decide) (congrFun hR.1 _) rfl 1 (by decide) (hts _ (wz_in qF_X6_19)) rfl dX6_about_129 ?_
      refine r_get (v := .ref (gA G (β + 12))) hx hb hts hinX4 hown hE hw hn 3 (by decide) (congrFun hR.2.2.2.1.1 _) rfl 4 (by decide) (hts _ (wz_in qF_X6_78)) rfl dX6_about_132 ?_
      obtain ⟨v135, h135, h⟩ := cr1_some h
      refine r_callV (As := []) (rest := []) (st1 := [.int v135]) hx hb hml hown hts hE hw hl (mc_subR 12 2 (by decide) (mX5_count l G (by show β + 12 + 2 ≤ _; omega) hR.2.2.2.1.2.2.2.2.2.1 h135)) (cwV 0 hts (zV gV_X6_82) rfl rfl rfl kdX5_count ⟨Nat.le_of_ble_eq_true rfl, Nat.le_of_ble_eq_true rfl⟩) (by omega) (congrFun hR.2.2.2.1.2.2.2.2.2.1.1 _) rfl rfl rfl rfl (Nat.le_of_ble_eq_true rfl) dX6_about_135 ⟨Nat.zero_le _, Nat.zero_le _⟩ rfl (fun H locs hw => ?_)
      cases h
    refine sw_if h (fun hc7 h => ?_) (fun hc7 h => ?_)
    · rw [hc7]
      refine lv_tableIn (off := 131) (tgt := 139) hx hb dX6_about_8 (by decide) (by decide) rfl (by decide) ?_
      refine lv_aload_n hx hb dX6_about_139 rfl (lv_at hl 0 rfl) ?_
      refine r_get (v := .ref (gA G (β + 3))) hx hb hts hinX6 hown hE hw hn 0 (by decide) (congrFun hR.1 _) rfl 1 (by decide) (hts _ (wz_in qF_X6_19)) rfl dX6_about_140 ?_
      refine lv_iconst (v := (nI 2)) hx hb dX6_about_143 (by decide) ?_
      obtain ⟨v144, h144, h⟩ := cr1_some h
      refine r_callV (As := [.int (nI 2)]) (rest := []) (st1 := [.int v144]) hx hb hml hown hts hE hw hl (mc_subR 3 17 (by decide) (mX4_howMany l G (by show β + 3 + 17 ≤ _; omega) hR.2.2.2.1 h144)) (cwV 1 hts (zV gV_X6_105) rfl rfl rfl kdX4_howMany ⟨Nat.le_of_ble_eq_true rfl, Nat.le_of_ble_eq_true rfl⟩) (by omega) (congrFun hR.2.2.2.1.1 _) rfl rfl rfl rfl (Nat.le_of_ble_eq_true rfl) dX6_about_144 ⟨Nat.zero_le _, Nat.zero_le _⟩ rfl (fun H locs hw => ?_)
      cases h
    refine sw_if h (fun hc8 h => ?_) (fun hc8 h => ?_)
    · rw [hc8]
      refine lv_tableIn (off := 140) (tgt := 148) hx hb dX6_about_8 (by decide) (by decide) rfl (by decide) ?_
      refine lv_aload_n hx hb dX6_about_148 rfl (lv_at hl 0 rfl) ?_
      refine r_get (v := .ref (gA G (β + 3))) hx hb hts hinX6 hown hE hw hn 0 (by decide) (congrFun hR.1 _) rfl 1 (by decide) (hts _ (wz_in qF_X6_19)) rfl dX6_about_149 ?_
      refine lv_iconst (v := (nI 1)) hx hb dX6_about_152 (by decide) ?_
      obtain ⟨v153, h153, h⟩ := cr1_some h
      refine r_callV (As := [.int (nI 1)]) (rest := []) (st1 := [.int v153]) hx hb hml hown hts hE hw hl (mc_subR 3 17 (by decide) (mX4_howMany l G (by show β + 3 + 17 ≤ _; omega) hR.2.2.2.1 h153)) (cwV 1 hts (zV gV_X6_105) rfl rfl rfl kdX4_howMany ⟨Nat.le_of_ble_eq_true rfl, Nat.le_of_ble_eq_true rfl⟩) (by omega) (congrFun hR.2.2.2.1.1 _) rfl rfl rfl rfl (Nat.le_of_ble_eq_true rfl) dX6_about_153 ⟨Nat.zero_le _, Nat.zero_le _⟩ rfl (fun H locs hw => ?_)
      cases h
    refine sw_if h (fun hc9 h => ?_) (fun hc9 h => ?_)
    · rw [hc9]
      refine lv_tableIn (off := 149) (tgt := 157) hx hb dX6_about_8 (by decide) (by decide) rfl (by decide) ?_
      refine lv_aload_n hx hb dX6_about_157 rfl (lv_at hl 0 rfl) ?_
      refine r_get (v := .ref (gA G (β + 3))) hx hb hts hinX6 hown hE hw hn 0 (by decide) (congrFun hR.1 _) rfl 1 (by decide) (hts _ (wz_in qF_X6_19)) rfl dX6_about_158 ?_
      refine r_get (v := .ref (gA G (β + 12))) hx hb hts hinX4 hown hE hw hn 3 (by decide) (congrFun hR.2.2.2.1.1 _) rfl 4 (by decide) (hts _ (wz_in qF_X6_78)) rfl dX6_about_161 ?_
      refine lv_iconst (v := (nI 3)) hx hb dX6_about_164 (by decide) ?_
      obtain ⟨v165, h165, h⟩ := cr1_some h
      refine r_callV (As := [.int (nI 3)]) (rest := []) (st1 := [.int v165]) hx hb hml hown hts hE hw hl (mc_subR 12 2 (by decide) (mX5_sum l G (by show β + 12 + 2 ≤ _; omega) hR.2.2.2.1.2.2.2.2.2.1 h165)) (cwV 1 hts (zV gV_X6_109) rfl rfl rfl kdX5_sum ⟨Nat.le_of_ble_eq_true rfl, Nat.le_of_ble_eq_true rfl⟩) (by omega) (congrFun hR.2.2.2.1.2.2.2.2.2.1.1 _) rfl rfl rfl rfl (Nat.le_of_ble_eq_true rfl) dX6_about_165 ⟨Nat.zero_le _, Nat.zero_le _⟩ rfl (fun H locs hw => ?_)
      cases h
    refine sw_if h (fun hc10 h => ?_) (fun hc10 h => ?_)
    · rw [hc10]
      refine lv_tableIn (off := 161) (tgt := 169) hx hb dX6_about_8 (by decide) (by decide) rfl (by decide) ?_
      refine lv_aload_n hx hb dX6_about_169 rfl (lv_at hl 0 rfl) ?_
      refine r_get (v := .ref (gA G (β + 3))) hx hb hts hinX6 hown hE hw hn 0 (by decide) (congrFun hR.1 _) rfl 1 (by decide) (hts _ (wz_in qF_X6_19)) rfl dX6_about_170 ?_
      refine r_get (v := .ref (gA G (β + 8))) hx hb hts hinX4 hown hE hw hn 3 (by decide) (congrFun hR.2.2.2.1.1 _) rfl 2 (by decide) (hts _ (wz_in qF_X6_99)) rfl dX6_about_173 ?_
      refine lv_iconst (v := (nI 1)) hx hb dX6_about_176 (by decide) ?_
      obtain ⟨v177, h177, h⟩ := cr1_some h
      refine r_callV (As := [.int (nI 1)]) (rest := []) (st1 := [.int v177]) hx hb hml hown hts hE hw hl (mc_subR 8 2 (by decide) (mX5_sum l G (by show β + 8 + 2 ≤ _; omega) hR.2.2.2.1.2.2.2.1 h177)) (cwV 1 hts (zV gV_X6_109) rfl rfl rfl kdX5_sum ⟨Nat.le_of_ble_eq_true rfl, Nat.le_of_ble_eq_true rfl⟩) (by omega) (congrFun hR.2.2.2.1.2.2.2.1.1 _) rfl rfl rfl rfl (Nat.le_of_ble_eq_true rfl) dX6_about_177 ⟨Nat.zero_le _, Nat.zero_le _⟩ rfl (fun H locs hw => ?_)
      cases h
    · refine lv_tableOut (tgt := 181) hx hb dX6_about_8 (by have q0 := lv_neT hc0 (by decide : ((nI 0) : Int32).toInt = 0); have q1 := lv_neT hc1 (by decide : ((nI 1) : Int32).toInt = 1); have q2 := lv_neT hc2 (by decide : ((nI 2) : Int32).toInt = 2); have q3 := lv_neT hc3 (by decide : ((nI 3) : Int32).toInt = 3); have q4 := lv_neT hc4 (by decide : ((nI 4) : Int32).toInt = 4); have q5 := lv_neT hc5 (by decide : ((nI 5) : Int32).toInt = 5); have q6 := lv_neT hc6 (by decide : ((nI 6) : Int32).toInt = 6); have q7 := lv_neT hc7 (by decide : ((nI 7) : Int32).toInt = 7); have q8 := lv_neT hc8 (by decide : ((nI 8) : Int32).toInt = 8); have q9 := lv_neT hc9 (by decide : ((nI 9) : Int32).toInt = 9); have q10 := lv_neT hc10 (by decide : ((nI 10) : Int32).toInt = 10); omega) (by decide) ?_
      refine lv_aload_n hx hb dX6_about_181 rfl (lv_at hl 0 rfl) ?_
      refine r_get (v := .ref (gA G (β + 3))) hx hb hts hinX6 hown hE hw hn 0 (by decide) (congrFun hR.1 _) rfl 1 (by decide) (hts _ (wz_in qF_X6_19)) rfl dX6_about_182 ?_
      refine r_get (v := .ref (gA G (β + 12))) hx hb hts hinX4 hown hE hw hn 3 (by decide) (congrFun hR.2.2.2.1.1 _) rfl 4 (by decide) (hts _ (wz_in qF_X6_78)) rfl dX6_about_185 ?_
      refine lv_bipush (v := (nI 6)) hx hb dX6_about_188 (by decide) ?_
      obtain ⟨v190, h190, h⟩ := cr1_some h
      refine r_callV (As := [.int (nI 6)]) (rest := []) (st1 := [.int v190]) hx hb hml hown hts hE hw hl (mc_subR 12 2 (by decide) (mX5_sum l G (by show β + 12 + 2 ≤ _; omega) hR.2.2.2.1.2.2.2.2.2.1 h190)) (cwV 1 hts (zV gV_X6_109) rfl rfl rfl kdX5_sum ⟨Nat.le_of_ble_eq_true rfl, Nat.le_of_ble_eq_true rfl⟩) (by omega) (congrFun hR.2.2.2.1.2.2.2.2.2.1.1 _) rfl rfl rfl rfl (Nat.le_of_ble_eq_true rfl) dX6_about_190 ⟨Nat.zero_le _, Nat.zero_le _⟩ rfl (fun H locs hw => ?_)
      cases h
  · rw [← Sum.inr.inj (Option.some.inj h)]
    exact x_callS (As := [.int a1, .int (nI 0), .int (nI 11)]) (rest := []) hx hb hml hown hts hE hw hl (xX6_checkRange l hfl G (M := (wB M β 316 S)) h4) (va_cwS 3 hts (zS gS_X6_45) rfl rfl rfl kdX6_checkRange ⟨Nat.le_of_ble_eq_true rfl, Nat.le_of_ble_eq_true rfl⟩) rfl rfl (Nat.le_of_ble_eq_true rfl) dX6_about_4 ⟨Nat.le_refl _, Nat.le_refl _⟩ hout hlocks

set_option maxHeartbeats 4000000 in
set_option maxRecDepth 100000 in
theorem mX6_checkExists (l : Launch) (G : mG) {β : Nat} {M S : mM} {n : Nat} {a2 : Int32} (hn : β + 2 ≤ gN G) (hR : isTab G β n) (h : pX6_checkExists n a2 S = some none) : MC l G yX6_checkExists zzX6_checkExists 1 21 [.ref (gA G (β + 0)), .int a2] (wB M β 2 S) (wB M β 2 S) none := by
  refine mc_of (cc := cX6_checkExists) (maxL := 2) (ret := none) (by decide) rfl (Nat.le_of_ble_eq_true rfl) ?_
  intro p e s m args below meth c H ls hx hb hr hts hown hml hlocks hE hw hl
  have hl : lv_has ls 2 [(0, .ref (gA G (β + 0))), (1, .int a2)] := hl
  unfold pX6_checkExists at h
  refine lv_aload_n hx hb dX6_checkExists_0 rfl (lv_at hl 0 rfl) ?_
  refine lv_iload_n hx hb dX6_checkExists_1 rfl (lv_at hl 1 rfl) ?_
  obtain ⟨v2, h2, h⟩ := cr1_some h
  refine r_callV (As := [.int a2]) (rest := []) (st1 := [.int v2]) hx hb hml hown hts hE hw hl (mX5_has l G (by omega) hR h2) (cwV 1 hts (zV gV_X6_231) rfl rfl rfl kdX5_has ⟨Nat.le_of_ble_eq_true rfl, Nat.le_of_ble_eq_true rfl⟩) (by omega) (congrFun hR.1 _) rfl rfl rfl rfl (Nat.le_of_ble_eq_true rfl) dX6_checkExists_2 ⟨Nat.zero_le _, Nat.zero_le _⟩ rfl (fun H locs hw => ?_)
  refine b_ne (tgt := 18) hx hb dX6_checkExists_5 (by decide) h (fun h => ?_) (fun h => ?_)
  · cases h
    exact r_vret hx hb hr hlocks hw dX6_checkExists_18
  · cases h
set_option maxHeartbeats 4000000 in
set_option maxRecDepth 100000 in
theorem xX6_checkExists (l : Launch) (hfl : l.stackTraces = false) (G : mG) {β : Nat} {M S : mM} {n : Nat} {a2 : Int32} {E : String} (hn : β + 2 ≤ gN G) (hR : isTab G β n) (h : pX6_checkExists n a2 S = some (some E)) : MX l G yX6_checkExists zzX6_checkExists 6 82 [.ref (gA G (β + 0)), .int a2] (wB M β 2 S) (wB M β 2 S) E := by
  refine mx_of (cc := cX6_checkExists) (maxL := 2) (ret := none) (by decide) rfl (Nat.le_of_ble_eq_true rfl) ?_
  intro p e s m args below meth c H ls hx hb hr hts hown hml hlocks hout hE hw _ hl
  have hl : lv_has ls 2 [(0, .ref (gA G (β + 0))), (1, .int a2)] := hl
  unfold pX6_checkExists at h
  refine lv_aload_n hx hb dX6_checkExists_0 rfl (lv_at hl 0 rfl) ?_
  refine lv_iload_n hx hb dX6_checkExists_1 rfl (lv_at hl 1 rfl) ?_
  obtain ⟨v2, h2, h⟩ := cr1_some h
  refine r_callV (As := [.int a2]) (rest := []) (st1 := [.int v2]) hx hb hml hown hts hE hw hl (mX5_has l G (by omega) hR h2) (cwV 1 hts (zV gV_X6_231) rfl rfl rfl kdX5_has ⟨Nat.le_of_ble_eq_true rfl, Nat.le_of_ble_eq_true rfl⟩) (by omega) (congrFun hR.1 _) rfl rfl rfl rfl (Nat.le_of_ble_eq_true rfl) dX6_checkExists_2 ⟨Nat.zero_le _, Nat.zero_le _⟩ rfl (fun H locs hw => ?_)
  refine b_ne (tgt := 18) hx hb dX6_checkExists_5 (by decide) h (fun h => ?_) (fun h => ?_)
  · cases h
  · cases h
    exact x_throw (B := exB "java/lang/IndexOutOfBoundsException") (names := ["java/lang/RuntimeException", "java/lang/Exception"]) hx hb hfl hml hl hown (by decide +kernel) (by decide +kernel) (hts _ (wz_in qL_X6_234)) (hts _ (wz_in qN_java_lang_IndexOutOfBoundsException)) hE.2.2.2.2.1.1 (fun w hw9 => hts w (wz_in (ex238_g w hw9))) ex238_b (vx_c (va_Nw.use rfl hE.2.2.2.2.2.2.1) (vx_c (va_Nw.use rfl hE.2.2.2.2.2.2.2.2.2.1) (vx_c (va_Nw.use rfl hE.2.2.2.2.2.2.2.2.2.2.1) (vx_c (va_Nw.use rfl hE.2.2.2.2.2.2.2.2.2.2.2) vx_n)))) ex238_o hE hw dX6_checkExists_8 dX6_checkExists_11 dX6_checkExists_12 dX6_checkExists_14 dX6_checkExists_17 hout (Nat.le_of_ble_eq_true rfl) (Nat.le_of_ble_eq_true rfl) (Nat.le_refl _) (Nat.le_refl _) hlocks

set_option maxHeartbeats 4000000 in
set_option maxRecDepth 100000 in
theorem mX6_convoy (l : Launch) (G : mG) {β : Nat} {M S : mM} {a1 : Int32} {a2 : Int32} {r : Int32} (hn : β + 316 ≤ gN G) (hR : isWR G β) (h : pX6_convoy a1 a2 S = some (.inl r)) : MC l G yX6_convoy zzX6_convoy 2 48 [.ref (gA G (β + 0)), .int a1, .int a2] (wB M β 316 S) (wB M β 316 S) (some (.int r)) := by
  refine mc_of (cc := cX6_convoy) (maxL := 3) (ret := (some .int)) (by decide) rfl (Nat.le_of_ble_eq_true rfl) ?_
  intro p e s m args below meth c H ls hx hb hr hts hown hml hlocks hE hw hl
  have hl : lv_has ls 3 [(0, .ref (gA G (β + 0))), (1, .int a1), (2, .int a2)] := hl
  have hinX4 : ∀ w ∈ wsX40, w ∈ zzX6_convoy := fun w h9 => wz_in (zinX4 w h9)
  have hinX6 : ∀ w ∈ wsX60, w ∈ zzX6_convoy := fun w h9 => wz_in (zinX6 w h9)
  unfold pX6_convoy at h
  refine lv_aload_n hx hb dX6_convoy_0 rfl (lv_at hl 0 rfl) ?_
  refine r_get (v := .ref (gA G (β + 3))) hx hb hts hinX6 hown hE hw hn 0 (by decide) (congrFun hR.1 _) rfl 1 (by decide) (hts _ (wz_in qF_X6_19)) rfl dX6_convoy_1 ?_
  refine r_get (v := .ref (gA G (β + 10))) hx hb hts hinX4 hown hE hw hn 3 (by decide) (congrFun hR.2.2.2.1.1 _) rfl 3 (by decide) (hts _ (wz_in qF_X6_102)) rfl dX6_convoy_4 ?_
  refine lv_iload_n hx hb dX6_convoy_7 rfl (lv_at hl 1 rfl) ?_
  rcases bx_some h with ⟨h8, h⟩ | ⟨E8, h8, h⟩
  · refine r_callS (As := [.ref (gA G (β + 10)), .int a1]) (rest := []) (st1 := []) hx hb hml hown hts hE hw hl (mc_subR 10 2 (by decide) (mX6_checkExists l G (by show β + 10 + 2 ≤ _; omega) hR.2.2.2.1.2.2.2.2.1 h8)) (va_cwS 2 hts (zS gS_X6_112) rfl rfl rfl kdX6_checkExists ⟨Nat.le_of_ble_eq_true rfl, Nat.le_of_ble_eq_true rfl⟩) rfl rfl (Nat.le_of_ble_eq_true rfl) dX6_convoy_8 ⟨Nat.zero_le _, Nat.zero_le _⟩ rfl (fun H locs hw => ?_)
    refine lv_iload_n hx hb dX6_convoy_11 rfl (lv_at hl 2 rfl) ?_
    refine lv_iconst (v := (nI 0)) hx hb dX6_convoy_12 (by decide) ?_
    refine lv_bipush (v := (nI 7)) hx hb dX6_convoy_13 (by decide) ?_
    rcases bx_some h with ⟨h15, h⟩ | ⟨E15, h15, h⟩
    · refine r_callS (As := [.int a2, .int (nI 0), .int (nI 7)]) (rest := []) (st1 := []) hx hb hml hown hts hE hw hl (mX6_checkRange l G (M := (wB M β 316 S)) h15) (va_cwS 3 hts (zS gS_X6_45) rfl rfl rfl kdX6_checkRange ⟨Nat.le_of_ble_eq_true rfl, Nat.le_of_ble_eq_true rfl⟩) rfl rfl (Nat.le_of_ble_eq_true rfl) dX6_convoy_15 ⟨Nat.zero_le _, Nat.zero_le _⟩ rfl (fun H locs hw => ?_)
      refine lv_iload_n hx hb dX6_convoy_18 rfl (lv_at hl 2 rfl) ?_
      refine sw_if h (fun hc0 h => ?_) (fun hc0 h => ?_)
      · rw [hc0]
        refine lv_tableIn (off := 41) (tgt := 60) hx hb dX6_convoy_19 (by decide) (by decide) rfl (by decide) ?_
        refine lv_aload_n hx hb dX6_convoy_60 rfl (lv_at hl 0 rfl) ?_
        refine r_get (v := .ref (gA G (β + 3))) hx hb hts hinX6 hown hE hw hn 0 (by decide) (congrFun hR.1 _) rfl 1 (by decide) (hts _ (wz_in qF_X6_19)) rfl dX6_convoy_61 ?_
        refine r_get (v := .ref (gA G (β + 10))) hx hb hts hinX4 hown hE hw hn 3 (by decide) (congrFun hR.2.2.2.1.1 _) rfl 3 (by decide) (hts _ (wz_in qF_X6_102)) rfl dX6_convoy_64 ?_
        refine lv_iload_n hx hb dX6_convoy_67 rfl (lv_at hl 1 rfl) ?_
        refine lv_iconst (v := (nI 0)) hx hb dX6_convoy_68 (by decide) ?_
        obtain ⟨v69, h69, h⟩ := cr1_some h
        refine r_callV (As := [.int a1, .int (nI 0)]) (rest := []) (st1 := [.int v69]) hx hb hml hown hts hE hw hl (mc_subR 10 2 (by decide) (mX5_get l G (by show β + 10 + 2 ≤ _; omega) hR.2.2.2.1.2.2.2.2.1 h69)) (cwV 2 hts (zV gV_X6_116) rfl rfl rfl kdX5_get ⟨Nat.le_of_ble_eq_true rfl, Nat.le_of_ble_eq_true rfl⟩) (by omega) (congrFun hR.2.2.2.1.2.2.2.2.1.1 _) rfl rfl rfl rfl (Nat.le_of_ble_eq_true rfl) dX6_convoy_69 ⟨Nat.zero_le _, Nat.zero_le _⟩ rfl (fun H locs hw => ?_)
        cases h
        exact r_iret hx hb hr hlocks hw dX6_convoy_72
      refine sw_if h (fun hc1 h => ?_) (fun hc1 h => ?_)
      · rw [hc1]
        refine lv_tableIn (off := 54) (tgt := 73) hx hb dX6_convoy_19 (by decide) (by decide) rfl (by decide) ?_
        refine lv_aload_n hx hb dX6_convoy_73 rfl (lv_at hl 0 rfl) ?_
        refine r_get (v := .ref (gA G (β + 3))) hx hb hts hinX6 hown hE hw hn 0 (by decide) (congrFun hR.1 _) rfl 1 (by decide) (hts _ (wz_in qF_X6_19)) rfl dX6_convoy_74 ?_
        refine r_get (v := .ref (gA G (β + 14))) hx hb hts hinX4 hown hE hw hn 3 (by decide) (congrFun hR.2.2.2.1.1 _) rfl 5 (by decide) (hts _ (wz_in qF_X6_120)) rfl dX6_convoy_77 ?_
        refine lv_iload_n hx hb dX6_convoy_80 rfl (lv_at hl 1 rfl) ?_
        obtain ⟨v81, h81, h⟩ := cr1_some h
        refine r_callV (As := [.int a1]) (rest := []) (st1 := [.int v81]) hx hb hml hown hts hE hw hl (mc_subR 14 3 (by decide) (mX2_size l G (by show β + 14 + 3 ≤ _; omega) hR.2.2.2.1.2.2.2.2.2.2.1 h81)) (cwV 1 hts (zV gV_X6_124) rfl rfl rfl kdX2_size ⟨Nat.le_of_ble_eq_true rfl, Nat.le_of_ble_eq_true rfl⟩) (by omega) (congrFun hR.2.2.2.1.2.2.2.2.2.2.1.1 _) rfl rfl rfl rfl (Nat.le_of_ble_eq_true rfl) dX6_convoy_81 ⟨Nat.zero_le _, Nat.zero_le _⟩ rfl (fun H locs hw => ?_)
        cases h
        exact r_iret hx hb hr hlocks hw dX6_convoy_84
      refine sw_if h (fun hc2 h => ?_) (fun hc2 h => ?_)
      · rw [hc2]
        refine lv_tableIn (off := 66) (tgt := 85) hx hb dX6_convoy_19 (by decide) (by decide) rfl (by decide) ?_
        refine lv_aload_n hx hb dX6_convoy_85 rfl (lv_at hl 0 rfl) ?_
        refine r_get (v := .ref (gA G (β + 3))) hx hb hts hinX6 hown hE hw hn 0 (by decide) (congrFun hR.1 _) rfl 1 (by decide) (hts _ (wz_in qF_X6_19)) rfl dX6_convoy_86 ?_
        refine lv_iload_n hx hb dX6_convoy_89 rfl (lv_at hl 1 rfl) ?_
        obtain ⟨v90, h90, h⟩ := cr1_some h
        refine r_callV (As := [.int a1]) (rest := []) (st1 := [.int v90]) hx hb hml hown hts hE hw hl (mc_subR 3 17 (by decide) (mX4_slowestSpeed l G (by show β + 3 + 17 ≤ _; omega) hR.2.2.2.1 h90)) (cwV 1 hts (zV gV_X6_129) rfl rfl rfl kdX4_slowestSpeed ⟨Nat.le_of_ble_eq_true rfl, Nat.le_of_ble_eq_true rfl⟩) (by omega) (congrFun hR.2.2.2.1.1 _) rfl rfl rfl rfl (Nat.le_of_ble_eq_true rfl) dX6_convoy_90 ⟨Nat.zero_le _, Nat.zero_le _⟩ rfl (fun H locs hw => ?_)
        cases h
        exact r_iret hx hb hr hlocks hw dX6_convoy_93
      refine sw_if h (fun hc3 h => ?_) (fun hc3 h => ?_)
      · rw [hc3]
        refine lv_tableIn (off := 75) (tgt := 94) hx hb dX6_convoy_19 (by decide) (by decide) rfl (by decide) ?_
        refine lv_aload_n hx hb dX6_convoy_94 rfl (lv_at hl 0 rfl) ?_
        refine r_get (v := .ref (gA G (β + 3))) hx hb hts hinX6 hown hE hw hn 0 (by decide) (congrFun hR.1 _) rfl 1 (by decide) (hts _ (wz_in qF_X6_19)) rfl dX6_convoy_95 ?_
        refine r_get (v := .ref (gA G (β + 10))) hx hb hts hinX4 hown hE hw hn 3 (by decide) (congrFun hR.2.2.2.1.1 _) rfl 3 (by decide) (hts _ (wz_in qF_X6_102)) rfl dX6_convoy_98 ?_
        refine lv_iload_n hx hb dX6_convoy_101 rfl (lv_at hl 1 rfl) ?_
        refine lv_iconst (v := (nI 1)) hx hb dX6_convoy_102 (by decide) ?_
        obtain ⟨v103, h103, h⟩ := cr1_some h
        refine r_callV (As := [.int a1, .int (nI 1)]) (rest := []) (st1 := [.int v103]) hx hb hml hown hts hE hw hl (mc_subR 10 2 (by decide) (mX5_get l G (by show β + 10 + 2 ≤ _; omega) hR.2.2.2.1.2.2.2.2.1 h103)) (cwV 2 hts (zV gV_X6_116) rfl rfl rfl kdX5_get ⟨Nat.le_of_ble_eq_true rfl, Nat.le_of_ble_eq_true rfl⟩) (by omega) (congrFun hR.2.2.2.1.2.2.2.2.1.1 _) rfl rfl rfl rfl (Nat.le_of_ble_eq_true rfl) dX6_convoy_103 ⟨Nat.zero_le _, Nat.zero_le _⟩ rfl (fun H locs hw => ?_)
        cases h
        exact r_iret hx hb hr hlocks hw dX6_convoy_106
      refine sw_if h (fun hc4 h => ?_) (fun hc4 h => ?_)
      · rw [hc4]
        refine lv_tableIn (off := 88) (tgt := 107) hx hb dX6_convoy_19 (by decide) (by decide) rfl (by decide) ?_
        refine lv_aload_n hx hb dX6_convoy_107 rfl (lv_at hl 0 rfl) ?_
        refine r_get (v := .ref (gA G (β + 3))) hx hb hts hinX6 hown hE hw hn 0 (by decide) (congrFun hR.1 _) rfl 1 (by decide) (hts _ (wz_in qF_X6_19)) rfl dX6_convoy_108 ?_
        refine r_get (v := .ref (gA G (β + 10))) hx hb hts hinX4 hown hE hw hn 3 (by decide) (congrFun hR.2.2.2.1.1 _) rfl 3 (by decide) (hts _ (wz_in qF_X6_102)) rfl dX6_convoy_111 ?_
        refine lv_iload_n hx hb dX6_convoy_114 rfl (lv_at hl 1 rfl) ?_
        refine lv_iconst (v := (nI 2)) hx hb dX6_convoy_115 (by decide) ?_
        obtain ⟨v116, h116, h⟩ := cr1_some h
        refine r_callV (As := [.int a1, .int (nI 2)]) (rest := []) (st1 := [.int v116]) hx hb hml hown hts hE hw hl (mc_subR 10 2 (by decide) (mX5_get l G (by show β + 10 + 2 ≤ _; omega) hR.2.2.2.1.2.2.2.2.1 h116)) (cwV 2 hts (zV gV_X6_116) rfl rfl rfl kdX5_get ⟨Nat.le_of_ble_eq_true rfl, Nat.le_of_ble_eq_true rfl⟩) (by omega) (congrFun hR.2.2.2.1.2.2.2.2.1.1 _) rfl rfl rfl rfl (Nat.le_of_ble_eq_true rfl) dX6_convoy_116 ⟨Nat.zero_le _, Nat.zero_le _⟩ rfl (fun H locs hw => ?_)
        cases h
        exact r_iret hx hb hr hlocks hw dX6_convoy_119
      refine sw_if h (fun hc5 h => ?_) (fun hc5 h => ?_)
      · rw [hc5]
        refine lv_tableIn (off := 101) (tgt := 120) hx hb dX6_convoy_19 (by decide) (by decide) rfl (by decide) ?_
        refine lv_aload_n hx hb dX6_convoy_120 rfl (lv_at hl 0 rfl) ?_
        refine r_get (v := .ref (gA G (β + 3))) hx hb hts hinX6 hown hE hw hn 0 (by decide) (congrFun hR.1 _) rfl 1 (by decide) (hts _ (wz_in qF_X6_19)) rfl dX6_convoy_121 ?_
        refine r_get (v := .ref (gA G (β + 10))) hx hb hts hinX4 hown hE hw hn 3 (by decide) (congrFun hR.2.2.2.1.1 _) rfl 3 (by decide) (hts _ (wz_in qF_X6_102)) rfl dX6_convoy_124 ?_
        refine lv_iload_n hx hb dX6_convoy_127 rfl (lv_at hl 1 rfl) ?_
        refine lv_iconst (v := (nI 3)) hx hb dX6_convoy_128 (by decide) ?_
        obtain ⟨v129, h129, h⟩ := cr1_some h
        refine r_callV (As := [.int a1, .int (nI 3)]) (rest := []) (st1 := [.int v129]) hx hb hml hown hts hE hw hl (mc_subR 10 2 (by decide) (mX5_get l G (by show β + 10 + 2 ≤ _; omega) hR.2.2.2.1.2.2.2.2.1 h129)) (cwV 2 hts (zV gV_X6_116) rfl rfl rfl kdX5_get ⟨Nat.le_of_ble_eq_true rfl, Nat.le_of_ble_eq_true rfl⟩) (by omega) (congrFun hR.2.2.2.1.2.2.2.2.1.1 _) rfl rfl rfl rfl (Nat.le_of_ble_eq_true rfl) dX6_convoy_129 ⟨Nat.zero_le _, Nat.zero_le _⟩ rfl (fun H locs hw => ?_)
        cases h
        exact r_iret hx hb hr hlocks hw dX6_convoy_132
      refine sw_if h (fun hc6 h => ?_) (fun hc6 h => ?_)
      · rw [hc6]
        refine lv_tableIn (off := 114) (tgt := 133) hx hb dX6_convoy_19 (by decide) (by decide) rfl (by decide) ?_
        refine lv_aload_n hx hb dX6_convoy_133 rfl (lv_at hl 0 rfl) ?_
        refine r_get (v := .ref (gA G (β + 3))) hx hb hts hinX6 hown hE hw hn 0 (by decide) (congrFun hR.1 _) rfl 1 (by decide) (hts _ (wz_in qF_X6_19)) rfl dX6_convoy_134 ?_
        refine lv_iload_n hx hb dX6_convoy_137 rfl (lv_at hl 1 rfl) ?_
        obtain ⟨v138, h138, h⟩ := cr1_some h
        refine r_callV (As := [.int a1]) (rest := []) (st1 := [.int v138]) hx hb hml hown hts hE hw hl (mc_subR 3 17 (by decide) (mX4_litersWith l G (by show β + 3 + 17 ≤ _; omega) hR.2.2.2.1 h138)) (cwV 1 hts (zV gV_X6_132) rfl rfl rfl kdX4_litersWith ⟨Nat.le_of_ble_eq_true rfl, Nat.le_of_ble_eq_true rfl⟩) (by omega) (congrFun hR.2.2.2.1.1 _) rfl rfl rfl rfl (Nat.le_of_ble_eq_true rfl) dX6_convoy_138 ⟨Nat.zero_le _, Nat.zero_le _⟩ rfl (fun H locs hw => ?_)
        cases h
        exact r_iret hx hb hr hlocks hw dX6_convoy_141
      · refine lv_tableOut (tgt := 142) hx hb dX6_convoy_19 (by have q0 := lv_neT hc0 (by decide : ((nI 0) : Int32).toInt = 0); have q1 := lv_neT hc1 (by decide : ((nI 1) : Int32).toInt = 1); have q2 := lv_neT hc2 (by decide : ((nI 2) : Int32).toInt = 2); have q3 := lv_neT hc3 (by decide : ((nI 3) : Int32).toInt = 3); have q4 := lv_neT hc4 (by decide : ((nI 4) : Int32).toInt = 4); have q5 := lv_neT hc5 (by decide : ((nI 5) : Int32).toInt = 5); have q6 := lv_neT hc6 (by decide : ((nI 6) : Int32).toInt = 6); omega) (by decide) ?_
        refine lv_aload_n hx hb dX6_convoy_142 rfl (lv_at hl 0 rfl) ?_
        refine r_get (v := .ref (gA G (β + 3))) hx hb hts hinX6 hown hE hw hn 0 (by decide) (congrFun hR.1 _) rfl 1 (by decide) (hts _ (wz_in qF_X6_19)) rfl dX6_convoy_143 ?_
        refine lv_iload_n hx hb dX6_convoy_146 rfl (lv_at hl 1 rfl) ?_
        obtain ⟨v147, h147, h⟩ := cr1_some h
        refine r_callV (As := [.int a1]) (rest := []) (st1 := [.int v147]) hx hb hml hown hts hE hw hl (mc_subR 3 17 (by decide) (mX4_isAtEnd l G (by show β + 3 + 17 ≤ _; omega) hR.2.2.2.1 h147)) (cwV 1 hts (zV gV_X6_135) rfl rfl rfl kdX4_isAtEnd ⟨Nat.le_of_ble_eq_true rfl, Nat.le_of_ble_eq_true rfl⟩) (by omega) (congrFun hR.2.2.2.1.1 _) rfl rfl rfl rfl (Nat.le_of_ble_eq_true rfl) dX6_convoy_147 ⟨Nat.zero_le _, Nat.zero_le _⟩ rfl (fun H locs hw => ?_)
        refine b_eq (tgt := 157) hx hb dX6_convoy_150 (by decide) h (fun h => ?_) (fun h => ?_)
        · refine lv_iconst (v := (nI 0)) hx hb dX6_convoy_157 (by decide) ?_
          cases h
          exact r_iret hx hb hr hlocks hw dX6_convoy_158
        · refine lv_iconst (v := (nI 1)) hx hb dX6_convoy_153 (by decide) ?_
          refine lv_goto (tgt := 158) hx hb dX6_convoy_154 (by decide) ?_
          cases h
          exact r_iret hx hb hr hlocks hw dX6_convoy_158
    · cases h
  · cases h
set_option maxHeartbeats 4000000 in
set_option maxRecDepth 100000 in
theorem xX6_convoy (l : Launch) (hfl : l.stackTraces = false) (G : mG) {β : Nat} {M S : mM} {a1 : Int32} {a2 : Int32} {E : String} (hn : β + 316 ≤ gN G) (hR : isWR G β) (h : pX6_convoy a1 a2 S = some (.inr E)) : MX l G yX6_convoy zzX6_convoy 8 124 [.ref (gA G (β + 0)), .int a1, .int a2] (wB M β 316 S) (wB M β 316 S) E := by
  refine mx_of (cc := cX6_convoy) (maxL := 3) (ret := (some .int)) (by decide) rfl (Nat.le_of_ble_eq_true rfl) ?_
  intro p e s m args below meth c H ls hx hb hr hts hown hml hlocks hout hE hw _ hl
  have hl : lv_has ls 3 [(0, .ref (gA G (β + 0))), (1, .int a1), (2, .int a2)] := hl
  have hinX4 : ∀ w ∈ wsX40, w ∈ zzX6_convoy := fun w h9 => wz_in (zinX4 w h9)
  have hinX6 : ∀ w ∈ wsX60, w ∈ zzX6_convoy := fun w h9 => wz_in (zinX6 w h9)
  unfold pX6_convoy at h
  refine lv_aload_n hx hb dX6_convoy_0 rfl (lv_at hl 0 rfl) ?_
  refine r_get (v := .ref (gA G (β + 3))) hx hb hts hinX6 hown hE hw hn 0 (by decide) (congrFun hR.1 _) rfl 1 (by decide) (hts _ (wz_in qF_X6_19)) rfl dX6_convoy_1 ?_
  refine r_get (v := .ref (gA G (β + 10))) hx hb hts hinX4 hown hE hw hn 3 (by decide) (congrFun hR.2.2.2.1.1 _) rfl 3 (by decide) (hts _ (wz_in qF_X6_102)) rfl dX6_convoy_4 ?_
  refine lv_iload_n hx hb dX6_convoy_7 rfl (lv_at hl 1 rfl) ?_
  rcases bx_some h with ⟨h8, h⟩ | ⟨E8, h8, h⟩
  · refine r_callS (As := [.ref (gA G (β + 10)), .int a1]) (rest := []) (st1 := []) hx hb hml hown hts hE hw hl (mc_subR 10 2 (by decide) (mX6_checkExists l G (by show β + 10 + 2 ≤ _; omega) hR.2.2.2.1.2.2.2.2.1 h8)) (va_cwS 2 hts (zS gS_X6_112) rfl rfl rfl kdX6_checkExists ⟨Nat.le_of_ble_eq_true rfl, Nat.le_of_ble_eq_true rfl⟩) rfl rfl (Nat.le_of_ble_eq_true rfl) dX6_convoy_8 ⟨Nat.zero_le _, Nat.zero_le _⟩ rfl (fun H locs hw => ?_)
    refine lv_iload_n hx hb dX6_convoy_11 rfl (lv_at hl 2 rfl) ?_
    refine lv_iconst (v := (nI 0)) hx hb dX6_convoy_12 (by decide) ?_
    refine lv_bipush (v := (nI 7)) hx hb dX6_convoy_13 (by decide) ?_
    rcases bx_some h with ⟨h15, h⟩ | ⟨E15, h15, h⟩
    · refine r_callS (As := [.int a2, .int (nI 0), .int (nI 7)]) (rest := []) (st1 := []) hx hb hml hown hts hE hw hl (mX6_checkRange l G (M := (wB M β 316 S)) h15) (va_cwS 3 hts (zS gS_X6_45) rfl rfl rfl kdX6_checkRange ⟨Nat.le_of_ble_eq_true rfl, Nat.le_of_ble_eq_true rfl⟩) rfl rfl (Nat.le_of_ble_eq_true rfl) dX6_convoy_15 ⟨Nat.zero_le _, Nat.zero_le _⟩ rfl (fun H locs hw => ?_)
      refine lv_iload_n hx hb dX6_convoy_18 rfl (lv_at hl 2 rfl) ?_
      refine sw_if h (fun hc0 h => ?_) (fun hc0 h => ?_)
      · rw [hc0]
        refine lv_tableIn (off := 41) (tgt := 60) hx hb dX6_convoy_19 (by decide) (by decide) rfl (by decide) ?_
        refine lv_aload_n hx hb dX6_convoy_60 rfl (lv_at hl 0 rfl) ?_
        refine r_get (v := .ref (gA G (β + 3))) hx hb hts hinX6 hown hE hw hn 0 (by decide) (congrFun hR.1 _) rfl 1 (by decide) (hts _ (wz_in qF_X6_19)) rfl dX6_convoy_61 ?_
        refine r_get (v := .ref (gA G (β + 10))) hx hb hts hinX4 hown hE hw hn 3 (by decide) (congrFun hR.2.2.2.1.1 _) rfl 3 (by decide) (hts _ (wz_in qF_X6_102)) rfl dX6_convoy_64 ?_
        refine lv_iload_n hx hb dX6_convoy_67 rfl (lv_at hl 1 rfl) ?_
        refine lv_iconst (v := (nI 0)) hx hb dX6_convoy_68 (by decide) ?_
        obtain ⟨v69, h69, h⟩ := cr1_some h
        refine r_callV (As := [.int a1, .int (nI 0)]) (rest := []) (st1 := [.int v69]) hx hb hml hown hts hE hw hl (mc_subR 10 2 (by decide) (mX5_get l G (by show β + 10 + 2 ≤ _; omega) hR.2.2.2.1.2.2.2.2.1 h69)) (cwV 2 hts (zV gV_X6_116) rfl rfl rfl kdX5_get ⟨Nat.le_of_ble_eq_true rfl, Nat.le_of_ble_eq_true rfl⟩) (by omega) (congrFun hR.2.2.2.1.2.2.2.2.1.1 _) rfl rfl rfl rfl (Nat.le_of_ble_eq_true rfl) dX6_convoy_69 ⟨Nat.zero_le _, Nat.zero_le _⟩ rfl (fun H locs hw => ?_)
        cases h
      refine sw_if h (fun hc1 h => ?_) (fun hc1 h => ?_)
      · rw [hc1]
        refine lv_tableIn (off := 54) (tgt := 73) hx hb dX6_convoy_19 (by decide) (by decide) rfl (by decide) ?_
        refine lv_aload_n hx hb dX6_convoy_73 rfl (lv_at hl 0 rfl) ?_
        refine r_get (v := .ref (gA G (β + 3))) hx hb hts hinX6 hown hE hw hn 0 (by decide) (congrFun hR.1 _) rfl 1 (by decide) (hts _ (wz_in qF_X6_19)) rfl dX6_convoy_74 ?_
        refine r_get (v := .ref (gA G (β + 14))) hx hb hts hinX4 hown hE hw hn 3 (by decide) (congrFun hR.2.2.2.1.1 _) rfl 5 (by decide) (hts _ (wz_in qF_X6_120)) rfl dX6_convoy_77 ?_
        refine lv_iload_n hx hb dX6_convoy_80 rfl (lv_at hl 1 rfl) ?_
        obtain ⟨v81, h81, h⟩ := cr1_some h
        refine r_callV (As := [.int a1]) (rest := []) (st1 := [.int v81]) hx hb hml hown hts hE hw hl (mc_subR 14 3 (by decide) (mX2_size l G (by show β + 14 + 3 ≤ _; omega) hR.2.2.2.1.2.2.2.2.2.2.1 h81)) (cwV 1 hts (zV gV_X6_124) rfl rfl rfl kdX2_size ⟨Nat.le_of_ble_eq_true rfl, Nat.le_of_ble_eq_true rfl⟩) (by omega) (congrFun hR.2.2.2.1.2.2.2.2.2.2.1.1 _) rfl rfl rfl rfl (Nat.le_of_ble_eq_true rfl) dX6_convoy_81 ⟨Nat.zero_le _, Nat.zero_le _⟩ rfl (fun H locs hw => ?_)
        cases h
      refine sw_if h (fun hc2 h => ?_) (fun hc2 h => ?_)
      · rw [hc2]
        refine lv_tableIn (off := 66) (tgt := 85) hx hb dX6_convoy_19 (by decide) (by decide) rfl (by decide) ?_
        refine lv_aload_n hx hb dX6_convoy_85 rfl (lv_at hl 0 rfl) ?_
        refine r_get (v := .ref (gA G (β + 3))) hx hb hts hinX6 hown hE hw hn 0 (by decide) (congrFun hR.1 _) rfl 1 (by decide) (hts _ (wz_in qF_X6_19)) rfl dX6_convoy_86 ?_
        refine lv_iload_n hx hb dX6_convoy_89 rfl (lv_at hl 1 rfl) ?_
        obtain ⟨v90, h90, h⟩ := cr1_some h
        refine r_callV (As := [.int a1]) (rest := []) (st1 := [.int v90]) hx hb hml hown hts hE hw hl (mc_subR 3 17 (by decide) (mX4_slowestSpeed l G (by show β + 3 + 17 ≤ _; omega) hR.2.2.2.1 h90)) (cwV 1 hts (zV gV_X6_129) rfl rfl rfl kdX4_slowestSpeed ⟨Nat.le_of_ble_eq_true rfl, Nat.le_of_ble_eq_true rfl⟩) (by omega) (congrFun hR.2.2.2.1.1 _) rfl rfl rfl rfl (Nat.le_of_ble_eq_true rfl) dX6_convoy_90 ⟨Nat.zero_le _, Nat.zero_le _⟩ rfl (fun H locs hw => ?_)
        cases h
      refine sw_if h (fun hc3 h => ?_) (fun hc3 h => ?_)
      · rw [hc3]
        refine lv_tableIn (off := 75) (tgt := 94) hx hb dX6_convoy_19 (by decide) (by decide) rfl (by decide) ?_
        refine lv_aload_n hx hb dX6_convoy_94 rfl (lv_at hl 0 rfl) ?_
        refine r_get (v := .ref (gA G (β + 3))) hx hb hts hinX6 hown hE hw hn 0 (by decide) (congrFun hR.1 _) rfl 1 (by decide) (hts _ (wz_in qF_X6_19)) rfl dX6_convoy_95 ?_
        refine r_get (v := .ref (gA G (β + 10))) hx hb hts hinX4 hown hE hw hn 3 (by decide) (congrFun hR.2.2.2.1.1 _) rfl 3 (by decide) (hts _ (wz_in qF_X6_102)) rfl dX6_convoy_98 ?_
        refine lv_iload_n hx hb dX6_convoy_101 rfl (lv_at hl 1 rfl) ?_
        refine lv_iconst (v := (nI 1)) hx hb dX6_convoy_102 (by decide) ?_
        obtain ⟨v103, h103, h⟩ := cr1_some h
        refine r_callV (As := [.int a1, .int (nI 1)]) (rest := []) (st1 := [.int v103]) hx hb hml hown hts hE hw hl (mc_subR 10 2 (by decide) (mX5_get l G (by show β + 10 + 2 ≤ _; omega) hR.2.2.2.1.2.2.2.2.1 h103)) (cwV 2 hts (zV gV_X6_116) rfl rfl rfl kdX5_get ⟨Nat.le_of_ble_eq_true rfl, Nat.le_of_ble_eq_true rfl⟩) (by omega) (congrFun hR.2.2.2.1.2.2.2.2.1.1 _) rfl rfl rfl rfl (Nat.le_of_ble_eq_true rfl) dX6_convoy_103 ⟨Nat.zero_le _, Nat.zero_le _⟩ rfl (fun H locs hw => ?_)
        cases h
      refine sw_if h (fun hc4 h => ?_) (fun hc4 h => ?_)
      · rw [hc4]
        refine lv_tableIn (off := 88) (tgt := 107) hx hb dX6_convoy_19 (by decide) (by decide) rfl (by decide) ?_
        refine lv_aload_n hx hb dX6_convoy_107 rfl (lv_at hl 0 rfl) ?_
        refine r_get (v := .ref (gA G (β + 3))) hx hb hts hinX6 hown hE hw hn 0 (by decide) (congrFun hR.1 _) rfl 1 (by decide) (hts _ (wz_in qF_X6_19)) rfl dX6_convoy_108 ?_
        refine r_get (v := .ref (gA G (β + 10))) hx hb hts hinX4 hown hE hw hn 3 (by decide) (congrFun hR.2.2.2.1.1 _) rfl 3 (by decide) (hts _ (wz_in qF_X6_102)) rfl dX6_convoy_111 ?_
        refine lv_iload_n hx hb dX6_convoy_114 rfl (lv_at hl 1 rfl) ?_
        refine lv_iconst (v := (nI 2)) hx hb dX6_convoy_115 (by decide) ?_
        obtain ⟨v116, h116, h⟩ := cr1_some h
        refine r_callV (As := [.int a1, .int (nI 2)]) (rest := []) (st1 := [.int v116]) hx hb hml hown hts hE hw hl (mc_subR 10 2 (by decide) (mX5_get l G (by show β + 10 + 2 ≤ _; omega) hR.2.2.2.1.2.2.2.2.1 h116)) (cwV 2 hts (zV gV_X6_116) rfl rfl rfl kdX5_get ⟨Nat.le_of_ble_eq_true rfl, Nat.le_of_ble_eq_true rfl⟩) (by omega) (congrFun hR.2.2.2.1.2.2.2.2.1.1 _) rfl rfl rfl rfl (Nat.le_of_ble_eq_true rfl) dX6_convoy_116 ⟨Nat.zero_le _, Nat.zero_le _⟩ rfl (fun H locs hw => ?_)
        cases h
      refine sw_if h (fun hc5 h => ?_) (fun hc5 h => ?_)
      · rw [hc5]
        refine lv_tableIn (off := 101) (tgt := 120) hx hb dX6_convoy_19 (by decide) (by decide) rfl (by decide) ?_
        refine lv_aload_n hx hb dX6_convoy_120 rfl (lv_at hl 0 rfl) ?_
        refine r_get (v := .ref (gA G (β + 3))) hx hb hts hinX6 hown hE hw hn 0 (by decide) (congrFun hR.1 _) rfl 1 (by decide) (hts _ (wz_in qF_X6_19)) rfl dX6_convoy_121 ?_
        refine r_get (v := .ref (gA G (β + 10))) hx hb hts hinX4 hown hE hw hn 3 (by decide) (congrFun hR.2.2.2.1.1 _) rfl 3 (by decide) (hts _ (wz_in qF_X6_102)) rfl dX6_convoy_124 ?_
        refine lv_iload_n hx hb dX6_convoy_127 rfl (lv_at hl 1 rfl) ?_
        refine lv_iconst (v := (nI 3)) hx hb dX6_convoy_128 (by decide) ?_
        obtain ⟨v129, h129, h⟩ := cr1_some h
        refine r_callV (As := [.int a1, .int (nI 3)]) (rest := []) (st1 := [.int v129]) hx hb hml hown hts hE hw hl (mc_subR 10 2 (by decide) (mX5_get l G (by show β + 10 + 2 ≤ _; omega) hR.2.2.2.1.2.2.2.2.1 h129)) (cwV 2 hts (zV gV_X6_116) rfl rfl rfl kdX5_get ⟨Nat.le_of_ble_eq_true rfl, Nat.le_of_ble_eq_true rfl⟩) (by omega) (congrFun hR.2.2.2.1.2.2.2.2.1.1 _) rfl rfl rfl rfl (Nat.le_of_ble_eq_true rfl) dX6_convoy_129 ⟨Nat.zero_le _, Nat.zero_le _⟩ rfl (fun H locs hw => ?_)
        cases h
      refine sw_if h (fun hc6 h => ?_) (fun hc6 h => ?_)
      · rw [hc6]
        refine lv_tableIn (off := 114) (tgt := 133) hx hb dX6_convoy_19 (by decide) (by decide) rfl (by decide) ?_
        refine lv_aload_n hx hb dX6_convoy_133 rfl (lv_at hl 0 rfl) ?_
        refine r_get (v := .ref (gA G (β + 3))) hx hb hts hinX6 hown hE hw hn 0 (by decide) (congrFun hR.1 _) rfl 1 (by decide) (hts _ (wz_in qF_X6_19)) rfl dX6_convoy_134 ?_
        refine lv_iload_n hx hb dX6_convoy_137 rfl (lv_at hl 1 rfl) ?_
        obtain ⟨v138, h138, h⟩ := cr1_some h
        refine r_callV (As := [.int a1]) (rest := []) (st1 := [.int v138]) hx hb hml hown hts hE hw hl (mc_subR 3 17 (by decide) (mX4_litersWith l G (by show β + 3 + 17 ≤ _; omega) hR.2.2.2.1 h138)) (cwV 1 hts (zV gV_X6_132) rfl rfl rfl kdX4_litersWith ⟨Nat.le_of_ble_eq_true rfl, Nat.le_of_ble_eq_true rfl⟩) (by omega) (congrFun hR.2.2.2.1.1 _) rfl rfl rfl rfl (Nat.le_of_ble_eq_true rfl) dX6_convoy_138 ⟨Nat.zero_le _, Nat.zero_le _⟩ rfl (fun H locs hw => ?_)
        cases h
      · refine lv_tableOut (tgt := 142) hx hb dX6_convoy_19 (by have q0 := lv_neT hc0 (by decide : ((nI 0) : Int32).toInt = 0); have q1 := lv_neT hc1 (by decide : ((nI 1) : Int32).toInt = 1); have q2 := lv_neT hc2 (by decide : ((nI 2) : Int32).toInt = 2); have q3 := lv_neT hc3 (by decide : ((nI 3) : Int32).toInt = 3); have q4 := lv_neT hc4 (by decide : ((nI 4) : Int32).toInt = 4); have q5 := lv_neT hc5 (by decide : ((nI 5) : Int32).toInt = 5); have q6 := lv_neT hc6 (by decide : ((nI 6) : Int32).toInt = 6); omega) (by decide) ?_
        refine lv_aload_n hx hb dX6_convoy_142 rfl (lv_at hl 0 rfl) ?_
        refine r_get (v := .ref (gA G (β + 3))) hx hb hts hinX6 hown hE hw hn 0 (by decide) (congrFun hR.1 _) rfl 1 (by decide) (hts _ (wz_in qF_X6_19)) rfl dX6_convoy_143 ?_
        refine lv_iload_n hx hb dX6_convoy_146 rfl (lv_at hl 1 rfl) ?_
        obtain ⟨v147, h147, h⟩ := cr1_some h
        refine r_callV (As := [.int a1]) (rest := []) (st1 := [.int v147]) hx hb hml hown hts hE hw hl (mc_subR 3 17 (by decide) (mX4_isAtEnd l G (by show β + 3 + 17 ≤ _; omega) hR.2.2.2.1 h147)) (cwV 1 hts (zV gV_X6_135) rfl rfl rfl kdX4_isAtEnd ⟨Nat.le_of_ble_eq_true rfl, Nat.le_of_ble_eq_true rfl⟩) (by omega) (congrFun hR.2.2.2.1.1 _) rfl rfl rfl rfl (Nat.le_of_ble_eq_true rfl) dX6_convoy_147 ⟨Nat.zero_le _, Nat.zero_le _⟩ rfl (fun H locs hw => ?_)
        refine b_eq (tgt := 157) hx hb dX6_convoy_150 (by decide) h (fun h => ?_) (fun h => ?_)
        · refine lv_iconst (v := (nI 0)) hx hb dX6_convoy_157 (by decide) ?_
          cases h
        · refine lv_iconst (v := (nI 1)) hx hb dX6_convoy_153 (by decide) ?_
          refine lv_goto (tgt := 158) hx hb dX6_convoy_154 (by decide) ?_
          cases h
    · rw [← Sum.inr.inj (Option.some.inj h)]
      exact x_callS (As := [.int a2, .int (nI 0), .int (nI 7)]) (rest := []) hx hb hml hown hts hE hw hl (xX6_checkRange l hfl G (M := (wB M β 316 S)) h15) (va_cwS 3 hts (zS gS_X6_45) rfl rfl rfl kdX6_checkRange ⟨Nat.le_of_ble_eq_true rfl, Nat.le_of_ble_eq_true rfl⟩) rfl rfl (Nat.le_of_ble_eq_true rfl) dX6_convoy_15 ⟨Nat.le_refl _, Nat.le_refl _⟩ hout hlocks
  · rw [← Sum.inr.inj (Option.some.inj h)]
    exact x_callS (As := [.ref (gA G (β + 10)), .int a1]) (rest := []) hx hb hml hown hts hE hw hl (mx_subR 10 2 (by decide) (xX6_checkExists l hfl G (by show β + 10 + 2 ≤ _; omega) hR.2.2.2.1.2.2.2.2.1 h8)) (va_cwS 2 hts (zS gS_X6_112) rfl rfl rfl kdX6_checkExists ⟨Nat.le_of_ble_eq_true rfl, Nat.le_of_ble_eq_true rfl⟩) rfl rfl (Nat.le_of_ble_eq_true rfl) dX6_convoy_8 ⟨Nat.le_refl _, Nat.le_refl _⟩ hout hlocks
