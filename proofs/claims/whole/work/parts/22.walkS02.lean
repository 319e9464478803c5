/-! ===== walks, by program ===== -/
set_option maxHeartbeats 4000000 in
set_option maxRecDepth 100000 in
theorem mX4_hoursToEnd (l : Launch) (G : mG) {β : Nat} {M S S' : mM} {a1 : Int32} {r : Int32} (hn : β + 17 ≤ gN G) (hR : isSt G β) (h : pX4_hoursToEnd a1 S = some (r, S')) : MC l G yX4_hoursToEnd zzX4_hoursToEnd 5 121 [.ref (gA G (β + 0)), .int a1] (wB M β 17 S) (wB M β 17 S') (some (.int r)) := by
  refine mc_of (cc := cX4_hoursToEnd) (maxL := 3) (ret := (some .int)) (by decide) rfl (Nat.le_of_ble_eq_true rfl) ?_
  intro p e s m args below meth c H ls hx hb hr hts hown hml hlocks hE hw hl
  have hl : lv_has ls 3 [(0, .ref (gA G (β + 0))), (1, .int a1)] := hl
  have hinX4 : ∀ w ∈ wsX40, w ∈ zzX4_hoursToEnd := fun w h9 => wz_in (zinX4 w h9)
  have k2 : ∀ (k : Nat), ∀ (x1 : Int32) (x2 : Int32) (S : mM) (H : Heap) (locs : List Loc) (ls : Array Slot), pX4_hoursToEnd_l2  k x1 x2 S = some (r, S') → mW G s (wB M β 17 S) H locs → lv_has ls 3 [(0, .ref (gA G (β + 0))), (1, .int x1), (2, .int x2)] → W p l e { frames := 5, cells := 0, slots := 0, locals := 121 } s m args below meth c H locs 0 0 (mZ below G (some (.int r)) (wB M β 17 S') args s) (F0 m 2 ls []) := by
    intro k
    induction k with
    | zero => intro x1 x2 S H locs ls h; cases h
    | succ k hih2 =>
      intro x1 x2 S H locs ls h hw hl
      obtain ⟨ih2, hk2⟩ : ∃ f, f = pX4_hoursToEnd_l2  k := ⟨_, rfl⟩
      replace h : pX4_hoursToEnd_lb2  (pX4_hoursToEnd_l2  k) x1 x2 S = some (r, S') := h
      rw [← hk2] at h hih2
      clear hk2
      unfold pX4_hoursToEnd_lb2 at h
      refine lv_iload_n hx hb dX4_hoursToEnd_2 rfl (lv_at hl 2 rfl) ?_
      refine lv_sipush (v := (nI 300)) hx hb dX4_hoursToEnd_3 (by decide) ?_
      refine bi_gt (tgt := 36) hx hb dX4_hoursToEnd_6 (by decide) h (fun h => ?_) (fun h => ?_)
      · refine lv_bipush (v := (-9)) hx hb dX4_hoursToEnd_36 (by decide) ?_
        exact e_iw hx hb hr hlocks hw dX4_hoursToEnd_38 h
      · refine lv_aload_n hx hb dX4_hoursToEnd_9 rfl (lv_at hl 0 rfl) ?_
        refine p_get hx hb hts hinX4 hown hE hw hn 0 (by decide) (congrFun hR.1 _) rfl 9 (by decide) (hts _ (wz_in qF_X4_66)) rfl dX4_hoursToEnd_10 h (fun v10 h => ?_)
        refine b_eq (tgt := 36) hx hb dX4_hoursToEnd_13 (by decide) h (fun h => ?_) (fun h => ?_)
        · refine lv_bipush (v := (-9)) hx hb dX4_hoursToEnd_36 (by decide) ?_
          exact e_iw hx hb hr hlocks hw dX4_hoursToEnd_38 h
        · refine lv_aload_n hx hb dX4_hoursToEnd_16 rfl (lv_at hl 0 rfl) ?_
          refine lv_iload_n hx hb dX4_hoursToEnd_17 rfl (lv_at hl 1 rfl) ?_
          obtain ⟨v18, h18, h⟩ := cr1_some h
          refine r_callV (As := [.int x1]) (rest := []) (st1 := [.int v18]) hx hb hml hown hts hE hw hl (mX4_isAtEnd l G (by omega) hR h18) (cwV 1 hts (zV gV_X4_119) rfl rfl rfl kdX4_isAtEnd ⟨Nat.le_of_ble_eq_true rfl, Nat.le_of_ble_eq_true rfl⟩) (by omega) (congrFun hR.1 _) rfl rfl rfl rfl (Nat.le_of_ble_eq_true rfl) dX4_hoursToEnd_18 ⟨Nat.zero_le _, Nat.zero_le _⟩ rfl (fun H locs hw => ?_)
          refine b_eq (tgt := 26) hx hb dX4_hoursToEnd_21 (by decide) h (fun h => ?_) (fun h => ?_)
          · refine lv_aload_n hx hb dX4_hoursToEnd_26 rfl (lv_at hl 0 rfl) ?_
            obtain ⟨S27, h27, h⟩ := cr1_some h
            refine r_callV (As := []) (rest := []) (st1 := []) hx hb hml hown hts hE hw hl (mX4_letHourGoBy l G (by omega) hR h27) (cwV 0 hts (zV gV_X4_116) rfl rfl rfl kdX4_letHourGoBy ⟨Nat.le_of_ble_eq_true rfl, Nat.le_of_ble_eq_true rfl⟩) (by omega) (congrFun hR.1 _) rfl rfl rfl rfl (Nat.le_of_ble_eq_true rfl) dX4_hoursToEnd_27 ⟨Nat.zero_le _, Nat.zero_le _⟩ rfl (fun H locs hw => ?_)
            refine p_iinc (w := (nI 1)) 2 (fun v30 => [(2, .int v30), (0, .ref (gA G (β + 0))), (1, .int x1)]) hx hb dX4_hoursToEnd_30 hl rfl (by decide) (by decide) h (fun _ => rfl) (fun v30 h ls hl => ?_)
            refine lv_goto (tgt := 2) hx hb dX4_hoursToEnd_33 (by decide) ?_
            exact hih2 x1 v30 S27 _ _ _ h hw (lv_sub hl [1, 2, 0] rfl)
          · refine lv_iload_n hx hb dX4_hoursToEnd_24 rfl (lv_at hl 2 rfl) ?_
            exact e_iw hx hb hr hlocks hw dX4_hoursToEnd_25 h
  unfold pX4_hoursToEnd at h
  refine lv_iconst (v := (nI 0)) hx hb dX4_hoursToEnd_0 (by decide) ?_
  refine lv_istore_n (lv' := [(2, .int (nI 0)), (0, .ref (gA G (β + 0))), (1, .int a1)]) hx hb dX4_hoursToEnd_1 rfl hl (by decide) rfl (fun ls hl => ?_)
  exact k2 fuel a1 (nI 0) S _ _ _ h hw (lv_sub hl [1, 2, 0] rfl)

set_option maxHeartbeats 4000000 in
set_option maxRecDepth 100000 in
theorem mX4_firstLeftBy (l : Launch) (G : mG) {β : Nat} {M S S' : mM} {a1 : Int32} {r : Int32} (hn : β + 17 ≤ gN G) (hR : isSt G β) (h : pX4_firstLeftBy a1 S = some (r, S')) : MC l G yX4_firstLeftBy zzX4_firstLeftBy 5 121 [.ref (gA G (β + 0)), .int a1] (wB M β 17 S) (wB M β 17 S') (some (.int r)) := by
  refine mc_of (cc := cX4_firstLeftBy) (maxL := 3) (ret := (some .int)) (by decide) rfl (Nat.le_of_ble_eq_true rfl) ?_
  intro p e s m args below meth c H ls hx hb hr hts hown hml hlocks hE hw hl
  have hl : lv_has ls 3 [(0, .ref (gA G (β + 0))), (1, .int a1)] := hl
  have hinX4 : ∀ w ∈ wsX40, w ∈ zzX4_firstLeftBy := fun w h9 => wz_in (zinX4 w h9)
  have k7 : ∀ (k : Nat), ∀ (x2 : Int32) (S : mM) (H : Heap) (locs : List Loc) (ls : Array Slot), pX4_firstLeftBy_l7  k x2 S = some (r, S') → mW G s (wB M β 17 S) H locs → lv_has ls 3 [(0, .ref (gA G (β + 0))), (2, .int x2)] → W p l e { frames := 5, cells := 0, slots := 0, locals := 121 } s m args below meth c H locs 0 0 (mZ below G (some (.int r)) (wB M β 17 S') args s) (F0 m 7 ls []) := by
    intro k
    induction k with
    | zero => intro x2 S H locs ls h; cases h
    | succ k hih7 =>
      intro x2 S H locs ls h hw hl
      obtain ⟨ih7, hk7⟩ : ∃ f, f = pX4_firstLeftBy_l7  k := ⟨_, rfl⟩
      replace h : pX4_firstLeftBy_lb7  (pX4_firstLeftBy_l7  k) x2 S = some (r, S') := h
      rw [← hk7] at h hih7
      clear hk7
      unfold pX4_firstLeftBy_lb7 at h
      refine lv_iload_n hx hb dX4_firstLeftBy_7 rfl (lv_at hl 1 rfl) ?_
      refine lv_sipush (v := (nI 300)) hx hb dX4_firstLeftBy_8 (by decide) ?_
      refine bi_ge (tgt := 40) hx hb dX4_firstLeftBy_11 (by decide) h (fun h => ?_) (fun h => ?_)
      · refine lv_aload_n hx hb dX4_firstLeftBy_40 rfl (lv_at hl 0 rfl) ?_
        refine p_get hx hb hts hinX4 hown hE hw hn 0 (by decide) (congrFun hR.1 _) rfl 11 (by decide) (hts _ (wz_in qF_X4_46)) rfl dX4_firstLeftBy_41 h (fun v41 h => ?_)
        exact e_iw hx hb hr hlocks hw dX4_firstLeftBy_44 h
      · refine lv_aload_n hx hb dX4_firstLeftBy_14 rfl (lv_at hl 0 rfl) ?_
        refine p_get hx hb hts hinX4 hown hE hw hn 0 (by decide) (congrFun hR.1 _) rfl 9 (by decide) (hts _ (wz_in qF_X4_66)) rfl dX4_firstLeftBy_15 h (fun v15 h => ?_)
        refine b_eq (tgt := 40) hx hb dX4_firstLeftBy_18 (by decide) h (fun h => ?_) (fun h => ?_)
        · refine lv_aload_n hx hb dX4_firstLeftBy_40 rfl (lv_at hl 0 rfl) ?_
          refine p_get hx hb hts hinX4 hown hE hw hn 0 (by decide) (congrFun hR.1 _) rfl 11 (by decide) (hts _ (wz_in qF_X4_46)) rfl dX4_firstLeftBy_41 h (fun v41 h => ?_)
          exact e_iw hx hb hr hlocks hw dX4_firstLeftBy_44 h
        · refine lv_aload_n hx hb dX4_firstLeftBy_21 rfl (lv_at hl 0 rfl) ?_
          refine p_get hx hb hts hinX4 hown hE hw hn 0 (by decide) (congrFun hR.1 _) rfl 11 (by decide) (hts _ (wz_in qF_X4_46)) rfl dX4_firstLeftBy_22 h (fun v22 h => ?_)
          refine lv_bipush (v := (-9)) hx hb dX4_firstLeftBy_25 (by decide) ?_
          refine bi_ne (tgt := 40) hx hb dX4_firstLeftBy_27 (by decide) h (fun h => ?_) (fun h => ?_)
          · refine lv_aload_n hx hb dX4_firstLeftBy_40 rfl (lv_at hl 0 rfl) ?_
            refine p_get hx hb hts hinX4 hown hE hw hn 0 (by decide) (congrFun hR.1 _) rfl 11 (by decide) (hts _ (wz_in qF_X4_46)) rfl dX4_firstLeftBy_41 h (fun v41 h => ?_)
            exact e_iw hx hb hr hlocks hw dX4_firstLeftBy_44 h
          · refine lv_aload_n hx hb dX4_firstLeftBy_30 rfl (lv_at hl 0 rfl) ?_
            obtain ⟨S31, h31, h⟩ := cr1_some h
            refine r_callV (As := []) (rest := []) (st1 := []) hx hb hml hown hts hE hw hl (mX4_letHourGoBy l G (by omega) hR h31) (cwV 0 hts (zV gV_X4_116) rfl rfl rfl kdX4_letHourGoBy ⟨Nat.le_of_ble_eq_true rfl, Nat.le_of_ble_eq_true rfl⟩) (by omega) (congrFun hR.1 _) rfl rfl rfl rfl (Nat.le_of_ble_eq_true rfl) dX4_firstLeftBy_31 ⟨Nat.zero_le _, Nat.zero_le _⟩ rfl (fun H locs hw => ?_)
            refine p_iinc (w := (nI 1)) 1 (fun v34 => [(2, .int v34), (0, .ref (gA G (β + 0)))]) hx hb dX4_firstLeftBy_34 hl rfl (by decide) (by decide) h (fun _ => rfl) (fun v34 h ls hl => ?_)
            refine lv_goto (tgt := 7) hx hb dX4_firstLeftBy_37 (by decide) ?_
            exact hih7 v34 S31 _ _ _ h hw (lv_sub hl [1, 0] rfl)
  unfold pX4_firstLeftBy at h
  refine lv_aload_n hx hb dX4_firstLeftBy_0 rfl (lv_at hl 0 rfl) ?_
  refine lv_iload_n hx hb dX4_firstLeftBy_1 rfl (lv_at hl 1 rfl) ?_
  refine p_put hx hb hts hinX4 tyX4 tyX4_ok nmX4 hown hE hw hn 0 (by decide) (congrFun hR.1 _) rfl 10 (by decide) (hts _ (wz_in qF_X4_42)) rfl (by decide +kernel) (Nat.le_of_ble_eq_true rfl) (congrFun hR.1 _) dX4_firstLeftBy_2 h (fun S2 h H locs hw => ?_)
  refine lv_iconst (v := (nI 0)) hx hb dX4_firstLeftBy_5 (by decide) ?_
  refine lv_istore_n (lv' := [(2, .int (nI 0)), (0, .ref (gA G (β + 0))), (1, .int a1)]) hx hb dX4_firstLeftBy_6 rfl hl (by decide) rfl (fun ls hl => ?_)
  exact k7 fuel (nI 0) S2 _ _ _ h hw (lv_sub hl [1, 0] rfl)

set_option maxHeartbeats 4000000 in
set_option maxRecDepth 100000 in
theorem mX4_allArrive (l : Launch) (G : mG) {β : Nat} {M S S' : mM} {r : Int32} (hn : β + 17 ≤ gN G) (hR : isSt G β) (h : pX4_allArrive S = some (r, S')) : MC l G yX4_allArrive zzX4_allArrive 5 121 [.ref (gA G (β + 0))] (wB M β 17 S) (wB M β 17 S') (some (.int r)) := by
  refine mc_of (cc := cX4_allArrive) (maxL := 2) (ret := (some .boolean)) (by decide) rfl (Nat.le_of_ble_eq_true rfl) ?_
  intro p e s m args below meth c H ls hx hb hr hts hown hml hlocks hE hw hl
  have hl : lv_has ls 2 [(0, .ref (gA G (β + 0)))] := hl
  have hinX4 : ∀ w ∈ wsX40, w ∈ zzX4_allArrive := fun w h9 => wz_in (zinX4 w h9)
  have k26 : ∀ (S : mM) (H : Heap) (locs : List Loc) (ls : Array Slot), pX4_allArrive_b26  S = some (r, S') → mW G s (wB M β 17 S) H locs → lv_has ls 2 [(0, .ref (gA G (β + 0)))] → W p l e { frames := 5, cells := 0, slots := 0, locals := 121 } s m args below meth c H locs 0 0 (mZ below G (some (.int r)) (wB M β 17 S') args s) (F0 m 26 ls []) := by
    intro S H locs ls h hw hl
    unfold pX4_allArrive_b26 at h
    refine lv_aload_n hx hb dX4_allArrive_26 rfl (lv_at hl 0 rfl) ?_
    refine lv_iconst (v := (nI 2)) hx hb dX4_allArrive_27 (by decide) ?_
    obtain ⟨v28, h28, h⟩ := cr1_some h
    refine r_callV (As := [.int (nI 2)]) (rest := []) (st1 := [.int v28]) hx hb hml hown hts hE hw hl (mX4_howMany l G (by omega) hR h28) (cwV 1 hts (zV gV_X4_182) rfl rfl rfl kdX4_howMany ⟨Nat.le_of_ble_eq_true rfl, Nat.le_of_ble_eq_true rfl⟩) (by omega) (congrFun hR.1 _) rfl rfl rfl rfl (Nat.le_of_ble_eq_true rfl) dX4_allArrive_28 ⟨Nat.zero_le _, Nat.zero_le _⟩ rfl (fun H locs hw => ?_)
    refine lv_aload_n hx hb dX4_allArrive_31 rfl (lv_at hl 0 rfl) ?_
    refine r_get (v := .ref (gA G (β + 9))) hx hb hts hinX4 hown hE hw hn 0 (by decide) (congrFun hR.1 _) rfl 4 (by decide) (hts _ (wz_in qF_X4_29)) rfl dX4_allArrive_32 ?_
    obtain ⟨v35, h35, h⟩ := cr1_some h
    refine r_callV (As := []) (rest := [.int v28]) (st1 := [.int v35, .int v28]) hx hb hml hown hts hE hw hl (mc_subR 9 2 (by decide) (mX5_count l G (by show β + 9 + 2 ≤ _; omega) hR.2.2.2.2.2.1 h35)) (cwV 0 hts (zV gV_X4_109) rfl rfl rfl kdX5_count ⟨Nat.le_of_ble_eq_true rfl, Nat.le_of_ble_eq_true rfl⟩) (by omega) (congrFun hR.2.2.2.2.2.1.1 _) rfl rfl rfl rfl (Nat.le_of_ble_eq_true rfl) dX4_allArrive_35 ⟨Nat.zero_le _, Nat.zero_le _⟩ rfl (fun H locs hw => ?_)
    refine bi_ne (tgt := 45) hx hb dX4_allArrive_38 (by decide) h (fun h => ?_) (fun h => ?_)
    · refine lv_iconst (v := (nI 0)) hx hb dX4_allArrive_45 (by decide) ?_
      exact e_zw hx hb hr hlocks hw dX4_allArrive_46 h
    · refine lv_iconst (v := (nI 1)) hx hb dX4_allArrive_41 (by decide) ?_
      refine lv_goto (tgt := 46) hx hb dX4_allArrive_42 (by decide) ?_
      exact e_zw hx hb hr hlocks hw dX4_allArrive_46 h
  have k2 : ∀ (k : Nat), ∀ (x1 : Int32) (S : mM) (H : Heap) (locs : List Loc) (ls : Array Slot), pX4_allArrive_l2  k x1 S = some (r, S') → mW G s (wB M β 17 S) H locs → lv_has ls 2 [(0, .ref (gA G (β + 0))), (1, .int x1)] → W p l e { frames := 5, cells := 0, slots := 0, locals := 121 } s m args below meth c H locs 0 0 (mZ below G (some (.int r)) (wB M β 17 S') args s) (F0 m 2 ls []) := by
    intro k
    induction k with
    | zero => intro x1 S H locs ls h; cases h
    | succ k hih2 =>
      intro x1 S H locs ls h hw hl
      obtain ⟨ih2, hk2⟩ : ∃ f, f = pX4_allArrive_l2  k := ⟨_, rfl⟩
      replace h : pX4_allArrive_lb2  (pX4_allArrive_l2  k) x1 S = some (r, S') := h
      rw [← hk2] at h hih2
      clear hk2
      unfold pX4_allArrive_lb2 at h
      refine lv_iload_n hx hb dX4_allArrive_2 rfl (lv_at hl 1 rfl) ?_
      refine lv_sipush (v := (nI 300)) hx hb dX4_allArrive_3 (by decide) ?_
      refine bi_ge (tgt := 26) hx hb dX4_allArrive_6 (by decide) h (fun h => ?_) (fun h => ?_)
      · exact k26  S _ _ _ h hw (lv_sub hl [0] rfl)
      · refine lv_aload_n hx hb dX4_allArrive_9 rfl (lv_at hl 0 rfl) ?_
        refine p_get hx hb hts hinX4 hown hE hw hn 0 (by decide) (congrFun hR.1 _) rfl 9 (by decide) (hts _ (wz_in qF_X4_66)) rfl dX4_allArrive_10 h (fun v10 h => ?_)
        refine b_eq (tgt := 26) hx hb dX4_allArrive_13 (by decide) h (fun h => ?_) (fun h => ?_)
        · exact k26  S _ _ _ h hw (lv_sub hl [0] rfl)
        · refine lv_aload_n hx hb dX4_allArrive_16 rfl (lv_at hl 0 rfl) ?_
          obtain ⟨S17, h17, h⟩ := cr1_some h
          refine r_callV (As := []) (rest := []) (st1 := []) hx hb hml hown hts hE hw hl (mX4_letHourGoBy l G (by omega) hR h17) (cwV 0 hts (zV gV_X4_116) rfl rfl rfl kdX4_letHourGoBy ⟨Nat.le_of_ble_eq_true rfl, Nat.le_of_ble_eq_true rfl⟩) (by omega) (congrFun hR.1 _) rfl rfl rfl rfl (Nat.le_of_ble_eq_true rfl) dX4_allArrive_17 ⟨Nat.zero_le _, Nat.zero_le _⟩ rfl (fun H locs hw => ?_)
          refine p_iinc (w := (nI 1)) 1 (fun v20 => [(1, .int v20), (0, .ref (gA G (β + 0)))]) hx hb dX4_allArrive_20 hl rfl (by decide) (by decide) h (fun _ => rfl) (fun v20 h ls hl => ?_)
          refine lv_goto (tgt := 2) hx hb dX4_allArrive_23 (by decide) ?_
          exact hih2 v20 S17 _ _ _ h hw (lv_sub hl [1, 0] rfl)
  unfold pX4_allArrive at h
  refine lv_iconst (v := (nI 0)) hx hb dX4_allArrive_0 (by decide) ?_
  refine lv_istore_n (lv' := [(1, .int (nI 0)), (0, .ref (gA G (β + 0)))]) hx hb dX4_allArrive_1 rfl hl (by decide) rfl (fun ls hl => ?_)
  exact k2 fuel (nI 0) S _ _ _ h hw (lv_sub hl [1, 0] rfl)

set_option maxHeartbeats 4000000 in
set_option maxRecDepth 100000 in
theorem mX4_obeysHold (l : Launch) (G : mG) {β : Nat} {M S S' : mM} {a1 : Int32} {a2 : Int32} {r : Int32} (hn : β + 17 ≤ gN G) (hR : isSt G β) (h : pX4_obeysHold a1 a2 S = some (r, S')) : MC l G yX4_obeysHold zzX4_obeysHold 1 25 [.ref (gA G (β + 0)), .int a1, .int a2] (wB M β 17 S) (wB M β 17 S') (some (.int r)) := by
  refine mc_of (cc := cX4_obeysHold) (maxL := 3) (ret := (some .boolean)) (by decide) rfl (Nat.le_of_ble_eq_true rfl) ?_
  intro p e s m args below meth c H ls hx hb hr hts hown hml hlocks hE hw hl
  have hl : lv_has ls 3 [(0, .ref (gA G (β + 0))), (1, .int a1), (2, .int a2)] := hl
  have hinX4 : ∀ w ∈ wsX40, w ∈ zzX4_obeysHold := fun w h9 => wz_in (zinX4 w h9)
  unfold pX4_obeysHold at h
  refine lv_aload_n hx hb dX4_obeysHold_0 rfl (lv_at hl 0 rfl) ?_
  refine r_get (v := .ref (gA G (β + 7))) hx hb hts hinX4 hown hE hw hn 0 (by decide) (congrFun hR.1 _) rfl 3 (by decide) (hts _ (wz_in qF_X4_26)) rfl dX4_obeysHold_1 ?_
  refine lv_iload_n hx hb dX4_obeysHold_4 rfl (lv_at hl 1 rfl) ?_
  obtain ⟨v5, h5, h⟩ := cr1_some h
  refine r_callV (As := [.int a1]) (rest := []) (st1 := [.int v5]) hx hb hml hown hts hE hw hl (mc_subR 7 2 (by decide) (mX5_has l G (by show β + 7 + 2 ≤ _; omega) hR.2.2.2.2.1 h5)) (cwV 1 hts (zV gV_X4_88) rfl rfl rfl kdX5_has ⟨Nat.le_of_ble_eq_true rfl, Nat.le_of_ble_eq_true rfl⟩) (by omega) (congrFun hR.2.2.2.2.1.1 _) rfl rfl rfl rfl (Nat.le_of_ble_eq_true rfl) dX4_obeysHold_5 ⟨Nat.zero_le _, Nat.zero_le _⟩ rfl (fun H locs hw => ?_)
  refine b_eq (tgt := 21) hx hb dX4_obeysHold_8 (by decide) h (fun h => ?_) (fun h => ?_)
  · refine lv_iconst (v := (nI 0)) hx hb dX4_obeysHold_21 (by decide) ?_
    exact e_zw hx hb hr hlocks hw dX4_obeysHold_22 h
  · refine lv_iload_n hx hb dX4_obeysHold_11 rfl (lv_at hl 2 rfl) ?_
    refine lv_iconst (v := (nI 0)) hx hb dX4_obeysHold_12 (by decide) ?_
    refine lv_bipush (v := (nI 23)) hx hb dX4_obeysHold_13 (by decide) ?_
    obtain ⟨v15, h15, h⟩ := cr1_some h
    refine r_callSN (host := RX6) (As := [.int a2, .int (nI 0), .int (nI 23)]) (rest := []) (st1 := [.int v15]) hx hb hml hown hts hE hw hl (mX6_isWithin l G (M := (wB M β 17 S)) h15) ⟨va_cnB 3 hts (zN qC_X6_isWithin) rfl rfl rfl hE.2.2.2.1.2 (hts _ (wz_in qN_X6)) kdX6_isWithin ⟨Nat.le_of_ble_eq_true rfl, Nat.le_of_ble_eq_true rfl⟩, hts _ (wz_in qT_X6_isWithin), trivial⟩ rfl rfl (Nat.le_of_ble_eq_true rfl) dX4_obeysHold_15 ⟨Nat.zero_le _, Nat.zero_le _⟩ rfl (fun H locs hw => ?_)
    refine b_ne (tgt := 23) hx hb dX4_obeysHold_18 (by decide) h (fun h => ?_) (fun h => ?_)
    · refine lv_aload_n hx hb dX4_obeysHold_23 rfl (lv_at hl 0 rfl) ?_
      refine r_get (v := .ref (gA G (β + 7))) hx hb hts hinX4 hown hE hw hn 0 (by decide) (congrFun hR.1 _) rfl 3 (by decide) (hts _ (wz_in qF_X4_26)) rfl dX4_obeysHold_24 ?_
      refine lv_iload_n hx hb dX4_obeysHold_27 rfl (lv_at hl 1 rfl) ?_
      refine lv_iconst (v := (nI 1)) hx hb dX4_obeysHold_28 (by decide) ?_
      refine lv_iload_n hx hb dX4_obeysHold_29 rfl (lv_at hl 2 rfl) ?_
      obtain ⟨T30, h30, h⟩ := cvs_some h
      refine r_callV (As := [.int a1, .int (nI 1), .int a2]) (rest := []) (st1 := []) hx hb hml hown hts hE hw hl (mc_sub 7 2 (by decide) (mX5_put l G (by show β + 7 + 2 ≤ _; omega) hR.2.2.2.2.1 h30)) (cwV 3 hts (zV gV_X4_74) rfl rfl rfl kdX5_put ⟨Nat.le_of_ble_eq_true rfl, Nat.le_of_ble_eq_true rfl⟩) (by omega) (congrFun hR.2.2.2.2.1.1 _) rfl rfl rfl rfl (Nat.le_of_ble_eq_true rfl) dX4_obeysHold_30 ⟨Nat.zero_le _, Nat.zero_le _⟩ rfl (fun H locs hw => ?_)
      generalize wB S 7 2 T30 = S30 at h hw
      refine lv_iconst (v := (nI 1)) hx hb dX4_obeysHold_33 (by decide) ?_
      exact e_zw hx hb hr hlocks hw dX4_obeysHold_34 h
    · refine lv_iconst (v := (nI 0)) hx hb dX4_obeysHold_21 (by decide) ?_
      exact e_zw hx hb hr hlocks hw dX4_obeysHold_22 h

set_option maxHeartbeats 4000000 in
set_option maxRecDepth 100000 in
theorem mX4_obeysSupply (l : Launch) (G : mG) {β : Nat} {M S S' : mM} {a1 : Int32} {a2 : Int32} {r : Int32} (hn : β + 17 ≤ gN G) (hR : isSt G β) (h : pX4_obeysSupply a1 a2 S = some (r, S')) : MC l G yX4_obeysSupply zzX4_obeysSupply 1 25 [.ref (gA G (β + 0)), .int a1, .int a2] (wB M β 17 S) (wB M β 17 S') (some (.int r)) := by
  refine mc_of (cc := cX4_obeysSupply) (maxL := 3) (ret := (some .boolean)) (by decide) rfl (Nat.le_of_ble_eq_true rfl) ?_
  intro p e s m args below meth c H ls hx hb hr hts hown hml hlocks hE hw hl
  have hl : lv_has ls 3 [(0, .ref (gA G (β + 0))), (1, .int a1), (2, .int a2)] := hl
  have hinX4 : ∀ w ∈ wsX40, w ∈ zzX4_obeysSupply := fun w h9 => wz_in (zinX4 w h9)
  unfold pX4_obeysSupply at h
  refine lv_aload_n hx hb dX4_obeysSupply_0 rfl (lv_at hl 0 rfl) ?_
  refine r_get (v := .ref (gA G (β + 5))) hx hb hts hinX4 hown hE hw hn 0 (by decide) (congrFun hR.1 _) rfl 2 (by decide) (hts _ (wz_in qF_X4_23)) rfl dX4_obeysSupply_1 ?_
  refine lv_iload_n hx hb dX4_obeysSupply_4 rfl (lv_at hl 1 rfl) ?_
  obtain ⟨v5, h5, h⟩ := cr1_some h
  refine r_callV (As := [.int a1]) (rest := []) (st1 := [.int v5]) hx hb hml hown hts hE hw hl (mc_subR 5 2 (by decide) (mX5_has l G (by show β + 5 + 2 ≤ _; omega) hR.2.2.2.1 h5)) (cwV 1 hts (zV gV_X4_88) rfl rfl rfl kdX5_has ⟨Nat.le_of_ble_eq_true rfl, Nat.le_of_ble_eq_true rfl⟩) (by omega) (congrFun hR.2.2.2.1.1 _) rfl rfl rfl rfl (Nat.le_of_ble_eq_true rfl) dX4_obeysSupply_5 ⟨Nat.zero_le _, Nat.zero_le _⟩ rfl (fun H locs hw => ?_)
  refine b_eq (tgt := 39) hx hb dX4_obeysSupply_8 (by decide) h (fun h => ?_) (fun h => ?_)
  · refine lv_iconst (v := (nI 0)) hx hb dX4_obeysSupply_39 (by decide) ?_
    exact e_zw hx hb hr hlocks hw dX4_obeysSupply_40 h
  · refine lv_iload_n hx hb dX4_obeysSupply_11 rfl (lv_at hl 2 rfl) ?_
    refine lv_iconst (v := (nI 1)) hx hb dX4_obeysSupply_12 (by decide) ?_
    refine lv_sipush (v := (nI 500)) hx hb dX4_obeysSupply_13 (by decide) ?_
    obtain ⟨v16, h16, h⟩ := cr1_some h
    refine r_callSN (host := RX6) (As := [.int a2, .int (nI 1), .int (nI 500)]) (rest := []) (st1 := [.int v16]) hx hb hml hown hts hE hw hl (mX6_isWithin l G (M := (wB M β 17 S)) h16) ⟨va_cnB 3 hts (zN qC_X6_isWithin) rfl rfl rfl hE.2.2.2.1.2 (hts _ (wz_in qN_X6)) kdX6_isWithin ⟨Nat.le_of_ble_eq_true rfl, Nat.le_of_ble_eq_true rfl⟩, hts _ (wz_in qT_X6_isWithin), trivial⟩ rfl rfl (Nat.le_of_ble_eq_true rfl) dX4_obeysSupply_16 ⟨Nat.zero_le _, Nat.zero_le _⟩ rfl (fun H locs hw => ?_)
    refine b_eq (tgt := 39) hx hb dX4_obeysSupply_19 (by decide) h (fun h => ?_) (fun h => ?_)
    · refine lv_iconst (v := (nI 0)) hx hb dX4_obeysSupply_39 (by decide) ?_
      exact e_zw hx hb hr hlocks hw dX4_obeysSupply_40 h
    · refine lv_aload_n hx hb dX4_obeysSupply_22 rfl (lv_at hl 0 rfl) ?_
      refine r_get (v := .ref (gA G (β + 5))) hx hb hts hinX4 hown hE hw hn 0 (by decide) (congrFun hR.1 _) rfl 2 (by decide) (hts _ (wz_in qF_X4_23)) rfl dX4_obeysSupply_23 ?_
      refine lv_iload_n hx hb dX4_obeysSupply_26 rfl (lv_at hl 1 rfl) ?_
      refine lv_iconst (v := (nI 1)) hx hb dX4_obeysSupply_27 (by decide) ?_
      obtain ⟨v28, h28, h⟩ := cr1_some h
      refine r_callV (As := [.int a1, .int (nI 1)]) (rest := []) (st1 := [.int v28]) hx hb hml hown hts hE hw hl (mc_subR 5 2 (by decide) (mX5_get l G (by show β + 5 + 2 ≤ _; omega) hR.2.2.2.1 h28)) (cwV 2 hts (zV gV_X4_96) rfl rfl rfl kdX5_get ⟨Nat.le_of_ble_eq_true rfl, Nat.le_of_ble_eq_true rfl⟩) (by omega) (congrFun hR.2.2.2.1.1 _) rfl rfl rfl rfl (Nat.le_of_ble_eq_true rfl) dX4_obeysSupply_28 ⟨Nat.zero_le _, Nat.zero_le _⟩ rfl (fun H locs hw => ?_)
      refine lv_iload_n hx hb dX4_obeysSupply_31 rfl (lv_at hl 2 rfl) ?_
      refine lv_iadd hx hb dX4_obeysSupply_32 ?_
      refine lv_sipush (v := (nI 999)) hx hb dX4_obeysSupply_33 (by decide) ?_
      refine bi_le (tgt := 41) hx hb dX4_obeysSupply_36 (by decide) h (fun h => ?_) (fun h => ?_)
      · refine lv_aload_n hx hb dX4_obeysSupply_41 rfl (lv_at hl 0 rfl) ?_
        refine r_get (v := .ref (gA G (β + 5))) hx hb hts hinX4 hown hE hw hn 0 (by decide) (congrFun hR.1 _) rfl 2 (by decide) (hts _ (wz_in qF_X4_23)) rfl dX4_obeysSupply_42 ?_
        refine lv_iload_n hx hb dX4_obeysSupply_45 rfl (lv_at hl 1 rfl) ?_
        refine lv_iconst (v := (nI 1)) hx hb dX4_obeysSupply_46 (by decide) ?_
        refine lv_iload_n hx hb dX4_obeysSupply_47 rfl (lv_at hl 2 rfl) ?_
        obtain ⟨T48, h48, h⟩ := cvs_some h
        refine r_callV (As := [.int a1, .int (nI 1), .int a2]) (rest := []) (st1 := []) hx hb hml hown hts hE hw hl (mc_sub 5 2 (by decide) (mX5_raise l G (by show β + 5 + 2 ≤ _; omega) hR.2.2.2.1 h48)) (cwV 3 hts (zV gV_X4_126) rfl rfl rfl kdX5_raise ⟨Nat.le_of_ble_eq_true rfl, Nat.le_of_ble_eq_true rfl⟩) (by omega) (congrFun hR.2.2.2.1.1 _) rfl rfl rfl rfl (Nat.le_of_ble_eq_true rfl) dX4_obeysSupply_48 ⟨Nat.zero_le _, Nat.zero_le _⟩ rfl (fun H locs hw => ?_)
        generalize wB S 5 2 T48 = S48 at h hw
        refine lv_iconst (v := (nI 1)) hx hb dX4_obeysSupply_51 (by decide) ?_
        exact e_zw hx hb hr hlocks hw dX4_obeysSupply_52 h
      · refine lv_iconst (v := (nI 0)) hx hb dX4_obeysSupply_39 (by decide) ?_
        exact e_zw hx hb hr hlocks hw dX4_obeysSupply_40 h

set_option maxHeartbeats 4000000 in
set_option maxRecDepth 100000 in
theorem mX4_obeys (l : Launch) (G : mG) {β : Nat} {M S S' : mM} {a1 : Int32} {r : Int32} (hn : β + 17 ≤ gN G) (hR : isSt G β) (h : pX4_obeys a1 S = some (r, S')) : MC l G yX4_obeys zzX4_obeys 6 143 [.ref (gA G (β + 0)), .int a1] (wB M β 17 S) (wB M β 17 S') (some (.int r)) := by
  refine mc_of (cc := cX4_obeys) (maxL := 9) (ret := (some .boolean)) (by decide) rfl (Nat.le_of_ble_eq_true rfl) ?_
  intro p e s m args below meth c H ls hx hb hr hts hown hml hlocks hE hw hl
  have hl : lv_has ls 9 [(0, .ref (gA G (β + 0))), (1, .int a1)] := hl
  have hinX4 : ∀ w ∈ wsX40, w ∈ zzX4_obeys := fun w h9 => wz_in (zinX4 w h9)
  have k310 : ∀ (t0 : Int32) (t1 : Int32) (S : mM) (H : Heap) (locs : List Loc) (ls : Array Slot), pX4_obeys_b310  t0 t1 S = some (r, S') → mW G s (wB M β 17 S) H locs → lv_has ls 9 [] → W p l e { frames := 6, cells := 0, slots := 0, locals := 143 } s m args below meth c H locs 0 0 (mZ below G (some (.int r)) (wB M β 17 S') args s) (F0 m 310 ls [.int t1, .int t0]) := by
    intro t0 t1 S H locs ls h hw hl
    unfold pX4_obeys_b310 at h
    refine bi_ne (tgt := 317) hx hb dX4_obeys_310 (by decide) h (fun h => ?_) (fun h => ?_)
    · refine lv_iconst (v := (nI 0)) hx hb dX4_obeys_317 (by decide) ?_
      exact e_zw hx hb hr hlocks hw dX4_obeys_318 h
    · refine lv_iconst (v := (nI 1)) hx hb dX4_obeys_313 (by decide) ?_
      refine lv_goto (tgt := 318) hx hb dX4_obeys_314 (by decide) ?_
      exact e_zw hx hb hr hlocks hw dX4_obeys_318 h
  have k299 : ∀ (x5 : Int32) (t0 : Int32) (S : mM) (H : Heap) (locs : List Loc) (ls : Array Slot), pX4_obeys_b299  x5 t0 S = some (r, S') → mW G s (wB M β 17 S) H locs → lv_has ls 9 [(5, .int x5)] → W p l e { frames := 6, cells := 0, slots := 0, locals := 143 } s m args below meth c H locs 0 0 (mZ below G (some (.int r)) (wB M β 17 S') args s) (F0 m 299 ls [.int t0]) := by
    intro x5 t0 S H locs ls h hw hl
    unfold pX4_obeys_b299 at h
    refine lv_iload hx hb dX4_obeys_299 (lv_at hl 0 rfl) ?_
    refine lv_iconst (v := (nI 1)) hx hb dX4_obeys_301 (by decide) ?_
    refine bi_ne (tgt := 309) hx hb dX4_obeys_302 (by decide) h (fun h => ?_) (fun h => ?_)
    · refine lv_iconst (v := (nI 0)) hx hb dX4_obeys_309 (by decide) ?_
      exact k310  t0 (nI 0) S _ _ _ h hw (lv_sub hl [] rfl)
    · refine lv_iconst (v := (nI 1)) hx hb dX4_obeys_305 (by decide) ?_
      refine lv_goto (tgt := 310) hx hb dX4_obeys_306 (by decide) ?_
      exact k310  t0 (nI 1) S _ _ _ h hw (lv_sub hl [] rfl)
  unfold pX4_obeys at h
  refine lv_iload_n hx hb dX4_obeys_0 rfl (lv_at hl 1 rfl) ?_
  refine lv_sipush (v := (nI 1000)) hx hb dX4_obeys_1 (by decide) ?_
  refine lv_idiv hx hb dX4_obeys_4 (by decide) ?_
  refine lv_bipush (v := (nI 10)) hx hb dX4_obeys_5 (by decide) ?_
  refine lv_irem hx hb dX4_obeys_7 (by decide) ?_
  refine p_topi h (fun v8 h => ?_)
  refine lv_istore_n (lv' := [(2, .int v8), (0, .ref (gA G (β + 0))), (1, .int a1)]) hx hb dX4_obeys_8 rfl hl (by decide) rfl (fun ls hl => ?_)
  refine lv_iload_n hx hb dX4_obeys_9 rfl (lv_at hl 2 rfl) ?_
  refine lv_bipush (v := (nI 100)) hx hb dX4_obeys_10 (by decide) ?_
  refine lv_idiv hx hb dX4_obeys_12 (by decide) ?_
  refine lv_bipush (v := (nI 10)) hx hb dX4_obeys_13 (by decide) ?_
  refine lv_irem hx hb dX4_obeys_15 (by decide) ?_
  refine p_topi h (fun v16 h => ?_)
  refine lv_istore_n (lv' := [(3, .int v16), (2, .int v8), (0, .ref (gA G (β + 0))), (1, .int a1)]) hx hb dX4_obeys_16 rfl hl (by decide) rfl (fun ls hl => ?_)
  refine lv_iload_n hx hb dX4_obeys_17 rfl (lv_at hl 3 rfl) ?_
  refine lv_bipush (v := (nI 10)) hx hb dX4_obeys_18 (by decide) ?_
  refine lv_idiv hx hb dX4_obeys_20 (by decide) ?_
  refine lv_bipush (v := (nI 10)) hx hb dX4_obeys_21 (by decide) ?_
  refine lv_irem hx hb dX4_obeys_23 (by decide) ?_
  refine p_topi h (fun v24 h => ?_)
  refine lv_istore (lv' := [(4, .int v24), (3, .int v16), (2, .int v8), (0, .ref (gA G (β + 0))), (1, .int a1)]) hx hb dX4_obeys_24 hl (by decide) rfl (fun ls hl => ?_)
  refine lv_iload_n hx hb dX4_obeys_26 rfl (lv_at hl 4 rfl) ?_
  refine lv_bipush (v := (nI 10)) hx hb dX4_obeys_27 (by decide) ?_
  refine lv_irem hx hb dX4_obeys_29 (by decide) ?_
  refine p_topi h (fun v30 h => ?_)
  refine lv_istore (lv' := [(5, .int v30), (4, .int v24), (3, .int v16), (2, .int v8), (0, .ref (gA G (β + 0))), (1, .int a1)]) hx hb dX4_obeys_30 hl (by decide) rfl (fun ls hl => ?_)
  refine lv_iload_n hx hb dX4_obeys_32 rfl (lv_at hl 5 rfl) ?_
  refine lv_bipush (v := (nI 100)) hx hb dX4_obeys_33 (by decide) ?_
  refine lv_irem hx hb dX4_obeys_35 (by decide) ?_
  refine p_topi h (fun v36 h => ?_)
  refine lv_istore (lv' := [(6, .int v36), (5, .int v30), (4, .int v24), (3, .int v16), (2, .int v8), (0, .ref (gA G (β + 0))), (1, .int a1)]) hx hb dX4_obeys_36 hl (by decide) rfl (fun ls hl => ?_)
  refine lv_iload_n hx hb dX4_obeys_38 rfl (lv_at hl 6 rfl) ?_
  refine lv_sipush (v := (nI 1000)) hx hb dX4_obeys_39 (by decide) ?_
  refine lv_irem hx hb dX4_obeys_42 (by decide) ?_
  refine p_topi h (fun v43 h => ?_)
  refine lv_istore (lv' := [(7, .int v43), (6, .int v36), (5, .int v30), (4, .int v24), (3, .int v16), (2, .int v8), (0, .ref (gA G (β + 0))), (1, .int a1)]) hx hb dX4_obeys_43 hl (by decide) rfl (fun ls hl => ?_)
  refine lv_iload_n hx hb dX4_obeys_45 rfl (lv_at hl 7 rfl) ?_
  refine lv_bipush (v := (nI 100)) hx hb dX4_obeys_46 (by decide) ?_
  refine lv_idiv hx hb dX4_obeys_48 (by decide) ?_
  refine lv_bipush (v := (nI 100)) hx hb dX4_obeys_49 (by decide) ?_
  refine lv_irem hx hb dX4_obeys_51 (by decide) ?_
  refine p_topi h (fun v52 h => ?_)
  refine lv_istore (lv' := [(8, .int v52), (7, .int v43), (6, .int v36), (5, .int v30), (4, .int v24), (3, .int v16), (2, .int v8), (0, .ref (gA G (β + 0))), (1, .int a1)]) hx hb dX4_obeys_52 hl (by decide) rfl (fun ls hl => ?_)
  refine lv_iload_n hx hb dX4_obeys_54 rfl (lv_at hl 8 rfl) ?_
  refine lv_sipush (v := (nI 10000)) hx hb dX4_obeys_55 (by decide) ?_
  refine lv_idiv hx hb dX4_obeys_58 (by decide) ?_
  refine p_topi h (fun v59 h => ?_)
  refine sw_if h (fun hc1 h => ?_) (fun hc1 h => ?_)
  · rw [hc1]
    refine lv_tableIn (off := 49) (tgt := 108) hx hb dX4_obeys_59 (by decide) (by decide) rfl (by decide) ?_
    refine lv_iload_n hx hb dX4_obeys_108 rfl (lv_at hl 6 rfl) ?_
    refine b_ne (tgt := 129) hx hb dX4_obeys_109 (by decide) h (fun h => ?_) (fun h => ?_)
    · refine lv_iconst (v := (nI 0)) hx hb dX4_obeys_129 (by decide) ?_
      exact e_zw hx hb hr hlocks hw dX4_obeys_130 h
    · refine lv_iload_n hx hb dX4_obeys_112 rfl (lv_at hl 5 rfl) ?_
      refine b_ne (tgt := 129) hx hb dX4_obeys_113 (by decide) h (fun h => ?_) (fun h => ?_)
      · refine lv_iconst (v := (nI 0)) hx hb dX4_obeys_129 (by decide) ?_
        exact e_zw hx hb hr hlocks hw dX4_obeys_130 h
      · refine lv_aload_n hx hb dX4_obeys_116 rfl (lv_at hl 7 rfl) ?_
        refine lv_iload hx hb dX4_obeys_117 (lv_at hl 2 rfl) ?_
        obtain ⟨v119, S119, h119, h⟩ := cw2_some h
        refine r_callV (As := [.int v36]) (rest := []) (st1 := [.int v119]) hx hb hml hown hts hE hw hl (mX4_letGoBy l G (by omega) hR h119) (cwV 1 hts (zV gV_X4_185) rfl rfl rfl kdX4_letGoBy ⟨Nat.le_of_ble_eq_true rfl, Nat.le_of_ble_eq_true rfl⟩) (by omega) (congrFun hR.1 _) rfl rfl rfl rfl (Nat.le_of_ble_eq_true rfl) dX4_obeys_119 ⟨Nat.zero_le _, Nat.zero_le _⟩ rfl (fun H locs hw => ?_)
        refine b_eq (tgt := 129) hx hb dX4_obeys_122 (by decide) h (fun h => ?_) (fun h => ?_)
        · refine lv_iconst (v := (nI 0)) hx hb dX4_obeys_129 (by decide) ?_
          exact e_zw hx hb hr hlocks hw dX4_obeys_130 h
        · refine lv_iconst (v := (nI 1)) hx hb dX4_obeys_125 (by decide) ?_
          refine lv_goto (tgt := 130) hx hb dX4_obeys_126 (by decide) ?_
          exact e_zw hx hb hr hlocks hw dX4_obeys_130 h
  refine sw_if h (fun hc2 h => ?_) (fun hc2 h => ?_)
  · rw [hc2]
    refine lv_tableIn (off := 72) (tgt := 131) hx hb dX4_obeys_59 (by decide) (by decide) rfl (by decide) ?_
    refine lv_iload_n hx hb dX4_obeys_131 rfl (lv_at hl 5 rfl) ?_
    refine b_ne (tgt := 149) hx hb dX4_obeys_132 (by decide) h (fun h => ?_) (fun h => ?_)
    · refine lv_iconst (v := (nI 0)) hx hb dX4_obeys_149 (by decide) ?_
      exact e_zw hx hb hr hlocks hw dX4_obeys_150 h
    · refine lv_aload_n hx hb dX4_obeys_135 rfl (lv_at hl 7 rfl) ?_
      refine lv_iload_n hx hb dX4_obeys_136 rfl (lv_at hl 6 rfl) ?_
      refine lv_iload hx hb dX4_obeys_137 (lv_at hl 2 rfl) ?_
      obtain ⟨v139, S139, h139, h⟩ := cw2_some h
      refine r_callV (As := [.int v8, .int v36]) (rest := []) (st1 := [.int v139]) hx hb hml hown hts hE hw hl (mX4_obeysHold l G (by omega) hR h139) (cwV 2 hts (zV gV_X4_188) rfl rfl rfl kdX4_obeysHold ⟨Nat.le_of_ble_eq_true rfl, Nat.le_of_ble_eq_true rfl⟩) (by omega) (congrFun hR.1 _) rfl rfl rfl rfl (Nat.le_of_ble_eq_true rfl) dX4_obeys_139 ⟨Nat.zero_le _, Nat.zero_le _⟩ rfl (fun H locs hw => ?_)
      refine b_eq (tgt := 149) hx hb dX4_obeys_142 (by decide) h (fun h => ?_) (fun h => ?_)
      · refine lv_iconst (v := (nI 0)) hx hb dX4_obeys_149 (by decide) ?_
        exact e_zw hx hb hr hlocks hw dX4_obeys_150 h
      · refine lv_iconst (v := (nI 1)) hx hb dX4_obeys_145 (by decide) ?_
        refine lv_goto (tgt := 150) hx hb dX4_obeys_146 (by decide) ?_
        exact e_zw hx hb hr hlocks hw dX4_obeys_150 h
  refine sw_if h (fun hc3 h => ?_) (fun hc3 h => ?_)
  · rw [hc3]
    refine lv_tableIn (off := 92) (tgt := 151) hx hb dX4_obeys_59 (by decide) (by decide) rfl (by decide) ?_
    refine lv_aload_n hx hb dX4_obeys_151 rfl (lv_at hl 7 rfl) ?_
    refine lv_iload_n hx hb dX4_obeys_152 rfl (lv_at hl 6 rfl) ?_
    refine lv_iload hx hb dX4_obeys_153 (lv_at hl 1 rfl) ?_
    obtain ⟨v155, S155, h155, h⟩ := cw2_some h
    refine r_callV (As := [.int v8, .int v43]) (rest := []) (st1 := [.int v155]) hx hb hml hown hts hE hw hl (mX4_obeysSupply l G (by omega) hR h155) (cwV 2 hts (zV gV_X4_191) rfl rfl rfl kdX4_obeysSupply ⟨Nat.le_of_ble_eq_true rfl, Nat.le_of_ble_eq_true rfl⟩) (by omega) (congrFun hR.1 _) rfl rfl rfl rfl (Nat.le_of_ble_eq_true rfl) dX4_obeys_155 ⟨Nat.zero_le _, Nat.zero_le _⟩ rfl (fun H locs hw => ?_)
    exact e_zw hx hb hr hlocks hw dX4_obeys_158 h
  refine sw_if h (fun hc4 h => ?_) (fun hc4 h => ?_)
  · rw [hc4]
    refine lv_tableIn (off := 100) (tgt := 159) hx hb dX4_obeys_59 (by decide) (by decide) rfl (by decide) ?_
    refine lv_iload_n hx hb dX4_obeys_159 rfl (lv_at hl 5 rfl) ?_
    refine b_ne (tgt := 192) hx hb dX4_obeys_160 (by decide) h (fun h => ?_) (fun h => ?_)
    · refine lv_iconst (v := (nI 0)) hx hb dX4_obeys_192 (by decide) ?_
      exact e_zw hx hb hr hlocks hw dX4_obeys_193 h
    · refine lv_aload_n hx hb dX4_obeys_163 rfl (lv_at hl 7 rfl) ?_
      refine r_get (v := .ref (gA G (β + 7))) hx hb hts hinX4 hown hE hw hn 0 (by decide) (congrFun hR.1 _) rfl 3 (by decide) (hts _ (wz_in qF_X4_26)) rfl dX4_obeys_164 ?_
      refine lv_iload_n hx hb dX4_obeys_167 rfl (lv_at hl 6 rfl) ?_
      obtain ⟨v168, h168, h⟩ := cr1_some h
      refine r_callV (As := [.int v8]) (rest := []) (st1 := [.int v168]) hx hb hml hown hts hE hw hl (mc_subR 7 2 (by decide) (mX5_has l G (by show β + 7 + 2 ≤ _; omega) hR.2.2.2.2.1 h168)) (cwV 1 hts (zV gV_X4_88) rfl rfl rfl kdX5_has ⟨Nat.le_of_ble_eq_true rfl, Nat.le_of_ble_eq_true rfl⟩) (by omega) (congrFun hR.2.2.2.2.1.1 _) rfl rfl rfl rfl (Nat.le_of_ble_eq_true rfl) dX4_obeys_168 ⟨Nat.zero_le _, Nat.zero_le _⟩ rfl (fun H locs hw => ?_)
      refine b_eq (tgt := 192) hx hb dX4_obeys_171 (by decide) h (fun h => ?_) (fun h => ?_)
      · refine lv_iconst (v := (nI 0)) hx hb dX4_obeys_192 (by decide) ?_
        exact e_zw hx hb hr hlocks hw dX4_obeys_193 h
      · refine lv_aload_n hx hb dX4_obeys_174 rfl (lv_at hl 7 rfl) ?_
        refine r_get (v := .ref (gA G (β + 7))) hx hb hts hinX4 hown hE hw hn 0 (by decide) (congrFun hR.1 _) rfl 3 (by decide) (hts _ (wz_in qF_X4_26)) rfl dX4_obeys_175 ?_
        refine lv_iload_n hx hb dX4_obeys_178 rfl (lv_at hl 6 rfl) ?_
        refine lv_iconst (v := (nI 0)) hx hb dX4_obeys_179 (by decide) ?_
        obtain ⟨v180, h180, h⟩ := cr1_some h
        refine r_callV (As := [.int v8, .int (nI 0)]) (rest := []) (st1 := [.int v180]) hx hb hml hown hts hE hw hl (mc_subR 7 2 (by decide) (mX5_get l G (by show β + 7 + 2 ≤ _; omega) hR.2.2.2.2.1 h180)) (cwV 2 hts (zV gV_X4_96) rfl rfl rfl kdX5_get ⟨Nat.le_of_ble_eq_true rfl, Nat.le_of_ble_eq_true rfl⟩) (by omega) (congrFun hR.2.2.2.2.1.1 _) rfl rfl rfl rfl (Nat.le_of_ble_eq_true rfl) dX4_obeys_180 ⟨Nat.zero_le _, Nat.zero_le _⟩ rfl (fun H locs hw => ?_)
        refine lv_iload hx hb dX4_obeys_183 (lv_at hl 2 rfl) ?_
        refine bi_lt (tgt := 192) hx hb dX4_obeys_185 (by decide) h (fun h => ?_) (fun h => ?_)
        · refine lv_iconst (v := (nI 0)) hx hb dX4_obeys_192 (by decide) ?_
          exact e_zw hx hb hr hlocks hw dX4_obeys_193 h
        · refine lv_iconst (v := (nI 1)) hx hb dX4_obeys_188 (by decide) ?_
          refine lv_goto (tgt := 193) hx hb dX4_obeys_189 (by decide) ?_
          exact e_zw hx hb hr hlocks hw dX4_obeys_193 h
  refine sw_if h (fun hc5 h => ?_) (fun hc5 h => ?_)
  · rw [hc5]
    refine lv_tableIn (off := 135) (tgt := 194) hx hb dX4_obeys_59 (by decide) (by decide) rfl (by decide) ?_
    refine lv_aload_n hx hb dX4_obeys_194 rfl (lv_at hl 7 rfl) ?_
    refine r_get (v := .ref (gA G (β + 9))) hx hb hts hinX4 hown hE hw hn 0 (by decide) (congrFun hR.1 _) rfl 4 (by decide) (hts _ (wz_in qF_X4_29)) rfl dX4_obeys_195 ?_
    refine lv_iload hx hb dX4_obeys_198 (lv_at hl 0 rfl) ?_
    obtain ⟨v200, h200, h⟩ := cr1_some h
    refine r_callV (As := [.int v52]) (rest := []) (st1 := [.int v200]) hx hb hml hown hts hE hw hl (mc_subR 9 2 (by decide) (mX5_has l G (by show β + 9 + 2 ≤ _; omega) hR.2.2.2.2.2.1 h200)) (cwV 1 hts (zV gV_X4_88) rfl rfl rfl kdX5_has ⟨Nat.le_of_ble_eq_true rfl, Nat.le_of_ble_eq_true rfl⟩) (by omega) (congrFun hR.2.2.2.2.2.1.1 _) rfl rfl rfl rfl (Nat.le_of_ble_eq_true rfl) dX4_obeys_200 ⟨Nat.zero_le _, Nat.zero_le _⟩ rfl (fun H locs hw => ?_)
    refine b_eq (tgt := 225) hx hb dX4_obeys_203 (by decide) h (fun h => ?_) (fun h => ?_)
    · refine lv_iconst (v := (nI 0)) hx hb dX4_obeys_225 (by decide) ?_
      exact e_zw hx hb hr hlocks hw dX4_obeys_226 h
    · refine lv_aload_n hx hb dX4_obeys_206 rfl (lv_at hl 7 rfl) ?_
      refine r_get (v := .ref (gA G (β + 9))) hx hb hts hinX4 hown hE hw hn 0 (by decide) (congrFun hR.1 _) rfl 4 (by decide) (hts _ (wz_in qF_X4_29)) rfl dX4_obeys_207 ?_
      refine lv_iload hx hb dX4_obeys_210 (lv_at hl 0 rfl) ?_
      refine lv_iconst (v := (nI 3)) hx hb dX4_obeys_212 (by decide) ?_
      obtain ⟨v213, h213, h⟩ := cr1_some h
      refine r_callV (As := [.int v52, .int (nI 3)]) (rest := []) (st1 := [.int v213]) hx hb hml hown hts hE hw hl (mc_subR 9 2 (by decide) (mX5_get l G (by show β + 9 + 2 ≤ _; omega) hR.2.2.2.2.2.1 h213)) (cwV 2 hts (zV gV_X4_96) rfl rfl rfl kdX5_get ⟨Nat.le_of_ble_eq_true rfl, Nat.le_of_ble_eq_true rfl⟩) (by omega) (congrFun hR.2.2.2.2.2.1.1 _) rfl rfl rfl rfl (Nat.le_of_ble_eq_true rfl) dX4_obeys_213 ⟨Nat.zero_le _, Nat.zero_le _⟩ rfl (fun H locs hw => ?_)
      refine lv_iload hx hb dX4_obeys_216 (lv_at hl 2 rfl) ?_
      refine bi_lt (tgt := 225) hx hb dX4_obeys_218 (by decide) h (fun h => ?_) (fun h => ?_)
      · refine lv_iconst (v := (nI 0)) hx hb dX4_obeys_225 (by decide) ?_
        exact e_zw hx hb hr hlocks hw dX4_obeys_226 h
      · refine lv_iconst (v := (nI 1)) hx hb dX4_obeys_221 (by decide) ?_
        refine lv_goto (tgt := 226) hx hb dX4_obeys_222 (by decide) ?_
        exact e_zw hx hb hr hlocks hw dX4_obeys_226 h
  refine sw_if h (fun hc6 h => ?_) (fun hc6 h => ?_)
  · rw [hc6]
    refine lv_tableIn (off := 168) (tgt := 227) hx hb dX4_obeys_59 (by decide) (by decide) rfl (by decide) ?_
    refine lv_iload hx hb dX4_obeys_227 (lv_at hl 4 rfl) ?_
    refine b_ne (tgt := 263) hx hb dX4_obeys_229 (by decide) h (fun h => ?_) (fun h => ?_)
    · refine lv_iconst (v := (nI 0)) hx hb dX4_obeys_263 (by decide) ?_
      exact e_zw hx hb hr hlocks hw dX4_obeys_264 h
    · refine lv_aload_n hx hb dX4_obeys_232 rfl (lv_at hl 7 rfl) ?_
      refine r_get (v := .ref (gA G (β + 9))) hx hb hts hinX4 hown hE hw hn 0 (by decide) (congrFun hR.1 _) rfl 4 (by decide) (hts _ (wz_in qF_X4_29)) rfl dX4_obeys_233 ?_
      refine lv_iload hx hb dX4_obeys_236 (lv_at hl 0 rfl) ?_
      obtain ⟨v238, h238, h⟩ := cr1_some h
      refine r_callV (As := [.int v52]) (rest := []) (st1 := [.int v238]) hx hb hml hown hts hE hw hl (mc_subR 9 2 (by decide) (mX5_has l G (by show β + 9 + 2 ≤ _; omega) hR.2.2.2.2.2.1 h238)) (cwV 1 hts (zV gV_X4_88) rfl rfl rfl kdX5_has ⟨Nat.le_of_ble_eq_true rfl, Nat.le_of_ble_eq_true rfl⟩) (by omega) (congrFun hR.2.2.2.2.2.1.1 _) rfl rfl rfl rfl (Nat.le_of_ble_eq_true rfl) dX4_obeys_238 ⟨Nat.zero_le _, Nat.zero_le _⟩ rfl (fun H locs hw => ?_)
      refine b_eq (tgt := 263) hx hb dX4_obeys_241 (by decide) h (fun h => ?_) (fun h => ?_)
      · refine lv_iconst (v := (nI 0)) hx hb dX4_obeys_263 (by decide) ?_
        exact e_zw hx hb hr hlocks hw dX4_obeys_264 h
      · refine lv_aload_n hx hb dX4_obeys_244 rfl (lv_at hl 7 rfl) ?_
        refine r_get (v := .ref (gA G (β + 9))) hx hb hts hinX4 hown hE hw hn 0 (by decide) (congrFun hR.1 _) rfl 4 (by decide) (hts _ (wz_in qF_X4_29)) rfl dX4_obeys_245 ?_
        refine lv_iload hx hb dX4_obeys_248 (lv_at hl 0 rfl) ?_
        refine lv_iconst (v := (nI 4)) hx hb dX4_obeys_250 (by decide) ?_
        obtain ⟨v251, h251, h⟩ := cr1_some h
        refine r_callV (As := [.int v52, .int (nI 4)]) (rest := []) (st1 := [.int v251]) hx hb hml hown hts hE hw hl (mc_subR 9 2 (by decide) (mX5_get l G (by show β + 9 + 2 ≤ _; omega) hR.2.2.2.2.2.1 h251)) (cwV 2 hts (zV gV_X4_96) rfl rfl rfl kdX5_get ⟨Nat.le_of_ble_eq_true rfl, Nat.le_of_ble_eq_true rfl⟩) (by omega) (congrFun hR.2.2.2.2.2.1.1 _) rfl rfl rfl rfl (Nat.le_of_ble_eq_true rfl) dX4_obeys_251 ⟨Nat.zero_le _, Nat.zero_le _⟩ rfl (fun H locs hw => ?_)
        refine lv_iload hx hb dX4_obeys_254 (lv_at hl 3 rfl) ?_
        refine bi_ne (tgt := 263) hx hb dX4_obeys_256 (by decide) h (fun h => ?_) (fun h => ?_)
        · refine lv_iconst (v := (nI 0)) hx hb dX4_obeys_263 (by decide) ?_
          exact e_zw hx hb hr hlocks hw dX4_obeys_264 h
        · refine lv_iconst (v := (nI 1)) hx hb dX4_obeys_259 (by decide) ?_
          refine lv_goto (tgt := 264) hx hb dX4_obeys_260 (by decide) ?_
          exact e_zw hx hb hr hlocks hw dX4_obeys_264 h
  refine sw_if h (fun hc7 h => ?_) (fun hc7 h => ?_)
  · rw [hc7]
    refine lv_tableIn (off := 206) (tgt := 265) hx hb dX4_obeys_59 (by decide) (by decide) rfl (by decide) ?_
    refine lv_iload hx hb dX4_obeys_265 (lv_at hl 2 rfl) ?_
    refine lv_iconst (v := (nI 1)) hx hb dX4_obeys_267 (by decide) ?_
    refine bi_gt (tgt := 317) hx hb dX4_obeys_268 (by decide) h (fun h => ?_) (fun h => ?_)
    · refine lv_iconst (v := (nI 0)) hx hb dX4_obeys_317 (by decide) ?_
      exact e_zw hx hb hr hlocks hw dX4_obeys_318 h
    · refine lv_iload_n hx hb dX4_obeys_271 rfl (lv_at hl 5 rfl) ?_
      refine b_ne (tgt := 317) hx hb dX4_obeys_272 (by decide) h (fun h => ?_) (fun h => ?_)
      · refine lv_iconst (v := (nI 0)) hx hb dX4_obeys_317 (by decide) ?_
        exact e_zw hx hb hr hlocks hw dX4_obeys_318 h
      · refine lv_aload_n hx hb dX4_obeys_275 rfl (lv_at hl 7 rfl) ?_
        refine r_get (v := .ref (gA G (β + 1))) hx hb hts hinX4 hown hE hw hn 0 (by decide) (congrFun hR.1 _) rfl 0 (by decide) (hts _ (wz_in qF_X4_14)) rfl dX4_obeys_276 ?_
        refine lv_iload_n hx hb dX4_obeys_279 rfl (lv_at hl 6 rfl) ?_
        obtain ⟨v280, h280, h⟩ := cr1_some h
        refine r_callV (As := [.int v8]) (rest := []) (st1 := [.int v280]) hx hb hml hown hts hE hw hl (mc_subR 1 2 (by decide) (mX5_has l G (by show β + 1 + 2 ≤ _; omega) hR.2.1 h280)) (cwV 1 hts (zV gV_X4_88) rfl rfl rfl kdX5_has ⟨Nat.le_of_ble_eq_true rfl, Nat.le_of_ble_eq_true rfl⟩) (by omega) (congrFun hR.2.1.1 _) rfl rfl rfl rfl (Nat.le_of_ble_eq_true rfl) dX4_obeys_280 ⟨Nat.zero_le _, Nat.zero_le _⟩ rfl (fun H locs hw => ?_)
        refine b_eq (tgt := 317) hx hb dX4_obeys_283 (by decide) h (fun h => ?_) (fun h => ?_)
        · refine lv_iconst (v := (nI 0)) hx hb dX4_obeys_317 (by decide) ?_
          exact e_zw hx hb hr hlocks hw dX4_obeys_318 h
        · refine lv_aload_n hx hb dX4_obeys_286 rfl (lv_at hl 7 rfl) ?_
          refine lv_iload_n hx hb dX4_obeys_287 rfl (lv_at hl 6 rfl) ?_
          obtain ⟨v288, h288, h⟩ := cr1_some h
          refine r_callV (As := [.int v8]) (rest := []) (st1 := [.int v288]) hx hb hml hown hts hE hw hl (mX4_closedFor l G (by omega) hR h288) (cwV 1 hts (zV gV_X4_156) rfl rfl rfl kdX4_closedFor ⟨Nat.le_of_ble_eq_true rfl, Nat.le_of_ble_eq_true rfl⟩) (by omega) (congrFun hR.1 _) rfl rfl rfl rfl (Nat.le_of_ble_eq_true rfl) dX4_obeys_288 ⟨Nat.zero_le _, Nat.zero_le _⟩ rfl (fun H locs hw => ?_)
          refine b_le (tgt := 298) hx hb dX4_obeys_291 (by decide) h (fun h => ?_) (fun h => ?_)
          · refine lv_iconst (v := (nI 0)) hx hb dX4_obeys_298 (by decide) ?_
            exact k299  v30 (nI 0) S _ _ _ h hw (lv_sub hl [3] rfl)
          · refine lv_iconst (v := (nI 1)) hx hb dX4_obeys_294 (by decide) ?_
            refine lv_goto (tgt := 299) hx hb dX4_obeys_295 (by decide) ?_
            exact k299  v30 (nI 1) S _ _ _ h hw (lv_sub hl [3] rfl)
  refine sw_if h (fun hc8 h => ?_) (fun hc8 h => ?_)
  · rw [hc8]
    refine lv_tableIn (off := 260) (tgt := 319) hx hb dX4_obeys_59 (by decide) (by decide) rfl (by decide) ?_
    refine lv_iload_n hx hb dX4_obeys_319 rfl (lv_at hl 5 rfl) ?_
    refine b_ne (tgt := 356) hx hb dX4_obeys_320 (by decide) h (fun h => ?_) (fun h => ?_)
    · refine lv_iconst (v := (nI 0)) hx hb dX4_obeys_356 (by decide) ?_
      exact e_zw hx hb hr hlocks hw dX4_obeys_357 h
    · refine lv_iload hx hb dX4_obeys_323 (lv_at hl 4 rfl) ?_
      refine b_ne (tgt := 356) hx hb dX4_obeys_325 (by decide) h (fun h => ?_) (fun h => ?_)
      · refine lv_iconst (v := (nI 0)) hx hb dX4_obeys_356 (by decide) ?_
        exact e_zw hx hb hr hlocks hw dX4_obeys_357 h
      · refine lv_aload_n hx hb dX4_obeys_328 rfl (lv_at hl 7 rfl) ?_
        refine r_get (v := .ref (gA G (β + 3))) hx hb hts hinX4 hown hE hw hn 0 (by decide) (congrFun hR.1 _) rfl 1 (by decide) (hts _ (wz_in qF_X4_20)) rfl dX4_obeys_329 ?_
        refine lv_iload_n hx hb dX4_obeys_332 rfl (lv_at hl 6 rfl) ?_
        obtain ⟨v333, h333, h⟩ := cr1_some h
        refine r_callV (As := [.int v8]) (rest := []) (st1 := [.int v333]) hx hb hml hown hts hE hw hl (mc_subR 3 2 (by decide) (mX5_has l G (by show β + 3 + 2 ≤ _; omega) hR.2.2.1 h333)) (cwV 1 hts (zV gV_X4_88) rfl rfl rfl kdX5_has ⟨Nat.le_of_ble_eq_true rfl, Nat.le_of_ble_eq_true rfl⟩) (by omega) (congrFun hR.2.2.1.1 _) rfl rfl rfl rfl (Nat.le_of_ble_eq_true rfl) dX4_obeys_333 ⟨Nat.zero_le _, Nat.zero_le _⟩ rfl (fun H locs hw => ?_)
        refine b_eq (tgt := 356) hx hb dX4_obeys_336 (by decide) h (fun h => ?_) (fun h => ?_)
        · refine lv_iconst (v := (nI 0)) hx hb dX4_obeys_356 (by decide) ?_
          exact e_zw hx hb hr hlocks hw dX4_obeys_357 h
        · refine lv_aload_n hx hb dX4_obeys_339 rfl (lv_at hl 7 rfl) ?_
          refine r_get (v := .ref (gA G (β + 14))) hx hb hts hinX4 hown hE hw hn 0 (by decide) (congrFun hR.1 _) rfl 6 (by decide) (hts _ (wz_in qF_X4_39)) rfl dX4_obeys_340 ?_
          refine lv_iload_n hx hb dX4_obeys_343 rfl (lv_at hl 6 rfl) ?_
          obtain ⟨v344, h344, h⟩ := cr1_some h
          refine r_callV (As := [.int v8]) (rest := []) (st1 := [.int v344]) hx hb hml hown hts hE hw hl (mc_subR 14 3 (by decide) (mX2_size l G (by show β + 14 + 3 ≤ _; omega) hR.2.2.2.2.2.2.2 h344)) (cwV 1 hts (zV gV_X4_92) rfl rfl rfl kdX2_size ⟨Nat.le_of_ble_eq_true rfl, Nat.le_of_ble_eq_true rfl⟩) (by omega) (congrFun hR.2.2.2.2.2.2.2.1 _) rfl rfl rfl rfl (Nat.le_of_ble_eq_true rfl) dX4_obeys_344 ⟨Nat.zero_le _, Nat.zero_le _⟩ rfl (fun H locs hw => ?_)
          refine lv_iload hx hb dX4_obeys_347 (lv_at hl 3 rfl) ?_
          refine bi_lt (tgt := 356) hx hb dX4_obeys_349 (by decide) h (fun h => ?_) (fun h => ?_)
          · refine lv_iconst (v := (nI 0)) hx hb dX4_obeys_356 (by decide) ?_
            exact e_zw hx hb hr hlocks hw dX4_obeys_357 h
          · refine lv_iconst (v := (nI 1)) hx hb dX4_obeys_352 (by decide) ?_
            refine lv_goto (tgt := 357) hx hb dX4_obeys_353 (by decide) ?_
            exact e_zw hx hb hr hlocks hw dX4_obeys_357 h
  refine sw_if h (fun hc9 h => ?_) (fun hc9 h => ?_)
  · rw [hc9]
    refine lv_tableIn (off := 299) (tgt := 358) hx hb dX4_obeys_59 (by decide) (by decide) rfl (by decide) ?_
    refine lv_iload_n hx hb dX4_obeys_358 rfl (lv_at hl 6 rfl) ?_
    refine b_ne (tgt := 380) hx hb dX4_obeys_359 (by decide) h (fun h => ?_) (fun h => ?_)
    · refine lv_iconst (v := (nI 0)) hx hb dX4_obeys_380 (by decide) ?_
      exact e_zw hx hb hr hlocks hw dX4_obeys_381 h
    · refine lv_iload_n hx hb dX4_obeys_362 rfl (lv_at hl 5 rfl) ?_
      refine b_ne (tgt := 380) hx hb dX4_obeys_363 (by decide) h (fun h => ?_) (fun h => ?_)
      · refine lv_iconst (v := (nI 0)) hx hb dX4_obeys_380 (by decide) ?_
        exact e_zw hx hb hr hlocks hw dX4_obeys_381 h
      · refine lv_aload_n hx hb dX4_obeys_366 rfl (lv_at hl 7 rfl) ?_
        refine lv_iconst (v := (nI 2)) hx hb dX4_obeys_367 (by decide) ?_
        obtain ⟨v368, h368, h⟩ := cr1_some h
        refine r_callV (As := [.int (nI 2)]) (rest := []) (st1 := [.int v368]) hx hb hml hown hts hE hw hl (mX4_howMany l G (by omega) hR h368) (cwV 1 hts (zV gV_X4_182) rfl rfl rfl kdX4_howMany ⟨Nat.le_of_ble_eq_true rfl, Nat.le_of_ble_eq_true rfl⟩) (by omega) (congrFun hR.1 _) rfl rfl rfl rfl (Nat.le_of_ble_eq_true rfl) dX4_obeys_368 ⟨Nat.zero_le _, Nat.zero_le _⟩ rfl (fun H locs hw => ?_)
        refine lv_iload hx hb dX4_obeys_371 (lv_at hl 2 rfl) ?_
        refine bi_lt (tgt := 380) hx hb dX4_obeys_373 (by decide) h (fun h => ?_) (fun h => ?_)
        · refine lv_iconst (v := (nI 0)) hx hb dX4_obeys_380 (by decide) ?_
          exact e_zw hx hb hr hlocks hw dX4_obeys_381 h
        · refine lv_iconst (v := (nI 1)) hx hb dX4_obeys_376 (by decide) ?_
          refine lv_goto (tgt := 381) hx hb dX4_obeys_377 (by decide) ?_
          exact e_zw hx hb hr hlocks hw dX4_obeys_381 h
  · refine lv_tableOut (tgt := 382) hx hb dX4_obeys_59 (by have q0 := lv_neT hc1 (by decide : ((nI 1) : Int32).toInt = 1); have q1 := lv_neT hc2 (by decide : ((nI 2) : Int32).toInt = 2); have q2 := lv_neT hc3 (by decide : ((nI 3) : Int32).toInt = 3); have q3 := lv_neT hc4 (by decide : ((nI 4) : Int32).toInt = 4); have q4 := lv_neT hc5 (by decide : ((nI 5) : Int32).toInt = 5); have q5 := lv_neT hc6 (by decide : ((nI 6) : Int32).toInt = 6); have q6 := lv_neT hc7 (by decide : ((nI 7) : Int32).toInt = 7); have q7 := lv_neT hc8 (by decide : ((nI 8) : Int32).toInt = 8); have q8 := lv_neT hc9 (by decide : ((nI 9) : Int32).toInt = 9); omega) (by decide) ?_
    refine lv_iconst (v := (nI 0)) hx hb dX4_obeys_382 (by decide) ?_
    exact e_zw hx hb hr hlocks hw dX4_obeys_383 h

set_option maxHeartbeats 4000000 in
set_option maxRecDepth 100000 in
theorem mX4_meetChance (l : Launch) (G : mG) {β : Nat} {M S S' : mM} {a1 : Int32} (hn : β + 17 ≤ gN G) (hR : isSt G β) (h : pX4_meetChance a1 S = some S') : MC l G yX4_meetChance zzX4_meetChance 1 25 [.ref (gA G (β + 0)), .int a1] (wB M β 17 S) (wB M β 17 S') none := by
  refine mc_of (cc := cX4_meetChance) (maxL := 5) (ret := none) (by decide) rfl (Nat.le_of_ble_eq_true rfl) ?_
  intro p e s m args below meth c H ls hx hb hr hts hown hml hlocks hE hw hl
  have hl : lv_has ls 5 [(0, .ref (gA G (β + 0))), (1, .int a1)] := hl
  have hinX4 : ∀ w ∈ wsX40, w ∈ zzX4_meetChance := fun w h9 => wz_in (zinX4 w h9)
  have k47 : ∀ (x1 : Int32) (x3 : Int32) (S : mM) (H : Heap) (locs : List Loc) (ls : Array Slot), pX4_meetChance_b47  x1 x3 S = some S' → mW G s (wB M β 17 S) H locs → lv_has ls 5 [(0, .ref (gA G (β + 0))), (1, .int x1), (3, .int x3)] → W p l e { frames := 1, cells := 0, slots := 0, locals := 25 } s m args below meth c H locs 0 0 (mZ below G none (wB M β 17 S') args s) (F0 m 47 ls []) := by
    intro x1 x3 S H locs ls h hw hl
    unfold pX4_meetChance_b47 at h
    refine lv_iload_n hx hb dX4_meetChance_47 rfl (lv_at hl 1 rfl) ?_
    refine lv_iconst (v := (nI 5)) hx hb dX4_meetChance_48 (by decide) ?_
    refine lv_irem hx hb dX4_meetChance_49 (by decide) ?_
    refine lv_iconst (v := (nI 1)) hx hb dX4_meetChance_50 (by decide) ?_
    refine bi_ne (tgt := 100) hx hb dX4_meetChance_51 (by decide) h (fun h => ?_) (fun h => ?_)
    · exact e_vw hx hb hr hlocks hw dX4_meetChance_100 h
    · refine lv_iload_n hx hb dX4_meetChance_54 rfl (lv_at hl 2 rfl) ?_
      refine b_le (tgt := 100) hx hb dX4_meetChance_55 (by decide) h (fun h => ?_) (fun h => ?_)
      · exact e_vw hx hb hr hlocks hw dX4_meetChance_100 h
      · refine lv_iload_n hx hb dX4_meetChance_58 rfl (lv_at hl 1 rfl) ?_
        refine lv_bipush (v := (nI 8)) hx hb dX4_meetChance_59 (by decide) ?_
        refine lv_idiv hx hb dX4_meetChance_61 (by decide) ?_
        refine lv_iload_n hx hb dX4_meetChance_62 rfl (lv_at hl 2 rfl) ?_
        obtain ⟨hz63, h⟩ := nz_some h
        refine lv_irem hx hb dX4_meetChance_63 hz63 ?_
        refine p_topi h (fun v64 h => ?_)
        refine lv_istore (lv' := [(4, .int v64), (0, .ref (gA G (β + 0))), (1, .int x1), (3, .int x3)]) hx hb dX4_meetChance_64 hl (by decide) rfl (fun ls hl => ?_)
        refine lv_aload_n hx hb dX4_meetChance_66 rfl (lv_at hl 1 rfl) ?_
        refine r_get (v := .ref (gA G (β + 5))) hx hb hts hinX4 hown hE hw hn 0 (by decide) (congrFun hR.1 _) rfl 2 (by decide) (hts _ (wz_in qF_X4_23)) rfl dX4_meetChance_67 ?_
        refine lv_iload hx hb dX4_meetChance_70 (lv_at hl 0 rfl) ?_
        refine lv_iconst (v := (nI 1)) hx hb dX4_meetChance_72 (by decide) ?_
        refine lv_sipush (v := (nI 999)) hx hb dX4_meetChance_73 (by decide) ?_
        refine lv_aload_n hx hb dX4_meetChance_76 rfl (lv_at hl 1 rfl) ?_
        refine r_get (v := .ref (gA G (β + 5))) hx hb hts hinX4 hown hE hw hn 0 (by decide) (congrFun hR.1 _) rfl 2 (by decide) (hts _ (wz_in qF_X4_23)) rfl dX4_meetChance_77 ?_
        refine lv_iload hx hb dX4_meetChance_80 (lv_at hl 0 rfl) ?_
        refine lv_iconst (v := (nI 1)) hx hb dX4_meetChance_82 (by decide) ?_
        obtain ⟨v83, h83, h⟩ := cr1_some h
        refine r_callV (As := [.int v64, .int (nI 1)]) (rest := [.int (nI 999), .int (nI 1), .int v64, .ref (gA G (β + 5))]) (st1 := [.int v83, .int (nI 999), .int (nI 1), .int v64, .ref (gA G (β + 5))]) hx hb hml hown hts hE hw hl (mc_subR 5 2 (by decide) (mX5_get l G (by show β + 5 + 2 ≤ _; omega) hR.2.2.2.1 h83)) (cwV 2 hts (zV gV_X4_96) rfl rfl rfl kdX5_get ⟨Nat.le_of_ble_eq_true rfl, Nat.le_of_ble_eq_true rfl⟩) (by omega) (congrFun hR.2.2.2.1.1 _) rfl rfl rfl rfl (Nat.le_of_ble_eq_true rfl) dX4_meetChance_83 ⟨Nat.zero_le _, Nat.zero_le _⟩ rfl (fun H locs hw => ?_)
        refine lv_iload_n hx hb dX4_meetChance_86 rfl (lv_at hl 2 rfl) ?_
        refine lv_bipush (v := (nI 64)) hx hb dX4_meetChance_87 (by decide) ?_
        refine lv_idiv hx hb dX4_meetChance_89 (by decide) ?_
        refine lv_bipush (v := (nI 30)) hx hb dX4_meetChance_90 (by decide) ?_
        refine lv_irem hx hb dX4_meetChance_92 (by decide) ?_
        refine lv_iadd hx hb dX4_meetChance_93 ?_
        refine va_mmin hx hb (hml.trans hl.1.symm) hown (hts _ (wz_in qM_X4_106)) (hts _ (wz_in qT_min)) (hts _ (wz_in qN_J9)) (hts _ (wz_in qC_min)) (Nat.le_of_ble_eq_true rfl) (Nat.le_of_ble_eq_true rfl) (Nat.zero_le _) (Nat.zero_le _) dX4_meetChance_94 ?_
        refine p_topi h (fun v94 h => ?_)
        obtain ⟨T97, h97, h⟩ := cvs_some h
        refine r_callV (As := [.int v64, .int (nI 1), .int v94]) (rest := []) (st1 := []) hx hb hml hown hts hE hw hl (mc_sub 5 2 (by decide) (mX5_put l G (by show β + 5 + 2 ≤ _; omega) hR.2.2.2.1 h97)) (cwV 3 hts (zV gV_X4_74) rfl rfl rfl kdX5_put ⟨Nat.le_of_ble_eq_true rfl, Nat.le_of_ble_eq_true rfl⟩) (by omega) (congrFun hR.2.2.2.1.1 _) rfl rfl rfl rfl (Nat.le_of_ble_eq_true rfl) dX4_meetChance_97 ⟨Nat.zero_le _, Nat.zero_le _⟩ rfl (fun H locs hw => ?_)
        generalize wB S 5 2 T97 = S97 at h hw
        exact e_vw hx hb hr hlocks hw dX4_meetChance_100 h
  unfold pX4_meetChance at h
  refine lv_aload_n hx hb dX4_meetChance_0 rfl (lv_at hl 0 rfl) ?_
  refine r_get (v := .ref (gA G (β + 7))) hx hb hts hinX4 hown hE hw hn 0 (by decide) (congrFun hR.1 _) rfl 3 (by decide) (hts _ (wz_in qF_X4_26)) rfl dX4_meetChance_1 ?_
  obtain ⟨v4, h4, h⟩ := cr1_some h
  refine r_callV (As := []) (rest := []) (st1 := [.int v4]) hx hb hml hown hts hE hw hl (mc_subR 7 2 (by decide) (mX5_count l G (by show β + 7 + 2 ≤ _; omega) hR.2.2.2.2.1 h4)) (cwV 0 hts (zV gV_X4_109) rfl rfl rfl kdX5_count ⟨Nat.le_of_ble_eq_true rfl, Nat.le_of_ble_eq_true rfl⟩) (by omega) (congrFun hR.2.2.2.2.1.1 _) rfl rfl rfl rfl (Nat.le_of_ble_eq_true rfl) dX4_meetChance_4 ⟨Nat.zero_le _, Nat.zero_le _⟩ rfl (fun H locs hw => ?_)
  refine lv_istore_n (lv' := [(2, .int v4), (0, .ref (gA G (β + 0))), (1, .int a1)]) hx hb dX4_meetChance_7 rfl hl (by decide) rfl (fun ls hl => ?_)
  refine lv_aload_n hx hb dX4_meetChance_8 rfl (lv_at hl 1 rfl) ?_
  refine r_get (v := .ref (gA G (β + 5))) hx hb hts hinX4 hown hE hw hn 0 (by decide) (congrFun hR.1 _) rfl 2 (by decide) (hts _ (wz_in qF_X4_23)) rfl dX4_meetChance_9 ?_
  obtain ⟨v12, h12, h⟩ := cr1_some h
  refine r_callV (As := []) (rest := []) (st1 := [.int v12]) hx hb hml hown hts hE hw hl (mc_subR 5 2 (by decide) (mX5_count l G (by show β + 5 + 2 ≤ _; omega) hR.2.2.2.1 h12)) (cwV 0 hts (zV gV_X4_109) rfl rfl rfl kdX5_count ⟨Nat.le_of_ble_eq_true rfl, Nat.le_of_ble_eq_true rfl⟩) (by omega) (congrFun hR.2.2.2.1.1 _) rfl rfl rfl rfl (Nat.le_of_ble_eq_true rfl) dX4_meetChance_12 ⟨Nat.zero_le _, Nat.zero_le _⟩ rfl (fun H locs hw => ?_)
  refine lv_istore_n (lv' := [(3, .int v12), (2, .int v4), (0, .ref (gA G (β + 0))), (1, .int a1)]) hx hb dX4_meetChance_15 rfl hl (by decide) rfl (fun ls hl => ?_)
  refine lv_iload_n hx hb dX4_meetChance_16 rfl (lv_at hl 3 rfl) ?_
  refine lv_iconst (v := (nI 5)) hx hb dX4_meetChance_17 (by decide) ?_
  refine lv_irem hx hb dX4_meetChance_18 (by decide) ?_
  refine b_ne (tgt := 47) hx hb dX4_meetChance_19 (by decide) h (fun h => ?_) (fun h => ?_)
  · exact k47  a1 v12 S _ _ _ h hw (lv_sub hl [2, 3, 0] rfl)
  · refine lv_iload_n hx hb dX4_meetChance_22 rfl (lv_at hl 1 rfl) ?_
    refine b_le (tgt := 47) hx hb dX4_meetChance_23 (by decide) h (fun h => ?_) (fun h => ?_)
    · exact k47  a1 v12 S _ _ _ h hw (lv_sub hl [2, 3, 0] rfl)
    · refine lv_aload_n hx hb dX4_meetChance_26 rfl (lv_at hl 2 rfl) ?_
      refine r_get (v := .ref (gA G (β + 7))) hx hb hts hinX4 hown hE hw hn 0 (by decide) (congrFun hR.1 _) rfl 3 (by decide) (hts _ (wz_in qF_X4_26)) rfl dX4_meetChance_27 ?_
      refine lv_iload_n hx hb dX4_meetChance_30 rfl (lv_at hl 3 rfl) ?_
      refine lv_bipush (v := (nI 8)) hx hb dX4_meetChance_31 (by decide) ?_
      refine lv_idiv hx hb dX4_meetChance_33 (by decide) ?_
      refine lv_iload_n hx hb dX4_meetChance_34 rfl (lv_at hl 1 rfl) ?_
      obtain ⟨hz35, h⟩ := nz_some h
      refine lv_irem hx hb dX4_meetChance_35 hz35 ?_
      refine lv_iconst (v := (nI 1)) hx hb dX4_meetChance_36 (by decide) ?_
      refine lv_iload_n hx hb dX4_meetChance_37 rfl (lv_at hl 3 rfl) ?_
      refine lv_bipush (v := (nI 64)) hx hb dX4_meetChance_38 (by decide) ?_
      refine lv_idiv hx hb dX4_meetChance_40 (by decide) ?_
      refine lv_bipush (v := (nI 6)) hx hb dX4_meetChance_41 (by decide) ?_
      refine lv_irem hx hb dX4_meetChance_43 (by decide) ?_
      obtain ⟨T44, h44, h⟩ := cvs_some h
      refine r_callV (As := [.int ((a1 / (nI 8)) - (a1 / (nI 8)) / v4 * v4), .int (nI 1), .int ((a1 / (nI 64)) - (a1 / (nI 64)) / (nI 6) * (nI 6))]) (rest := []) (st1 := []) hx hb hml hown hts hE hw hl (mc_sub 7 2 (by decide) (mX5_put l G (by show β + 7 + 2 ≤ _; omega) hR.2.2.2.2.1 h44)) (cwV 3 hts (zV gV_X4_74) rfl rfl rfl kdX5_put ⟨Nat.le_of_ble_eq_true rfl, Nat.le_of_ble_eq_true rfl⟩) (by omega) (congrFun hR.2.2.2.2.1.1 _) rfl rfl rfl rfl (Nat.le_of_ble_eq_true rfl) dX4_meetChance_44 ⟨Nat.zero_le _, Nat.zero_le _⟩ rfl (fun H locs hw => ?_)
      generalize wB S 7 2 T44 = S44 at h hw
      exact k47  a1 v12 S44 _ _ _ h hw (lv_sub hl [2, 3, 0] rfl)
