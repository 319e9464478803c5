/-! ===== walks, by program ===== -/
set_option maxHeartbeats 4000000 in
set_option maxRecDepth 100000 in
theorem mX6_bestHold (l : Launch) (G : mG) {β : Nat} {M S S' : mM} {a1 : Int32} {r : Int32} (hn : β + 316 ≤ gN G) (hR : isWR G β) (h : pX6_bestHold a1 S = some (.inl r, S')) : MC l G yX6_bestHold zzX6_bestHold 6 143 [.ref (gA G (β + 0)), .int a1] (wB M β 316 S) (wB M β 316 S') (some (.int r)) := by
  refine mc_of (cc := cX6_bestHold) (maxL := 6) (ret := (some .int)) (by decide) rfl (Nat.le_of_ble_eq_true rfl) ?_
  intro p e s m args below meth c H ls hx hb hr hts hown hml hlocks hE hw hl
  have hl : lv_has ls 6 [(0, .ref (gA G (β + 0))), (1, .int a1)] := hl
  have hinX4 : ∀ w ∈ wsX40, w ∈ zzX6_bestHold := fun w h9 => wz_in (zinX4 w h9)
  have hinX6 : ∀ w ∈ wsX60, w ∈ zzX6_bestHold := fun w h9 => wz_in (zinX6 w h9)
  have k34 : ∀ (k : Nat), ∀ (x1 : Int32) (x2 : Int32) (x3 : Int32) (x4 : Int32) (S : mM) (H : Heap) (locs : List Loc) (ls : Array Slot), pX6_bestHold_l34  k x1 x2 x3 x4 S = some (.inl r, S') → mW G s (wB M β 316 S) H locs → lv_has ls 6 [(0, .ref (gA G (β + 0))), (1, .int x1), (2, .int x2), (3, .int x3), (4, .int x4)] → W p l e { frames := 6, cells := 0, slots := 0, locals := 143 } s m args below meth c H locs 0 0 (mZ below G (some (.int r)) (wB M β 316 S') args s) (F0 m 34 ls []) := by
    intro k
    induction k with
    | zero => intro x1 x2 x3 x4 S H locs ls h; cases h
    | succ k hih34 =>
      intro x1 x2 x3 x4 S H locs ls h hw hl
      obtain ⟨ih34, hk34⟩ : ∃ f, f = pX6_bestHold_l34  k := ⟨_, rfl⟩
      replace h : pX6_bestHold_lb34  (pX6_bestHold_l34  k) x1 x2 x3 x4 S = some (.inl r, S') := h
      rw [← hk34] at h hih34
      clear hk34
      unfold pX6_bestHold_lb34 at h
      refine lv_iload hx hb dX6_bestHold_34 (lv_at hl 4 rfl) ?_
      refine lv_bipush (v := (nI 23)) hx hb dX6_bestHold_36 (by decide) ?_
      refine bi_gt (tgt := 107) hx hb dX6_bestHold_38 (by decide) h (fun h => ?_) (fun h => ?_)
      · refine lv_iload_n hx hb dX6_bestHold_107 rfl (lv_at hl 2 rfl) ?_
        cases h
        exact r_iret hx hb hr hlocks hw dX6_bestHold_108
      · refine lv_aload_n hx hb dX6_bestHold_41 rfl (lv_at hl 0 rfl) ?_
        refine r_get (v := .ref (gA G (β + 20))) hx hb hts hinX6 hown hE hw hn 0 (by decide) (congrFun hR.1 _) rfl 2 (by decide) (hts _ (wz_in qF_X6_23)) rfl dX6_bestHold_42 ?_
        refine lv_aload_n hx hb dX6_bestHold_45 rfl (lv_at hl 0 rfl) ?_
        refine r_get (v := .ref (gA G (β + 3))) hx hb hts hinX6 hown hE hw hn 0 (by decide) (congrFun hR.1 _) rfl 1 (by decide) (hts _ (wz_in qF_X6_19)) rfl dX6_bestHold_46 ?_
        obtain ⟨S49, h49, h⟩ := cr1_some h
        refine r_callV (As := [.ref (gA G (β + 3))]) (rest := []) (st1 := []) hx hb hml hown hts hE hw hl (mX4_copyFrom l G (by omega) hR (by decide) (by decide) hR.2.2.2.2.1 hR.2.2.2.1 h49) (cwV 1 hts (zV gV_X6_69) rfl rfl rfl kdX4_copyFrom ⟨Nat.le_of_ble_eq_true rfl, Nat.le_of_ble_eq_true rfl⟩) (by omega) (congrFun hR.2.2.2.2.1.1 _) rfl rfl rfl rfl (Nat.le_of_ble_eq_true rfl) dX6_bestHold_49 ⟨Nat.zero_le _, Nat.zero_le _⟩ rfl (fun H locs hw => ?_)
        refine lv_aload_n hx hb dX6_bestHold_52 rfl (lv_at hl 0 rfl) ?_
        refine r_get (v := .ref (gA G (β + 20))) hx hb hts hinX6 hown hE hw hn 0 (by decide) (congrFun hR.1 _) rfl 2 (by decide) (hts _ (wz_in qF_X6_23)) rfl dX6_bestHold_53 ?_
        refine r_get (v := .ref (gA G (β + 27))) hx hb hts hinX4 hown hE hw hn 20 (by decide) (congrFun hR.2.2.2.2.1.1 _) rfl 3 (by decide) (hts _ (wz_in qF_X6_102)) rfl dX6_bestHold_56 ?_
        refine lv_iload_n hx hb dX6_bestHold_59 rfl (lv_at hl 1 rfl) ?_
        refine lv_iconst (v := (nI 1)) hx hb dX6_bestHold_60 (by decide) ?_
        refine lv_iload hx hb dX6_bestHold_61 (lv_at hl 4 rfl) ?_
        obtain ⟨T63, h63, h⟩ := cvs_some h
        refine r_callV (As := [.int x1, .int (nI 1), .int x4]) (rest := []) (st1 := []) hx hb hml hown hts hE hw hl (mc_sub 27 2 (by decide) (mX5_put l G (by show β + 27 + 2 ≤ _; omega) hR.2.2.2.2.1.2.2.2.2.1 h63)) (cwV 3 hts (zV gV_X6_176) rfl rfl rfl kdX5_put ⟨Nat.le_of_ble_eq_true rfl, Nat.le_of_ble_eq_true rfl⟩) (by omega) (congrFun hR.2.2.2.2.1.2.2.2.2.1.1 _) rfl rfl rfl rfl (Nat.le_of_ble_eq_true rfl) dX6_bestHold_63 ⟨Nat.zero_le _, Nat.zero_le _⟩ rfl (fun H locs hw => ?_)
        generalize wB S49 27 2 T63 = S63 at h hw
        refine lv_aload_n hx hb dX6_bestHold_66 rfl (lv_at hl 0 rfl) ?_
        refine r_get (v := .ref (gA G (β + 20))) hx hb hts hinX6 hown hE hw hn 0 (by decide) (congrFun hR.1 _) rfl 2 (by decide) (hts _ (wz_in qF_X6_23)) rfl dX6_bestHold_67 ?_
        refine lv_iload_n hx hb dX6_bestHold_70 rfl (lv_at hl 1 rfl) ?_
        obtain ⟨v71, T71, h71, h⟩ := cws_some h
        refine r_callV (As := [.int x1]) (rest := []) (st1 := [.int v71]) hx hb hml hown hts hE hw hl (mc_sub 20 17 (by decide) (mX4_hoursToEnd l G (by show β + 20 + 17 ≤ _; omega) hR.2.2.2.2.1 h71)) (cwV 1 hts (zV gV_X6_190) rfl rfl rfl kdX4_hoursToEnd ⟨Nat.le_of_ble_eq_true rfl, Nat.le_of_ble_eq_true rfl⟩) (by omega) (congrFun hR.2.2.2.2.1.1 _) rfl rfl rfl rfl (Nat.le_of_ble_eq_true rfl) dX6_bestHold_71 ⟨Nat.zero_le _, Nat.zero_le _⟩ rfl (fun H locs hw => ?_)
        generalize wB S63 20 17 T71 = S71 at h hw
        refine lv_istore (lv' := [(5, .int v71), (0, .ref (gA G (β + 0))), (1, .int x1), (2, .int x2), (3, .int x3), (4, .int x4)]) hx hb dX6_bestHold_74 hl (by decide) rfl (fun ls hl => ?_)
        refine lv_iload hx hb dX6_bestHold_76 (lv_at hl 0 rfl) ?_
        refine lv_bipush (v := (-9)) hx hb dX6_bestHold_78 (by decide) ?_
        refine bi_eq (tgt := 101) hx hb dX6_bestHold_80 (by decide) h (fun h => ?_) (fun h => ?_)
        · refine p_iinc (w := (nI 1)) 5 (fun v101 => [(4, .int v101), (5, .int v71), (0, .ref (gA G (β + 0))), (1, .int x1), (2, .int x2), (3, .int x3)]) hx hb dX6_bestHold_101 hl rfl (by decide) (by decide) h (fun _ => rfl) (fun v101 h ls hl => ?_)
          refine lv_goto (tgt := 34) hx hb dX6_bestHold_104 (by decide) ?_
          exact hih34 x1 x2 x3 v101 S71 _ _ _ h hw (lv_sub hl [2, 3, 4, 5, 0] rfl)
        · refine lv_iload hx hb dX6_bestHold_83 (lv_at hl 0 rfl) ?_
          refine lv_iload hx hb dX6_bestHold_85 (lv_at hl 5 rfl) ?_
          refine lv_isub hx hb dX6_bestHold_87 ?_
          refine lv_iload_n hx hb dX6_bestHold_88 rfl (lv_at hl 4 rfl) ?_
          refine bi_ge (tgt := 101) hx hb dX6_bestHold_89 (by decide) h (fun h => ?_) (fun h => ?_)
          · refine p_iinc (w := (nI 1)) 5 (fun v101 => [(4, .int v101), (5, .int v71), (0, .ref (gA G (β + 0))), (1, .int x1), (2, .int x2), (3, .int x3)]) hx hb dX6_bestHold_101 hl rfl (by decide) (by decide) h (fun _ => rfl) (fun v101 h ls hl => ?_)
            refine lv_goto (tgt := 34) hx hb dX6_bestHold_104 (by decide) ?_
            exact hih34 x1 x2 x3 v101 S71 _ _ _ h hw (lv_sub hl [2, 3, 4, 5, 0] rfl)
          · refine lv_iload hx hb dX6_bestHold_92 (lv_at hl 5 rfl) ?_
            refine lv_istore_n (lv' := [(2, .int x4), (5, .int v71), (0, .ref (gA G (β + 0))), (1, .int x1), (3, .int x3), (4, .int x4)]) hx hb dX6_bestHold_94 rfl hl (by decide) rfl (fun ls hl => ?_)
            refine lv_iload hx hb dX6_bestHold_95 (lv_at hl 1 rfl) ?_
            refine lv_iload hx hb dX6_bestHold_97 (lv_at hl 5 rfl) ?_
            refine lv_isub hx hb dX6_bestHold_99 ?_
            refine p_topi h (fun v100 h => ?_)
            refine lv_istore_n (lv' := [(3, .int v100), (2, .int x4), (5, .int v71), (0, .ref (gA G (β + 0))), (1, .int x1), (4, .int x4)]) hx hb dX6_bestHold_100 rfl hl (by decide) rfl (fun ls hl => ?_)
            refine p_iinc (w := (nI 1)) 5 (fun v101 => [(4, .int v101), (3, .int v100), (2, .int x4), (5, .int v71), (0, .ref (gA G (β + 0))), (1, .int x1)]) hx hb dX6_bestHold_101 hl rfl (by decide) (by decide) h (fun _ => rfl) (fun v101 h ls hl => ?_)
            refine lv_goto (tgt := 34) hx hb dX6_bestHold_104 (by decide) ?_
            exact hih34 x1 x4 v100 v101 S71 _ _ _ h hw (lv_sub hl [4, 5, 2, 1, 0] rfl)
  unfold pX6_bestHold at h
  refine lv_aload_n hx hb dX6_bestHold_0 rfl (lv_at hl 0 rfl) ?_
  refine r_get (v := .ref (gA G (β + 3))) hx hb hts hinX6 hown hE hw hn 0 (by decide) (congrFun hR.1 _) rfl 1 (by decide) (hts _ (wz_in qF_X6_19)) rfl dX6_bestHold_1 ?_
  refine r_get (v := .ref (gA G (β + 10))) hx hb hts hinX4 hown hE hw hn 3 (by decide) (congrFun hR.2.2.2.1.1 _) rfl 3 (by decide) (hts _ (wz_in qF_X6_102)) rfl dX6_bestHold_4 ?_
  refine lv_iload_n hx hb dX6_bestHold_7 rfl (lv_at hl 1 rfl) ?_
  rcases bx_some h with ⟨h8, h⟩ | ⟨E8, h8, h⟩
  · refine r_callS (As := [.ref (gA G (β + 10)), .int a1]) (rest := []) (st1 := []) hx hb hml hown hts hE hw hl (mc_subR 10 2 (by decide) (mX6_checkExists l G (by show β + 10 + 2 ≤ _; omega) hR.2.2.2.1.2.2.2.2.1 h8)) (va_cwS 2 hts (zS gS_X6_112) rfl rfl rfl kdX6_checkExists ⟨Nat.le_of_ble_eq_true rfl, Nat.le_of_ble_eq_true rfl⟩) rfl rfl (Nat.le_of_ble_eq_true rfl) dX6_bestHold_8 ⟨Nat.zero_le _, Nat.zero_le _⟩ rfl (fun H locs hw => ?_)
    refine lv_aload_n hx hb dX6_bestHold_11 rfl (lv_at hl 0 rfl) ?_
    refine r_get (v := .ref (gA G (β + 3))) hx hb hts hinX6 hown hE hw hn 0 (by decide) (congrFun hR.1 _) rfl 1 (by decide) (hts _ (wz_in qF_X6_19)) rfl dX6_bestHold_12 ?_
    refine lv_iload_n hx hb dX6_bestHold_15 rfl (lv_at hl 1 rfl) ?_
    obtain ⟨v16, h16, h⟩ := cr1_some h
    refine r_callV (As := [.int a1]) (rest := []) (st1 := [.int v16]) hx hb hml hown hts hE hw hl (mc_subR 3 17 (by decide) (mX4_isAtEnd l G (by show β + 3 + 17 ≤ _; omega) hR.2.2.2.1 h16)) (cwV 1 hts (zV gV_X6_135) rfl rfl rfl kdX4_isAtEnd ⟨Nat.le_of_ble_eq_true rfl, Nat.le_of_ble_eq_true rfl⟩) (by omega) (congrFun hR.2.2.2.1.1 _) rfl rfl rfl rfl (Nat.le_of_ble_eq_true rfl) dX6_bestHold_16 ⟨Nat.zero_le _, Nat.zero_le _⟩ rfl (fun H locs hw => ?_)
    refine b_eq (tgt := 24) hx hb dX6_bestHold_19 (by decide) h (fun h => ?_) (fun h => ?_)
    · refine lv_bipush (v := (-9)) hx hb dX6_bestHold_24 (by decide) ?_
      refine lv_istore_n (lv' := [(2, .int (-9)), (0, .ref (gA G (β + 0))), (1, .int a1)]) hx hb dX6_bestHold_26 rfl hl (by decide) rfl (fun ls hl => ?_)
      refine lv_sipush (v := (nI 301)) hx hb dX6_bestHold_27 (by decide) ?_
      refine lv_istore_n (lv' := [(3, .int (nI 301)), (2, .int (-9)), (0, .ref (gA G (β + 0))), (1, .int a1)]) hx hb dX6_bestHold_30 rfl hl (by decide) rfl (fun ls hl => ?_)
      refine lv_iconst (v := (nI 0)) hx hb dX6_bestHold_31 (by decide) ?_
      refine lv_istore (lv' := [(4, .int (nI 0)), (3, .int (nI 301)), (2, .int (-9)), (0, .ref (gA G (β + 0))), (1, .int a1)]) hx hb dX6_bestHold_32 hl (by decide) rfl (fun ls hl => ?_)
      exact k34 fuel a1 (-9) (nI 301) (nI 0) S _ _ _ h hw (lv_sub hl [3, 4, 2, 1, 0] rfl)
    · refine lv_iconst (v := (nI 0)) hx hb dX6_bestHold_22 (by decide) ?_
      cases h
      exact r_iret hx hb hr hlocks hw dX6_bestHold_23
  · cases h
set_option maxHeartbeats 4000000 in
set_option maxRecDepth 100000 in
theorem xX6_bestHold (l : Launch) (hfl : l.stackTraces = false) (G : mG) {β : Nat} {M S S' : mM} {a1 : Int32} {E : String} (hn : β + 316 ≤ gN G) (hR : isWR G β) (h : pX6_bestHold a1 S = some (.inr E, S')) : MX l G yX6_bestHold zzX6_bestHold 7 143 [.ref (gA G (β + 0)), .int a1] (wB M β 316 S) (wB M β 316 S') E := by
  refine mx_of (cc := cX6_bestHold) (maxL := 6) (ret := (some .int)) (by decide) rfl (Nat.le_of_ble_eq_true rfl) ?_
  intro p e s m args below meth c H ls hx hb hr hts hown hml hlocks hout hE hw _ hl
  have hl : lv_has ls 6 [(0, .ref (gA G (β + 0))), (1, .int a1)] := hl
  have hinX4 : ∀ w ∈ wsX40, w ∈ zzX6_bestHold := fun w h9 => wz_in (zinX4 w h9)
  have hinX6 : ∀ w ∈ wsX60, w ∈ zzX6_bestHold := fun w h9 => wz_in (zinX6 w h9)
  have k34 : ∀ (k : Nat), ∀ (x1 : Int32) (x2 : Int32) (x3 : Int32) (x4 : Int32) (S : mM) (H : Heap) (locs : List Loc) (ls : Array Slot), pX6_bestHold_l34  k x1 x2 x3 x4 S = some (.inr E, S') → mW G s (wB M β 316 S) H locs → lv_has ls 6 [(0, .ref (gA G (β + 0))), (1, .int x1), (2, .int x2), (3, .int x3), (4, .int x4)] → W p l e { frames := 7, cells := 1, slots := 6, locals := 143 } s m args below meth c H locs 0 0 (mY below G E (wB M β 316 S') args s) (F0 m 34 ls []) := by
    intro k
    induction k with
    | zero => intro x1 x2 x3 x4 S H locs ls h; cases h
    | succ k hih34 =>
      intro x1 x2 x3 x4 S H locs ls h hw hl
      obtain ⟨ih34, hk34⟩ : ∃ f, f = pX6_bestHold_l34  k := ⟨_, rfl⟩
      replace h : pX6_bestHold_lb34  (pX6_bestHold_l34  k) x1 x2 x3 x4 S = some (.inr E, S') := h
      rw [← hk34] at h hih34
      clear hk34
      unfold pX6_bestHold_lb34 at h
      refine lv_iload hx hb dX6_bestHold_34 (lv_at hl 4 rfl) ?_
      refine lv_bipush (v := (nI 23)) hx hb dX6_bestHold_36 (by decide) ?_
      refine bi_gt (tgt := 107) hx hb dX6_bestHold_38 (by decide) h (fun h => ?_) (fun h => ?_)
      · refine lv_iload_n hx hb dX6_bestHold_107 rfl (lv_at hl 2 rfl) ?_
        cases h
      · refine lv_aload_n hx hb dX6_bestHold_41 rfl (lv_at hl 0 rfl) ?_
        refine r_get (v := .ref (gA G (β + 20))) hx hb hts hinX6 hown hE hw hn 0 (by decide) (congrFun hR.1 _) rfl 2 (by decide) (hts _ (wz_in qF_X6_23)) rfl dX6_bestHold_42 ?_
        refine lv_aload_n hx hb dX6_bestHold_45 rfl (lv_at hl 0 rfl) ?_
        refine r_get (v := .ref (gA G (β + 3))) hx hb hts hinX6 hown hE hw hn 0 (by decide) (congrFun hR.1 _) rfl 1 (by decide) (hts _ (wz_in qF_X6_19)) rfl dX6_bestHold_46 ?_
        obtain ⟨S49, h49, h⟩ := cr1_some h
        refine r_callV (As := [.ref (gA G (β + 3))]) (rest := []) (st1 := []) hx hb hml hown hts hE hw hl (mX4_copyFrom l G (by omega) hR (by decide) (by decide) hR.2.2.2.2.1 hR.2.2.2.1 h49) (cwV 1 hts (zV gV_X6_69) rfl rfl rfl kdX4_copyFrom ⟨Nat.le_of_ble_eq_true rfl, Nat.le_of_ble_eq_true rfl⟩) (by omega) (congrFun hR.2.2.2.2.1.1 _) rfl rfl rfl rfl (Nat.le_of_ble_eq_true rfl) dX6_bestHold_49 ⟨Nat.zero_le _, Nat.zero_le _⟩ rfl (fun H locs hw => ?_)
        refine lv_aload_n hx hb dX6_bestHold_52 rfl (lv_at hl 0 rfl) ?_
        refine r_get (v := .ref (gA G (β + 20))) hx hb hts hinX6 hown hE hw hn 0 (by decide) (congrFun hR.1 _) rfl 2 (by decide) (hts _ (wz_in qF_X6_23)) rfl dX6_bestHold_53 ?_
        refine r_get (v := .ref (gA G (β + 27))) hx hb hts hinX4 hown hE hw hn 20 (by decide) (congrFun hR.2.2.2.2.1.1 _) rfl 3 (by decide) (hts _ (wz_in qF_X6_102)) rfl dX6_bestHold_56 ?_
        refine lv_iload_n hx hb dX6_bestHold_59 rfl (lv_at hl 1 rfl) ?_
        refine lv_iconst (v := (nI 1)) hx hb dX6_bestHold_60 (by decide) ?_
        refine lv_iload hx hb dX6_bestHold_61 (lv_at hl 4 rfl) ?_
        obtain ⟨T63, h63, h⟩ := cvs_some h
        refine r_callV (As := [.int x1, .int (nI 1), .int x4]) (rest := []) (st1 := []) hx hb hml hown hts hE hw hl (mc_sub 27 2 (by decide) (mX5_put l G (by show β + 27 + 2 ≤ _; omega) hR.2.2.2.2.1.2.2.2.2.1 h63)) (cwV 3 hts (zV gV_X6_176) rfl rfl rfl kdX5_put ⟨Nat.le_of_ble_eq_true rfl, Nat.le_of_ble_eq_true rfl⟩) (by omega) (congrFun hR.2.2.2.2.1.2.2.2.2.1.1 _) rfl rfl rfl rfl (Nat.le_of_ble_eq_true rfl) dX6_bestHold_63 ⟨Nat.zero_le _, Nat.zero_le _⟩ rfl (fun H locs hw => ?_)
        generalize wB S49 27 2 T63 = S63 at h hw
        refine lv_aload_n hx hb dX6_bestHold_66 rfl (lv_at hl 0 rfl) ?_
        refine r_get (v := .ref (gA G (β + 20))) hx hb hts hinX6 hown hE hw hn 0 (by decide) (congrFun hR.1 _) rfl 2 (by decide) (hts _ (wz_in qF_X6_23)) rfl dX6_bestHold_67 ?_
        refine lv_iload_n hx hb dX6_bestHold_70 rfl (lv_at hl 1 rfl) ?_
        obtain ⟨v71, T71, h71, h⟩ := cws_some h
        refine r_callV (As := [.int x1]) (rest := []) (st1 := [.int v71]) hx hb hml hown hts hE hw hl (mc_sub 20 17 (by decide) (mX4_hoursToEnd l G (by show β + 20 + 17 ≤ _; omega) hR.2.2.2.2.1 h71)) (cwV 1 hts (zV gV_X6_190) rfl rfl rfl kdX4_hoursToEnd ⟨Nat.le_of_ble_eq_true rfl, Nat.le_of_ble_eq_true rfl⟩) (by omega) (congrFun hR.2.2.2.2.1.1 _) rfl rfl rfl rfl (Nat.le_of_ble_eq_true rfl) dX6_bestHold_71 ⟨Nat.zero_le _, Nat.zero_le _⟩ rfl (fun H locs hw => ?_)
        generalize wB S63 20 17 T71 = S71 at h hw
        refine lv_istore (lv' := [(5, .int v71), (0, .ref (gA G (β + 0))), (1, .int x1), (2, .int x2), (3, .int x3), (4, .int x4)]) hx hb dX6_bestHold_74 hl (by decide) rfl (fun ls hl => ?_)
        refine lv_iload hx hb dX6_bestHold_76 (lv_at hl 0 rfl) ?_
        refine lv_bipush (v := (-9)) hx hb dX6_bestHold_78 (by decide) ?_
        refine bi_eq (tgt := 101) hx hb dX6_bestHold_80 (by decide) h (fun h => ?_) (fun h => ?_)
        · refine p_iinc (w := (nI 1)) 5 (fun v101 => [(4, .int v101), (5, .int v71), (0, .ref (gA G (β + 0))), (1, .int x1), (2, .int x2), (3, .int x3)]) hx hb dX6_bestHold_101 hl rfl (by decide) (by decide) h (fun _ => rfl) (fun v101 h ls hl => ?_)
          refine lv_goto (tgt := 34) hx hb dX6_bestHold_104 (by decide) ?_
          exact hih34 x1 x2 x3 v101 S71 _ _ _ h hw (lv_sub hl [2, 3, 4, 5, 0] rfl)
        · refine lv_iload hx hb dX6_bestHold_83 (lv_at hl 0 rfl) ?_
          refine lv_iload hx hb dX6_bestHold_85 (lv_at hl 5 rfl) ?_
          refine lv_isub hx hb dX6_bestHold_87 ?_
          refine lv_iload_n hx hb dX6_bestHold_88 rfl (lv_at hl 4 rfl) ?_
          refine bi_ge (tgt := 101) hx hb dX6_bestHold_89 (by decide) h (fun h => ?_) (fun h => ?_)
          · refine p_iinc (w := (nI 1)) 5 (fun v101 => [(4, .int v101), (5, .int v71), (0, .ref (gA G (β + 0))), (1, .int x1), (2, .int x2), (3, .int x3)]) hx hb dX6_bestHold_101 hl rfl (by decide) (by decide) h (fun _ => rfl) (fun v101 h ls hl => ?_)
            refine lv_goto (tgt := 34) hx hb dX6_bestHold_104 (by decide) ?_
            exact hih34 x1 x2 x3 v101 S71 _ _ _ h hw (lv_sub hl [2, 3, 4, 5, 0] rfl)
          · refine lv_iload hx hb dX6_bestHold_92 (lv_at hl 5 rfl) ?_
            refine lv_istore_n (lv' := [(2, .int x4), (5, .int v71), (0, .ref (gA G (β + 0))), (1, .int x1), (3, .int x3), (4, .int x4)]) hx hb dX6_bestHold_94 rfl hl (by decide) rfl (fun ls hl => ?_)
            refine lv_iload hx hb dX6_bestHold_95 (lv_at hl 1 rfl) ?_
            refine lv_iload hx hb dX6_bestHold_97 (lv_at hl 5 rfl) ?_
            refine lv_isub hx hb dX6_bestHold_99 ?_
            refine p_topi h (fun v100 h => ?_)
            refine lv_istore_n (lv' := [(3, .int v100), (2, .int x4), (5, .int v71), (0, .ref (gA G (β + 0))), (1, .int x1), (4, .int x4)]) hx hb dX6_bestHold_100 rfl hl (by decide) rfl (fun ls hl => ?_)
            refine p_iinc (w := (nI 1)) 5 (fun v101 => [(4, .int v101), (3, .int v100), (2, .int x4), (5, .int v71), (0, .ref (gA G (β + 0))), (1, .int x1)]) hx hb dX6_bestHold_101 hl rfl (by decide) (by decide) h (fun _ => rfl) (fun v101 h ls hl => ?_)
            refine lv_goto (tgt := 34) hx hb dX6_bestHold_104 (by decide) ?_
            exact hih34 x1 x4 v100 v101 S71 _ _ _ h hw (lv_sub hl [4, 5, 2, 1, 0] rfl)
  unfold pX6_bestHold at h
  refine lv_aload_n hx hb dX6_bestHold_0 rfl (lv_at hl 0 rfl) ?_
  refine r_get (v := .ref (gA G (β + 3))) hx hb hts hinX6 hown hE hw hn 0 (by decide) (congrFun hR.1 _) rfl 1 (by decide) (hts _ (wz_in qF_X6_19)) rfl dX6_bestHold_1 ?_
  refine r_get (v := .ref (gA G (β + 10))) hx hb hts hinX4 hown hE hw hn 3 (by decide) (congrFun hR.2.2.2.1.1 _) rfl 3 (by decide) (hts _ (wz_in qF_X6_102)) rfl dX6_bestHold_4 ?_
  refine lv_iload_n hx hb dX6_bestHold_7 rfl (lv_at hl 1 rfl) ?_
  rcases bx_some h with ⟨h8, h⟩ | ⟨E8, h8, h⟩
  · refine r_callS (As := [.ref (gA G (β + 10)), .int a1]) (rest := []) (st1 := []) hx hb hml hown hts hE hw hl (mc_subR 10 2 (by decide) (mX6_checkExists l G (by show β + 10 + 2 ≤ _; omega) hR.2.2.2.1.2.2.2.2.1 h8)) (va_cwS 2 hts (zS gS_X6_112) rfl rfl rfl kdX6_checkExists ⟨Nat.le_of_ble_eq_true rfl, Nat.le_of_ble_eq_true rfl⟩) rfl rfl (Nat.le_of_ble_eq_true rfl) dX6_bestHold_8 ⟨Nat.zero_le _, Nat.zero_le _⟩ rfl (fun H locs hw => ?_)
    refine lv_aload_n hx hb dX6_bestHold_11 rfl (lv_at hl 0 rfl) ?_
    refine r_get (v := .ref (gA G (β + 3))) hx hb hts hinX6 hown hE hw hn 0 (by decide) (congrFun hR.1 _) rfl 1 (by decide) (hts _ (wz_in qF_X6_19)) rfl dX6_bestHold_12 ?_
    refine lv_iload_n hx hb dX6_bestHold_15 rfl (lv_at hl 1 rfl) ?_
    obtain ⟨v16, h16, h⟩ := cr1_some h
    refine r_callV (As := [.int a1]) (rest := []) (st1 := [.int v16]) hx hb hml hown hts hE hw hl (mc_subR 3 17 (by decide) (mX4_isAtEnd l G (by show β + 3 + 17 ≤ _; omega) hR.2.2.2.1 h16)) (cwV 1 hts (zV gV_X6_135) rfl rfl rfl kdX4_isAtEnd ⟨Nat.le_of_ble_eq_true rfl, Nat.le_of_ble_eq_true rfl⟩) (by omega) (congrFun hR.2.2.2.1.1 _) rfl rfl rfl rfl (Nat.le_of_ble_eq_true rfl) dX6_bestHold_16 ⟨Nat.zero_le _, Nat.zero_le _⟩ rfl (fun H locs hw => ?_)
    refine b_eq (tgt := 24) hx hb dX6_bestHold_19 (by decide) h (fun h => ?_) (fun h => ?_)
    · refine lv_bipush (v := (-9)) hx hb dX6_bestHold_24 (by decide) ?_
      refine lv_istore_n (lv' := [(2, .int (-9)), (0, .ref (gA G (β + 0))), (1, .int a1)]) hx hb dX6_bestHold_26 rfl hl (by decide) rfl (fun ls hl => ?_)
      refine lv_sipush (v := (nI 301)) hx hb dX6_bestHold_27 (by decide) ?_
      refine lv_istore_n (lv' := [(3, .int (nI 301)), (2, .int (-9)), (0, .ref (gA G (β + 0))), (1, .int a1)]) hx hb dX6_bestHold_30 rfl hl (by decide) rfl (fun ls hl => ?_)
      refine lv_iconst (v := (nI 0)) hx hb dX6_bestHold_31 (by decide) ?_
      refine lv_istore (lv' := [(4, .int (nI 0)), (3, .int (nI 301)), (2, .int (-9)), (0, .ref (gA G (β + 0))), (1, .int a1)]) hx hb dX6_bestHold_32 hl (by decide) rfl (fun ls hl => ?_)
      exact k34 fuel a1 (-9) (nI 301) (nI 0) S _ _ _ h hw (lv_sub hl [3, 4, 2, 1, 0] rfl)
    · refine lv_iconst (v := (nI 0)) hx hb dX6_bestHold_22 (by decide) ?_
      cases h
  · rw [← (Prod.mk.inj (Option.some.inj h)).2, ← Sum.inr.inj (Prod.mk.inj (Option.some.inj h)).1]
    exact x_callS (As := [.ref (gA G (β + 10)), .int a1]) (rest := []) hx hb hml hown hts hE hw hl (mx_subR 10 2 (by decide) (xX6_checkExists l hfl G (by show β + 10 + 2 ≤ _; omega) hR.2.2.2.1.2.2.2.2.1 h8)) (va_cwS 2 hts (zS gS_X6_112) rfl rfl rfl kdX6_checkExists ⟨Nat.le_of_ble_eq_true rfl, Nat.le_of_ble_eq_true rfl⟩) rfl rfl (Nat.le_of_ble_eq_true rfl) dX6_bestHold_8 ⟨Nat.le_refl _, Nat.le_refl _⟩ hout hlocks

set_option maxHeartbeats 4000000 in
set_option maxRecDepth 100000 in
theorem mX6_lacks (l : Launch) (G : mG) {β : Nat} {M S S' : mM} {a1 : Int32} {r : Int32} (hn : β + 316 ≤ gN G) (hR : isWR G β) (h : pX6_lacks a1 S = some (.inl r, S')) : MC l G yX6_lacks zzX6_lacks 6 142 [.ref (gA G (β + 0)), .int a1] (wB M β 316 S) (wB M β 316 S') (some (.int r)) := by
  refine mc_of (cc := cX6_lacks) (maxL := 3) (ret := (some .int)) (by decide) rfl (Nat.le_of_ble_eq_true rfl) ?_
  intro p e s m args below meth c H ls hx hb hr hts hown hml hlocks hE hw hl
  have hl : lv_has ls 3 [(0, .ref (gA G (β + 0))), (1, .int a1)] := hl
  have hinX4 : ∀ w ∈ wsX40, w ∈ zzX6_lacks := fun w h9 => wz_in (zinX4 w h9)
  have hinX6 : ∀ w ∈ wsX60, w ∈ zzX6_lacks := fun w h9 => wz_in (zinX6 w h9)
  have k13 : ∀ (k : Nat), ∀ (x1 : Int32) (x2 : Int32) (S : mM) (H : Heap) (locs : List Loc) (ls : Array Slot), pX6_lacks_l13  k x1 x2 S = some (.inl r, S') → mW G s (wB M β 316 S) H locs → lv_has ls 3 [(0, .ref (gA G (β + 0))), (1, .int x1), (2, .int x2)] → W p l e { frames := 6, cells := 0, slots := 0, locals := 142 } s m args below meth c H locs 0 0 (mZ below G (some (.int r)) (wB M β 316 S') args s) (F0 m 13 ls []) := by
    intro k
    induction k with
    | zero => intro x1 x2 S H locs ls h; cases h
    | succ k hih13 =>
      intro x1 x2 S H locs ls h hw hl
      obtain ⟨ih13, hk13⟩ : ∃ f, f = pX6_lacks_l13  k := ⟨_, rfl⟩
      replace h : pX6_lacks_lb13  (pX6_lacks_l13  k) x1 x2 S = some (.inl r, S') := h
      rw [← hk13] at h hih13
      clear hk13
      unfold pX6_lacks_lb13 at h
      refine lv_iload_n hx hb dX6_lacks_13 rfl (lv_at hl 2 rfl) ?_
      refine lv_bipush (v := (nI 40)) hx hb dX6_lacks_14 (by decide) ?_
      refine bi_gt (tgt := 61) hx hb dX6_lacks_16 (by decide) h (fun h => ?_) (fun h => ?_)
      · refine lv_bipush (v := (-9)) hx hb dX6_lacks_61 (by decide) ?_
        cases h
        exact r_iret hx hb hr hlocks hw dX6_lacks_63
      · refine lv_aload_n hx hb dX6_lacks_19 rfl (lv_at hl 0 rfl) ?_
        refine r_get (v := .ref (gA G (β + 20))) hx hb hts hinX6 hown hE hw hn 0 (by decide) (congrFun hR.1 _) rfl 2 (by decide) (hts _ (wz_in qF_X6_23)) rfl dX6_lacks_20 ?_
        refine lv_aload_n hx hb dX6_lacks_23 rfl (lv_at hl 0 rfl) ?_
        refine r_get (v := .ref (gA G (β + 3))) hx hb hts hinX6 hown hE hw hn 0 (by decide) (congrFun hR.1 _) rfl 1 (by decide) (hts _ (wz_in qF_X6_19)) rfl dX6_lacks_24 ?_
        obtain ⟨S27, h27, h⟩ := cr1_some h
        refine r_callV (As := [.ref (gA G (β + 3))]) (rest := []) (st1 := []) hx hb hml hown hts hE hw hl (mX4_copyFrom l G (by omega) hR (by decide) (by decide) hR.2.2.2.2.1 hR.2.2.2.1 h27) (cwV 1 hts (zV gV_X6_69) rfl rfl rfl kdX4_copyFrom ⟨Nat.le_of_ble_eq_true rfl, Nat.le_of_ble_eq_true rfl⟩) (by omega) (congrFun hR.2.2.2.2.1.1 _) rfl rfl rfl rfl (Nat.le_of_ble_eq_true rfl) dX6_lacks_27 ⟨Nat.zero_le _, Nat.zero_le _⟩ rfl (fun H locs hw => ?_)
        refine lv_aload_n hx hb dX6_lacks_30 rfl (lv_at hl 0 rfl) ?_
        refine r_get (v := .ref (gA G (β + 20))) hx hb hts hinX6 hown hE hw hn 0 (by decide) (congrFun hR.1 _) rfl 2 (by decide) (hts _ (wz_in qF_X6_23)) rfl dX6_lacks_31 ?_
        refine r_get (v := .ref (gA G (β + 25))) hx hb hts hinX4 hown hE hw hn 20 (by decide) (congrFun hR.2.2.2.2.1.1 _) rfl 2 (by decide) (hts _ (wz_in qF_X6_99)) rfl dX6_lacks_34 ?_
        refine lv_iload_n hx hb dX6_lacks_37 rfl (lv_at hl 1 rfl) ?_
        refine lv_iconst (v := (nI 1)) hx hb dX6_lacks_38 (by decide) ?_
        refine lv_iload_n hx hb dX6_lacks_39 rfl (lv_at hl 2 rfl) ?_
        obtain ⟨T40, h40, h⟩ := cvs_some h
        refine r_callV (As := [.int x1, .int (nI 1), .int x2]) (rest := []) (st1 := []) hx hb hml hown hts hE hw hl (mc_sub 25 2 (by decide) (mX5_raise l G (by show β + 25 + 2 ≤ _; omega) hR.2.2.2.2.1.2.2.2.1 h40)) (cwV 3 hts (zV gV_X6_179) rfl rfl rfl kdX5_raise ⟨Nat.le_of_ble_eq_true rfl, Nat.le_of_ble_eq_true rfl⟩) (by omega) (congrFun hR.2.2.2.2.1.2.2.2.1.1 _) rfl rfl rfl rfl (Nat.le_of_ble_eq_true rfl) dX6_lacks_40 ⟨Nat.zero_le _, Nat.zero_le _⟩ rfl (fun H locs hw => ?_)
        generalize wB S27 25 2 T40 = S40 at h hw
        refine lv_aload_n hx hb dX6_lacks_43 rfl (lv_at hl 0 rfl) ?_
        refine r_get (v := .ref (gA G (β + 20))) hx hb hts hinX6 hown hE hw hn 0 (by decide) (congrFun hR.1 _) rfl 2 (by decide) (hts _ (wz_in qF_X6_23)) rfl dX6_lacks_44 ?_
        obtain ⟨v47, T47, h47, h⟩ := cws_some h
        refine r_callV (As := []) (rest := []) (st1 := [.int v47]) hx hb hml hown hts hE hw hl (mc_sub 20 17 (by decide) (mX4_allArrive l G (by show β + 20 + 17 ≤ _; omega) hR.2.2.2.2.1 h47)) (cwV 0 hts (zV gV_X6_196) rfl rfl rfl kdX4_allArrive ⟨Nat.le_of_ble_eq_true rfl, Nat.le_of_ble_eq_true rfl⟩) (by omega) (congrFun hR.2.2.2.2.1.1 _) rfl rfl rfl rfl (Nat.le_of_ble_eq_true rfl) dX6_lacks_47 ⟨Nat.zero_le _, Nat.zero_le _⟩ rfl (fun H locs hw => ?_)
        generalize wB S40 20 17 T47 = S47 at h hw
        refine b_eq (tgt := 55) hx hb dX6_lacks_50 (by decide) h (fun h => ?_) (fun h => ?_)
        · refine p_iinc (w := (nI 1)) 2 (fun v55 => [(2, .int v55), (0, .ref (gA G (β + 0))), (1, .int x1)]) hx hb dX6_lacks_55 hl rfl (by decide) (by decide) h (fun _ => rfl) (fun v55 h ls hl => ?_)
          refine lv_goto (tgt := 13) hx hb dX6_lacks_58 (by decide) ?_
          exact hih13 x1 v55 S47 _ _ _ h hw (lv_sub hl [1, 2, 0] rfl)
        · refine lv_iload_n hx hb dX6_lacks_53 rfl (lv_at hl 2 rfl) ?_
          cases h
          exact r_iret hx hb hr hlocks hw dX6_lacks_54
  unfold pX6_lacks at h
  refine lv_aload_n hx hb dX6_lacks_0 rfl (lv_at hl 0 rfl) ?_
  refine r_get (v := .ref (gA G (β + 3))) hx hb hts hinX6 hown hE hw hn 0 (by decide) (congrFun hR.1 _) rfl 1 (by decide) (hts _ (wz_in qF_X6_19)) rfl dX6_lacks_1 ?_
  refine r_get (v := .ref (gA G (β + 8))) hx hb hts hinX4 hown hE hw hn 3 (by decide) (congrFun hR.2.2.2.1.1 _) rfl 2 (by decide) (hts _ (wz_in qF_X6_99)) rfl dX6_lacks_4 ?_
  refine lv_iload_n hx hb dX6_lacks_7 rfl (lv_at hl 1 rfl) ?_
  rcases bx_some h with ⟨h8, h⟩ | ⟨E8, h8, h⟩
  · refine r_callS (As := [.ref (gA G (β + 8)), .int a1]) (rest := []) (st1 := []) hx hb hml hown hts hE hw hl (mc_subR 8 2 (by decide) (mX6_checkExists l G (by show β + 8 + 2 ≤ _; omega) hR.2.2.2.1.2.2.2.1 h8)) (va_cwS 2 hts (zS gS_X6_112) rfl rfl rfl kdX6_checkExists ⟨Nat.le_of_ble_eq_true rfl, Nat.le_of_ble_eq_true rfl⟩) rfl rfl (Nat.le_of_ble_eq_true rfl) dX6_lacks_8 ⟨Nat.zero_le _, Nat.zero_le _⟩ rfl (fun H locs hw => ?_)
    refine lv_iconst (v := (nI 0)) hx hb dX6_lacks_11 (by decide) ?_
    refine lv_istore_n (lv' := [(2, .int (nI 0)), (0, .ref (gA G (β + 0))), (1, .int a1)]) hx hb dX6_lacks_12 rfl hl (by decide) rfl (fun ls hl => ?_)
    exact k13 fuel a1 (nI 0) S _ _ _ h hw (lv_sub hl [1, 2, 0] rfl)
  · cases h
set_option maxHeartbeats 4000000 in
set_option maxRecDepth 100000 in
theorem xX6_lacks (l : Launch) (hfl : l.stackTraces = false) (G : mG) {β : Nat} {M S S' : mM} {a1 : Int32} {E : String} (hn : β + 316 ≤ gN G) (hR : isWR G β) (h : pX6_lacks a1 S = some (.inr E, S')) : MX l G yX6_lacks zzX6_lacks 7 142 [.ref (gA G (β + 0)), .int a1] (wB M β 316 S) (wB M β 316 S') E := by
  refine mx_of (cc := cX6_lacks) (maxL := 3) (ret := (some .int)) (by decide) rfl (Nat.le_of_ble_eq_true rfl) ?_
  intro p e s m args below meth c H ls hx hb hr hts hown hml hlocks hout hE hw _ hl
  have hl : lv_has ls 3 [(0, .ref (gA G (β + 0))), (1, .int a1)] := hl
  have hinX4 : ∀ w ∈ wsX40, w ∈ zzX6_lacks := fun w h9 => wz_in (zinX4 w h9)
  have hinX6 : ∀ w ∈ wsX60, w ∈ zzX6_lacks := fun w h9 => wz_in (zinX6 w h9)
  have k13 : ∀ (k : Nat), ∀ (x1 : Int32) (x2 : Int32) (S : mM) (H : Heap) (locs : List Loc) (ls : Array Slot), pX6_lacks_l13  k x1 x2 S = some (.inr E, S') → mW G s (wB M β 316 S) H locs → lv_has ls 3 [(0, .ref (gA G (β + 0))), (1, .int x1), (2, .int x2)] → W p l e { frames := 7, cells := 1, slots := 6, locals := 142 } s m args below meth c H locs 0 0 (mY below G E (wB M β 316 S') args s) (F0 m 13 ls []) := by
    intro k
    induction k with
    | zero => intro x1 x2 S H locs ls h; cases h
    | succ k hih13 =>
      intro x1 x2 S H locs ls h hw hl
      obtain ⟨ih13, hk13⟩ : ∃ f, f = pX6_lacks_l13  k := ⟨_, rfl⟩
      replace h : pX6_lacks_lb13  (pX6_lacks_l13  k) x1 x2 S = some (.inr E, S') := h
      rw [← hk13] at h hih13
      clear hk13
      unfold pX6_lacks_lb13 at h
      refine lv_iload_n hx hb dX6_lacks_13 rfl (lv_at hl 2 rfl) ?_
      refine lv_bipush (v := (nI 40)) hx hb dX6_lacks_14 (by decide) ?_
      refine bi_gt (tgt := 61) hx hb dX6_lacks_16 (by decide) h (fun h => ?_) (fun h => ?_)
      · refine lv_bipush (v := (-9)) hx hb dX6_lacks_61 (by decide) ?_
        cases h
      · refine lv_aload_n hx hb dX6_lacks_19 rfl (lv_at hl 0 rfl) ?_
        refine r_get (v := .ref (gA G (β + 20))) hx hb hts hinX6 hown hE hw hn 0 (by decide) (congrFun hR.1 _) rfl 2 (by decide) (hts _ (wz_in qF_X6_23)) rfl dX6_lacks_20 ?_
        refine lv_aload_n hx hb dX6_lacks_23 rfl (lv_at hl 0 rfl) ?_
        refine r_get (v := .ref (gA G (β + 3))) hx hb hts hinX6 hown hE hw hn 0 (by decide) (congrFun hR.1 _) rfl 1 (by decide) (hts _ (wz_in qF_X6_19)) rfl dX6_lacks_24 ?_
        obtain ⟨S27, h27, h⟩ := cr1_some h
        refine r_callV (As := [.ref (gA G (β + 3))]) (rest := []) (st1 := []) hx hb hml hown hts hE hw hl (mX4_copyFrom l G (by omega) hR (by decide) (by decide) hR.2.2.2.2.1 hR.2.2.2.1 h27) (cwV 1 hts (zV gV_X6_69) rfl rfl rfl kdX4_copyFrom ⟨Nat.le_of_ble_eq_true rfl, Nat.le_of_ble_eq_true rfl⟩) (by omega) (congrFun hR.2.2.2.2.1.1 _) rfl rfl rfl rfl (Nat.le_of_ble_eq_true rfl) dX6_lacks_27 ⟨Nat.zero_le _, Nat.zero_le _⟩ rfl (fun H locs hw => ?_)
        refine lv_aload_n hx hb dX6_lacks_30 rfl (lv_at hl 0 rfl) ?_
        refine r_get (v := .ref (gA G (β + 20))) hx hb hts hinX6 hown hE hw hn 0 (by decide) (congrFun hR.1 _) rfl 2 (by decide) (hts _ (wz_in qF_X6_23)) rfl dX6_lacks_31 ?_
        refine r_get (v := .ref (gA G (β + 25))) hx hb hts hinX4 hown hE hw hn 20 (by decide) (congrFun hR.2.2.2.2.1.1 _) rfl 2 (by decide) (hts _ (wz_in qF_X6_99)) rfl dX6_lacks_34 ?_
        refine lv_iload_n hx hb dX6_lacks_37 rfl (lv_at hl 1 rfl) ?_
        refine lv_iconst (v := (nI 1)) hx hb dX6_lacks_38 (by decide) ?_
        refine lv_iload_n hx hb dX6_lacks_39 rfl (lv_at hl 2 rfl) ?_
        obtain ⟨T40, h40, h⟩ := cvs_some h
        refine r_callV (As := [.int x1, .int (nI 1), .int x2]) (rest := []) (st1 := []) hx hb hml hown hts hE hw hl (mc_sub 25 2 (by decide) (mX5_raise l G (by show β + 25 + 2 ≤ _; omega) hR.2.2.2.2.1.2.2.2.1 h40)) (cwV 3 hts (zV gV_X6_179) rfl rfl rfl kdX5_raise ⟨Nat.le_of_ble_eq_true rfl, Nat.le_of_ble_eq_true rfl⟩) (by omega) (congrFun hR.2.2.2.2.1.2.2.2.1.1 _) rfl rfl rfl rfl (Nat.le_of_ble_eq_true rfl) dX6_lacks_40 ⟨Nat.zero_le _, Nat.zero_le _⟩ rfl (fun H locs hw => ?_)
        generalize wB S27 25 2 T40 = S40 at h hw
        refine lv_aload_n hx hb dX6_lacks_43 rfl (lv_at hl 0 rfl) ?_
        refine r_get (v := .ref (gA G (β + 20))) hx hb hts hinX6 hown hE hw hn 0 (by decide) (congrFun hR.1 _) rfl 2 (by decide) (hts _ (wz_in qF_X6_23)) rfl dX6_lacks_44 ?_
        obtain ⟨v47, T47, h47, h⟩ := cws_some h
        refine r_callV (As := []) (rest := []) (st1 := [.int v47]) hx hb hml hown hts hE hw hl (mc_sub 20 17 (by decide) (mX4_allArrive l G (by show β + 20 + 17 ≤ _; omega) hR.2.2.2.2.1 h47)) (cwV 0 hts (zV gV_X6_196) rfl rfl rfl kdX4_allArrive ⟨Nat.le_of_ble_eq_true rfl, Nat.le_of_ble_eq_true rfl⟩) (by omega) (congrFun hR.2.2.2.2.1.1 _) rfl rfl rfl rfl (Nat.le_of_ble_eq_true rfl) dX6_lacks_47 ⟨Nat.zero_le _, Nat.zero_le _⟩ rfl (fun H locs hw => ?_)
        generalize wB S40 20 17 T47 = S47 at h hw
        refine b_eq (tgt := 55) hx hb dX6_lacks_50 (by decide) h (fun h => ?_) (fun h => ?_)
        · refine p_iinc (w := (nI 1)) 2 (fun v55 => [(2, .int v55), (0, .ref (gA G (β + 0))), (1, .int x1)]) hx hb dX6_lacks_55 hl rfl (by decide) (by decide) h (fun _ => rfl) (fun v55 h ls hl => ?_)
          refine lv_goto (tgt := 13) hx hb dX6_lacks_58 (by decide) ?_
          exact hih13 x1 v55 S47 _ _ _ h hw (lv_sub hl [1, 2, 0] rfl)
        · refine lv_iload_n hx hb dX6_lacks_53 rfl (lv_at hl 2 rfl) ?_
          cases h
  unfold pX6_lacks at h
  refine lv_aload_n hx hb dX6_lacks_0 rfl (lv_at hl 0 rfl) ?_
  refine r_get (v := .ref (gA G (β + 3))) hx hb hts hinX6 hown hE hw hn 0 (by decide) (congrFun hR.1 _) rfl 1 (by decide) (hts _ (wz_in qF_X6_19)) rfl dX6_lacks_1 ?_
  refine r_get (v := .ref (gA G (β + 8))) hx hb hts hinX4 hown hE hw hn 3 (by decide) (congrFun hR.2.2.2.1.1 _) rfl 2 (by decide) (hts _ (wz_in qF_X6_99)) rfl dX6_lacks_4 ?_
  refine lv_iload_n hx hb dX6_lacks_7 rfl (lv_at hl 1 rfl) ?_
  rcases bx_some h with ⟨h8, h⟩ | ⟨E8, h8, h⟩
  · refine r_callS (As := [.ref (gA G (β + 8)), .int a1]) (rest := []) (st1 := []) hx hb hml hown hts hE hw hl (mc_subR 8 2 (by decide) (mX6_checkExists l G (by show β + 8 + 2 ≤ _; omega) hR.2.2.2.1.2.2.2.1 h8)) (va_cwS 2 hts (zS gS_X6_112) rfl rfl rfl kdX6_checkExists ⟨Nat.le_of_ble_eq_true rfl, Nat.le_of_ble_eq_true rfl⟩) rfl rfl (Nat.le_of_ble_eq_true rfl) dX6_lacks_8 ⟨Nat.zero_le _, Nat.zero_le _⟩ rfl (fun H locs hw => ?_)
    refine lv_iconst (v := (nI 0)) hx hb dX6_lacks_11 (by decide) ?_
    refine lv_istore_n (lv' := [(2, .int (nI 0)), (0, .ref (gA G (β + 0))), (1, .int a1)]) hx hb dX6_lacks_12 rfl hl (by decide) rfl (fun ls hl => ?_)
    exact k13 fuel a1 (nI 0) S _ _ _ h hw (lv_sub hl [1, 2, 0] rfl)
  · rw [← (Prod.mk.inj (Option.some.inj h)).2, ← Sum.inr.inj (Prod.mk.inj (Option.some.inj h)).1]
    exact x_callS (As := [.ref (gA G (β + 8)), .int a1]) (rest := []) hx hb hml hown hts hE hw hl (mx_subR 8 2 (by decide) (xX6_checkExists l hfl G (by show β + 8 + 2 ≤ _; omega) hR.2.2.2.1.2.2.2.1 h8)) (va_cwS 2 hts (zS gS_X6_112) rfl rfl rfl kdX6_checkExists ⟨Nat.le_of_ble_eq_true rfl, Nat.le_of_ble_eq_true rfl⟩) rfl rfl (Nat.le_of_ble_eq_true rfl) dX6_lacks_8 ⟨Nat.le_refl _, Nat.le_refl _⟩ hout hlocks

set_option maxHeartbeats 4000000 in
set_option maxRecDepth 100000 in
theorem mX6_runScript (l : Launch) (G : mG) {β : Nat} {M S S' : mM} {a1 : Int32} {a2 : Int64} {r : Int32} (hn : β + 316 ≤ gN G) (hR : isWR G β) (h : pX6_runScript a1 a2 S = some (.inl r, S')) : MC l G yX6_runScript zzX6_runScript 7 171 [.ref (gA G (β + 0)), .int a1, .long a2] (wB M β 316 S) (wB M β 316 S') (some (.int r)) := by
  refine mc_of (cc := cX6_runScript) (maxL := 7) (ret := (some .int)) (by decide) rfl (Nat.le_of_ble_eq_true rfl) ?_
  intro p e s m args below meth c H ls hx hb hr hts hown hml hlocks hE hw hl
  have hl : lv_has ls 7 [(0, .ref (gA G (β + 0))), (1, .int a1), (2, .long a2)] := hl
  have hinX6 : ∀ w ∈ wsX60, w ∈ zzX6_runScript := fun w h9 => wz_in (zinX6 w h9)
  have k67 : ∀ (k : Nat), ∀ (x1 : Int32) (x2 : Int64) (x6 : Int32) (S : mM) (H : Heap) (locs : List Loc) (ls : Array Slot), pX6_runScript_l67  k x1 x2 x6 S = some (.inl r, S') → mW G s (wB M β 316 S) H locs → lv_has ls 7 [(0, .ref (gA G (β + 0))), (1, .int x1), (2, .long x2), (6, .int x6)] → W p l e { frames := 7, cells := 0, slots := 0, locals := 171 } s m args below meth c H locs 0 0 (mZ below G (some (.int r)) (wB M β 316 S') args s) (F0 m 67 ls []) := by
    intro k
    induction k with
    | zero => intro x1 x2 x6 S H locs ls h; cases h
    | succ k hih67 =>
      intro x1 x2 x6 S H locs ls h hw hl
      obtain ⟨ih67, hk67⟩ : ∃ f, f = pX6_runScript_l67  k := ⟨_, rfl⟩
      replace h : pX6_runScript_lb67  (pX6_runScript_l67  k) x1 x2 x6 S = some (.inl r, S') := h
      rw [← hk67] at h hih67
      clear hk67
      unfold pX6_runScript_lb67 at h
      refine lv_iload hx hb dX6_runScript_67 (lv_at hl 3 rfl) ?_
      refine lv_iload_n hx hb dX6_runScript_69 rfl (lv_at hl 1 rfl) ?_
      refine bi_ge (tgt := 102) hx hb dX6_runScript_70 (by decide) h (fun h => ?_) (fun h => ?_)
      · refine lv_bipush (v := (-9)) hx hb dX6_runScript_102 (by decide) ?_
        cases h
        exact r_iret hx hb hr hlocks hw dX6_runScript_104
      · refine lv_aload_n hx hb dX6_runScript_73 rfl (lv_at hl 0 rfl) ?_
        refine r_get (v := .ref (gA G (β + 20))) hx hb hts hinX6 hown hE hw hn 0 (by decide) (congrFun hR.1 _) rfl 2 (by decide) (hts _ (wz_in qF_X6_23)) rfl dX6_runScript_74 ?_
        refine lv_lload_n hx hb dX6_runScript_77 rfl (lv_at hl 2 rfl) ?_
        refine lv_iload_n hx hb dX6_runScript_78 rfl (lv_at hl 1 rfl) ?_
        refine lv_iconst (v := (nI 1)) hx hb dX6_runScript_79 (by decide) ?_
        refine lv_isub hx hb dX6_runScript_80 ?_
        refine lv_iload hx hb dX6_runScript_81 (lv_at hl 3 rfl) ?_
        refine lv_isub hx hb dX6_runScript_83 ?_
        obtain ⟨v84, h84, h⟩ := cr1_some h
        refine r_callS (As := [.long x2, .int ((x1 - (nI 1)) - x6)]) (rest := [.ref (gA G (β + 20))]) (st1 := [.int v84, .ref (gA G (β + 20))]) hx hb hml hown hts hE hw hl (mX6_groupOf l G (M := (wB M β 316 S)) h84) (va_cwS 2 hts (zS gS_X6_201) rfl rfl rfl kdX6_groupOf ⟨Nat.le_of_ble_eq_true rfl, Nat.le_of_ble_eq_true rfl⟩) rfl rfl (Nat.le_of_ble_eq_true rfl) dX6_runScript_84 ⟨Nat.zero_le _, Nat.zero_le _⟩ rfl (fun H locs hw => ?_)
        obtain ⟨v87, T87, h87, h⟩ := cws_some h
        refine r_callV (As := [.int v84]) (rest := []) (st1 := [.int v87]) hx hb hml hown hts hE hw hl (mc_sub 20 17 (by decide) (mX4_obeys l G (by show β + 20 + 17 ≤ _; omega) hR.2.2.2.2.1 h87)) (cwV 1 hts (zV gV_X6_205) rfl rfl rfl kdX4_obeys ⟨Nat.le_of_ble_eq_true rfl, Nat.le_of_ble_eq_true rfl⟩) (by omega) (congrFun hR.2.2.2.2.1.1 _) rfl rfl rfl rfl (Nat.le_of_ble_eq_true rfl) dX6_runScript_87 ⟨Nat.zero_le _, Nat.zero_le _⟩ rfl (fun H locs hw => ?_)
        generalize wB S 20 17 T87 = S87 at h hw
        refine b_ne (tgt := 96) hx hb dX6_runScript_90 (by decide) h (fun h => ?_) (fun h => ?_)
        · refine p_iinc (w := (nI 1)) 3 (fun v96 => [(6, .int v96), (0, .ref (gA G (β + 0))), (1, .int x1), (2, .long x2)]) hx hb dX6_runScript_96 hl rfl (by decide) (by decide) h (fun _ => rfl) (fun v96 h ls hl => ?_)
          refine lv_goto (tgt := 67) hx hb dX6_runScript_99 (by decide) ?_
          exact hih67 x1 x2 v96 S87 _ _ _ h hw (lv_sub hl [1, 2, 3, 0] rfl)
        · refine lv_iload hx hb dX6_runScript_93 (lv_at hl 3 rfl) ?_
          cases h
          exact r_iret hx hb hr hlocks hw dX6_runScript_95
  have k50 : ∀ (x1 : Int32) (x2 : Int64) (t0 : Int32) (S : mM) (H : Heap) (locs : List Loc) (ls : Array Slot), pX6_runScript_b50  x1 x2 t0 S = some (.inl r, S') → mW G s (wB M β 316 S) H locs → lv_has ls 7 [(0, .ref (gA G (β + 0))), (1, .int x1), (2, .long x2)] → W p l e { frames := 7, cells := 0, slots := 0, locals := 171 } s m args below meth c H locs 0 0 (mZ below G (some (.int r)) (wB M β 316 S') args s) (F0 m 50 ls [.int t0]) := by
    intro x1 x2 t0 S H locs ls h hw hl
    unfold pX6_runScript_b50 at h
    rcases bx_some h with ⟨h50, h⟩ | ⟨E50, h50, h⟩
    · refine r_callS (As := [.int t0]) (rest := []) (st1 := []) hx hb hml hown hts hE hw hl (mX6_refuseArgumentIf l G (M := (wB M β 316 S)) h50) (va_cwS 1 hts (zS gS_X6_139) rfl rfl rfl kdX6_refuseArgumentIf ⟨Nat.le_of_ble_eq_true rfl, Nat.le_of_ble_eq_true rfl⟩) rfl rfl (Nat.le_of_ble_eq_true rfl) dX6_runScript_50 ⟨Nat.zero_le _, Nat.zero_le _⟩ rfl (fun H locs hw => ?_)
      refine lv_aload_n hx hb dX6_runScript_53 rfl (lv_at hl 0 rfl) ?_
      refine r_get (v := .ref (gA G (β + 20))) hx hb hts hinX6 hown hE hw hn 0 (by decide) (congrFun hR.1 _) rfl 2 (by decide) (hts _ (wz_in qF_X6_23)) rfl dX6_runScript_54 ?_
      refine lv_aload_n hx hb dX6_runScript_57 rfl (lv_at hl 0 rfl) ?_
      refine r_get (v := .ref (gA G (β + 3))) hx hb hts hinX6 hown hE hw hn 0 (by decide) (congrFun hR.1 _) rfl 1 (by decide) (hts _ (wz_in qF_X6_19)) rfl dX6_runScript_58 ?_
      obtain ⟨S61, h61, h⟩ := cr1_some h
      refine r_callV (As := [.ref (gA G (β + 3))]) (rest := []) (st1 := []) hx hb hml hown hts hE hw hl (mX4_copyFrom l G (by omega) hR (by decide) (by decide) hR.2.2.2.2.1 hR.2.2.2.1 h61) (cwV 1 hts (zV gV_X6_69) rfl rfl rfl kdX4_copyFrom ⟨Nat.le_of_ble_eq_true rfl, Nat.le_of_ble_eq_true rfl⟩) (by omega) (congrFun hR.2.2.2.2.1.1 _) rfl rfl rfl rfl (Nat.le_of_ble_eq_true rfl) dX6_runScript_61 ⟨Nat.zero_le _, Nat.zero_le _⟩ rfl (fun H locs hw => ?_)
      refine lv_iconst (v := (nI 0)) hx hb dX6_runScript_64 (by decide) ?_
      refine lv_istore (lv' := [(6, .int (nI 0)), (0, .ref (gA G (β + 0))), (1, .int x1), (2, .long x2)]) hx hb dX6_runScript_65 hl (by decide) rfl (fun ls hl => ?_)
      exact k67 fuel x1 x2 (nI 0) S61 _ _ _ h hw (lv_sub hl [1, 2, 3, 0] rfl)
    · cases h
  have k45 : ∀ (x1 : Int32) (x2 : Int64) (S : mM) (H : Heap) (locs : List Loc) (ls : Array Slot), pX6_runScript_b45  x1 x2 S = some (.inl r, S') → mW G s (wB M β 316 S) H locs → lv_has ls 7 [(0, .ref (gA G (β + 0))), (1, .int x1), (2, .long x2)] → W p l e { frames := 7, cells := 0, slots := 0, locals := 171 } s m args below meth c H locs 0 0 (mZ below G (some (.int r)) (wB M β 316 S') args s) (F0 m 45 ls []) := by
    intro x1 x2 S H locs ls h hw hl
    unfold pX6_runScript_b45 at h
    refine lv_iconst (v := (nI 1)) hx hb dX6_runScript_45 (by decide) ?_
    refine lv_goto (tgt := 50) hx hb dX6_runScript_46 (by decide) ?_
    exact k50  x1 x2 (nI 1) S _ _ _ h hw (lv_sub hl [0, 1, 2] rfl)
  have k12 : ∀ (k : Nat), ∀ (x1 : Int32) (x2 : Int64) (x4 : Int64) (x6 : Int32) (S : mM) (H : Heap) (locs : List Loc) (ls : Array Slot), pX6_runScript_l12  k x1 x2 x4 x6 S = some (.inl r, S') → mW G s (wB M β 316 S) H locs → lv_has ls 7 [(0, .ref (gA G (β + 0))), (1, .int x1), (2, .long x2), (4, .long x4), (6, .int x6)] → W p l e { frames := 7, cells := 0, slots := 0, locals := 171 } s m args below meth c H locs 0 0 (mZ below G (some (.int r)) (wB M β 316 S') args s) (F0 m 12 ls []) := by
    intro k
    induction k with
    | zero => intro x1 x2 x4 x6 S H locs ls h; cases h
    | succ k hih12 =>
      intro x1 x2 x4 x6 S H locs ls h hw hl
      obtain ⟨ih12, hk12⟩ : ∃ f, f = pX6_runScript_l12  k := ⟨_, rfl⟩
      replace h : pX6_runScript_lb12  (pX6_runScript_l12  k) x1 x2 x4 x6 S = some (.inl r, S') := h
      rw [← hk12] at h hih12
      clear hk12
      unfold pX6_runScript_lb12 at h
      refine lv_iload hx hb dX6_runScript_12 (lv_at hl 4 rfl) ?_
      refine lv_iload_n hx hb dX6_runScript_14 rfl (lv_at hl 1 rfl) ?_
      refine bi_ge (tgt := 32) hx hb dX6_runScript_15 (by decide) h (fun h => ?_) (fun h => ?_)
      · refine lv_lload_n hx hb dX6_runScript_32 rfl (lv_at hl 2 rfl) ?_
        refine lv_lconst (v := (lN 0)) hx hb dX6_runScript_33 (by decide) ?_
        refine W.lcmp hx hb dX6_runScript_34 ?_
        refine b_lt (tgt := 45) hx hb dX6_runScript_35 (by decide) h (fun h => ?_) (fun h => ?_)
        · exact k45  x1 x2 S _ _ _ h hw (lv_sub hl [0, 1, 2] rfl)
        · refine lv_lload_n hx hb dX6_runScript_38 rfl (lv_at hl 2 rfl) ?_
          refine lv_lload hx hb dX6_runScript_39 (lv_at hl 3 rfl) ?_
          refine W.lcmp hx hb dX6_runScript_41 ?_
          refine b_lt (tgt := 49) hx hb dX6_runScript_42 (by decide) h (fun h => ?_) (fun h => ?_)
          · refine lv_iconst (v := (nI 0)) hx hb dX6_runScript_49 (by decide) ?_
            exact k50  x1 x2 (nI 0) S _ _ _ h hw (lv_sub hl [0, 1, 2] rfl)
          · exact k45  x1 x2 S _ _ _ h hw (lv_sub hl [0, 1, 2] rfl)
      · refine lv_lload hx hb dX6_runScript_18 (lv_at hl 3 rfl) ?_
        refine lv_ldc2 (v := (lN 100000)) hx hb hown (hts _ (wz_in qK_X6_199)) dX6_runScript_20 ?_
        refine lv_lmul hx hb dX6_runScript_23 ?_
        refine p_topl h (fun v24 h => ?_)
        refine lv_lstore (lv' := [(4, .long v24), (0, .ref (gA G (β + 0))), (1, .int x1), (2, .long x2), (6, .int x6)]) hx hb dX6_runScript_24 hl (by decide) rfl (fun ls hl => ?_)
        refine p_iinc (w := (nI 1)) 4 (fun v26 => [(6, .int v26), (4, .long v24), (0, .ref (gA G (β + 0))), (1, .int x1), (2, .long x2)]) hx hb dX6_runScript_26 hl rfl (by decide) (by decide) h (fun _ => rfl) (fun v26 h ls hl => ?_)
        refine lv_goto (tgt := 12) hx hb dX6_runScript_29 (by decide) ?_
        exact hih12 x1 x2 v24 v26 S _ _ _ h hw (lv_sub hl [2, 3, 4, 1, 0] rfl)
  unfold pX6_runScript at h
  refine lv_iload_n hx hb dX6_runScript_0 rfl (lv_at hl 1 rfl) ?_
  refine lv_iconst (v := (nI 1)) hx hb dX6_runScript_1 (by decide) ?_
  refine lv_iconst (v := (nI 3)) hx hb dX6_runScript_2 (by decide) ?_
  rcases bx_some h with ⟨h3, h⟩ | ⟨E3, h3, h⟩
  · refine r_callS (As := [.int a1, .int (nI 1), .int (nI 3)]) (rest := []) (st1 := []) hx hb hml hown hts hE hw hl (mX6_checkRange l G (M := (wB M β 316 S)) h3) (va_cwS 3 hts (zS gS_X6_45) rfl rfl rfl kdX6_checkRange ⟨Nat.le_of_ble_eq_true rfl, Nat.le_of_ble_eq_true rfl⟩) rfl rfl (Nat.le_of_ble_eq_true rfl) dX6_runScript_3 ⟨Nat.zero_le _, Nat.zero_le _⟩ rfl (fun H locs hw => ?_)
    refine lv_lconst (v := (lN 1)) hx hb dX6_runScript_6 (by decide) ?_
    refine lv_lstore (lv' := [(4, .long (lN 1)), (0, .ref (gA G (β + 0))), (1, .int a1), (2, .long a2)]) hx hb dX6_runScript_7 hl (by decide) rfl (fun ls hl => ?_)
    refine lv_iconst (v := (nI 0)) hx hb dX6_runScript_9 (by decide) ?_
    refine lv_istore (lv' := [(6, .int (nI 0)), (4, .long (lN 1)), (0, .ref (gA G (β + 0))), (1, .int a1), (2, .long a2)]) hx hb dX6_runScript_10 hl (by decide) rfl (fun ls hl => ?_)
    exact k12 fuel a1 a2 (lN 1) (nI 0) S _ _ _ h hw (lv_sub hl [2, 3, 4, 1, 0] rfl)
  · cases h
set_option maxHeartbeats 4000000 in
set_option maxRecDepth 100000 in
theorem xX6_runScript (l : Launch) (hfl : l.stackTraces = false) (G : mG) {β : Nat} {M S S' : mM} {a1 : Int32} {a2 : Int64} {E : String} (hn : β + 316 ≤ gN G) (hR : isWR G β) (h : pX6_runScript a1 a2 S = some (.inr E, S')) : MX l G yX6_runScript zzX6_runScript 8 171 [.ref (gA G (β + 0)), .int a1, .long a2] (wB M β 316 S) (wB M β 316 S') E := by
  refine mx_of (cc := cX6_runScript) (maxL := 7) (ret := (some .int)) (by decide) rfl (Nat.le_of_ble_eq_true rfl) ?_
  intro p e s m args below meth c H ls hx hb hr hts hown hml hlocks hout hE hw _ hl
  have hl : lv_has ls 7 [(0, .ref (gA G (β + 0))), (1, .int a1), (2, .long a2)] := hl
  have hinX6 : ∀ w ∈ wsX60, w ∈ zzX6_runScript := fun w h9 => wz_in (zinX6 w h9)
  have k67 : ∀ (k : Nat), ∀ (x1 : Int32) (x2 : Int64) (x6 : Int32) (S : mM) (H : Heap) (locs : List Loc) (ls : Array Slot), pX6_runScript_l67  k x1 x2 x6 S = some (.inr E, S') → mW G s (wB M β 316 S) H locs → lv_has ls 7 [(0, .ref (gA G (β + 0))), (1, .int x1), (2, .long x2), (6, .int x6)] → W p l e { frames := 8, cells := 1, slots := 6, locals := 171 } s m args below meth c H locs 0 0 (mY below G E (wB M β 316 S') args s) (F0 m 67 ls []) := by
    intro k
    induction k with
    | zero => intro x1 x2 x6 S H locs ls h; cases h
    | succ k hih67 =>
      intro x1 x2 x6 S H locs ls h hw hl
      obtain ⟨ih67, hk67⟩ : ∃ f, f = pX6_runScript_l67  k := ⟨_, rfl⟩
      replace h : pX6_runScript_lb67  (pX6_runScript_l67  k) x1 x2 x6 S = some (.inr E, S') := h
      rw [← hk67] at h hih67
      clear hk67
      unfold pX6_runScript_lb67 at h
      refine lv_iload hx hb dX6_runScript_67 (lv_at hl 3 rfl) ?_
      refine lv_iload_n hx hb dX6_runScript_69 rfl (lv_at hl 1 rfl) ?_
      refine bi_ge (tgt := 102) hx hb dX6_runScript_70 (by decide) h (fun h => ?_) (fun h => ?_)
      · refine lv_bipush (v := (-9)) hx hb dX6_runScript_102 (by decide) ?_
        cases h
      · refine lv_aload_n hx hb dX6_runScript_73 rfl (lv_at hl 0 rfl) ?_
        refine r_get (v := .ref (gA G (β + 20))) hx hb hts hinX6 hown hE hw hn 0 (by decide) (congrFun hR.1 _) rfl 2 (by decide) (hts _ (wz_in qF_X6_23)) rfl dX6_runScript_74 ?_
        refine lv_lload_n hx hb dX6_runScript_77 rfl (lv_at hl 2 rfl) ?_
        refine lv_iload_n hx hb dX6_runScript_78 rfl (lv_at hl 1 rfl) ?_
        refine lv_iconst (v := (nI 1)) hx hb dX6_runScript_79 (by decide) ?_
        refine lv_isub hx hb dX6_runScript_80 ?_
        refine lv_iload hx hb dX6_runScript_81 (lv_at hl 3 rfl) ?_
        refine lv_isub hx hb dX6_runScript_83 ?_
        obtain ⟨v84, h84, h⟩ := cr1_some h
        refine r_callS (As := [.long x2, .int ((x1 - (nI 1)) - x6)]) (rest := [.ref (gA G (β + 20))]) (st1 := [.int v84, .ref (gA G (β + 20))]) hx hb hml hown hts hE hw hl (mX6_groupOf l G (M := (wB M β 316 S)) h84) (va_cwS 2 hts (zS gS_X6_201) rfl rfl rfl kdX6_groupOf ⟨Nat.le_of_ble_eq_true rfl, Nat.le_of_ble_eq_true rfl⟩) rfl rfl (Nat.le_of_ble_eq_true rfl) dX6_runScript_84 ⟨Nat.zero_le _, Nat.zero_le _⟩ rfl (fun H locs hw => ?_)
        obtain ⟨v87, T87, h87, h⟩ := cws_some h
        refine r_callV (As := [.int v84]) (rest := []) (st1 := [.int v87]) hx hb hml hown hts hE hw hl (mc_sub 20 17 (by decide) (mX4_obeys l G (by show β + 20 + 17 ≤ _; omega) hR.2.2.2.2.1 h87)) (cwV 1 hts (zV gV_X6_205) rfl rfl rfl kdX4_obeys ⟨Nat.le_of_ble_eq_true rfl, Nat.le_of_ble_eq_true rfl⟩) (by omega) (congrFun hR.2.2.2.2.1.1 _) rfl rfl rfl rfl (Nat.le_of_ble_eq_true rfl) dX6_runScript_87 ⟨Nat.zero_le _, Nat.zero_le _⟩ rfl (fun H locs hw => ?_)
        generalize wB S 20 17 T87 = S87 at h hw
        refine b_ne (tgt := 96) hx hb dX6_runScript_90 (by decide) h (fun h => ?_) (fun h => ?_)
        · refine p_iinc (w := (nI 1)) 3 (fun v96 => [(6, .int v96), (0, .ref (gA G (β + 0))), (1, .int x1), (2, .long x2)]) hx hb dX6_runScript_96 hl rfl (by decide) (by decide) h (fun _ => rfl) (fun v96 h ls hl => ?_)
          refine lv_goto (tgt := 67) hx hb dX6_runScript_99 (by decide) ?_
          exact hih67 x1 x2 v96 S87 _ _ _ h hw (lv_sub hl [1, 2, 3, 0] rfl)
        · refine lv_iload hx hb dX6_runScript_93 (lv_at hl 3 rfl) ?_
          cases h
  have k50 : ∀ (x1 : Int32) (x2 : Int64) (t0 : Int32) (S : mM) (H : Heap) (locs : List Loc) (ls : Array Slot), pX6_runScript_b50  x1 x2 t0 S = some (.inr E, S') → mW G s (wB M β 316 S) H locs → lv_has ls 7 [(0, .ref (gA G (β + 0))), (1, .int x1), (2, .long x2)] → W p l e { frames := 8, cells := 1, slots := 6, locals := 171 } s m args below meth c H locs 0 0 (mY below G E (wB M β 316 S') args s) (F0 m 50 ls [.int t0]) := by
    intro x1 x2 t0 S H locs ls h hw hl
    unfold pX6_runScript_b50 at h
    rcases bx_some h with ⟨h50, h⟩ | ⟨E50, h50, h⟩
    · refine r_callS (As := [.int t0]) (rest := []) (st1 := []) hx hb hml hown hts hE hw hl (mX6_refuseArgumentIf l G (M := (wB M β 316 S)) h50) (va_cwS 1 hts (zS gS_X6_139) rfl rfl rfl kdX6_refuseArgumentIf ⟨Nat.le_of_ble_eq_true rfl, Nat.le_of_ble_eq_true rfl⟩) rfl rfl (Nat.le_of_ble_eq_true rfl) dX6_runScript_50 ⟨Nat.zero_le _, Nat.zero_le _⟩ rfl (fun H locs hw => ?_)
      refine lv_aload_n hx hb dX6_runScript_53 rfl (lv_at hl 0 rfl) ?_
      refine r_get (v := .ref (gA G (β + 20))) hx hb hts hinX6 hown hE hw hn 0 (by decide) (congrFun hR.1 _) rfl 2 (by decide) (hts _ (wz_in qF_X6_23)) rfl dX6_runScript_54 ?_
      refine lv_aload_n hx hb dX6_runScript_57 rfl (lv_at hl 0 rfl) ?_
      refine r_get (v := .ref (gA G (β + 3))) hx hb hts hinX6 hown hE hw hn 0 (by decide) (congrFun hR.1 _) rfl 1 (by decide) (hts _ (wz_in qF_X6_19)) rfl dX6_runScript_58 ?_
      obtain ⟨S61, h61, h⟩ := cr1_some h
      refine r_callV (As := [.ref (gA G (β + 3))]) (rest := []) (st1 := []) hx hb hml hown hts hE hw hl (mX4_copyFrom l G (by omega) hR (by decide) (by decide) hR.2.2.2.2.1 hR.2.2.2.1 h61) (cwV 1 hts (zV gV_X6_69) rfl rfl rfl kdX4_copyFrom ⟨Nat.le_of_ble_eq_true rfl, Nat.le_of_ble_eq_true rfl⟩) (by omega) (congrFun hR.2.2.2.2.1.1 _) rfl rfl rfl rfl (Nat.le_of_ble_eq_true rfl) dX6_runScript_61 ⟨Nat.zero_le _, Nat.zero_le _⟩ rfl (fun H locs hw => ?_)
      refine lv_iconst (v := (nI 0)) hx hb dX6_runScript_64 (by decide) ?_
      refine lv_istore (lv' := [(6, .int (nI 0)), (0, .ref (gA G (β + 0))), (1, .int x1), (2, .long x2)]) hx hb dX6_runScript_65 hl (by decide) rfl (fun ls hl => ?_)
      exact k67 fuel x1 x2 (nI 0) S61 _ _ _ h hw (lv_sub hl [1, 2, 3, 0] rfl)
    · rw [← (Prod.mk.inj (Option.some.inj h)).2, ← Sum.inr.inj (Prod.mk.inj (Option.some.inj h)).1]
      exact x_callS (As := [.int t0]) (rest := []) hx hb hml hown hts hE hw hl (xX6_refuseArgumentIf l hfl G (M := (wB M β 316 S)) h50) (va_cwS 1 hts (zS gS_X6_139) rfl rfl rfl kdX6_refuseArgumentIf ⟨Nat.le_of_ble_eq_true rfl, Nat.le_of_ble_eq_true rfl⟩) rfl rfl (Nat.le_of_ble_eq_true rfl) dX6_runScript_50 ⟨Nat.le_refl _, Nat.le_refl _⟩ hout hlocks
  have k45 : ∀ (x1 : Int32) (x2 : Int64) (S : mM) (H : Heap) (locs : List Loc) (ls : Array Slot), pX6_runScript_b45  x1 x2 S = some (.inr E, S') → mW G s (wB M β 316 S) H locs → lv_has ls 7 [(0, .ref (gA G (β + 0))), (1, .int x1), (2, .long x2)] → W p l e { frames := 8, cells := 1, slots := 6, locals := 171 } s m args below meth c H locs 0 0 (mY below G E (wB M β 316 S') args s) (F0 m 45 ls []) := by
    intro x1 x2 S H locs ls h hw hl
    unfold pX6_runScript_b45 at h
    refine lv_iconst (v := (nI 1)) hx hb dX6_runScript_45 (by decide) ?_
    refine lv_goto (tgt := 50) hx hb dX6_runScript_46 (by decide) ?_
    exact k50  x1 x2 (nI 1) S _ _ _ h hw (lv_sub hl [0, 1, 2] rfl)
  have k12 : ∀ (k : Nat), ∀ (x1 : Int32) (x2 : Int64) (x4 : Int64) (x6 : Int32) (S : mM) (H : Heap) (locs : List Loc) (ls : Array Slot), pX6_runScript_l12  k x1 x2 x4 x6 S = some (.inr E, S') → mW G s (wB M β 316 S) H locs → lv_has ls 7 [(0, .ref (gA G (β + 0))), (1, .int x1), (2, .long x2), (4, .long x4), (6, .int x6)] → W p l e { frames := 8, cells := 1, slots := 6, locals := 171 } s m args below meth c H locs 0 0 (mY below G E (wB M β 316 S') args s) (F0 m 12 ls []) := by
    intro k
    induction k with
    | zero => intro x1 x2 x4 x6 S H locs ls h; cases h
    | succ k hih12 =>
      intro x1 x2 x4 x6 S H locs ls h hw hl
      obtain ⟨ih12, hk12⟩ : ∃ f, f = pX6_runScript_l12  k := ⟨_, rfl⟩
      replace h : pX6_runScript_lb12  (pX6_runScript_l12  k) x1 x2 x4 x6 S = some (.inr E, S') := h
      rw [← hk12] at h hih12
      clear hk12
      unfold pX6_runScript_lb12 at h
      refine lv_iload hx hb dX6_runScript_12 (lv_at hl 4 rfl) ?_
      refine lv_iload_n hx hb dX6_runScript_14 rfl (lv_at hl 1 rfl) ?_
      refine bi_ge (tgt := 32) hx hb dX6_runScript_15 (by decide) h (fun h => ?_) (fun h => ?_)
      · refine lv_lload_n hx hb dX6_runScript_32 rfl (lv_at hl 2 rfl) ?_
        refine lv_lconst (v := (lN 0)) hx hb dX6_runScript_33 (by decide) ?_
        refine W.lcmp hx hb dX6_runScript_34 ?_
        refine b_lt (tgt := 45) hx hb dX6_runScript_35 (by decide) h (fun h => ?_) (fun h => ?_)
        · exact k45  x1 x2 S _ _ _ h hw (lv_sub hl [0, 1, 2] rfl)
        · refine lv_lload_n hx hb dX6_runScript_38 rfl (lv_at hl 2 rfl) ?_
          refine lv_lload hx hb dX6_runScript_39 (lv_at hl 3 rfl) ?_
          refine W.lcmp hx hb dX6_runScript_41 ?_
          refine b_lt (tgt := 49) hx hb dX6_runScript_42 (by decide) h (fun h => ?_) (fun h => ?_)
          · refine lv_iconst (v := (nI 0)) hx hb dX6_runScript_49 (by decide) ?_
            exact k50  x1 x2 (nI 0) S _ _ _ h hw (lv_sub hl [0, 1, 2] rfl)
          · exact k45  x1 x2 S _ _ _ h hw (lv_sub hl [0, 1, 2] rfl)
      · refine lv_lload hx hb dX6_runScript_18 (lv_at hl 3 rfl) ?_
        refine lv_ldc2 (v := (lN 100000)) hx hb hown (hts _ (wz_in qK_X6_199)) dX6_runScript_20 ?_
        refine lv_lmul hx hb dX6_runScript_23 ?_
        refine p_topl h (fun v24 h => ?_)
        refine lv_lstore (lv' := [(4, .long v24), (0, .ref (gA G (β + 0))), (1, .int x1), (2, .long x2), (6, .int x6)]) hx hb dX6_runScript_24 hl (by decide) rfl (fun ls hl => ?_)
        refine p_iinc (w := (nI 1)) 4 (fun v26 => [(6, .int v26), (4, .long v24), (0, .ref (gA G (β + 0))), (1, .int x1), (2, .long x2)]) hx hb dX6_runScript_26 hl rfl (by decide) (by decide) h (fun _ => rfl) (fun v26 h ls hl => ?_)
        refine lv_goto (tgt := 12) hx hb dX6_runScript_29 (by decide) ?_
        exact hih12 x1 x2 v24 v26 S _ _ _ h hw (lv_sub hl [2, 3, 4, 1, 0] rfl)
  unfold pX6_runScript at h
  refine lv_iload_n hx hb dX6_runScript_0 rfl (lv_at hl 1 rfl) ?_
  refine lv_iconst (v := (nI 1)) hx hb dX6_runScript_1 (by decide) ?_
  refine lv_iconst (v := (nI 3)) hx hb dX6_runScript_2 (by decide) ?_
  rcases bx_some h with ⟨h3, h⟩ | ⟨E3, h3, h⟩
  · refine r_callS (As := [.int a1, .int (nI 1), .int (nI 3)]) (rest := []) (st1 := []) hx hb hml hown hts hE hw hl (mX6_checkRange l G (M := (wB M β 316 S)) h3) (va_cwS 3 hts (zS gS_X6_45) rfl rfl rfl kdX6_checkRange ⟨Nat.le_of_ble_eq_true rfl, Nat.le_of_ble_eq_true rfl⟩) rfl rfl (Nat.le_of_ble_eq_true rfl) dX6_runScript_3 ⟨Nat.zero_le _, Nat.zero_le _⟩ rfl (fun H locs hw => ?_)
    refine lv_lconst (v := (lN 1)) hx hb dX6_runScript_6 (by decide) ?_
    refine lv_lstore (lv' := [(4, .long (lN 1)), (0, .ref (gA G (β + 0))), (1, .int a1), (2, .long a2)]) hx hb dX6_runScript_7 hl (by decide) rfl (fun ls hl => ?_)
    refine lv_iconst (v := (nI 0)) hx hb dX6_runScript_9 (by decide) ?_
    refine lv_istore (lv' := [(6, .int (nI 0)), (4, .long (lN 1)), (0, .ref (gA G (β + 0))), (1, .int a1), (2, .long a2)]) hx hb dX6_runScript_10 hl (by decide) rfl (fun ls hl => ?_)
    exact k12 fuel a1 a2 (lN 1) (nI 0) S _ _ _ h hw (lv_sub hl [2, 3, 4, 1, 0] rfl)
  · rw [← (Prod.mk.inj (Option.some.inj h)).2, ← Sum.inr.inj (Prod.mk.inj (Option.some.inj h)).1]
    exact x_callS (As := [.int a1, .int (nI 1), .int (nI 3)]) (rest := []) hx hb hml hown hts hE hw hl (xX6_checkRange l hfl G (M := (wB M β 316 S)) h3) (va_cwS 3 hts (zS gS_X6_45) rfl rfl rfl kdX6_checkRange ⟨Nat.le_of_ble_eq_true rfl, Nat.le_of_ble_eq_true rfl⟩) rfl rfl (Nat.le_of_ble_eq_true rfl) dX6_runScript_3 ⟨Nat.le_refl _, Nat.le_refl _⟩ hout hlocks

set_option maxHeartbeats 4000000 in
set_option maxRecDepth 100000 in
theorem mX6_simulate (l : Launch) (G : mG) {β : Nat} {M S S' : mM} {a1 : Int64} {a2 : Int32} {r : Int32} (hn : β + 316 ≤ gN G) (hR : isWR G β) (h : pX6_simulate a1 a2 S = some (.inl r, S')) : MC l G yX6_simulate zzX6_simulate 5 121 [.ref (gA G (β + 0)), .long a1, .int a2] (wB M β 316 S) (wB M β 316 S') (some (.int r)) := by
  refine mc_of (cc := cX6_simulate) (maxL := 9) (ret := (some .int)) (by decide) rfl (Nat.le_of_ble_eq_true rfl) ?_
  intro p e s m args below meth c H ls hx hb hr hts hown hml hlocks hE hw hl
  have hl : lv_has ls 9 [(0, .ref (gA G (β + 0))), (1, .long a1), (3, .int a2)] := hl
  have hinX4 : ∀ w ∈ wsX40, w ∈ zzX6_simulate := fun w h9 => wz_in (zinX4 w h9)
  have hinX6 : ∀ w ∈ wsX60, w ∈ zzX6_simulate := fun w h9 => wz_in (zinX6 w h9)
  have k48 : ∀ (k : Nat), ∀ (x3 : Int32) (x4 : Int32) (x5 : Int32) (x6 : Int64) (x8 : Int32) (S : mM) (H : Heap) (locs : List Loc) (ls : Array Slot), pX6_simulate_l48  k x3 x4 x5 x6 x8 S = some (.inl r, S') → mW G s (wB M β 316 S) H locs → lv_has ls 9 [(0, .ref (gA G (β + 0))), (3, .int x3), (4, .int x4), (5, .int x5), (6, .long x6), (8, .int x8)] → W p l e { frames := 5, cells := 0, slots := 0, locals := 121 } s m args below meth c H locs 0 0 (mZ below G (some (.int r)) (wB M β 316 S') args s) (F0 m 48 ls []) := by
    intro k
    induction k with
    | zero => intro x3 x4 x5 x6 x8 S H locs ls h; cases h
    | succ k hih48 =>
      intro x3 x4 x5 x6 x8 S H locs ls h hw hl
      obtain ⟨ih48, hk48⟩ : ∃ f, f = pX6_simulate_l48  k := ⟨_, rfl⟩
      replace h : pX6_simulate_lb48  (pX6_simulate_l48  k) x3 x4 x5 x6 x8 S = some (.inl r, S') := h
      rw [← hk48] at h hih48
      clear hk48
      unfold pX6_simulate_lb48 at h
      refine lv_iload hx hb dX6_simulate_48 (lv_at hl 5 rfl) ?_
      refine lv_iload_n hx hb dX6_simulate_50 rfl (lv_at hl 1 rfl) ?_
      refine bi_ge (tgt := 92) hx hb dX6_simulate_51 (by decide) h (fun h => ?_) (fun h => ?_)
      · refine lv_aload_n hx hb dX6_simulate_92 rfl (lv_at hl 0 rfl) ?_
        refine r_get (v := .ref (gA G (β + 20))) hx hb hts hinX6 hown hE hw hn 0 (by decide) (congrFun hR.1 _) rfl 2 (by decide) (hts _ (wz_in qF_X6_23)) rfl dX6_simulate_93 ?_
        refine lv_iconst (v := (nI 2)) hx hb dX6_simulate_96 (by decide) ?_
        obtain ⟨v97, h97, h⟩ := cr1_some h
        refine r_callV (As := [.int (nI 2)]) (rest := []) (st1 := [.int v97]) hx hb hml hown hts hE hw hl (mc_subR 20 17 (by decide) (mX4_howMany l G (by show β + 20 + 17 ≤ _; omega) hR.2.2.2.2.1 h97)) (cwV 1 hts (zV gV_X6_105) rfl rfl rfl kdX4_howMany ⟨Nat.le_of_ble_eq_true rfl, Nat.le_of_ble_eq_true rfl⟩) (by omega) (congrFun hR.2.2.2.2.1.1 _) rfl rfl rfl rfl (Nat.le_of_ble_eq_true rfl) dX6_simulate_97 ⟨Nat.zero_le _, Nat.zero_le _⟩ rfl (fun H locs hw => ?_)
        refine lv_iload hx hb dX6_simulate_100 (lv_at hl 2 rfl) ?_
        refine lv_isub hx hb dX6_simulate_102 ?_
        refine p_topi h (fun v103 h => ?_)
        refine lv_istore (lv' := [(8, .int v103), (0, .ref (gA G (β + 0))), (3, .int x3), (4, .int x4), (5, .int x5), (6, .long x6)]) hx hb dX6_simulate_103 hl (by decide) rfl (fun ls hl => ?_)
        refine lv_sipush (v := (nI 10000)) hx hb dX6_simulate_105 (by decide) ?_
        refine lv_iload hx hb dX6_simulate_108 (lv_at hl 0 rfl) ?_
        refine lv_imul hx hb dX6_simulate_110 ?_
        refine lv_aload_n hx hb dX6_simulate_111 rfl (lv_at hl 1 rfl) ?_
        refine r_get (v := .ref (gA G (β + 20))) hx hb hts hinX6 hown hE hw hn 0 (by decide) (congrFun hR.1 _) rfl 2 (by decide) (hts _ (wz_in qF_X6_23)) rfl dX6_simulate_112 ?_
        refine r_get (v := .ref (gA G (β + 29))) hx hb hts hinX4 hown hE hw hn 20 (by decide) (congrFun hR.2.2.2.2.1.1 _) rfl 4 (by decide) (hts _ (wz_in qF_X6_78)) rfl dX6_simulate_115 ?_
        refine lv_bipush (v := (nI 6)) hx hb dX6_simulate_118 (by decide) ?_
        obtain ⟨v120, h120, h⟩ := cr1_some h
        refine r_callV (As := [.int (nI 6)]) (rest := [.int ((nI 10000) * v103)]) (st1 := [.int v120, .int ((nI 10000) * v103)]) hx hb hml hown hts hE hw hl (mc_subR 29 2 (by decide) (mX5_sum l G (by show β + 29 + 2 ≤ _; omega) hR.2.2.2.2.1.2.2.2.2.2.1 h120)) (cwV 1 hts (zV gV_X6_109) rfl rfl rfl kdX5_sum ⟨Nat.le_of_ble_eq_true rfl, Nat.le_of_ble_eq_true rfl⟩) (by omega) (congrFun hR.2.2.2.2.1.2.2.2.2.2.1.1 _) rfl rfl rfl rfl (Nat.le_of_ble_eq_true rfl) dX6_simulate_120 ⟨Nat.zero_le _, Nat.zero_le _⟩ rfl (fun H locs hw => ?_)
        refine lv_iadd hx hb dX6_simulate_123 ?_
        refine lv_iload hx hb dX6_simulate_124 (lv_at hl 4 rfl) ?_
        refine lv_isub hx hb dX6_simulate_126 ?_
        cases h
        exact r_iret hx hb hr hlocks hw dX6_simulate_127
      · refine lv_lload hx hb dX6_simulate_54 (lv_at hl 4 rfl) ?_
        refine lv_ldc2 (v := 6364136223846793005) hx hb hown (hts _ (wz_in qK_X6_208)) dX6_simulate_56 ?_
        refine lv_lmul hx hb dX6_simulate_59 ?_
        refine lv_ldc2 (v := 1442695040888963407) hx hb hown (hts _ (wz_in qK_X6_210)) dX6_simulate_60 ?_
        refine lv_ladd hx hb dX6_simulate_63 ?_
        refine p_topl h (fun v64 h => ?_)
        refine lv_lstore (lv' := [(6, .long v64), (0, .ref (gA G (β + 0))), (3, .int x3), (4, .int x4), (5, .int x5), (8, .int x8)]) hx hb dX6_simulate_64 hl (by decide) rfl (fun ls hl => ?_)
        refine lv_aload_n hx hb dX6_simulate_66 rfl (lv_at hl 1 rfl) ?_
        refine r_get (v := .ref (gA G (β + 20))) hx hb hts hinX6 hown hE hw hn 0 (by decide) (congrFun hR.1 _) rfl 2 (by decide) (hts _ (wz_in qF_X6_23)) rfl dX6_simulate_67 ?_
        refine lv_lload hx hb dX6_simulate_70 (lv_at hl 0 rfl) ?_
        refine lv_bipush (v := (nI 33)) hx hb dX6_simulate_72 (by decide) ?_
        refine lv_lushr hx hb dX6_simulate_74 rfl ?_
        refine lv_l2i hx hb dX6_simulate_75 rfl ?_
        obtain ⟨T76, h76, h⟩ := cvs_some h
        refine r_callV (As := [.int (((v64.toUInt64 >>> (((nI 33).toInt64).toUInt64 &&& Int64.toUInt64 63)).toInt64).toInt32)]) (rest := []) (st1 := []) hx hb hml hown hts hE hw hl (mc_sub 20 17 (by decide) (mX4_meetChance l G (by show β + 20 + 17 ≤ _; omega) hR.2.2.2.2.1 h76)) (cwV 1 hts (zV gV_X6_212) rfl rfl rfl kdX4_meetChance ⟨Nat.le_of_ble_eq_true rfl, Nat.le_of_ble_eq_true rfl⟩) (by omega) (congrFun hR.2.2.2.2.1.1 _) rfl rfl rfl rfl (Nat.le_of_ble_eq_true rfl) dX6_simulate_76 ⟨Nat.zero_le _, Nat.zero_le _⟩ rfl (fun H locs hw => ?_)
        generalize wB S 20 17 T76 = S76 at h hw
        refine lv_aload_n hx hb dX6_simulate_79 rfl (lv_at hl 1 rfl) ?_
        refine r_get (v := .ref (gA G (β + 20))) hx hb hts hinX6 hown hE hw hn 0 (by decide) (congrFun hR.1 _) rfl 2 (by decide) (hts _ (wz_in qF_X6_23)) rfl dX6_simulate_80 ?_
        obtain ⟨T83, h83, h⟩ := cvs_some h
        refine r_callV (As := []) (rest := []) (st1 := []) hx hb hml hown hts hE hw hl (mc_sub 20 17 (by decide) (mX4_letHourGoBy l G (by show β + 20 + 17 ≤ _; omega) hR.2.2.2.2.1 h83)) (cwV 0 hts (zV gV_X6_215) rfl rfl rfl kdX4_letHourGoBy ⟨Nat.le_of_ble_eq_true rfl, Nat.le_of_ble_eq_true rfl⟩) (by omega) (congrFun hR.2.2.2.2.1.1 _) rfl rfl rfl rfl (Nat.le_of_ble_eq_true rfl) dX6_simulate_83 ⟨Nat.zero_le _, Nat.zero_le _⟩ rfl (fun H locs hw => ?_)
        generalize wB S76 20 17 T83 = S83 at h hw
        refine p_iinc (w := (nI 1)) 5 (fun v86 => [(8, .int v86), (6, .long v64), (0, .ref (gA G (β + 0))), (3, .int x3), (4, .int x4), (5, .int x5)]) hx hb dX6_simulate_86 hl rfl (by decide) (by decide) h (fun _ => rfl) (fun v86 h ls hl => ?_)
        refine lv_goto (tgt := 48) hx hb dX6_simulate_89 (by decide) ?_
        exact hih48 x3 x4 x5 v64 v86 S83 _ _ _ h hw (lv_sub hl [2, 3, 4, 5, 1, 0] rfl)
  unfold pX6_simulate at h
  refine lv_iload_n hx hb dX6_simulate_0 rfl (lv_at hl 2 rfl) ?_
  refine lv_iconst (v := (nI 1)) hx hb dX6_simulate_1 (by decide) ?_
  refine lv_bipush (v := (nI 99)) hx hb dX6_simulate_2 (by decide) ?_
  rcases bx_some h with ⟨h4, h⟩ | ⟨E4, h4, h⟩
  · refine r_callS (As := [.int a2, .int (nI 1), .int (nI 99)]) (rest := []) (st1 := []) hx hb hml hown hts hE hw hl (mX6_checkRange l G (M := (wB M β 316 S)) h4) (va_cwS 3 hts (zS gS_X6_45) rfl rfl rfl kdX6_checkRange ⟨Nat.le_of_ble_eq_true rfl, Nat.le_of_ble_eq_true rfl⟩) rfl rfl (Nat.le_of_ble_eq_true rfl) dX6_simulate_4 ⟨Nat.zero_le _, Nat.zero_le _⟩ rfl (fun H locs hw => ?_)
    refine lv_aload_n hx hb dX6_simulate_7 rfl (lv_at hl 0 rfl) ?_
    refine r_get (v := .ref (gA G (β + 20))) hx hb hts hinX6 hown hE hw hn 0 (by decide) (congrFun hR.1 _) rfl 2 (by decide) (hts _ (wz_in qF_X6_23)) rfl dX6_simulate_8 ?_
    refine lv_aload_n hx hb dX6_simulate_11 rfl (lv_at hl 0 rfl) ?_
    refine r_get (v := .ref (gA G (β + 3))) hx hb hts hinX6 hown hE hw hn 0 (by decide) (congrFun hR.1 _) rfl 1 (by decide) (hts _ (wz_in qF_X6_19)) rfl dX6_simulate_12 ?_
    obtain ⟨S15, h15, h⟩ := cr1_some h
    refine r_callV (As := [.ref (gA G (β + 3))]) (rest := []) (st1 := []) hx hb hml hown hts hE hw hl (mX4_copyFrom l G (by omega) hR (by decide) (by decide) hR.2.2.2.2.1 hR.2.2.2.1 h15) (cwV 1 hts (zV gV_X6_69) rfl rfl rfl kdX4_copyFrom ⟨Nat.le_of_ble_eq_true rfl, Nat.le_of_ble_eq_true rfl⟩) (by omega) (congrFun hR.2.2.2.2.1.1 _) rfl rfl rfl rfl (Nat.le_of_ble_eq_true rfl) dX6_simulate_15 ⟨Nat.zero_le _, Nat.zero_le _⟩ rfl (fun H locs hw => ?_)
    refine lv_aload_n hx hb dX6_simulate_18 rfl (lv_at hl 0 rfl) ?_
    refine r_get (v := .ref (gA G (β + 20))) hx hb hts hinX6 hown hE hw hn 0 (by decide) (congrFun hR.1 _) rfl 2 (by decide) (hts _ (wz_in qF_X6_23)) rfl dX6_simulate_19 ?_
    refine lv_iconst (v := (nI 2)) hx hb dX6_simulate_22 (by decide) ?_
    obtain ⟨v23, h23, h⟩ := cr1_some h
    refine r_callV (As := [.int (nI 2)]) (rest := []) (st1 := [.int v23]) hx hb hml hown hts hE hw hl (mc_subR 20 17 (by decide) (mX4_howMany l G (by show β + 20 + 17 ≤ _; omega) hR.2.2.2.2.1 h23)) (cwV 1 hts (zV gV_X6_105) rfl rfl rfl kdX4_howMany ⟨Nat.le_of_ble_eq_true rfl, Nat.le_of_ble_eq_true rfl⟩) (by omega) (congrFun hR.2.2.2.2.1.1 _) rfl rfl rfl rfl (Nat.le_of_ble_eq_true rfl) dX6_simulate_23 ⟨Nat.zero_le _, Nat.zero_le _⟩ rfl (fun H locs hw => ?_)
    refine lv_istore (lv' := [(4, .int v23), (0, .ref (gA G (β + 0))), (1, .long a1), (3, .int a2)]) hx hb dX6_simulate_26 hl (by decide) rfl (fun ls hl => ?_)
    refine lv_aload_n hx hb dX6_simulate_28 rfl (lv_at hl 1 rfl) ?_
    refine r_get (v := .ref (gA G (β + 20))) hx hb hts hinX6 hown hE hw hn 0 (by decide) (congrFun hR.1 _) rfl 2 (by decide) (hts _ (wz_in qF_X6_23)) rfl dX6_simulate_29 ?_
    refine r_get (v := .ref (gA G (β + 29))) hx hb hts hinX4 hown hE hw hn 20 (by decide) (congrFun hR.2.2.2.2.1.1 _) rfl 4 (by decide) (hts _ (wz_in qF_X6_78)) rfl dX6_simulate_32 ?_
    refine lv_bipush (v := (nI 6)) hx hb dX6_simulate_35 (by decide) ?_
    obtain ⟨v37, h37, h⟩ := cr1_some h
    refine r_callV (As := [.int (nI 6)]) (rest := []) (st1 := [.int v37]) hx hb hml hown hts hE hw hl (mc_subR 29 2 (by decide) (mX5_sum l G (by show β + 29 + 2 ≤ _; omega) hR.2.2.2.2.1.2.2.2.2.2.1 h37)) (cwV 1 hts (zV gV_X6_109) rfl rfl rfl kdX5_sum ⟨Nat.le_of_ble_eq_true rfl, Nat.le_of_ble_eq_true rfl⟩) (by omega) (congrFun hR.2.2.2.2.1.2.2.2.2.2.1.1 _) rfl rfl rfl rfl (Nat.le_of_ble_eq_true rfl) dX6_simulate_37 ⟨Nat.zero_le _, Nat.zero_le _⟩ rfl (fun H locs hw => ?_)
    refine lv_istore (lv' := [(5, .int v37), (4, .int v23), (0, .ref (gA G (β + 0))), (1, .long a1), (3, .int a2)]) hx hb dX6_simulate_40 hl (by decide) rfl (fun ls hl => ?_)
    refine lv_lload_n hx hb dX6_simulate_42 rfl (lv_at hl 3 rfl) ?_
    refine lv_lstore (lv' := [(6, .long a1), (5, .int v37), (4, .int v23), (0, .ref (gA G (β + 0))), (1, .long a1), (3, .int a2)]) hx hb dX6_simulate_43 hl (by decide) rfl (fun ls hl => ?_)
    refine lv_iconst (v := (nI 0)) hx hb dX6_simulate_45 (by decide) ?_
    refine lv_istore (lv' := [(8, .int (nI 0)), (6, .long a1), (5, .int v37), (4, .int v23), (0, .ref (gA G (β + 0))), (1, .long a1), (3, .int a2)]) hx hb dX6_simulate_46 hl (by decide) rfl (fun ls hl => ?_)
    exact k48 fuel a2 v23 v37 a1 (nI 0) S15 _ _ _ h hw (lv_sub hl [4, 6, 3, 2, 1, 0] rfl)
  · cases h
set_option maxHeartbeats 4000000 in
set_option maxRecDepth 100000 in
theorem xX6_simulate (l : Launch) (hfl : l.stackTraces = false) (G : mG) {β : Nat} {M S S' : mM} {a1 : Int64} {a2 : Int32} {E : String} (hn : β + 316 ≤ gN G) (hR : isWR G β) (h : pX6_simulate a1 a2 S = some (.inr E, S')) : MX l G yX6_simulate zzX6_simulate 8 124 [.ref (gA G (β + 0)), .long a1, .int a2] (wB M β 316 S) (wB M β 316 S') E := by
  refine mx_of (cc := cX6_simulate) (maxL := 9) (ret := (some .int)) (by decide) rfl (Nat.le_of_ble_eq_true rfl) ?_
  intro p e s m args below meth c H ls hx hb hr hts hown hml hlocks hout hE hw _ hl
  have hl : lv_has ls 9 [(0, .ref (gA G (β + 0))), (1, .long a1), (3, .int a2)] := hl
  have hinX4 : ∀ w ∈ wsX40, w ∈ zzX6_simulate := fun w h9 => wz_in (zinX4 w h9)
  have hinX6 : ∀ w ∈ wsX60, w ∈ zzX6_simulate := fun w h9 => wz_in (zinX6 w h9)
  have k48 : ∀ (k : Nat), ∀ (x3 : Int32) (x4 : Int32) (x5 : Int32) (x6 : Int64) (x8 : Int32) (S : mM) (H : Heap) (locs : List Loc) (ls : Array Slot), pX6_simulate_l48  k x3 x4 x5 x6 x8 S = some (.inr E, S') → mW G s (wB M β 316 S) H locs → lv_has ls 9 [(0, .ref (gA G (β + 0))), (3, .int x3), (4, .int x4), (5, .int x5), (6, .long x6), (8, .int x8)] → W p l e { frames := 8, cells := 1, slots := 6, locals := 124 } s m args below meth c H locs 0 0 (mY below G E (wB M β 316 S') args s) (F0 m 48 ls []) := by
    intro k
    induction k with
    | zero => intro x3 x4 x5 x6 x8 S H locs ls h; cases h
    | succ k hih48 =>
      intro x3 x4 x5 x6 x8 S H locs ls h hw hl
      obtain ⟨ih48, hk48⟩ : ∃ f, f = pX6_simulate_l48  k := ⟨_, rfl⟩
      replace h : pX6_simulate_lb48  (pX6_simulate_l48  k) x3 x4 x5 x6 x8 S = some (.inr E, S') := h
      rw [← hk48] at h hih48
      clear hk48
      unfold pX6_simulate_lb48 at h
      refine lv_iload hx hb dX6_simulate_48 (lv_at hl 5 rfl) ?_
      refine lv_iload_n hx hb dX6_simulate_50 rfl (lv_at hl 1 rfl) ?_
      refine bi_ge (tgt := 92) hx hb dX6_simulate_51 (by decide) h (fun h => ?_) (fun h => ?_)
      · refine lv_aload_n hx hb dX6_simulate_92 rfl (lv_at hl 0 rfl) ?_
        refine r_get (v := .ref (gA G (β + 20))) hx hb hts hinX6 hown hE hw hn 0 (by decide) (congrFun hR.1 _) rfl 2 (by decide) (hts _ (wz_in qF_X6_23)) rfl dX6_simulate_93 ?_
        refine lv_iconst (v := (nI 2)) hx hb dX6_simulate_96 (by decide) ?_
        obtain ⟨v97, h97, h⟩ := cr1_some h
        refine r_callV (As := [.int (nI 2)]) (rest := []) (st1 := [.int v97]) hx hb hml hown hts hE hw hl (mc_subR 20 17 (by decide) (mX4_howMany l G (by show β + 20 + 17 ≤ _; omega) hR.2.2.2.2.1 h97)) (cwV 1 hts (zV gV_X6_105) rfl rfl rfl kdX4_howMany ⟨Nat.le_of_ble_eq_true rfl, Nat.le_of_ble_eq_true rfl⟩) (by omega) (congrFun hR.2.2.2.2.1.1 _) rfl rfl rfl rfl (Nat.le_of_ble_eq_true rfl) dX6_simulate_97 ⟨Nat.zero_le _, Nat.zero_le _⟩ rfl (fun H locs hw => ?_)
        refine lv_iload hx hb dX6_simulate_100 (lv_at hl 2 rfl) ?_
        refine lv_isub hx hb dX6_simulate_102 ?_
        refine p_topi h (fun v103 h => ?_)
        refine lv_istore (lv' := [(8, .int v103), (0, .ref (gA G (β + 0))), (3, .int x3), (4, .int x4), (5, .int x5), (6, .long x6)]) hx hb dX6_simulate_103 hl (by decide) rfl (fun ls hl => ?_)
        refine lv_sipush (v := (nI 10000)) hx hb dX6_simulate_105 (by decide) ?_
        refine lv_iload hx hb dX6_simulate_108 (lv_at hl 0 rfl) ?_
        refine lv_imul hx hb dX6_simulate_110 ?_
        refine lv_aload_n hx hb dX6_simulate_111 rfl (lv_at hl 1 rfl) ?_
        refine r_get (v := .ref (gA G (β + 20))) hx hb hts hinX6 hown hE hw hn 0 (by decide) (congrFun hR.1 _) rfl 2 (by decide) (hts _ (wz_in qF_X6_23)) rfl dX6_simulate_112 ?_
        refine r_get (v := .ref (gA G (β + 29))) hx hb hts hinX4 hown hE hw hn 20 (by decide) (congrFun hR.2.2.2.2.1.1 _) rfl 4 (by decide) (hts _ (wz_in qF_X6_78)) rfl dX6_simulate_115 ?_
        refine lv_bipush (v := (nI 6)) hx hb dX6_simulate_118 (by decide) ?_
        obtain ⟨v120, h120, h⟩ := cr1_some h
        refine r_callV (As := [.int (nI 6)]) (rest := [.int ((nI 10000) * v103)]) (st1 := [.int v120, .int ((nI 10000) * v103)]) hx hb hml hown hts hE hw hl (mc_subR 29 2 (by decide) (mX5_sum l G (by show β + 29 + 2 ≤ _; omega) hR.2.2.2.2.1.2.2.2.2.2.1 h120)) (cwV 1 hts (zV gV_X6_109) rfl rfl rfl kdX5_sum ⟨Nat.le_of_ble_eq_true rfl, Nat.le_of_ble_eq_true rfl⟩) (by omega) (congrFun hR.2.2.2.2.1.2.2.2.2.2.1.1 _) rfl rfl rfl rfl (Nat.le_of_ble_eq_true rfl) dX6_simulate_120 ⟨Nat.zero_le _, Nat.zero_le _⟩ rfl (fun H locs hw => ?_)
        refine lv_iadd hx hb dX6_simulate_123 ?_
        refine lv_iload hx hb dX6_simulate_124 (lv_at hl 4 rfl) ?_
        refine lv_isub hx hb dX6_simulate_126 ?_
        cases h
      · refine lv_lload hx hb dX6_simulate_54 (lv_at hl 4 rfl) ?_
        refine lv_ldc2 (v := 6364136223846793005) hx hb hown (hts _ (wz_in qK_X6_208)) dX6_simulate_56 ?_
        refine lv_lmul hx hb dX6_simulate_59 ?_
        refine lv_ldc2 (v := 1442695040888963407) hx hb hown (hts _ (wz_in qK_X6_210)) dX6_simulate_60 ?_
        refine lv_ladd hx hb dX6_simulate_63 ?_
        refine p_topl h (fun v64 h => ?_)
        refine lv_lstore (lv' := [(6, .long v64), (0, .ref (gA G (β + 0))), (3, .int x3), (4, .int x4), (5, .int x5), (8, .int x8)]) hx hb dX6_simulate_64 hl (by decide) rfl (fun ls hl => ?_)
        refine lv_aload_n hx hb dX6_simulate_66 rfl (lv_at hl 1 rfl) ?_
        refine r_get (v := .ref (gA G (β + 20))) hx hb hts hinX6 hown hE hw hn 0 (by decide) (congrFun hR.1 _) rfl 2 (by decide) (hts _ (wz_in qF_X6_23)) rfl dX6_simulate_67 ?_
        refine lv_lload hx hb dX6_simulate_70 (lv_at hl 0 rfl) ?_
        refine lv_bipush (v := (nI 33)) hx hb dX6_simulate_72 (by decide) ?_
        refine lv_lushr hx hb dX6_simulate_74 rfl ?_
        refine lv_l2i hx hb dX6_simulate_75 rfl ?_
        obtain ⟨T76, h76, h⟩ := cvs_some h
        refine r_callV (As := [.int (((v64.toUInt64 >>> (((nI 33).toInt64).toUInt64 &&& Int64.toUInt64 63)).toInt64).toInt32)]) (rest := []) (st1 := []) hx hb hml hown hts hE hw hl (mc_sub 20 17 (by decide) (mX4_meetChance l G (by show β + 20 + 17 ≤ _; omega) hR.2.2.2.2.1 h76)) (cwV 1 hts (zV gV_X6_212) rfl rfl rfl kdX4_meetChance ⟨Nat.le_of_ble_eq_true rfl, Nat.le_of_ble_eq_true rfl⟩) (by omega) (congrFun hR.2.2.2.2.1.1 _) rfl rfl rfl rfl (Nat.le_of_ble_eq_true rfl) dX6_simulate_76 ⟨Nat.zero_le _, Nat.zero_le _⟩ rfl (fun H locs hw => ?_)
        generalize wB S 20 17 T76 = S76 at h hw
        refine lv_aload_n hx hb dX6_simulate_79 rfl (lv_at hl 1 rfl) ?_
        refine r_get (v := .ref (gA G (β + 20))) hx hb hts hinX6 hown hE hw hn 0 (by decide) (congrFun hR.1 _) rfl 2 (by decide) (hts _ (wz_in qF_X6_23)) rfl dX6_simulate_80 ?_
        obtain ⟨T83, h83, h⟩ := cvs_some h
        refine r_callV (As := []) (rest := []) (st1 := []) hx hb hml hown hts hE hw hl (mc_sub 20 17 (by decide) (mX4_letHourGoBy l G (by show β + 20 + 17 ≤ _; omega) hR.2.2.2.2.1 h83)) (cwV 0 hts (zV gV_X6_215) rfl rfl rfl kdX4_letHourGoBy ⟨Nat.le_of_ble_eq_true rfl, Nat.le_of_ble_eq_true rfl⟩) (by omega) (congrFun hR.2.2.2.2.1.1 _) rfl rfl rfl rfl (Nat.le_of_ble_eq_true rfl) dX6_simulate_83 ⟨Nat.zero_le _, Nat.zero_le _⟩ rfl (fun H locs hw => ?_)
        generalize wB S76 20 17 T83 = S83 at h hw
        refine p_iinc (w := (nI 1)) 5 (fun v86 => [(8, .int v86), (6, .long v64), (0, .ref (gA G (β + 0))), (3, .int x3), (4, .int x4), (5, .int x5)]) hx hb dX6_simulate_86 hl rfl (by decide) (by decide) h (fun _ => rfl) (fun v86 h ls hl => ?_)
        refine lv_goto (tgt := 48) hx hb dX6_simulate_89 (by decide) ?_
        exact hih48 x3 x4 x5 v64 v86 S83 _ _ _ h hw (lv_sub hl [2, 3, 4, 5, 1, 0] rfl)
  unfold pX6_simulate at h
  refine lv_iload_n hx hb dX6_simulate_0 rfl (lv_at hl 2 rfl) ?_
  refine lv_iconst (v := (nI 1)) hx hb dX6_simulate_1 (by decide) ?_
  refine lv_bipush (v := (nI 99)) hx hb dX6_simulate_2 (by decide) ?_
  rcases bx_some h with ⟨h4, h⟩ | ⟨E4, h4, h⟩
  · refine r_callS (As := [.int a2, .int (nI 1), .int (nI 99)]) (rest := []) (st1 := []) hx hb hml hown hts hE hw hl (mX6_checkRange l G (M := (wB M β 316 S)) h4) (va_cwS 3 hts (zS gS_X6_45) rfl rfl rfl kdX6_checkRange ⟨Nat.le_of_ble_eq_true rfl, Nat.le_of_ble_eq_true rfl⟩) rfl rfl (Nat.le_of_ble_eq_true rfl) dX6_simulate_4 ⟨Nat.zero_le _, Nat.zero_le _⟩ rfl (fun H locs hw => ?_)
    refine lv_aload_n hx hb dX6_simulate_7 rfl (lv_at hl 0 rfl) ?_
    refine r_get (v := .ref (gA G (β + 20))) hx hb hts hinX6 hown hE hw hn 0 (by decide) (congrFun hR.1 _) rfl 2 (by decide) (hts _ (wz_in qF_X6_23)) rfl dX6_simulate_8 ?_
    refine lv_aload_n hx hb dX6_simulate_11 rfl (lv_at hl 0 rfl) ?_
    refine r_get (v := .ref (gA G (β + 3))) hx hb hts hinX6 hown hE hw hn 0 (by decide) (congrFun hR.1 _) rfl 1 (by decide) (hts _ (wz_in qF_X6_19)) rfl dX6_simulate_12 ?_
    obtain ⟨S15, h15, h⟩ := cr1_some h
    refine r_callV (As := [.ref (gA G (β + 3))]) (rest := []) (st1 := []) hx hb hml hown hts hE hw hl (mX4_copyFrom l G (by omega) hR (by decide) (by decide) hR.2.2.2.2.1 hR.2.2.2.1 h15) (cwV 1 hts (zV gV_X6_69) rfl rfl rfl kdX4_copyFrom ⟨Nat.le_of_ble_eq_true rfl, Nat.le_of_ble_eq_true rfl⟩) (by omega) (congrFun hR.2.2.2.2.1.1 _) rfl rfl rfl rfl (Nat.le_of_ble_eq_true rfl) dX6_simulate_15 ⟨Nat.zero_le _, Nat.zero_le _⟩ rfl (fun H locs hw => ?_)
    refine lv_aload_n hx hb dX6_simulate_18 rfl (lv_at hl 0 rfl) ?_
    refine r_get (v := .ref (gA G (β + 20))) hx hb hts hinX6 hown hE hw hn 0 (by decide) (congrFun hR.1 _) rfl 2 (by decide) (hts _ (wz_in qF_X6_23)) rfl dX6_simulate_19 ?_
    refine lv_iconst (v := (nI 2)) hx hb dX6_simulate_22 (by decide) ?_
    obtain ⟨v23, h23, h⟩ := cr1_some h
    refine r_callV (As := [.int (nI 2)]) (rest := []) (st1 := [.int v23]) hx hb hml hown hts hE hw hl (mc_subR 20 17 (by decide) (mX4_howMany l G (by show β + 20 + 17 ≤ _; omega) hR.2.2.2.2.1 h23)) (cwV 1 hts (zV gV_X6_105) rfl rfl rfl kdX4_howMany ⟨Nat.le_of_ble_eq_true rfl, Nat.le_of_ble_eq_true rfl⟩) (by omega) (congrFun hR.2.2.2.2.1.1 _) rfl rfl rfl rfl (Nat.le_of_ble_eq_true rfl) dX6_simulate_23 ⟨Nat.zero_le _, Nat.zero_le _⟩ rfl (fun H locs hw => ?_)
    refine lv_istore (lv' := [(4, .int v23), (0, .ref (gA G (β + 0))), (1, .long a1), (3, .int a2)]) hx hb dX6_simulate_26 hl (by decide) rfl (fun ls hl => ?_)
    refine lv_aload_n hx hb dX6_simulate_28 rfl (lv_at hl 1 rfl) ?_
    refine r_get (v := .ref (gA G (β + 20))) hx hb hts hinX6 hown hE hw hn 0 (by decide) (congrFun hR.1 _) rfl 2 (by decide) (hts _ (wz_in qF_X6_23)) rfl dX6_simulate_29 ?_
    refine r_get (v := .ref (gA G (β + 29))) hx hb hts hinX4 hown hE hw hn 20 (by decide) (congrFun hR.2.2.2.2.1.1 _) rfl 4 (by decide) (hts _ (wz_in qF_X6_78)) rfl dX6_simulate_32 ?_
    refine lv_bipush (v := (nI 6)) hx hb dX6_simulate_35 (by decide) ?_
    obtain ⟨v37, h37, h⟩ := cr1_some h
    refine r_callV (As := [.int (nI 6)]) (rest := []) (st1 := [.int v37]) hx hb hml hown hts hE hw hl (mc_subR 29 2 (by decide) (mX5_sum l G (by show β + 29 + 2 ≤ _; omega) hR.2.2.2.2.1.2.2.2.2.2.1 h37)) (cwV 1 hts (zV gV_X6_109) rfl rfl rfl kdX5_sum ⟨Nat.le_of_ble_eq_true rfl, Nat.le_of_ble_eq_true rfl⟩) (by omega) (congrFun hR.2.2.2.2.1.2.2.2.2.2.1.1 _) rfl rfl rfl rfl (Nat.le_of_ble_eq_true rfl) dX6_simulate_37 ⟨Nat.zero_le _, Nat.zero_le _⟩ rfl (fun H locs hw => ?_)
    refine lv_istore (lv' := [(5, .int v37), (4, .int v23), (0, .ref (gA G (β + 0))), (1, .long a1), (3, .int a2)]) hx hb dX6_simulate_40 hl (by decide) rfl (fun ls hl => ?_)
    refine lv_lload_n hx hb dX6_simulate_42 rfl (lv_at hl 3 rfl) ?_
    refine lv_lstore (lv' := [(6, .long a1), (5, .int v37), (4, .int v23), (0, .ref (gA G (β + 0))), (1, .long a1), (3, .int a2)]) hx hb dX6_simulate_43 hl (by decide) rfl (fun ls hl => ?_)
    refine lv_iconst (v := (nI 0)) hx hb dX6_simulate_45 (by decide) ?_
    refine lv_istore (lv' := [(8, .int (nI 0)), (6, .long a1), (5, .int v37), (4, .int v23), (0, .ref (gA G (β + 0))), (1, .long a1), (3, .int a2)]) hx hb dX6_simulate_46 hl (by decide) rfl (fun ls hl => ?_)
    exact k48 fuel a2 v23 v37 a1 (nI 0) S15 _ _ _ h hw (lv_sub hl [4, 6, 3, 2, 1, 0] rfl)
  · rw [← (Prod.mk.inj (Option.some.inj h)).2, ← Sum.inr.inj (Prod.mk.inj (Option.some.inj h)).1]
    exact x_callS (As := [.int a2, .int (nI 1), .int (nI 99)]) (rest := []) hx hb hml hown hts hE hw hl (xX6_checkRange l hfl G (M := (wB M β 316 S)) h4) (va_cwS 3 hts (zS gS_X6_45) rfl rfl rfl kdX6_checkRange ⟨Nat.le_of_ble_eq_true rfl, Nat.le_of_ble_eq_true rfl⟩) rfl rfl (Nat.le_of_ble_eq_true rfl) dX6_simulate_4 ⟨Nat.le_refl _, Nat.le_refl _⟩ hout hlocks

set_option maxHeartbeats 4000000 in
set_option maxRecDepth 100000 in
theorem mX6_checkSlot (l : Launch) (G : mG) {M : mM} {a1 : Int32} (h : pX6_checkSlot a1 = some none) : MC l G yX6_checkSlot zzX6_checkSlot 1 22 [.int a1] M M none := by
  refine mc_of (cc := cX6_checkSlot) (maxL := 1) (ret := none) (by decide) rfl (Nat.le_of_ble_eq_true rfl) ?_
  intro p e s m args below meth c H ls hx hb hr hts hown hml hlocks hE hw hl
  have hl : lv_has ls 1 [(0, .int a1)] := hl
  unfold pX6_checkSlot at h
  refine lv_iload_n hx hb dX6_checkSlot_0 rfl (lv_at hl 0 rfl) ?_
  refine lv_iconst (v := (nI 0)) hx hb dX6_checkSlot_1 (by decide) ?_
  refine lv_iconst (v := (nI 1)) hx hb dX6_checkSlot_2 (by decide) ?_
  obtain ⟨v3, h3, h⟩ := cr1_some h
  refine r_callS (As := [.int a1, .int (nI 0), .int (nI 1)]) (rest := []) (st1 := [.int v3]) hx hb hml hown hts hE hw hl (mX6_isWithin l G (M := M) h3) (va_cwS 3 hts (zS gS_X6_241) rfl rfl rfl kdX6_isWithin ⟨Nat.le_of_ble_eq_true rfl, Nat.le_of_ble_eq_true rfl⟩) rfl rfl (Nat.le_of_ble_eq_true rfl) dX6_checkSlot_3 ⟨Nat.zero_le _, Nat.zero_le _⟩ rfl (fun H locs hw => ?_)
  refine b_ne (tgt := 19) hx hb dX6_checkSlot_6 (by decide) h (fun h => ?_) (fun h => ?_)
  · cases h
    exact r_vret hx hb hr hlocks hw dX6_checkSlot_19
  · cases h
set_option maxHeartbeats 4000000 in
set_option maxRecDepth 100000 in
theorem xX6_checkSlot (l : Launch) (hfl : l.stackTraces = false) (G : mG) {M : mM} {a1 : Int32} {E : String} (h : pX6_checkSlot a1 = some (some E)) : MX l G yX6_checkSlot zzX6_checkSlot 6 82 [.int a1] M M E := by
  refine mx_of (cc := cX6_checkSlot) (maxL := 1) (ret := none) (by decide) rfl (Nat.le_of_ble_eq_true rfl) ?_
  intro p e s m args below meth c H ls hx hb hr hts hown hml hlocks hout hE hw _ hl
  have hl : lv_has ls 1 [(0, .int a1)] := hl
  unfold pX6_checkSlot at h
  refine lv_iload_n hx hb dX6_checkSlot_0 rfl (lv_at hl 0 rfl) ?_
  refine lv_iconst (v := (nI 0)) hx hb dX6_checkSlot_1 (by decide) ?_
  refine lv_iconst (v := (nI 1)) hx hb dX6_checkSlot_2 (by decide) ?_
  obtain ⟨v3, h3, h⟩ := cr1_some h
  refine r_callS (As := [.int a1, .int (nI 0), .int (nI 1)]) (rest := []) (st1 := [.int v3]) hx hb hml hown hts hE hw hl (mX6_isWithin l G (M := M) h3) (va_cwS 3 hts (zS gS_X6_241) rfl rfl rfl kdX6_isWithin ⟨Nat.le_of_ble_eq_true rfl, Nat.le_of_ble_eq_true rfl⟩) rfl rfl (Nat.le_of_ble_eq_true rfl) dX6_checkSlot_3 ⟨Nat.zero_le _, Nat.zero_le _⟩ rfl (fun H locs hw => ?_)
  refine b_ne (tgt := 19) hx hb dX6_checkSlot_6 (by decide) h (fun h => ?_) (fun h => ?_)
  · cases h
  · cases h
    exact x_throw (B := exB "java/lang/IndexOutOfBoundsException") (names := ["java/lang/RuntimeException", "java/lang/Exception"]) hx hb hfl hml hl hown (by decide +kernel) (by decide +kernel) (hts _ (wz_in qL_X6_234)) (hts _ (wz_in qN_java_lang_IndexOutOfBoundsException)) hE.2.2.2.2.1.2.1 (fun w hw9 => hts w (wz_in (ex238_g w hw9))) ex238_b (vx_c (va_Nw.use rfl hE.2.2.2.2.2.2.1) (vx_c (va_Nw.use rfl hE.2.2.2.2.2.2.2.2.2.1) (vx_c (va_Nw.use rfl hE.2.2.2.2.2.2.2.2.2.2.1) (vx_c (va_Nw.use rfl hE.2.2.2.2.2.2.2.2.2.2.2) vx_n)))) ex238_o hE hw dX6_checkSlot_9 dX6_checkSlot_12 dX6_checkSlot_13 dX6_checkSlot_15 dX6_checkSlot_18 hout (Nat.le_of_ble_eq_true rfl) (Nat.le_of_ble_eq_true rfl) (Nat.le_refl _) (Nat.le_refl _) hlocks

set_option maxHeartbeats 4000000 in
set_option maxRecDepth 100000 in
theorem mX6_save (l : Launch) (G : mG) {β : Nat} {M S S' : mM} {a1 : Int32} {r : Int32} (hn : β + 316 ≤ gN G) (hR : isWR G β) (h : pX6_save a1 S = some (.inl r, S')) : MC l G yX6_save zzX6_save 4 83 [.ref (gA G (β + 0)), .int a1] (wB M β 316 S) (wB M β 316 S') (some (.int r)) := by
  refine mc_of (cc := cX6_save) (maxL := 2) (ret := (some .int)) (by decide) rfl (Nat.le_of_ble_eq_true rfl) ?_
  intro p e s m args below meth c H ls hx hb hr hts hown hml hlocks hE hw hl
  have hl : lv_has ls 2 [(0, .ref (gA G (β + 0))), (1, .int a1)] := hl
  have hinX6 : ∀ w ∈ wsX60, w ∈ zzX6_save := fun w h9 => wz_in (zinX6 w h9)
  unfold pX6_save at h
  refine lv_iload_n hx hb dX6_save_0 rfl (lv_at hl 1 rfl) ?_
  rcases bx_some h with ⟨h1, h⟩ | ⟨E1, h1, h⟩
  · refine r_callS (As := [.int a1]) (rest := []) (st1 := []) hx hb hml hown hts hE hw hl (mX6_checkSlot l G (M := (wB M β 316 S)) h1) (va_cwS 1 hts (zS gS_X6_218) rfl rfl rfl kdX6_checkSlot ⟨Nat.le_of_ble_eq_true rfl, Nat.le_of_ble_eq_true rfl⟩) rfl rfl (Nat.le_of_ble_eq_true rfl) dX6_save_1 ⟨Nat.zero_le _, Nat.zero_le _⟩ rfl (fun H locs hw => ?_)
    refine lv_aload_n hx hb dX6_save_4 rfl (lv_at hl 0 rfl) ?_
    refine r_get (v := .ref (gA G (β + 279))) hx hb hts hinX6 hown hE hw hn 0 (by decide) (congrFun hR.1 _) rfl 4 (by decide) (hts _ (wz_in qF_X6_38)) rfl dX6_save_5 ?_
    refine lv_iload_n hx hb dX6_save_8 rfl (lv_at hl 1 rfl) ?_
    refine lv_aload_n hx hb dX6_save_9 rfl (lv_at hl 0 rfl) ?_
    refine r_get (v := .ref (gA G (β + 3))) hx hb hts hinX6 hown hE hw hn 0 (by decide) (congrFun hR.1 _) rfl 1 (by decide) (hts _ (wz_in qF_X6_19)) rfl dX6_save_10 ?_
    obtain ⟨S13, h13, h⟩ := cr1_some h
    refine r_callV (As := [.int a1, .ref (gA G (β + 3))]) (rest := []) (st1 := []) hx hb hml hown hts hE hw hl (mX3_keep l G (by omega) hR (by decide) hR.2.2.2.2.2.2.2 h13) (cwV 2 hts (zV gV_X6_221) rfl rfl rfl kdX3_keep ⟨Nat.le_of_ble_eq_true rfl, Nat.le_of_ble_eq_true rfl⟩) (by omega) (congrFun hR.2.2.2.2.2.2.2.1 _) rfl rfl rfl rfl (Nat.le_of_ble_eq_true rfl) dX6_save_13 ⟨Nat.zero_le _, Nat.zero_le _⟩ rfl (fun H locs hw => ?_)
    refine lv_aload_n hx hb dX6_save_16 rfl (lv_at hl 0 rfl) ?_
    refine r_get (v := .ref (gA G (β + 3))) hx hb hts hinX6 hown hE hw hn 0 (by decide) (congrFun hR.1 _) rfl 1 (by decide) (hts _ (wz_in qF_X6_19)) rfl dX6_save_17 ?_
    obtain ⟨v20, h20, h⟩ := cr1_some h
    refine r_callV (As := []) (rest := []) (st1 := [.int v20]) hx hb hml hown hts hE hw hl (mc_subR 3 17 (by decide) (mX4_hours l G (by show β + 3 + 17 ≤ _; omega) hR.2.2.2.1 h20)) (cwV 0 hts (zV gV_X6_90) rfl rfl rfl kdX4_hours ⟨Nat.le_of_ble_eq_true rfl, Nat.le_of_ble_eq_true rfl⟩) (by omega) (congrFun hR.2.2.2.1.1 _) rfl rfl rfl rfl (Nat.le_of_ble_eq_true rfl) dX6_save_20 ⟨Nat.zero_le _, Nat.zero_le _⟩ rfl (fun H locs hw => ?_)
    cases h
    exact r_iret hx hb hr hlocks hw dX6_save_23
  · cases h
set_option maxHeartbeats 4000000 in
set_option maxRecDepth 100000 in
theorem xX6_save (l : Launch) (hfl : l.stackTraces = false) (G : mG) {β : Nat} {M S S' : mM} {a1 : Int32} {E : String} (hn : β + 316 ≤ gN G) (hR : isWR G β) (h : pX6_save a1 S = some (.inr E, S')) : MX l G yX6_save zzX6_save 7 102 [.ref (gA G (β + 0)), .int a1] (wB M β 316 S) (wB M β 316 S') E := by
  refine mx_of (cc := cX6_save) (maxL := 2) (ret := (some .int)) (by decide) rfl (Nat.le_of_ble_eq_true rfl) ?_
  intro p e s m args below meth c H ls hx hb hr hts hown hml hlocks hout hE hw _ hl
  have hl : lv_has ls 2 [(0, .ref (gA G (β + 0))), (1, .int a1)] := hl
  have hinX6 : ∀ w ∈ wsX60, w ∈ zzX6_save := fun w h9 => wz_in (zinX6 w h9)
  unfold pX6_save at h
  refine lv_iload_n hx hb dX6_save_0 rfl (lv_at hl 1 rfl) ?_
  rcases bx_some h with ⟨h1, h⟩ | ⟨E1, h1, h⟩
  · refine r_callS (As := [.int a1]) (rest := []) (st1 := []) hx hb hml hown hts hE hw hl (mX6_checkSlot l G (M := (wB M β 316 S)) h1) (va_cwS 1 hts (zS gS_X6_218) rfl rfl rfl kdX6_checkSlot ⟨Nat.le_of_ble_eq_true rfl, Nat.le_of_ble_eq_true rfl⟩) rfl rfl (Nat.le_of_ble_eq_true rfl) dX6_save_1 ⟨Nat.zero_le _, Nat.zero_le _⟩ rfl (fun H locs hw => ?_)
    refine lv_aload_n hx hb dX6_save_4 rfl (lv_at hl 0 rfl) ?_
    refine r_get (v := .ref (gA G (β + 279))) hx hb hts hinX6 hown hE hw hn 0 (by decide) (congrFun hR.1 _) rfl 4 (by decide) (hts _ (wz_in qF_X6_38)) rfl dX6_save_5 ?_
    refine lv_iload_n hx hb dX6_save_8 rfl (lv_at hl 1 rfl) ?_
    refine lv_aload_n hx hb dX6_save_9 rfl (lv_at hl 0 rfl) ?_
    refine r_get (v := .ref (gA G (β + 3))) hx hb hts hinX6 hown hE hw hn 0 (by decide) (congrFun hR.1 _) rfl 1 (by decide) (hts _ (wz_in qF_X6_19)) rfl dX6_save_10 ?_
    obtain ⟨S13, h13, h⟩ := cr1_some h
    refine r_callV (As := [.int a1, .ref (gA G (β + 3))]) (rest := []) (st1 := []) hx hb hml hown hts hE hw hl (mX3_keep l G (by omega) hR (by decide) hR.2.2.2.2.2.2.2 h13) (cwV 2 hts (zV gV_X6_221) rfl rfl rfl kdX3_keep ⟨Nat.le_of_ble_eq_true rfl, Nat.le_of_ble_eq_true rfl⟩) (by omega) (congrFun hR.2.2.2.2.2.2.2.1 _) rfl rfl rfl rfl (Nat.le_of_ble_eq_true rfl) dX6_save_13 ⟨Nat.zero_le _, Nat.zero_le _⟩ rfl (fun H locs hw => ?_)
    refine lv_aload_n hx hb dX6_save_16 rfl (lv_at hl 0 rfl) ?_
    refine r_get (v := .ref (gA G (β + 3))) hx hb hts hinX6 hown hE hw hn 0 (by decide) (congrFun hR.1 _) rfl 1 (by decide) (hts _ (wz_in qF_X6_19)) rfl dX6_save_17 ?_
    obtain ⟨v20, h20, h⟩ := cr1_some h
    refine r_callV (As := []) (rest := []) (st1 := [.int v20]) hx hb hml hown hts hE hw hl (mc_subR 3 17 (by decide) (mX4_hours l G (by show β + 3 + 17 ≤ _; omega) hR.2.2.2.1 h20)) (cwV 0 hts (zV gV_X6_90) rfl rfl rfl kdX4_hours ⟨Nat.le_of_ble_eq_true rfl, Nat.le_of_ble_eq_true rfl⟩) (by omega) (congrFun hR.2.2.2.1.1 _) rfl rfl rfl rfl (Nat.le_of_ble_eq_true rfl) dX6_save_20 ⟨Nat.zero_le _, Nat.zero_le _⟩ rfl (fun H locs hw => ?_)
    cases h
  · rw [← (Prod.mk.inj (Option.some.inj h)).2, ← Sum.inr.inj (Prod.mk.inj (Option.some.inj h)).1]
    exact x_callS (As := [.int a1]) (rest := []) hx hb hml hown hts hE hw hl (xX6_checkSlot l hfl G (M := (wB M β 316 S)) h1) (va_cwS 1 hts (zS gS_X6_218) rfl rfl rfl kdX6_checkSlot ⟨Nat.le_of_ble_eq_true rfl, Nat.le_of_ble_eq_true rfl⟩) rfl rfl (Nat.le_of_ble_eq_true rfl) dX6_save_1 ⟨Nat.le_refl _, Nat.le_refl _⟩ hout hlocks
