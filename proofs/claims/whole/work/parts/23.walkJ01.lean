/-! ===== walks, by program ===== -/
set_option maxHeartbeats 4000000 in
set_option maxRecDepth 100000 in
theorem mX1_readInto (l : Launch) (G : mG) {β : Nat} {M S S' : mM} {r : Int32} (hn : β + 316 ≤ gN G) (hR : isWR G β) (h : pX1_readInto S = some (r, S')) : MC l G yX1_readInto zzX1_readInto 5 121 [.ref (gA G (β + 1)), .ref (gA G (β + 20))] (wB M β 316 S) (wB M β 316 S') (some (.int r)) := by
  refine mc_of (cc := cX1_readInto) (maxL := 4) (ret := (some .int)) (by decide) rfl (Nat.le_of_ble_eq_true rfl) ?_
  intro p e s m args below meth c H ls hx hb hr hts hown hml hlocks hE hw hl
  have hl : lv_has ls 4 [(0, .ref (gA G (β + 1))), (1, .ref (gA G (β + 20)))] := hl
  have hinX1 : ∀ w ∈ wsX10, w ∈ zzX1_readInto := fun w h9 => wz_in (zinX1 w h9)
  have k93 : ∀ (S : mM) (H : Heap) (locs : List Loc) (ls : Array Slot), pX1_readInto_b93  S = some (r, S') → mW G s (wB M β 316 S) H locs → lv_has ls 4 [(0, .ref (gA G (β + 1)))] → W p l e { frames := 5, cells := 0, slots := 0, locals := 121 } s m args below meth c H locs 0 0 (mZ below G (some (.int r)) (wB M β 316 S') args s) (F0 m 93 ls []) := by
    intro S H locs ls h hw hl
    unfold pX1_readInto_b93 at h
    refine lv_aload_n hx hb dX1_readInto_93 rfl (lv_at hl 0 rfl) ?_
    refine p_get hx hb hts hinX1 hown hE hw hn 1 (by decide) (congrFun hR.2.1 _) rfl 3 (by decide) (hts _ (wz_in qF_X1_26)) rfl dX1_readInto_94 h (fun v94 h => ?_)
    refine b_eq (tgt := 107) hx hb dX1_readInto_97 (by decide) h (fun h => ?_) (fun h => ?_)
    · refine lv_bipush (v := (-9)) hx hb dX1_readInto_107 (by decide) ?_
      exact e_iw hx hb hr hlocks hw dX1_readInto_109 h
    · refine lv_aload_n hx hb dX1_readInto_100 rfl (lv_at hl 0 rfl) ?_
      refine p_get hx hb hts hinX1 hown hE hw hn 1 (by decide) (congrFun hR.2.1 _) rfl 2 (by decide) (hts _ (wz_in qF_X1_19)) rfl dX1_readInto_101 h (fun v101 h => ?_)
      refine lv_goto (tgt := 109) hx hb dX1_readInto_104 (by decide) ?_
      exact e_iw hx hb hr hlocks hw dX1_readInto_109 h
  have k57 : ∀ (k : Nat), ∀ (x3 : Int32) (S : mM) (H : Heap) (locs : List Loc) (ls : Array Slot), pX1_readInto_l57  k x3 S = some (r, S') → mW G s (wB M β 316 S) H locs → lv_has ls 4 [(0, .ref (gA G (β + 1))), (1, .ref (gA G (β + 20))), (3, .int x3)] → W p l e { frames := 5, cells := 0, slots := 0, locals := 121 } s m args below meth c H locs 0 0 (mZ below G (some (.int r)) (wB M β 316 S') args s) (F0 m 57 ls []) := by
    intro k
    induction k with
    | zero => intro x3 S H locs ls h; cases h
    | succ k hih57 =>
      intro x3 S H locs ls h hw hl
      obtain ⟨ih57, hk57⟩ : ∃ f, f = pX1_readInto_l57  k := ⟨_, rfl⟩
      replace h : pX1_readInto_lb57  (pX1_readInto_l57  k) x3 S = some (r, S') := h
      rw [← hk57] at h hih57
      clear hk57
      unfold pX1_readInto_lb57 at h
      refine lv_iload_n hx hb dX1_readInto_57 rfl (lv_at hl 2 rfl) ?_
      refine lv_sipush (v := (nI 140)) hx hb dX1_readInto_58 (by decide) ?_
      refine bi_ge (tgt := 93) hx hb dX1_readInto_61 (by decide) h (fun h => ?_) (fun h => ?_)
      · exact k93  S _ _ _ h hw (lv_sub hl [0] rfl)
      · refine lv_aload_n hx hb dX1_readInto_64 rfl (lv_at hl 0 rfl) ?_
        refine p_get hx hb hts hinX1 hown hE hw hn 1 (by decide) (congrFun hR.2.1 _) rfl 2 (by decide) (hts _ (wz_in qF_X1_19)) rfl dX1_readInto_65 h (fun v65 h => ?_)
        refine lv_aload_n hx hb dX1_readInto_68 rfl (lv_at hl 0 rfl) ?_
        refine p_get hx hb hts hinX1 hown hE hw hn 1 (by decide) (congrFun hR.2.1 _) rfl 1 (by decide) (hts _ (wz_in qF_X1_15)) rfl dX1_readInto_69 h (fun v69 h => ?_)
        refine bi_ge (tgt := 93) hx hb dX1_readInto_72 (by decide) h (fun h => ?_) (fun h => ?_)
        · exact k93  S _ _ _ h hw (lv_sub hl [0] rfl)
        · refine lv_aload_n hx hb dX1_readInto_75 rfl (lv_at hl 0 rfl) ?_
          refine p_get hx hb hts hinX1 hown hE hw hn 1 (by decide) (congrFun hR.2.1 _) rfl 3 (by decide) (hts _ (wz_in qF_X1_26)) rfl dX1_readInto_76 h (fun v76 h => ?_)
          refine b_ne (tgt := 93) hx hb dX1_readInto_79 (by decide) h (fun h => ?_) (fun h => ?_)
          · exact k93  S _ _ _ h hw (lv_sub hl [0] rfl)
          · refine lv_aload_n hx hb dX1_readInto_82 rfl (lv_at hl 0 rfl) ?_
            refine lv_aload_n hx hb dX1_readInto_83 rfl (lv_at hl 1 rfl) ?_
            obtain ⟨S84, h84, h⟩ := cr1_some h
            refine r_callV (As := [.ref (gA G (β + 20))]) (rest := []) (st1 := []) hx hb hml hown hts hE hw hl (mX1_readPart l G (by omega) hR h84) (cwV 1 hts (zV gV_X1_40) rfl rfl rfl kdX1_readPart ⟨Nat.le_of_ble_eq_true rfl, Nat.le_of_ble_eq_true rfl⟩) (by omega) (congrFun hR.2.1 _) rfl rfl rfl rfl (Nat.le_of_ble_eq_true rfl) dX1_readInto_84 ⟨Nat.zero_le _, Nat.zero_le _⟩ rfl (fun H locs hw => ?_)
            refine p_iinc (w := (nI 1)) 2 (fun v87 => [(3, .int v87), (0, .ref (gA G (β + 1))), (1, .ref (gA G (β + 20)))]) hx hb dX1_readInto_87 hl rfl (by decide) (by decide) h (fun _ => rfl) (fun v87 h ls hl => ?_)
            refine lv_goto (tgt := 57) hx hb dX1_readInto_90 (by decide) ?_
            exact hih57 v87 S84 _ _ _ h hw (lv_sub hl [1, 2, 0] rfl)
  have k40 : ∀ (S : mM) (H : Heap) (locs : List Loc) (ls : Array Slot), pX1_readInto_b40  S = some (r, S') → mW G s (wB M β 316 S) H locs → lv_has ls 4 [(0, .ref (gA G (β + 1))), (1, .ref (gA G (β + 20)))] → W p l e { frames := 5, cells := 0, slots := 0, locals := 121 } s m args below meth c H locs 0 0 (mZ below G (some (.int r)) (wB M β 316 S') args s) (F0 m 40 ls []) := by
    intro S H locs ls h hw hl
    unfold pX1_readInto_b40 at h
    refine lv_aload_n hx hb dX1_readInto_40 rfl (lv_at hl 0 rfl) ?_
    refine lv_iconst (v := (nI 2)) hx hb dX1_readInto_41 (by decide) ?_
    refine lv_bipush (v := (nI 10)) hx hb dX1_readInto_42 (by decide) ?_
    refine lv_bipush (v := (nI 60)) hx hb dX1_readInto_44 (by decide) ?_
    obtain ⟨v46, S46, h46, h⟩ := cw2_some h
    refine r_callV (As := [.int (nI 2), .int (nI 10), .int (nI 60)]) (rest := []) (st1 := [.int v46]) hx hb hml hown hts hE hw hl (mX1_number l G (by omega) hR h46) (cwV 3 hts (zV gV_X1_30) rfl rfl rfl kdX1_number ⟨Nat.le_of_ble_eq_true rfl, Nat.le_of_ble_eq_true rfl⟩) (by omega) (congrFun hR.2.1 _) rfl rfl rfl rfl (Nat.le_of_ble_eq_true rfl) dX1_readInto_46 ⟨Nat.zero_le _, Nat.zero_le _⟩ rfl (fun H locs hw => ?_)
    refine lv_istore_n (lv' := [(2, .int v46), (0, .ref (gA G (β + 1))), (1, .ref (gA G (β + 20)))]) hx hb dX1_readInto_49 rfl hl (by decide) rfl (fun ls hl => ?_)
    refine lv_aload_n hx hb dX1_readInto_50 rfl (lv_at hl 2 rfl) ?_
    refine lv_iload_n hx hb dX1_readInto_51 rfl (lv_at hl 0 rfl) ?_
    obtain ⟨T52, h52, h⟩ := cvs_some h
    refine r_callV (As := [.int v46]) (rest := []) (st1 := []) hx hb hml hown hts hE hw hl (mc_sub 20 17 (by decide) (mX4_begin l G (by show β + 20 + 17 ≤ _; omega) hR.2.2.2.2.1 h52)) (cwV 1 hts (zV gV_X1_34) rfl rfl rfl kdX4_begin ⟨Nat.le_of_ble_eq_true rfl, Nat.le_of_ble_eq_true rfl⟩) (by omega) (congrFun hR.2.2.2.2.1.1 _) rfl rfl rfl rfl (Nat.le_of_ble_eq_true rfl) dX1_readInto_52 ⟨Nat.zero_le _, Nat.zero_le _⟩ rfl (fun H locs hw => ?_)
    generalize wB S46 20 17 T52 = S52 at h hw
    refine lv_iconst (v := (nI 0)) hx hb dX1_readInto_55 (by decide) ?_
    refine lv_istore_n (lv' := [(3, .int (nI 0)), (2, .int v46), (0, .ref (gA G (β + 1))), (1, .ref (gA G (β + 20)))]) hx hb dX1_readInto_56 rfl hl (by decide) rfl (fun ls hl => ?_)
    exact k57 fuel (nI 0) S52 _ _ _ h hw (lv_sub hl [2, 3, 0] rfl)
  have k20 : ∀ (t1 : Int32) (S : mM) (H : Heap) (locs : List Loc) (ls : Array Slot), pX1_readInto_b20  t1 S = some (r, S') → mW G s (wB M β 316 S) H locs → lv_has ls 4 [(0, .ref (gA G (β + 1))), (1, .ref (gA G (β + 20)))] → W p l e { frames := 5, cells := 0, slots := 0, locals := 121 } s m args below meth c H locs 0 0 (mZ below G (some (.int r)) (wB M β 316 S') args s) (F0 m 20 ls [.int t1, .ref (gA G (β + 1))]) := by
    intro t1 S H locs ls h hw hl
    unfold pX1_readInto_b20 at h
    refine p_putz hx hb hts hinX1 tyX1 tyX1_ok nmX1 hown hE hw hn 1 (by decide) (congrFun hR.2.1 _) rfl 3 (by decide) (hts _ (wz_in qF_X1_26)) rfl (by decide +kernel) (Nat.le_of_ble_eq_true rfl) (congrFun hR.2.1 _) dX1_readInto_20 h (fun S20 h H locs hw => ?_)
    refine lv_aload_n hx hb dX1_readInto_23 rfl (lv_at hl 0 rfl) ?_
    refine p_get hx hb hts hinX1 hown hE hw hn 1 (by decide) (congrFun hR.2.1 _) rfl 3 (by decide) (hts _ (wz_in qF_X1_26)) rfl dX1_readInto_24 h (fun v24 h => ?_)
    refine b_ne (tgt := 40) hx hb dX1_readInto_27 (by decide) h (fun h => ?_) (fun h => ?_)
    · exact k40  S20 _ _ _ h hw (lv_sub hl [0, 1] rfl)
    · refine lv_aload_n hx hb dX1_readInto_30 rfl (lv_at hl 0 rfl) ?_
      refine lv_dup hx hb dX1_readInto_31 rfl ?_
      refine p_get hx hb hts hinX1 hown hE hw hn 1 (by decide) (congrFun hR.2.1 _) rfl 2 (by decide) (hts _ (wz_in qF_X1_19)) rfl dX1_readInto_32 h (fun v32 h => ?_)
      refine lv_iconst (v := (nI 1)) hx hb dX1_readInto_35 (by decide) ?_
      refine lv_iadd hx hb dX1_readInto_36 ?_
      refine p_put hx hb hts hinX1 tyX1 tyX1_ok nmX1 hown hE hw hn 1 (by decide) (congrFun hR.2.1 _) rfl 2 (by decide) (hts _ (wz_in qF_X1_19)) rfl (by decide +kernel) (Nat.le_of_ble_eq_true rfl) (congrFun hR.2.1 _) dX1_readInto_37 h (fun S37 h H locs hw => ?_)
      exact k40  S37 _ _ _ h hw (lv_sub hl [0, 1] rfl)
  unfold pX1_readInto at h
  refine lv_aload_n hx hb dX1_readInto_0 rfl (lv_at hl 0 rfl) ?_
  refine lv_iconst (v := (nI 0)) hx hb dX1_readInto_1 (by decide) ?_
  refine p_put hx hb hts hinX1 tyX1 tyX1_ok nmX1 hown hE hw hn 1 (by decide) (congrFun hR.2.1 _) rfl 2 (by decide) (hts _ (wz_in qF_X1_19)) rfl (by decide +kernel) (Nat.le_of_ble_eq_true rfl) (congrFun hR.2.1 _) dX1_readInto_2 h (fun S2 h H locs hw => ?_)
  refine lv_aload_n hx hb dX1_readInto_5 rfl (lv_at hl 0 rfl) ?_
  refine lv_aload_n hx hb dX1_readInto_6 rfl (lv_at hl 0 rfl) ?_
  obtain ⟨v7, h7, h⟩ := cr1_some h
  refine r_callV (As := []) (rest := [.ref (gA G (β + 1))]) (st1 := [.int v7, .ref (gA G (β + 1))]) hx hb hml hown hts hE hw hl (mX1_signAt l G (by omega) hR h7) (cwV 0 hts (zV gV_X1_22) rfl rfl rfl kdX1_signAt ⟨Nat.le_of_ble_eq_true rfl, Nat.le_of_ble_eq_true rfl⟩) (by omega) (congrFun hR.2.1 _) rfl rfl rfl rfl (Nat.le_of_ble_eq_true rfl) dX1_readInto_7 ⟨Nat.zero_le _, Nat.zero_le _⟩ rfl (fun H locs hw => ?_)
  refine lv_bipush (v := (nI 87)) hx hb dX1_readInto_10 (by decide) ?_
  refine bi_eq (tgt := 19) hx hb dX1_readInto_12 (by decide) h (fun h => ?_) (fun h => ?_)
  · refine lv_iconst (v := (nI 0)) hx hb dX1_readInto_19 (by decide) ?_
    exact k20  (nI 0) S2 _ _ _ h hw (lv_sub hl [0, 1] rfl)
  · refine lv_iconst (v := (nI 1)) hx hb dX1_readInto_15 (by decide) ?_
    refine lv_goto (tgt := 20) hx hb dX1_readInto_16 (by decide) ?_
    exact k20  (nI 1) S2 _ _ _ h hw (lv_sub hl [0, 1] rfl)

set_option maxHeartbeats 4000000 in
set_option maxRecDepth 100000 in
theorem mX3_holds (l : Launch) (G : mG) {β : Nat} {M S : mM} {b1 nm : Nat} {a1 : Int32} {r : Int32} (hn : β + 316 ≤ gN G) (hR : isWR G β) (h1 : b1 + (3 + 17 * nm) ≤ 316) (hs1 : isShelf G (β + b1) nm) (h : pX3_holds b1 nm a1 S = some r) : MC l G yX3_holds zzX3_holds 0 0 [.ref (gA G (β + b1)), .int a1] (wB M β 316 S) (wB M β 316 S) (some (.int r)) := by
  refine mc_of (cc := cX3_holds) (maxL := 2) (ret := (some .boolean)) (by decide) rfl (Nat.le_of_ble_eq_true rfl) ?_
  intro p e s m args below meth c H ls hx hb hr hts hown hml hlocks hE hw hl
  have hl : lv_has ls 2 [(0, .ref (gA G (β + b1))), (1, .int a1)] := hl
  have hinX3 : ∀ w ∈ wsX30, w ∈ zzX3_holds := fun w h9 => wz_in (zinX3 w h9)
  unfold pX3_holds at h
  refine lv_iload_n hx hb dX3_holds_0 rfl (lv_at hl 1 rfl) ?_
  refine b_lt (tgt := 26) hx hb dX3_holds_1 (by decide) h (fun h => ?_) (fun h => ?_)
  · refine lv_iconst (v := (nI 0)) hx hb dX3_holds_26 (by decide) ?_
    exact e_z hx hb hr hlocks hw dX3_holds_27 h
  · refine lv_iload_n hx hb dX3_holds_4 rfl (lv_at hl 1 rfl) ?_
    refine lv_aload_n hx hb dX3_holds_5 rfl (lv_at hl 0 rfl) ?_
    refine r_get (v := .ref (gA G (β + (b1 + 2)))) hx hb hts hinX3 hown hE hw hn b1 (by omega) (congrFun hs1.1 _) rfl 1 (by decide) (hts _ (wz_in qF_X3_21)) rfl dX3_holds_6 ?_
    refine r_alen (v := nI nm) hx hb hE hw hn (b1 + 2) 1 (by omega) (congrFun hs1.2.2.1 _) rfl rfl dX3_holds_9 ?_
    refine bi_ge (tgt := 26) hx hb dX3_holds_10 (by decide) h (fun h => ?_) (fun h => ?_)
    · refine lv_iconst (v := (nI 0)) hx hb dX3_holds_26 (by decide) ?_
      exact e_z hx hb hr hlocks hw dX3_holds_27 h
    · refine lv_aload_n hx hb dX3_holds_13 rfl (lv_at hl 0 rfl) ?_
      refine r_get (v := .ref (gA G (β + (b1 + 2)))) hx hb hts hinX3 hown hE hw hn b1 (by omega) (congrFun hs1.1 _) rfl 1 (by decide) (hts _ (wz_in qF_X3_21)) rfl dX3_holds_14 ?_
      refine lv_iload_n hx hb dX3_holds_17 rfl (lv_at hl 1 rfl) ?_
      refine p_zald hx hb hE hw hn (b1 + 2) (by omega) (congrFun hs1.2.2.1) dX3_holds_18 h (fun v18 h => ?_)
      refine b_eq (tgt := 26) hx hb dX3_holds_19 (by decide) h (fun h => ?_) (fun h => ?_)
      · refine lv_iconst (v := (nI 0)) hx hb dX3_holds_26 (by decide) ?_
        exact e_z hx hb hr hlocks hw dX3_holds_27 h
      · refine lv_iconst (v := (nI 1)) hx hb dX3_holds_22 (by decide) ?_
        refine lv_goto (tgt := 27) hx hb dX3_holds_23 (by decide) ?_
        exact e_z hx hb hr hlocks hw dX3_holds_27 h

set_option maxHeartbeats 4000000 in
set_option maxRecDepth 100000 in
theorem mX3_emptyOut (l : Launch) (G : mG) {β : Nat} {M S S' : mM} {b1 nm : Nat} (hn : β + 316 ≤ gN G) (hR : isWR G β) (h1 : b1 + (3 + 17 * nm) ≤ 316) (hs1 : isShelf G (β + b1) nm) (h : pX3_emptyOut b1 nm S = some S') : MC l G yX3_emptyOut zzX3_emptyOut 0 0 [.ref (gA G (β + b1))] (wB M β 316 S) (wB M β 316 S') none := by
  refine mc_of (cc := cX3_emptyOut) (maxL := 2) (ret := none) (by decide) rfl (Nat.le_of_ble_eq_true rfl) ?_
  intro p e s m args below meth c H ls hx hb hr hts hown hml hlocks hE hw hl
  have hl : lv_has ls 2 [(0, .ref (gA G (β + b1)))] := hl
  have hinX3 : ∀ w ∈ wsX30, w ∈ zzX3_emptyOut := fun w h9 => wz_in (zinX3 w h9)
  have k2 : ∀ (k : Nat), ∀ (x1 : Int32) (S : mM) (H : Heap) (locs : List Loc) (ls : Array Slot), pX3_emptyOut_l2 b1 nm k x1 S = some S' → mW G s (wB M β 316 S) H locs → lv_has ls 2 [(0, .ref (gA G (β + b1))), (1, .int x1)] → W p l e { frames := 0, cells := 0, slots := 0, locals := 0 } s m args below meth c H locs 0 0 (mZ below G none (wB M β 316 S') args s) (F0 m 2 ls []) := by
    intro k
    induction k with
    | zero => intro x1 S H locs ls h; cases h
    | succ k hih2 =>
      intro x1 S H locs ls h hw hl
      obtain ⟨ih2, hk2⟩ : ∃ f, f = pX3_emptyOut_l2 b1 nm k := ⟨_, rfl⟩
      replace h : pX3_emptyOut_lb2 b1 nm (pX3_emptyOut_l2 b1 nm k) x1 S = some S' := h
      rw [← hk2] at h hih2
      clear hk2
      unfold pX3_emptyOut_lb2 at h
      refine lv_iload_n hx hb dX3_emptyOut_2 rfl (lv_at hl 1 rfl) ?_
      refine lv_aload_n hx hb dX3_emptyOut_3 rfl (lv_at hl 0 rfl) ?_
      refine r_get (v := .ref (gA G (β + (b1 + 2)))) hx hb hts hinX3 hown hE hw hn b1 (by omega) (congrFun hs1.1 _) rfl 1 (by decide) (hts _ (wz_in qF_X3_21)) rfl dX3_emptyOut_4 ?_
      refine r_alen (v := nI nm) hx hb hE hw hn (b1 + 2) 1 (by omega) (congrFun hs1.2.2.1 _) rfl rfl dX3_emptyOut_7 ?_
      refine bi_ge (tgt := 24) hx hb dX3_emptyOut_8 (by decide) h (fun h => ?_) (fun h => ?_)
      · exact e_vw hx hb hr hlocks hw dX3_emptyOut_24 h
      · refine lv_aload_n hx hb dX3_emptyOut_11 rfl (lv_at hl 0 rfl) ?_
        refine r_get (v := .ref (gA G (β + (b1 + 2)))) hx hb hts hinX3 hown hE hw hn b1 (by omega) (congrFun hs1.1 _) rfl 1 (by decide) (hts _ (wz_in qF_X3_21)) rfl dX3_emptyOut_12 ?_
        refine lv_iload_n hx hb dX3_emptyOut_15 rfl (lv_at hl 1 rfl) ?_
        refine lv_iconst (v := (nI 0)) hx hb dX3_emptyOut_16 (by decide) ?_
        refine p_zast hx hb hE hw hn (b1 + 2) (by omega) (congrFun hs1.2.2.1) dX3_emptyOut_17 h (fun S17 h H locs hw => ?_)
        refine p_iinc (w := (nI 1)) 1 (fun v18 => [(1, .int v18), (0, .ref (gA G (β + b1)))]) hx hb dX3_emptyOut_18 hl rfl (by decide) (by decide) h (fun _ => rfl) (fun v18 h ls hl => ?_)
        refine lv_goto (tgt := 2) hx hb dX3_emptyOut_21 (by decide) ?_
        exact hih2 v18 S17 _ _ _ h hw (lv_sub hl [1, 0] rfl)
  unfold pX3_emptyOut at h
  refine lv_iconst (v := (nI 0)) hx hb dX3_emptyOut_0 (by decide) ?_
  refine lv_istore_n (lv' := [(1, .int (nI 0)), (0, .ref (gA G (β + b1)))]) hx hb dX3_emptyOut_1 rfl hl (by decide) rfl (fun ls hl => ?_)
  exact k2 fuel (nI 0) S _ _ _ h hw (lv_sub hl [1, 0] rfl)
