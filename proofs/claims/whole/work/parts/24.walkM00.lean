/-! ===== walks, by program ===== -/
set_option maxHeartbeats 4000000 in
set_option maxRecDepth 100000 in
theorem mX7_thrown (l : Launch) (G : mG) {β : Nat} {M S : mM} {r : Int32} (hn : β + 8 ≤ gN G) (hR : isMod G β) (h : pX7_thrown S = some r) : MC l G yX7_thrown zzX7_thrown 0 0 [.ref (gA G (β + 0))] (wB M β 8 S) (wB M β 8 S) (some (.int r)) := by
  refine mc_of (cc := cX7_thrown) (maxL := 1) (ret := (some .int)) (by decide) rfl (Nat.le_of_ble_eq_true rfl) ?_
  intro p e s m args below meth c H ls hx hb hr hts hown hml hlocks hE hw hl
  have hl : lv_has ls 1 [(0, .ref (gA G (β + 0)))] := hl
  have hinX7 : ∀ w ∈ wsX70, w ∈ zzX7_thrown := fun w h9 => wz_in (zinX7 w h9)
  unfold pX7_thrown at h
  refine lv_aload_n hx hb dX7_thrown_0 rfl (lv_at hl 0 rfl) ?_
  refine p_get hx hb hts hinX7 hown hE hw hn 0 (by decide) (congrFun hR.1 _) rfl 0 (by decide) (hts _ (wz_in qF_X7_39)) rfl dX7_thrown_1 h (fun v1 h => ?_)
  exact e_i hx hb hr hlocks hw dX7_thrown_4 h

set_option maxHeartbeats 4000000 in
set_option maxRecDepth 100000 in
theorem mX7_refused (l : Launch) (G : mG) {β : Nat} {M S S' : mM} {a1 : Int32} {r : Int32} (hn : β + 8 ≤ gN G) (hR : isMod G β) (h : pX7_refused a1 S = some (r, S')) : MC l G yX7_refused zzX7_refused 0 0 [.ref (gA G (β + 0)), .int a1] (wB M β 8 S) (wB M β 8 S') (some (.int r)) := by
  refine mc_of (cc := cX7_refused) (maxL := 2) (ret := (some .boolean)) (by decide) rfl (Nat.le_of_ble_eq_true rfl) ?_
  intro p e s m args below meth c H ls hx hb hr hts hown hml hlocks hE hw hl
  have hl : lv_has ls 2 [(0, .ref (gA G (β + 0))), (1, .int a1)] := hl
  have hinX7 : ∀ w ∈ wsX70, w ∈ zzX7_refused := fun w h9 => wz_in (zinX7 w h9)
  unfold pX7_refused at h
  refine lv_aload_n hx hb dX7_refused_0 rfl (lv_at hl 0 rfl) ?_
  refine lv_iload_n hx hb dX7_refused_1 rfl (lv_at hl 1 rfl) ?_
  refine p_put hx hb hts hinX7 tyX7 tyX7_ok nmX7 hown hE hw hn 0 (by decide) (congrFun hR.1 _) rfl 0 (by decide) (hts _ (wz_in qF_X7_39)) rfl (by decide +kernel) (Nat.le_of_ble_eq_true rfl) (congrFun hR.1 _) dX7_refused_2 h (fun S2 h H locs hw => ?_)
  refine lv_iload_n hx hb dX7_refused_5 rfl (lv_at hl 1 rfl) ?_
  refine b_le (tgt := 13) hx hb dX7_refused_6 (by decide) h (fun h => ?_) (fun h => ?_)
  · refine lv_iconst (v := (nI 0)) hx hb dX7_refused_13 (by decide) ?_
    exact e_zw hx hb hr hlocks hw dX7_refused_14 h
  · refine lv_iconst (v := (nI 1)) hx hb dX7_refused_9 (by decide) ?_
    refine lv_goto (tgt := 14) hx hb dX7_refused_10 (by decide) ?_
    exact e_zw hx hb hr hlocks hw dX7_refused_14 h

set_option maxHeartbeats 4000000 in
set_option maxRecDepth 100000 in
theorem mX7_in (l : Launch) (G : mG) {M : mM} {a1 : Int64} {a2 : Int64} {a3 : Int64} {r : Int32} (h : pX7_in a1 a2 a3 = some r) : MC l G yX7_in zzX7_in 0 0 [.long a1, .long a2, .long a3] M M (some (.int r)) := by
  refine mc_of (cc := cX7_in) (maxL := 6) (ret := (some .boolean)) (by decide) rfl (Nat.le_of_ble_eq_true rfl) ?_
  intro p e s m args below meth c H ls hx hb hr hts hown hml hlocks hE hw hl
  have hl : lv_has ls 6 [(0, .long a1), (2, .long a2), (4, .long a3)] := hl
  unfold pX7_in at h
  refine lv_lload_n hx hb dX7_in_0 rfl (lv_at hl 0 rfl) ?_
  refine lv_lload_n hx hb dX7_in_1 rfl (lv_at hl 1 rfl) ?_
  refine W.lcmp hx hb dX7_in_2 ?_
  refine b_lt (tgt := 17) hx hb dX7_in_3 (by decide) h (fun h => ?_) (fun h => ?_)
  · refine lv_iconst (v := (nI 0)) hx hb dX7_in_17 (by decide) ?_
    exact e_z hx hb hr hlocks hw dX7_in_18 h
  · refine lv_lload_n hx hb dX7_in_6 rfl (lv_at hl 0 rfl) ?_
    refine lv_lload hx hb dX7_in_7 (lv_at hl 2 rfl) ?_
    refine W.lcmp hx hb dX7_in_9 ?_
    refine b_gt (tgt := 17) hx hb dX7_in_10 (by decide) h (fun h => ?_) (fun h => ?_)
    · refine lv_iconst (v := (nI 0)) hx hb dX7_in_17 (by decide) ?_
      exact e_z hx hb hr hlocks hw dX7_in_18 h
    · refine lv_iconst (v := (nI 1)) hx hb dX7_in_13 (by decide) ?_
      refine lv_goto (tgt := 18) hx hb dX7_in_14 (by decide) ?_
      exact e_z hx hb hr hlocks hw dX7_in_18 h

set_option maxHeartbeats 4000000 in
set_option maxRecDepth 100000 in
theorem mX7_copy (l : Launch) (G : mG) {β : Nat} {M S S' : mM} {b1 n1 b2 n2 : Nat} {a2 : Int32} {a4 : Int32} {a5 : Int32} (hn : β + 8 ≤ gN G) (hR : isMod G β) (h1 : b1 + 1 ≤ 8) (h2 : b2 + 1 ≤ 8) (hs1 : gK G (β + b1) = aI G n1) (hs2 : gK G (β + b2) = aI G n2) (h : pX7_copy b1 n1 b2 n2 a2 a4 a5 S = some S') : MC l G yX7_copy zzX7_copy 0 0 [.ref (gA G (β + b1)), .int a2, .ref (gA G (β + b2)), .int a4, .int a5] (wB M β 8 S) (wB M β 8 S') none := by
  refine mc_of (cc := cX7_copy) (maxL := 6) (ret := none) (by decide) rfl (Nat.le_of_ble_eq_true rfl) ?_
  intro p e s m args below meth c H ls hx hb hr hts hown hml hlocks hE hw hl
  have hl : lv_has ls 6 [(0, .ref (gA G (β + b1))), (1, .int a2), (2, .ref (gA G (β + b2))), (3, .int a4), (4, .int a5)] := hl
  have k3 : ∀ (k : Nat), ∀ (x1 : Int32) (x3 : Int32) (x4 : Int32) (x5 : Int32) (S : mM) (H : Heap) (locs : List Loc) (ls : Array Slot), pX7_copy_l3 b1 n1 b2 n2 k x1 x3 x4 x5 S = some S' → mW G s (wB M β 8 S) H locs → lv_has ls 6 [(0, .ref (gA G (β + b1))), (1, .int x1), (2, .ref (gA G (β + b2))), (3, .int x3), (4, .int x4), (5, .int x5)] → W p l e { frames := 0, cells := 0, slots := 0, locals := 0 } s m args below meth c H locs 0 0 (mZ below G none (wB M β 8 S') args s) (F0 m 3 ls []) := by
    intro k
    induction k with
    | zero => intro x1 x3 x4 x5 S H locs ls h; cases h
    | succ k hih3 =>
      intro x1 x3 x4 x5 S H locs ls h hw hl
      obtain ⟨ih3, hk3⟩ : ∃ f, f = pX7_copy_l3 b1 n1 b2 n2 k := ⟨_, rfl⟩
      replace h : pX7_copy_lb3 b1 n1 b2 n2 (pX7_copy_l3 b1 n1 b2 n2 k) x1 x3 x4 x5 S = some S' := h
      rw [← hk3] at h hih3
      clear hk3
      unfold pX7_copy_lb3 at h
      refine lv_iload hx hb dX7_copy_3 (lv_at hl 5 rfl) ?_
      refine lv_iload hx hb dX7_copy_5 (lv_at hl 4 rfl) ?_
      refine bi_ge (tgt := 28) hx hb dX7_copy_7 (by decide) h (fun h => ?_) (fun h => ?_)
      · exact e_vw hx hb hr hlocks hw dX7_copy_28 h
      · refine lv_aload_n hx hb dX7_copy_10 rfl (lv_at hl 2 rfl) ?_
        refine lv_iload_n hx hb dX7_copy_11 rfl (lv_at hl 3 rfl) ?_
        refine lv_iload hx hb dX7_copy_12 (lv_at hl 5 rfl) ?_
        refine lv_iadd hx hb dX7_copy_14 ?_
        refine lv_aload_n hx hb dX7_copy_15 rfl (lv_at hl 0 rfl) ?_
        refine lv_iload_n hx hb dX7_copy_16 rfl (lv_at hl 1 rfl) ?_
        refine lv_iload hx hb dX7_copy_17 (lv_at hl 5 rfl) ?_
        refine lv_iadd hx hb dX7_copy_19 ?_
        refine p_iald hx hb hE hw hn b1 (by omega) (congrFun hs1) dX7_copy_20 h (fun v20 h => ?_)
        refine p_iast hx hb hE hw hn b2 (by omega) (congrFun hs2) dX7_copy_21 h (fun S21 h H locs hw => ?_)
        refine p_iinc (w := (nI 1)) 5 (fun v22 => [(5, .int v22), (0, .ref (gA G (β + b1))), (1, .int x1), (2, .ref (gA G (β + b2))), (3, .int x3), (4, .int x4)]) hx hb dX7_copy_22 hl rfl (by decide) (by decide) h (fun _ => rfl) (fun v22 h ls hl => ?_)
        refine lv_goto (tgt := 3) hx hb dX7_copy_25 (by decide) ?_
        exact hih3 x1 x3 x4 v22 S21 _ _ _ h hw (lv_sub hl [1, 2, 3, 4, 5, 0] rfl)
  unfold pX7_copy at h
  refine lv_iconst (v := (nI 0)) hx hb dX7_copy_0 (by decide) ?_
  refine lv_istore (lv' := [(5, .int (nI 0)), (0, .ref (gA G (β + b1))), (1, .int a2), (2, .ref (gA G (β + b2))), (3, .int a4), (4, .int a5)]) hx hb dX7_copy_1 hl (by decide) rfl (fun ls hl => ?_)
  exact k3 fuel a2 a4 a5 (nI 0) S _ _ _ h hw (lv_sub hl [1, 2, 3, 4, 5, 0] rfl)

set_option maxHeartbeats 4000000 in
set_option maxRecDepth 100000 in
theorem mX7_tenTo (l : Launch) (G : mG) {M : mM} {a1 : Int32} {r : Int64} (h : pX7_tenTo a1 = some r) : MC l G yX7_tenTo zzX7_tenTo 0 0 [.int a1] M M (some (.long r)) := by
  refine mc_of (cc := cX7_tenTo) (maxL := 4) (ret := (some .long)) (by decide) rfl (Nat.le_of_ble_eq_true rfl) ?_
  intro p e s m args below meth c H ls hx hb hr hts hown hml hlocks hE hw hl
  have hl : lv_has ls 4 [(0, .int a1)] := hl
  have k4 : ∀ (k : Nat), ∀ (x0 : Int32) (x1 : Int64) (x3 : Int32) (H : Heap) (locs : List Loc) (ls : Array Slot), pX7_tenTo_l4  k x0 x1 x3 = some r → mW G s M H locs → lv_has ls 4 [(0, .int x0), (1, .long x1), (3, .int x3)] → W p l e { frames := 0, cells := 0, slots := 0, locals := 0 } s m args below meth c H locs 0 0 (mZ below G (some (.long r)) M args s) (F0 m 4 ls []) := by
    intro k
    induction k with
    | zero => intro x0 x1 x3 H locs ls h; cases h
    | succ k hih4 =>
      intro x0 x1 x3 H locs ls h hw hl
      obtain ⟨ih4, hk4⟩ : ∃ f, f = pX7_tenTo_l4  k := ⟨_, rfl⟩
      replace h : pX7_tenTo_lb4  (pX7_tenTo_l4  k) x0 x1 x3 = some r := h
      rw [← hk4] at h hih4
      clear hk4
      unfold pX7_tenTo_lb4 at h
      refine lv_iload_n hx hb dX7_tenTo_4 rfl (lv_at hl 2 rfl) ?_
      refine lv_iload_n hx hb dX7_tenTo_5 rfl (lv_at hl 0 rfl) ?_
      refine bi_ge (tgt := 21) hx hb dX7_tenTo_6 (by decide) h (fun h => ?_) (fun h => ?_)
      · refine lv_lload_n hx hb dX7_tenTo_21 rfl (lv_at hl 1 rfl) ?_
        exact e_l hx hb hr hlocks hw dX7_tenTo_22 h
      · refine lv_lload_n hx hb dX7_tenTo_9 rfl (lv_at hl 1 rfl) ?_
        refine lv_ldc2 (v := (lN 10)) hx hb hown (hts _ (wz_in qK_X7_42)) dX7_tenTo_10 ?_
        refine lv_lmul hx hb dX7_tenTo_13 ?_
        refine p_topl h (fun v14 h => ?_)
        refine lv_lstore_n (lv' := [(1, .long v14), (0, .int x0), (3, .int x3)]) hx hb dX7_tenTo_14 rfl hl (by decide) rfl (fun ls hl => ?_)
        refine p_iinc (w := (nI 1)) 2 (fun v15 => [(3, .int v15), (1, .long v14), (0, .int x0)]) hx hb dX7_tenTo_15 hl rfl (by decide) (by decide) h (fun _ => rfl) (fun v15 h ls hl => ?_)
        refine lv_goto (tgt := 4) hx hb dX7_tenTo_18 (by decide) ?_
        exact hih4 x0 v14 v15 _ _ _ h hw (lv_sub hl [2, 1, 0] rfl)
  unfold pX7_tenTo at h
  refine lv_lconst (v := (lN 1)) hx hb dX7_tenTo_0 (by decide) ?_
  refine lv_lstore_n (lv' := [(1, .long (lN 1)), (0, .int a1)]) hx hb dX7_tenTo_1 rfl hl (by decide) rfl (fun ls hl => ?_)
  refine lv_iconst (v := (nI 0)) hx hb dX7_tenTo_2 (by decide) ?_
  refine lv_istore_n (lv' := [(3, .int (nI 0)), (1, .long (lN 1)), (0, .int a1)]) hx hb dX7_tenTo_3 rfl hl (by decide) rfl (fun ls hl => ?_)
  exact k4 fuel a1 (lN 1) (nI 0) _ _ _ h hw (lv_sub hl [2, 1, 0] rfl)

set_option maxHeartbeats 4000000 in
set_option maxRecDepth 100000 in
theorem mX7_remember (l : Launch) (G : mG) {β : Nat} {M S S' : mM} (hn : β + 8 ≤ gN G) (hR : isMod G β) (h : pX7_remember S = some S') : MC l G yX7_remember zzX7_remember 1 25 [.ref (gA G (β + 0))] (wB M β 8 S) (wB M β 8 S') none := by
  refine mc_of (cc := cX7_remember) (maxL := 1) (ret := none) (by decide) rfl (Nat.le_of_ble_eq_true rfl) ?_
  intro p e s m args below meth c H ls hx hb hr hts hown hml hlocks hE hw hl
  have hl : lv_has ls 1 [(0, .ref (gA G (β + 0)))] := hl
  have hinX7 : ∀ w ∈ wsX70, w ∈ zzX7_remember := fun w h9 => wz_in (zinX7 w h9)
  have k37 : ∀ (S : mM) (H : Heap) (locs : List Loc) (ls : Array Slot), pX7_remember_b37  S = some S' → mW G s (wB M β 8 S) H locs → lv_has ls 1 [(0, .ref (gA G (β + 0)))] → W p l e { frames := 1, cells := 0, slots := 0, locals := 25 } s m args below meth c H locs 0 0 (mZ below G none (wB M β 8 S') args s) (F0 m 37 ls []) := by
    intro S H locs ls h hw hl
    unfold pX7_remember_b37 at h
    refine lv_aload_n hx hb dX7_remember_37 rfl (lv_at hl 0 rfl) ?_
    refine r_get (v := .ref (gA G (β + 3))) hx hb hts hinX7 hown hE hw hn 0 (by decide) (congrFun hR.1 _) rfl 6 (by decide) (hts _ (wz_in qF_X7_16)) rfl dX7_remember_38 ?_
    refine lv_iconst (v := (nI 0)) hx hb dX7_remember_41 (by decide) ?_
    refine lv_aload_n hx hb dX7_remember_42 rfl (lv_at hl 0 rfl) ?_
    refine r_get (v := .ref (gA G (β + 5))) hx hb hts hinX7 hown hE hw hn 0 (by decide) (congrFun hR.1 _) rfl 8 (by decide) (hts _ (wz_in qF_X7_22)) rfl dX7_remember_43 ?_
    refine lv_sipush (v := (nI 250)) hx hb dX7_remember_46 (by decide) ?_
    refine lv_aload_n hx hb dX7_remember_49 rfl (lv_at hl 0 rfl) ?_
    refine p_get hx hb hts hinX7 hown hE hw hn 0 (by decide) (congrFun hR.1 _) rfl 9 (by decide) (hts _ (wz_in qF_X7_44)) rfl dX7_remember_50 h (fun v50 h => ?_)
    refine lv_imul hx hb dX7_remember_53 ?_
    refine lv_sipush (v := (nI 250)) hx hb dX7_remember_54 (by decide) ?_
    obtain ⟨S57, h57, h⟩ := cr1_some h
    refine r_callS (As := [.ref (gA G (β + 3)), .int (nI 0), .ref (gA G (β + 5)), .int ((nI 250) * v50), .int (nI 250)]) (rest := []) (st1 := []) hx hb hml hown hts hE hw hl (mX7_copy l G (by omega) hR (by decide) (by decide) hR.2.2.2.1 hR.2.2.2.2.2.1 h57) (va_cwS 5 hts (zS gS_X7_47) rfl rfl rfl kdX7_copy ⟨Nat.le_of_ble_eq_true rfl, Nat.le_of_ble_eq_true rfl⟩) rfl rfl (Nat.le_of_ble_eq_true rfl) dX7_remember_57 ⟨Nat.zero_le _, Nat.zero_le _⟩ rfl (fun H locs hw => ?_)
    refine lv_aload_n hx hb dX7_remember_60 rfl (lv_at hl 0 rfl) ?_
    refine lv_dup hx hb dX7_remember_61 rfl ?_
    refine p_get hx hb hts hinX7 hown hE hw hn 0 (by decide) (congrFun hR.1 _) rfl 9 (by decide) (hts _ (wz_in qF_X7_44)) rfl dX7_remember_62 h (fun v62 h => ?_)
    refine lv_iconst (v := (nI 1)) hx hb dX7_remember_65 (by decide) ?_
    refine lv_iadd hx hb dX7_remember_66 ?_
    refine p_put hx hb hts hinX7 tyX7 tyX7_ok nmX7 hown hE hw hn 0 (by decide) (congrFun hR.1 _) rfl 9 (by decide) (hts _ (wz_in qF_X7_44)) rfl (by decide +kernel) (Nat.le_of_ble_eq_true rfl) (congrFun hR.1 _) dX7_remember_67 h (fun S67 h H locs hw => ?_)
    exact e_vw hx hb hr hlocks hw dX7_remember_70 h
  unfold pX7_remember at h
  refine lv_aload_n hx hb dX7_remember_0 rfl (lv_at hl 0 rfl) ?_
  refine p_get hx hb hts hinX7 hown hE hw hn 0 (by decide) (congrFun hR.1 _) rfl 9 (by decide) (hts _ (wz_in qF_X7_44)) rfl dX7_remember_1 h (fun v1 h => ?_)
  refine lv_bipush (v := (nI 14)) hx hb dX7_remember_4 (by decide) ?_
  refine bi_ne (tgt := 37) hx hb dX7_remember_6 (by decide) h (fun h => ?_) (fun h => ?_)
  · exact k37  S _ _ _ h hw (lv_sub hl [0] rfl)
  · refine lv_aload_n hx hb dX7_remember_9 rfl (lv_at hl 0 rfl) ?_
    refine r_get (v := .ref (gA G (β + 5))) hx hb hts hinX7 hown hE hw hn 0 (by decide) (congrFun hR.1 _) rfl 8 (by decide) (hts _ (wz_in qF_X7_22)) rfl dX7_remember_10 ?_
    refine lv_sipush (v := (nI 250)) hx hb dX7_remember_13 (by decide) ?_
    refine lv_aload_n hx hb dX7_remember_16 rfl (lv_at hl 0 rfl) ?_
    refine r_get (v := .ref (gA G (β + 5))) hx hb hts hinX7 hown hE hw hn 0 (by decide) (congrFun hR.1 _) rfl 8 (by decide) (hts _ (wz_in qF_X7_22)) rfl dX7_remember_17 ?_
    refine lv_iconst (v := (nI 0)) hx hb dX7_remember_20 (by decide) ?_
    refine lv_sipush (v := (nI 3250)) hx hb dX7_remember_21 (by decide) ?_
    obtain ⟨S24, h24, h⟩ := cr1_some h
    refine r_callS (As := [.ref (gA G (β + 5)), .int (nI 250), .ref (gA G (β + 5)), .int (nI 0), .int (nI 3250)]) (rest := []) (st1 := []) hx hb hml hown hts hE hw hl (mX7_copy l G (by omega) hR (by decide) (by decide) hR.2.2.2.2.2.1 hR.2.2.2.2.2.1 h24) (va_cwS 5 hts (zS gS_X7_47) rfl rfl rfl kdX7_copy ⟨Nat.le_of_ble_eq_true rfl, Nat.le_of_ble_eq_true rfl⟩) rfl rfl (Nat.le_of_ble_eq_true rfl) dX7_remember_24 ⟨Nat.zero_le _, Nat.zero_le _⟩ rfl (fun H locs hw => ?_)
    refine lv_aload_n hx hb dX7_remember_27 rfl (lv_at hl 0 rfl) ?_
    refine lv_dup hx hb dX7_remember_28 rfl ?_
    refine p_get hx hb hts hinX7 hown hE hw hn 0 (by decide) (congrFun hR.1 _) rfl 9 (by decide) (hts _ (wz_in qF_X7_44)) rfl dX7_remember_29 h (fun v29 h => ?_)
    refine lv_iconst (v := (nI 1)) hx hb dX7_remember_32 (by decide) ?_
    refine lv_isub hx hb dX7_remember_33 ?_
    refine p_put hx hb hts hinX7 tyX7 tyX7_ok nmX7 hown hE hw hn 0 (by decide) (congrFun hR.1 _) rfl 9 (by decide) (hts _ (wz_in qF_X7_44)) rfl (by decide +kernel) (Nat.le_of_ble_eq_true rfl) (congrFun hR.1 _) dX7_remember_34 h (fun S34 h H locs hw => ?_)
    exact k37  S34 _ _ _ h hw (lv_sub hl [0] rfl)

set_option maxHeartbeats 4000000 in
set_option maxRecDepth 100000 in
theorem mX7_begin (l : Launch) (G : mG) {β : Nat} {M S S' : mM} (hn : β + 8 ≤ gN G) (hR : isMod G β) (h : pX7_begin S = some S') : MC l G yX7_begin zzX7_begin 1 25 [.ref (gA G (β + 0))] (wB M β 8 S) (wB M β 8 S') none := by
  refine mc_of (cc := cX7_begin) (maxL := 1) (ret := none) (by decide) rfl (Nat.le_of_ble_eq_true rfl) ?_
  intro p e s m args below meth c H ls hx hb hr hts hown hml hlocks hE hw hl
  have hl : lv_has ls 1 [(0, .ref (gA G (β + 0)))] := hl
  have hinX7 : ∀ w ∈ wsX70, w ∈ zzX7_begin := fun w h9 => wz_in (zinX7 w h9)
  unfold pX7_begin at h
  refine lv_aload_n hx hb dX7_begin_0 rfl (lv_at hl 0 rfl) ?_
  refine r_get (v := .ref (gA G (β + 3))) hx hb hts hinX7 hown hE hw hn 0 (by decide) (congrFun hR.1 _) rfl 6 (by decide) (hts _ (wz_in qF_X7_16)) rfl dX7_begin_1 ?_
  refine lv_iconst (v := (nI 0)) hx hb dX7_begin_4 (by decide) ?_
  refine lv_aload_n hx hb dX7_begin_5 rfl (lv_at hl 0 rfl) ?_
  refine r_get (v := .ref (gA G (β + 4))) hx hb hts hinX7 hown hE hw hn 0 (by decide) (congrFun hR.1 _) rfl 7 (by decide) (hts _ (wz_in qF_X7_19)) rfl dX7_begin_6 ?_
  refine lv_iconst (v := (nI 0)) hx hb dX7_begin_9 (by decide) ?_
  refine lv_sipush (v := (nI 250)) hx hb dX7_begin_10 (by decide) ?_
  obtain ⟨S13, h13, h⟩ := cr1_some h
  refine r_callS (As := [.ref (gA G (β + 3)), .int (nI 0), .ref (gA G (β + 4)), .int (nI 0), .int (nI 250)]) (rest := []) (st1 := []) hx hb hml hown hts hE hw hl (mX7_copy l G (by omega) hR (by decide) (by decide) hR.2.2.2.1 hR.2.2.2.2.1 h13) (va_cwS 5 hts (zS gS_X7_47) rfl rfl rfl kdX7_copy ⟨Nat.le_of_ble_eq_true rfl, Nat.le_of_ble_eq_true rfl⟩) rfl rfl (Nat.le_of_ble_eq_true rfl) dX7_begin_13 ⟨Nat.zero_le _, Nat.zero_le _⟩ rfl (fun H locs hw => ?_)
  exact e_vw hx hb hr hlocks hw dX7_begin_16 h

set_option maxHeartbeats 4000000 in
set_option maxRecDepth 100000 in
theorem mX7_gateAt (l : Launch) (G : mG) {M : mM} {a1 : Int32} {a2 : Int32} {r : Int32} (h : pX7_gateAt a1 a2 = some r) : MC l G yX7_gateAt zzX7_gateAt 0 0 [.int a1, .int a2] M M (some (.int r)) := by
  refine mc_of (cc := cX7_gateAt) (maxL := 2) (ret := (some .int)) (by decide) rfl (Nat.le_of_ble_eq_true rfl) ?_
  intro p e s m args below meth c H ls hx hb hr hts hown hml hlocks hE hw hl
  have hl : lv_has ls 2 [(0, .int a1), (1, .int a2)] := hl
  unfold pX7_gateAt at h
  refine lv_bipush (v := (nI 8)) hx hb dX7_gateAt_0 (by decide) ?_
  refine lv_iconst (v := (nI 4)) hx hb dX7_gateAt_2 (by decide) ?_
  refine lv_iload_n hx hb dX7_gateAt_3 rfl (lv_at hl 0 rfl) ?_
  refine lv_imul hx hb dX7_gateAt_4 ?_
  refine lv_iadd hx hb dX7_gateAt_5 ?_
  refine lv_iload_n hx hb dX7_gateAt_6 rfl (lv_at hl 1 rfl) ?_
  refine lv_iadd hx hb dX7_gateAt_7 ?_
  exact e_i hx hb hr hlocks hw dX7_gateAt_8 h

set_option maxHeartbeats 4000000 in
set_option maxRecDepth 100000 in
theorem mX7_bayAt (l : Launch) (G : mG) {M : mM} {a1 : Int32} {a2 : Int32} {r : Int32} (h : pX7_bayAt a1 a2 = some r) : MC l G yX7_bayAt zzX7_bayAt 0 0 [.int a1, .int a2] M M (some (.int r)) := by
  refine mc_of (cc := cX7_bayAt) (maxL := 2) (ret := (some .int)) (by decide) rfl (Nat.le_of_ble_eq_true rfl) ?_
  intro p e s m args below meth c H ls hx hb hr hts hown hml hlocks hE hw hl
  have hl : lv_has ls 2 [(0, .int a1), (1, .int a2)] := hl
  unfold pX7_bayAt at h
  refine lv_bipush (v := (nI 24)) hx hb dX7_bayAt_0 (by decide) ?_
  refine lv_bipush (v := (nI 9)) hx hb dX7_bayAt_2 (by decide) ?_
  refine lv_iload_n hx hb dX7_bayAt_4 rfl (lv_at hl 0 rfl) ?_
  refine lv_imul hx hb dX7_bayAt_5 ?_
  refine lv_iadd hx hb dX7_bayAt_6 ?_
  refine lv_iload_n hx hb dX7_bayAt_7 rfl (lv_at hl 1 rfl) ?_
  refine lv_iadd hx hb dX7_bayAt_8 ?_
  exact e_i hx hb hr hlocks hw dX7_bayAt_9 h

set_option maxHeartbeats 4000000 in
set_option maxRecDepth 100000 in
theorem mX7_depotAt (l : Launch) (G : mG) {M : mM} {a1 : Int32} {a2 : Int32} {r : Int32} (h : pX7_depotAt a1 a2 = some r) : MC l G yX7_depotAt zzX7_depotAt 0 0 [.int a1, .int a2] M M (some (.int r)) := by
  refine mc_of (cc := cX7_depotAt) (maxL := 2) (ret := (some .int)) (by decide) rfl (Nat.le_of_ble_eq_true rfl) ?_
  intro p e s m args below meth c H ls hx hb hr hts hown hml hlocks hE hw hl
  have hl : lv_has ls 2 [(0, .int a1), (1, .int a2)] := hl
  unfold pX7_depotAt at h
  refine lv_bipush (v := (nI 78)) hx hb dX7_depotAt_0 (by decide) ?_
  refine lv_iconst (v := (nI 2)) hx hb dX7_depotAt_2 (by decide) ?_
  refine lv_iload_n hx hb dX7_depotAt_3 rfl (lv_at hl 0 rfl) ?_
  refine lv_imul hx hb dX7_depotAt_4 ?_
  refine lv_iadd hx hb dX7_depotAt_5 ?_
  refine lv_iload_n hx hb dX7_depotAt_6 rfl (lv_at hl 1 rfl) ?_
  refine lv_iadd hx hb dX7_depotAt_7 ?_
  exact e_i hx hb hr hlocks hw dX7_depotAt_8 h

set_option maxHeartbeats 4000000 in
set_option maxRecDepth 100000 in
theorem mX7_convoyAt (l : Launch) (G : mG) {M : mM} {a1 : Int32} {a2 : Int32} {r : Int32} (h : pX7_convoyAt a1 a2 = some r) : MC l G yX7_convoyAt zzX7_convoyAt 0 0 [.int a1, .int a2] M M (some (.int r)) := by
  refine mc_of (cc := cX7_convoyAt) (maxL := 2) (ret := (some .int)) (by decide) rfl (Nat.le_of_ble_eq_true rfl) ?_
  intro p e s m args below meth c H ls hx hb hr hts hown hml hlocks hE hw hl
  have hl : lv_has ls 2 [(0, .int a1), (1, .int a2)] := hl
  unfold pX7_convoyAt at h
  refine lv_bipush (v := (nI 86)) hx hb dX7_convoyAt_0 (by decide) ?_
  refine lv_bipush (v := (nI 13)) hx hb dX7_convoyAt_2 (by decide) ?_
  refine lv_iload_n hx hb dX7_convoyAt_4 rfl (lv_at hl 0 rfl) ?_
  refine lv_imul hx hb dX7_convoyAt_5 ?_
  refine lv_iadd hx hb dX7_convoyAt_6 ?_
  refine lv_iload_n hx hb dX7_convoyAt_7 rfl (lv_at hl 1 rfl) ?_
  refine lv_iadd hx hb dX7_convoyAt_8 ?_
  exact e_i hx hb hr hlocks hw dX7_convoyAt_9 h

set_option maxHeartbeats 4000000 in
set_option maxRecDepth 100000 in
theorem mX7_carAt (l : Launch) (G : mG) {M : mM} {a1 : Int32} {a2 : Int32} {r : Int32} (h : pX7_carAt a1 a2 = some r) : MC l G yX7_carAt zzX7_carAt 0 0 [.int a1, .int a2] M M (some (.int r)) := by
  refine mc_of (cc := cX7_carAt) (maxL := 2) (ret := (some .int)) (by decide) rfl (Nat.le_of_ble_eq_true rfl) ?_
  intro p e s m args below meth c H ls hx hb hr hts hown hml hlocks hE hw hl
  have hl : lv_has ls 2 [(0, .int a1), (1, .int a2)] := hl
  unfold pX7_carAt at h
  refine lv_sipush (v := (nI 138)) hx hb dX7_carAt_0 (by decide) ?_
  refine lv_bipush (v := (nI 7)) hx hb dX7_carAt_3 (by decide) ?_
  refine lv_iload_n hx hb dX7_carAt_5 rfl (lv_at hl 0 rfl) ?_
  refine lv_imul hx hb dX7_carAt_6 ?_
  refine lv_iadd hx hb dX7_carAt_7 ?_
  refine lv_iload_n hx hb dX7_carAt_8 rfl (lv_at hl 1 rfl) ?_
  refine lv_iadd hx hb dX7_carAt_9 ?_
  exact e_i hx hb hr hlocks hw dX7_carAt_10 h

set_option maxHeartbeats 4000000 in
set_option maxRecDepth 100000 in
theorem mX7_who (l : Launch) (G : mG) {β : Nat} {M S : mM} {a2 : Int32} {a3 : Int32} {r : Int32} (hn : β + 1 ≤ gN G) (hR : isRow G β) (h : pX7_who a2 a3 S = some r) : MC l G yX7_who zzX7_who 1 21 [.ref (gA G (β + 0)), .int a2, .int a3] (wB M β 1 S) (wB M β 1 S) (some (.int r)) := by
  refine mc_of (cc := cX7_who) (maxL := 3) (ret := (some .int)) (by decide) rfl (Nat.le_of_ble_eq_true rfl) ?_
  intro p e s m args below meth c H ls hx hb hr hts hown hml hlocks hE hw hl
  have hl : lv_has ls 3 [(0, .ref (gA G (β + 0))), (1, .int a2), (2, .int a3)] := hl
  unfold pX7_who at h
  refine lv_aload_n hx hb dX7_who_0 rfl (lv_at hl 0 rfl) ?_
  refine lv_iload_n hx hb dX7_who_1 rfl (lv_at hl 1 rfl) ?_
  refine lv_iconst (v := (nI 5)) hx hb dX7_who_2 (by decide) ?_
  refine lv_iload_n hx hb dX7_who_3 rfl (lv_at hl 2 rfl) ?_
  refine lv_iadd hx hb dX7_who_4 ?_
  obtain ⟨v5, h5, h⟩ := cr1_some h
  refine r_callS (As := [.int a2, .int ((nI 5) + a3)]) (rest := [.ref (gA G (β + 0))]) (st1 := [.int v5, .ref (gA G (β + 0))]) hx hb hml hown hts hE hw hl (mX7_convoyAt l G (M := (wB M β 1 S)) h5) (va_cwS 2 hts (zS gS_X7_51) rfl rfl rfl kdX7_convoyAt ⟨Nat.le_of_ble_eq_true rfl, Nat.le_of_ble_eq_true rfl⟩) rfl rfl (Nat.le_of_ble_eq_true rfl) dX7_who_5 ⟨Nat.zero_le _, Nat.zero_le _⟩ rfl (fun H locs hw => ?_)
  refine p_iald hx hb hE hw hn 0 (by decide) (congrFun hR) dX7_who_8 h (fun v8 h => ?_)
  exact e_i hx hb hr hlocks hw dX7_who_9 h

set_option maxHeartbeats 4000000 in
set_option maxRecDepth 100000 in
theorem mX7_sizeOf (l : Launch) (G : mG) {β : Nat} {M S : mM} {a2 : Int32} {r : Int32} (hn : β + 1 ≤ gN G) (hR : isRow G β) (h : pX7_sizeOf a2 S = some r) : MC l G yX7_sizeOf zzX7_sizeOf 1 21 [.ref (gA G (β + 0)), .int a2] (wB M β 1 S) (wB M β 1 S) (some (.int r)) := by
  refine mc_of (cc := cX7_sizeOf) (maxL := 2) (ret := (some .int)) (by decide) rfl (Nat.le_of_ble_eq_true rfl) ?_
  intro p e s m args below meth c H ls hx hb hr hts hown hml hlocks hE hw hl
  have hl : lv_has ls 2 [(0, .ref (gA G (β + 0))), (1, .int a2)] := hl
  unfold pX7_sizeOf at h
  refine lv_aload_n hx hb dX7_sizeOf_0 rfl (lv_at hl 0 rfl) ?_
  refine lv_iload_n hx hb dX7_sizeOf_1 rfl (lv_at hl 1 rfl) ?_
  refine lv_iconst (v := (nI 1)) hx hb dX7_sizeOf_2 (by decide) ?_
  obtain ⟨v3, h3, h⟩ := cr1_some h
  refine r_callS (As := [.int a2, .int (nI 1)]) (rest := [.ref (gA G (β + 0))]) (st1 := [.int v3, .ref (gA G (β + 0))]) hx hb hml hown hts hE hw hl (mX7_convoyAt l G (M := (wB M β 1 S)) h3) (va_cwS 2 hts (zS gS_X7_51) rfl rfl rfl kdX7_convoyAt ⟨Nat.le_of_ble_eq_true rfl, Nat.le_of_ble_eq_true rfl⟩) rfl rfl (Nat.le_of_ble_eq_true rfl) dX7_sizeOf_3 ⟨Nat.zero_le _, Nat.zero_le _⟩ rfl (fun H locs hw => ?_)
  refine p_iald hx hb hE hw hn 0 (by decide) (congrFun hR) dX7_sizeOf_6 h (fun v6 h => ?_)
  exact e_i hx hb hr hlocks hw dX7_sizeOf_7 h

set_option maxHeartbeats 4000000 in
set_option maxRecDepth 100000 in
theorem mX7_isClosed (l : Launch) (G : mG) {β : Nat} {M S : mM} {a2 : Int32} {r : Int32} (hn : β + 1 ≤ gN G) (hR : isRow G β) (h : pX7_isClosed a2 S = some r) : MC l G yX7_isClosed zzX7_isClosed 1 21 [.ref (gA G (β + 0)), .int a2] (wB M β 1 S) (wB M β 1 S) (some (.int r)) := by
  refine mc_of (cc := cX7_isClosed) (maxL := 2) (ret := (some .boolean)) (by decide) rfl (Nat.le_of_ble_eq_true rfl) ?_
  intro p e s m args below meth c H ls hx hb hr hts hown hml hlocks hE hw hl
  have hl : lv_has ls 2 [(0, .ref (gA G (β + 0))), (1, .int a2)] := hl
  unfold pX7_isClosed at h
  refine lv_aload_n hx hb dX7_isClosed_0 rfl (lv_at hl 0 rfl) ?_
  refine lv_iconst (v := (nI 1)) hx hb dX7_isClosed_1 (by decide) ?_
  refine p_iald hx hb hE hw hn 0 (by decide) (congrFun hR) dX7_isClosed_2 h (fun v2 h => ?_)
  refine lv_aload_n hx hb dX7_isClosed_3 rfl (lv_at hl 0 rfl) ?_
  refine lv_iload_n hx hb dX7_isClosed_4 rfl (lv_at hl 1 rfl) ?_
  refine lv_iconst (v := (nI 3)) hx hb dX7_isClosed_5 (by decide) ?_
  obtain ⟨v6, h6, h⟩ := cr1_some h
  refine r_callS (As := [.int a2, .int (nI 3)]) (rest := [.ref (gA G (β + 0)), .int v2]) (st1 := [.int v6, .ref (gA G (β + 0)), .int v2]) hx hb hml hown hts hE hw hl (mX7_gateAt l G (M := (wB M β 1 S)) h6) (va_cwS 2 hts (zS gS_X7_55) rfl rfl rfl kdX7_gateAt ⟨Nat.le_of_ble_eq_true rfl, Nat.le_of_ble_eq_true rfl⟩) rfl rfl (Nat.le_of_ble_eq_true rfl) dX7_isClosed_6 ⟨Nat.zero_le _, Nat.zero_le _⟩ rfl (fun H locs hw => ?_)
  refine p_iald hx hb hE hw hn 0 (by decide) (congrFun hR) dX7_isClosed_9 h (fun v9 h => ?_)
  refine lv_iadd hx hb dX7_isClosed_10 ?_
  refine lv_aload_n hx hb dX7_isClosed_11 rfl (lv_at hl 0 rfl) ?_
  refine lv_iload_n hx hb dX7_isClosed_12 rfl (lv_at hl 1 rfl) ?_
  refine lv_iconst (v := (nI 1)) hx hb dX7_isClosed_13 (by decide) ?_
  obtain ⟨v14, h14, h⟩ := cr1_some h
  refine r_callS (As := [.int a2, .int (nI 1)]) (rest := [.ref (gA G (β + 0)), .int (v2 + v9)]) (st1 := [.int v14, .ref (gA G (β + 0)), .int (v2 + v9)]) hx hb hml hown hts hE hw hl (mX7_gateAt l G (M := (wB M β 1 S)) h14) (va_cwS 2 hts (zS gS_X7_55) rfl rfl rfl kdX7_gateAt ⟨Nat.le_of_ble_eq_true rfl, Nat.le_of_ble_eq_true rfl⟩) rfl rfl (Nat.le_of_ble_eq_true rfl) dX7_isClosed_14 ⟨Nat.zero_le _, Nat.zero_le _⟩ rfl (fun H locs hw => ?_)
  refine p_iald hx hb hE hw hn 0 (by decide) (congrFun hR) dX7_isClosed_17 h (fun v17 h => ?_)
  obtain ⟨hz18, h⟩ := nz_some h
  refine lv_irem hx hb dX7_isClosed_18 hz18 ?_
  refine lv_aload_n hx hb dX7_isClosed_19 rfl (lv_at hl 0 rfl) ?_
  refine lv_iload_n hx hb dX7_isClosed_20 rfl (lv_at hl 1 rfl) ?_
  refine lv_iconst (v := (nI 2)) hx hb dX7_isClosed_21 (by decide) ?_
  obtain ⟨v22, h22, h⟩ := cr1_some h
  refine r_callS (As := [.int a2, .int (nI 2)]) (rest := [.ref (gA G (β + 0)), .int ((v2 + v9) - (v2 + v9) / v17 * v17)]) (st1 := [.int v22, .ref (gA G (β + 0)), .int ((v2 + v9) - (v2 + v9) / v17 * v17)]) hx hb hml hown hts hE hw hl (mX7_gateAt l G (M := (wB M β 1 S)) h22) (va_cwS 2 hts (zS gS_X7_55) rfl rfl rfl kdX7_gateAt ⟨Nat.le_of_ble_eq_true rfl, Nat.le_of_ble_eq_true rfl⟩) rfl rfl (Nat.le_of_ble_eq_true rfl) dX7_isClosed_22 ⟨Nat.zero_le _, Nat.zero_le _⟩ rfl (fun H locs hw => ?_)
  refine p_iald hx hb hE hw hn 0 (by decide) (congrFun hR) dX7_isClosed_25 h (fun v25 h => ?_)
  refine bi_ge (tgt := 33) hx hb dX7_isClosed_26 (by decide) h (fun h => ?_) (fun h => ?_)
  · refine lv_iconst (v := (nI 0)) hx hb dX7_isClosed_33 (by decide) ?_
    exact e_z hx hb hr hlocks hw dX7_isClosed_34 h
  · refine lv_iconst (v := (nI 1)) hx hb dX7_isClosed_29 (by decide) ?_
    refine lv_goto (tgt := 34) hx hb dX7_isClosed_30 (by decide) ?_
    exact e_z hx hb hr hlocks hw dX7_isClosed_34 h

set_option maxHeartbeats 4000000 in
set_option maxRecDepth 100000 in
theorem mX7_bayOn (l : Launch) (G : mG) {β : Nat} {M S : mM} {a2 : Int32} {r : Int32} (hn : β + 1 ≤ gN G) (hR : isRow G β) (h : pX7_bayOn a2 S = some r) : MC l G yX7_bayOn zzX7_bayOn 1 21 [.ref (gA G (β + 0)), .int a2] (wB M β 1 S) (wB M β 1 S) (some (.int r)) := by
  refine mc_of (cc := cX7_bayOn) (maxL := 4) (ret := (some .int)) (by decide) rfl (Nat.le_of_ble_eq_true rfl) ?_
  intro p e s m args below meth c H ls hx hb hr hts hown hml hlocks hE hw hl
  have hl : lv_has ls 4 [(0, .ref (gA G (β + 0))), (1, .int a2)] := hl
  have k5 : ∀ (k : Nat), ∀ (x1 : Int32) (x2 : Int32) (x3 : Int32) (H : Heap) (locs : List Loc) (ls : Array Slot), pX7_bayOn_l5  S k x1 x2 x3 = some r → mW G s (wB M β 1 S) H locs → lv_has ls 4 [(0, .ref (gA G (β + 0))), (1, .int x1), (2, .int x2), (3, .int x3)] → W p l e { frames := 1, cells := 0, slots := 0, locals := 21 } s m args below meth c H locs 0 0 (mZ below G (some (.int r)) (wB M β 1 S) args s) (F0 m 5 ls []) := by
    intro k
    induction k with
    | zero => intro x1 x2 x3 H locs ls h; cases h
    | succ k hih5 =>
      intro x1 x2 x3 H locs ls h hw hl
      obtain ⟨ih5, hk5⟩ : ∃ f, f = pX7_bayOn_l5  S k := ⟨_, rfl⟩
      replace h : pX7_bayOn_lb5  (pX7_bayOn_l5  S k) S x1 x2 x3 = some r := h
      rw [← hk5] at h hih5
      clear hk5
      unfold pX7_bayOn_lb5 at h
      refine lv_iload_n hx hb dX7_bayOn_5 rfl (lv_at hl 3 rfl) ?_
      refine lv_aload_n hx hb dX7_bayOn_6 rfl (lv_at hl 0 rfl) ?_
      refine lv_iconst (v := (nI 3)) hx hb dX7_bayOn_7 (by decide) ?_
      refine p_iald hx hb hE hw hn 0 (by decide) (congrFun hR) dX7_bayOn_8 h (fun v8 h => ?_)
      refine bi_ge (tgt := 35) hx hb dX7_bayOn_9 (by decide) h (fun h => ?_) (fun h => ?_)
      · refine lv_iload_n hx hb dX7_bayOn_35 rfl (lv_at hl 2 rfl) ?_
        exact e_i hx hb hr hlocks hw dX7_bayOn_36 h
      · refine lv_aload_n hx hb dX7_bayOn_12 rfl (lv_at hl 0 rfl) ?_
        refine lv_iload_n hx hb dX7_bayOn_13 rfl (lv_at hl 3 rfl) ?_
        refine lv_iconst (v := (nI 0)) hx hb dX7_bayOn_14 (by decide) ?_
        obtain ⟨v15, h15, h⟩ := cr1_some h
        refine r_callS (As := [.int x3, .int (nI 0)]) (rest := [.ref (gA G (β + 0))]) (st1 := [.int v15, .ref (gA G (β + 0))]) hx hb hml hown hts hE hw hl (mX7_bayAt l G (M := (wB M β 1 S)) h15) (va_cwS 2 hts (zS gS_X7_58) rfl rfl rfl kdX7_bayAt ⟨Nat.le_of_ble_eq_true rfl, Nat.le_of_ble_eq_true rfl⟩) rfl rfl (Nat.le_of_ble_eq_true rfl) dX7_bayOn_15 ⟨Nat.zero_le _, Nat.zero_le _⟩ rfl (fun H locs hw => ?_)
        refine p_iald hx hb hE hw hn 0 (by decide) (congrFun hR) dX7_bayOn_18 h (fun v18 h => ?_)
        refine lv_iload_n hx hb dX7_bayOn_19 rfl (lv_at hl 1 rfl) ?_
        refine bi_ne (tgt := 27) hx hb dX7_bayOn_20 (by decide) h (fun h => ?_) (fun h => ?_)
        · refine lv_iload_n hx hb dX7_bayOn_27 rfl (lv_at hl 2 rfl) ?_
          refine lv_istore_n (lv' := [(2, .int x2), (0, .ref (gA G (β + 0))), (1, .int x1), (3, .int x3)]) hx hb dX7_bayOn_28 rfl hl (by decide) rfl (fun ls hl => ?_)
          refine p_iinc (w := (nI 1)) 3 (fun v29 => [(3, .int v29), (2, .int x2), (0, .ref (gA G (β + 0))), (1, .int x1)]) hx hb dX7_bayOn_29 hl rfl (by decide) (by decide) h (fun _ => rfl) (fun v29 h ls hl => ?_)
          refine lv_goto (tgt := 5) hx hb dX7_bayOn_32 (by decide) ?_
          exact hih5 x1 x2 v29 _ _ _ h hw (lv_sub hl [2, 3, 1, 0] rfl)
        · refine lv_iload_n hx hb dX7_bayOn_23 rfl (lv_at hl 3 rfl) ?_
          refine lv_goto (tgt := 28) hx hb dX7_bayOn_24 (by decide) ?_
          refine lv_istore_n (lv' := [(2, .int x3), (0, .ref (gA G (β + 0))), (1, .int x1), (3, .int x3)]) hx hb dX7_bayOn_28 rfl hl (by decide) rfl (fun ls hl => ?_)
          refine p_iinc (w := (nI 1)) 3 (fun v29 => [(3, .int v29), (2, .int x3), (0, .ref (gA G (β + 0))), (1, .int x1)]) hx hb dX7_bayOn_29 hl rfl (by decide) (by decide) h (fun _ => rfl) (fun v29 h ls hl => ?_)
          refine lv_goto (tgt := 5) hx hb dX7_bayOn_32 (by decide) ?_
          exact hih5 x1 x3 v29 _ _ _ h hw (lv_sub hl [2, 3, 1, 0] rfl)
  unfold pX7_bayOn at h
  refine lv_bipush (v := (-9)) hx hb dX7_bayOn_0 (by decide) ?_
  refine lv_istore_n (lv' := [(2, .int (-9)), (0, .ref (gA G (β + 0))), (1, .int a2)]) hx hb dX7_bayOn_2 rfl hl (by decide) rfl (fun ls hl => ?_)
  refine lv_iconst (v := (nI 0)) hx hb dX7_bayOn_3 (by decide) ?_
  refine lv_istore_n (lv' := [(3, .int (nI 0)), (2, .int (-9)), (0, .ref (gA G (β + 0))), (1, .int a2)]) hx hb dX7_bayOn_4 rfl hl (by decide) rfl (fun ls hl => ?_)
  exact k5 fuel a2 (-9) (nI 0) _ _ _ h hw (lv_sub hl [2, 3, 1, 0] rfl)

set_option maxHeartbeats 4000000 in
set_option maxRecDepth 100000 in
theorem mX7_depotOn (l : Launch) (G : mG) {β : Nat} {M S : mM} {a2 : Int32} {r : Int32} (hn : β + 1 ≤ gN G) (hR : isRow G β) (h : pX7_depotOn a2 S = some r) : MC l G yX7_depotOn zzX7_depotOn 1 21 [.ref (gA G (β + 0)), .int a2] (wB M β 1 S) (wB M β 1 S) (some (.int r)) := by
  refine mc_of (cc := cX7_depotOn) (maxL := 4) (ret := (some .int)) (by decide) rfl (Nat.le_of_ble_eq_true rfl) ?_
  intro p e s m args below meth c H ls hx hb hr hts hown hml hlocks hE hw hl
  have hl : lv_has ls 4 [(0, .ref (gA G (β + 0))), (1, .int a2)] := hl
  have k5 : ∀ (k : Nat), ∀ (x1 : Int32) (x2 : Int32) (x3 : Int32) (H : Heap) (locs : List Loc) (ls : Array Slot), pX7_depotOn_l5  S k x1 x2 x3 = some r → mW G s (wB M β 1 S) H locs → lv_has ls 4 [(0, .ref (gA G (β + 0))), (1, .int x1), (2, .int x2), (3, .int x3)] → W p l e { frames := 1, cells := 0, slots := 0, locals := 21 } s m args below meth c H locs 0 0 (mZ below G (some (.int r)) (wB M β 1 S) args s) (F0 m 5 ls []) := by
    intro k
    induction k with
    | zero => intro x1 x2 x3 H locs ls h; cases h
    | succ k hih5 =>
      intro x1 x2 x3 H locs ls h hw hl
      obtain ⟨ih5, hk5⟩ : ∃ f, f = pX7_depotOn_l5  S k := ⟨_, rfl⟩
      replace h : pX7_depotOn_lb5  (pX7_depotOn_l5  S k) S x1 x2 x3 = some r := h
      rw [← hk5] at h hih5
      clear hk5
      unfold pX7_depotOn_lb5 at h
      refine lv_iload_n hx hb dX7_depotOn_5 rfl (lv_at hl 3 rfl) ?_
      refine lv_aload_n hx hb dX7_depotOn_6 rfl (lv_at hl 0 rfl) ?_
      refine lv_iconst (v := (nI 4)) hx hb dX7_depotOn_7 (by decide) ?_
      refine p_iald hx hb hE hw hn 0 (by decide) (congrFun hR) dX7_depotOn_8 h (fun v8 h => ?_)
      refine bi_ge (tgt := 35) hx hb dX7_depotOn_9 (by decide) h (fun h => ?_) (fun h => ?_)
      · refine lv_iload_n hx hb dX7_depotOn_35 rfl (lv_at hl 2 rfl) ?_
        exact e_i hx hb hr hlocks hw dX7_depotOn_36 h
      · refine lv_aload_n hx hb dX7_depotOn_12 rfl (lv_at hl 0 rfl) ?_
        refine lv_iload_n hx hb dX7_depotOn_13 rfl (lv_at hl 3 rfl) ?_
        refine lv_iconst (v := (nI 0)) hx hb dX7_depotOn_14 (by decide) ?_
        obtain ⟨v15, h15, h⟩ := cr1_some h
        refine r_callS (As := [.int x3, .int (nI 0)]) (rest := [.ref (gA G (β + 0))]) (st1 := [.int v15, .ref (gA G (β + 0))]) hx hb hml hown hts hE hw hl (mX7_depotAt l G (M := (wB M β 1 S)) h15) (va_cwS 2 hts (zS gS_X7_61) rfl rfl rfl kdX7_depotAt ⟨Nat.le_of_ble_eq_true rfl, Nat.le_of_ble_eq_true rfl⟩) rfl rfl (Nat.le_of_ble_eq_true rfl) dX7_depotOn_15 ⟨Nat.zero_le _, Nat.zero_le _⟩ rfl (fun H locs hw => ?_)
        refine p_iald hx hb hE hw hn 0 (by decide) (congrFun hR) dX7_depotOn_18 h (fun v18 h => ?_)
        refine lv_iload_n hx hb dX7_depotOn_19 rfl (lv_at hl 1 rfl) ?_
        refine bi_ne (tgt := 27) hx hb dX7_depotOn_20 (by decide) h (fun h => ?_) (fun h => ?_)
        · refine lv_iload_n hx hb dX7_depotOn_27 rfl (lv_at hl 2 rfl) ?_
          refine lv_istore_n (lv' := [(2, .int x2), (0, .ref (gA G (β + 0))), (1, .int x1), (3, .int x3)]) hx hb dX7_depotOn_28 rfl hl (by decide) rfl (fun ls hl => ?_)
          refine p_iinc (w := (nI 1)) 3 (fun v29 => [(3, .int v29), (2, .int x2), (0, .ref (gA G (β + 0))), (1, .int x1)]) hx hb dX7_depotOn_29 hl rfl (by decide) (by decide) h (fun _ => rfl) (fun v29 h ls hl => ?_)
          refine lv_goto (tgt := 5) hx hb dX7_depotOn_32 (by decide) ?_
          exact hih5 x1 x2 v29 _ _ _ h hw (lv_sub hl [2, 3, 1, 0] rfl)
        · refine lv_iload_n hx hb dX7_depotOn_23 rfl (lv_at hl 3 rfl) ?_
          refine lv_goto (tgt := 28) hx hb dX7_depotOn_24 (by decide) ?_
          refine lv_istore_n (lv' := [(2, .int x3), (0, .ref (gA G (β + 0))), (1, .int x1), (3, .int x3)]) hx hb dX7_depotOn_28 rfl hl (by decide) rfl (fun ls hl => ?_)
          refine p_iinc (w := (nI 1)) 3 (fun v29 => [(3, .int v29), (2, .int x3), (0, .ref (gA G (β + 0))), (1, .int x1)]) hx hb dX7_depotOn_29 hl rfl (by decide) (by decide) h (fun _ => rfl) (fun v29 h ls hl => ?_)
          refine lv_goto (tgt := 5) hx hb dX7_depotOn_32 (by decide) ?_
          exact hih5 x1 x3 v29 _ _ _ h hw (lv_sub hl [2, 3, 1, 0] rfl)
  unfold pX7_depotOn at h
  refine lv_bipush (v := (-9)) hx hb dX7_depotOn_0 (by decide) ?_
  refine lv_istore_n (lv' := [(2, .int (-9)), (0, .ref (gA G (β + 0))), (1, .int a2)]) hx hb dX7_depotOn_2 rfl hl (by decide) rfl (fun ls hl => ?_)
  refine lv_iconst (v := (nI 0)) hx hb dX7_depotOn_3 (by decide) ?_
  refine lv_istore_n (lv' := [(3, .int (nI 0)), (2, .int (-9)), (0, .ref (gA G (β + 0))), (1, .int a2)]) hx hb dX7_depotOn_4 rfl hl (by decide) rfl (fun ls hl => ?_)
  exact k5 fuel a2 (-9) (nI 0) _ _ _ h hw (lv_sub hl [2, 3, 1, 0] rfl)

set_option maxHeartbeats 4000000 in
set_option maxRecDepth 100000 in
theorem mX7_gateOn (l : Launch) (G : mG) {β : Nat} {M S : mM} {a2 : Int32} {r : Int32} (hn : β + 1 ≤ gN G) (hR : isRow G β) (h : pX7_gateOn a2 S = some r) : MC l G yX7_gateOn zzX7_gateOn 1 21 [.ref (gA G (β + 0)), .int a2] (wB M β 1 S) (wB M β 1 S) (some (.int r)) := by
  refine mc_of (cc := cX7_gateOn) (maxL := 4) (ret := (some .int)) (by decide) rfl (Nat.le_of_ble_eq_true rfl) ?_
  intro p e s m args below meth c H ls hx hb hr hts hown hml hlocks hE hw hl
  have hl : lv_has ls 4 [(0, .ref (gA G (β + 0))), (1, .int a2)] := hl
  have k5 : ∀ (k : Nat), ∀ (x1 : Int32) (x2 : Int32) (x3 : Int32) (H : Heap) (locs : List Loc) (ls : Array Slot), pX7_gateOn_l5  S k x1 x2 x3 = some r → mW G s (wB M β 1 S) H locs → lv_has ls 4 [(0, .ref (gA G (β + 0))), (1, .int x1), (2, .int x2), (3, .int x3)] → W p l e { frames := 1, cells := 0, slots := 0, locals := 21 } s m args below meth c H locs 0 0 (mZ below G (some (.int r)) (wB M β 1 S) args s) (F0 m 5 ls []) := by
    intro k
    induction k with
    | zero => intro x1 x2 x3 H locs ls h; cases h
    | succ k hih5 =>
      intro x1 x2 x3 H locs ls h hw hl
      obtain ⟨ih5, hk5⟩ : ∃ f, f = pX7_gateOn_l5  S k := ⟨_, rfl⟩
      replace h : pX7_gateOn_lb5  (pX7_gateOn_l5  S k) S x1 x2 x3 = some r := h
      rw [← hk5] at h hih5
      clear hk5
      unfold pX7_gateOn_lb5 at h
      refine lv_iload_n hx hb dX7_gateOn_5 rfl (lv_at hl 3 rfl) ?_
      refine lv_aload_n hx hb dX7_gateOn_6 rfl (lv_at hl 0 rfl) ?_
      refine lv_iconst (v := (nI 2)) hx hb dX7_gateOn_7 (by decide) ?_
      refine p_iald hx hb hE hw hn 0 (by decide) (congrFun hR) dX7_gateOn_8 h (fun v8 h => ?_)
      refine bi_ge (tgt := 35) hx hb dX7_gateOn_9 (by decide) h (fun h => ?_) (fun h => ?_)
      · refine lv_iload_n hx hb dX7_gateOn_35 rfl (lv_at hl 2 rfl) ?_
        exact e_i hx hb hr hlocks hw dX7_gateOn_36 h
      · refine lv_aload_n hx hb dX7_gateOn_12 rfl (lv_at hl 0 rfl) ?_
        refine lv_iload_n hx hb dX7_gateOn_13 rfl (lv_at hl 3 rfl) ?_
        refine lv_iconst (v := (nI 0)) hx hb dX7_gateOn_14 (by decide) ?_
        obtain ⟨v15, h15, h⟩ := cr1_some h
        refine r_callS (As := [.int x3, .int (nI 0)]) (rest := [.ref (gA G (β + 0))]) (st1 := [.int v15, .ref (gA G (β + 0))]) hx hb hml hown hts hE hw hl (mX7_gateAt l G (M := (wB M β 1 S)) h15) (va_cwS 2 hts (zS gS_X7_55) rfl rfl rfl kdX7_gateAt ⟨Nat.le_of_ble_eq_true rfl, Nat.le_of_ble_eq_true rfl⟩) rfl rfl (Nat.le_of_ble_eq_true rfl) dX7_gateOn_15 ⟨Nat.zero_le _, Nat.zero_le _⟩ rfl (fun H locs hw => ?_)
        refine p_iald hx hb hE hw hn 0 (by decide) (congrFun hR) dX7_gateOn_18 h (fun v18 h => ?_)
        refine lv_iload_n hx hb dX7_gateOn_19 rfl (lv_at hl 1 rfl) ?_
        refine bi_ne (tgt := 27) hx hb dX7_gateOn_20 (by decide) h (fun h => ?_) (fun h => ?_)
        · refine lv_iload_n hx hb dX7_gateOn_27 rfl (lv_at hl 2 rfl) ?_
          refine lv_istore_n (lv' := [(2, .int x2), (0, .ref (gA G (β + 0))), (1, .int x1), (3, .int x3)]) hx hb dX7_gateOn_28 rfl hl (by decide) rfl (fun ls hl => ?_)
          refine p_iinc (w := (nI 1)) 3 (fun v29 => [(3, .int v29), (2, .int x2), (0, .ref (gA G (β + 0))), (1, .int x1)]) hx hb dX7_gateOn_29 hl rfl (by decide) (by decide) h (fun _ => rfl) (fun v29 h ls hl => ?_)
          refine lv_goto (tgt := 5) hx hb dX7_gateOn_32 (by decide) ?_
          exact hih5 x1 x2 v29 _ _ _ h hw (lv_sub hl [2, 3, 1, 0] rfl)
        · refine lv_iload_n hx hb dX7_gateOn_23 rfl (lv_at hl 3 rfl) ?_
          refine lv_goto (tgt := 28) hx hb dX7_gateOn_24 (by decide) ?_
          refine lv_istore_n (lv' := [(2, .int x3), (0, .ref (gA G (β + 0))), (1, .int x1), (3, .int x3)]) hx hb dX7_gateOn_28 rfl hl (by decide) rfl (fun ls hl => ?_)
          refine p_iinc (w := (nI 1)) 3 (fun v29 => [(3, .int v29), (2, .int x3), (0, .ref (gA G (β + 0))), (1, .int x1)]) hx hb dX7_gateOn_29 hl rfl (by decide) (by decide) h (fun _ => rfl) (fun v29 h ls hl => ?_)
          refine lv_goto (tgt := 5) hx hb dX7_gateOn_32 (by decide) ?_
          exact hih5 x1 x3 v29 _ _ _ h hw (lv_sub hl [2, 3, 1, 0] rfl)
  unfold pX7_gateOn at h
  refine lv_bipush (v := (-9)) hx hb dX7_gateOn_0 (by decide) ?_
  refine lv_istore_n (lv' := [(2, .int (-9)), (0, .ref (gA G (β + 0))), (1, .int a2)]) hx hb dX7_gateOn_2 rfl hl (by decide) rfl (fun ls hl => ?_)
  refine lv_iconst (v := (nI 0)) hx hb dX7_gateOn_3 (by decide) ?_
  refine lv_istore_n (lv' := [(3, .int (nI 0)), (2, .int (-9)), (0, .ref (gA G (β + 0))), (1, .int a2)]) hx hb dX7_gateOn_4 rfl hl (by decide) rfl (fun ls hl => ?_)
  exact k5 fuel a2 (-9) (nI 0) _ _ _ h hw (lv_sub hl [2, 3, 1, 0] rfl)

set_option maxHeartbeats 4000000 in
set_option maxRecDepth 100000 in
theorem mX7_slowest (l : Launch) (G : mG) {β : Nat} {M S : mM} {a2 : Int32} {r : Int32} (hn : β + 1 ≤ gN G) (hR : isRow G β) (h : pX7_slowest a2 S = some r) : MC l G yX7_slowest zzX7_slowest 2 43 [.ref (gA G (β + 0)), .int a2] (wB M β 1 S) (wB M β 1 S) (some (.int r)) := by
  refine mc_of (cc := cX7_slowest) (maxL := 5) (ret := (some .int)) (by decide) rfl (Nat.le_of_ble_eq_true rfl) ?_
  intro p e s m args below meth c H ls hx hb hr hts hown hml hlocks hE hw hl
  have hl : lv_has ls 5 [(0, .ref (gA G (β + 0))), (1, .int a2)] := hl
  have k4 : ∀ (k : Nat), ∀ (x1 : Int32) (x2 : Int32) (x3 : Int32) (H : Heap) (locs : List Loc) (ls : Array Slot), pX7_slowest_l4  S k x1 x2 x3 = some r → mW G s (wB M β 1 S) H locs → lv_has ls 5 [(0, .ref (gA G (β + 0))), (1, .int x1), (2, .int x2), (3, .int x3)] → W p l e { frames := 2, cells := 0, slots := 0, locals := 43 } s m args below meth c H locs 0 0 (mZ below G (some (.int r)) (wB M β 1 S) args s) (F0 m 4 ls []) := by
    intro k
    induction k with
    | zero => intro x1 x2 x3 H locs ls h; cases h
    | succ k hih4 =>
      intro x1 x2 x3 H locs ls h hw hl
      obtain ⟨ih4, hk4⟩ : ∃ f, f = pX7_slowest_l4  S k := ⟨_, rfl⟩
      replace h : pX7_slowest_lb4  (pX7_slowest_l4  S k) S x1 x2 x3 = some r := h
      rw [← hk4] at h hih4
      clear hk4
      unfold pX7_slowest_lb4 at h
      refine lv_iload_n hx hb dX7_slowest_4 rfl (lv_at hl 3 rfl) ?_
      refine lv_aload_n hx hb dX7_slowest_5 rfl (lv_at hl 0 rfl) ?_
      refine lv_iload_n hx hb dX7_slowest_6 rfl (lv_at hl 1 rfl) ?_
      obtain ⟨v7, h7, h⟩ := cr1_some h
      refine r_callS (As := [.ref (gA G (β + 0)), .int x1]) (rest := [.int x3]) (st1 := [.int v7, .int x3]) hx hb hml hown hts hE hw hl (mX7_sizeOf l G (by omega) hR h7) (va_cwS 2 hts (zS gS_X7_64) rfl rfl rfl kdX7_sizeOf ⟨Nat.le_of_ble_eq_true rfl, Nat.le_of_ble_eq_true rfl⟩) rfl rfl (Nat.le_of_ble_eq_true rfl) dX7_slowest_7 ⟨Nat.zero_le _, Nat.zero_le _⟩ rfl (fun H locs hw => ?_)
      refine bi_ge (tgt := 50) hx hb dX7_slowest_10 (by decide) h (fun h => ?_) (fun h => ?_)
      · refine lv_iload_n hx hb dX7_slowest_50 rfl (lv_at hl 2 rfl) ?_
        exact e_i hx hb hr hlocks hw dX7_slowest_51 h
      · refine lv_aload_n hx hb dX7_slowest_13 rfl (lv_at hl 0 rfl) ?_
        refine lv_aload_n hx hb dX7_slowest_14 rfl (lv_at hl 0 rfl) ?_
        refine lv_iload_n hx hb dX7_slowest_15 rfl (lv_at hl 1 rfl) ?_
        refine lv_iload_n hx hb dX7_slowest_16 rfl (lv_at hl 3 rfl) ?_
        obtain ⟨v17, h17, h⟩ := cr1_some h
        refine r_callS (As := [.ref (gA G (β + 0)), .int x1, .int x3]) (rest := [.ref (gA G (β + 0))]) (st1 := [.int v17, .ref (gA G (β + 0))]) hx hb hml hown hts hE hw hl (mX7_who l G (by omega) hR h17) (va_cwS 3 hts (zS gS_X7_68) rfl rfl rfl kdX7_who ⟨Nat.le_of_ble_eq_true rfl, Nat.le_of_ble_eq_true rfl⟩) rfl rfl (Nat.le_of_ble_eq_true rfl) dX7_slowest_17 ⟨Nat.zero_le _, Nat.zero_le _⟩ rfl (fun H locs hw => ?_)
        refine lv_iconst (v := (nI 0)) hx hb dX7_slowest_20 (by decide) ?_
        obtain ⟨v21, h21, h⟩ := cr1_some h
        refine r_callS (As := [.int v17, .int (nI 0)]) (rest := [.ref (gA G (β + 0))]) (st1 := [.int v21, .ref (gA G (β + 0))]) hx hb hml hown hts hE hw hl (mX7_carAt l G (M := (wB M β 1 S)) h21) (va_cwS 2 hts (zS gS_X7_72) rfl rfl rfl kdX7_carAt ⟨Nat.le_of_ble_eq_true rfl, Nat.le_of_ble_eq_true rfl⟩) rfl rfl (Nat.le_of_ble_eq_true rfl) dX7_slowest_21 ⟨Nat.zero_le _, Nat.zero_le _⟩ rfl (fun H locs hw => ?_)
        refine p_iald hx hb hE hw hn 0 (by decide) (congrFun hR) dX7_slowest_24 h (fun v24 h => ?_)
        refine lv_istore (lv' := [(4, .int v24), (0, .ref (gA G (β + 0))), (1, .int x1), (2, .int x2), (3, .int x3)]) hx hb dX7_slowest_25 hl (by decide) rfl (fun ls hl => ?_)
        refine lv_iload_n hx hb dX7_slowest_27 rfl (lv_at hl 4 rfl) ?_
        refine b_eq (tgt := 37) hx hb dX7_slowest_28 (by decide) h (fun h => ?_) (fun h => ?_)
        · refine lv_iload hx hb dX7_slowest_37 (lv_at hl 0 rfl) ?_
          refine lv_goto (tgt := 43) hx hb dX7_slowest_39 (by decide) ?_
          refine lv_istore_n (lv' := [(2, .int v24), (4, .int v24), (0, .ref (gA G (β + 0))), (1, .int x1), (3, .int x3)]) hx hb dX7_slowest_43 rfl hl (by decide) rfl (fun ls hl => ?_)
          refine p_iinc (w := (nI 1)) 4 (fun v44 => [(3, .int v44), (2, .int v24), (4, .int v24), (0, .ref (gA G (β + 0))), (1, .int x1)]) hx hb dX7_slowest_44 hl rfl (by decide) (by decide) h (fun _ => rfl) (fun v44 h ls hl => ?_)
          refine lv_goto (tgt := 4) hx hb dX7_slowest_47 (by decide) ?_
          exact hih4 x1 v24 v44 _ _ _ h hw (lv_sub hl [3, 4, 1, 0] rfl)
        · refine lv_iload hx hb dX7_slowest_31 (lv_at hl 0 rfl) ?_
          refine lv_iload_n hx hb dX7_slowest_33 rfl (lv_at hl 3 rfl) ?_
          refine bi_ge (tgt := 42) hx hb dX7_slowest_34 (by decide) h (fun h => ?_) (fun h => ?_)
          · refine lv_iload_n hx hb dX7_slowest_42 rfl (lv_at hl 3 rfl) ?_
            refine lv_istore_n (lv' := [(2, .int x2), (4, .int v24), (0, .ref (gA G (β + 0))), (1, .int x1), (3, .int x3)]) hx hb dX7_slowest_43 rfl hl (by decide) rfl (fun ls hl => ?_)
            refine p_iinc (w := (nI 1)) 4 (fun v44 => [(3, .int v44), (2, .int x2), (4, .int v24), (0, .ref (gA G (β + 0))), (1, .int x1)]) hx hb dX7_slowest_44 hl rfl (by decide) (by decide) h (fun _ => rfl) (fun v44 h ls hl => ?_)
            refine lv_goto (tgt := 4) hx hb dX7_slowest_47 (by decide) ?_
            exact hih4 x1 x2 v44 _ _ _ h hw (lv_sub hl [3, 4, 1, 0] rfl)
          · refine lv_iload hx hb dX7_slowest_37 (lv_at hl 0 rfl) ?_
            refine lv_goto (tgt := 43) hx hb dX7_slowest_39 (by decide) ?_
            refine lv_istore_n (lv' := [(2, .int v24), (4, .int v24), (0, .ref (gA G (β + 0))), (1, .int x1), (3, .int x3)]) hx hb dX7_slowest_43 rfl hl (by decide) rfl (fun ls hl => ?_)
            refine p_iinc (w := (nI 1)) 4 (fun v44 => [(3, .int v44), (2, .int v24), (4, .int v24), (0, .ref (gA G (β + 0))), (1, .int x1)]) hx hb dX7_slowest_44 hl rfl (by decide) (by decide) h (fun _ => rfl) (fun v44 h ls hl => ?_)
            refine lv_goto (tgt := 4) hx hb dX7_slowest_47 (by decide) ?_
            exact hih4 x1 v24 v44 _ _ _ h hw (lv_sub hl [3, 4, 1, 0] rfl)
  unfold pX7_slowest at h
  refine lv_iconst (v := (nI 0)) hx hb dX7_slowest_0 (by decide) ?_
  refine lv_istore_n (lv' := [(2, .int (nI 0)), (0, .ref (gA G (β + 0))), (1, .int a2)]) hx hb dX7_slowest_1 rfl hl (by decide) rfl (fun ls hl => ?_)
  refine lv_iconst (v := (nI 0)) hx hb dX7_slowest_2 (by decide) ?_
  refine lv_istore_n (lv' := [(3, .int (nI 0)), (2, .int (nI 0)), (0, .ref (gA G (β + 0))), (1, .int a2)]) hx hb dX7_slowest_3 rfl hl (by decide) rfl (fun ls hl => ?_)
  exact k4 fuel a2 (nI 0) (nI 0) _ _ _ h hw (lv_sub hl [2, 3, 1, 0] rfl)

set_option maxHeartbeats 4000000 in
set_option maxRecDepth 100000 in
theorem mX7_isThere (l : Launch) (G : mG) {β : Nat} {M S : mM} {a2 : Int32} {r : Int32} (hn : β + 1 ≤ gN G) (hR : isRow G β) (h : pX7_isThere a2 S = some r) : MC l G yX7_isThere zzX7_isThere 1 21 [.ref (gA G (β + 0)), .int a2] (wB M β 1 S) (wB M β 1 S) (some (.int r)) := by
  refine mc_of (cc := cX7_isThere) (maxL := 2) (ret := (some .boolean)) (by decide) rfl (Nat.le_of_ble_eq_true rfl) ?_
  intro p e s m args below meth c H ls hx hb hr hts hown hml hlocks hE hw hl
  have hl : lv_has ls 2 [(0, .ref (gA G (β + 0))), (1, .int a2)] := hl
  unfold pX7_isThere at h
  refine lv_aload_n hx hb dX7_isThere_0 rfl (lv_at hl 0 rfl) ?_
  refine lv_iload_n hx hb dX7_isThere_1 rfl (lv_at hl 1 rfl) ?_
  refine lv_iconst (v := (nI 0)) hx hb dX7_isThere_2 (by decide) ?_
  obtain ⟨v3, h3, h⟩ := cr1_some h
  refine r_callS (As := [.int a2, .int (nI 0)]) (rest := [.ref (gA G (β + 0))]) (st1 := [.int v3, .ref (gA G (β + 0))]) hx hb hml hown hts hE hw hl (mX7_convoyAt l G (M := (wB M β 1 S)) h3) (va_cwS 2 hts (zS gS_X7_51) rfl rfl rfl kdX7_convoyAt ⟨Nat.le_of_ble_eq_true rfl, Nat.le_of_ble_eq_true rfl⟩) rfl rfl (Nat.le_of_ble_eq_true rfl) dX7_isThere_3 ⟨Nat.zero_le _, Nat.zero_le _⟩ rfl (fun H locs hw => ?_)
  refine p_iald hx hb hE hw hn 0 (by decide) (congrFun hR) dX7_isThere_6 h (fun v6 h => ?_)
  refine lv_aload_n hx hb dX7_isThere_7 rfl (lv_at hl 0 rfl) ?_
  refine lv_iconst (v := (nI 0)) hx hb dX7_isThere_8 (by decide) ?_
  refine p_iald hx hb hE hw hn 0 (by decide) (congrFun hR) dX7_isThere_9 h (fun v9 h => ?_)
  refine bi_ne (tgt := 17) hx hb dX7_isThere_10 (by decide) h (fun h => ?_) (fun h => ?_)
  · refine lv_iconst (v := (nI 0)) hx hb dX7_isThere_17 (by decide) ?_
    exact e_z hx hb hr hlocks hw dX7_isThere_18 h
  · refine lv_iconst (v := (nI 1)) hx hb dX7_isThere_13 (by decide) ?_
    refine lv_goto (tgt := 18) hx hb dX7_isThere_14 (by decide) ?_
    exact e_z hx hb hr hlocks hw dX7_isThere_18 h

set_option maxHeartbeats 4000000 in
set_option maxRecDepth 100000 in
theorem mX7_fill (l : Launch) (G : mG) {β : Nat} {M S S' : mM} {a2 : Int32} (hn : β + 1 ≤ gN G) (hR : isRow G β) (h : pX7_fill a2 S = some S') : MC l G yX7_fill zzX7_fill 2 44 [.ref (gA G (β + 0)), .int a2] (wB M β 1 S) (wB M β 1 S') none := by
  refine mc_of (cc := cX7_fill) (maxL := 7) (ret := none) (by decide) rfl (Nat.le_of_ble_eq_true rfl) ?_
  intro p e s m args below meth c H ls hx hb hr hts hown hml hlocks hE hw hl
  have hl : lv_has ls 7 [(0, .ref (gA G (β + 0))), (1, .int a2)] := hl
  have k80 : ∀ (ih14 : Int32 → Int32 → Int32 → mM → Option mM) (_ : ∀ (x1 : Int32) (x2 : Int32) (x3 : Int32) (S : mM) (H : Heap) (locs : List Loc) (ls : Array Slot), ih14 x1 x2 x3 S = some S' → mW G s (wB M β 1 S) H locs → lv_has ls 7 [(0, .ref (gA G (β + 0))), (1, .int x1), (2, .int x2), (3, .int x3)] → W p l e { frames := 2, cells := 0, slots := 0, locals := 44 } s m args below meth c H locs 0 0 (mZ below G none (wB M β 1 S') args s) (F0 m 14 ls [])), ∀ (x1 : Int32) (x2 : Int32) (x3 : Int32) (x4 : Int32) (t0 : Int32) (S : mM) (H : Heap) (locs : List Loc) (ls : Array Slot), pX7_fill_b80 ih14 x1 x2 x3 x4 t0 S = some S' → mW G s (wB M β 1 S) H locs → lv_has ls 7 [(0, .ref (gA G (β + 0))), (1, .int x1), (2, .int x2), (3, .int x3), (4, .int x4)] → W p l e { frames := 2, cells := 0, slots := 0, locals := 44 } s m args below meth c H locs 0 0 (mZ below G none (wB M β 1 S') args s) (F0 m 80 ls [.int t0]) := by
    intro ih14 hih14 x1 x2 x3 x4 t0 S H locs ls h hw hl
    unfold pX7_fill_b80 at h
    refine lv_istore (lv' := [(6, .int t0), (0, .ref (gA G (β + 0))), (1, .int x1), (2, .int x2), (3, .int x3), (4, .int x4)]) hx hb dX7_fill_80 hl (by decide) rfl (fun ls hl => ?_)
    refine lv_aload_n hx hb dX7_fill_82 rfl (lv_at hl 1 rfl) ?_
    refine lv_iload hx hb dX7_fill_83 (lv_at hl 5 rfl) ?_
    refine lv_iconst (v := (nI 3)) hx hb dX7_fill_85 (by decide) ?_
    obtain ⟨v86, h86, h⟩ := cr1_some h
    refine r_callS (As := [.int x4, .int (nI 3)]) (rest := [.ref (gA G (β + 0))]) (st1 := [.int v86, .ref (gA G (β + 0))]) hx hb hml hown hts hE hw hl (mX7_carAt l G (M := (wB M β 1 S)) h86) (va_cwS 2 hts (zS gS_X7_72) rfl rfl rfl kdX7_carAt ⟨Nat.le_of_ble_eq_true rfl, Nat.le_of_ble_eq_true rfl⟩) rfl rfl (Nat.le_of_ble_eq_true rfl) dX7_fill_86 ⟨Nat.zero_le _, Nat.zero_le _⟩ rfl (fun H locs hw => ?_)
    refine lv_dup2_11 hx hb dX7_fill_89 rfl rfl ?_
    refine p_iald hx hb hE hw hn 0 (by decide) (congrFun hR) dX7_fill_90 h (fun v90 h => ?_)
    refine lv_iload hx hb dX7_fill_91 (lv_at hl 0 rfl) ?_
    refine lv_iadd hx hb dX7_fill_93 ?_
    refine p_iast hx hb hE hw hn 0 (by decide) (congrFun hR) dX7_fill_94 h (fun S94 h H locs hw => ?_)
    refine lv_aload_n hx hb dX7_fill_95 rfl (lv_at hl 1 rfl) ?_
    refine lv_iload_n hx hb dX7_fill_96 rfl (lv_at hl 3 rfl) ?_
    refine lv_iconst (v := (nI 1)) hx hb dX7_fill_97 (by decide) ?_
    obtain ⟨v98, h98, h⟩ := cr1_some h
    refine r_callS (As := [.int x2, .int (nI 1)]) (rest := [.ref (gA G (β + 0))]) (st1 := [.int v98, .ref (gA G (β + 0))]) hx hb hml hown hts hE hw hl (mX7_depotAt l G (M := (wB M β 1 S94)) h98) (va_cwS 2 hts (zS gS_X7_61) rfl rfl rfl kdX7_depotAt ⟨Nat.le_of_ble_eq_true rfl, Nat.le_of_ble_eq_true rfl⟩) rfl rfl (Nat.le_of_ble_eq_true rfl) dX7_fill_98 ⟨Nat.zero_le _, Nat.zero_le _⟩ rfl (fun H locs hw => ?_)
    refine lv_dup2_11 hx hb dX7_fill_101 rfl rfl ?_
    refine p_iald hx hb hE hw hn 0 (by decide) (congrFun hR) dX7_fill_102 h (fun v102 h => ?_)
    refine lv_iload hx hb dX7_fill_103 (lv_at hl 0 rfl) ?_
    refine lv_isub hx hb dX7_fill_105 ?_
    refine p_iast hx hb hE hw hn 0 (by decide) (congrFun hR) dX7_fill_106 h (fun S106 h H locs hw => ?_)
    refine p_iinc (w := (nI 1)) 4 (fun v107 => [(3, .int v107), (6, .int t0), (0, .ref (gA G (β + 0))), (1, .int x1), (2, .int x2), (4, .int x4)]) hx hb dX7_fill_107 hl rfl (by decide) (by decide) h (fun _ => rfl) (fun v107 h ls hl => ?_)
    refine lv_goto (tgt := 14) hx hb dX7_fill_110 (by decide) ?_
    exact hih14 x1 x2 v107 S106 _ _ _ h hw (lv_sub hl [2, 3, 4, 0] rfl)
  have k14 : ∀ (k : Nat), ∀ (x1 : Int32) (x2 : Int32) (x3 : Int32) (S : mM) (H : Heap) (locs : List Loc) (ls : Array Slot), pX7_fill_l14  k x1 x2 x3 S = some S' → mW G s (wB M β 1 S) H locs → lv_has ls 7 [(0, .ref (gA G (β + 0))), (1, .int x1), (2, .int x2), (3, .int x3)] → W p l e { frames := 2, cells := 0, slots := 0, locals := 44 } s m args below meth c H locs 0 0 (mZ below G none (wB M β 1 S') args s) (F0 m 14 ls []) := by
    intro k
    induction k with
    | zero => intro x1 x2 x3 S H locs ls h; cases h
    | succ k hih14 =>
      intro x1 x2 x3 S H locs ls h hw hl
      obtain ⟨ih14, hk14⟩ : ∃ f, f = pX7_fill_l14  k := ⟨_, rfl⟩
      replace h : pX7_fill_lb14  (pX7_fill_l14  k) x1 x2 x3 S = some S' := h
      rw [← hk14] at h hih14
      clear hk14
      unfold pX7_fill_lb14 at h
      refine lv_iload_n hx hb dX7_fill_14 rfl (lv_at hl 3 rfl) ?_
      refine lv_aload_n hx hb dX7_fill_15 rfl (lv_at hl 0 rfl) ?_
      refine lv_iload_n hx hb dX7_fill_16 rfl (lv_at hl 1 rfl) ?_
      obtain ⟨v17, h17, h⟩ := cr1_some h
      refine r_callS (As := [.ref (gA G (β + 0)), .int x1]) (rest := [.int x3]) (st1 := [.int v17, .int x3]) hx hb hml hown hts hE hw hl (mX7_sizeOf l G (by omega) hR h17) (va_cwS 2 hts (zS gS_X7_64) rfl rfl rfl kdX7_sizeOf ⟨Nat.le_of_ble_eq_true rfl, Nat.le_of_ble_eq_true rfl⟩) rfl rfl (Nat.le_of_ble_eq_true rfl) dX7_fill_17 ⟨Nat.zero_le _, Nat.zero_le _⟩ rfl (fun H locs hw => ?_)
      refine bi_ge (tgt := 113) hx hb dX7_fill_20 (by decide) h (fun h => ?_) (fun h => ?_)
      · exact e_vw hx hb hr hlocks hw dX7_fill_113 h
      · refine lv_iload_n hx hb dX7_fill_23 rfl (lv_at hl 2 rfl) ?_
        refine lv_bipush (v := (-9)) hx hb dX7_fill_24 (by decide) ?_
        refine bi_eq (tgt := 113) hx hb dX7_fill_26 (by decide) h (fun h => ?_) (fun h => ?_)
        · exact e_vw hx hb hr hlocks hw dX7_fill_113 h
        · refine lv_aload_n hx hb dX7_fill_29 rfl (lv_at hl 0 rfl) ?_
          refine lv_iload_n hx hb dX7_fill_30 rfl (lv_at hl 1 rfl) ?_
          refine lv_iload_n hx hb dX7_fill_31 rfl (lv_at hl 3 rfl) ?_
          obtain ⟨v32, h32, h⟩ := cr1_some h
          refine r_callS (As := [.ref (gA G (β + 0)), .int x1, .int x3]) (rest := []) (st1 := [.int v32]) hx hb hml hown hts hE hw hl (mX7_who l G (by omega) hR h32) (va_cwS 3 hts (zS gS_X7_68) rfl rfl rfl kdX7_who ⟨Nat.le_of_ble_eq_true rfl, Nat.le_of_ble_eq_true rfl⟩) rfl rfl (Nat.le_of_ble_eq_true rfl) dX7_fill_32 ⟨Nat.zero_le _, Nat.zero_le _⟩ rfl (fun H locs hw => ?_)
          refine lv_istore (lv' := [(4, .int v32), (0, .ref (gA G (β + 0))), (1, .int x1), (2, .int x2), (3, .int x3)]) hx hb dX7_fill_35 hl (by decide) rfl (fun ls hl => ?_)
          refine lv_aload_n hx hb dX7_fill_37 rfl (lv_at hl 1 rfl) ?_
          refine lv_iload hx hb dX7_fill_38 (lv_at hl 0 rfl) ?_
          refine lv_iconst (v := (nI 2)) hx hb dX7_fill_40 (by decide) ?_
          obtain ⟨v41, h41, h⟩ := cr1_some h
          refine r_callS (As := [.int v32, .int (nI 2)]) (rest := [.ref (gA G (β + 0))]) (st1 := [.int v41, .ref (gA G (β + 0))]) hx hb hml hown hts hE hw hl (mX7_carAt l G (M := (wB M β 1 S)) h41) (va_cwS 2 hts (zS gS_X7_72) rfl rfl rfl kdX7_carAt ⟨Nat.le_of_ble_eq_true rfl, Nat.le_of_ble_eq_true rfl⟩) rfl rfl (Nat.le_of_ble_eq_true rfl) dX7_fill_41 ⟨Nat.zero_le _, Nat.zero_le _⟩ rfl (fun H locs hw => ?_)
          refine p_iald hx hb hE hw hn 0 (by decide) (congrFun hR) dX7_fill_44 h (fun v44 h => ?_)
          refine lv_aload_n hx hb dX7_fill_45 rfl (lv_at hl 1 rfl) ?_
          refine lv_iload hx hb dX7_fill_46 (lv_at hl 0 rfl) ?_
          refine lv_iconst (v := (nI 3)) hx hb dX7_fill_48 (by decide) ?_
          obtain ⟨v49, h49, h⟩ := cr1_some h
          refine r_callS (As := [.int v32, .int (nI 3)]) (rest := [.ref (gA G (β + 0)), .int v44]) (st1 := [.int v49, .ref (gA G (β + 0)), .int v44]) hx hb hml hown hts hE hw hl (mX7_carAt l G (M := (wB M β 1 S)) h49) (va_cwS 2 hts (zS gS_X7_72) rfl rfl rfl kdX7_carAt ⟨Nat.le_of_ble_eq_true rfl, Nat.le_of_ble_eq_true rfl⟩) rfl rfl (Nat.le_of_ble_eq_true rfl) dX7_fill_49 ⟨Nat.zero_le _, Nat.zero_le _⟩ rfl (fun H locs hw => ?_)
          refine p_iald hx hb hE hw hn 0 (by decide) (congrFun hR) dX7_fill_52 h (fun v52 h => ?_)
          refine lv_isub hx hb dX7_fill_53 ?_
          refine p_topi h (fun v54 h => ?_)
          refine lv_istore (lv' := [(5, .int v54), (4, .int v32), (0, .ref (gA G (β + 0))), (1, .int x1), (2, .int x2), (3, .int x3)]) hx hb dX7_fill_54 hl (by decide) rfl (fun ls hl => ?_)
          refine lv_iload hx hb dX7_fill_56 (lv_at hl 0 rfl) ?_
          refine lv_aload_n hx hb dX7_fill_58 rfl (lv_at hl 2 rfl) ?_
          refine lv_iload_n hx hb dX7_fill_59 rfl (lv_at hl 4 rfl) ?_
          refine lv_iconst (v := (nI 1)) hx hb dX7_fill_60 (by decide) ?_
          obtain ⟨v61, h61, h⟩ := cr1_some h
          refine r_callS (As := [.int x2, .int (nI 1)]) (rest := [.ref (gA G (β + 0)), .int v54]) (st1 := [.int v61, .ref (gA G (β + 0)), .int v54]) hx hb hml hown hts hE hw hl (mX7_depotAt l G (M := (wB M β 1 S)) h61) (va_cwS 2 hts (zS gS_X7_61) rfl rfl rfl kdX7_depotAt ⟨Nat.le_of_ble_eq_true rfl, Nat.le_of_ble_eq_true rfl⟩) rfl rfl (Nat.le_of_ble_eq_true rfl) dX7_fill_61 ⟨Nat.zero_le _, Nat.zero_le _⟩ rfl (fun H locs hw => ?_)
          refine p_iald hx hb hE hw hn 0 (by decide) (congrFun hR) dX7_fill_64 h (fun v64 h => ?_)
          refine bi_ge (tgt := 73) hx hb dX7_fill_65 (by decide) h (fun h => ?_) (fun h => ?_)
          · refine lv_aload_n hx hb dX7_fill_73 rfl (lv_at hl 2 rfl) ?_
            refine lv_iload_n hx hb dX7_fill_74 rfl (lv_at hl 4 rfl) ?_
            refine lv_iconst (v := (nI 1)) hx hb dX7_fill_75 (by decide) ?_
            obtain ⟨v76, h76, h⟩ := cr1_some h
            refine r_callS (As := [.int x2, .int (nI 1)]) (rest := [.ref (gA G (β + 0))]) (st1 := [.int v76, .ref (gA G (β + 0))]) hx hb hml hown hts hE hw hl (mX7_depotAt l G (M := (wB M β 1 S)) h76) (va_cwS 2 hts (zS gS_X7_61) rfl rfl rfl kdX7_depotAt ⟨Nat.le_of_ble_eq_true rfl, Nat.le_of_ble_eq_true rfl⟩) rfl rfl (Nat.le_of_ble_eq_true rfl) dX7_fill_76 ⟨Nat.zero_le _, Nat.zero_le _⟩ rfl (fun H locs hw => ?_)
            refine p_iald hx hb hE hw hn 0 (by decide) (congrFun hR) dX7_fill_79 h (fun v79 h => ?_)
            exact k80 ih14 hih14 x1 x2 x3 v32 v79 S _ _ _ h hw (lv_sub hl [2, 3, 4, 5, 1] rfl)
          · refine lv_iload hx hb dX7_fill_68 (lv_at hl 0 rfl) ?_
            refine lv_goto (tgt := 80) hx hb dX7_fill_70 (by decide) ?_
            exact k80 ih14 hih14 x1 x2 x3 v32 v54 S _ _ _ h hw (lv_sub hl [2, 3, 4, 5, 1] rfl)
  unfold pX7_fill at h
  refine lv_aload_n hx hb dX7_fill_0 rfl (lv_at hl 0 rfl) ?_
  refine lv_aload_n hx hb dX7_fill_1 rfl (lv_at hl 0 rfl) ?_
  refine lv_iload_n hx hb dX7_fill_2 rfl (lv_at hl 1 rfl) ?_
  refine lv_iconst (v := (nI 0)) hx hb dX7_fill_3 (by decide) ?_
  obtain ⟨v4, h4, h⟩ := cr1_some h
  refine r_callS (As := [.int a2, .int (nI 0)]) (rest := [.ref (gA G (β + 0)), .ref (gA G (β + 0))]) (st1 := [.int v4, .ref (gA G (β + 0)), .ref (gA G (β + 0))]) hx hb hml hown hts hE hw hl (mX7_convoyAt l G (M := (wB M β 1 S)) h4) (va_cwS 2 hts (zS gS_X7_51) rfl rfl rfl kdX7_convoyAt ⟨Nat.le_of_ble_eq_true rfl, Nat.le_of_ble_eq_true rfl⟩) rfl rfl (Nat.le_of_ble_eq_true rfl) dX7_fill_4 ⟨Nat.zero_le _, Nat.zero_le _⟩ rfl (fun H locs hw => ?_)
  refine p_iald hx hb hE hw hn 0 (by decide) (congrFun hR) dX7_fill_7 h (fun v7 h => ?_)
  obtain ⟨v8, h8, h⟩ := cr1_some h
  refine r_callS (As := [.ref (gA G (β + 0)), .int v7]) (rest := []) (st1 := [.int v8]) hx hb hml hown hts hE hw hl (mX7_depotOn l G (by omega) hR h8) (va_cwS 2 hts (zS gS_X7_75) rfl rfl rfl kdX7_depotOn ⟨Nat.le_of_ble_eq_true rfl, Nat.le_of_ble_eq_true rfl⟩) rfl rfl (Nat.le_of_ble_eq_true rfl) dX7_fill_8 ⟨Nat.zero_le _, Nat.zero_le _⟩ rfl (fun H locs hw => ?_)
  refine lv_istore_n (lv' := [(2, .int v8), (0, .ref (gA G (β + 0))), (1, .int a2)]) hx hb dX7_fill_11 rfl hl (by decide) rfl (fun ls hl => ?_)
  refine lv_iconst (v := (nI 0)) hx hb dX7_fill_12 (by decide) ?_
  refine lv_istore_n (lv' := [(3, .int (nI 0)), (2, .int v8), (0, .ref (gA G (β + 0))), (1, .int a2)]) hx hb dX7_fill_13 rfl hl (by decide) rfl (fun ls hl => ?_)
  exact k14 fuel a2 v8 (nI 0) S _ _ _ h hw (lv_sub hl [2, 3, 1, 0] rfl)

set_option maxHeartbeats 4000000 in
set_option maxRecDepth 100000 in
theorem mX7_isShort (l : Launch) (G : mG) {β : Nat} {M S : mM} {a2 : Int32} {r : Int32} (hn : β + 1 ≤ gN G) (hR : isRow G β) (h : pX7_isShort a2 S = some r) : MC l G yX7_isShort zzX7_isShort 1 21 [.ref (gA G (β + 0)), .int a2] (wB M β 1 S) (wB M β 1 S) (some (.int r)) := by
  refine mc_of (cc := cX7_isShort) (maxL := 2) (ret := (some .boolean)) (by decide) rfl (Nat.le_of_ble_eq_true rfl) ?_
  intro p e s m args below meth c H ls hx hb hr hts hown hml hlocks hE hw hl
  have hl : lv_has ls 2 [(0, .ref (gA G (β + 0))), (1, .int a2)] := hl
  unfold pX7_isShort at h
  refine lv_aload_n hx hb dX7_isShort_0 rfl (lv_at hl 0 rfl) ?_
  refine lv_iload_n hx hb dX7_isShort_1 rfl (lv_at hl 1 rfl) ?_
  refine lv_iconst (v := (nI 3)) hx hb dX7_isShort_2 (by decide) ?_
  obtain ⟨v3, h3, h⟩ := cr1_some h
  refine r_callS (As := [.int a2, .int (nI 3)]) (rest := [.ref (gA G (β + 0))]) (st1 := [.int v3, .ref (gA G (β + 0))]) hx hb hml hown hts hE hw hl (mX7_carAt l G (M := (wB M β 1 S)) h3) (va_cwS 2 hts (zS gS_X7_72) rfl rfl rfl kdX7_carAt ⟨Nat.le_of_ble_eq_true rfl, Nat.le_of_ble_eq_true rfl⟩) rfl rfl (Nat.le_of_ble_eq_true rfl) dX7_isShort_3 ⟨Nat.zero_le _, Nat.zero_le _⟩ rfl (fun H locs hw => ?_)
  refine p_iald hx hb hE hw hn 0 (by decide) (congrFun hR) dX7_isShort_6 h (fun v6 h => ?_)
  refine lv_aload_n hx hb dX7_isShort_7 rfl (lv_at hl 0 rfl) ?_
  refine lv_iload_n hx hb dX7_isShort_8 rfl (lv_at hl 1 rfl) ?_
  refine lv_iconst (v := (nI 1)) hx hb dX7_isShort_9 (by decide) ?_
  obtain ⟨v10, h10, h⟩ := cr1_some h
  refine r_callS (As := [.int a2, .int (nI 1)]) (rest := [.ref (gA G (β + 0)), .int v6]) (st1 := [.int v10, .ref (gA G (β + 0)), .int v6]) hx hb hml hown hts hE hw hl (mX7_carAt l G (M := (wB M β 1 S)) h10) (va_cwS 2 hts (zS gS_X7_72) rfl rfl rfl kdX7_carAt ⟨Nat.le_of_ble_eq_true rfl, Nat.le_of_ble_eq_true rfl⟩) rfl rfl (Nat.le_of_ble_eq_true rfl) dX7_isShort_10 ⟨Nat.zero_le _, Nat.zero_le _⟩ rfl (fun H locs hw => ?_)
  refine p_iald hx hb hE hw hn 0 (by decide) (congrFun hR) dX7_isShort_13 h (fun v13 h => ?_)
  refine bi_ge (tgt := 21) hx hb dX7_isShort_14 (by decide) h (fun h => ?_) (fun h => ?_)
  · refine lv_iconst (v := (nI 0)) hx hb dX7_isShort_21 (by decide) ?_
    exact e_z hx hb hr hlocks hw dX7_isShort_22 h
  · refine lv_iconst (v := (nI 1)) hx hb dX7_isShort_17 (by decide) ?_
    refine lv_goto (tgt := 22) hx hb dX7_isShort_18 (by decide) ?_
    exact e_z hx hb hr hlocks hw dX7_isShort_22 h

set_option maxHeartbeats 4000000 in
set_option maxRecDepth 100000 in
theorem mX7_drop (l : Launch) (G : mG) {β : Nat} {M S S' : mM} {a2 : Int32} {a3 : Int32} {a4 : Int32} (hn : β + 1 ≤ gN G) (hR : isRow G β) (h : pX7_drop a2 a3 a4 S = some S') : MC l G yX7_drop zzX7_drop 0 0 [.ref (gA G (β + 0)), .int a2, .int a3, .int a4] (wB M β 1 S) (wB M β 1 S') none := by
  refine mc_of (cc := cX7_drop) (maxL := 5) (ret := none) (by decide) rfl (Nat.le_of_ble_eq_true rfl) ?_
  intro p e s m args below meth c H ls hx hb hr hts hown hml hlocks hE hw hl
  have hl : lv_has ls 5 [(0, .ref (gA G (β + 0))), (1, .int a2), (2, .int a3), (3, .int a4)] := hl
  have k3 : ∀ (k : Nat), ∀ (x1 : Int32) (x3 : Int32) (x4 : Int32) (S : mM) (H : Heap) (locs : List Loc) (ls : Array Slot), pX7_drop_l3  k x1 x3 x4 S = some S' → mW G s (wB M β 1 S) H locs → lv_has ls 5 [(0, .ref (gA G (β + 0))), (1, .int x1), (3, .int x3), (4, .int x4)] → W p l e { frames := 0, cells := 0, slots := 0, locals := 0 } s m args below meth c H locs 0 0 (mZ below G none (wB M β 1 S') args s) (F0 m 3 ls []) := by
    intro k
    induction k with
    | zero => intro x1 x3 x4 S H locs ls h; cases h
    | succ k hih3 =>
      intro x1 x3 x4 S H locs ls h hw hl
      obtain ⟨ih3, hk3⟩ : ∃ f, f = pX7_drop_l3  k := ⟨_, rfl⟩
      replace h : pX7_drop_lb3  (pX7_drop_l3  k) x1 x3 x4 S = some S' := h
      rw [← hk3] at h hih3
      clear hk3
      unfold pX7_drop_lb3 at h
      refine lv_iload hx hb dX7_drop_3 (lv_at hl 3 rfl) ?_
      refine lv_iload_n hx hb dX7_drop_5 rfl (lv_at hl 2 rfl) ?_
      refine lv_iconst (v := (nI 1)) hx hb dX7_drop_6 (by decide) ?_
      refine lv_isub hx hb dX7_drop_7 ?_
      refine bi_ge (tgt := 31) hx hb dX7_drop_8 (by decide) h (fun h => ?_) (fun h => ?_)
      · exact e_vw hx hb hr hlocks hw dX7_drop_31 h
      · refine lv_aload_n hx hb dX7_drop_11 rfl (lv_at hl 0 rfl) ?_
        refine lv_iload_n hx hb dX7_drop_12 rfl (lv_at hl 1 rfl) ?_
        refine lv_iload hx hb dX7_drop_13 (lv_at hl 3 rfl) ?_
        refine lv_iadd hx hb dX7_drop_15 ?_
        refine lv_aload_n hx hb dX7_drop_16 rfl (lv_at hl 0 rfl) ?_
        refine lv_iload_n hx hb dX7_drop_17 rfl (lv_at hl 1 rfl) ?_
        refine lv_iload hx hb dX7_drop_18 (lv_at hl 3 rfl) ?_
        refine lv_iadd hx hb dX7_drop_20 ?_
        refine lv_iconst (v := (nI 1)) hx hb dX7_drop_21 (by decide) ?_
        refine lv_iadd hx hb dX7_drop_22 ?_
        refine p_iald hx hb hE hw hn 0 (by decide) (congrFun hR) dX7_drop_23 h (fun v23 h => ?_)
        refine p_iast hx hb hE hw hn 0 (by decide) (congrFun hR) dX7_drop_24 h (fun S24 h H locs hw => ?_)
        refine p_iinc (w := (nI 1)) 3 (fun v25 => [(4, .int v25), (0, .ref (gA G (β + 0))), (1, .int x1), (3, .int x3)]) hx hb dX7_drop_25 hl rfl (by decide) (by decide) h (fun _ => rfl) (fun v25 h ls hl => ?_)
        refine lv_goto (tgt := 3) hx hb dX7_drop_28 (by decide) ?_
        exact hih3 x1 x3 v25 S24 _ _ _ h hw (lv_sub hl [1, 2, 3, 0] rfl)
  unfold pX7_drop at h
  refine lv_iload_n hx hb dX7_drop_0 rfl (lv_at hl 2 rfl) ?_
  refine lv_istore (lv' := [(4, .int a3), (0, .ref (gA G (β + 0))), (1, .int a2), (2, .int a3), (3, .int a4)]) hx hb dX7_drop_1 hl (by decide) rfl (fun ls hl => ?_)
  exact k3 fuel a2 a4 a3 S _ _ _ h hw (lv_sub hl [1, 2, 4, 0] rfl)
