/-! ===== walks, by program ===== -/
set_option maxHeartbeats 4000000 in
set_option maxRecDepth 100000 in
theorem mX2_copyFrom (l : Launch) (G : mG) {β : Nat} {M S S' : mM} {b1 b2 n1 n2 : Nat} (hn : β + 316 ≤ gN G) (hR : isWR G β) (h1 : b1 + 3 ≤ 316) (h2 : b2 + 3 ≤ 316) (hs1 : isLin G (β + b1) n1 n2) (hs2 : isLin G (β + b2) n1 n2) (h : pX2_copyFrom b1 b2 n1 n2 S = some S') : MC l G yX2_copyFrom zzX2_copyFrom 1 18 [.ref (gA G (β + b1)), .ref (gA G (β + b2))] (wB M β 316 S) (wB M β 316 S') none := by
  refine mc_of (cc := cX2_copyFrom) (maxL := 2) (ret := none) (by decide) rfl (Nat.le_of_ble_eq_true rfl) ?_
  intro p e s m args below meth c H ls hx hb hr hts hown hml hlocks hE hw hl
  have hl : lv_has ls 2 [(0, .ref (gA G (β + b1))), (1, .ref (gA G (β + b2)))] := hl
  have hinX2 : ∀ w ∈ wsX20, w ∈ zzX2_copyFrom := fun w h9 => wz_in (zinX2 w h9)
  unfold pX2_copyFrom at h
  refine lv_aload_n hx hb dX2_copyFrom_0 rfl (lv_at hl 1 rfl) ?_
  refine r_get (v := .ref (gA G (β + (b2 + 1)))) hx hb hts hinX2 hown hE hw hn b2 (by omega) (congrFun hs2.1 _) rfl 1 (by decide) (hts _ (wz_in qF_X2_21)) rfl dX2_copyFrom_1 ?_
  refine lv_iconst (v := (nI 0)) hx hb dX2_copyFrom_4 (by decide) ?_
  refine lv_aload_n hx hb dX2_copyFrom_5 rfl (lv_at hl 0 rfl) ?_
  refine r_get (v := .ref (gA G (β + (b1 + 1)))) hx hb hts hinX2 hown hE hw hn b1 (by omega) (congrFun hs1.1 _) rfl 1 (by decide) (hts _ (wz_in qF_X2_21)) rfl dX2_copyFrom_6 ?_
  refine lv_iconst (v := (nI 0)) hx hb dX2_copyFrom_9 (by decide) ?_
  refine lv_aload_n hx hb dX2_copyFrom_10 rfl (lv_at hl 1 rfl) ?_
  refine r_get (v := .ref (gA G (β + (b2 + 1)))) hx hb hts hinX2 hown hE hw hn b2 (by omega) (congrFun hs2.1 _) rfl 1 (by decide) (hts _ (wz_in qF_X2_21)) rfl dX2_copyFrom_11 ?_
  refine r_alen (v := nI n1) hx hb hE hw hn (b2 + 1) 0 (by omega) (congrFun hs2.2.1 _) rfl rfl dX2_copyFrom_14 ?_
  refine lv_aload_n hx hb dX2_copyFrom_15 rfl (lv_at hl 0 rfl) ?_
  refine r_get (v := .ref (gA G (β + (b1 + 1)))) hx hb hts hinX2 hown hE hw hn b1 (by omega) (congrFun hs1.1 _) rfl 1 (by decide) (hts _ (wz_in qF_X2_21)) rfl dX2_copyFrom_16 ?_
  refine r_alen (v := nI n1) hx hb hE hw hn (b1 + 1) 0 (by omega) (congrFun hs1.2.1 _) rfl rfl dX2_copyFrom_19 ?_
  refine va_mmin hx hb (hml.trans hl.1.symm) hown (hts _ (wz_in qM_X2_35)) (hts _ (wz_in qT_min)) (hts _ (wz_in qN_J9)) (hts _ (wz_in qC_min)) (Nat.le_of_ble_eq_true rfl) (Nat.le_of_ble_eq_true rfl) (Nat.zero_le _) (Nat.zero_le _) dX2_copyFrom_20 ?_
  refine p_topi h (fun v20 h => ?_)
  refine p_copy hx hb hml hl hown (hts _ (wz_in qM_X2_38)) (hts _ (wz_in qO_arraycopy)) (hts _ (wz_in qT_arraycopy)) (hts _ (wz_in qN_J10)) hE hw hn (b2 + 1) (b1 + 1) (by omega) (by omega) (congrFun hs2.2.1) (congrFun hs1.2.1) (Nat.le_of_ble_eq_true rfl) (by decide) dX2_copyFrom_23 h (fun S23 h H locs hw => ?_)
  refine lv_aload_n hx hb dX2_copyFrom_26 rfl (lv_at hl 1 rfl) ?_
  refine r_get (v := .ref (gA G (β + (b2 + 2)))) hx hb hts hinX2 hown hE hw hn b2 (by omega) (congrFun hs2.1 _) rfl 2 (by decide) (hts _ (wz_in qF_X2_25)) rfl dX2_copyFrom_27 ?_
  refine lv_iconst (v := (nI 0)) hx hb dX2_copyFrom_30 (by decide) ?_
  refine lv_aload_n hx hb dX2_copyFrom_31 rfl (lv_at hl 0 rfl) ?_
  refine r_get (v := .ref (gA G (β + (b1 + 2)))) hx hb hts hinX2 hown hE hw hn b1 (by omega) (congrFun hs1.1 _) rfl 2 (by decide) (hts _ (wz_in qF_X2_25)) rfl dX2_copyFrom_32 ?_
  refine lv_iconst (v := (nI 0)) hx hb dX2_copyFrom_35 (by decide) ?_
  refine lv_aload_n hx hb dX2_copyFrom_36 rfl (lv_at hl 1 rfl) ?_
  refine r_get (v := .ref (gA G (β + (b2 + 2)))) hx hb hts hinX2 hown hE hw hn b2 (by omega) (congrFun hs2.1 _) rfl 2 (by decide) (hts _ (wz_in qF_X2_25)) rfl dX2_copyFrom_37 ?_
  refine r_alen (v := nI n2) hx hb hE hw hn (b2 + 2) 0 (by omega) (congrFun hs2.2.2 _) rfl rfl dX2_copyFrom_40 ?_
  refine lv_aload_n hx hb dX2_copyFrom_41 rfl (lv_at hl 0 rfl) ?_
  refine r_get (v := .ref (gA G (β + (b1 + 2)))) hx hb hts hinX2 hown hE hw hn b1 (by omega) (congrFun hs1.1 _) rfl 2 (by decide) (hts _ (wz_in qF_X2_25)) rfl dX2_copyFrom_42 ?_
  refine r_alen (v := nI n2) hx hb hE hw hn (b1 + 2) 0 (by omega) (congrFun hs1.2.2 _) rfl rfl dX2_copyFrom_45 ?_
  refine va_mmin hx hb (hml.trans hl.1.symm) hown (hts _ (wz_in qM_X2_35)) (hts _ (wz_in qT_min)) (hts _ (wz_in qN_J9)) (hts _ (wz_in qC_min)) (Nat.le_of_ble_eq_true rfl) (Nat.le_of_ble_eq_true rfl) (Nat.zero_le _) (Nat.zero_le _) dX2_copyFrom_46 ?_
  refine p_topi h (fun v46 h => ?_)
  refine p_copy hx hb hml hl hown (hts _ (wz_in qM_X2_38)) (hts _ (wz_in qO_arraycopy)) (hts _ (wz_in qT_arraycopy)) (hts _ (wz_in qN_J10)) hE hw hn (b2 + 2) (b1 + 2) (by omega) (by omega) (congrFun hs2.2.2) (congrFun hs1.2.2) (Nat.le_of_ble_eq_true rfl) (by decide) dX2_copyFrom_49 h (fun S49 h H locs hw => ?_)
  exact e_vw hx hb hr hlocks hw dX2_copyFrom_52 h

set_option maxHeartbeats 4000000 in
set_option maxRecDepth 100000 in
theorem mX5_copyFrom (l : Launch) (G : mG) {β : Nat} {M S S' : mM} {b1 b2 n : Nat} (hn : β + 316 ≤ gN G) (hR : isWR G β) (h1 : b1 + 2 ≤ 316) (h2 : b2 + 2 ≤ 316) (hs1 : isTab G (β + b1) n) (hs2 : isTab G (β + b2) n) (h : pX5_copyFrom b1 b2 n S = some S') : MC l G yX5_copyFrom zzX5_copyFrom 1 18 [.ref (gA G (β + b1)), .ref (gA G (β + b2))] (wB M β 316 S) (wB M β 316 S') none := by
  refine mc_of (cc := cX5_copyFrom) (maxL := 2) (ret := none) (by decide) rfl (Nat.le_of_ble_eq_true rfl) ?_
  intro p e s m args below meth c H ls hx hb hr hts hown hml hlocks hE hw hl
  have hl : lv_has ls 2 [(0, .ref (gA G (β + b1))), (1, .ref (gA G (β + b2)))] := hl
  have hinX5 : ∀ w ∈ wsX50, w ∈ zzX5_copyFrom := fun w h9 => wz_in (zinX5 w h9)
  unfold pX5_copyFrom at h
  refine lv_aload_n hx hb dX5_copyFrom_0 rfl (lv_at hl 0 rfl) ?_
  refine lv_aload_n hx hb dX5_copyFrom_1 rfl (lv_at hl 1 rfl) ?_
  refine p_get hx hb hts hinX5 hown hE hw hn b2 (by omega) (congrFun hs2.1 _) rfl 3 (by decide) (hts _ (wz_in qF_X5_28)) rfl dX5_copyFrom_2 h (fun v2 h => ?_)
  refine p_put hx hb hts hinX5 tyX5 tyX5_ok nmX5 hown hE hw hn b1 (by omega) (congrFun hs1.1 _) rfl 3 (by decide) (hts _ (wz_in qF_X5_28)) rfl (by decide +kernel) (Nat.le_of_ble_eq_true rfl) (congrFun hs1.1 _) dX5_copyFrom_5 h (fun S5 h H locs hw => ?_)
  refine lv_aload_n hx hb dX5_copyFrom_8 rfl (lv_at hl 1 rfl) ?_
  refine r_get (v := .ref (gA G (β + (b2 + 1)))) hx hb hts hinX5 hown hE hw hn b2 (by omega) (congrFun hs2.1 _) rfl 2 (by decide) (hts _ (wz_in qF_X5_24)) rfl dX5_copyFrom_9 ?_
  refine lv_iconst (v := (nI 0)) hx hb dX5_copyFrom_12 (by decide) ?_
  refine lv_aload_n hx hb dX5_copyFrom_13 rfl (lv_at hl 0 rfl) ?_
  refine r_get (v := .ref (gA G (β + (b1 + 1)))) hx hb hts hinX5 hown hE hw hn b1 (by omega) (congrFun hs1.1 _) rfl 2 (by decide) (hts _ (wz_in qF_X5_24)) rfl dX5_copyFrom_14 ?_
  refine lv_iconst (v := (nI 0)) hx hb dX5_copyFrom_17 (by decide) ?_
  refine lv_aload_n hx hb dX5_copyFrom_18 rfl (lv_at hl 1 rfl) ?_
  refine r_get (v := .ref (gA G (β + (b2 + 1)))) hx hb hts hinX5 hown hE hw hn b2 (by omega) (congrFun hs2.1 _) rfl 2 (by decide) (hts _ (wz_in qF_X5_24)) rfl dX5_copyFrom_19 ?_
  refine r_alen (v := nI n) hx hb hE hw hn (b2 + 1) 0 (by omega) (congrFun hs2.2 _) rfl rfl dX5_copyFrom_22 ?_
  refine lv_aload_n hx hb dX5_copyFrom_23 rfl (lv_at hl 0 rfl) ?_
  refine r_get (v := .ref (gA G (β + (b1 + 1)))) hx hb hts hinX5 hown hE hw hn b1 (by omega) (congrFun hs1.1 _) rfl 2 (by decide) (hts _ (wz_in qF_X5_24)) rfl dX5_copyFrom_24 ?_
  refine r_alen (v := nI n) hx hb hE hw hn (b1 + 1) 0 (by omega) (congrFun hs1.2 _) rfl rfl dX5_copyFrom_27 ?_
  refine va_mmin hx hb (hml.trans hl.1.symm) hown (hts _ (wz_in qM_X5_38)) (hts _ (wz_in qT_min)) (hts _ (wz_in qN_J9)) (hts _ (wz_in qC_min)) (Nat.le_of_ble_eq_true rfl) (Nat.le_of_ble_eq_true rfl) (Nat.zero_le _) (Nat.zero_le _) dX5_copyFrom_28 ?_
  refine p_topi h (fun v28 h => ?_)
  refine p_copy hx hb hml hl hown (hts _ (wz_in qM_X5_41)) (hts _ (wz_in qO_arraycopy)) (hts _ (wz_in qT_arraycopy)) (hts _ (wz_in qN_J10)) hE hw hn (b2 + 1) (b1 + 1) (by omega) (by omega) (congrFun hs2.2) (congrFun hs1.2) (Nat.le_of_ble_eq_true rfl) (by decide) dX5_copyFrom_31 h (fun S31 h H locs hw => ?_)
  exact e_vw hx hb hr hlocks hw dX5_copyFrom_34 h

set_option maxHeartbeats 4000000 in
set_option maxRecDepth 100000 in
theorem mX2_size (l : Launch) (G : mG) {β : Nat} {M S : mM} {n1 n2 : Nat} {a1 : Int32} {r : Int32} (hn : β + 3 ≤ gN G) (hR : isLin G β n1 n2) (h : pX2_size n1 n2 a1 S = some r) : MC l G yX2_size zzX2_size 0 0 [.ref (gA G (β + 0)), .int a1] (wB M β 3 S) (wB M β 3 S) (some (.int r)) := by
  refine mc_of (cc := cX2_size) (maxL := 2) (ret := (some .int)) (by decide) rfl (Nat.le_of_ble_eq_true rfl) ?_
  intro p e s m args below meth c H ls hx hb hr hts hown hml hlocks hE hw hl
  have hl : lv_has ls 2 [(0, .ref (gA G (β + 0))), (1, .int a1)] := hl
  have hinX2 : ∀ w ∈ wsX20, w ∈ zzX2_size := fun w h9 => wz_in (zinX2 w h9)
  unfold pX2_size at h
  refine lv_iload_n hx hb dX2_size_0 rfl (lv_at hl 1 rfl) ?_
  refine b_lt (tgt := 22) hx hb dX2_size_1 (by decide) h (fun h => ?_) (fun h => ?_)
  · refine lv_iconst (v := (nI 0)) hx hb dX2_size_22 (by decide) ?_
    exact e_i hx hb hr hlocks hw dX2_size_23 h
  · refine lv_iload_n hx hb dX2_size_4 rfl (lv_at hl 1 rfl) ?_
    refine lv_aload_n hx hb dX2_size_5 rfl (lv_at hl 0 rfl) ?_
    refine r_get (v := .ref (gA G (β + 1))) hx hb hts hinX2 hown hE hw hn 0 (by decide) (congrFun hR.1 _) rfl 1 (by decide) (hts _ (wz_in qF_X2_21)) rfl dX2_size_6 ?_
    refine r_alen (v := nI n1) hx hb hE hw hn 1 0 (by decide) (congrFun hR.2.1 _) rfl rfl dX2_size_9 ?_
    refine bi_ge (tgt := 22) hx hb dX2_size_10 (by decide) h (fun h => ?_) (fun h => ?_)
    · refine lv_iconst (v := (nI 0)) hx hb dX2_size_22 (by decide) ?_
      exact e_i hx hb hr hlocks hw dX2_size_23 h
    · refine lv_aload_n hx hb dX2_size_13 rfl (lv_at hl 0 rfl) ?_
      refine r_get (v := .ref (gA G (β + 1))) hx hb hts hinX2 hown hE hw hn 0 (by decide) (congrFun hR.1 _) rfl 1 (by decide) (hts _ (wz_in qF_X2_21)) rfl dX2_size_14 ?_
      refine lv_iload_n hx hb dX2_size_17 rfl (lv_at hl 1 rfl) ?_
      refine p_iald hx hb hE hw hn 1 (by decide) (congrFun hR.2.1) dX2_size_18 h (fun v18 h => ?_)
      refine lv_goto (tgt := 23) hx hb dX2_size_19 (by decide) ?_
      exact e_i hx hb hr hlocks hw dX2_size_23 h

set_option maxHeartbeats 4000000 in
set_option maxRecDepth 100000 in
theorem mX5_has (l : Launch) (G : mG) {β : Nat} {M S : mM} {n : Nat} {a1 : Int32} {r : Int32} (hn : β + 2 ≤ gN G) (hR : isTab G β n) (h : pX5_has n a1 S = some r) : MC l G yX5_has zzX5_has 0 0 [.ref (gA G (β + 0)), .int a1] (wB M β 2 S) (wB M β 2 S) (some (.int r)) := by
  refine mc_of (cc := cX5_has) (maxL := 2) (ret := (some .boolean)) (by decide) rfl (Nat.le_of_ble_eq_true rfl) ?_
  intro p e s m args below meth c H ls hx hb hr hts hown hml hlocks hE hw hl
  have hl : lv_has ls 2 [(0, .ref (gA G (β + 0))), (1, .int a1)] := hl
  have hinX5 : ∀ w ∈ wsX50, w ∈ zzX5_has := fun w h9 => wz_in (zinX5 w h9)
  unfold pX5_has at h
  refine lv_iload_n hx hb dX5_has_0 rfl (lv_at hl 1 rfl) ?_
  refine b_lt (tgt := 16) hx hb dX5_has_1 (by decide) h (fun h => ?_) (fun h => ?_)
  · refine lv_iconst (v := (nI 0)) hx hb dX5_has_16 (by decide) ?_
    exact e_z hx hb hr hlocks hw dX5_has_17 h
  · refine lv_iload_n hx hb dX5_has_4 rfl (lv_at hl 1 rfl) ?_
    refine lv_aload_n hx hb dX5_has_5 rfl (lv_at hl 0 rfl) ?_
    refine p_get hx hb hts hinX5 hown hE hw hn 0 (by decide) (congrFun hR.1 _) rfl 3 (by decide) (hts _ (wz_in qF_X5_28)) rfl dX5_has_6 h (fun v6 h => ?_)
    refine bi_ge (tgt := 16) hx hb dX5_has_9 (by decide) h (fun h => ?_) (fun h => ?_)
    · refine lv_iconst (v := (nI 0)) hx hb dX5_has_16 (by decide) ?_
      exact e_z hx hb hr hlocks hw dX5_has_17 h
    · refine lv_iconst (v := (nI 1)) hx hb dX5_has_12 (by decide) ?_
      refine lv_goto (tgt := 17) hx hb dX5_has_13 (by decide) ?_
      exact e_z hx hb hr hlocks hw dX5_has_17 h

set_option maxHeartbeats 4000000 in
set_option maxRecDepth 100000 in
theorem mX5_isFull (l : Launch) (G : mG) {β : Nat} {M S : mM} {n : Nat} {r : Int32} (hn : β + 2 ≤ gN G) (hR : isTab G β n) (h : pX5_isFull n S = some r) : MC l G yX5_isFull zzX5_isFull 0 0 [.ref (gA G (β + 0))] (wB M β 2 S) (wB M β 2 S) (some (.int r)) := by
  refine mc_of (cc := cX5_isFull) (maxL := 1) (ret := (some .boolean)) (by decide) rfl (Nat.le_of_ble_eq_true rfl) ?_
  intro p e s m args below meth c H ls hx hb hr hts hown hml hlocks hE hw hl
  have hl : lv_has ls 1 [(0, .ref (gA G (β + 0)))] := hl
  have hinX5 : ∀ w ∈ wsX50, w ∈ zzX5_isFull := fun w h9 => wz_in (zinX5 w h9)
  unfold pX5_isFull at h
  refine lv_aload_n hx hb dX5_isFull_0 rfl (lv_at hl 0 rfl) ?_
  refine p_get hx hb hts hinX5 hown hE hw hn 0 (by decide) (congrFun hR.1 _) rfl 3 (by decide) (hts _ (wz_in qF_X5_28)) rfl dX5_isFull_1 h (fun v1 h => ?_)
  refine lv_aload_n hx hb dX5_isFull_4 rfl (lv_at hl 0 rfl) ?_
  refine p_get hx hb hts hinX5 hown hE hw hn 0 (by decide) (congrFun hR.1 _) rfl 0 (by decide) (hts _ (wz_in qF_X5_9)) rfl dX5_isFull_5 h (fun v5 h => ?_)
  refine bi_lt (tgt := 15) hx hb dX5_isFull_8 (by decide) h (fun h => ?_) (fun h => ?_)
  · refine lv_iconst (v := (nI 0)) hx hb dX5_isFull_15 (by decide) ?_
    exact e_z hx hb hr hlocks hw dX5_isFull_16 h
  · refine lv_iconst (v := (nI 1)) hx hb dX5_isFull_11 (by decide) ?_
    refine lv_goto (tgt := 16) hx hb dX5_isFull_12 (by decide) ?_
    exact e_z hx hb hr hlocks hw dX5_isFull_16 h

set_option maxHeartbeats 4000000 in
set_option maxRecDepth 100000 in
theorem mX5_count (l : Launch) (G : mG) {β : Nat} {M S : mM} {n : Nat} {r : Int32} (hn : β + 2 ≤ gN G) (hR : isTab G β n) (h : pX5_count n S = some r) : MC l G yX5_count zzX5_count 0 0 [.ref (gA G (β + 0))] (wB M β 2 S) (wB M β 2 S) (some (.int r)) := by
  refine mc_of (cc := cX5_count) (maxL := 1) (ret := (some .int)) (by decide) rfl (Nat.le_of_ble_eq_true rfl) ?_
  intro p e s m args below meth c H ls hx hb hr hts hown hml hlocks hE hw hl
  have hl : lv_has ls 1 [(0, .ref (gA G (β + 0)))] := hl
  have hinX5 : ∀ w ∈ wsX50, w ∈ zzX5_count := fun w h9 => wz_in (zinX5 w h9)
  unfold pX5_count at h
  refine lv_aload_n hx hb dX5_count_0 rfl (lv_at hl 0 rfl) ?_
  refine p_get hx hb hts hinX5 hown hE hw hn 0 (by decide) (congrFun hR.1 _) rfl 3 (by decide) (hts _ (wz_in qF_X5_28)) rfl dX5_count_1 h (fun v1 h => ?_)
  exact e_i hx hb hr hlocks hw dX5_count_4 h

set_option maxHeartbeats 4000000 in
set_option maxRecDepth 100000 in
theorem mX5_get (l : Launch) (G : mG) {β : Nat} {M S : mM} {n : Nat} {a1 : Int32} {a2 : Int32} {r : Int32} (hn : β + 2 ≤ gN G) (hR : isTab G β n) (h : pX5_get n a1 a2 S = some r) : MC l G yX5_get zzX5_get 0 0 [.ref (gA G (β + 0)), .int a1, .int a2] (wB M β 2 S) (wB M β 2 S) (some (.int r)) := by
  refine mc_of (cc := cX5_get) (maxL := 5) (ret := (some .int)) (by decide) rfl (Nat.le_of_ble_eq_true rfl) ?_
  intro p e s m args below meth c H ls hx hb hr hts hown hml hlocks hE hw hl
  have hl : lv_has ls 5 [(0, .ref (gA G (β + 0))), (1, .int a1), (2, .int a2)] := hl
  have hinX5 : ∀ w ∈ wsX50, w ∈ zzX5_get := fun w h9 => wz_in (zinX5 w h9)
  have k38 : ∀ (x3 : Int32) (t0 : Int32) (H : Heap) (locs : List Loc) (ls : Array Slot), pX5_get_b38 n S x3 t0 = some r → mW G s (wB M β 2 S) H locs → lv_has ls 5 [(0, .ref (gA G (β + 0))), (3, .int x3)] → W p l e { frames := 0, cells := 0, slots := 0, locals := 0 } s m args below meth c H locs 0 0 (mZ below G (some (.int r)) (wB M β 2 S) args s) (F0 m 38 ls [.int t0]) := by
    intro x3 t0 H locs ls h hw hl
    unfold pX5_get_b38 at h
    refine lv_istore (lv' := [(4, .int t0), (0, .ref (gA G (β + 0))), (3, .int x3)]) hx hb dX5_get_38 hl (by decide) rfl (fun ls hl => ?_)
    refine lv_iload hx hb dX5_get_40 (lv_at hl 0 rfl) ?_
    refine b_eq (tgt := 67) hx hb dX5_get_42 (by decide) h (fun h => ?_) (fun h => ?_)
    · refine lv_bipush (v := (-9)) hx hb dX5_get_67 (by decide) ?_
      exact e_i hx hb hr hlocks hw dX5_get_69 h
    · refine lv_iload_n hx hb dX5_get_45 rfl (lv_at hl 2 rfl) ?_
      refine b_lt (tgt := 67) hx hb dX5_get_46 (by decide) h (fun h => ?_) (fun h => ?_)
      · refine lv_bipush (v := (-9)) hx hb dX5_get_67 (by decide) ?_
        exact e_i hx hb hr hlocks hw dX5_get_69 h
      · refine lv_iload_n hx hb dX5_get_49 rfl (lv_at hl 2 rfl) ?_
        refine lv_aload_n hx hb dX5_get_50 rfl (lv_at hl 1 rfl) ?_
        refine r_get (v := .ref (gA G (β + 1))) hx hb hts hinX5 hown hE hw hn 0 (by decide) (congrFun hR.1 _) rfl 2 (by decide) (hts _ (wz_in qF_X5_24)) rfl dX5_get_51 ?_
        refine r_alen (v := nI n) hx hb hE hw hn 1 0 (by decide) (congrFun hR.2 _) rfl rfl dX5_get_54 ?_
        refine bi_ge (tgt := 67) hx hb dX5_get_55 (by decide) h (fun h => ?_) (fun h => ?_)
        · refine lv_bipush (v := (-9)) hx hb dX5_get_67 (by decide) ?_
          exact e_i hx hb hr hlocks hw dX5_get_69 h
        · refine lv_aload_n hx hb dX5_get_58 rfl (lv_at hl 1 rfl) ?_
          refine r_get (v := .ref (gA G (β + 1))) hx hb hts hinX5 hown hE hw hn 0 (by decide) (congrFun hR.1 _) rfl 2 (by decide) (hts _ (wz_in qF_X5_24)) rfl dX5_get_59 ?_
          refine lv_iload_n hx hb dX5_get_62 rfl (lv_at hl 2 rfl) ?_
          refine p_iald hx hb hE hw hn 1 (by decide) (congrFun hR.2) dX5_get_63 h (fun v63 h => ?_)
          refine lv_goto (tgt := 69) hx hb dX5_get_64 (by decide) ?_
          exact e_i hx hb hr hlocks hw dX5_get_69 h
  have k37 : ∀ (x3 : Int32) (H : Heap) (locs : List Loc) (ls : Array Slot), pX5_get_b37 n S x3 = some r → mW G s (wB M β 2 S) H locs → lv_has ls 5 [(0, .ref (gA G (β + 0))), (3, .int x3)] → W p l e { frames := 0, cells := 0, slots := 0, locals := 0 } s m args below meth c H locs 0 0 (mZ below G (some (.int r)) (wB M β 2 S) args s) (F0 m 37 ls []) := by
    intro x3 H locs ls h hw hl
    unfold pX5_get_b37 at h
    refine lv_iconst (v := (nI 0)) hx hb dX5_get_37 (by decide) ?_
    exact k38  x3 (nI 0) _ _ _ h hw (lv_sub hl [0, 1] rfl)
  unfold pX5_get at h
  refine lv_iload_n hx hb dX5_get_0 rfl (lv_at hl 1 rfl) ?_
  refine lv_aload_n hx hb dX5_get_1 rfl (lv_at hl 0 rfl) ?_
  refine p_get hx hb hts hinX5 hown hE hw hn 0 (by decide) (congrFun hR.1 _) rfl 1 (by decide) (hts _ (wz_in qF_X5_15)) rfl dX5_get_2 h (fun v2 h => ?_)
  refine lv_imul hx hb dX5_get_5 ?_
  refine lv_iload_n hx hb dX5_get_6 rfl (lv_at hl 2 rfl) ?_
  refine lv_iadd hx hb dX5_get_7 ?_
  refine p_topi h (fun v8 h => ?_)
  refine lv_istore_n (lv' := [(3, .int v8), (0, .ref (gA G (β + 0))), (1, .int a1), (2, .int a2)]) hx hb dX5_get_8 rfl hl (by decide) rfl (fun ls hl => ?_)
  refine lv_iload_n hx hb dX5_get_9 rfl (lv_at hl 2 rfl) ?_
  refine b_lt (tgt := 37) hx hb dX5_get_10 (by decide) h (fun h => ?_) (fun h => ?_)
  · exact k37  v8 _ _ _ h hw (lv_sub hl [1, 0] rfl)
  · refine lv_iload_n hx hb dX5_get_13 rfl (lv_at hl 2 rfl) ?_
    refine lv_aload_n hx hb dX5_get_14 rfl (lv_at hl 1 rfl) ?_
    refine p_get hx hb hts hinX5 hown hE hw hn 0 (by decide) (congrFun hR.1 _) rfl 3 (by decide) (hts _ (wz_in qF_X5_28)) rfl dX5_get_15 h (fun v15 h => ?_)
    refine bi_ge (tgt := 37) hx hb dX5_get_18 (by decide) h (fun h => ?_) (fun h => ?_)
    · exact k37  v8 _ _ _ h hw (lv_sub hl [1, 0] rfl)
    · refine lv_iload_n hx hb dX5_get_21 rfl (lv_at hl 3 rfl) ?_
      refine b_lt (tgt := 37) hx hb dX5_get_22 (by decide) h (fun h => ?_) (fun h => ?_)
      · exact k37  v8 _ _ _ h hw (lv_sub hl [1, 0] rfl)
      · refine lv_iload_n hx hb dX5_get_25 rfl (lv_at hl 3 rfl) ?_
        refine lv_aload_n hx hb dX5_get_26 rfl (lv_at hl 1 rfl) ?_
        refine p_get hx hb hts hinX5 hown hE hw hn 0 (by decide) (congrFun hR.1 _) rfl 1 (by decide) (hts _ (wz_in qF_X5_15)) rfl dX5_get_27 h (fun v27 h => ?_)
        refine bi_ge (tgt := 37) hx hb dX5_get_30 (by decide) h (fun h => ?_) (fun h => ?_)
        · exact k37  v8 _ _ _ h hw (lv_sub hl [1, 0] rfl)
        · refine lv_iconst (v := (nI 1)) hx hb dX5_get_33 (by decide) ?_
          refine lv_goto (tgt := 38) hx hb dX5_get_34 (by decide) ?_
          exact k38  v8 (nI 1) _ _ _ h hw (lv_sub hl [1, 0] rfl)

set_option maxHeartbeats 4000000 in
set_option maxRecDepth 100000 in
theorem mX5_rowAt (l : Launch) (G : mG) {β : Nat} {M S : mM} {n : Nat} {a1 : Int32} {r : Int32} (hn : β + 2 ≤ gN G) (hR : isTab G β n) (h : pX5_rowAt n a1 S = some r) : MC l G yX5_rowAt zzX5_rowAt 1 24 [.ref (gA G (β + 0)), .int a1] (wB M β 2 S) (wB M β 2 S) (some (.int r)) := by
  refine mc_of (cc := cX5_rowAt) (maxL := 3) (ret := (some .int)) (by decide) rfl (Nat.le_of_ble_eq_true rfl) ?_
  intro p e s m args below meth c H ls hx hb hr hts hown hml hlocks hE hw hl
  have hl : lv_has ls 3 [(0, .ref (gA G (β + 0))), (1, .int a1)] := hl
  have hinX5 : ∀ w ∈ wsX50, w ∈ zzX5_rowAt := fun w h9 => wz_in (zinX5 w h9)
  have k2 : ∀ (k : Nat), ∀ (x1 : Int32) (x2 : Int32) (H : Heap) (locs : List Loc) (ls : Array Slot), pX5_rowAt_l2 n S k x1 x2 = some r → mW G s (wB M β 2 S) H locs → lv_has ls 3 [(0, .ref (gA G (β + 0))), (1, .int x1), (2, .int x2)] → W p l e { frames := 1, cells := 0, slots := 0, locals := 24 } s m args below meth c H locs 0 0 (mZ below G (some (.int r)) (wB M β 2 S) args s) (F0 m 2 ls []) := by
    intro k
    induction k with
    | zero => intro x1 x2 H locs ls h; cases h
    | succ k hih2 =>
      intro x1 x2 H locs ls h hw hl
      obtain ⟨ih2, hk2⟩ : ∃ f, f = pX5_rowAt_l2 n S k := ⟨_, rfl⟩
      replace h : pX5_rowAt_lb2 n (pX5_rowAt_l2 n S k) S x1 x2 = some r := h
      rw [← hk2] at h hih2
      clear hk2
      unfold pX5_rowAt_lb2 at h
      refine lv_iload_n hx hb dX5_rowAt_2 rfl (lv_at hl 2 rfl) ?_
      refine lv_aload_n hx hb dX5_rowAt_3 rfl (lv_at hl 0 rfl) ?_
      refine p_get hx hb hts hinX5 hown hE hw hn 0 (by decide) (congrFun hR.1 _) rfl 3 (by decide) (hts _ (wz_in qF_X5_28)) rfl dX5_rowAt_4 h (fun v4 h => ?_)
      refine bi_ge (tgt := 28) hx hb dX5_rowAt_7 (by decide) h (fun h => ?_) (fun h => ?_)
      · refine lv_bipush (v := (-9)) hx hb dX5_rowAt_28 (by decide) ?_
        exact e_i hx hb hr hlocks hw dX5_rowAt_30 h
      · refine lv_aload_n hx hb dX5_rowAt_10 rfl (lv_at hl 0 rfl) ?_
        refine lv_iload_n hx hb dX5_rowAt_11 rfl (lv_at hl 2 rfl) ?_
        refine lv_iconst (v := (nI 0)) hx hb dX5_rowAt_12 (by decide) ?_
        obtain ⟨v13, h13, h⟩ := cr1_some h
        refine r_callV (As := [.int x2, .int (nI 0)]) (rest := []) (st1 := [.int v13]) hx hb hml hown hts hE hw hl (mX5_get l G (by omega) hR h13) (cwV 2 hts (zV gV_X5_35) rfl rfl rfl kdX5_get ⟨Nat.le_of_ble_eq_true rfl, Nat.le_of_ble_eq_true rfl⟩) (by omega) (congrFun hR.1 _) rfl rfl rfl rfl (Nat.le_of_ble_eq_true rfl) dX5_rowAt_13 ⟨Nat.zero_le _, Nat.zero_le _⟩ rfl (fun H locs hw => ?_)
        refine lv_iload_n hx hb dX5_rowAt_16 rfl (lv_at hl 1 rfl) ?_
        refine bi_ne (tgt := 22) hx hb dX5_rowAt_17 (by decide) h (fun h => ?_) (fun h => ?_)
        · refine p_iinc (w := (nI 1)) 2 (fun v22 => [(2, .int v22), (0, .ref (gA G (β + 0))), (1, .int x1)]) hx hb dX5_rowAt_22 hl rfl (by decide) (by decide) h (fun _ => rfl) (fun v22 h ls hl => ?_)
          refine lv_goto (tgt := 2) hx hb dX5_rowAt_25 (by decide) ?_
          exact hih2 x1 v22 _ _ _ h hw (lv_sub hl [1, 2, 0] rfl)
        · refine lv_iload_n hx hb dX5_rowAt_20 rfl (lv_at hl 2 rfl) ?_
          exact e_i hx hb hr hlocks hw dX5_rowAt_21 h
  unfold pX5_rowAt at h
  refine lv_iconst (v := (nI 0)) hx hb dX5_rowAt_0 (by decide) ?_
  refine lv_istore_n (lv' := [(2, .int (nI 0)), (0, .ref (gA G (β + 0))), (1, .int a1)]) hx hb dX5_rowAt_1 rfl hl (by decide) rfl (fun ls hl => ?_)
  exact k2 fuel a1 (nI 0) _ _ _ h hw (lv_sub hl [1, 2, 0] rfl)

set_option maxHeartbeats 4000000 in
set_option maxRecDepth 100000 in
theorem mX5_put (l : Launch) (G : mG) {β : Nat} {M S S' : mM} {n : Nat} {a1 : Int32} {a2 : Int32} {a3 : Int32} (hn : β + 2 ≤ gN G) (hR : isTab G β n) (h : pX5_put n a1 a2 a3 S = some S') : MC l G yX5_put zzX5_put 0 0 [.ref (gA G (β + 0)), .int a1, .int a2, .int a3] (wB M β 2 S) (wB M β 2 S') none := by
  refine mc_of (cc := cX5_put) (maxL := 6) (ret := none) (by decide) rfl (Nat.le_of_ble_eq_true rfl) ?_
  intro p e s m args below meth c H ls hx hb hr hts hown hml hlocks hE hw hl
  have hl : lv_has ls 6 [(0, .ref (gA G (β + 0))), (1, .int a1), (2, .int a2), (3, .int a3)] := hl
  have hinX5 : ∀ w ∈ wsX50, w ∈ zzX5_put := fun w h9 => wz_in (zinX5 w h9)
  have k39 : ∀ (x3 : Int32) (x4 : Int32) (t0 : Int32) (S : mM) (H : Heap) (locs : List Loc) (ls : Array Slot), pX5_put_b39 n x3 x4 t0 S = some S' → mW G s (wB M β 2 S) H locs → lv_has ls 6 [(0, .ref (gA G (β + 0))), (3, .int x3), (4, .int x4)] → W p l e { frames := 0, cells := 0, slots := 0, locals := 0 } s m args below meth c H locs 0 0 (mZ below G none (wB M β 2 S') args s) (F0 m 39 ls [.int t0]) := by
    intro x3 x4 t0 S H locs ls h hw hl
    unfold pX5_put_b39 at h
    refine lv_istore (lv' := [(5, .int t0), (0, .ref (gA G (β + 0))), (3, .int x3), (4, .int x4)]) hx hb dX5_put_39 hl (by decide) rfl (fun ls hl => ?_)
    refine lv_iload hx hb dX5_put_41 (lv_at hl 0 rfl) ?_
    refine b_eq (tgt := 69) hx hb dX5_put_43 (by decide) h (fun h => ?_) (fun h => ?_)
    · exact e_vw hx hb hr hlocks hw dX5_put_69 h
    · refine lv_iload hx hb dX5_put_46 (lv_at hl 3 rfl) ?_
      refine b_lt (tgt := 69) hx hb dX5_put_48 (by decide) h (fun h => ?_) (fun h => ?_)
      · exact e_vw hx hb hr hlocks hw dX5_put_69 h
      · refine lv_iload hx hb dX5_put_51 (lv_at hl 3 rfl) ?_
        refine lv_aload_n hx hb dX5_put_53 rfl (lv_at hl 1 rfl) ?_
        refine r_get (v := .ref (gA G (β + 1))) hx hb hts hinX5 hown hE hw hn 0 (by decide) (congrFun hR.1 _) rfl 2 (by decide) (hts _ (wz_in qF_X5_24)) rfl dX5_put_54 ?_
        refine r_alen (v := nI n) hx hb hE hw hn 1 0 (by decide) (congrFun hR.2 _) rfl rfl dX5_put_57 ?_
        refine bi_ge (tgt := 69) hx hb dX5_put_58 (by decide) h (fun h => ?_) (fun h => ?_)
        · exact e_vw hx hb hr hlocks hw dX5_put_69 h
        · refine lv_aload_n hx hb dX5_put_61 rfl (lv_at hl 1 rfl) ?_
          refine r_get (v := .ref (gA G (β + 1))) hx hb hts hinX5 hown hE hw hn 0 (by decide) (congrFun hR.1 _) rfl 2 (by decide) (hts _ (wz_in qF_X5_24)) rfl dX5_put_62 ?_
          refine lv_iload hx hb dX5_put_65 (lv_at hl 3 rfl) ?_
          refine lv_iload_n hx hb dX5_put_67 rfl (lv_at hl 2 rfl) ?_
          refine p_iast hx hb hE hw hn 1 (by decide) (congrFun hR.2) dX5_put_68 h (fun S68 h H locs hw => ?_)
          exact e_vw hx hb hr hlocks hw dX5_put_69 h
  have k38 : ∀ (x3 : Int32) (x4 : Int32) (S : mM) (H : Heap) (locs : List Loc) (ls : Array Slot), pX5_put_b38 n x3 x4 S = some S' → mW G s (wB M β 2 S) H locs → lv_has ls 6 [(0, .ref (gA G (β + 0))), (3, .int x3), (4, .int x4)] → W p l e { frames := 0, cells := 0, slots := 0, locals := 0 } s m args below meth c H locs 0 0 (mZ below G none (wB M β 2 S') args s) (F0 m 38 ls []) := by
    intro x3 x4 S H locs ls h hw hl
    unfold pX5_put_b38 at h
    refine lv_iconst (v := (nI 0)) hx hb dX5_put_38 (by decide) ?_
    exact k39  x3 x4 (nI 0) S _ _ _ h hw (lv_sub hl [0, 1, 2] rfl)
  unfold pX5_put at h
  refine lv_iload_n hx hb dX5_put_0 rfl (lv_at hl 1 rfl) ?_
  refine lv_aload_n hx hb dX5_put_1 rfl (lv_at hl 0 rfl) ?_
  refine p_get hx hb hts hinX5 hown hE hw hn 0 (by decide) (congrFun hR.1 _) rfl 1 (by decide) (hts _ (wz_in qF_X5_15)) rfl dX5_put_2 h (fun v2 h => ?_)
  refine lv_imul hx hb dX5_put_5 ?_
  refine lv_iload_n hx hb dX5_put_6 rfl (lv_at hl 2 rfl) ?_
  refine lv_iadd hx hb dX5_put_7 ?_
  refine p_topi h (fun v8 h => ?_)
  refine lv_istore (lv' := [(4, .int v8), (0, .ref (gA G (β + 0))), (1, .int a1), (2, .int a2), (3, .int a3)]) hx hb dX5_put_8 hl (by decide) rfl (fun ls hl => ?_)
  refine lv_iload_n hx hb dX5_put_10 rfl (lv_at hl 2 rfl) ?_
  refine b_lt (tgt := 38) hx hb dX5_put_11 (by decide) h (fun h => ?_) (fun h => ?_)
  · exact k38  a3 v8 S _ _ _ h hw (lv_sub hl [1, 4, 0] rfl)
  · refine lv_iload_n hx hb dX5_put_14 rfl (lv_at hl 2 rfl) ?_
    refine lv_aload_n hx hb dX5_put_15 rfl (lv_at hl 1 rfl) ?_
    refine p_get hx hb hts hinX5 hown hE hw hn 0 (by decide) (congrFun hR.1 _) rfl 3 (by decide) (hts _ (wz_in qF_X5_28)) rfl dX5_put_16 h (fun v16 h => ?_)
    refine bi_ge (tgt := 38) hx hb dX5_put_19 (by decide) h (fun h => ?_) (fun h => ?_)
    · exact k38  a3 v8 S _ _ _ h hw (lv_sub hl [1, 4, 0] rfl)
    · refine lv_iload_n hx hb dX5_put_22 rfl (lv_at hl 3 rfl) ?_
      refine b_lt (tgt := 38) hx hb dX5_put_23 (by decide) h (fun h => ?_) (fun h => ?_)
      · exact k38  a3 v8 S _ _ _ h hw (lv_sub hl [1, 4, 0] rfl)
      · refine lv_iload_n hx hb dX5_put_26 rfl (lv_at hl 3 rfl) ?_
        refine lv_aload_n hx hb dX5_put_27 rfl (lv_at hl 1 rfl) ?_
        refine p_get hx hb hts hinX5 hown hE hw hn 0 (by decide) (congrFun hR.1 _) rfl 1 (by decide) (hts _ (wz_in qF_X5_15)) rfl dX5_put_28 h (fun v28 h => ?_)
        refine bi_ge (tgt := 38) hx hb dX5_put_31 (by decide) h (fun h => ?_) (fun h => ?_)
        · exact k38  a3 v8 S _ _ _ h hw (lv_sub hl [1, 4, 0] rfl)
        · refine lv_iconst (v := (nI 1)) hx hb dX5_put_34 (by decide) ?_
          refine lv_goto (tgt := 39) hx hb dX5_put_35 (by decide) ?_
          exact k39  a3 v8 (nI 1) S _ _ _ h hw (lv_sub hl [1, 4, 0] rfl)

set_option maxHeartbeats 4000000 in
set_option maxRecDepth 100000 in
theorem mX5_addRow (l : Launch) (G : mG) {β : Nat} {M S S' : mM} {n : Nat} {r : Int32} (hn : β + 2 ≤ gN G) (hR : isTab G β n) (h : pX5_addRow n S = some (r, S')) : MC l G yX5_addRow zzX5_addRow 1 25 [.ref (gA G (β + 0))] (wB M β 2 S) (wB M β 2 S') (some (.int r)) := by
  refine mc_of (cc := cX5_addRow) (maxL := 2) (ret := (some .int)) (by decide) rfl (Nat.le_of_ble_eq_true rfl) ?_
  intro p e s m args below meth c H ls hx hb hr hts hown hml hlocks hE hw hl
  have hl : lv_has ls 2 [(0, .ref (gA G (β + 0)))] := hl
  have hinX5 : ∀ w ∈ wsX50, w ∈ zzX5_addRow := fun w h9 => wz_in (zinX5 w h9)
  have k26 : ∀ (k : Nat), ∀ (x1 : Int32) (S : mM) (H : Heap) (locs : List Loc) (ls : Array Slot), pX5_addRow_l26 n k x1 S = some (r, S') → mW G s (wB M β 2 S) H locs → lv_has ls 2 [(0, .ref (gA G (β + 0))), (1, .int x1)] → W p l e { frames := 1, cells := 0, slots := 0, locals := 25 } s m args below meth c H locs 0 0 (mZ below G (some (.int r)) (wB M β 2 S') args s) (F0 m 26 ls []) := by
    intro k
    induction k with
    | zero => intro x1 S H locs ls h; cases h
    | succ k hih26 =>
      intro x1 S H locs ls h hw hl
      obtain ⟨ih26, hk26⟩ : ∃ f, f = pX5_addRow_l26 n k := ⟨_, rfl⟩
      replace h : pX5_addRow_lb26 n (pX5_addRow_l26 n k) x1 S = some (r, S') := h
      rw [← hk26] at h hih26
      clear hk26
      unfold pX5_addRow_lb26 at h
      refine lv_iload_n hx hb dX5_addRow_26 rfl (lv_at hl 1 rfl) ?_
      refine lv_aload_n hx hb dX5_addRow_27 rfl (lv_at hl 0 rfl) ?_
      refine p_get hx hb hts hinX5 hown hE hw hn 0 (by decide) (congrFun hR.1 _) rfl 1 (by decide) (hts _ (wz_in qF_X5_15)) rfl dX5_addRow_28 h (fun v28 h => ?_)
      refine bi_ge (tgt := 52) hx hb dX5_addRow_31 (by decide) h (fun h => ?_) (fun h => ?_)
      · refine lv_aload_n hx hb dX5_addRow_52 rfl (lv_at hl 0 rfl) ?_
        refine p_get hx hb hts hinX5 hown hE hw hn 0 (by decide) (congrFun hR.1 _) rfl 3 (by decide) (hts _ (wz_in qF_X5_28)) rfl dX5_addRow_53 h (fun v53 h => ?_)
        refine lv_iconst (v := (nI 1)) hx hb dX5_addRow_56 (by decide) ?_
        refine lv_isub hx hb dX5_addRow_57 ?_
        exact e_iw hx hb hr hlocks hw dX5_addRow_58 h
      · refine lv_aload_n hx hb dX5_addRow_34 rfl (lv_at hl 0 rfl) ?_
        refine lv_aload_n hx hb dX5_addRow_35 rfl (lv_at hl 0 rfl) ?_
        refine p_get hx hb hts hinX5 hown hE hw hn 0 (by decide) (congrFun hR.1 _) rfl 3 (by decide) (hts _ (wz_in qF_X5_28)) rfl dX5_addRow_36 h (fun v36 h => ?_)
        refine lv_iconst (v := (nI 1)) hx hb dX5_addRow_39 (by decide) ?_
        refine lv_isub hx hb dX5_addRow_40 ?_
        refine lv_iload_n hx hb dX5_addRow_41 rfl (lv_at hl 1 rfl) ?_
        refine lv_iconst (v := (nI 0)) hx hb dX5_addRow_42 (by decide) ?_
        obtain ⟨S43, h43, h⟩ := cr1_some h
        refine r_callV (As := [.int (v36 - (nI 1)), .int x1, .int (nI 0)]) (rest := []) (st1 := []) hx hb hml hown hts hE hw hl (mX5_put l G (by omega) hR h43) (cwV 3 hts (zV gV_X5_31) rfl rfl rfl kdX5_put ⟨Nat.le_of_ble_eq_true rfl, Nat.le_of_ble_eq_true rfl⟩) (by omega) (congrFun hR.1 _) rfl rfl rfl rfl (Nat.le_of_ble_eq_true rfl) dX5_addRow_43 ⟨Nat.zero_le _, Nat.zero_le _⟩ rfl (fun H locs hw => ?_)
        refine p_iinc (w := (nI 1)) 1 (fun v46 => [(1, .int v46), (0, .ref (gA G (β + 0)))]) hx hb dX5_addRow_46 hl rfl (by decide) (by decide) h (fun _ => rfl) (fun v46 h ls hl => ?_)
        refine lv_goto (tgt := 26) hx hb dX5_addRow_49 (by decide) ?_
        exact hih26 v46 S43 _ _ _ h hw (lv_sub hl [1, 0] rfl)
  unfold pX5_addRow at h
  refine lv_aload_n hx hb dX5_addRow_0 rfl (lv_at hl 0 rfl) ?_
  refine p_get hx hb hts hinX5 hown hE hw hn 0 (by decide) (congrFun hR.1 _) rfl 3 (by decide) (hts _ (wz_in qF_X5_28)) rfl dX5_addRow_1 h (fun v1 h => ?_)
  refine lv_aload_n hx hb dX5_addRow_4 rfl (lv_at hl 0 rfl) ?_
  refine p_get hx hb hts hinX5 hown hE hw hn 0 (by decide) (congrFun hR.1 _) rfl 0 (by decide) (hts _ (wz_in qF_X5_9)) rfl dX5_addRow_5 h (fun v5 h => ?_)
  refine bi_lt (tgt := 14) hx hb dX5_addRow_8 (by decide) h (fun h => ?_) (fun h => ?_)
  · refine lv_aload_n hx hb dX5_addRow_14 rfl (lv_at hl 0 rfl) ?_
    refine lv_dup hx hb dX5_addRow_15 rfl ?_
    refine p_get hx hb hts hinX5 hown hE hw hn 0 (by decide) (congrFun hR.1 _) rfl 3 (by decide) (hts _ (wz_in qF_X5_28)) rfl dX5_addRow_16 h (fun v16 h => ?_)
    refine lv_iconst (v := (nI 1)) hx hb dX5_addRow_19 (by decide) ?_
    refine lv_iadd hx hb dX5_addRow_20 ?_
    refine p_put hx hb hts hinX5 tyX5 tyX5_ok nmX5 hown hE hw hn 0 (by decide) (congrFun hR.1 _) rfl 3 (by decide) (hts _ (wz_in qF_X5_28)) rfl (by decide +kernel) (Nat.le_of_ble_eq_true rfl) (congrFun hR.1 _) dX5_addRow_21 h (fun S21 h H locs hw => ?_)
    refine lv_iconst (v := (nI 0)) hx hb dX5_addRow_24 (by decide) ?_
    refine lv_istore_n (lv' := [(1, .int (nI 0)), (0, .ref (gA G (β + 0)))]) hx hb dX5_addRow_25 rfl hl (by decide) rfl (fun ls hl => ?_)
    exact k26 fuel (nI 0) S21 _ _ _ h hw (lv_sub hl [1, 0] rfl)
  · refine lv_bipush (v := (-9)) hx hb dX5_addRow_11 (by decide) ?_
    exact e_iw hx hb hr hlocks hw dX5_addRow_13 h

set_option maxHeartbeats 4000000 in
set_option maxRecDepth 100000 in
theorem mX2_put (l : Launch) (G : mG) {β : Nat} {M S S' : mM} {n1 n2 : Nat} {a1 : Int32} {a2 : Int32} {a3 : Int32} (hn : β + 3 ≤ gN G) (hR : isLin G β n1 n2) (h : pX2_put n1 n2 a1 a2 a3 S = some S') : MC l G yX2_put zzX2_put 0 0 [.ref (gA G (β + 0)), .int a1, .int a2, .int a3] (wB M β 3 S) (wB M β 3 S') none := by
  refine mc_of (cc := cX2_put) (maxL := 6) (ret := none) (by decide) rfl (Nat.le_of_ble_eq_true rfl) ?_
  intro p e s m args below meth c H ls hx hb hr hts hown hml hlocks hE hw hl
  have hl : lv_has ls 6 [(0, .ref (gA G (β + 0))), (1, .int a1), (2, .int a2), (3, .int a3)] := hl
  have hinX2 : ∀ w ∈ wsX20, w ∈ zzX2_put := fun w h9 => wz_in (zinX2 w h9)
  have k42 : ∀ (x3 : Int32) (x4 : Int32) (t0 : Int32) (S : mM) (H : Heap) (locs : List Loc) (ls : Array Slot), pX2_put_b42 n1 n2 x3 x4 t0 S = some S' → mW G s (wB M β 3 S) H locs → lv_has ls 6 [(0, .ref (gA G (β + 0))), (3, .int x3), (4, .int x4)] → W p l e { frames := 0, cells := 0, slots := 0, locals := 0 } s m args below meth c H locs 0 0 (mZ below G none (wB M β 3 S') args s) (F0 m 42 ls [.int t0]) := by
    intro x3 x4 t0 S H locs ls h hw hl
    unfold pX2_put_b42 at h
    refine lv_istore (lv' := [(5, .int t0), (0, .ref (gA G (β + 0))), (3, .int x3), (4, .int x4)]) hx hb dX2_put_42 hl (by decide) rfl (fun ls hl => ?_)
    refine lv_iload hx hb dX2_put_44 (lv_at hl 0 rfl) ?_
    refine b_eq (tgt := 72) hx hb dX2_put_46 (by decide) h (fun h => ?_) (fun h => ?_)
    · exact e_vw hx hb hr hlocks hw dX2_put_72 h
    · refine lv_iload hx hb dX2_put_49 (lv_at hl 3 rfl) ?_
      refine b_lt (tgt := 72) hx hb dX2_put_51 (by decide) h (fun h => ?_) (fun h => ?_)
      · exact e_vw hx hb hr hlocks hw dX2_put_72 h
      · refine lv_iload hx hb dX2_put_54 (lv_at hl 3 rfl) ?_
        refine lv_aload_n hx hb dX2_put_56 rfl (lv_at hl 1 rfl) ?_
        refine r_get (v := .ref (gA G (β + 2))) hx hb hts hinX2 hown hE hw hn 0 (by decide) (congrFun hR.1 _) rfl 2 (by decide) (hts _ (wz_in qF_X2_25)) rfl dX2_put_57 ?_
        refine r_alen (v := nI n2) hx hb hE hw hn 2 0 (by decide) (congrFun hR.2.2 _) rfl rfl dX2_put_60 ?_
        refine bi_ge (tgt := 72) hx hb dX2_put_61 (by decide) h (fun h => ?_) (fun h => ?_)
        · exact e_vw hx hb hr hlocks hw dX2_put_72 h
        · refine lv_aload_n hx hb dX2_put_64 rfl (lv_at hl 1 rfl) ?_
          refine r_get (v := .ref (gA G (β + 2))) hx hb hts hinX2 hown hE hw hn 0 (by decide) (congrFun hR.1 _) rfl 2 (by decide) (hts _ (wz_in qF_X2_25)) rfl dX2_put_65 ?_
          refine lv_iload hx hb dX2_put_68 (lv_at hl 3 rfl) ?_
          refine lv_iload_n hx hb dX2_put_70 rfl (lv_at hl 2 rfl) ?_
          refine p_iast hx hb hE hw hn 2 (by decide) (congrFun hR.2.2) dX2_put_71 h (fun S71 h H locs hw => ?_)
          exact e_vw hx hb hr hlocks hw dX2_put_72 h
  have k41 : ∀ (x3 : Int32) (x4 : Int32) (S : mM) (H : Heap) (locs : List Loc) (ls : Array Slot), pX2_put_b41 n1 n2 x3 x4 S = some S' → mW G s (wB M β 3 S) H locs → lv_has ls 6 [(0, .ref (gA G (β + 0))), (3, .int x3), (4, .int x4)] → W p l e { frames := 0, cells := 0, slots := 0, locals := 0 } s m args below meth c H locs 0 0 (mZ below G none (wB M β 3 S') args s) (F0 m 41 ls []) := by
    intro x3 x4 S H locs ls h hw hl
    unfold pX2_put_b41 at h
    refine lv_iconst (v := (nI 0)) hx hb dX2_put_41 (by decide) ?_
    exact k42  x3 x4 (nI 0) S _ _ _ h hw (lv_sub hl [0, 1, 2] rfl)
  unfold pX2_put at h
  refine lv_iload_n hx hb dX2_put_0 rfl (lv_at hl 1 rfl) ?_
  refine lv_aload_n hx hb dX2_put_1 rfl (lv_at hl 0 rfl) ?_
  refine p_get hx hb hts hinX2 hown hE hw hn 0 (by decide) (congrFun hR.1 _) rfl 0 (by decide) (hts _ (wz_in qF_X2_9)) rfl dX2_put_2 h (fun v2 h => ?_)
  refine lv_imul hx hb dX2_put_5 ?_
  refine lv_iload_n hx hb dX2_put_6 rfl (lv_at hl 2 rfl) ?_
  refine lv_iadd hx hb dX2_put_7 ?_
  refine p_topi h (fun v8 h => ?_)
  refine lv_istore (lv' := [(4, .int v8), (0, .ref (gA G (β + 0))), (1, .int a1), (2, .int a2), (3, .int a3)]) hx hb dX2_put_8 hl (by decide) rfl (fun ls hl => ?_)
  refine lv_iload_n hx hb dX2_put_10 rfl (lv_at hl 2 rfl) ?_
  refine b_lt (tgt := 41) hx hb dX2_put_11 (by decide) h (fun h => ?_) (fun h => ?_)
  · exact k41  a3 v8 S _ _ _ h hw (lv_sub hl [1, 4, 0] rfl)
  · refine lv_iload_n hx hb dX2_put_14 rfl (lv_at hl 2 rfl) ?_
    refine lv_aload_n hx hb dX2_put_15 rfl (lv_at hl 1 rfl) ?_
    refine r_get (v := .ref (gA G (β + 1))) hx hb hts hinX2 hown hE hw hn 0 (by decide) (congrFun hR.1 _) rfl 1 (by decide) (hts _ (wz_in qF_X2_21)) rfl dX2_put_16 ?_
    refine r_alen (v := nI n1) hx hb hE hw hn 1 0 (by decide) (congrFun hR.2.1 _) rfl rfl dX2_put_19 ?_
    refine bi_ge (tgt := 41) hx hb dX2_put_20 (by decide) h (fun h => ?_) (fun h => ?_)
    · exact k41  a3 v8 S _ _ _ h hw (lv_sub hl [1, 4, 0] rfl)
    · refine lv_iload_n hx hb dX2_put_23 rfl (lv_at hl 3 rfl) ?_
      refine b_lt (tgt := 41) hx hb dX2_put_24 (by decide) h (fun h => ?_) (fun h => ?_)
      · exact k41  a3 v8 S _ _ _ h hw (lv_sub hl [1, 4, 0] rfl)
      · refine lv_iload_n hx hb dX2_put_27 rfl (lv_at hl 3 rfl) ?_
        refine lv_aload_n hx hb dX2_put_28 rfl (lv_at hl 1 rfl) ?_
        refine r_get (v := .ref (gA G (β + 1))) hx hb hts hinX2 hown hE hw hn 0 (by decide) (congrFun hR.1 _) rfl 1 (by decide) (hts _ (wz_in qF_X2_21)) rfl dX2_put_29 ?_
        refine lv_iload_n hx hb dX2_put_32 rfl (lv_at hl 2 rfl) ?_
        refine p_iald hx hb hE hw hn 1 (by decide) (congrFun hR.2.1) dX2_put_33 h (fun v33 h => ?_)
        refine bi_ge (tgt := 41) hx hb dX2_put_34 (by decide) h (fun h => ?_) (fun h => ?_)
        · exact k41  a3 v8 S _ _ _ h hw (lv_sub hl [1, 4, 0] rfl)
        · refine lv_iconst (v := (nI 1)) hx hb dX2_put_37 (by decide) ?_
          refine lv_goto (tgt := 42) hx hb dX2_put_38 (by decide) ?_
          exact k42  a3 v8 (nI 1) S _ _ _ h hw (lv_sub hl [1, 4, 0] rfl)

set_option maxHeartbeats 4000000 in
set_option maxRecDepth 100000 in
theorem mX2_join (l : Launch) (G : mG) {β : Nat} {M S S' : mM} {n1 n2 : Nat} {a1 : Int32} {a2 : Int32} (hn : β + 3 ≤ gN G) (hR : isLin G β n1 n2) (h : pX2_join n1 n2 a1 a2 S = some S') : MC l G yX2_join zzX2_join 1 25 [.ref (gA G (β + 0)), .int a1, .int a2] (wB M β 3 S) (wB M β 3 S') none := by
  refine mc_of (cc := cX2_join) (maxL := 3) (ret := none) (by decide) rfl (Nat.le_of_ble_eq_true rfl) ?_
  intro p e s m args below meth c H ls hx hb hr hts hown hml hlocks hE hw hl
  have hl : lv_has ls 3 [(0, .ref (gA G (β + 0))), (1, .int a1), (2, .int a2)] := hl
  have hinX2 : ∀ w ∈ wsX20, w ∈ zzX2_join := fun w h9 => wz_in (zinX2 w h9)
  unfold pX2_join at h
  refine lv_iload_n hx hb dX2_join_0 rfl (lv_at hl 1 rfl) ?_
  refine b_lt (tgt := 26) hx hb dX2_join_1 (by decide) h (fun h => ?_) (fun h => ?_)
  · exact e_vw hx hb hr hlocks hw dX2_join_26 h
  · refine lv_iload_n hx hb dX2_join_4 rfl (lv_at hl 1 rfl) ?_
    refine lv_aload_n hx hb dX2_join_5 rfl (lv_at hl 0 rfl) ?_
    refine r_get (v := .ref (gA G (β + 1))) hx hb hts hinX2 hown hE hw hn 0 (by decide) (congrFun hR.1 _) rfl 1 (by decide) (hts _ (wz_in qF_X2_21)) rfl dX2_join_6 ?_
    refine r_alen (v := nI n1) hx hb hE hw hn 1 0 (by decide) (congrFun hR.2.1 _) rfl rfl dX2_join_9 ?_
    refine bi_ge (tgt := 26) hx hb dX2_join_10 (by decide) h (fun h => ?_) (fun h => ?_)
    · exact e_vw hx hb hr hlocks hw dX2_join_26 h
    · refine lv_aload_n hx hb dX2_join_13 rfl (lv_at hl 0 rfl) ?_
      refine r_get (v := .ref (gA G (β + 1))) hx hb hts hinX2 hown hE hw hn 0 (by decide) (congrFun hR.1 _) rfl 1 (by decide) (hts _ (wz_in qF_X2_21)) rfl dX2_join_14 ?_
      refine lv_iload_n hx hb dX2_join_17 rfl (lv_at hl 1 rfl) ?_
      refine p_iald hx hb hE hw hn 1 (by decide) (congrFun hR.2.1) dX2_join_18 h (fun v18 h => ?_)
      refine lv_aload_n hx hb dX2_join_19 rfl (lv_at hl 0 rfl) ?_
      refine p_get hx hb hts hinX2 hown hE hw hn 0 (by decide) (congrFun hR.1 _) rfl 0 (by decide) (hts _ (wz_in qF_X2_9)) rfl dX2_join_20 h (fun v20 h => ?_)
      refine bi_lt (tgt := 27) hx hb dX2_join_23 (by decide) h (fun h => ?_) (fun h => ?_)
      · refine lv_aload_n hx hb dX2_join_27 rfl (lv_at hl 0 rfl) ?_
        refine r_get (v := .ref (gA G (β + 1))) hx hb hts hinX2 hown hE hw hn 0 (by decide) (congrFun hR.1 _) rfl 1 (by decide) (hts _ (wz_in qF_X2_21)) rfl dX2_join_28 ?_
        refine lv_iload_n hx hb dX2_join_31 rfl (lv_at hl 1 rfl) ?_
        refine lv_dup2_11 hx hb dX2_join_32 rfl rfl ?_
        refine p_iald hx hb hE hw hn 1 (by decide) (congrFun hR.2.1) dX2_join_33 h (fun v33 h => ?_)
        refine lv_iconst (v := (nI 1)) hx hb dX2_join_34 (by decide) ?_
        refine lv_iadd hx hb dX2_join_35 ?_
        refine p_iast hx hb hE hw hn 1 (by decide) (congrFun hR.2.1) dX2_join_36 h (fun S36 h H locs hw => ?_)
        refine lv_aload_n hx hb dX2_join_37 rfl (lv_at hl 0 rfl) ?_
        refine lv_iload_n hx hb dX2_join_38 rfl (lv_at hl 1 rfl) ?_
        refine lv_aload_n hx hb dX2_join_39 rfl (lv_at hl 0 rfl) ?_
        refine r_get (v := .ref (gA G (β + 1))) hx hb hts hinX2 hown hE hw hn 0 (by decide) (congrFun hR.1 _) rfl 1 (by decide) (hts _ (wz_in qF_X2_21)) rfl dX2_join_40 ?_
        refine lv_iload_n hx hb dX2_join_43 rfl (lv_at hl 1 rfl) ?_
        refine p_iald hx hb hE hw hn 1 (by decide) (congrFun hR.2.1) dX2_join_44 h (fun v44 h => ?_)
        refine lv_iconst (v := (nI 1)) hx hb dX2_join_45 (by decide) ?_
        refine lv_isub hx hb dX2_join_46 ?_
        refine lv_iload_n hx hb dX2_join_47 rfl (lv_at hl 2 rfl) ?_
        obtain ⟨S48, h48, h⟩ := cr1_some h
        refine r_callV (As := [.int a1, .int (v44 - (nI 1)), .int a2]) (rest := []) (st1 := []) hx hb hml hown hts hE hw hl (mX2_put l G (by omega) hR h48) (cwV 3 hts (zV gV_X2_28) rfl rfl rfl kdX2_put ⟨Nat.le_of_ble_eq_true rfl, Nat.le_of_ble_eq_true rfl⟩) (by omega) (congrFun hR.1 _) rfl rfl rfl rfl (Nat.le_of_ble_eq_true rfl) dX2_join_48 ⟨Nat.zero_le _, Nat.zero_le _⟩ rfl (fun H locs hw => ?_)
        exact e_vw hx hb hr hlocks hw dX2_join_51 h
      · exact e_vw hx hb hr hlocks hw dX2_join_26 h

set_option maxHeartbeats 4000000 in
set_option maxRecDepth 100000 in
theorem mX2_emptyOut (l : Launch) (G : mG) {β : Nat} {M S S' : mM} {n1 n2 : Nat} (hn : β + 3 ≤ gN G) (hR : isLin G β n1 n2) (h : pX2_emptyOut n1 n2 S = some S') : MC l G yX2_emptyOut zzX2_emptyOut 0 0 [.ref (gA G (β + 0))] (wB M β 3 S) (wB M β 3 S') none := by
  refine mc_of (cc := cX2_emptyOut) (maxL := 2) (ret := none) (by decide) rfl (Nat.le_of_ble_eq_true rfl) ?_
  intro p e s m args below meth c H ls hx hb hr hts hown hml hlocks hE hw hl
  have hl : lv_has ls 2 [(0, .ref (gA G (β + 0)))] := hl
  have hinX2 : ∀ w ∈ wsX20, w ∈ zzX2_emptyOut := fun w h9 => wz_in (zinX2 w h9)
  have k2 : ∀ (k : Nat), ∀ (x1 : Int32) (S : mM) (H : Heap) (locs : List Loc) (ls : Array Slot), pX2_emptyOut_l2 n1 n2 k x1 S = some S' → mW G s (wB M β 3 S) H locs → lv_has ls 2 [(0, .ref (gA G (β + 0))), (1, .int x1)] → W p l e { frames := 0, cells := 0, slots := 0, locals := 0 } s m args below meth c H locs 0 0 (mZ below G none (wB M β 3 S') args s) (F0 m 2 ls []) := by
    intro k
    induction k with
    | zero => intro x1 S H locs ls h; cases h
    | succ k hih2 =>
      intro x1 S H locs ls h hw hl
      obtain ⟨ih2, hk2⟩ : ∃ f, f = pX2_emptyOut_l2 n1 n2 k := ⟨_, rfl⟩
      replace h : pX2_emptyOut_lb2 n1 n2 (pX2_emptyOut_l2 n1 n2 k) x1 S = some S' := h
      rw [← hk2] at h hih2
      clear hk2
      unfold pX2_emptyOut_lb2 at h
      refine lv_iload_n hx hb dX2_emptyOut_2 rfl (lv_at hl 1 rfl) ?_
      refine lv_aload_n hx hb dX2_emptyOut_3 rfl (lv_at hl 0 rfl) ?_
      refine r_get (v := .ref (gA G (β + 1))) hx hb hts hinX2 hown hE hw hn 0 (by decide) (congrFun hR.1 _) rfl 1 (by decide) (hts _ (wz_in qF_X2_21)) rfl dX2_emptyOut_4 ?_
      refine r_alen (v := nI n1) hx hb hE hw hn 1 0 (by decide) (congrFun hR.2.1 _) rfl rfl dX2_emptyOut_7 ?_
      refine bi_ge (tgt := 24) hx hb dX2_emptyOut_8 (by decide) h (fun h => ?_) (fun h => ?_)
      · exact e_vw hx hb hr hlocks hw dX2_emptyOut_24 h
      · refine lv_aload_n hx hb dX2_emptyOut_11 rfl (lv_at hl 0 rfl) ?_
        refine r_get (v := .ref (gA G (β + 1))) hx hb hts hinX2 hown hE hw hn 0 (by decide) (congrFun hR.1 _) rfl 1 (by decide) (hts _ (wz_in qF_X2_21)) rfl dX2_emptyOut_12 ?_
        refine lv_iload_n hx hb dX2_emptyOut_15 rfl (lv_at hl 1 rfl) ?_
        refine lv_iconst (v := (nI 0)) hx hb dX2_emptyOut_16 (by decide) ?_
        refine p_iast hx hb hE hw hn 1 (by decide) (congrFun hR.2.1) dX2_emptyOut_17 h (fun S17 h H locs hw => ?_)
        refine p_iinc (w := (nI 1)) 1 (fun v18 => [(1, .int v18), (0, .ref (gA G (β + 0)))]) hx hb dX2_emptyOut_18 hl rfl (by decide) (by decide) h (fun _ => rfl) (fun v18 h ls hl => ?_)
        refine lv_goto (tgt := 2) hx hb dX2_emptyOut_21 (by decide) ?_
        exact hih2 v18 S17 _ _ _ h hw (lv_sub hl [1, 0] rfl)
  unfold pX2_emptyOut at h
  refine lv_iconst (v := (nI 0)) hx hb dX2_emptyOut_0 (by decide) ?_
  refine lv_istore_n (lv' := [(1, .int (nI 0)), (0, .ref (gA G (β + 0)))]) hx hb dX2_emptyOut_1 rfl hl (by decide) rfl (fun ls hl => ?_)
  exact k2 fuel (nI 0) S _ _ _ h hw (lv_sub hl [1, 0] rfl)

set_option maxHeartbeats 4000000 in
set_option maxRecDepth 100000 in
theorem mX5_emptyOut (l : Launch) (G : mG) {β : Nat} {M S S' : mM} {n : Nat} (hn : β + 2 ≤ gN G) (hR : isTab G β n) (h : pX5_emptyOut n S = some S') : MC l G yX5_emptyOut zzX5_emptyOut 0 0 [.ref (gA G (β + 0))] (wB M β 2 S) (wB M β 2 S') none := by
  refine mc_of (cc := cX5_emptyOut) (maxL := 1) (ret := none) (by decide) rfl (Nat.le_of_ble_eq_true rfl) ?_
  intro p e s m args below meth c H ls hx hb hr hts hown hml hlocks hE hw hl
  have hl : lv_has ls 1 [(0, .ref (gA G (β + 0)))] := hl
  have hinX5 : ∀ w ∈ wsX50, w ∈ zzX5_emptyOut := fun w h9 => wz_in (zinX5 w h9)
  unfold pX5_emptyOut at h
  refine lv_aload_n hx hb dX5_emptyOut_0 rfl (lv_at hl 0 rfl) ?_
  refine lv_iconst (v := (nI 0)) hx hb dX5_emptyOut_1 (by decide) ?_
  refine p_put hx hb hts hinX5 tyX5 tyX5_ok nmX5 hown hE hw hn 0 (by decide) (congrFun hR.1 _) rfl 3 (by decide) (hts _ (wz_in qF_X5_28)) rfl (by decide +kernel) (Nat.le_of_ble_eq_true rfl) (congrFun hR.1 _) dX5_emptyOut_2 h (fun S2 h H locs hw => ?_)
  exact e_vw hx hb hr hlocks hw dX5_emptyOut_5 h

set_option maxHeartbeats 4000000 in
set_option maxRecDepth 100000 in
theorem mX2_get (l : Launch) (G : mG) {β : Nat} {M S : mM} {n1 n2 : Nat} {a1 : Int32} {a2 : Int32} {r : Int32} (hn : β + 3 ≤ gN G) (hR : isLin G β n1 n2) (h : pX2_get n1 n2 a1 a2 S = some r) : MC l G yX2_get zzX2_get 0 0 [.ref (gA G (β + 0)), .int a1, .int a2] (wB M β 3 S) (wB M β 3 S) (some (.int r)) := by
  refine mc_of (cc := cX2_get) (maxL := 5) (ret := (some .int)) (by decide) rfl (Nat.le_of_ble_eq_true rfl) ?_
  intro p e s m args below meth c H ls hx hb hr hts hown hml hlocks hE hw hl
  have hl : lv_has ls 5 [(0, .ref (gA G (β + 0))), (1, .int a1), (2, .int a2)] := hl
  have hinX2 : ∀ w ∈ wsX20, w ∈ zzX2_get := fun w h9 => wz_in (zinX2 w h9)
  have k41 : ∀ (x3 : Int32) (t0 : Int32) (H : Heap) (locs : List Loc) (ls : Array Slot), pX2_get_b41 n1 n2 S x3 t0 = some r → mW G s (wB M β 3 S) H locs → lv_has ls 5 [(0, .ref (gA G (β + 0))), (3, .int x3)] → W p l e { frames := 0, cells := 0, slots := 0, locals := 0 } s m args below meth c H locs 0 0 (mZ below G (some (.int r)) (wB M β 3 S) args s) (F0 m 41 ls [.int t0]) := by
    intro x3 t0 H locs ls h hw hl
    unfold pX2_get_b41 at h
    refine lv_istore (lv' := [(4, .int t0), (0, .ref (gA G (β + 0))), (3, .int x3)]) hx hb dX2_get_41 hl (by decide) rfl (fun ls hl => ?_)
    refine lv_iload hx hb dX2_get_43 (lv_at hl 0 rfl) ?_
    refine b_eq (tgt := 70) hx hb dX2_get_45 (by decide) h (fun h => ?_) (fun h => ?_)
    · refine lv_bipush (v := (-9)) hx hb dX2_get_70 (by decide) ?_
      exact e_i hx hb hr hlocks hw dX2_get_72 h
    · refine lv_iload_n hx hb dX2_get_48 rfl (lv_at hl 2 rfl) ?_
      refine b_lt (tgt := 70) hx hb dX2_get_49 (by decide) h (fun h => ?_) (fun h => ?_)
      · refine lv_bipush (v := (-9)) hx hb dX2_get_70 (by decide) ?_
        exact e_i hx hb hr hlocks hw dX2_get_72 h
      · refine lv_iload_n hx hb dX2_get_52 rfl (lv_at hl 2 rfl) ?_
        refine lv_aload_n hx hb dX2_get_53 rfl (lv_at hl 1 rfl) ?_
        refine r_get (v := .ref (gA G (β + 2))) hx hb hts hinX2 hown hE hw hn 0 (by decide) (congrFun hR.1 _) rfl 2 (by decide) (hts _ (wz_in qF_X2_25)) rfl dX2_get_54 ?_
        refine r_alen (v := nI n2) hx hb hE hw hn 2 0 (by decide) (congrFun hR.2.2 _) rfl rfl dX2_get_57 ?_
        refine bi_ge (tgt := 70) hx hb dX2_get_58 (by decide) h (fun h => ?_) (fun h => ?_)
        · refine lv_bipush (v := (-9)) hx hb dX2_get_70 (by decide) ?_
          exact e_i hx hb hr hlocks hw dX2_get_72 h
        · refine lv_aload_n hx hb dX2_get_61 rfl (lv_at hl 1 rfl) ?_
          refine r_get (v := .ref (gA G (β + 2))) hx hb hts hinX2 hown hE hw hn 0 (by decide) (congrFun hR.1 _) rfl 2 (by decide) (hts _ (wz_in qF_X2_25)) rfl dX2_get_62 ?_
          refine lv_iload_n hx hb dX2_get_65 rfl (lv_at hl 2 rfl) ?_
          refine p_iald hx hb hE hw hn 2 (by decide) (congrFun hR.2.2) dX2_get_66 h (fun v66 h => ?_)
          refine lv_goto (tgt := 72) hx hb dX2_get_67 (by decide) ?_
          exact e_i hx hb hr hlocks hw dX2_get_72 h
  have k40 : ∀ (x3 : Int32) (H : Heap) (locs : List Loc) (ls : Array Slot), pX2_get_b40 n1 n2 S x3 = some r → mW G s (wB M β 3 S) H locs → lv_has ls 5 [(0, .ref (gA G (β + 0))), (3, .int x3)] → W p l e { frames := 0, cells := 0, slots := 0, locals := 0 } s m args below meth c H locs 0 0 (mZ below G (some (.int r)) (wB M β 3 S) args s) (F0 m 40 ls []) := by
    intro x3 H locs ls h hw hl
    unfold pX2_get_b40 at h
    refine lv_iconst (v := (nI 0)) hx hb dX2_get_40 (by decide) ?_
    exact k41  x3 (nI 0) _ _ _ h hw (lv_sub hl [0, 1] rfl)
  unfold pX2_get at h
  refine lv_iload_n hx hb dX2_get_0 rfl (lv_at hl 1 rfl) ?_
  refine lv_aload_n hx hb dX2_get_1 rfl (lv_at hl 0 rfl) ?_
  refine p_get hx hb hts hinX2 hown hE hw hn 0 (by decide) (congrFun hR.1 _) rfl 0 (by decide) (hts _ (wz_in qF_X2_9)) rfl dX2_get_2 h (fun v2 h => ?_)
  refine lv_imul hx hb dX2_get_5 ?_
  refine lv_iload_n hx hb dX2_get_6 rfl (lv_at hl 2 rfl) ?_
  refine lv_iadd hx hb dX2_get_7 ?_
  refine p_topi h (fun v8 h => ?_)
  refine lv_istore_n (lv' := [(3, .int v8), (0, .ref (gA G (β + 0))), (1, .int a1), (2, .int a2)]) hx hb dX2_get_8 rfl hl (by decide) rfl (fun ls hl => ?_)
  refine lv_iload_n hx hb dX2_get_9 rfl (lv_at hl 2 rfl) ?_
  refine b_lt (tgt := 40) hx hb dX2_get_10 (by decide) h (fun h => ?_) (fun h => ?_)
  · exact k40  v8 _ _ _ h hw (lv_sub hl [1, 0] rfl)
  · refine lv_iload_n hx hb dX2_get_13 rfl (lv_at hl 2 rfl) ?_
    refine lv_aload_n hx hb dX2_get_14 rfl (lv_at hl 1 rfl) ?_
    refine r_get (v := .ref (gA G (β + 1))) hx hb hts hinX2 hown hE hw hn 0 (by decide) (congrFun hR.1 _) rfl 1 (by decide) (hts _ (wz_in qF_X2_21)) rfl dX2_get_15 ?_
    refine r_alen (v := nI n1) hx hb hE hw hn 1 0 (by decide) (congrFun hR.2.1 _) rfl rfl dX2_get_18 ?_
    refine bi_ge (tgt := 40) hx hb dX2_get_19 (by decide) h (fun h => ?_) (fun h => ?_)
    · exact k40  v8 _ _ _ h hw (lv_sub hl [1, 0] rfl)
    · refine lv_iload_n hx hb dX2_get_22 rfl (lv_at hl 3 rfl) ?_
      refine b_lt (tgt := 40) hx hb dX2_get_23 (by decide) h (fun h => ?_) (fun h => ?_)
      · exact k40  v8 _ _ _ h hw (lv_sub hl [1, 0] rfl)
      · refine lv_iload_n hx hb dX2_get_26 rfl (lv_at hl 3 rfl) ?_
        refine lv_aload_n hx hb dX2_get_27 rfl (lv_at hl 1 rfl) ?_
        refine r_get (v := .ref (gA G (β + 1))) hx hb hts hinX2 hown hE hw hn 0 (by decide) (congrFun hR.1 _) rfl 1 (by decide) (hts _ (wz_in qF_X2_21)) rfl dX2_get_28 ?_
        refine lv_iload_n hx hb dX2_get_31 rfl (lv_at hl 2 rfl) ?_
        refine p_iald hx hb hE hw hn 1 (by decide) (congrFun hR.2.1) dX2_get_32 h (fun v32 h => ?_)
        refine bi_ge (tgt := 40) hx hb dX2_get_33 (by decide) h (fun h => ?_) (fun h => ?_)
        · exact k40  v8 _ _ _ h hw (lv_sub hl [1, 0] rfl)
        · refine lv_iconst (v := (nI 1)) hx hb dX2_get_36 (by decide) ?_
          refine lv_goto (tgt := 41) hx hb dX2_get_37 (by decide) ?_
          exact k41  v8 (nI 1) _ _ _ h hw (lv_sub hl [1, 0] rfl)

set_option maxHeartbeats 4000000 in
set_option maxRecDepth 100000 in
theorem mX2_remove (l : Launch) (G : mG) {β : Nat} {M S S' : mM} {n1 n2 : Nat} {a1 : Int32} {a2 : Int32} (hn : β + 3 ≤ gN G) (hR : isLin G β n1 n2) (h : pX2_remove n1 n2 a1 a2 S = some S') : MC l G yX2_remove zzX2_remove 1 25 [.ref (gA G (β + 0)), .int a1, .int a2] (wB M β 3 S) (wB M β 3 S') none := by
  refine mc_of (cc := cX2_remove) (maxL := 4) (ret := none) (by decide) rfl (Nat.le_of_ble_eq_true rfl) ?_
  intro p e s m args below meth c H ls hx hb hr hts hown hml hlocks hE hw hl
  have hl : lv_has ls 4 [(0, .ref (gA G (β + 0))), (1, .int a1), (2, .int a2)] := hl
  have hinX2 : ∀ w ∈ wsX20, w ∈ zzX2_remove := fun w h9 => wz_in (zinX2 w h9)
  have k30 : ∀ (k : Nat), ∀ (x1 : Int32) (x3 : Int32) (S : mM) (H : Heap) (locs : List Loc) (ls : Array Slot), pX2_remove_l30 n1 n2 k x1 x3 S = some S' → mW G s (wB M β 3 S) H locs → lv_has ls 4 [(0, .ref (gA G (β + 0))), (1, .int x1), (3, .int x3)] → W p l e { frames := 1, cells := 0, slots := 0, locals := 25 } s m args below meth c H locs 0 0 (mZ below G none (wB M β 3 S') args s) (F0 m 30 ls []) := by
    intro k
    induction k with
    | zero => intro x1 x3 S H locs ls h; cases h
    | succ k hih30 =>
      intro x1 x3 S H locs ls h hw hl
      obtain ⟨ih30, hk30⟩ : ∃ f, f = pX2_remove_l30 n1 n2 k := ⟨_, rfl⟩
      replace h : pX2_remove_lb30 n1 n2 (pX2_remove_l30 n1 n2 k) x1 x3 S = some S' := h
      rw [← hk30] at h hih30
      clear hk30
      unfold pX2_remove_lb30 at h
      refine lv_iload_n hx hb dX2_remove_30 rfl (lv_at hl 2 rfl) ?_
      refine lv_aload_n hx hb dX2_remove_31 rfl (lv_at hl 0 rfl) ?_
      refine r_get (v := .ref (gA G (β + 1))) hx hb hts hinX2 hown hE hw hn 0 (by decide) (congrFun hR.1 _) rfl 1 (by decide) (hts _ (wz_in qF_X2_21)) rfl dX2_remove_32 ?_
      refine lv_iload_n hx hb dX2_remove_35 rfl (lv_at hl 1 rfl) ?_
      refine p_iald hx hb hE hw hn 1 (by decide) (congrFun hR.2.1) dX2_remove_36 h (fun v36 h => ?_)
      refine lv_iconst (v := (nI 1)) hx hb dX2_remove_37 (by decide) ?_
      refine lv_isub hx hb dX2_remove_38 ?_
      refine bi_ge (tgt := 62) hx hb dX2_remove_39 (by decide) h (fun h => ?_) (fun h => ?_)
      · refine lv_aload_n hx hb dX2_remove_62 rfl (lv_at hl 0 rfl) ?_
        refine r_get (v := .ref (gA G (β + 1))) hx hb hts hinX2 hown hE hw hn 0 (by decide) (congrFun hR.1 _) rfl 1 (by decide) (hts _ (wz_in qF_X2_21)) rfl dX2_remove_63 ?_
        refine lv_iload_n hx hb dX2_remove_66 rfl (lv_at hl 1 rfl) ?_
        refine lv_dup2_11 hx hb dX2_remove_67 rfl rfl ?_
        refine p_iald hx hb hE hw hn 1 (by decide) (congrFun hR.2.1) dX2_remove_68 h (fun v68 h => ?_)
        refine lv_iconst (v := (nI 1)) hx hb dX2_remove_69 (by decide) ?_
        refine lv_isub hx hb dX2_remove_70 ?_
        refine p_iast hx hb hE hw hn 1 (by decide) (congrFun hR.2.1) dX2_remove_71 h (fun S71 h H locs hw => ?_)
        exact e_vw hx hb hr hlocks hw dX2_remove_72 h
      · refine lv_aload_n hx hb dX2_remove_42 rfl (lv_at hl 0 rfl) ?_
        refine lv_iload_n hx hb dX2_remove_43 rfl (lv_at hl 1 rfl) ?_
        refine lv_iload_n hx hb dX2_remove_44 rfl (lv_at hl 2 rfl) ?_
        refine lv_aload_n hx hb dX2_remove_45 rfl (lv_at hl 0 rfl) ?_
        refine lv_iload_n hx hb dX2_remove_46 rfl (lv_at hl 1 rfl) ?_
        refine lv_iload_n hx hb dX2_remove_47 rfl (lv_at hl 2 rfl) ?_
        refine lv_iconst (v := (nI 1)) hx hb dX2_remove_48 (by decide) ?_
        refine lv_iadd hx hb dX2_remove_49 ?_
        obtain ⟨v50, h50, h⟩ := cr1_some h
        refine r_callV (As := [.int x1, .int (x3 + (nI 1))]) (rest := [.int x3, .int x1, .ref (gA G (β + 0))]) (st1 := [.int v50, .int x3, .int x1, .ref (gA G (β + 0))]) hx hb hml hown hts hE hw hl (mX2_get l G (by omega) hR h50) (cwV 2 hts (zV gV_X2_32) rfl rfl rfl kdX2_get ⟨Nat.le_of_ble_eq_true rfl, Nat.le_of_ble_eq_true rfl⟩) (by omega) (congrFun hR.1 _) rfl rfl rfl rfl (Nat.le_of_ble_eq_true rfl) dX2_remove_50 ⟨Nat.zero_le _, Nat.zero_le _⟩ rfl (fun H locs hw => ?_)
        obtain ⟨S53, h53, h⟩ := cr1_some h
        refine r_callV (As := [.int x1, .int x3, .int v50]) (rest := []) (st1 := []) hx hb hml hown hts hE hw hl (mX2_put l G (by omega) hR h53) (cwV 3 hts (zV gV_X2_28) rfl rfl rfl kdX2_put ⟨Nat.le_of_ble_eq_true rfl, Nat.le_of_ble_eq_true rfl⟩) (by omega) (congrFun hR.1 _) rfl rfl rfl rfl (Nat.le_of_ble_eq_true rfl) dX2_remove_53 ⟨Nat.zero_le _, Nat.zero_le _⟩ rfl (fun H locs hw => ?_)
        refine p_iinc (w := (nI 1)) 2 (fun v56 => [(3, .int v56), (0, .ref (gA G (β + 0))), (1, .int x1)]) hx hb dX2_remove_56 hl rfl (by decide) (by decide) h (fun _ => rfl) (fun v56 h ls hl => ?_)
        refine lv_goto (tgt := 30) hx hb dX2_remove_59 (by decide) ?_
        exact hih30 x1 v56 S53 _ _ _ h hw (lv_sub hl [1, 2, 0] rfl)
  unfold pX2_remove at h
  refine lv_iload_n hx hb dX2_remove_0 rfl (lv_at hl 1 rfl) ?_
  refine b_lt (tgt := 27) hx hb dX2_remove_1 (by decide) h (fun h => ?_) (fun h => ?_)
  · exact e_vw hx hb hr hlocks hw dX2_remove_27 h
  · refine lv_iload_n hx hb dX2_remove_4 rfl (lv_at hl 1 rfl) ?_
    refine lv_aload_n hx hb dX2_remove_5 rfl (lv_at hl 0 rfl) ?_
    refine r_get (v := .ref (gA G (β + 1))) hx hb hts hinX2 hown hE hw hn 0 (by decide) (congrFun hR.1 _) rfl 1 (by decide) (hts _ (wz_in qF_X2_21)) rfl dX2_remove_6 ?_
    refine r_alen (v := nI n1) hx hb hE hw hn 1 0 (by decide) (congrFun hR.2.1 _) rfl rfl dX2_remove_9 ?_
    refine bi_ge (tgt := 27) hx hb dX2_remove_10 (by decide) h (fun h => ?_) (fun h => ?_)
    · exact e_vw hx hb hr hlocks hw dX2_remove_27 h
    · refine lv_iload_n hx hb dX2_remove_13 rfl (lv_at hl 2 rfl) ?_
      refine b_lt (tgt := 27) hx hb dX2_remove_14 (by decide) h (fun h => ?_) (fun h => ?_)
      · exact e_vw hx hb hr hlocks hw dX2_remove_27 h
      · refine lv_iload_n hx hb dX2_remove_17 rfl (lv_at hl 2 rfl) ?_
        refine lv_aload_n hx hb dX2_remove_18 rfl (lv_at hl 0 rfl) ?_
        refine r_get (v := .ref (gA G (β + 1))) hx hb hts hinX2 hown hE hw hn 0 (by decide) (congrFun hR.1 _) rfl 1 (by decide) (hts _ (wz_in qF_X2_21)) rfl dX2_remove_19 ?_
        refine lv_iload_n hx hb dX2_remove_22 rfl (lv_at hl 1 rfl) ?_
        refine p_iald hx hb hE hw hn 1 (by decide) (congrFun hR.2.1) dX2_remove_23 h (fun v23 h => ?_)
        refine bi_lt (tgt := 28) hx hb dX2_remove_24 (by decide) h (fun h => ?_) (fun h => ?_)
        · refine lv_iload_n hx hb dX2_remove_28 rfl (lv_at hl 2 rfl) ?_
          refine lv_istore_n (lv' := [(3, .int a2), (0, .ref (gA G (β + 0))), (1, .int a1), (2, .int a2)]) hx hb dX2_remove_29 rfl hl (by decide) rfl (fun ls hl => ?_)
          exact k30 fuel a1 a2 S _ _ _ h hw (lv_sub hl [1, 2, 0] rfl)
        · exact e_vw hx hb hr hlocks hw dX2_remove_27 h

set_option maxHeartbeats 4000000 in
set_option maxRecDepth 100000 in
theorem mX2_emptyLine (l : Launch) (G : mG) {β : Nat} {M S S' : mM} {n1 n2 : Nat} {a1 : Int32} (hn : β + 3 ≤ gN G) (hR : isLin G β n1 n2) (h : pX2_emptyLine n1 n2 a1 S = some S') : MC l G yX2_emptyLine zzX2_emptyLine 0 0 [.ref (gA G (β + 0)), .int a1] (wB M β 3 S) (wB M β 3 S') none := by
  refine mc_of (cc := cX2_emptyLine) (maxL := 2) (ret := none) (by decide) rfl (Nat.le_of_ble_eq_true rfl) ?_
  intro p e s m args below meth c H ls hx hb hr hts hown hml hlocks hE hw hl
  have hl : lv_has ls 2 [(0, .ref (gA G (β + 0))), (1, .int a1)] := hl
  have hinX2 : ∀ w ∈ wsX20, w ∈ zzX2_emptyLine := fun w h9 => wz_in (zinX2 w h9)
  unfold pX2_emptyLine at h
  refine lv_iload_n hx hb dX2_emptyLine_0 rfl (lv_at hl 1 rfl) ?_
  refine b_lt (tgt := 20) hx hb dX2_emptyLine_1 (by decide) h (fun h => ?_) (fun h => ?_)
  · exact e_vw hx hb hr hlocks hw dX2_emptyLine_20 h
  · refine lv_iload_n hx hb dX2_emptyLine_4 rfl (lv_at hl 1 rfl) ?_
    refine lv_aload_n hx hb dX2_emptyLine_5 rfl (lv_at hl 0 rfl) ?_
    refine r_get (v := .ref (gA G (β + 1))) hx hb hts hinX2 hown hE hw hn 0 (by decide) (congrFun hR.1 _) rfl 1 (by decide) (hts _ (wz_in qF_X2_21)) rfl dX2_emptyLine_6 ?_
    refine r_alen (v := nI n1) hx hb hE hw hn 1 0 (by decide) (congrFun hR.2.1 _) rfl rfl dX2_emptyLine_9 ?_
    refine bi_ge (tgt := 20) hx hb dX2_emptyLine_10 (by decide) h (fun h => ?_) (fun h => ?_)
    · exact e_vw hx hb hr hlocks hw dX2_emptyLine_20 h
    · refine lv_aload_n hx hb dX2_emptyLine_13 rfl (lv_at hl 0 rfl) ?_
      refine r_get (v := .ref (gA G (β + 1))) hx hb hts hinX2 hown hE hw hn 0 (by decide) (congrFun hR.1 _) rfl 1 (by decide) (hts _ (wz_in qF_X2_21)) rfl dX2_emptyLine_14 ?_
      refine lv_iload_n hx hb dX2_emptyLine_17 rfl (lv_at hl 1 rfl) ?_
      refine lv_iconst (v := (nI 0)) hx hb dX2_emptyLine_18 (by decide) ?_
      refine p_iast hx hb hE hw hn 1 (by decide) (congrFun hR.2.1) dX2_emptyLine_19 h (fun S19 h H locs hw => ?_)
      exact e_vw hx hb hr hlocks hw dX2_emptyLine_20 h

set_option maxHeartbeats 4000000 in
set_option maxRecDepth 100000 in
theorem mX5_raise (l : Launch) (G : mG) {β : Nat} {M S S' : mM} {n : Nat} {a1 : Int32} {a2 : Int32} {a3 : Int32} (hn : β + 2 ≤ gN G) (hR : isTab G β n) (h : pX5_raise n a1 a2 a3 S = some S') : MC l G yX5_raise zzX5_raise 0 0 [.ref (gA G (β + 0)), .int a1, .int a2, .int a3] (wB M β 2 S) (wB M β 2 S') none := by
  refine mc_of (cc := cX5_raise) (maxL := 6) (ret := none) (by decide) rfl (Nat.le_of_ble_eq_true rfl) ?_
  intro p e s m args below meth c H ls hx hb hr hts hown hml hlocks hE hw hl
  have hl : lv_has ls 6 [(0, .ref (gA G (β + 0))), (1, .int a1), (2, .int a2), (3, .int a3)] := hl
  have hinX5 : ∀ w ∈ wsX50, w ∈ zzX5_raise := fun w h9 => wz_in (zinX5 w h9)
  have k39 : ∀ (x3 : Int32) (x4 : Int32) (t0 : Int32) (S : mM) (H : Heap) (locs : List Loc) (ls : Array Slot), pX5_raise_b39 n x3 x4 t0 S = some S' → mW G s (wB M β 2 S) H locs → lv_has ls 6 [(0, .ref (gA G (β + 0))), (3, .int x3), (4, .int x4)] → W p l e { frames := 0, cells := 0, slots := 0, locals := 0 } s m args below meth c H locs 0 0 (mZ below G none (wB M β 2 S') args s) (F0 m 39 ls [.int t0]) := by
    intro x3 x4 t0 S H locs ls h hw hl
    unfold pX5_raise_b39 at h
    refine lv_istore (lv' := [(5, .int t0), (0, .ref (gA G (β + 0))), (3, .int x3), (4, .int x4)]) hx hb dX5_raise_39 hl (by decide) rfl (fun ls hl => ?_)
    refine lv_iload hx hb dX5_raise_41 (lv_at hl 0 rfl) ?_
    refine b_eq (tgt := 72) hx hb dX5_raise_43 (by decide) h (fun h => ?_) (fun h => ?_)
    · exact e_vw hx hb hr hlocks hw dX5_raise_72 h
    · refine lv_iload hx hb dX5_raise_46 (lv_at hl 3 rfl) ?_
      refine b_lt (tgt := 72) hx hb dX5_raise_48 (by decide) h (fun h => ?_) (fun h => ?_)
      · exact e_vw hx hb hr hlocks hw dX5_raise_72 h
      · refine lv_iload hx hb dX5_raise_51 (lv_at hl 3 rfl) ?_
        refine lv_aload_n hx hb dX5_raise_53 rfl (lv_at hl 1 rfl) ?_
        refine r_get (v := .ref (gA G (β + 1))) hx hb hts hinX5 hown hE hw hn 0 (by decide) (congrFun hR.1 _) rfl 2 (by decide) (hts _ (wz_in qF_X5_24)) rfl dX5_raise_54 ?_
        refine r_alen (v := nI n) hx hb hE hw hn 1 0 (by decide) (congrFun hR.2 _) rfl rfl dX5_raise_57 ?_
        refine bi_ge (tgt := 72) hx hb dX5_raise_58 (by decide) h (fun h => ?_) (fun h => ?_)
        · exact e_vw hx hb hr hlocks hw dX5_raise_72 h
        · refine lv_aload_n hx hb dX5_raise_61 rfl (lv_at hl 1 rfl) ?_
          refine r_get (v := .ref (gA G (β + 1))) hx hb hts hinX5 hown hE hw hn 0 (by decide) (congrFun hR.1 _) rfl 2 (by decide) (hts _ (wz_in qF_X5_24)) rfl dX5_raise_62 ?_
          refine lv_iload hx hb dX5_raise_65 (lv_at hl 3 rfl) ?_
          refine lv_dup2_11 hx hb dX5_raise_67 rfl rfl ?_
          refine p_iald hx hb hE hw hn 1 (by decide) (congrFun hR.2) dX5_raise_68 h (fun v68 h => ?_)
          refine lv_iload_n hx hb dX5_raise_69 rfl (lv_at hl 2 rfl) ?_
          refine lv_iadd hx hb dX5_raise_70 ?_
          refine p_iast hx hb hE hw hn 1 (by decide) (congrFun hR.2) dX5_raise_71 h (fun S71 h H locs hw => ?_)
          exact e_vw hx hb hr hlocks hw dX5_raise_72 h
  have k38 : ∀ (x3 : Int32) (x4 : Int32) (S : mM) (H : Heap) (locs : List Loc) (ls : Array Slot), pX5_raise_b38 n x3 x4 S = some S' → mW G s (wB M β 2 S) H locs → lv_has ls 6 [(0, .ref (gA G (β + 0))), (3, .int x3), (4, .int x4)] → W p l e { frames := 0, cells := 0, slots := 0, locals := 0 } s m args below meth c H locs 0 0 (mZ below G none (wB M β 2 S') args s) (F0 m 38 ls []) := by
    intro x3 x4 S H locs ls h hw hl
    unfold pX5_raise_b38 at h
    refine lv_iconst (v := (nI 0)) hx hb dX5_raise_38 (by decide) ?_
    exact k39  x3 x4 (nI 0) S _ _ _ h hw (lv_sub hl [0, 1, 2] rfl)
  unfold pX5_raise at h
  refine lv_iload_n hx hb dX5_raise_0 rfl (lv_at hl 1 rfl) ?_
  refine lv_aload_n hx hb dX5_raise_1 rfl (lv_at hl 0 rfl) ?_
  refine p_get hx hb hts hinX5 hown hE hw hn 0 (by decide) (congrFun hR.1 _) rfl 1 (by decide) (hts _ (wz_in qF_X5_15)) rfl dX5_raise_2 h (fun v2 h => ?_)
  refine lv_imul hx hb dX5_raise_5 ?_
  refine lv_iload_n hx hb dX5_raise_6 rfl (lv_at hl 2 rfl) ?_
  refine lv_iadd hx hb dX5_raise_7 ?_
  refine p_topi h (fun v8 h => ?_)
  refine lv_istore (lv' := [(4, .int v8), (0, .ref (gA G (β + 0))), (1, .int a1), (2, .int a2), (3, .int a3)]) hx hb dX5_raise_8 hl (by decide) rfl (fun ls hl => ?_)
  refine lv_iload_n hx hb dX5_raise_10 rfl (lv_at hl 2 rfl) ?_
  refine b_lt (tgt := 38) hx hb dX5_raise_11 (by decide) h (fun h => ?_) (fun h => ?_)
  · exact k38  a3 v8 S _ _ _ h hw (lv_sub hl [1, 4, 0] rfl)
  · refine lv_iload_n hx hb dX5_raise_14 rfl (lv_at hl 2 rfl) ?_
    refine lv_aload_n hx hb dX5_raise_15 rfl (lv_at hl 1 rfl) ?_
    refine p_get hx hb hts hinX5 hown hE hw hn 0 (by decide) (congrFun hR.1 _) rfl 3 (by decide) (hts _ (wz_in qF_X5_28)) rfl dX5_raise_16 h (fun v16 h => ?_)
    refine bi_ge (tgt := 38) hx hb dX5_raise_19 (by decide) h (fun h => ?_) (fun h => ?_)
    · exact k38  a3 v8 S _ _ _ h hw (lv_sub hl [1, 4, 0] rfl)
    · refine lv_iload_n hx hb dX5_raise_22 rfl (lv_at hl 3 rfl) ?_
      refine b_lt (tgt := 38) hx hb dX5_raise_23 (by decide) h (fun h => ?_) (fun h => ?_)
      · exact k38  a3 v8 S _ _ _ h hw (lv_sub hl [1, 4, 0] rfl)
      · refine lv_iload_n hx hb dX5_raise_26 rfl (lv_at hl 3 rfl) ?_
        refine lv_aload_n hx hb dX5_raise_27 rfl (lv_at hl 1 rfl) ?_
        refine p_get hx hb hts hinX5 hown hE hw hn 0 (by decide) (congrFun hR.1 _) rfl 1 (by decide) (hts _ (wz_in qF_X5_15)) rfl dX5_raise_28 h (fun v28 h => ?_)
        refine bi_ge (tgt := 38) hx hb dX5_raise_31 (by decide) h (fun h => ?_) (fun h => ?_)
        · exact k38  a3 v8 S _ _ _ h hw (lv_sub hl [1, 4, 0] rfl)
        · refine lv_iconst (v := (nI 1)) hx hb dX5_raise_34 (by decide) ?_
          refine lv_goto (tgt := 39) hx hb dX5_raise_35 (by decide) ?_
          exact k39  a3 v8 (nI 1) S _ _ _ h hw (lv_sub hl [1, 4, 0] rfl)

set_option maxHeartbeats 4000000 in
set_option maxRecDepth 100000 in
theorem mX5_sum (l : Launch) (G : mG) {β : Nat} {M S : mM} {n : Nat} {a1 : Int32} {r : Int32} (hn : β + 2 ≤ gN G) (hR : isTab G β n) (h : pX5_sum n a1 S = some r) : MC l G yX5_sum zzX5_sum 1 24 [.ref (gA G (β + 0)), .int a1] (wB M β 2 S) (wB M β 2 S) (some (.int r)) := by
  refine mc_of (cc := cX5_sum) (maxL := 4) (ret := (some .int)) (by decide) rfl (Nat.le_of_ble_eq_true rfl) ?_
  intro p e s m args below meth c H ls hx hb hr hts hown hml hlocks hE hw hl
  have hl : lv_has ls 4 [(0, .ref (gA G (β + 0))), (1, .int a1)] := hl
  have hinX5 : ∀ w ∈ wsX50, w ∈ zzX5_sum := fun w h9 => wz_in (zinX5 w h9)
  have k4 : ∀ (k : Nat), ∀ (x1 : Int32) (x2 : Int32) (x3 : Int32) (H : Heap) (locs : List Loc) (ls : Array Slot), pX5_sum_l4 n S k x1 x2 x3 = some r → mW G s (wB M β 2 S) H locs → lv_has ls 4 [(0, .ref (gA G (β + 0))), (1, .int x1), (2, .int x2), (3, .int x3)] → W p l e { frames := 1, cells := 0, slots := 0, locals := 24 } s m args below meth c H locs 0 0 (mZ below G (some (.int r)) (wB M β 2 S) args s) (F0 m 4 ls []) := by
    intro k
    induction k with
    | zero => intro x1 x2 x3 H locs ls h; cases h
    | succ k hih4 =>
      intro x1 x2 x3 H locs ls h hw hl
      obtain ⟨ih4, hk4⟩ : ∃ f, f = pX5_sum_l4 n S k := ⟨_, rfl⟩
      replace h : pX5_sum_lb4 n (pX5_sum_l4 n S k) S x1 x2 x3 = some r := h
      rw [← hk4] at h hih4
      clear hk4
      unfold pX5_sum_lb4 at h
      refine lv_iload_n hx hb dX5_sum_4 rfl (lv_at hl 3 rfl) ?_
      refine lv_aload_n hx hb dX5_sum_5 rfl (lv_at hl 0 rfl) ?_
      refine p_get hx hb hts hinX5 hown hE hw hn 0 (by decide) (congrFun hR.1 _) rfl 3 (by decide) (hts _ (wz_in qF_X5_28)) rfl dX5_sum_6 h (fun v6 h => ?_)
      refine bi_ge (tgt := 27) hx hb dX5_sum_9 (by decide) h (fun h => ?_) (fun h => ?_)
      · refine lv_iload_n hx hb dX5_sum_27 rfl (lv_at hl 2 rfl) ?_
        exact e_i hx hb hr hlocks hw dX5_sum_28 h
      · refine lv_iload_n hx hb dX5_sum_12 rfl (lv_at hl 2 rfl) ?_
        refine lv_aload_n hx hb dX5_sum_13 rfl (lv_at hl 0 rfl) ?_
        refine lv_iload_n hx hb dX5_sum_14 rfl (lv_at hl 3 rfl) ?_
        refine lv_iload_n hx hb dX5_sum_15 rfl (lv_at hl 1 rfl) ?_
        obtain ⟨v16, h16, h⟩ := cr1_some h
        refine r_callV (As := [.int x3, .int x1]) (rest := [.int x2]) (st1 := [.int v16, .int x2]) hx hb hml hown hts hE hw hl (mX5_get l G (by omega) hR h16) (cwV 2 hts (zV gV_X5_35) rfl rfl rfl kdX5_get ⟨Nat.le_of_ble_eq_true rfl, Nat.le_of_ble_eq_true rfl⟩) (by omega) (congrFun hR.1 _) rfl rfl rfl rfl (Nat.le_of_ble_eq_true rfl) dX5_sum_16 ⟨Nat.zero_le _, Nat.zero_le _⟩ rfl (fun H locs hw => ?_)
        refine lv_iadd hx hb dX5_sum_19 ?_
        refine p_topi h (fun v20 h => ?_)
        refine lv_istore_n (lv' := [(2, .int v20), (0, .ref (gA G (β + 0))), (1, .int x1), (3, .int x3)]) hx hb dX5_sum_20 rfl hl (by decide) rfl (fun ls hl => ?_)
        refine p_iinc (w := (nI 1)) 3 (fun v21 => [(3, .int v21), (2, .int v20), (0, .ref (gA G (β + 0))), (1, .int x1)]) hx hb dX5_sum_21 hl rfl (by decide) (by decide) h (fun _ => rfl) (fun v21 h ls hl => ?_)
        refine lv_goto (tgt := 4) hx hb dX5_sum_24 (by decide) ?_
        exact hih4 x1 v20 v21 _ _ _ h hw (lv_sub hl [2, 3, 1, 0] rfl)
  unfold pX5_sum at h
  refine lv_iconst (v := (nI 0)) hx hb dX5_sum_0 (by decide) ?_
  refine lv_istore_n (lv' := [(2, .int (nI 0)), (0, .ref (gA G (β + 0))), (1, .int a1)]) hx hb dX5_sum_1 rfl hl (by decide) rfl (fun ls hl => ?_)
  refine lv_iconst (v := (nI 0)) hx hb dX5_sum_2 (by decide) ?_
  refine lv_istore_n (lv' := [(3, .int (nI 0)), (2, .int (nI 0)), (0, .ref (gA G (β + 0))), (1, .int a1)]) hx hb dX5_sum_3 rfl hl (by decide) rfl (fun ls hl => ?_)
  exact k4 fuel a1 (nI 0) (nI 0) _ _ _ h hw (lv_sub hl [2, 3, 1, 0] rfl)
