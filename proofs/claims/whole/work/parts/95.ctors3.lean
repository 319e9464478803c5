/-! ===== more words; the last constructors ===== -/
theorem qC_X0_init : Cond.code yX0_init cX0_init 1 none ∈ zT := zT_in (qin_1 (List.mem_of_getElem? (i := 143) (by decide +kernel))) rfl
theorem qC_X1_init : Cond.code yX1_init cX1_init 1 none ∈ zT := zT_in (qin_1 (List.mem_of_getElem? (i := 29) (by decide +kernel))) rfl
theorem qC_X3_init : Cond.code yX3_init cX3_init 3 none ∈ zT := zT_in (qin_1 (List.mem_of_getElem? (i := 149) (by decide +kernel))) rfl
theorem qI_X0_init : Cond.instanceMethod yX0_init ∈ zT := zT_in (qin_1 (List.mem_of_getElem? (i := 142) (by decide +kernel))) rfl
theorem qI_X1_init : Cond.instanceMethod yX1_init ∈ zT := zT_in (qin_1 (List.mem_of_getElem? (i := 28) (by decide +kernel))) rfl
theorem qI_X3_init : Cond.instanceMethod yX3_init ∈ zT := zT_in (qin_1 (List.mem_of_getElem? (i := 148) (by decide +kernel))) rfl
theorem qL_X0_9 : Cond.classLink RX0 9 RX3 ∈ zT := zT_in (qin_1 (List.mem_of_getElem? (i := 145) (by decide +kernel))) rfl
theorem qL_X6_16 : Cond.classLink RX6 16 RX4 ∈ zT := zT_in (qin_1 (List.mem_of_getElem? (i := 45) (by decide +kernel))) rfl
theorem qL_X6_26 : Cond.classLink RX6 26 RX0 ∈ zT := zT_in (qin_1 (List.mem_of_getElem? (i := 139) (by decide +kernel))) rfl
theorem qL_X6_33 : Cond.classLink RX6 33 RX3 ∈ zT := zT_in (qin_1 (List.mem_of_getElem? (i := 173) (by decide +kernel))) rfl
theorem qL_X6_7 : Cond.classLink RX6 7 RX1 ∈ zT := zT_in (qin_1 (List.mem_of_getElem? (i := 25) (by decide +kernel))) rfl
theorem qM_X0_11 : Cond.methodLink RX0 11 yX3_init ∈ zT := zT_in (qin_1 (List.mem_of_getElem? (i := 147) (by decide +kernel))) rfl
theorem qM_X6_35 : Cond.methodLink RX6 35 yX3_init ∈ zT := zT_in (qin_1 (List.mem_of_getElem? (i := 174) (by decide +kernel))) rfl
theorem qM_X6_42 : Cond.methodLink RX6 42 yX4_begin ∈ zT := zT_in (qin_1 (List.mem_of_getElem? (i := 175) (by decide +kernel))) rfl
theorem gV_X6_42 : ZV RX6 42 RX4 yX4_begin cX4_begin 2 none := ⟨qM_X6_42, qI_X4_begin, qS_X4_begin, qN_X4, qC_X4_begin⟩
theorem kdX0_init : yX0_init.cls ≠ "java/lang/invoke/MethodHandle" ∧ yX0_init.cls ≠ "java/lang/invoke/VarHandle" ∧ (parseMethodDescriptor yX0_init.desc).map (fun d => d.parameters.length) = some 0 := by decide +kernel
theorem kdX1_init : yX1_init.cls ≠ "java/lang/invoke/MethodHandle" ∧ yX1_init.cls ≠ "java/lang/invoke/VarHandle" ∧ (parseMethodDescriptor yX1_init.desc).map (fun d => d.parameters.length) = some 0 := by decide +kernel
theorem kdX3_init : yX3_init.cls ≠ "java/lang/invoke/MethodHandle" ∧ yX3_init.cls ≠ "java/lang/invoke/VarHandle" ∧ (parseMethodDescriptor yX3_init.desc).map (fun d => d.parameters.length) = some 1 := by decide +kernel
def sh0 : mS := fun f => .inr (0, [.null, .int (f 1), .int (f 2)])
def newText (G : mG) (M : mM) (a : Nat) : Prop := gK G a = sX1 G a ∧ gK G (a + 1) = aC G 140 ∧ M a = fun _ => 0
theorem newText.up {E : Nat → Prop} {G G1 : mG} {M M1 : mM} {a : Nat} (h : newText G M a) (u : Up E G M G1 M1) (ha : a + 2 ≤ gN G) (hn : ∀ k, a ≤ k → k < a + 2 → ¬ E k) : newText G1 M1 a := by
  obtain ⟨h1, h2, h3⟩ := h
  refine ⟨?_, ?_, ?_⟩
  · rw [u.k (by omega) (hn _ (by omega) (by omega)), h1]
    unfold sX1
    rw [u.a (by omega)]
  · rw [u.k (by omega) (hn _ (by omega) (by omega)), h2]
    unfold aC
    rw [u.1.2.2.1]
  · rw [u.m (by omega) (hn _ (by omega) (by omega)), h3]
def newHist (G : mG) (M : mM) (a : Nat) : Prop := gK G a = sX0 G a ∧ newShelf G M (a + 1) 14 ∧ M a = fun _ => 0
theorem newHist.up {E : Nat → Prop} {G G1 : mG} {M M1 : mM} {a : Nat} (h : newHist G M a) (u : Up E G M G1 M1) (ha : a + 242 ≤ gN G) (hn : ∀ k, a ≤ k → k < a + 242 → ¬ E k) : newHist G1 M1 a := by
  obtain ⟨h1, h2, h3⟩ := h
  refine ⟨?_, h2.up u (by omega) (fun k q1 q2 => hn k (by omega) (by omega)), ?_⟩
  · rw [u.k (by omega) (hn _ (by omega) (by omega)), h1]
    unfold sX0
    rw [u.a (by omega)]
  · rw [u.m (by omega) (hn _ (by omega) (by omega)), h3]
set_option maxRecDepth 100000 in
set_option maxHeartbeats 4000000 in
theorem mX0_init (l : Launch) (G : mG) {M : mM} {n : Nat} (hN : gN G = n + 1) (hk : gK G n = sh0) (hm : M n = fun _ => 0) : MI l G yX0_init (wz yX0_init cX0_init 1 none) 4 110 241 3950 [.ref (gA G n)] M n (fun G1 M1 => gN G1 = n + 242 ∧ newHist G1 M1 n) := by
  refine mi_of (cc := cX0_init) (maxL := 1) (by decide) rfl (Nat.le_of_ble_eq_true rfl) ?_
  intro p e s m args below meth c H ls hx hb hr hts hown hml hlocks hnm hE hO hw hl
  have hl : lv_has ls 1 [(0, .ref (gA G n))] := hl
  have hinX0 : ∀ w ∈ wsX00, w ∈ wz yX0_init cX0_init 1 none := fun w h9 => wz_in (zinX0 w h9)
  have hinX3 : ∀ w ∈ wsX30, w ∈ wz yX0_init cX0_init 1 none := fun w h9 => wz_in (zinX3 w h9)
  refine lv_aload_n hx hb dX0_init_0 rfl (lv_at hl 0 rfl) ?_
  refine W.objInit hx hb hown (hts _ (wz_in qM_X0_3)) (hts _ (wz_in qI_objinit)) (hts _ (wz_in qC_objinit)) rfl (by rw [hml]; exact hl.1) rfl dX0_init_1 (Nat.le_of_ble_eq_true rfl) (Nat.le_of_ble_eq_true rfl) ?_
  refine W.eq (g2 := F0 m 4 ls []) rfl ?_
  have U0 : Up (fun k => k = n) G M G M := Up.rf
  have hA0 : gA G n = gA G n := rfl
  have hN0 : gN G = n + 1 := hN
  refine lv_aload_n hx hb dX0_init_4 rfl (lv_at hl 0 rfl) ?_
  refine i_new (ci := 3) (fs := [.null, .null]) hx hb hts hinX3 tyX3 tyX3_ok hown (hts _ (wz_in qL_X0_9)) (hts _ (wz_in qB_X3)) (hts _ (wz_in qN_X3)) hE hw rfl (sh3) rfl (fun j hj => by rcases (show j = 0 ∨ j = 1 by omega) with rfl | rfl <;> rfl) (by show 0 + 1 ≤ 241; omega) (by show 0 + 2 ≤ 3950; omega) dX0_init_5 (fun G1a M1a H uA1 eA1 kA1 xA1 hEA1 hwA1 => ?_)
  rw [hN0] at eA1 kA1 xA1 ⊢
  refine lv_dup hx hb dX0_init_8 rfl ?_
  refine lv_bipush (v := (nI 14)) hx hb dX0_init_9 (by decide) ?_
  refine i_call (n := n + 1) (As := [.int (nI 14)]) (rest := [.ref (gA G1a (n + 1)), .ref (gA G n)]) hx hb hml hown hts hEA1 hO hwA1 hl (mX3_init l G1a (mm := 14) (by decide) (by decide) eA1 kA1 xA1) (cwI 1 hts (zN qC_X3_init) rfl rfl rfl (hts _ (wz_in qN_X3)) (hts _ (wz_in qM_X0_11)) (hts _ (wz_in qI_X3_init)) rfl kdX3_init ⟨(Nat.le_of_ble_eq_true rfl), (Nat.le_of_ble_eq_true rfl)⟩) rfl rfl (Nat.le_of_ble_eq_true rfl) dX0_init_11 ⟨(by show 1 + 240 ≤ 241; omega), (by show 2 + 3948 ≤ 3950; omega)⟩ (fun G1b M1b H locs uB1 pB1 hEB1 hwB1 => ?_)
  obtain ⟨nB1, p1_0⟩ := pB1
  refine i_putF (ci := 0) (fs := [.null, .int 0, .int 0]) (v := .ref (gA G1a (n + 1))) (ty := (.object "WinterRoad$Shelf")) n (fun f => .inr (0, [.ref (gA G1a (n + 1)), .int (f 1), .int (f 2)])) (fun _ => 0) ((uB1.a (by omega)).trans ((uA1.a (by omega)).trans hA0)) hx hb hts hinX0 tyX0 tyX0_ok nmX0 hown hEB1 hwB1 (by omega) (by rw [uB1.k (by omega) (by omega), uB1.m (by omega) (by omega), uA1.k (by omega) (fun z => z), uA1.m (by omega) (fun z => z), hk, hm] <;> rfl) rfl 0 (by decide) (hts _ (wz_in qF_X0_14)) rfl rfl hnm rfl (by decide +kernel) rfl rfl (Nat.le_of_ble_eq_true rfl) rfl dX0_init_14 (fun G1 M1 H locs u1 e1 k1 x1 hE1 hw1 => ?_)
  have V1 : Up (fun k => k = n) G M G1 M1 := ((uA1.sub (fun _ _ z => z.elim)).tr uB1 (fun q hq z => absurd (show q = n + 1 from z) (by omega))).tr u1 (fun _ _ z => z)
  have U1 : Up (fun k => k = n) G M G1 M1 := U0.tr V1 (fun _ _ z => z)
  have hN1 : gN G1 = n + 242 := by omega
  have hA1 : gA G1 n = gA G n := (V1.a (by omega)).trans hA0
  have f1a_1 : newShelf G1 M1 (n + 1) 14 := p1_0.up u1 (by omega) (fun q q1 q2 => by omega)
  have q1_1 : gA G1 (n + 1) = gA G1a (n + 1) := (u1.a (by omega)).trans (uB1.a (by omega))
  clear uA1 eA1 kA1 xA1 hEA1 hwA1 u1 e1 V1 U0 hN0 hA0 hE hw p1_0 uB1 nB1 hEB1 hwB1 hk hm
  refine i_vret (n := n) hx hb hr hlocks U1 hE1 hw1 ⟨by omega, ?_, f1a_1, x1⟩ dX0_init_17 (by omega) (by omega)
  rw [k1]
  unfold sX0
  rw [q1_1]

def sh6 : mS := fun _ => .inr (6, [.null, .null, .null, .null, .null])
def newWR (G : mG) (M : mM) (a : Nat) : Prop := gK G a = sX6 G a ∧ newText G M (a + 1) ∧ (isSt G (a + 3) ∧ RepC (sB M (a + 3)) (emA (nI 20)) ∧ M (a + 3) 9 = 0) ∧ newSt G M (a + 20) ∧ newHist G M (a + 37) ∧ newShelf G M (a + 279) 2
set_option maxRecDepth 100000 in
set_option maxHeartbeats 4000000 in
theorem mX6_init (l : Launch) (G : mG) {M : mM} {n : Nat} (hN : gN G = n + 1) (hk : gK G n = sh6) (hm : M n = fun _ => 0) : MI l G yX6_init (wz yX6_init cX6_init 1 none) 5 140 315 5223 [.ref (gA G n)] M n (fun G1 M1 => gN G1 = n + 316 ∧ newWR G1 M1 n) := by
  refine mi_of (cc := cX6_init) (maxL := 1) (by decide) rfl (Nat.le_of_ble_eq_true rfl) ?_
  intro p e s m args below meth c H ls hx hb hr hts hown hml hlocks hnm hE hO hw hl
  have hl : lv_has ls 1 [(0, .ref (gA G n))] := hl
  have hinX6 : ∀ w ∈ wsX60, w ∈ wz yX6_init cX6_init 1 none := fun w h9 => wz_in (zinX6 w h9)
  have hinX1 : ∀ w ∈ wsX10, w ∈ wz yX6_init cX6_init 1 none := fun w h9 => wz_in (zinX1 w h9)
  have hinX4 : ∀ w ∈ wsX40, w ∈ wz yX6_init cX6_init 1 none := fun w h9 => wz_in (zinX4 w h9)
  have hinX0 : ∀ w ∈ wsX00, w ∈ wz yX6_init cX6_init 1 none := fun w h9 => wz_in (zinX0 w h9)
  have hinX3 : ∀ w ∈ wsX30, w ∈ wz yX6_init cX6_init 1 none := fun w h9 => wz_in (zinX3 w h9)
  refine lv_aload_n hx hb dX6_init_0 rfl (lv_at hl 0 rfl) ?_
  refine W.objInit hx hb hown (hts _ (wz_in qM_X6_1)) (hts _ (wz_in qI_objinit)) (hts _ (wz_in qC_objinit)) rfl (by rw [hml]; exact hl.1) rfl dX6_init_1 (Nat.le_of_ble_eq_true rfl) (Nat.le_of_ble_eq_true rfl) ?_
  refine W.eq (g2 := F0 m 4 ls []) rfl ?_
  have U0 : Up (fun k => k = n) G M G M := Up.rf
  have hA0 : gA G n = gA G n := rfl
  have hN0 : gN G = n + 1 := hN
  refine lv_aload_n hx hb dX6_init_4 rfl (lv_at hl 0 rfl) ?_
  refine i_new (ci := 1) (fs := [.null, .int 0, .int 0, .int 0]) hx hb hts hinX1 tyX1 tyX1_ok hown (hts _ (wz_in qL_X6_7)) (hts _ (wz_in qB_X1)) (hts _ (wz_in qN_X1)) hE hw rfl (sh1) rfl (fun j hj => by rcases (show j = 0 ∨ j = 1 ∨ j = 2 ∨ j = 3 by omega) with rfl | rfl | rfl | rfl <;> rfl) (by show 0 + 1 ≤ 315; omega) (by show 0 + 4 ≤ 5223; omega) dX6_init_5 (fun G1a M1a H uA1 eA1 kA1 xA1 hEA1 hwA1 => ?_)
  rw [hN0] at eA1 kA1 xA1 ⊢
  refine lv_dup hx hb dX6_init_8 rfl ?_
  refine i_callN (host := RX6) (n := n + 1) (As := []) (rest := [.ref (gA G1a (n + 1)), .ref (gA G n)]) hx hb hml hown hts hEA1 hO hwA1 hl (mX1_init l G1a eA1 kA1 xA1) ⟨va_cnB 0 hts (zN qC_X1_init) rfl rfl rfl hO.2.2.1 (hts _ (wz_in qN_X1)) kdX1_init ⟨(Nat.le_of_ble_eq_true rfl), (Nat.le_of_ble_eq_true rfl)⟩, rfl, hts _ (wz_in qI_X1_init)⟩ rfl rfl (Nat.le_of_ble_eq_true rfl) dX6_init_9 ⟨(by show 1 + 1 ≤ 315; omega), (by show 4 + 140 ≤ 5223; omega)⟩ (fun G1b M1b H locs uB1 pB1 hEB1 hwB1 => ?_)
  obtain ⟨nB1, p1_0⟩ := pB1
  refine i_putF (ci := 6) (fs := [.null, .null, .null, .null, .null]) (v := .ref (gA G1a (n + 1))) (ty := (.object "WinterRoad$JourneyText")) n (fun _ => .inr (6, [.ref (gA G1a (n + 1)), .null, .null, .null, .null])) (fun _ => 0) ((uB1.a (by omega)).trans ((uA1.a (by omega)).trans hA0)) hx hb hts hinX6 tyX6 tyX6_ok nmX6 hown hEB1 hwB1 (by omega) (by rw [uB1.k (by omega) (by omega), uB1.m (by omega) (by omega), uA1.k (by omega) (fun z => z), uA1.m (by omega) (fun z => z), hk, hm] <;> rfl) rfl 0 (by decide) (hts _ (wz_in qF_X6_10)) rfl rfl hnm rfl (by decide +kernel) rfl rfl (Nat.le_of_ble_eq_true rfl) rfl dX6_init_12 (fun G1 M1 H locs u1 e1 k1 x1 hE1 hw1 => ?_)
  have V1 : Up (fun k => k = n) G M G1 M1 := ((uA1.sub (fun _ _ z => z.elim)).tr uB1 (fun q hq z => absurd (show q = n + 1 from z) (by omega))).tr u1 (fun _ _ z => z)
  have U1 : Up (fun k => k = n) G M G1 M1 := U0.tr V1 (fun _ _ z => z)
  have hN1 : gN G1 = n + 3 := by omega
  have hA1 : gA G1 n = gA G n := (V1.a (by omega)).trans hA0
  have f1a_1 : newText G1 M1 (n + 1) := newText.up p1_0 u1 (by omega) (fun q q1 q2 => by omega)
  have q1_1 : gA G1 (n + 1) = gA G1a (n + 1) := (u1.a (by omega)).trans (uB1.a (by omega))
  clear uA1 eA1 kA1 xA1 hEA1 hwA1 u1 e1 V1 U0 hN0 hA0 hE hw p1_0 uB1 nB1 hEB1 hwB1 hk hm
  refine lv_aload_n hx hb dX6_init_15 rfl (lv_at hl 0 rfl) ?_
  refine i_new (ci := 4) (fs := [.null, .null, .null, .null, .null, .null, .null, .int 0, .int 0, .int 0, .int 0, .int 0]) hx hb hts hinX4 tyX4 tyX4_ok hown (hts _ (wz_in qL_X6_16)) (hts _ (wz_in qB_X4)) (hts _ (wz_in qN_X4)) hE1 hw1 rfl (sh4 .null .null .null .null .null .null .null) rfl (fun j hj => by rcases (show j = 0 ∨ j = 1 ∨ j = 2 ∨ j = 3 ∨ j = 4 ∨ j = 5 ∨ j = 6 ∨ j = 7 ∨ j = 8 ∨ j = 9 ∨ j = 10 ∨ j = 11 by omega) with rfl | rfl | rfl | rfl | rfl | rfl | rfl | rfl | rfl | rfl | rfl | rfl <;> rfl) (by show 2 + 1 ≤ 315; omega) (by show 144 + 12 ≤ 5223; omega) dX6_init_16 (fun G2a M2a H uA2 eA2 kA2 xA2 hEA2 hwA2 => ?_)
  rw [hN1] at eA2 kA2 xA2 ⊢
  refine lv_dup hx hb dX6_init_19 rfl ?_
  refine i_callN (host := RX6) (n := n + 3) (As := []) (rest := [.ref (gA G2a (n + 3)), .ref (gA G n)]) hx hb hml hown hts hEA2 hO hwA2 hl (mX4_init l G2a eA2 kA2 xA2) ⟨va_cnB 0 hts (zN qC_X4_init) rfl rfl rfl hO.2.2.2.1 (hts _ (wz_in qN_X4)) kdX4_init ⟨(Nat.le_of_ble_eq_true rfl), (Nat.le_of_ble_eq_true rfl)⟩, rfl, hts _ (wz_in qI_X4_init)⟩ rfl rfl (Nat.le_of_ble_eq_true rfl) dX6_init_20 ⟨(by show 3 + 16 ≤ 315; omega), (by show 156 + 268 ≤ 5223; omega)⟩ (fun G2b M2b H locs uB2 pB2 hEB2 hwB2 => ?_)
  obtain ⟨nB2, p2_0⟩ := pB2
  refine i_putF (ci := 6) (fs := [.ref (gA G1a (n + 1)), .null, .null, .null, .null]) (v := .ref (gA G2a (n + 3))) (ty := (.object "WinterRoad$State")) n (fun _ => .inr (6, [.ref (gA G1a (n + 1)), .ref (gA G2a (n + 3)), .null, .null, .null])) (fun _ => 0) ((uB2.a (by omega)).trans ((uA2.a (by omega)).trans hA1)) hx hb hts hinX6 tyX6 tyX6_ok nmX6 hown hEB2 hwB2 (by omega) (by rw [uB2.k (by omega) (by omega), uB2.m (by omega) (by omega), uA2.k (by omega) (fun z => z), uA2.m (by omega) (fun z => z), k1, x1] <;> rfl) rfl 1 (by decide) (hts _ (wz_in qF_X6_19)) rfl rfl hnm rfl (by decide +kernel) rfl rfl (Nat.le_of_ble_eq_true rfl) rfl dX6_init_23 (fun G2 M2 H locs u2 e2 k2 x2 hE2 hw2 => ?_)
  have V2 : Up (fun k => k = n) G1 M1 G2 M2 := ((uA2.sub (fun _ _ z => z.elim)).tr uB2 (fun q hq z => absurd (show q = n + 3 from z) (by omega))).tr u2 (fun _ _ z => z)
  have U2 : Up (fun k => k = n) G M G2 M2 := U1.tr V2 (fun _ _ z => z)
  have hN2 : gN G2 = n + 20 := by omega
  have hA2 : gA G2 n = gA G n := (V2.a (by omega)).trans hA1
  have f1a_2 : newText G2 M2 (n + 1) := newText.up f1a_1 V2 (by omega) (fun q q1 q2 => by omega)
  have q1_2 : gA G2 (n + 1) = gA G1a (n + 1) := (V2.a (by omega)).trans q1_1
  have f3a_2 : newSt G2 M2 (n + 3) := p2_0.up u2 (by omega) (fun q q1 => by omega)
  have q3_2 : gA G2 (n + 3) = gA G2a (n + 3) := (u2.a (by omega)).trans (uB2.a (by omega))
  clear uA2 eA2 kA2 xA2 hEA2 hwA2 u2 e2 V2 U1 hN1 hA1 hE1 hw1 p2_0 uB2 nB2 hEB2 hwB2 k1 x1 f1a_1 q1_1
  refine lv_aload_n hx hb dX6_init_26 rfl (lv_at hl 0 rfl) ?_
  refine i_new (ci := 4) (fs := [.null, .null, .null, .null, .null, .null, .null, .int 0, .int 0, .int 0, .int 0, .int 0]) hx hb hts hinX4 tyX4 tyX4_ok hown (hts _ (wz_in qL_X6_16)) (hts _ (wz_in qB_X4)) (hts _ (wz_in qN_X4)) hE2 hw2 rfl (sh4 .null .null .null .null .null .null .null) rfl (fun j hj => by rcases (show j = 0 ∨ j = 1 ∨ j = 2 ∨ j = 3 ∨ j = 4 ∨ j = 5 ∨ j = 6 ∨ j = 7 ∨ j = 8 ∨ j = 9 ∨ j = 10 ∨ j = 11 by omega) with rfl | rfl | rfl | rfl | rfl | rfl | rfl | rfl | rfl | rfl | rfl | rfl <;> rfl) (by show 19 + 1 ≤ 315; omega) (by show 424 + 12 ≤ 5223; omega) dX6_init_27 (fun G3a M3a H uA3 eA3 kA3 xA3 hEA3 hwA3 => ?_)
  rw [hN2] at eA3 kA3 xA3 ⊢
  refine lv_dup hx hb dX6_init_30 rfl ?_
  refine i_callN (host := RX6) (n := n + 20) (As := []) (rest := [.ref (gA G3a (n + 20)), .ref (gA G n)]) hx hb hml hown hts hEA3 hO hwA3 hl (mX4_init l G3a eA3 kA3 xA3) ⟨va_cnB 0 hts (zN qC_X4_init) rfl rfl rfl hO.2.2.2.1 (hts _ (wz_in qN_X4)) kdX4_init ⟨(Nat.le_of_ble_eq_true rfl), (Nat.le_of_ble_eq_true rfl)⟩, rfl, hts _ (wz_in qI_X4_init)⟩ rfl rfl (Nat.le_of_ble_eq_true rfl) dX6_init_31 ⟨(by show 20 + 16 ≤ 315; omega), (by show 436 + 268 ≤ 5223; omega)⟩ (fun G3b M3b H locs uB3 pB3 hEB3 hwB3 => ?_)
  obtain ⟨nB3, p3_0⟩ := pB3
  refine i_putF (ci := 6) (fs := [.ref (gA G1a (n + 1)), .ref (gA G2a (n + 3)), .null, .null, .null]) (v := .ref (gA G3a (n + 20))) (ty := (.object "WinterRoad$State")) n (fun _ => .inr (6, [.ref (gA G1a (n + 1)), .ref (gA G2a (n + 3)), .ref (gA G3a (n + 20)), .null, .null])) (fun _ => 0) ((uB3.a (by omega)).trans ((uA3.a (by omega)).trans hA2)) hx hb hts hinX6 tyX6 tyX6_ok nmX6 hown hEB3 hwB3 (by omega) (by rw [uB3.k (by omega) (by omega), uB3.m (by omega) (by omega), uA3.k (by omega) (fun z => z), uA3.m (by omega) (fun z => z), k2, x2] <;> rfl) rfl 2 (by decide) (hts _ (wz_in qF_X6_23)) rfl rfl hnm rfl (by decide +kernel) rfl rfl (Nat.le_of_ble_eq_true rfl) rfl dX6_init_34 (fun G3 M3 H locs u3 e3 k3 x3 hE3 hw3 => ?_)
  have V3 : Up (fun k => k = n) G2 M2 G3 M3 := ((uA3.sub (fun _ _ z => z.elim)).tr uB3 (fun q hq z => absurd (show q = n + 20 from z) (by omega))).tr u3 (fun _ _ z => z)
  have U3 : Up (fun k => k = n) G M G3 M3 := U2.tr V3 (fun _ _ z => z)
  have hN3 : gN G3 = n + 37 := by omega
  have hA3 : gA G3 n = gA G n := (V3.a (by omega)).trans hA2
  have f1a_3 : newText G3 M3 (n + 1) := newText.up f1a_2 V3 (by omega) (fun q q1 q2 => by omega)
  have q1_3 : gA G3 (n + 1) = gA G1a (n + 1) := (V3.a (by omega)).trans q1_2
  have f3a_3 : newSt G3 M3 (n + 3) := f3a_2.up V3 (by omega) (fun q q1 => by omega)
  have q3_3 : gA G3 (n + 3) = gA G2a (n + 3) := (V3.a (by omega)).trans q3_2
  have f20a_3 : newSt G3 M3 (n + 20) := p3_0.up u3 (by omega) (fun q q1 => by omega)
  have q20_3 : gA G3 (n + 20) = gA G3a (n + 20) := (u3.a (by omega)).trans (uB3.a (by omega))
  clear uA3 eA3 kA3 xA3 hEA3 hwA3 u3 e3 V3 U2 hN2 hA2 hE2 hw2 p3_0 uB3 nB3 hEB3 hwB3 k2 x2 f1a_2 q1_2 f3a_2 q3_2
  refine lv_aload_n hx hb dX6_init_37 rfl (lv_at hl 0 rfl) ?_
  refine i_new (ci := 0) (fs := [.null, .int 0, .int 0]) hx hb hts hinX0 tyX0 tyX0_ok hown (hts _ (wz_in qL_X6_26)) (hts _ (wz_in qB_X0)) (hts _ (wz_in qN_X0)) hE3 hw3 rfl (sh0) rfl (fun j hj => by rcases (show j = 0 ∨ j = 1 ∨ j = 2 by omega) with rfl | rfl | rfl <;> rfl) (by show 36 + 1 ≤ 315; omega) (by show 704 + 3 ≤ 5223; omega) dX6_init_38 (fun G4a M4a H uA4 eA4 kA4 xA4 hEA4 hwA4 => ?_)
  rw [hN3] at eA4 kA4 xA4 ⊢
  refine lv_dup hx hb dX6_init_41 rfl ?_
  refine i_callN (host := RX6) (n := n + 37) (As := []) (rest := [.ref (gA G4a (n + 37)), .ref (gA G n)]) hx hb hml hown hts hEA4 hO hwA4 hl (mX0_init l G4a eA4 kA4 xA4) ⟨va_cnB 0 hts (zN qC_X0_init) rfl rfl rfl hO.2.2.2.2 (hts _ (wz_in qN_X0)) kdX0_init ⟨(Nat.le_of_ble_eq_true rfl), (Nat.le_of_ble_eq_true rfl)⟩, rfl, hts _ (wz_in qI_X0_init)⟩ rfl rfl (Nat.le_of_ble_eq_true rfl) dX6_init_42 ⟨(by show 37 + 241 ≤ 315; omega), (by show 707 + 3950 ≤ 5223; omega)⟩ (fun G4b M4b H locs uB4 pB4 hEB4 hwB4 => ?_)
  obtain ⟨nB4, p4_0⟩ := pB4
  refine i_putF (ci := 6) (fs := [.ref (gA G1a (n + 1)), .ref (gA G2a (n + 3)), .ref (gA G3a (n + 20)), .null, .null]) (v := .ref (gA G4a (n + 37))) (ty := (.object "WinterRoad$History")) n (fun _ => .inr (6, [.ref (gA G1a (n + 1)), .ref (gA G2a (n + 3)), .ref (gA G3a (n + 20)), .ref (gA G4a (n + 37)), .null])) (fun _ => 0) ((uB4.a (by omega)).trans ((uA4.a (by omega)).trans hA3)) hx hb hts hinX6 tyX6 tyX6_ok nmX6 hown hEB4 hwB4 (by omega) (by rw [uB4.k (by omega) (by omega), uB4.m (by omega) (by omega), uA4.k (by omega) (fun z => z), uA4.m (by omega) (fun z => z), k3, x3] <;> rfl) rfl 3 (by decide) (hts _ (wz_in qF_X6_29)) rfl rfl hnm rfl (by decide +kernel) rfl rfl (Nat.le_of_ble_eq_true rfl) rfl dX6_init_45 (fun G4 M4 H locs u4 e4 k4 x4 hE4 hw4 => ?_)
  have V4 : Up (fun k => k = n) G3 M3 G4 M4 := ((uA4.sub (fun _ _ z => z.elim)).tr uB4 (fun q hq z => absurd (show q = n + 37 from z) (by omega))).tr u4 (fun _ _ z => z)
  have U4 : Up (fun k => k = n) G M G4 M4 := U3.tr V4 (fun _ _ z => z)
  have hN4 : gN G4 = n + 279 := by omega
  have hA4 : gA G4 n = gA G n := (V4.a (by omega)).trans hA3
  have f1a_4 : newText G4 M4 (n + 1) := newText.up f1a_3 V4 (by omega) (fun q q1 q2 => by omega)
  have q1_4 : gA G4 (n + 1) = gA G1a (n + 1) := (V4.a (by omega)).trans q1_3
  have f3a_4 : newSt G4 M4 (n + 3) := f3a_3.up V4 (by omega) (fun q q1 => by omega)
  have q3_4 : gA G4 (n + 3) = gA G2a (n + 3) := (V4.a (by omega)).trans q3_3
  have f20a_4 : newSt G4 M4 (n + 20) := f20a_3.up V4 (by omega) (fun q q1 => by omega)
  have q20_4 : gA G4 (n + 20) = gA G3a (n + 20) := (V4.a (by omega)).trans q20_3
  have f37a_4 : newHist G4 M4 (n + 37) := p4_0.up u4 (by omega) (fun q q1 q2 => by omega)
  have q37_4 : gA G4 (n + 37) = gA G4a (n + 37) := (u4.a (by omega)).trans (uB4.a (by omega))
  clear uA4 eA4 kA4 xA4 hEA4 hwA4 u4 e4 V4 U3 hN3 hA3 hE3 hw3 p4_0 uB4 nB4 hEB4 hwB4 k3 x3 f1a_3 q1_3 f3a_3 q3_3 f20a_3 q20_3
  refine lv_aload_n hx hb dX6_init_48 rfl (lv_at hl 0 rfl) ?_
  refine i_new (ci := 3) (fs := [.null, .null]) hx hb hts hinX3 tyX3 tyX3_ok hown (hts _ (wz_in qL_X6_33)) (hts _ (wz_in qB_X3)) (hts _ (wz_in qN_X3)) hE4 hw4 rfl (sh3) rfl (fun j hj => by rcases (show j = 0 ∨ j = 1 by omega) with rfl | rfl <;> rfl) (by show 278 + 1 ≤ 315; omega) (by show 4657 + 2 ≤ 5223; omega) dX6_init_49 (fun G5a M5a H uA5 eA5 kA5 xA5 hEA5 hwA5 => ?_)
  rw [hN4] at eA5 kA5 xA5 ⊢
  refine lv_dup hx hb dX6_init_52 rfl ?_
  refine lv_iconst (v := (nI 2)) hx hb dX6_init_53 (by decide) ?_
  refine i_call (n := n + 279) (As := [.int (nI 2)]) (rest := [.ref (gA G5a (n + 279)), .ref (gA G n)]) hx hb hml hown hts hEA5 hO hwA5 hl (mX3_init l G5a (mm := 2) (by decide) (by decide) eA5 kA5 xA5) (cwI 1 hts (zN qC_X3_init) rfl rfl rfl (hts _ (wz_in qN_X3)) (hts _ (wz_in qM_X6_35)) (hts _ (wz_in qI_X3_init)) rfl kdX3_init ⟨(Nat.le_of_ble_eq_true rfl), (Nat.le_of_ble_eq_true rfl)⟩) rfl rfl (Nat.le_of_ble_eq_true rfl) dX6_init_54 ⟨(by show 279 + 36 ≤ 315; omega), (by show 4659 + 564 ≤ 5223; omega)⟩ (fun G5b M5b H locs uB5 pB5 hEB5 hwB5 => ?_)
  obtain ⟨nB5, p5_0⟩ := pB5
  refine i_putF (ci := 6) (fs := [.ref (gA G1a (n + 1)), .ref (gA G2a (n + 3)), .ref (gA G3a (n + 20)), .ref (gA G4a (n + 37)), .null]) (v := .ref (gA G5a (n + 279))) (ty := (.object "WinterRoad$Shelf")) n (fun _ => .inr (6, [.ref (gA G1a (n + 1)), .ref (gA G2a (n + 3)), .ref (gA G3a (n + 20)), .ref (gA G4a (n + 37)), .ref (gA G5a (n + 279))])) (fun _ => 0) ((uB5.a (by omega)).trans ((uA5.a (by omega)).trans hA4)) hx hb hts hinX6 tyX6 tyX6_ok nmX6 hown hEB5 hwB5 (by omega) (by rw [uB5.k (by omega) (by omega), uB5.m (by omega) (by omega), uA5.k (by omega) (fun z => z), uA5.m (by omega) (fun z => z), k4, x4] <;> rfl) rfl 4 (by decide) (hts _ (wz_in qF_X6_38)) rfl rfl hnm rfl (by decide +kernel) rfl rfl (Nat.le_of_ble_eq_true rfl) rfl dX6_init_57 (fun G5 M5 H locs u5 e5 k5 x5 hE5 hw5 => ?_)
  have V5 : Up (fun k => k = n) G4 M4 G5 M5 := ((uA5.sub (fun _ _ z => z.elim)).tr uB5 (fun q hq z => absurd (show q = n + 279 from z) (by omega))).tr u5 (fun _ _ z => z)
  have U5 : Up (fun k => k = n) G M G5 M5 := U4.tr V5 (fun _ _ z => z)
  have hN5 : gN G5 = n + 316 := by omega
  have hA5 : gA G5 n = gA G n := (V5.a (by omega)).trans hA4
  have f1a_5 : newText G5 M5 (n + 1) := newText.up f1a_4 V5 (by omega) (fun q q1 q2 => by omega)
  have q1_5 : gA G5 (n + 1) = gA G1a (n + 1) := (V5.a (by omega)).trans q1_4
  have f3a_5 : newSt G5 M5 (n + 3) := f3a_4.up V5 (by omega) (fun q q1 => by omega)
  have q3_5 : gA G5 (n + 3) = gA G2a (n + 3) := (V5.a (by omega)).trans q3_4
  have f20a_5 : newSt G5 M5 (n + 20) := f20a_4.up V5 (by omega) (fun q q1 => by omega)
  have q20_5 : gA G5 (n + 20) = gA G3a (n + 20) := (V5.a (by omega)).trans q20_4
  have f37a_5 : newHist G5 M5 (n + 37) := f37a_4.up V5 (by omega) (fun q q1 q2 => by omega)
  have q37_5 : gA G5 (n + 37) = gA G4a (n + 37) := (V5.a (by omega)).trans q37_4
  have f279a_5 : newShelf G5 M5 (n + 279) 2 := p5_0.up u5 (by omega) (fun q q1 q2 => by omega)
  have q279_5 : gA G5 (n + 279) = gA G5a (n + 279) := (u5.a (by omega)).trans (uB5.a (by omega))
  clear uA5 eA5 kA5 xA5 hEA5 hwA5 u5 e5 V5 U4 hN4 hA4 hE4 hw4 p5_0 uB5 nB5 hEB5 hwB5 k4 x4 f1a_4 q1_4 f3a_4 q3_4 f20a_4 q20_4 f37a_4 q37_4
  refine lv_aload_n hx hb dX6_init_60 rfl (lv_at hl 0 rfl) ?_
  refine va_get (v := .ref (gA G5 (n + 3))) hx hb hts hinX6 hown hE5.1 hw5.1 n (by rw [gW_at (by omega), k5, hA5]) rfl 1 (by decide) (hts _ (wz_in qF_X6_19)) (fun _ h9 => h9) (by rw [q3_5]; rfl) dX6_init_61 ?_
  refine lv_bipush (v := (nI 20)) hx hb dX6_init_64 (by decide) ?_
  have hw5' : mW G5 s (wB M5 (n + 3) 17 (sB M5 (n + 3))) H locs := by
    rw [wB_self]
    exact hw5
  obtain ⟨S', b1, b2, b3⟩ := c_begin f3a_5.2.1 (nI 20)
  refine r_callV (As := [.int (nI 20)]) (rest := []) (st1 := []) hx hb hml hown hts hE5 hw5' hl (mX4_begin l G5 (β := n + 3) (M := M5) (by omega) f3a_5.1 b1) (cwV 1 hts (zV gV_X6_42) rfl rfl rfl kdX4_begin ⟨Nat.le_of_ble_eq_true rfl, Nat.le_of_ble_eq_true rfl⟩) (show n + 3 < gN G5 by omega) (congrFun f3a_5.1.1 _) rfl rfl rfl rfl (Nat.le_of_ble_eq_true rfl) dX6_init_66 ⟨by show 315 ≤ 315; omega, by show 5223 ≤ 5223; omega⟩ rfl (fun H locs hw => ?_)
  have z3 : wB M5 (n + 3) 17 S' (n + 3) = S' 0 := wB_at (β := n + 3) (k := 0) (by decide)
  have V6 : Up (fun k => n + 3 ≤ k ∧ k < n + 20) G5 M5 G5 (wB M5 (n + 3) 17 S') := ⟨⟨rfl, rfl, rfl, rfl⟩, Nat.le_refl _, fun k _ => ⟨rfl, fun hne => ⟨rfl, wB_out (by omega)⟩⟩⟩
  have U6 : Up (fun k => k = n) G M G5 (wB M5 (n + 3) 17 S') := U5.tr V6 (fun q hq z => by omega)
  refine i_vret (n := n) hx hb hr hlocks U6 hE5 hw ⟨by omega, ?_, f1a_5.up V6 (by omega) (fun q q1 q2 => by omega), ⟨f3a_5.1, b2.cells (fun a ha => wB_at ha), ?_⟩, f20a_5.up V6 (by omega) (fun q q1 => by omega), f37a_5.up V6 (by omega) (fun q q1 q2 => by omega), f279a_5.up V6 (by omega) (fun q q1 q2 => by omega)⟩ dX6_init_69 (by omega) (by omega)
  · rw [k5]
    unfold sX6
    rw [q1_5, q3_5, q20_5, q37_5, q279_5]
  · rw [z3, b3 9 (by decide)]
    exact f3a_5.2.2

def sh7 : mS := fun f => .inr (7, [.int (f 0), .null, .int (f 2), .int (f 3), .int (f 4), .null, .null, .null, .null, .int (f 9), .null, .null, .int (f 12), .int (f 13)])
def newMod (G : mG) (M : mM) (a : Nat) : Prop := isMod G a ∧ (∀ j, j < 12 → M a j = 0) ∧ M a 12 = -9 ∧ (∀ q, M (a + 3) q = if q = 0 then nI 20 else 0) ∧ M (a + 7) = fun _ => 0
set_option maxRecDepth 100000 in
set_option maxHeartbeats 4000000 in
theorem mX7_init (l : Launch) (G : mG) {M : mM} {n : Nat} (hN : gN G = n + 1) (hk : gK G n = sh7) (hm : M n = fun _ => 0) : MI l G yX7_init (wz yX7_init cX7_init 1 none) 2 40 7 4892 [.ref (gA G n)] M n (fun G1 M1 => gN G1 = n + 8 ∧ newMod G1 M1 n) := by
  refine mi_of (cc := cX7_init) (maxL := 1) (by decide) rfl (Nat.le_of_ble_eq_true rfl) ?_
  intro p e s m args below meth c H ls hx hb hr hts hown hml hlocks hnm hE hO hw hl
  have hl : lv_has ls 1 [(0, .ref (gA G n))] := hl
  have hinX7 : ∀ w ∈ wsX70, w ∈ wz yX7_init cX7_init 1 none := fun w h9 => wz_in (zinX7 w h9)
  refine lv_aload_n hx hb dX7_init_0 rfl (lv_at hl 0 rfl) ?_
  refine W.objInit hx hb hown (hts _ (wz_in qM_X7_1)) (hts _ (wz_in qI_objinit)) (hts _ (wz_in qC_objinit)) rfl (by rw [hml]; exact hl.1) rfl dX7_init_1 (Nat.le_of_ble_eq_true rfl) (Nat.le_of_ble_eq_true rfl) ?_
  refine W.eq (g2 := F0 m 4 ls []) rfl ?_
  have U0 : Up (fun k => k = n) G M G M := Up.rf
  have hA0 : gA G n = gA G n := rfl
  have hN0 : gN G = n + 1 := hN
  refine lv_aload_n hx hb dX7_init_4 rfl (lv_at hl 0 rfl) ?_
  refine lv_sipush (v := (nI 140)) hx hb dX7_init_5 (by decide) ?_
  refine i_newa (atype := .int) (ty := .int) (a0 := (140, .inl (fun _ => 0))) (N' := 140) 0 hx hb (hts _ (wz_in qA_int)) rfl (fun _ h9 => h9) rfl hE hw (aI G 140) rfl (fun _ => rfl) (nI_pos (by decide)) (nI_clamp (by decide)) (by decide) (by show 0 + 1 ≤ 7; omega) (by show 0 + 140 ≤ 4892; omega) dX7_init_8 (fun G1a M1a H uA1 eA1 kA1 xA1 hEA1 hwA1 => ?_)
  rw [hN0] at eA1 kA1 xA1 ⊢
  refine i_putF (ci := 7) (fs := [.int 0, .null, .int 0, .int 0, .int 0, .null, .null, .null, .null, .int 0, .null, .null, .int 0, .int 0]) (v := .ref (gA G1a (n + 1))) (ty := .array .int) n (fun f => .inr (7, [.int (f 0), .ref (gA G1a (n + 1)), .int (f 2), .int (f 3), .int (f 4), .null, .null, .null, .null, .int (f 9), .null, .null, .int (f 12), .int (f 13)])) (fun _ => 0) ((uA1.a (by omega)).trans hA0) hx hb hts hinX7 tyX7 tyX7_ok nmX7 hown hEA1 hwA1 (by omega) (by rw [uA1.k (by omega) (fun z => z), uA1.m (by omega) (fun z => z), hk, hm] <;> rfl) rfl 1 (by decide) (hts _ (wz_in qF_X7_7)) rfl rfl hnm rfl (by decide +kernel) rfl rfl (Nat.le_of_ble_eq_true rfl) rfl dX7_init_10 (fun G1 M1 H locs u1 e1 k1 x1 hE1 hw1 => ?_)
  have V1 : Up (fun k => k = n) G M G1 M1 := (uA1.sub (fun _ _ z => z.elim)).tr u1 (fun _ _ z => z)
  have U1 : Up (fun k => k = n) G M G1 M1 := U0.tr V1 (fun _ _ z => z)
  have hN1 : gN G1 = n + 2 := by omega
  have hA1 : gA G1 n = gA G n := (V1.a (by omega)).trans hA0
  have f1a_1 : gK G1 (n + 1) = aI G1 140 := by rw [u1.k (by omega) (by omega), kA1]; unfold aI; rw [u1.1.2.2.1, uA1.1.2.2.1]
  have f1b_1 : M1 (n + 1) = fun _ => 0 := by rw [u1.m (by omega) (by omega), xA1]
  have q1_1 : gA G1 (n + 1) = gA G1a (n + 1) := u1.a (by omega)
  clear uA1 eA1 kA1 xA1 hEA1 hwA1 u1 e1 V1 U0 hN0 hA0 hE hw hk hm
  refine lv_aload_n hx hb dX7_init_13 rfl (lv_at hl 0 rfl) ?_
  refine lv_sipush (v := (nI 250)) hx hb dX7_init_14 (by decide) ?_
  refine i_newa (atype := .int) (ty := .int) (a0 := (250, .inl (fun _ => 0))) (N' := 250) 0 hx hb (hts _ (wz_in qA_int)) rfl (fun _ h9 => h9) rfl hE1 hw1 (aI G1 250) rfl (fun _ => rfl) (nI_pos (by decide)) (nI_clamp (by decide)) (by decide) (by show 1 + 1 ≤ 7; omega) (by show 140 + 250 ≤ 4892; omega) dX7_init_17 (fun G2a M2a H uA2 eA2 kA2 xA2 hEA2 hwA2 => ?_)
  rw [hN1] at eA2 kA2 xA2 ⊢
  refine i_putF (ci := 7) (fs := [.int 0, .ref (gA G1a (n + 1)), .int 0, .int 0, .int 0, .null, .null, .null, .null, .int 0, .null, .null, .int 0, .int 0]) (v := .ref (gA G2a (n + 2))) (ty := .array .int) n (fun f => .inr (7, [.int (f 0), .ref (gA G1a (n + 1)), .int (f 2), .int (f 3), .int (f 4), .ref (gA G2a (n + 2)), .null, .null, .null, .int (f 9), .null, .null, .int (f 12), .int (f 13)])) (fun _ => 0) ((uA2.a (by omega)).trans hA1) hx hb hts hinX7 tyX7 tyX7_ok nmX7 hown hEA2 hwA2 (by omega) (by rw [uA2.k (by omega) (fun z => z), uA2.m (by omega) (fun z => z), k1, x1] <;> rfl) rfl 5 (by decide) (hts _ (wz_in qF_X7_13)) rfl rfl hnm rfl (by decide +kernel) rfl rfl (Nat.le_of_ble_eq_true rfl) rfl dX7_init_19 (fun G2 M2 H locs u2 e2 k2 x2 hE2 hw2 => ?_)
  have V2 : Up (fun k => k = n) G1 M1 G2 M2 := (uA2.sub (fun _ _ z => z.elim)).tr u2 (fun _ _ z => z)
  have U2 : Up (fun k => k = n) G M G2 M2 := U1.tr V2 (fun _ _ z => z)
  have hN2 : gN G2 = n + 3 := by omega
  have hA2 : gA G2 n = gA G n := (V2.a (by omega)).trans hA1
  have f1a_2 : gK G2 (n + 1) = aI G2 140 := by rw [V2.k (by omega) (by omega), f1a_1]; unfold aI; rw [V2.1.2.2.1]
  have f1b_2 : M2 (n + 1) = fun _ => 0 := by rw [V2.m (by omega) (by omega), f1b_1]
  have q1_2 : gA G2 (n + 1) = gA G1a (n + 1) := (V2.a (by omega)).trans q1_1
  have f2a_2 : gK G2 (n + 2) = aI G2 250 := by rw [u2.k (by omega) (by omega), kA2]; unfold aI; rw [u2.1.2.2.1, uA2.1.2.2.1]
  have f2b_2 : M2 (n + 2) = fun _ => 0 := by rw [u2.m (by omega) (by omega), xA2]
  have q2_2 : gA G2 (n + 2) = gA G2a (n + 2) := u2.a (by omega)
  clear uA2 eA2 kA2 xA2 hEA2 hwA2 u2 e2 V2 U1 hN1 hA1 hE1 hw1 k1 x1 f1a_1 f1b_1 q1_1
  refine lv_aload_n hx hb dX7_init_22 rfl (lv_at hl 0 rfl) ?_
  refine lv_sipush (v := (nI 250)) hx hb dX7_init_23 (by decide) ?_
  refine i_newa (atype := .int) (ty := .int) (a0 := (250, .inl (fun _ => 0))) (N' := 250) 0 hx hb (hts _ (wz_in qA_int)) rfl (fun _ h9 => h9) rfl hE2 hw2 (aI G2 250) rfl (fun _ => rfl) (nI_pos (by decide)) (nI_clamp (by decide)) (by decide) (by show 2 + 1 ≤ 7; omega) (by show 390 + 250 ≤ 4892; omega) dX7_init_26 (fun G3a M3a H uA3 eA3 kA3 xA3 hEA3 hwA3 => ?_)
  rw [hN2] at eA3 kA3 xA3 ⊢
  refine i_putF (ci := 7) (fs := [.int 0, .ref (gA G1a (n + 1)), .int 0, .int 0, .int 0, .ref (gA G2a (n + 2)), .null, .null, .null, .int 0, .null, .null, .int 0, .int 0]) (v := .ref (gA G3a (n + 3))) (ty := .array .int) n (fun f => .inr (7, [.int (f 0), .ref (gA G1a (n + 1)), .int (f 2), .int (f 3), .int (f 4), .ref (gA G2a (n + 2)), .ref (gA G3a (n + 3)), .null, .null, .int (f 9), .null, .null, .int (f 12), .int (f 13)])) (fun _ => 0) ((uA3.a (by omega)).trans hA2) hx hb hts hinX7 tyX7 tyX7_ok nmX7 hown hEA3 hwA3 (by omega) (by rw [uA3.k (by omega) (fun z => z), uA3.m (by omega) (fun z => z), k2, x2] <;> rfl) rfl 6 (by decide) (hts _ (wz_in qF_X7_16)) rfl rfl hnm rfl (by decide +kernel) rfl rfl (Nat.le_of_ble_eq_true rfl) rfl dX7_init_28 (fun G3 M3 H locs u3 e3 k3 x3 hE3 hw3 => ?_)
  have V3 : Up (fun k => k = n) G2 M2 G3 M3 := (uA3.sub (fun _ _ z => z.elim)).tr u3 (fun _ _ z => z)
  have U3 : Up (fun k => k = n) G M G3 M3 := U2.tr V3 (fun _ _ z => z)
  have hN3 : gN G3 = n + 4 := by omega
  have hA3 : gA G3 n = gA G n := (V3.a (by omega)).trans hA2
  have f1a_3 : gK G3 (n + 1) = aI G3 140 := by rw [V3.k (by omega) (by omega), f1a_2]; unfold aI; rw [V3.1.2.2.1]
  have f1b_3 : M3 (n + 1) = fun _ => 0 := by rw [V3.m (by omega) (by omega), f1b_2]
  have q1_3 : gA G3 (n + 1) = gA G1a (n + 1) := (V3.a (by omega)).trans q1_2
  have f2a_3 : gK G3 (n + 2) = aI G3 250 := by rw [V3.k (by omega) (by omega), f2a_2]; unfold aI; rw [V3.1.2.2.1]
  have f2b_3 : M3 (n + 2) = fun _ => 0 := by rw [V3.m (by omega) (by omega), f2b_2]
  have q2_3 : gA G3 (n + 2) = gA G2a (n + 2) := (V3.a (by omega)).trans q2_2
  have f3a_3 : gK G3 (n + 3) = aI G3 250 := by rw [u3.k (by omega) (by omega), kA3]; unfold aI; rw [u3.1.2.2.1, uA3.1.2.2.1]
  have f3b_3 : M3 (n + 3) = fun _ => 0 := by rw [u3.m (by omega) (by omega), xA3]
  have q3_3 : gA G3 (n + 3) = gA G3a (n + 3) := u3.a (by omega)
  clear uA3 eA3 kA3 xA3 hEA3 hwA3 u3 e3 V3 U2 hN2 hA2 hE2 hw2 k2 x2 f1a_2 f1b_2 q1_2 f2a_2 f2b_2 q2_2
  refine lv_aload_n hx hb dX7_init_31 rfl (lv_at hl 0 rfl) ?_
  refine lv_sipush (v := (nI 250)) hx hb dX7_init_32 (by decide) ?_
  refine i_newa (atype := .int) (ty := .int) (a0 := (250, .inl (fun _ => 0))) (N' := 250) 0 hx hb (hts _ (wz_in qA_int)) rfl (fun _ h9 => h9) rfl hE3 hw3 (aI G3 250) rfl (fun _ => rfl) (nI_pos (by decide)) (nI_clamp (by decide)) (by decide) (by show 3 + 1 ≤ 7; omega) (by show 640 + 250 ≤ 4892; omega) dX7_init_35 (fun G4a M4a H uA4 eA4 kA4 xA4 hEA4 hwA4 => ?_)
  rw [hN3] at eA4 kA4 xA4 ⊢
  refine i_putF (ci := 7) (fs := [.int 0, .ref (gA G1a (n + 1)), .int 0, .int 0, .int 0, .ref (gA G2a (n + 2)), .ref (gA G3a (n + 3)), .null, .null, .int 0, .null, .null, .int 0, .int 0]) (v := .ref (gA G4a (n + 4))) (ty := .array .int) n (fun f => .inr (7, [.int (f 0), .ref (gA G1a (n + 1)), .int (f 2), .int (f 3), .int (f 4), .ref (gA G2a (n + 2)), .ref (gA G3a (n + 3)), .ref (gA G4a (n + 4)), .null, .int (f 9), .null, .null, .int (f 12), .int (f 13)])) (fun _ => 0) ((uA4.a (by omega)).trans hA3) hx hb hts hinX7 tyX7 tyX7_ok nmX7 hown hEA4 hwA4 (by omega) (by rw [uA4.k (by omega) (fun z => z), uA4.m (by omega) (fun z => z), k3, x3] <;> rfl) rfl 7 (by decide) (hts _ (wz_in qF_X7_19)) rfl rfl hnm rfl (by decide +kernel) rfl rfl (Nat.le_of_ble_eq_true rfl) rfl dX7_init_37 (fun G4 M4 H locs u4 e4 k4 x4 hE4 hw4 => ?_)
  have V4 : Up (fun k => k = n) G3 M3 G4 M4 := (uA4.sub (fun _ _ z => z.elim)).tr u4 (fun _ _ z => z)
  have U4 : Up (fun k => k = n) G M G4 M4 := U3.tr V4 (fun _ _ z => z)
  have hN4 : gN G4 = n + 5 := by omega
  have hA4 : gA G4 n = gA G n := (V4.a (by omega)).trans hA3
  have f1a_4 : gK G4 (n + 1) = aI G4 140 := by rw [V4.k (by omega) (by omega), f1a_3]; unfold aI; rw [V4.1.2.2.1]
  have f1b_4 : M4 (n + 1) = fun _ => 0 := by rw [V4.m (by omega) (by omega), f1b_3]
  have q1_4 : gA G4 (n + 1) = gA G1a (n + 1) := (V4.a (by omega)).trans q1_3
  have f2a_4 : gK G4 (n + 2) = aI G4 250 := by rw [V4.k (by omega) (by omega), f2a_3]; unfold aI; rw [V4.1.2.2.1]
  have f2b_4 : M4 (n + 2) = fun _ => 0 := by rw [V4.m (by omega) (by omega), f2b_3]
  have q2_4 : gA G4 (n + 2) = gA G2a (n + 2) := (V4.a (by omega)).trans q2_3
  have f3a_4 : gK G4 (n + 3) = aI G4 250 := by rw [V4.k (by omega) (by omega), f3a_3]; unfold aI; rw [V4.1.2.2.1]
  have f3b_4 : M4 (n + 3) = fun _ => 0 := by rw [V4.m (by omega) (by omega), f3b_3]
  have q3_4 : gA G4 (n + 3) = gA G3a (n + 3) := (V4.a (by omega)).trans q3_3
  have f4a_4 : gK G4 (n + 4) = aI G4 250 := by rw [u4.k (by omega) (by omega), kA4]; unfold aI; rw [u4.1.2.2.1, uA4.1.2.2.1]
  have f4b_4 : M4 (n + 4) = fun _ => 0 := by rw [u4.m (by omega) (by omega), xA4]
  have q4_4 : gA G4 (n + 4) = gA G4a (n + 4) := u4.a (by omega)
  clear uA4 eA4 kA4 xA4 hEA4 hwA4 u4 e4 V4 U3 hN3 hA3 hE3 hw3 k3 x3 f1a_3 f1b_3 q1_3 f2a_3 f2b_3 q2_3 f3a_3 f3b_3 q3_3
  refine lv_aload_n hx hb dX7_init_40 rfl (lv_at hl 0 rfl) ?_
  refine lv_sipush (v := (nI 3500)) hx hb dX7_init_41 (by decide) ?_
  refine i_newa (atype := .int) (ty := .int) (a0 := (3500, .inl (fun _ => 0))) (N' := 3500) 0 hx hb (hts _ (wz_in qA_int)) rfl (fun _ h9 => h9) rfl hE4 hw4 (aI G4 3500) rfl (fun _ => rfl) (nI_pos (by decide)) (nI_clamp (by decide)) (by decide) (by show 4 + 1 ≤ 7; omega) (by show 890 + 3500 ≤ 4892; omega) dX7_init_44 (fun G5a M5a H uA5 eA5 kA5 xA5 hEA5 hwA5 => ?_)
  rw [hN4] at eA5 kA5 xA5 ⊢
  refine i_putF (ci := 7) (fs := [.int 0, .ref (gA G1a (n + 1)), .int 0, .int 0, .int 0, .ref (gA G2a (n + 2)), .ref (gA G3a (n + 3)), .ref (gA G4a (n + 4)), .null, .int 0, .null, .null, .int 0, .int 0]) (v := .ref (gA G5a (n + 5))) (ty := .array .int) n (fun f => .inr (7, [.int (f 0), .ref (gA G1a (n + 1)), .int (f 2), .int (f 3), .int (f 4), .ref (gA G2a (n + 2)), .ref (gA G3a (n + 3)), .ref (gA G4a (n + 4)), .ref (gA G5a (n + 5)), .int (f 9), .null, .null, .int (f 12), .int (f 13)])) (fun _ => 0) ((uA5.a (by omega)).trans hA4) hx hb hts hinX7 tyX7 tyX7_ok nmX7 hown hEA5 hwA5 (by omega) (by rw [uA5.k (by omega) (fun z => z), uA5.m (by omega) (fun z => z), k4, x4] <;> rfl) rfl 8 (by decide) (hts _ (wz_in qF_X7_22)) rfl rfl hnm rfl (by decide +kernel) rfl rfl (Nat.le_of_ble_eq_true rfl) rfl dX7_init_46 (fun G5 M5 H locs u5 e5 k5 x5 hE5 hw5 => ?_)
  have V5 : Up (fun k => k = n) G4 M4 G5 M5 := (uA5.sub (fun _ _ z => z.elim)).tr u5 (fun _ _ z => z)
  have U5 : Up (fun k => k = n) G M G5 M5 := U4.tr V5 (fun _ _ z => z)
  have hN5 : gN G5 = n + 6 := by omega
  have hA5 : gA G5 n = gA G n := (V5.a (by omega)).trans hA4
  have f1a_5 : gK G5 (n + 1) = aI G5 140 := by rw [V5.k (by omega) (by omega), f1a_4]; unfold aI; rw [V5.1.2.2.1]
  have f1b_5 : M5 (n + 1) = fun _ => 0 := by rw [V5.m (by omega) (by omega), f1b_4]
  have q1_5 : gA G5 (n + 1) = gA G1a (n + 1) := (V5.a (by omega)).trans q1_4
  have f2a_5 : gK G5 (n + 2) = aI G5 250 := by rw [V5.k (by omega) (by omega), f2a_4]; unfold aI; rw [V5.1.2.2.1]
  have f2b_5 : M5 (n + 2) = fun _ => 0 := by rw [V5.m (by omega) (by omega), f2b_4]
  have q2_5 : gA G5 (n + 2) = gA G2a (n + 2) := (V5.a (by omega)).trans q2_4
  have f3a_5 : gK G5 (n + 3) = aI G5 250 := by rw [V5.k (by omega) (by omega), f3a_4]; unfold aI; rw [V5.1.2.2.1]
  have f3b_5 : M5 (n + 3) = fun _ => 0 := by rw [V5.m (by omega) (by omega), f3b_4]
  have q3_5 : gA G5 (n + 3) = gA G3a (n + 3) := (V5.a (by omega)).trans q3_4
  have f4a_5 : gK G5 (n + 4) = aI G5 250 := by rw [V5.k (by omega) (by omega), f4a_4]; unfold aI; rw [V5.1.2.2.1]
  have f4b_5 : M5 (n + 4) = fun _ => 0 := by rw [V5.m (by omega) (by omega), f4b_4]
  have q4_5 : gA G5 (n + 4) = gA G4a (n + 4) := (V5.a (by omega)).trans q4_4
  have f5a_5 : gK G5 (n + 5) = aI G5 3500 := by rw [u5.k (by omega) (by omega), kA5]; unfold aI; rw [u5.1.2.2.1, uA5.1.2.2.1]
  have f5b_5 : M5 (n + 5) = fun _ => 0 := by rw [u5.m (by omega) (by omega), xA5]
  have q5_5 : gA G5 (n + 5) = gA G5a (n + 5) := u5.a (by omega)
  clear uA5 eA5 kA5 xA5 hEA5 hwA5 u5 e5 V5 U4 hN4 hA4 hE4 hw4 k4 x4 f1a_4 f1b_4 q1_4 f2a_4 f2b_4 q2_4 f3a_4 f3b_4 q3_4 f4a_4 f4b_4 q4_4
  refine lv_aload_n hx hb dX7_init_49 rfl (lv_at hl 0 rfl) ?_
  refine lv_sipush (v := (nI 500)) hx hb dX7_init_50 (by decide) ?_
  refine i_newa (atype := .int) (ty := .int) (a0 := (500, .inl (fun _ => 0))) (N' := 500) 0 hx hb (hts _ (wz_in qA_int)) rfl (fun _ h9 => h9) rfl hE5 hw5 (aI G5 500) rfl (fun _ => rfl) (nI_pos (by decide)) (nI_clamp (by decide)) (by decide) (by show 5 + 1 ≤ 7; omega) (by show 4390 + 500 ≤ 4892; omega) dX7_init_53 (fun G6a M6a H uA6 eA6 kA6 xA6 hEA6 hwA6 => ?_)
  rw [hN5] at eA6 kA6 xA6 ⊢
  refine i_putF (ci := 7) (fs := [.int 0, .ref (gA G1a (n + 1)), .int 0, .int 0, .int 0, .ref (gA G2a (n + 2)), .ref (gA G3a (n + 3)), .ref (gA G4a (n + 4)), .ref (gA G5a (n + 5)), .int 0, .null, .null, .int 0, .int 0]) (v := .ref (gA G6a (n + 6))) (ty := .array .int) n (fun f => .inr (7, [.int (f 0), .ref (gA G1a (n + 1)), .int (f 2), .int (f 3), .int (f 4), .ref (gA G2a (n + 2)), .ref (gA G3a (n + 3)), .ref (gA G4a (n + 4)), .ref (gA G5a (n + 5)), .int (f 9), .ref (gA G6a (n + 6)), .null, .int (f 12), .int (f 13)])) (fun _ => 0) ((uA6.a (by omega)).trans hA5) hx hb hts hinX7 tyX7 tyX7_ok nmX7 hown hEA6 hwA6 (by omega) (by rw [uA6.k (by omega) (fun z => z), uA6.m (by omega) (fun z => z), k5, x5] <;> rfl) rfl 10 (by decide) (hts _ (wz_in qF_X7_25)) rfl rfl hnm rfl (by decide +kernel) rfl rfl (Nat.le_of_ble_eq_true rfl) rfl dX7_init_55 (fun G6 M6 H locs u6 e6 k6 x6 hE6 hw6 => ?_)
  have V6 : Up (fun k => k = n) G5 M5 G6 M6 := (uA6.sub (fun _ _ z => z.elim)).tr u6 (fun _ _ z => z)
  have U6 : Up (fun k => k = n) G M G6 M6 := U5.tr V6 (fun _ _ z => z)
  have hN6 : gN G6 = n + 7 := by omega
  have hA6 : gA G6 n = gA G n := (V6.a (by omega)).trans hA5
  have f1a_6 : gK G6 (n + 1) = aI G6 140 := by rw [V6.k (by omega) (by omega), f1a_5]; unfold aI; rw [V6.1.2.2.1]
  have f1b_6 : M6 (n + 1) = fun _ => 0 := by rw [V6.m (by omega) (by omega), f1b_5]
  have q1_6 : gA G6 (n + 1) = gA G1a (n + 1) := (V6.a (by omega)).trans q1_5
  have f2a_6 : gK G6 (n + 2) = aI G6 250 := by rw [V6.k (by omega) (by omega), f2a_5]; unfold aI; rw [V6.1.2.2.1]
  have f2b_6 : M6 (n + 2) = fun _ => 0 := by rw [V6.m (by omega) (by omega), f2b_5]
  have q2_6 : gA G6 (n + 2) = gA G2a (n + 2) := (V6.a (by omega)).trans q2_5
  have f3a_6 : gK G6 (n + 3) = aI G6 250 := by rw [V6.k (by omega) (by omega), f3a_5]; unfold aI; rw [V6.1.2.2.1]
  have f3b_6 : M6 (n + 3) = fun _ => 0 := by rw [V6.m (by omega) (by omega), f3b_5]
  have q3_6 : gA G6 (n + 3) = gA G3a (n + 3) := (V6.a (by omega)).trans q3_5
  have f4a_6 : gK G6 (n + 4) = aI G6 250 := by rw [V6.k (by omega) (by omega), f4a_5]; unfold aI; rw [V6.1.2.2.1]
  have f4b_6 : M6 (n + 4) = fun _ => 0 := by rw [V6.m (by omega) (by omega), f4b_5]
  have q4_6 : gA G6 (n + 4) = gA G4a (n + 4) := (V6.a (by omega)).trans q4_5
  have f5a_6 : gK G6 (n + 5) = aI G6 3500 := by rw [V6.k (by omega) (by omega), f5a_5]; unfold aI; rw [V6.1.2.2.1]
  have f5b_6 : M6 (n + 5) = fun _ => 0 := by rw [V6.m (by omega) (by omega), f5b_5]
  have q5_6 : gA G6 (n + 5) = gA G5a (n + 5) := (V6.a (by omega)).trans q5_5
  have f6a_6 : gK G6 (n + 6) = aI G6 500 := by rw [u6.k (by omega) (by omega), kA6]; unfold aI; rw [u6.1.2.2.1, uA6.1.2.2.1]
  have f6b_6 : M6 (n + 6) = fun _ => 0 := by rw [u6.m (by omega) (by omega), xA6]
  have q6_6 : gA G6 (n + 6) = gA G6a (n + 6) := u6.a (by omega)
  clear uA6 eA6 kA6 xA6 hEA6 hwA6 u6 e6 V6 U5 hN5 hA5 hE5 hw5 k5 x5 f1a_5 f1b_5 q1_5 f2a_5 f2b_5 q2_5 f3a_5 f3b_5 q3_5 f4a_5 f4b_5 q4_5 f5a_5 f5b_5 q5_5
  refine lv_aload_n hx hb dX7_init_58 rfl (lv_at hl 0 rfl) ?_
  refine lv_iconst (v := (nI 2)) hx hb dX7_init_59 (by decide) ?_
  refine i_newa (atype := .boolean) (ty := .boolean) (a0 := (2, .inl (fun _ => 0))) (N' := 2) 1 hx hb (hts _ (wz_in qA_boolean)) rfl (fun _ h9 => h9) rfl hE6 hw6 (aZ G6 2) rfl (fun _ => rfl) (nI_pos (by decide)) (nI_clamp (by decide)) (by decide) (by show 6 + 1 ≤ 7; omega) (by show 4890 + 2 ≤ 4892; omega) dX7_init_60 (fun G7a M7a H uA7 eA7 kA7 xA7 hEA7 hwA7 => ?_)
  rw [hN6] at eA7 kA7 xA7 ⊢
  refine i_putF (ci := 7) (fs := [.int 0, .ref (gA G1a (n + 1)), .int 0, .int 0, .int 0, .ref (gA G2a (n + 2)), .ref (gA G3a (n + 3)), .ref (gA G4a (n + 4)), .ref (gA G5a (n + 5)), .int 0, .ref (gA G6a (n + 6)), .null, .int 0, .int 0]) (v := .ref (gA G7a (n + 7))) (ty := .array .boolean) n (fun f => .inr (7, [.int (f 0), .ref (gA G1a (n + 1)), .int (f 2), .int (f 3), .int (f 4), .ref (gA G2a (n + 2)), .ref (gA G3a (n + 3)), .ref (gA G4a (n + 4)), .ref (gA G5a (n + 5)), .int (f 9), .ref (gA G6a (n + 6)), .ref (gA G7a (n + 7)), .int (f 12), .int (f 13)])) (fun _ => 0) ((uA7.a (by omega)).trans hA6) hx hb hts hinX7 tyX7 tyX7_ok nmX7 hown hEA7 hwA7 (by omega) (by rw [uA7.k (by omega) (fun z => z), uA7.m (by omega) (fun z => z), k6, x6] <;> rfl) rfl 11 (by decide) (hts _ (wz_in qF_X7_28)) rfl rfl hnm rfl (by decide +kernel) rfl rfl (Nat.le_of_ble_eq_true rfl) rfl dX7_init_62 (fun G7 M7 H locs u7 e7 k7 x7 hE7 hw7 => ?_)
  have V7 : Up (fun k => k = n) G6 M6 G7 M7 := (uA7.sub (fun _ _ z => z.elim)).tr u7 (fun _ _ z => z)
  have U7 : Up (fun k => k = n) G M G7 M7 := U6.tr V7 (fun _ _ z => z)
  have hN7 : gN G7 = n + 8 := by omega
  have hA7 : gA G7 n = gA G n := (V7.a (by omega)).trans hA6
  have f1a_7 : gK G7 (n + 1) = aI G7 140 := by rw [V7.k (by omega) (by omega), f1a_6]; unfold aI; rw [V7.1.2.2.1]
  have f1b_7 : M7 (n + 1) = fun _ => 0 := by rw [V7.m (by omega) (by omega), f1b_6]
  have q1_7 : gA G7 (n + 1) = gA G1a (n + 1) := (V7.a (by omega)).trans q1_6
  have f2a_7 : gK G7 (n + 2) = aI G7 250 := by rw [V7.k (by omega) (by omega), f2a_6]; unfold aI; rw [V7.1.2.2.1]
  have f2b_7 : M7 (n + 2) = fun _ => 0 := by rw [V7.m (by omega) (by omega), f2b_6]
  have q2_7 : gA G7 (n + 2) = gA G2a (n + 2) := (V7.a (by omega)).trans q2_6
  have f3a_7 : gK G7 (n + 3) = aI G7 250 := by rw [V7.k (by omega) (by omega), f3a_6]; unfold aI; rw [V7.1.2.2.1]
  have f3b_7 : M7 (n + 3) = fun _ => 0 := by rw [V7.m (by omega) (by omega), f3b_6]
  have q3_7 : gA G7 (n + 3) = gA G3a (n + 3) := (V7.a (by omega)).trans q3_6
  have f4a_7 : gK G7 (n + 4) = aI G7 250 := by rw [V7.k (by omega) (by omega), f4a_6]; unfold aI; rw [V7.1.2.2.1]
  have f4b_7 : M7 (n + 4) = fun _ => 0 := by rw [V7.m (by omega) (by omega), f4b_6]
  have q4_7 : gA G7 (n + 4) = gA G4a (n + 4) := (V7.a (by omega)).trans q4_6
  have f5a_7 : gK G7 (n + 5) = aI G7 3500 := by rw [V7.k (by omega) (by omega), f5a_6]; unfold aI; rw [V7.1.2.2.1]
  have f5b_7 : M7 (n + 5) = fun _ => 0 := by rw [V7.m (by omega) (by omega), f5b_6]
  have q5_7 : gA G7 (n + 5) = gA G5a (n + 5) := (V7.a (by omega)).trans q5_6
  have f6a_7 : gK G7 (n + 6) = aI G7 500 := by rw [V7.k (by omega) (by omega), f6a_6]; unfold aI; rw [V7.1.2.2.1]
  have f6b_7 : M7 (n + 6) = fun _ => 0 := by rw [V7.m (by omega) (by omega), f6b_6]
  have q6_7 : gA G7 (n + 6) = gA G6a (n + 6) := (V7.a (by omega)).trans q6_6
  have f7a_7 : gK G7 (n + 7) = aZ G7 2 := by rw [u7.k (by omega) (by omega), kA7]; unfold aZ; rw [u7.1.2.2.1, uA7.1.2.2.1]
  have f7b_7 : M7 (n + 7) = fun _ => 0 := by rw [u7.m (by omega) (by omega), xA7]
  have q7_7 : gA G7 (n + 7) = gA G7a (n + 7) := u7.a (by omega)
  clear uA7 eA7 kA7 xA7 hEA7 hwA7 u7 e7 V7 U6 hN6 hA6 hE6 hw6 k6 x6 f1a_6 f1b_6 q1_6 f2a_6 f2b_6 q2_6 f3a_6 f3b_6 q3_6 f4a_6 f4b_6 q4_6 f5a_6 f5b_6 q5_6 f6a_6 f6b_6 q6_6
  refine lv_aload_n hx hb dX7_init_65 rfl (lv_at hl 0 rfl) ?_
  refine lv_bipush (v := (-9)) hx hb dX7_init_66 (by decide) ?_
  refine i_put (ci := 7) (fs := [.int 0, .ref (gA G1a (n + 1)), .int 0, .int 0, .int 0, .ref (gA G2a (n + 2)), .ref (gA G3a (n + 3)), .ref (gA G4a (n + 4)), .ref (gA G5a (n + 5)), .int 0, .ref (gA G6a (n + 6)), .ref (gA G7a (n + 7)), .int 0, .int 0]) (v := .int (-9)) (ty := .int) n (fun f => .inr (7, [.int (f 0), .ref (gA G1a (n + 1)), .int (f 2), .int (f 3), .int (f 4), .ref (gA G2a (n + 2)), .ref (gA G3a (n + 3)), .ref (gA G4a (n + 4)), .ref (gA G5a (n + 5)), .int (f 9), .ref (gA G6a (n + 6)), .ref (gA G7a (n + 7)), .int (f 12), .int (f 13)])) (upd (fun _ => 0) 12 (-9)) hA7 hx hb hts hinX7 tyX7 tyX7_ok nmX7 hown hE7 hw7 (by omega) (by rw [k7, x7] <;> rfl) rfl 12 (by decide) (hts _ (wz_in qF_X7_32)) rfl rfl rfl rfl rfl (Nat.le_of_ble_eq_true rfl) rfl dX7_init_68 (fun G8 M8 H locs u8 e8 k8 x8 hE8 hw8 => ?_)
  refine lv_aload_n hx hb dX7_init_71 rfl (lv_at hl 0 rfl) ?_
  refine lv_bipush (v := (-9)) hx hb dX7_init_72 (by decide) ?_
  refine i_put (ci := 7) (fs := [.int 0, .ref (gA G1a (n + 1)), .int 0, .int 0, .int 0, .ref (gA G2a (n + 2)), .ref (gA G3a (n + 3)), .ref (gA G4a (n + 4)), .ref (gA G5a (n + 5)), .int 0, .ref (gA G6a (n + 6)), .ref (gA G7a (n + 7)), .int (-9), .int 0]) (v := .int (-9)) (ty := .int) n (fun f => .inr (7, [.int (f 0), .ref (gA G1a (n + 1)), .int (f 2), .int (f 3), .int (f 4), .ref (gA G2a (n + 2)), .ref (gA G3a (n + 3)), .ref (gA G4a (n + 4)), .ref (gA G5a (n + 5)), .int (f 9), .ref (gA G6a (n + 6)), .ref (gA G7a (n + 7)), .int (f 12), .int (f 13)])) (upd (upd (fun _ => 0) 12 (-9)) 13 (-9)) ((u8.a (by omega)).trans hA7) hx hb hts hinX7 tyX7 tyX7_ok nmX7 hown hE8 hw8 (by omega) (by rw [k8, x8] <;> rfl) rfl 13 (by decide) (hts _ (wz_in qF_X7_36)) rfl rfl rfl rfl rfl (Nat.le_of_ble_eq_true rfl) rfl dX7_init_74 (fun G9 M9 H locs u9 e9 k9 x9 hE9 hw9 => ?_)
  have V9 : Up (fun k => k = n) G7 M7 G9 M9 := u8.tr u9 (fun _ _ z => z)
  have f1a_9 : gK G9 (n + 1) = aI G9 140 := by rw [V9.k (by omega) (by omega), f1a_7]; unfold aI; rw [V9.1.2.2.1]
  have f1b_9 : M9 (n + 1) = fun _ => 0 := by rw [V9.m (by omega) (by omega), f1b_7]
  have q1_9 : gA G9 (n + 1) = gA G1a (n + 1) := (V9.a (by omega)).trans q1_7
  have f2a_9 : gK G9 (n + 2) = aI G9 250 := by rw [V9.k (by omega) (by omega), f2a_7]; unfold aI; rw [V9.1.2.2.1]
  have f2b_9 : M9 (n + 2) = fun _ => 0 := by rw [V9.m (by omega) (by omega), f2b_7]
  have q2_9 : gA G9 (n + 2) = gA G2a (n + 2) := (V9.a (by omega)).trans q2_7
  have f3a_9 : gK G9 (n + 3) = aI G9 250 := by rw [V9.k (by omega) (by omega), f3a_7]; unfold aI; rw [V9.1.2.2.1]
  have f3b_9 : M9 (n + 3) = fun _ => 0 := by rw [V9.m (by omega) (by omega), f3b_7]
  have q3_9 : gA G9 (n + 3) = gA G3a (n + 3) := (V9.a (by omega)).trans q3_7
  have f4a_9 : gK G9 (n + 4) = aI G9 250 := by rw [V9.k (by omega) (by omega), f4a_7]; unfold aI; rw [V9.1.2.2.1]
  have f4b_9 : M9 (n + 4) = fun _ => 0 := by rw [V9.m (by omega) (by omega), f4b_7]
  have q4_9 : gA G9 (n + 4) = gA G4a (n + 4) := (V9.a (by omega)).trans q4_7
  have f5a_9 : gK G9 (n + 5) = aI G9 3500 := by rw [V9.k (by omega) (by omega), f5a_7]; unfold aI; rw [V9.1.2.2.1]
  have f5b_9 : M9 (n + 5) = fun _ => 0 := by rw [V9.m (by omega) (by omega), f5b_7]
  have q5_9 : gA G9 (n + 5) = gA G5a (n + 5) := (V9.a (by omega)).trans q5_7
  have f6a_9 : gK G9 (n + 6) = aI G9 500 := by rw [V9.k (by omega) (by omega), f6a_7]; unfold aI; rw [V9.1.2.2.1]
  have f6b_9 : M9 (n + 6) = fun _ => 0 := by rw [V9.m (by omega) (by omega), f6b_7]
  have q6_9 : gA G9 (n + 6) = gA G6a (n + 6) := (V9.a (by omega)).trans q6_7
  have f7a_9 : gK G9 (n + 7) = aZ G9 2 := by rw [V9.k (by omega) (by omega), f7a_7]; unfold aZ; rw [V9.1.2.2.1]
  have f7b_9 : M9 (n + 7) = fun _ => 0 := by rw [V9.m (by omega) (by omega), f7b_7]
  have q7_9 : gA G9 (n + 7) = gA G7a (n + 7) := (V9.a (by omega)).trans q7_7
  refine lv_aload_n hx hb dX7_init_77 rfl (lv_at hl 0 rfl) ?_
  refine va_get (v := .ref (gA G9 (n + 3 + 0))) hx hb hts hinX7 hown hE9.1 hw9.1 n (by rw [gW_at (by omega), k9, V9.a (by omega), hA7]) rfl 6 (by decide) (hts _ (wz_in qF_X7_16)) (fun _ h9 => h9) (by rw [Nat.add_zero, q3_9]; rfl) dX7_init_78 ?_
  refine lv_iconst (v := (nI 0)) hx hb dX7_init_81 (by decide) ?_
  refine lv_bipush (v := (nI 20)) hx hb dX7_init_82 (by decide) ?_
  have hw9' : mW G9 s (wB M9 (n + 3) 1 (sB M9 (n + 3))) H locs := by
    rw [wB_self]
    exact hw9
  refine r_iast (N := 250) hx hb hE9 hw9' (by omega) 0 (by decide) (fun f => congrFun f3a_9 f) (by decide) dX7_init_84 (fun H locs hw => ?_)
  have V6 : Up (fun k => k = n + 3) G9 M9 G9 (wB M9 (n + 3) 1 (u2 (sB M9 (n + 3)) 0 (upd (sB M9 (n + 3) 0) (nI 0).toNatClampNeg (nI 20)))) := ⟨⟨rfl, rfl, rfl, rfl⟩, Nat.le_refl _, fun k _ => ⟨rfl, fun hne => ⟨rfl, wB_out (by omega)⟩⟩⟩
  refine i_vret (n := n) hx hb hr hlocks ((U7.tr V9 (fun _ _ z => z)).tr V6 (fun q hq z => absurd (show q = n + 3 from z) (by omega))) hE9 hw ⟨by omega, ⟨?_, f1a_9, f2a_9, f3a_9, f4a_9, f5a_9, f6a_9, f7a_9⟩, fun j hj => ?_, ?_, fun q => ?_, ?_⟩ dX7_init_85 (by omega) (by omega)
  · show gK G9 n = sX7 G9 n
    rw [k9]
    unfold sX7
    rw [q1_9, q2_9, q3_9, q4_9, q5_9, q6_9, q7_9]
  · rw [V6.m (by omega) (by omega), x9, upd_n (by omega), upd_n (by omega)]
  · rw [V6.m (by omega) (by omega), x9]
    rfl
  · show wB M9 (n + 3) 1 _ (n + 3 + 0) q = _
    rw [wB_at (by decide)]
    show upd (M9 (n + 3 + 0)) (nI 0).toNatClampNeg (nI 20) q = _
    rw [nI_clamp (by decide), Nat.add_zero, f3b_9]
    by_cases z : q = 0
    · rw [z, upd_s, if_pos rfl]
    · rw [upd_n z, if_neg z]
  · rw [V6.m (by omega) (by omega), f7b_9]

