/-! ===== the law ===== -/
set_option maxHeartbeats 8000000 in
set_option maxRecDepth 100000 in
theorem whole_start {p : Program} {e : Env} {s : State} {m : MethodId} {below : List Frame} {meth : Method} {c : Code} (l : Launch) (hflags : l.flags = flags0) {b L : Nat} {xs : Nat → Int32} (hL : L ≤ 3072) (C0 : lw_At p s m meth c b L xs) : W p l e room_1 s m #[Value.ref b] below meth c s.heap [] 0 0 (lw_Z below #[Value.ref b] s) (entryFrame m ([Value.ref b] : List Value).toArray 7) := by
  obtain ⟨hx, hb, hr, hml, hown, hts, hX, hbl, hlocks, hgv⟩ := C0
  have hfl : l.stackTraces = false := by
    unfold Launch.stackTraces
    rw [hflags]
    decide
  obtain ⟨G, hN, hZ, hE, hO, hNc⟩ := la_start hts hgv
  have hz : ∀ w ∈ zT, w.before #[Value.ref b] s = true := fun w h => hts w (List.mem_filter.mp h).1
  have hw : mW G s (fun _ _ => 0) s.heap [] := ⟨fun k q h => absurd (gW_some h).1 (by omega), va_S.rf⟩
  have hl := lv_entry ([.ref b]) (n := 7) (Nat.le_of_ble_eq_true rfl)
  rw [lg_entry_eq]
  generalize (lg_sl ([.ref b]) ++ List.replicate (7 - (lg_sl ([.ref b])).length) Slot.unset).toArray = ls at hl ⊢
  have hl : lv_has ls 7 [(0, .ref b)] := hl
  refine i_new (ci := 6) (fs := [.null, .null, .null, .null, .null]) (rest := []) hx hb hz zinX6 tyX6 tyX6_ok hown (hz _ qL_L_8) (hts _ tI_X6) (hz _ qN_X6) hE hw rfl sh6 rfl (fun j hj => by rcases (show j = 0 ∨ j = 1 ∨ j = 2 ∨ j = 3 ∨ j = 4 by omega) with rfl | rfl | rfl | rfl | rfl <;> rfl) (Nat.le_of_ble_eq_true rfl) (Nat.le_of_ble_eq_true rfl) dL_law_0 (fun G1 M1 H u1 e1 k1 x1 hE1 hw1 => ?_)
  rw [hN] at e1 k1 x1 ⊢
  refine lv_dup hx hb dL_law_3 rfl ?_
  refine i_call (n := 0) (As := []) (rest := [.ref (gA G1 0)]) hx hb hml hown hz hE1 hO hw1 hl (mX6_init l G1 (n := 0) e1 k1 x1) (cwI 0 hz (tN qC_X6_init) rfl rfl rfl (hz _ qN_X6) (hz _ qM_L_100) (hz _ qI_X6_init) rfl kdX6_init ⟨Nat.le_of_ble_eq_true rfl, Nat.le_of_ble_eq_true rfl⟩) rfl rfl (Nat.le_of_ble_eq_true rfl) dL_law_4 ⟨Nat.le_of_ble_eq_true rfl, Nat.le_of_ble_eq_true rfl⟩ (fun G2 M2 H locs u2 p2 hE2 hw2 => ?_)
  obtain ⟨e2, w2⟩ := p2
  have e2 : gN G2 = 316 := e2
  have a2 : gA G2 0 = gA G1 0 := u2.a (by omega)
  rw [← a2]
  refine lv_astore_n (lv' := [(1, .ref (gA G2 0)), (0, .ref b)]) hx hb dL_law_7 rfl hl (by decide) rfl (fun ls hl => ?_)
  have z2 : gZ G2 = s.heap.size := (u2.1.2.1.trans u1.1.2.1).trans hZ
  clear hE hw hN hE1 hw1 e1 k1 x1 a2 u1 u2
  refine i_new (ci := 7) (fs := [.int 0, .null, .int 0, .int 0, .int 0, .null, .null, .null, .null, .int 0, .null, .null, .int 0, .int 0]) (rest := []) hx hb hz zinX7 tyX7 tyX7_ok hown (hz _ qL_L_101) (hts _ tI_X7) (hz _ qN_X7) hE2 hw2 rfl sh7 rfl (fun j hj => by rcases (show j = 0 ∨ j = 1 ∨ j = 2 ∨ j = 3 ∨ j = 4 ∨ j = 5 ∨ j = 6 ∨ j = 7 ∨ j = 8 ∨ j = 9 ∨ j = 10 ∨ j = 11 ∨ j = 12 ∨ j = 13 by omega) with rfl | rfl | rfl | rfl | rfl | rfl | rfl | rfl | rfl | rfl | rfl | rfl | rfl | rfl <;> rfl) (Nat.le_of_ble_eq_true rfl) (Nat.le_of_ble_eq_true rfl) dL_law_8 (fun G3 M3 H u3 e3 k3 x3 hE3 hw3 => ?_)
  rw [e2] at e3 k3 x3 ⊢
  refine lv_dup hx hb dL_law_11 rfl ?_
  refine i_call (n := 316) (As := []) (rest := [.ref (gA G3 316)]) hx hb hml hown hz hE3 hO hw3 hl (mX7_init l G3 (n := 316) e3 k3 x3) (cwI 0 hz (tN qC_X7_init) rfl rfl rfl (hz _ qN_X7) (hz _ qM_L_103) (hz _ qI_X7_init) rfl kdX7_init ⟨Nat.le_of_ble_eq_true rfl, Nat.le_of_ble_eq_true rfl⟩) rfl rfl (Nat.le_of_ble_eq_true rfl) dL_law_12 ⟨Nat.le_of_ble_eq_true rfl, Nat.le_of_ble_eq_true rfl⟩ (fun G4 M4 H locs u4 p4 hE4 hw4 => ?_)
  obtain ⟨e4, w4⟩ := p4
  have e4 : gN G4 = 324 := e4
  have a4 : gA G4 316 = gA G3 316 := u4.a (by omega)
  rw [← a4]
  refine lv_astore_n (lv' := [(2, .ref (gA G4 316)), (1, .ref (gA G2 0)), (0, .ref b)]) hx hb dL_law_15 rfl hl (by decide) rfl (fun ls hl => ?_)
  refine lv_iconst (v := nI 1) hx hb dL_law_16 (by decide) ?_
  refine i_newa (atype := .long) (ty := .long) (a0 := (1, .inr (.inl (fun _ => (0 : Int32).toInt64)))) (N' := 1) 4 hx hb (hts _ tA_long) rfl (fun _ h9 => h9) rfl hE4 hw4 (aJ G4) rfl (fun _ => rfl) (nI_pos (by decide)) (nI_clamp (by decide)) (by decide) (Nat.le_of_ble_eq_true rfl) (Nat.le_of_ble_eq_true rfl) dL_law_17 (fun G5 M5 H u5 e5 k5 x5 hE5 hw5 => ?_)
  rw [e4] at e5 k5 x5 ⊢
  refine lv_astore_n (lv' := [(3, .ref (gA G5 324)), (2, .ref (gA G4 316)), (1, .ref (gA G2 0)), (0, .ref b)]) hx hb dL_law_19 rfl hl (by decide) rfl (fun ls hl => ?_)
  refine lv_iconst (v := nI 0) hx hb dL_law_20 (by decide) ?_
  refine lv_istore (lv' := [(4, .int (nI 0)), (3, .ref (gA G5 324)), (2, .ref (gA G4 316)), (1, .ref (gA G2 0)), (0, .ref b)]) hx hb dL_law_21 hl (by decide) rfl (fun ls hl => ?_)
  have V : Up (fun k => k = 316) G2 M2 G5 M5 := ((u3.sub (fun _ _ z => z.elim)).tr u4 (fun _ _ z => z)).tr u5 (fun _ _ z => z.elim)
  have w5 : newWR G5 M5 0 := newWR_up w2 V (by omega) (fun k q1 q2 => by omega)
  have r5 : isMod G5 316 := isMod_up w4.1 u5 (by omega) (fun k q1 q2 z => z)
  have n5 : newMod G5 M5 316 := by
    obtain ⟨_, g1, g2, g3, g4⟩ := w4
    refine ⟨r5, fun j hj => ?_, ?_, fun q => ?_, ?_⟩
    · rw [u5.m (by omega) (fun z => z)]
      exact g1 j hj
    · rw [u5.m (by omega) (fun z => z)]
      exact g2
    · rw [u5.m (by omega) (fun z => z)]
      exact g3 q
    · rw [u5.m (by omega) (fun z => z)]
      exact g4
  have j5 : gK G5 324 = aJ G5 := by
    rw [k5]
    unfold aJ
    rw [u5.1.2.2.1]
  have hPI := PI_new w5 n5
  have b0 : gA G5 0 = gA G2 0 := V.a (by omega)
  have b1 : gA G5 316 = gA G4 316 := u5.a (by omega)
  have z5 : gZ G5 = s.heap.size := V.1.2.1.trans z2
  have e5 : gN G5 = 325 := e5
  rw [← b0, ← b1] at hl
  clear V u3 u4 u5 hE2 hE3 hE4 hw2 hw3 hw4 w2 w4 n5 e3 e4 k3 x3 k5 x5 a4 b0 b1 z2 e2
  obtain ⟨g14, y1, y2⟩ := (show newShelf G5 M5 38 14 from w5.2.2.2.2.1.2.1).2.1
  obtain ⟨g2, y3, y4⟩ := (show newShelf G5 M5 279 2 from w5.2.2.2.2.2).2.1
  obtain ⟨G6, u6, e6, a6, k6, hE6, hw6⟩ := i_shape2 (q0 := 39) (fun _ => .inl (gC G5 3, 14, .inr (.inr (.inr (.inr (fun i => some (gA G5 (38 + 3 + 17 * i)))))))) hE5 hw5 (by omega) (congrFun y1 _) y2 rfl
  have y5 : gK G6 280 = gK G5 280 := u6.k (by omega) (by decide)
  obtain ⟨G7, u7, e7, a7, k7, hE7, hw7⟩ := i_shape2 (q0 := 280) (fun _ => .inl (gC G5 3, 2, .inr (.inr (.inr (.inr (fun i => some (gA G5 (279 + 3 + 17 * i)))))))) hE6 hw6 (by omega) ((congrFun y5 _).trans (congrFun y3 _)) y4 rfl
  have U : Up (fun k => k = 39 ∨ k = 280) G5 M5 G7 M5 := (u6.sub (fun _ _ z => Or.inl z)).tr u7 (fun _ _ z => Or.inr z)
  have A7 : gA G7 = gA G5 := a7.trans a6
  have k39 : gK G7 39 = gK G6 39 := u7.k (by omega) (by decide)
  have hR : isWR G7 0 := WR_of w5 (by omega) U A7 (fun k _ q1 q2 z => by omega) (k39.trans k6) k7
  have hM : isMod G7 316 := isMod_up r5 U (by omega) (fun k q1 q2 z => by omega)
  have hJ : gK G7 324 = aJ G7 := by
    rw [U.k (by omega) (by decide), j5]
    unfold aJ
    rw [U.1.2.2.1]
  have z7 : gZ G7 = s.heap.size := U.1.2.1.trans z5
  have e9 : gN G7 = 325 := by omega
  rw [← A7] at hl
  have hE9 : lE p s m #[Value.ref b] c b L xs G7 := ⟨hx, hb, hml, hown, hz, ⟨hE7, hNc⟩, ⟨e9, hR, hM, hJ⟩, ⟨hX, hbl, z7⟩, hL⟩
  refine law_loop hfl hr hlocks hE9 L 0 (Nat.zero_le _) (by omega) M5 (fun k => M5 (316 + k)) (M5 324) _ _ ls _ _ hPI (mW_congr (fun k hk => ?_) hw7) (lv_sub hl [4, 3, 2, 1, 0] rfl) (Nat.le_of_ble_eq_true rfl) (Nat.le_of_ble_eq_true rfl)
  unfold lM
  by_cases q1 : k < 316
  · rw [if_pos q1]
  · rw [if_neg q1]
    by_cases q2 : k < 324
    · rw [if_pos q2]
      show M5 (316 + (k - 316)) = M5 k
      rw [show 316 + (k - 316) = k by omega]
    · rw [if_neg q2, show k = 324 by omega, if_pos rfl]

