/-! ===== the law's entry; the first world ===== -/
theorem qC_X6_init : Cond.code yX6_init cX6_init 1 none ∈ zT := zT_in (qin_1 (List.mem_of_getElem? (i := 21) (by decide +kernel))) rfl
theorem qC_X7_init : Cond.code yX7_init cX7_init 1 none ∈ zT := zT_in (qin_4 (List.mem_of_getElem? (i := 155) (by decide +kernel))) rfl
theorem qI_X6_init : Cond.instanceMethod yX6_init ∈ zT := zT_in (qin_1 (List.mem_of_getElem? (i := 20) (by decide +kernel))) rfl
theorem qI_X7_init : Cond.instanceMethod yX7_init ∈ zT := zT_in (qin_4 (List.mem_of_getElem? (i := 154) (by decide +kernel))) rfl
theorem qL_L_101 : Cond.classLink RL 101 RX7 ∈ zT := zT_in (qin_4 (List.mem_of_getElem? (i := 151) (by decide +kernel))) rfl
theorem qL_L_8 : Cond.classLink RL 8 RX6 ∈ zT := zT_in (qin_1 (List.mem_of_getElem? (i := 17) (by decide +kernel))) rfl
theorem qM_L_100 : Cond.methodLink RL 100 yX6_init ∈ zT := zT_in (qin_1 (List.mem_of_getElem? (i := 19) (by decide +kernel))) rfl
theorem qM_L_103 : Cond.methodLink RL 103 yX7_init ∈ zT := zT_in (qin_4 (List.mem_of_getElem? (i := 153) (by decide +kernel))) rfl
theorem tI_X0 : Cond.instantiable RX0 3 ∈ lw_tbl := qin_1 (List.mem_of_getElem? (i := 140) (by decide +kernel))
theorem tI_X1 : Cond.instantiable RX1 4 ∈ lw_tbl := qin_1 (List.mem_of_getElem? (i := 26) (by decide +kernel))
theorem tI_X2 : Cond.instantiable RX2 3 ∈ lw_tbl := qin_1 (List.mem_of_getElem? (i := 75) (by decide +kernel))
theorem tI_X3 : Cond.instantiable RX3 2 ∈ lw_tbl := qin_1 (List.mem_of_getElem? (i := 146) (by decide +kernel))
theorem tI_X4 : Cond.instantiable RX4 12 ∈ lw_tbl := qin_1 (List.mem_of_getElem? (i := 46) (by decide +kernel))
theorem tI_X5 : Cond.instantiable RX5 4 ∈ lw_tbl := qin_1 (List.mem_of_getElem? (i := 52) (by decide +kernel))
theorem tI_X6 : Cond.instantiable RX6 5 ∈ lw_tbl := qin_1 (List.mem_of_getElem? (i := 18) (by decide +kernel))
theorem tI_X7 : Cond.instantiable RX7 14 ∈ lw_tbl := qin_4 (List.mem_of_getElem? (i := 152) (by decide +kernel))
theorem tA_int : Cond.arrayClass .int ∈ lw_tbl := qin_1 (List.mem_of_getElem? (i := 73) (by decide +kernel))
theorem tA_boolean : Cond.arrayClass .boolean ∈ lw_tbl := qin_1 (List.mem_of_getElem? (i := 162) (by decide +kernel))
theorem tA_char : Cond.arrayClass .char ∈ lw_tbl := qin_1 (List.mem_of_getElem? (i := 44) (by decide +kernel))
theorem tA_long : Cond.arrayClass .long ∈ lw_tbl := qin_6 (List.mem_of_getElem? (i := 57) (by decide +kernel))
theorem tO_X4 : Cond.arrayOver (.object "WinterRoad$State") ∈ lw_tbl := qin_1 (List.mem_of_getElem? (i := 153) (by decide +kernel))
theorem tN_1 : Cond.methodLinkNest RX1 114 yX6_isWithin RX6 ∈ lw_tbl := qin_1 (List.mem_of_getElem? (i := 227) (by decide +kernel))
theorem tN_4 : Cond.methodLinkNest RX4 112 yX6_isWithin RX6 ∈ lw_tbl := qin_3 (List.mem_of_getElem? (i := 197) (by decide +kernel))
theorem tN_25 : Cond.methodLinkNest RX3 25 yX4_init RX6 ∈ lw_tbl := qin_1 (List.mem_of_getElem? (i := 154) (by decide +kernel))
theorem tN_9 : Cond.methodLinkNest RX6 9 yX1_init RX6 ∈ lw_tbl := qin_1 (List.mem_of_getElem? (i := 27) (by decide +kernel))
theorem tN_18 : Cond.methodLinkNest RX6 18 yX4_init RX6 ∈ lw_tbl := qin_1 (List.mem_of_getElem? (i := 47) (by decide +kernel))
theorem tN_28 : Cond.methodLinkNest RX6 28 yX0_init RX6 ∈ lw_tbl := qin_1 (List.mem_of_getElem? (i := 141) (by decide +kernel))
theorem tS_236 : Cond.stringRef RX6 236 "there is no such thing" ∈ lw_tbl := qin_3 (List.mem_of_getElem? (i := 43) (by decide +kernel))
theorem tS_245 : Cond.stringRef RX6 245 "there is no such save slot" ∈ lw_tbl := qin_4 (List.mem_of_getElem? (i := 137) (by decide +kernel))
theorem tS_249 : Cond.stringRef RX6 249 "an argument is out of its range" ∈ lw_tbl := qin_2 (List.mem_of_getElem? (i := 150) (by decide +kernel))
theorem tS_254 : Cond.stringRef RX6 254 "this is not possible now" ∈ lw_tbl := qin_2 (List.mem_of_getElem? (i := 193) (by decide +kernel))
theorem tZ_u : Cond.laysStatic Bundle.tN "UNASSIGNED_STACK" Bundle.steD ∈ lw_tbl := qin_2 (List.mem_of_getElem? (i := 136) (by decide +kernel))
theorem tZ_s : Cond.laysStatic Bundle.tN "SUPPRESSED_SENTINEL" Bundle.listD ∈ lw_tbl := qin_2 (List.mem_of_getElem? (i := 138) (by decide +kernel))
theorem tZ_i : Cond.initialized Bundle.tN ∈ lw_tbl := qin_1 (List.mem_of_getElem? (i := 10) (by decide +kernel))
theorem tC_0 : Cond.castable "java/lang/IndexOutOfBoundsException" "java/lang/IndexOutOfBoundsException" ∈ lw_tbl := qin_3 (List.mem_of_getElem? (i := 36) (by decide +kernel))
theorem tC_1 : Cond.castable "java/lang/IllegalArgumentException" "java/lang/IllegalArgumentException" ∈ lw_tbl := qin_2 (List.mem_of_getElem? (i := 111) (by decide +kernel))
theorem tC_2 : Cond.castable "java/lang/IllegalStateException" "java/lang/IllegalStateException" ∈ lw_tbl := qin_2 (List.mem_of_getElem? (i := 186) (by decide +kernel))
theorem tD_0 : Cond.declares (Bundle.initS "java/lang/RuntimeException") ∈ lw_tbl := qin_2 (List.mem_of_getElem? (i := 113) (by decide +kernel))
theorem tD_1 : Cond.declares (Bundle.initS "java/lang/Exception") ∈ lw_tbl := qin_2 (List.mem_of_getElem? (i := 115) (by decide +kernel))
theorem tD_2 : Cond.declares (Bundle.initS Bundle.tN) ∈ lw_tbl := qin_2 (List.mem_of_getElem? (i := 117) (by decide +kernel))
theorem kdX6_init : yX6_init.cls ≠ "java/lang/invoke/MethodHandle" ∧ yX6_init.cls ≠ "java/lang/invoke/VarHandle" ∧ (parseMethodDescriptor yX6_init.desc).map (fun d => d.parameters.length) = some 0 := by decide +kernel
theorem kdX7_init : yX7_init.cls ≠ "java/lang/invoke/MethodHandle" ∧ yX7_init.cls ≠ "java/lang/invoke/VarHandle" ∧ (parseMethodDescriptor yX7_init.desc).map (fun d => d.parameters.length) = some 0 := by decide +kernel

theorem la_arr {s : State} {args : Array Value} {ty : FieldType} (h : (Cond.arrayClass ty).before args s = true) : ∃ c : ClassId, ArrOfT s c ty ∧ s.vm.findClass ("[" ++ ty.toString) = some c := by
  obtain ⟨c, kA, comp, h1, h2, h3⟩ := Cond.arrayClass_spec h
  exact ⟨c, fun n z => ⟨fun k h9 => (by cases h9), kA, h2, comp, h3⟩, h1⟩
theorem la_arS {s : State} {CN : String} (h : va_AO CN s) : ∃ c : ClassId, ArrOfT s c (.object CN) ∧ va_RA s c (.object CN) := by
  obtain ⟨comp, c, kA, h1, h2, h3, h4, h5⟩ := Cond.arrayOver_spec h
  exact ⟨c, fun n z => ⟨fun k h9 => (by cases h9), kA, h3, comp, h4⟩, kA, comp, h3, h4, h1, h5⟩
theorem tN {y : MethodName} {cc : ByteArray} {n : Nat} {r : Option FieldType} (h : Cond.code y cc n r ∈ zT) : GoodIn zT (wz y cc n r) := by
  intro w hw
  rcases List.mem_cons.mp hw with rfl | hw
  · exact tG h
  · exact tG hw
set_option maxHeartbeats 4000000 in
set_option maxRecDepth 100000 in
/-- what holds of the machine at the law's entry, and the world that is empty -/
theorem la_start {s : State} {b : Nat} (hts : ∀ w ∈ lw_tbl, w.before #[Value.ref b] s = true) (hgv : (Jvm.Cond.and given_1 narrow_1).before #[Value.ref b] s = true) : ∃ G : mG, gN G = 0 ∧ gZ G = s.heap.size ∧ mE G s ∧ iO s ∧ lNc s := by
  have hz : ∀ w ∈ zT, w.before #[Value.ref b] s = true := fun w h => hts w (List.mem_filter.mp h).1
  have hg := flat_of_before _ hgv
  obtain ⟨c0, i0, hK0⟩ := u_known (C := RX0) (T := TX0) (N := 3) (n := 3) hz zinX0 (hts _ tI_X0)
  obtain ⟨c1, i1, hK1⟩ := u_known (C := RX1) (T := TX1) (N := 4) (n := 4) hz zinX1 (hts _ tI_X1)
  obtain ⟨c2, i2, hK2⟩ := u_known (C := RX2) (T := TX2) (N := 3) (n := 3) hz zinX2 (hts _ tI_X2)
  obtain ⟨c3, i3, hK3⟩ := u_known (C := RX3) (T := TX3) (N := 2) (n := 2) hz zinX3 (hts _ tI_X3)
  obtain ⟨c4, i4, hK4⟩ := u_known (C := RX4) (T := TX4) (N := 12) (n := 12) hz zinX4 (hts _ tI_X4)
  obtain ⟨c5, i5, hK5⟩ := u_known (C := RX5) (T := TX5) (N := 4) (n := 4) hz zinX5 (hts _ tI_X5)
  obtain ⟨c6, i6, hK6⟩ := u_known (C := RX6) (T := TX6) (N := 5) (n := 5) hz zinX6 (hts _ tI_X6)
  obtain ⟨c7, i7, hK7⟩ := u_known (C := RX7) (T := TX7) (N := 14) (n := 14) hz zinX7 (hts _ tI_X7)
  obtain ⟨a0, aa0, ar0⟩ := la_arr (hts _ tA_int)
  obtain ⟨a1, aa1, ar1⟩ := la_arr (hts _ tA_boolean)
  obtain ⟨a2, aa2, ar2⟩ := la_arr (hts _ tA_char)
  obtain ⟨a4, aa4, ar4⟩ := la_arr (hts _ tA_long)
  obtain ⟨a3, aa3, ar3⟩ := la_arS (va_AO.of (hts _ tO_X4))
  obtain ⟨-, -, -, s0, -, -, -, -, -, e0⟩ := Cond.stringRef_spec hK6.2.1 (hts _ tS_236)
  obtain ⟨-, -, -, s1, -, -, -, -, -, e1⟩ := Cond.stringRef_spec hK6.2.1 (hts _ tS_245)
  obtain ⟨-, -, -, s2, -, -, -, -, -, e2⟩ := Cond.stringRef_spec hK6.2.1 (hts _ tS_249)
  obtain ⟨-, -, -, s3, -, -, -, -, -, e3⟩ := Cond.stringRef_spec hK6.2.1 (hts _ tS_254)
  obtain ⟨G, hG⟩ : ∃ G : mG, G = ((fun k => if k = 0 then c0 else if k = 1 then c1 else if k = 2 then c2 else if k = 3 then c3 else if k = 4 then c4 else if k = 5 then c5 else if k = 6 then c6 else c7, fun k => if k = 0 then i0 else if k = 1 then i1 else if k = 2 then i2 else if k = 3 then i3 else if k = 4 then i4 else if k = 5 then i5 else if k = 6 then i6 else i7), (fun _ => 0), (fun _ _ => .inr (0, [])), 0, s.heap.size, (fun k => if k = 0 then a0 else if k = 1 then a1 else if k = 2 then a2 else if k = 3 then a3 else a4), (fun k => if k = 0 then s0 else if k = 1 then s1 else if k = 2 then s2 else s3)) := ⟨_, rfl⟩
  have g1 : gN G = 0 := by rw [hG]; rfl
  have g2 : gZ G = s.heap.size := by rw [hG]; rfl
  have gA9 : ∀ a : Nat, a < s.heap.size → ¬ mA G a := fun a h h9 => by
    have h8 : gZ G ≤ a := h9
    omega
  have k1 : ∀ (k : Nat) (q : vw_C), vwCl[k]? = some q → u_Kn s q.1 q.2.1 q.2.2 ((gD G).1 k) ((gD G).2 k) := by
    rw [hG]
    intro k q hq
    match k, hq with
    | 0, hq => cases hq; exact hK0
    | 1, hq => cases hq; exact hK1
    | 2, hq => cases hq; exact hK2
    | 3, hq => cases hq; exact hK3
    | 4, hq => cases hq; exact hK4
    | 5, hq => cases hq; exact hK5
    | 6, hq => cases hq; exact hK6
    | 7, hq => cases hq; exact hK7
    | k + 8, hq => rw [List.getElem?_eq_none (show vwCl.length ≤ k + 8 from Nat.le_add_left 8 k)] at hq; cases hq
  have k2 : ∀ (k : Nat) (q : ClassId × FieldType), (gT G)[k]? = some q → ArrOfT s q.1 q.2 ∧ va_RA s q.1 q.2 := by
    rw [hG]
    intro k q hq
    match k, hq with
    | 0, hq => cases hq; exact ⟨aa0, ar0⟩
    | 1, hq => cases hq; exact ⟨aa1, ar1⟩
    | 2, hq => cases hq; exact ⟨aa2, ar2⟩
    | 3, hq => cases hq; exact ⟨aa3, ar3⟩
    | 4, hq => cases hq; exact ⟨aa4, ar4⟩
    | k + 5, hq => rw [List.getElem?_eq_none (show List.length (gT _) ≤ k + 5 from Nat.le_add_left 5 k)] at hq; cases hq
  have k3 : mX G s := by
    refine ⟨⟨va_Nw.of rfl (hts _ tN_1), va_Nw.of rfl (hts _ tN_4)⟩, ⟨?_, ?_, ?_, ?_⟩, ⟨vx_Zqof (hts _ tZ_u) (hts _ tZ_i) (hg (.isRef (.static Bundle.tN "UNASSIGNED_STACK" Bundle.steD)) (by decide +kernel)) gA9, vx_Zqof (hts _ tZ_s) (hts _ tZ_i) (hg (.isRef (.static Bundle.tN "SUPPRESSED_SENTINEL" Bundle.listD)) (by decide +kernel)) gA9⟩, va_Nw.of rfl (hts _ tC_0), va_Nw.of rfl (hts _ tC_1), va_Nw.of rfl (hts _ tC_2), va_Nw.of rfl (hts _ tD_0), va_Nw.of rfl (hts _ tD_1), va_Nw.of rfl (hts _ tD_2)⟩
    · rw [hG]; exact vk_R.of (hts _ tS_236) e0
    · rw [hG]; exact vk_R.of (hts _ tS_245) e1
    · rw [hG]; exact vk_R.of (hts _ tS_249) e2
    · rw [hG]; exact vk_R.of (hts _ tS_254) e3
  refine ⟨G, g1, g2, ⟨⟨k1, k2⟩, Nat.le_of_eq g2, ⟨fun i j hi => absurd hi (by omega), fun k hk => absurd hk (by omega)⟩, k3⟩, ⟨va_AO.of (hts _ tO_X4), va_Nw.of rfl (hts _ tN_25), va_Nw.of rfl (hts _ tN_9), va_Nw.of rfl (hts _ tN_18), va_Nw.of rfl (hts _ tN_28)⟩, va_Nc.of (hg (.not (.castable "java/lang/IllegalArgumentException" "java/lang/IndexOutOfBoundsException")) (by decide +kernel)), va_Nc.of (hg (.not (.castable "java/lang/IllegalStateException" "java/lang/IndexOutOfBoundsException")) (by decide +kernel)), va_Nc.of (hg (.not (.castable "java/lang/IllegalStateException" "java/lang/IllegalArgumentException")) (by decide +kernel))⟩
/-! the world behind the constructors -/
section LASTW
variable {G G1 : mG} {M M1 : mM} {E : Nat → Prop} {s : State} {H : Heap} {locs : List Loc}
theorem mW_congr {M' : mM} (h : ∀ k, k < gN G → M' k = M k) (hw : mW G s M H locs) : mW G s M' H locs := by
  have e : gW G M' = gW G M := List.map_congr_left (fun k hk => by
    rw [List.mem_range] at hk
    rw [h k hk])
  exact ⟨by rw [e]; exact hw.1, hw.2⟩
theorem i_shape2 {q0 n : Nat} {cA : ClassId} {g g' : Nat → Option Nat} (sh : mS) (hE : mE G s) (hw : mW G s M H locs) (hq : q0 < gN G) (ha : gK G q0 (M q0) = .inl (cA, n, .inr (.inr (.inr (.inr g))))) (hg : ∀ j, j < n → g j = g' j) (hsh : sh (M q0) = .inl (cA, n, .inr (.inr (.inr (.inr g'))))) :
    ∃ G1, Up (fun k => k = q0) G M G1 M ∧ gN G1 = gN G ∧ gA G1 = gA G ∧ gK G1 q0 = sh ∧ mE G1 s ∧ mW G1 s M H locs := by
  obtain ⟨G1, hG1⟩ : ∃ G1 : mG, G1 = (gD G, gA G, (fun k => if k = q0 then sh else gK G k), gN G, gZ G, gC G, gS G) := ⟨_, rfl⟩
  have a2 : gA G1 = gA G := by
    rw [hG1]
    rfl
  have k1 : gK G1 q0 = sh := by
    rw [hG1]
    exact if_pos rfl
  have k2 : ∀ k, k ≠ q0 → gK G1 k = gK G k := fun k hk => by
    rw [hG1]
    exact if_neg hk
  have eN : gN G1 = gN G := by
    rw [hG1]
    rfl
  have e4 : gD G1 = gD G ∧ gZ G1 = gZ G ∧ gC G1 = gC G ∧ gS G1 = gS G := by
    rw [hG1]
    exact ⟨rfl, rfl, rfl, rfl⟩
  have u : Up (fun k => k = q0) G M G1 M := ⟨e4, by rw [eN]; exact Nat.le_refl _, fun k hk => ⟨congrFun a2 k, fun hne => ⟨k2 k hne, rfl⟩⟩⟩
  have ok : gOK G1 := by
    obtain ⟨o1, o2⟩ := hE.2.2.1
    refine ⟨fun i j hi hj e => o1 i j (by rw [← eN]; exact hi) (by rw [← eN]; exact hj) (by rw [← a2]; exact e), fun k hk => ?_⟩
    rw [e4.2.1, a2]
    exact o2 k (by rw [← eN]; exact hk)
  refine ⟨G1, u, eN, a2, k1, hE.up u ok, fun k q hk => ?_, by rw [u.zA]; exact hw.2⟩
  obtain ⟨h1, rfl⟩ := gW_some hk
  rw [eN] at h1
  have h2 := hw.1 k _ (gW_at h1)
  rw [e4.1]
  by_cases hi : k = q0
  · subst hi
    rw [ha] at h2
    have h3 : H[gA G k]? = some (vp_cell cA (n, .inr (.inr (.inr (.inr g))))) := h2
    rw [k1, hsh, a2]
    show H[gA G k]? = some (vp_cell cA (n, .inr (.inr (.inr (.inr g')))))
    rw [h3, vp_cell_q, vp_cell_q, arrV_to cA n (fun j hj => by rw [hg j hj])]
  · rw [k2 k hi, a2]
    exact h2
theorem newWR_up {a : Nat} (h : newWR G M a) (u : Up E G M G1 M1) (ha : a + 316 ≤ gN G) (hn : ∀ k, a ≤ k → k < a + 316 → ¬ E k) : newWR G1 M1 a := by
  obtain ⟨h1, h2, ⟨h3, h4, h5⟩, h6, h7, h8⟩ := h
  refine ⟨?_, h2.up u (by omega) (fun k q1 q2 => hn k (by omega) (by omega)), ⟨h3.up u (by omega) (fun k q => hn _ (by omega) (by omega)), h4.cells (fun k hk => u.m (by omega) (hn _ (by omega) (by omega))), ?_⟩, h6.up u (by omega) (fun k q => hn _ (by omega) (by omega)), h7.up u (by omega) (fun k q1 q2 => hn k (by omega) (by omega)), h8.up u (by omega) (fun k q1 q2 => hn k (by omega) (by omega))⟩
  · rw [u.k (by omega) (hn _ (by omega) (by omega)), h1]
    unfold sX6
    rw [u.a (by omega), u.a (by omega), u.a (by omega), u.a (by omega), u.a (by omega)]
  · rw [u.m (by omega) (hn _ (by omega) (by omega))]
    exact h5
theorem isMod_up {a : Nat} (h : isMod G a) (u : Up E G M G1 M1) (ha : a + 8 ≤ gN G) (hn : ∀ k, a ≤ k → k < a + 8 → ¬ E k) : isMod G1 a := by
  obtain ⟨h0, h1, h2, h3, h4, h5, h6, h7⟩ := h
  refine ⟨?_, ?_, ?_, ?_, ?_, ?_, ?_, ?_⟩
  · rw [u.k (by omega) (hn _ (by omega) (by omega)), h0]
    unfold sX7
    rw [u.a (by omega), u.a (by omega), u.a (by omega), u.a (by omega), u.a (by omega), u.a (by omega), u.a (by omega)]
  · rw [u.k (by omega) (hn _ (by omega) (by omega)), h1]
    unfold aI
    rw [u.1.2.2.1]
  · rw [u.k (by omega) (hn _ (by omega) (by omega)), h2]
    unfold aI
    rw [u.1.2.2.1]
  · rw [u.k (by omega) (hn _ (by omega) (by omega)), h3]
    unfold aI
    rw [u.1.2.2.1]
  · rw [u.k (by omega) (hn _ (by omega) (by omega)), h4]
    unfold aI
    rw [u.1.2.2.1]
  · rw [u.k (by omega) (hn _ (by omega) (by omega)), h5]
    unfold aI
    rw [u.1.2.2.1]
  · rw [u.k (by omega) (hn _ (by omega) (by omega)), h6]
    unfold aI
    rw [u.1.2.2.1]
  · rw [u.k (by omega) (hn _ (by omega) (by omega)), h7]
    unfold aZ
    rw [u.1.2.2.1]
/-- WinterRoad's shapes, but for its two arrays of references -/
theorem shelf_of {a mm : Nat} (h : newShelf G M a mm) (u : Up E G M G1 M1) (hA : gA G1 = gA G) (ha : a + 3 + 17 * mm ≤ gN G) (hn : ∀ k, a ≤ k → k < a + 3 + 17 * mm → k ≠ a + 1 → ¬ E k) (hk : gK G1 (a + 1) = fun _ => .inl (gC G 3, mm, .inr (.inr (.inr (.inr (fun i => some (gA G (a + 3 + 17 * i)))))))) : isShelf G1 a mm := by
  obtain ⟨h1, _, h3, h4, _⟩ := h
  refine ⟨?_, ?_, ?_, fun i hi => (h4 i hi).1.up u (by omega) (fun k q => hn _ (by omega) (by omega) (by omega))⟩
  · rw [Nat.add_zero, u.k (by omega) (hn _ (by omega) (by omega) (by omega)), h1]
    unfold sX3
    rw [hA]
  · rw [hk]
    unfold aO
    rw [hA, u.1.2.2.1]
  · rw [u.k (by omega) (hn _ (by omega) (by omega) (by omega)), h3]
    unfold aZ
    rw [u.1.2.2.1]
theorem WR_of (h : newWR G M 0) (hN : 316 ≤ gN G) (u : Up E G M G1 M1) (hA : gA G1 = gA G) (hn : ∀ k, k < 316 → k ≠ 39 → k ≠ 280 → ¬ E k) (k1 : gK G1 39 = fun _ => .inl (gC G 3, 14, .inr (.inr (.inr (.inr (fun i => some (gA G (38 + 3 + 17 * i)))))))) (k2 : gK G1 280 = fun _ => .inl (gC G 3, 2, .inr (.inr (.inr (.inr (fun i => some (gA G (279 + 3 + 17 * i)))))))) : isWR G1 0 := by
  obtain ⟨h1, ⟨h2, h2b, _⟩, ⟨h3, _, _⟩, h6, ⟨h7, h7b, _⟩, h8⟩ := h
  refine ⟨?_, ?_, ?_, h3.up u (by omega) (fun k q => hn _ (by omega) (by omega) (by omega)), h6.1.up u (by omega) (fun k q => hn _ (by omega) (by omega) (by omega)), ?_, ?_, ?_⟩
  · rw [Nat.add_zero, u.k (by omega) (hn _ (by omega) (by omega) (by omega)), h1]
    unfold sX6
    rw [hA]
  · rw [u.k (by omega) (hn _ (by omega) (by omega) (by omega)), h2]
    unfold sX1
    rw [hA]
  · have e : gK G (0 + 2) = aC G 140 := h2b
    rw [u.k (by omega) (hn _ (by omega) (by omega) (by omega)), e]
    unfold aC
    rw [u.1.2.2.1]
  · rw [u.k (by omega) (hn _ (by omega) (by omega) (by omega)), h7]
    unfold sX0
    rw [hA]
  · have e : newShelf G M 38 14 := h7b
    exact shelf_of (a := 38) e u hA (by omega) (fun k q1 q2 q3 => hn k (by omega) (by omega) (by omega)) k1
  · have e : newShelf G M 279 2 := h8
    exact shelf_of (a := 279) e u hA (by omega) (fun k q1 q2 q3 => hn k (by omega) (by omega) (by omega)) k2
theorem PI_new (h : newWR G M 0) (g : newMod G M 316) : PI M (fun k => M (316 + k)) := by
  obtain ⟨h1, ⟨_, _, h2⟩, ⟨_, h3, h4⟩, h6, ⟨_, ⟨_, _, _, h7, _⟩, h7m⟩, ⟨_, _, _, h8, h8m⟩⟩ := h
  obtain ⟨_, g1, g2, g3, g4⟩ := g
  have g4' : M 323 = fun _ => 0 := g4
  have h2' : M 1 = fun _ => 0 := h2
  have h7' : M 37 = fun _ => 0 := h7m
  have h8' : M 281 = fun _ => 0 := h8m
  refine ⟨⟨emA (nI 20), ⟨false, h4⟩, h3, emA_row ?_ (fun q q1 q2 => ?_), ⟨emA_inv _, 20, rfl, by decide, by decide, emA_dep _⟩, g2, h6.2.1⟩, ⟨0, fun _ => 0, ⟨?_, by decide, fun i hi => absurd hi (Nat.not_lt_zero _), false, ?_⟩, g1 2 (by decide), fun i hi => absurd hi (Nat.not_lt_zero _)⟩, fun i hi => ⟨?_, false, ?_, ?_, fun z => by cases z⟩, fun j hj => ?_, 0, 0, ?_, by decide, ?_, by decide, g1 9 (by decide), fun j hj => absurd hj (Nat.not_lt_zero _)⟩
  · exact (g3 0).trans (if_pos rfl)
  · exact (g3 q).trans (if_neg (by omega))
  · rw [h2']; rfl
  · rw [h2']; rfl
  · have e := (h8 i hi).2.1
    rw [show 0 + 279 + 3 + 17 * i = 282 + 17 * i by omega] at e
    exact e
  · rw [h8']; rfl
  · show M 323 i = _
    rw [g4']; rfl
  · have e := (h7 j hj).2.1
    rw [show 0 + 37 + 1 + 3 + 17 * j = 41 + 17 * j by omega] at e
    exact e
  · rw [h7']; rfl
  · rw [h7']; rfl
end LASTW
