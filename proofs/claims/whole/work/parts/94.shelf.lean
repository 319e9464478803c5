/-! ===== more words; more constructors ===== -/
theorem qC_X4_init : Cond.code yX4_init cX4_init 1 none ∈ zT := zT_in (qin_1 (List.mem_of_getElem? (i := 49) (by decide +kernel))) rfl
theorem qI_X4_init : Cond.instanceMethod yX4_init ∈ zT := zT_in (qin_1 (List.mem_of_getElem? (i := 48) (by decide +kernel))) rfl
theorem qL_X3_13 : Cond.classLink RX3 13 RX4 ∈ zT := zT_in (qin_1 (List.mem_of_getElem? (i := 152) (by decide +kernel))) rfl
theorem qM_X3_7 : Cond.methodLink RX3 7 Lib.Math.max.name ∈ zT := zT_in (qin_1 (List.mem_of_getElem? (i := 151) (by decide +kernel))) rfl
theorem kdX4_init : yX4_init.cls ≠ "java/lang/invoke/MethodHandle" ∧ yX4_init.cls ≠ "java/lang/invoke/VarHandle" ∧ (parseMethodDescriptor yX4_init.desc).map (fun d => d.parameters.length) = some 0 := by decide +kernel
def sh3 : mS := fun f => .inr (3, [.null, .null])
/-- a shelf as its constructor leaves it -/
def newShelf (G : mG) (M : mM) (a mm : Nat) : Prop := gK G a = sX3 G a ∧ (∃ g : Nat → Option Nat, gK G (a + 1) = (fun _ => .inl (gC G 3, mm, .inr (.inr (.inr (.inr g))))) ∧ ∀ j, j < mm → g j = some (gA G (a + 3 + 17 * j))) ∧ gK G (a + 2) = aZ G mm ∧ (∀ j, j < mm → newSt G M (a + 3 + 17 * j)) ∧ M (a + 2) = fun _ => 0
theorem newShelf.up {E : Nat → Prop} {G G1 : mG} {M M1 : mM} {a mm : Nat} (h : newShelf G M a mm) (u : Up E G M G1 M1) (ha : a + 3 + 17 * mm ≤ gN G) (hn : ∀ k, a ≤ k → k < a + 3 + 17 * mm → ¬ E k) : newShelf G1 M1 a mm := by
  obtain ⟨h1, ⟨g, h2, h3⟩, h4, h5, h6⟩ := h
  refine ⟨?_, ⟨g, ?_, fun j hj => ?_⟩, ?_, fun j hj => (h5 j hj).up u (by omega) (fun k hk => hn _ (by omega) (by omega)), ?_⟩
  · rw [u.k (by omega) (hn _ (by omega) (by omega)), h1]
    unfold sX3
    rw [u.a (by omega), u.a (by omega)]
  · rw [u.k (by omega) (hn _ (by omega) (by omega)), h2, u.1.2.2.1]
  · rw [h3 j hj, u.a (by omega)]
  · rw [u.k (by omega) (hn _ (by omega) (by omega)), h4]
    unfold aZ
    rw [u.1.2.2.1]
  · rw [u.m (by omega) (hn _ (by omega) (by omega)), h6]
set_option maxRecDepth 100000 in
set_option maxHeartbeats 4000000 in
theorem mX3_init (l : Launch) (G : mG) {M : mM} {n mm : Nat} (hmm : mm < 100) (h0 : 0 < mm) (hN : gN G = n + 1) (hk : gK G n = sh3) (hm : M n = fun _ => 0) : MI l G yX3_init (wz yX3_init cX3_init 3 none) 3 80 (2 + 17 * mm) (2 * mm + 280 * mm) [.ref (gA G n), .int (nI mm)] M n (fun G1 M1 => gN G1 = n + 3 + 17 * mm ∧ newShelf G1 M1 n mm) := by
  refine mi_of (cc := cX3_init) (maxL := 3) (by decide) rfl (Nat.le_of_ble_eq_true rfl) ?_
  intro p e s m args below meth c H ls hx hb hr hts hown hml hlocks hnm hE hO hw hl
  have hl : lv_has ls 3 [(0, .ref (gA G n)), (1, .int (nI mm))] := hl
  have hinX3 : ∀ w ∈ wsX30, w ∈ wz yX3_init cX3_init 3 none := fun w h9 => wz_in (zinX3 w h9)
  have hinX4 : ∀ w ∈ wsX40, w ∈ wz yX3_init cX3_init 3 none := fun w h9 => wz_in (zinX4 w h9)
  refine lv_aload_n hx hb dX3_init_0 rfl (lv_at hl 0 rfl) ?_
  refine W.objInit hx hb hown (hts _ (wz_in qM_X3_1)) (hts _ (wz_in qI_objinit)) (hts _ (wz_in qC_objinit)) rfl (by rw [hml]; exact hl.1) rfl dX3_init_1 (Nat.le_of_ble_eq_true rfl) (Nat.le_of_ble_eq_true rfl) ?_
  refine W.eq (g2 := F0 m 4 ls []) rfl ?_
  refine lv_aload_n hx hb dX3_init_4 rfl (lv_at hl 0 rfl) ?_
  refine lv_iconst (v := (nI 0)) hx hb dX3_init_5 (by decide) ?_
  refine lv_iload_n hx hb dX3_init_6 rfl (lv_at hl 1 rfl) ?_
  refine va_mmax hx hb (hml.trans hl.1.symm) hown (hts _ (wz_in qM_X3_7)) (hts _ (wz_in qT_max)) (hts _ (wz_in qN_J9)) (hts _ (wz_in qC_max)) (Nat.le_of_ble_eq_true rfl) (Nat.le_of_ble_eq_true rfl) (Nat.zero_le _) (Nat.zero_le _) dX3_init_7 ?_
  refine W.eq (g2 := F0 m 10 ls [.int (nI mm), .ref (gA G n)]) (by rw [n_lt (by decide) (by omega), if_pos h0]) ?_
  refine i_newq 3 hx hb hown (hts _ (wz_in qL_X3_13)) hO.1 rfl hE hw (fun _ => .inl (gC G 3, mm, .inr (.inr (.inr (.inr (fun _ => none)))))) rfl (nI_pos (by omega)) (nI_clamp (by omega)) (by omega) (by show 0 + 1 ≤ 2 + 17 * mm; omega) (by show 0 + mm ≤ 2 * mm + 280 * mm; omega) dX3_init_10 (fun G1 M1 H u1 e1 k1 x1 hE1 hw1 => ?_)
  rw [hN] at e1 k1 x1 ⊢
  obtain ⟨r1, hr1⟩ : ∃ q : Nat, gA G1 (n + 1) = q := ⟨_, rfl⟩
  refine i_putF (ci := 3) (fs := [.null, .null]) (v := .ref (gA G1 (n + 1))) (ty := .array (.object "WinterRoad$State")) n (fun _ => .inr (3, [.ref r1, .null])) (fun _ => 0) (u1.a (by omega)) hx hb hts hinX3 tyX3 tyX3_ok nmX3 hown hE1 hw1 (by omega) (by rw [u1.k (by omega) (fun z => z), hk]; rfl) rfl 0 (by decide) (hts _ (wz_in qF_X3_15)) rfl rfl hnm rfl (by decide +kernel) rfl rfl (Nat.le_of_ble_eq_true rfl) (by rw [hr1]; rfl) dX3_init_13 (fun G2 M2 H locs u2 e2 k2 x2 hE2 hw2 => ?_)
  refine lv_aload_n hx hb dX3_init_16 rfl (lv_at hl 0 rfl) ?_
  refine lv_iconst (v := (nI 0)) hx hb dX3_init_17 (by decide) ?_
  refine lv_iload_n hx hb dX3_init_18 rfl (lv_at hl 1 rfl) ?_
  refine va_mmax hx hb (hml.trans hl.1.symm) hown (hts _ (wz_in qM_X3_7)) (hts _ (wz_in qT_max)) (hts _ (wz_in qN_J9)) (hts _ (wz_in qC_max)) (Nat.le_of_ble_eq_true rfl) (Nat.le_of_ble_eq_true rfl) (by show 0 + 1 ≤ 2 + 17 * mm; omega) (by show 0 + mm ≤ 2 * mm + 280 * mm; omega) dX3_init_19 ?_
  refine W.eq (g2 := F0 m 22 ls [.int (nI mm), .ref (gA G n)]) (by rw [n_lt (by decide) (by omega), if_pos h0]) ?_
  refine i_newa (atype := .boolean) (ty := .boolean) (a0 := (mm, .inl (fun _ => 0))) (N' := mm) 1 hx hb (hts _ (wz_in qA_boolean)) rfl (fun _ h9 => h9) rfl hE2 hw2 (aZ G2 mm) rfl (fun _ => rfl) (nI_pos (by omega)) (nI_clamp (by omega)) (Nat.le_trans (Nat.mul_le_mul_right _ (Nat.le_of_lt hmm)) (by decide)) (by show 0 + 1 + 1 ≤ 2 + 17 * mm; omega) (by show 0 + mm + mm ≤ 2 * mm + 280 * mm; omega) dX3_init_22 (fun G3 M3 H u3 e3 k3 x3 hE3 hw3 => ?_)
  have n2 : gN G2 = n + 2 := by omega
  rw [n2] at e3 k3 x3 ⊢
  obtain ⟨r2, hr2⟩ : ∃ q : Nat, gA G3 (n + 2) = q := ⟨_, rfl⟩
  refine i_putF (ci := 3) (fs := [.ref r1, .null]) (v := .ref (gA G3 (n + 2))) (ty := .array .boolean) n (fun _ => .inr (3, [.ref r1, .ref r2])) (fun _ => 0) ((u3.a (by omega)).trans ((u2.a (by omega)).trans (u1.a (by omega)))) hx hb hts hinX3 tyX3 tyX3_ok nmX3 hown hE3 hw3 (by omega) (by rw [u3.k (by omega) (fun z => z), k2]) rfl 1 (by decide) (hts _ (wz_in qF_X3_21)) rfl rfl hnm rfl (by decide +kernel) rfl rfl (Nat.le_of_ble_eq_true rfl) (by rw [hr2]; rfl) dX3_init_24 (fun G4 M4 H locs u4 e4 k4 x4 hE4 hw4 => ?_)
  have uu : Up (fun k => k = n) G M G4 M4 := (((u1.sub (fun _ _ z => z.elim)).tr u2 (fun _ _ z => z)).tr u3 (fun _ _ z => z.elim)).tr u4 (fun _ _ z => z)
  have a1 : gA G4 (n + 1) = r1 := (u4.a (by omega)).trans ((u3.a (by omega)).trans ((u2.a (by omega)).trans hr1))
  have a2 : gA G4 (n + 2) = r2 := (u4.a (by omega)).trans hr2
  have c1 : gK G4 (n + 1) = fun _ => .inl (gC G 3, mm, .inr (.inr (.inr (.inr (fun _ => none))))) := by
    rw [u4.k (by omega) (by omega), u3.k (by omega) (fun z => z), u2.k (by omega) (by omega), k1]
  have c2 : gK G4 (n + 2) = fun f => .inl (gC G 1, mm, .inl f) := by
    rw [u4.k (by omega) (by omega), k3]
    unfold aZ
    rw [u2.1.2.2.1, u1.1.2.2.1]
  have c3 : M4 (n + 2) = fun _ => 0 := by rw [u4.m (by omega) (by omega), x3]
  have hN4 : gN G4 = n + 3 := by omega
  clear u1 u2 u3 u4 e1 e2 e3 e4 k1 k2 k3 x1 x2 x3 hE1 hE2 hE3 hw1 hw2 hw3 hr1 hr2 n2 hE hw x4
  refine lv_iconst (v := (nI 0)) hx hb dX3_init_27 (by decide) ?_
  refine lv_istore_n (lv' := [(2, .int (nI 0)), (0, .ref (gA G n)), (1, .int (nI mm))]) hx hb dX3_init_28 rfl hl (by decide) rfl (fun ls hl => ?_)
  have loop : ∀ (r i : Nat) (G' : mG) (M' : mM) (H : Heap) (locs : List Loc) (ls : Array Slot) (g : Nat → Option Nat), i + r = mm → gN G' = n + 3 + 17 * i → Up (fun k => k = n) G M G' M' → gA G' (n + 1) = r1 → gA G' (n + 2) = r2 → gK G' n = (fun _ => .inr (3, [.ref r1, .ref r2])) → gK G' (n + 1) = (fun _ => .inl (gC G 3, mm, .inr (.inr (.inr (.inr g))))) → gK G' (n + 2) = (fun f => .inl (gC G 1, mm, .inl f)) → M' (n + 2) = (fun _ => 0) → (∀ j, j < i → g j = some (gA G' (n + 3 + 17 * j)) ∧ newSt G' M' (n + 3 + 17 * j)) → mE G' s → mW G' s M' H locs → lv_has ls 3 [(2, .int (nI i)), (0, .ref (gA G n)), (1, .int (nI mm))] →
      W p l e { frames := 3, cells := 2 + 17 * mm, slots := 2 * mm + 280 * mm, locals := 80 } s m args below meth c H locs (2 + 17 * i) (2 * mm + 280 * i) (iZ below G M n (fun G1 M1 => gN G1 = n + 3 + 17 * mm ∧ newShelf G1 M1 n mm) (2 + 17 * mm) (2 * mm + 280 * mm) args s) (F0 m 29 ls []) := by
    intro r
    induction r with
    | zero =>
      intro i G' M' H locs ls g hi hN' hu b1 b2 d0 d1 d2 d3 d4 hE' hw' hl'
      obtain rfl : i = mm := by omega
      refine lv_iload_n hx hb dX3_init_29 rfl (lv_at hl' 0 rfl) ?_
      refine lv_aload_n hx hb dX3_init_30 rfl (lv_at hl' 1 rfl) ?_
      refine va_get (v := .ref r1) hx hb hts hinX3 hown hE'.1 hw'.1 n (by rw [gW_at (by omega), d0, hu.a (by omega)]) rfl 0 (by decide) (hts _ (wz_in qF_X3_15)) (fun _ h9 => h9) rfl dX3_init_31 ?_
      refine va_alen (v := nI i) hx hb hE'.1 hw'.1 (n + 1) 3 (by rw [gW_at (by omega), d1, b1]) (by rw [← hu.1.2.2.1]; rfl) rfl dX3_init_34 ?_
      refine lv_icmp_ge (tgt := 57) hx hb dX3_init_35 (by decide) (fun _ => ?_) (fun q => absurd (Int32.le_refl _) q)
      refine i_vret (n := n) hx hb hr hlocks hu hE' hw' ⟨hN', ?_, ⟨g, ?_, fun j hj => (d4 j hj).1⟩, ?_, fun j hj => (d4 j hj).2, d3⟩ dX3_init_57 (Nat.le_refl _) (Nat.le_refl _)
      · rw [d0]
        unfold sX3
        rw [b1, b2]
      · rw [d1, hu.1.2.2.1]
      · rw [d2]
        unfold aZ
        rw [hu.1.2.2.1]
    | succ r ih =>
      intro i G' M' H locs ls g hi hN' hu b1 b2 d0 d1 d2 d3 d4 hE' hw' hl'
      refine lv_iload_n hx hb dX3_init_29 rfl (lv_at hl' 0 rfl) ?_
      refine lv_aload_n hx hb dX3_init_30 rfl (lv_at hl' 1 rfl) ?_
      refine va_get (v := .ref r1) hx hb hts hinX3 hown hE'.1 hw'.1 n (by rw [gW_at (by omega), d0, hu.a (by omega)]) rfl 0 (by decide) (hts _ (wz_in qF_X3_15)) (fun _ h9 => h9) rfl dX3_init_31 ?_
      refine va_alen (v := nI mm) hx hb hE'.1 hw'.1 (n + 1) 3 (by rw [gW_at (by omega), d1, b1]) (by rw [← hu.1.2.2.1]; rfl) rfl dX3_init_34 ?_
      refine lv_icmp_ge (tgt := 57) hx hb dX3_init_35 (by decide) (fun q => absurd q (by rw [P_le (by omega) (by omega)]; omega)) (fun _ => ?_)
      refine lv_aload_n hx hb dX3_init_38 rfl (lv_at hl' 1 rfl) ?_
      refine va_get (v := .ref r1) hx hb hts hinX3 hown hE'.1 hw'.1 n (by rw [gW_at (by omega), d0, hu.a (by omega)]) rfl 0 (by decide) (hts _ (wz_in qF_X3_15)) (fun _ h9 => h9) rfl dX3_init_39 ?_
      refine lv_iload_n hx hb dX3_init_42 rfl (lv_at hl' 0 rfl) ?_
      refine i_new (ci := 4) (fs := [.null, .null, .null, .null, .null, .null, .null, .int 0, .int 0, .int 0, .int 0, .int 0]) hx hb hts hinX4 tyX4 tyX4_ok hown (hts _ (wz_in qL_X3_13)) (hts _ (wz_in qB_X4)) (hts _ (wz_in qN_X4)) hE' hw' rfl (sh4 .null .null .null .null .null .null .null) rfl (fun j hj => by rcases (show j = 0 ∨ j = 1 ∨ j = 2 ∨ j = 3 ∨ j = 4 ∨ j = 5 ∨ j = 6 ∨ j = 7 ∨ j = 8 ∨ j = 9 ∨ j = 10 ∨ j = 11 by omega) with rfl | rfl | rfl | rfl | rfl | rfl | rfl | rfl | rfl | rfl | rfl | rfl <;> rfl) (by show 2 + 17 * i + 1 ≤ 2 + 17 * mm; omega) (by show 2 * mm + 280 * i + 12 ≤ 2 * mm + 280 * mm; omega) dX3_init_43 (fun GA MA H uA eA kA xA hEA hwA => ?_)
      rw [hN'] at eA kA xA ⊢
      refine lv_dup hx hb dX3_init_46 rfl ?_
      refine i_callN (host := RX6) (n := n + 3 + 17 * i) (As := []) (rest := [.ref (gA GA (n + 3 + 17 * i)), .int (nI i), .ref r1]) hx hb hml hown hts hEA hO hwA hl' (mX4_init l GA eA kA xA) ⟨va_cnB 0 hts (zN qC_X4_init) rfl rfl rfl hO.2.1 (hts _ (wz_in qN_X4)) kdX4_init ⟨Nat.le_of_ble_eq_true rfl, Nat.le_of_ble_eq_true rfl⟩, rfl, hts _ (wz_in qI_X4_init)⟩ rfl rfl (Nat.le_of_ble_eq_true rfl) dX3_init_47 ⟨by show 2 + 17 * i + 1 + 16 ≤ 2 + 17 * mm; omega, by show 2 * mm + 280 * i + 12 + 268 ≤ 2 * mm + 280 * mm; omega⟩ (fun GB MB H locs uB pB hEB hwB => ?_)
      obtain ⟨nB, sB'⟩ := pB
      have vB : Up (fun _ => False) G' M' GB MB := uA.tr uB (fun q hq z => absurd (show q = n + 3 + 17 * i from z) (by omega))
      have hin' : vp_in (nI i) mm := nI_in (by omega) (by omega)
      have eI : (nI i).toNatClampNeg = i := nI_clamp (by omega)
      refine i_astq (t0 := 3) (ci := 4) (n := mm) (g := g) (cA := gC G 3) (qk := n + 3 + 17 * i) (n + 1) (fun _ => .inl (gC G 3, mm, .inr (.inr (.inr (.inr (va_up g i (some (gA GB (n + 3 + 17 * i))))))))) ((vB.a (by omega)).trans b1) (uB.a (by omega)) hx hb hEB hwB (by omega) (by omega) (by rw [vB.k (by omega) (fun z => z), d1]) (by rw [← hu.1.2.2.1, ← vB.1.2.2.1]; rfl) (congrFun sB'.1.1 _) rfl hin' dX3_init_50 (by rw [eI]) (fun GC MC H locs uC eC kC xC hEC hwC => ?_)
      have vC : Up (fun k => k = n + 1) G' M' GC MC := (vB.sub (fun _ _ z => z.elim)).tr uC (fun _ _ z => z)
      refine lv_iinc (v := nI (i + 1)) (lv' := [(2, .int (nI (i + 1))), (0, .ref (gA G n)), (1, .int (nI mm))]) hx hb dX3_init_51 hl' (k := 0) rfl (by rw [← nI_add]; rfl) (by decide) rfl (fun ls hl2 => ?_)
      refine lv_goto (tgt := 29) hx hb dX3_init_54 (by decide) ?_
      refine W.widen (k := 2 + 17 * (i + 1)) (n := 2 * mm + 280 * (i + 1)) (by omega) (by omega) ?_
      have hu2 : Up (fun k => k = n) G M GC MC := by
        refine ⟨⟨vC.1.1.trans hu.1.1, vC.1.2.1.trans hu.1.2.1, vC.1.2.2.1.trans hu.1.2.2.1, vC.1.2.2.2.trans hu.1.2.2.2⟩, Nat.le_trans hu.2.1 vC.2.1, fun k hk => ⟨(vC.a (by omega)).trans (hu.a hk), fun hne => ⟨(vC.k (by omega) (by omega)).trans (hu.k hk hne), (vC.m (by omega) (by omega)).trans (hu.m hk hne)⟩⟩⟩
      refine ih (i + 1) GC MC H locs ls (va_up g i (some (gA GB (n + 3 + 17 * i)))) (by omega) (by omega) hu2 ((vC.a (by omega)).trans b1) ((vC.a (by omega)).trans b2) (by rw [vC.k (by omega) (by omega), d0]) kC (by rw [vC.k (by omega) (by omega), d2]) (by rw [vC.m (by omega) (by omega), d3]) (fun j hj => ?_) hEC hwC hl2
      by_cases hji : j = i
      · subst hji
        exact ⟨by rw [va_up_self, uC.a (by omega)], sB'.up uC (by omega) (fun k hk => by omega)⟩
      · have hlt : j < i := by omega
        exact ⟨by rw [va_up_ne _ _ hji, (d4 j hlt).1, vC.a (by omega)], (d4 j hlt).2.up vC (by omega) (fun k hk => by omega)⟩
  refine W.widen (k := 2 + 17 * 0) (n := 2 * mm + 280 * 0) (by omega) (by omega) ?_
  exact loop mm 0 G4 M4 H locs ls (fun _ => none) (by omega) hN4 uu a1 a2 k4 c1 c2 c3 (fun j hj => absurd hj (Nat.not_lt_zero _)) hE4 hw4 hl

