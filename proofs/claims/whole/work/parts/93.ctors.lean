/-! ===== more words; constructors ===== -/
theorem qA_boolean : Cond.arrayClass .boolean ∈ zT := zT_in (qin_1 (List.mem_of_getElem? (i := 162) (by decide +kernel))) rfl
theorem qA_char : Cond.arrayClass .char ∈ zT := zT_in (qin_1 (List.mem_of_getElem? (i := 44) (by decide +kernel))) rfl
theorem qA_int : Cond.arrayClass .int ∈ zT := zT_in (qin_1 (List.mem_of_getElem? (i := 73) (by decide +kernel))) rfl
theorem qA_long : Cond.arrayClass .long ∈ zT := zT_in (qin_6 (List.mem_of_getElem? (i := 57) (by decide +kernel))) rfl
theorem qB_X0 : Cond.instantiable RX0 3 ∈ zT := zT_in (qin_1 (List.mem_of_getElem? (i := 140) (by decide +kernel))) rfl
theorem qB_X1 : Cond.instantiable RX1 4 ∈ zT := zT_in (qin_1 (List.mem_of_getElem? (i := 26) (by decide +kernel))) rfl
theorem qB_X2 : Cond.instantiable RX2 3 ∈ zT := zT_in (qin_1 (List.mem_of_getElem? (i := 75) (by decide +kernel))) rfl
theorem qB_X3 : Cond.instantiable RX3 2 ∈ zT := zT_in (qin_1 (List.mem_of_getElem? (i := 146) (by decide +kernel))) rfl
theorem qB_X4 : Cond.instantiable RX4 12 ∈ zT := zT_in (qin_1 (List.mem_of_getElem? (i := 46) (by decide +kernel))) rfl
theorem qB_X5 : Cond.instantiable RX5 4 ∈ zT := zT_in (qin_1 (List.mem_of_getElem? (i := 52) (by decide +kernel))) rfl
theorem qB_X6 : Cond.instantiable RX6 5 ∈ zT := zT_in (qin_1 (List.mem_of_getElem? (i := 18) (by decide +kernel))) rfl
theorem qB_X7 : Cond.instantiable RX7 14 ∈ zT := zT_in (qin_4 (List.mem_of_getElem? (i := 152) (by decide +kernel))) rfl
theorem qC_X2_init : Cond.code yX2_init cX2_init 3 none ∈ zT := zT_in (qin_1 (List.mem_of_getElem? (i := 78) (by decide +kernel))) rfl
theorem qC_X5_init : Cond.code yX5_init cX5_init 3 none ∈ zT := zT_in (qin_1 (List.mem_of_getElem? (i := 55) (by decide +kernel))) rfl
theorem qC_objinit : Cond.code objectInit ⟨#[0xb1]⟩ 1 none ∈ zT := zT_in (qin_1 (List.mem_of_getElem? (i := 24) (by decide +kernel))) rfl
theorem qI_X2_init : Cond.instanceMethod yX2_init ∈ zT := zT_in (qin_1 (List.mem_of_getElem? (i := 77) (by decide +kernel))) rfl
theorem qI_X5_init : Cond.instanceMethod yX5_init ∈ zT := zT_in (qin_1 (List.mem_of_getElem? (i := 54) (by decide +kernel))) rfl
theorem qI_objinit : Cond.instanceMethod objectInit ∈ zT := zT_in (qin_1 (List.mem_of_getElem? (i := 23) (by decide +kernel))) rfl
theorem qL_X4_32 : Cond.classLink RX4 32 RX2 ∈ zT := zT_in (qin_1 (List.mem_of_getElem? (i := 74) (by decide +kernel))) rfl
theorem qL_X4_9 : Cond.classLink RX4 9 RX5 ∈ zT := zT_in (qin_1 (List.mem_of_getElem? (i := 51) (by decide +kernel))) rfl
theorem qM_X0_3 : Cond.methodLink RX0 3 objectInit ∈ zT := zT_in (qin_1 (List.mem_of_getElem? (i := 144) (by decide +kernel))) rfl
theorem qM_X1_3 : Cond.methodLink RX1 3 objectInit ∈ zT := zT_in (qin_1 (List.mem_of_getElem? (i := 30) (by decide +kernel))) rfl
theorem qM_X2_15 : Cond.methodLink RX2 15 Lib.Math.max.name ∈ zT := zT_in (qin_1 (List.mem_of_getElem? (i := 80) (by decide +kernel))) rfl
theorem qM_X2_3 : Cond.methodLink RX2 3 objectInit ∈ zT := zT_in (qin_1 (List.mem_of_getElem? (i := 79) (by decide +kernel))) rfl
theorem qM_X3_1 : Cond.methodLink RX3 1 objectInit ∈ zT := zT_in (qin_1 (List.mem_of_getElem? (i := 150) (by decide +kernel))) rfl
theorem qM_X4_11 : Cond.methodLink RX4 11 yX5_init ∈ zT := zT_in (qin_1 (List.mem_of_getElem? (i := 53) (by decide +kernel))) rfl
theorem qM_X4_3 : Cond.methodLink RX4 3 objectInit ∈ zT := zT_in (qin_1 (List.mem_of_getElem? (i := 50) (by decide +kernel))) rfl
theorem qM_X4_34 : Cond.methodLink RX4 34 yX2_init ∈ zT := zT_in (qin_1 (List.mem_of_getElem? (i := 76) (by decide +kernel))) rfl
theorem qM_X5_18 : Cond.methodLink RX5 18 Lib.Math.max.name ∈ zT := zT_in (qin_1 (List.mem_of_getElem? (i := 57) (by decide +kernel))) rfl
theorem qM_X5_3 : Cond.methodLink RX5 3 objectInit ∈ zT := zT_in (qin_1 (List.mem_of_getElem? (i := 56) (by decide +kernel))) rfl
theorem qM_X6_1 : Cond.methodLink RX6 1 objectInit ∈ zT := zT_in (qin_1 (List.mem_of_getElem? (i := 22) (by decide +kernel))) rfl
theorem qM_X7_1 : Cond.methodLink RX7 1 objectInit ∈ zT := zT_in (qin_4 (List.mem_of_getElem? (i := 156) (by decide +kernel))) rfl
theorem kdX2_init : yX2_init.cls ≠ "java/lang/invoke/MethodHandle" ∧ yX2_init.cls ≠ "java/lang/invoke/VarHandle" ∧ (parseMethodDescriptor yX2_init.desc).map (fun d => d.parameters.length) = some 2 := by decide +kernel
theorem kdX5_init : yX5_init.cls ≠ "java/lang/invoke/MethodHandle" ∧ yX5_init.cls ≠ "java/lang/invoke/VarHandle" ∧ (parseMethodDescriptor yX5_init.desc).map (fun d => d.parameters.length) = some 2 := by decide +kernel
/-- a table before its constructor -/
def sh5 : mS := fun f => .inr (5, [.int (f 0), .int (f 1), .null, .int (f 3)])
def sh2 : mS := fun f => .inr (2, [.int (f 0), .null, .null])
def sh4 (q1 q3 q5 q7 q9 q11 q14 : Value) : mS := fun f => .inr (4, [q1, q3, q5, q7, q9, q11, q14, .int (f 7), .int (f 8), .int (f 9), .int (f 10), .int (f 11)])
set_option maxRecDepth 100000 in
set_option maxHeartbeats 4000000 in
theorem mX5_init (l : Launch) (G : mG) {M : mM} {n a b : Nat} (ha : a * b < 2 ^ 20) (h0 : 0 < a * b) (hN : gN G = n + 1) (hk : gK G n = sh5) (hm : M n = fun _ => 0) : MI l G yX5_init (wz yX5_init cX5_init 3 none) 1 20 1 (a * b) [.ref (gA G n), .int (nI a), .int (nI b)] M n (fun G1 M1 => gN G1 = n + 2 ∧ isTab G1 n (a * b) ∧ M1 n 0 = nI a ∧ M1 n 1 = nI b) := by
  refine mi_of (cc := cX5_init) (maxL := 3) (by decide) rfl (Nat.le_of_ble_eq_true rfl) ?_
  intro p e s m args below meth c H ls hx hb hr hts hown hml hlocks hnm hE hO hw hl
  have hl : lv_has ls 3 [(0, .ref (gA G n)), (1, .int (nI a)), (2, .int (nI b))] := hl
  have hinX5 : ∀ w ∈ wsX50, w ∈ wz yX5_init cX5_init 3 none := fun w h9 => wz_in (zinX5 w h9)
  refine lv_aload_n hx hb dX5_init_0 rfl (lv_at hl 0 rfl) ?_
  refine W.objInit hx hb hown (hts _ (wz_in qM_X5_3)) (hts _ (wz_in qI_objinit)) (hts _ (wz_in qC_objinit)) rfl (by rw [hml]; exact hl.1) rfl dX5_init_1 (Nat.le_of_ble_eq_true rfl) (Nat.le_of_ble_eq_true rfl) ?_
  refine W.eq (g2 := F0 m 4 ls []) rfl ?_
  refine lv_aload_n hx hb dX5_init_4 rfl (lv_at hl 0 rfl) ?_
  refine lv_iload_n hx hb dX5_init_5 rfl (lv_at hl 1 rfl) ?_
  refine i_putF (ci := 5) (fs := [.int 0, .int 0, .null, .int 0]) (v := .int (nI a)) (ty := .int) n sh5 (upd (fun _ => 0) 0 (nI a)) rfl hx hb hts hinX5 tyX5 tyX5_ok nmX5 hown hE hw (by omega) (by rw [hk, hm]; rfl) rfl 0 (by decide) (hts _ (wz_in qF_X5_9)) rfl rfl hnm rfl (by decide +kernel) rfl rfl (Nat.le_of_ble_eq_true rfl) rfl dX5_init_6 (fun G1 M1 H locs u1 e1 k1 x1 hE1 hw1 => ?_)
  refine lv_aload_n hx hb dX5_init_9 rfl (lv_at hl 0 rfl) ?_
  refine lv_iload_n hx hb dX5_init_10 rfl (lv_at hl 2 rfl) ?_
  refine i_putF (ci := 5) (fs := [.int (nI a), .int 0, .null, .int 0]) (v := .int (nI b)) (ty := .int) n sh5 (upd (upd (fun _ => 0) 0 (nI a)) 1 (nI b)) (u1.a (by omega)) hx hb hts hinX5 tyX5 tyX5_ok nmX5 hown hE1 hw1 (by omega) (by rw [k1, x1]; rfl) rfl 1 (by decide) (hts _ (wz_in qF_X5_15)) rfl rfl hnm rfl (by decide +kernel) rfl rfl (Nat.le_of_ble_eq_true rfl) rfl dX5_init_11 (fun G2 M2 H locs u2 e2 k2 x2 hE2 hw2 => ?_)
  refine lv_aload_n hx hb dX5_init_14 rfl (lv_at hl 0 rfl) ?_
  refine lv_iconst (v := (nI 0)) hx hb dX5_init_15 (by decide) ?_
  refine lv_iload_n hx hb dX5_init_16 rfl (lv_at hl 1 rfl) ?_
  refine lv_iload_n hx hb dX5_init_17 rfl (lv_at hl 2 rfl) ?_
  refine lv_imul hx hb dX5_init_18 ?_
  refine va_mmax hx hb (hml.trans hl.1.symm) hown (hts _ (wz_in qM_X5_18)) (hts _ (wz_in qT_max)) (hts _ (wz_in qN_J9)) (hts _ (wz_in qC_max)) (Nat.le_of_ble_eq_true rfl) (Nat.le_of_ble_eq_true rfl) (Nat.zero_le _) (Nat.zero_le _) dX5_init_19 ?_
  refine W.eq (g2 := F0 m 22 ls [.int (nI (a * b)), .ref (gA G n)]) (by rw [pk_mul, n_lt (by decide) (by omega), if_pos h0]) ?_
  refine i_newa (atype := .int) (ty := .int) (a0 := (a * b, .inl (fun _ => 0))) (N' := a * b) 0 hx hb (hts _ (wz_in qA_int)) rfl (fun _ h9 => h9) rfl hE2 hw2 (aI G2 (a * b)) rfl (fun _ => rfl) (nI_pos (by omega)) (nI_clamp (by omega)) (Nat.le_trans (Nat.mul_le_mul_right _ (Nat.le_of_lt ha)) (by decide)) (Nat.le_refl _) (by show 0 + a * b ≤ a * b; omega) dX5_init_22 (fun G3 M3 H u3 e3 k3 x3 hE3 hw3 => ?_)
  have n2 : gN G2 = n + 1 := by omega
  rw [n2] at e3 k3 x3 ⊢
  refine i_putF (ci := 5) (fs := [.int (nI a), .int (nI b), .null, .int 0]) (v := .ref (gA G3 (n + 1))) (ty := .array .int) n (fun f => .inr (5, [.int (f 0), .int (f 1), .ref (gA G3 (n + 1)), .int (f 3)])) (upd (upd (fun _ => 0) 0 (nI a)) 1 (nI b)) ((u3.a (by omega)).trans ((u2.a (by omega)).trans (u1.a (by omega)))) hx hb hts hinX5 tyX5 tyX5_ok nmX5 hown hE3 hw3 (by omega) (by rw [u3.k (by omega) (fun z => z), u3.m (by omega) (fun z => z), k2, x2]; rfl) rfl 2 (by decide) (hts _ (wz_in qF_X5_24)) rfl rfl hnm rfl (by decide +kernel) rfl rfl (Nat.le_of_ble_eq_true rfl) rfl dX5_init_24 (fun G4 M4 H locs u4 e4 k4 x4 hE4 hw4 => ?_)
  have uu : Up (fun k => k = n) G M G4 M4 := ((u1.tr u2 (fun _ _ z => z)).tr u3 (fun _ _ z => z.elim)).tr u4 (fun _ _ z => z)
  refine i_vret (n := n) hx hb hr hlocks uu hE4 hw4 ⟨by omega, ⟨?_, ?_⟩, ?_, ?_⟩ dX5_init_27 (by omega) (by omega)
  · show gK G4 n = sX5 G4 n
    rw [k4]
    unfold sX5
    rw [u4.a (by omega)]
  · rw [u4.k (by omega) (by omega), k3]
    unfold aI
    rw [u4.1.2.2.1, u3.1.2.2.1]
  · rw [x4]
    rfl
  · rw [x4]
    rfl

set_option maxRecDepth 100000 in
set_option maxHeartbeats 4000000 in
theorem mX2_init (l : Launch) (G : mG) {M : mM} {n a b : Nat} (ha : a * b < 2 ^ 20) (h0 : 0 < a * b) (hal : a < 2 ^ 20) (ha0 : 0 < a) (hN : gN G = n + 1) (hk : gK G n = sh2) (hm : M n = fun _ => 0) : MI l G yX2_init (wz yX2_init cX2_init 3 none) 1 20 2 (a + a * b) [.ref (gA G n), .int (nI a), .int (nI b)] M n (fun G1 M1 => gN G1 = n + 3 ∧ isLin G1 n a (a * b) ∧ M1 n 0 = nI b) := by
  refine mi_of (cc := cX2_init) (maxL := 3) (by decide) rfl (Nat.le_of_ble_eq_true rfl) ?_
  intro p e s m args below meth c H ls hx hb hr hts hown hml hlocks hnm hE hO hw hl
  have hl : lv_has ls 3 [(0, .ref (gA G n)), (1, .int (nI a)), (2, .int (nI b))] := hl
  have hinX2 : ∀ w ∈ wsX20, w ∈ wz yX2_init cX2_init 3 none := fun w h9 => wz_in (zinX2 w h9)
  refine lv_aload_n hx hb dX2_init_0 rfl (lv_at hl 0 rfl) ?_
  refine W.objInit hx hb hown (hts _ (wz_in qM_X2_3)) (hts _ (wz_in qI_objinit)) (hts _ (wz_in qC_objinit)) rfl (by rw [hml]; exact hl.1) rfl dX2_init_1 (Nat.le_of_ble_eq_true rfl) (Nat.le_of_ble_eq_true rfl) ?_
  refine W.eq (g2 := F0 m 4 ls []) rfl ?_
  refine lv_aload_n hx hb dX2_init_4 rfl (lv_at hl 0 rfl) ?_
  refine lv_iload_n hx hb dX2_init_5 rfl (lv_at hl 2 rfl) ?_
  refine i_putF (ci := 2) (fs := [.int 0, .null, .null]) (v := .int (nI b)) (ty := .int) n sh2 (upd (fun _ => 0) 0 (nI b)) rfl hx hb hts hinX2 tyX2 tyX2_ok nmX2 hown hE hw (by omega) (by rw [hk, hm]; rfl) rfl 0 (by decide) (hts _ (wz_in qF_X2_9)) rfl rfl hnm rfl (by decide +kernel) rfl rfl (Nat.le_of_ble_eq_true rfl) rfl dX2_init_6 (fun G1 M1 H locs u1 e1 k1 x1 hE1 hw1 => ?_)
  refine lv_aload_n hx hb dX2_init_9 rfl (lv_at hl 0 rfl) ?_
  refine lv_iconst (v := (nI 0)) hx hb dX2_init_10 (by decide) ?_
  refine lv_iload_n hx hb dX2_init_11 rfl (lv_at hl 1 rfl) ?_
  refine va_mmax hx hb (hml.trans hl.1.symm) hown (hts _ (wz_in qM_X2_15)) (hts _ (wz_in qT_max)) (hts _ (wz_in qN_J9)) (hts _ (wz_in qC_max)) (Nat.le_of_ble_eq_true rfl) (Nat.le_of_ble_eq_true rfl) (Nat.zero_le _) (Nat.zero_le _) dX2_init_12 ?_
  refine W.eq (g2 := F0 m 15 ls [.int (nI a), .ref (gA G n)]) (by rw [n_lt (by decide) (by omega), if_pos ha0]) ?_
  refine i_newa (atype := .int) (ty := .int) (a0 := (a, .inl (fun _ => 0))) (N' := a) 0 hx hb (hts _ (wz_in qA_int)) rfl (fun _ h9 => h9) rfl hE1 hw1 (aI G1 a) rfl (fun _ => rfl) (nI_pos (by omega)) (nI_clamp (by omega)) (Nat.le_trans (Nat.mul_le_mul_right _ (Nat.le_of_lt hal)) (by decide)) (by show 0 + 1 ≤ 2; omega) (by show 0 + a ≤ a + a * b; omega) dX2_init_15 (fun G2 M2 H u2 e2 k2 x2 hE2 hw2 => ?_)
  have n1 : gN G1 = n + 1 := by omega
  rw [n1] at e2 k2 x2 ⊢
  refine i_putF (ci := 2) (fs := [.int (nI b), .null, .null]) (v := .ref (gA G2 (n + 1))) (ty := .array .int) n (fun f => .inr (2, [.int (f 0), .ref (gA G2 (n + 1)), .null])) (upd (fun _ => 0) 0 (nI b)) ((u2.a (by omega)).trans (u1.a (by omega))) hx hb hts hinX2 tyX2 tyX2_ok nmX2 hown hE2 hw2 (by omega) (by rw [u2.k (by omega) (fun z => z), u2.m (by omega) (fun z => z), k1, x1]; rfl) rfl 1 (by decide) (hts _ (wz_in qF_X2_21)) rfl rfl hnm rfl (by decide +kernel) rfl rfl (Nat.le_of_ble_eq_true rfl) rfl dX2_init_17 (fun G3 M3 H locs u3 e3 k3 x3 hE3 hw3 => ?_)
  refine lv_aload_n hx hb dX2_init_20 rfl (lv_at hl 0 rfl) ?_
  refine lv_iconst (v := (nI 0)) hx hb dX2_init_21 (by decide) ?_
  refine lv_iload_n hx hb dX2_init_22 rfl (lv_at hl 1 rfl) ?_
  refine lv_iload_n hx hb dX2_init_23 rfl (lv_at hl 2 rfl) ?_
  refine lv_imul hx hb dX2_init_24 ?_
  refine va_mmax hx hb (hml.trans hl.1.symm) hown (hts _ (wz_in qM_X2_15)) (hts _ (wz_in qT_max)) (hts _ (wz_in qN_J9)) (hts _ (wz_in qC_max)) (Nat.le_of_ble_eq_true rfl) (Nat.le_of_ble_eq_true rfl) (by show 0 + 1 ≤ 2; omega) (by show 0 + a ≤ a + a * b; omega) dX2_init_25 ?_
  refine W.eq (g2 := F0 m 28 ls [.int (nI (a * b)), .ref (gA G n)]) (by rw [pk_mul, n_lt (by decide) (by omega), if_pos h0]) ?_
  refine i_newa (atype := .int) (ty := .int) (a0 := (a * b, .inl (fun _ => 0))) (N' := a * b) 0 hx hb (hts _ (wz_in qA_int)) rfl (fun _ h9 => h9) rfl hE3 hw3 (aI G3 (a * b)) rfl (fun _ => rfl) (nI_pos (by omega)) (nI_clamp (by omega)) (Nat.le_trans (Nat.mul_le_mul_right _ (Nat.le_of_lt ha)) (by decide)) (by show 0 + 1 + 1 ≤ 2; omega) (by show 0 + a + a * b ≤ a + a * b; omega) dX2_init_28 (fun G4 M4 H u4 e4 k4 x4 hE4 hw4 => ?_)
  have n3 : gN G3 = n + 2 := by omega
  rw [n3] at e4 k4 x4 ⊢
  have q1 : gA G4 (n + 1) = gA G2 (n + 1) := (u4.a (by omega)).trans (u3.a (by omega))
  refine i_putF (ci := 2) (fs := [.int (nI b), .ref (gA G2 (n + 1)), .null]) (v := .ref (gA G4 (n + 2))) (ty := .array .int) n (fun f => .inr (2, [.int (f 0), .ref (gA G2 (n + 1)), .ref (gA G4 (n + 2))])) (upd (fun _ => 0) 0 (nI b)) ((u4.a (by omega)).trans ((u3.a (by omega)).trans ((u2.a (by omega)).trans (u1.a (by omega))))) hx hb hts hinX2 tyX2 tyX2_ok nmX2 hown hE4 hw4 (by omega) (by rw [u4.k (by omega) (fun z => z), u4.m (by omega) (fun z => z), k3, x3]; rfl) rfl 2 (by decide) (hts _ (wz_in qF_X2_25)) rfl rfl hnm rfl (by decide +kernel) rfl rfl (Nat.le_of_ble_eq_true rfl) rfl dX2_init_30 (fun G5 M5 H locs u5 e5 k5 x5 hE5 hw5 => ?_)
  have uu : Up (fun k => k = n) G M G5 M5 := (((u1.tr u2 (fun _ _ z => z.elim)).tr u3 (fun _ _ z => z)).tr u4 (fun _ _ z => z.elim)).tr u5 (fun _ _ z => z)
  refine i_vret (n := n) hx hb hr hlocks uu hE5 hw5 ⟨by omega, ⟨?_, ?_, ?_⟩, ?_⟩ dX2_init_33 (by omega) (by omega)
  · show gK G5 n = sX2 G5 n
    rw [k5]
    unfold sX2
    rw [u5.a (by omega), u5.a (by omega), q1]
  · rw [u5.k (by omega) (by omega), u4.k (by omega) (fun z => z), u3.k (by omega) (by omega), k2]
    unfold aI
    rw [u5.1.2.2.1, u4.1.2.2.1, u3.1.2.2.1, u2.1.2.2.1]
  · rw [u5.k (by omega) (by omega), k4]
    unfold aI
    rw [u5.1.2.2.1, u4.1.2.2.1]
  · rw [x5]
    rfl

def sh1 : mS := fun f => .inr (1, [.null, .int (f 1), .int (f 2), .int (f 3)])
set_option maxRecDepth 100000 in
set_option maxHeartbeats 4000000 in
theorem mX1_init (l : Launch) (G : mG) {M : mM} {n : Nat} (hN : gN G = n + 1) (hk : gK G n = sh1) (hm : M n = fun _ => 0) : MI l G yX1_init (wz yX1_init cX1_init 1 none) 1 20 1 140 [.ref (gA G n)] M n (fun G1 M1 => gN G1 = n + 2 ∧ gK G1 n = sX1 G1 n ∧ gK G1 (n + 1) = aC G1 140 ∧ M1 n = fun _ => 0) := by
  refine mi_of (cc := cX1_init) (maxL := 1) (by decide) rfl (Nat.le_of_ble_eq_true rfl) ?_
  intro p e s m args below meth c H ls hx hb hr hts hown hml hlocks hnm hE hO hw hl
  have hl : lv_has ls 1 [(0, .ref (gA G n))] := hl
  have hinX1 : ∀ w ∈ wsX10, w ∈ wz yX1_init cX1_init 1 none := fun w h9 => wz_in (zinX1 w h9)
  refine lv_aload_n hx hb dX1_init_0 rfl (lv_at hl 0 rfl) ?_
  refine W.objInit hx hb hown (hts _ (wz_in qM_X1_3)) (hts _ (wz_in qI_objinit)) (hts _ (wz_in qC_objinit)) rfl (by rw [hml]; exact hl.1) rfl dX1_init_1 (Nat.le_of_ble_eq_true rfl) (Nat.le_of_ble_eq_true rfl) ?_
  refine W.eq (g2 := F0 m 4 ls []) rfl ?_
  refine lv_aload_n hx hb dX1_init_4 rfl (lv_at hl 0 rfl) ?_
  refine lv_sipush (v := (nI 140)) hx hb dX1_init_5 (by decide) ?_
  refine i_newa (atype := .char) (ty := .char) (a0 := (140, .inl (fun _ => 0))) (N' := 140) 2 hx hb (hts _ (wz_in qA_char)) rfl (fun _ h9 => h9) rfl hE hw (aC G 140) rfl (fun _ => rfl) (by decide) (by decide) (by decide) (Nat.le_refl _) (Nat.le_refl _) dX1_init_8 (fun G1 M1 H u1 e1 k1 x1 hE1 hw1 => ?_)
  rw [hN] at e1 k1 x1 ⊢
  refine i_putF (ci := 1) (fs := [.null, .int 0, .int 0, .int 0]) (v := .ref (gA G1 (n + 1))) (ty := .array .char) n (fun f => .inr (1, [.ref (gA G1 (n + 1)), .int (f 1), .int (f 2), .int (f 3)])) (fun _ => 0) (u1.a (by omega)) hx hb hts hinX1 tyX1 tyX1_ok nmX1 hown hE1 hw1 (by omega) (by rw [u1.k (by omega) (fun z => z), u1.m (by omega) (fun z => z), hk, hm]; rfl) rfl 0 (by decide) (hts _ (wz_in qF_X1_9)) rfl rfl hnm rfl (by decide +kernel) rfl rfl (Nat.le_of_ble_eq_true rfl) rfl dX1_init_10 (fun G2 M2 H locs u2 e2 k2 x2 hE2 hw2 => ?_)
  have uu : Up (fun k => k = n) G M G2 M2 := (u1.sub (fun _ _ z => z.elim)).tr u2 (fun _ _ z => z)
  refine i_vret (n := n) hx hb hr hlocks uu hE2 hw2 ⟨by omega, ?_, ?_, x2⟩ dX1_init_13 (by omega) (by omega)
  · rw [k2]
    unfold sX1
    rw [u2.a (by omega)]
  · rw [u2.k (by omega) (by omega), k1]
    unfold aC
    rw [u2.1.2.2.1, u1.1.2.2.1]

set_option maxRecDepth 100000 in
set_option maxHeartbeats 4000000 in
theorem mX4_init (l : Launch) (G : mG) {M : mM} {n : Nat} (hN : gN G = n + 1) (hk : gK G n = sh4 .null .null .null .null .null .null .null) (hm : M n = fun _ => 0) : MI l G yX4_init (wz yX4_init cX4_init 1 none) 2 50 16 268 [.ref (gA G n)] M n (fun G1 M1 => gN G1 = n + 17 ∧ newSt G1 M1 n) := by
  refine mi_of (cc := cX4_init) (maxL := 1) (by decide) rfl (Nat.le_of_ble_eq_true rfl) ?_
  intro p e s m args below meth c H ls hx hb hr hts hown hml hlocks hnm hE hO hw hl
  have hl : lv_has ls 1 [(0, .ref (gA G n))] := hl
  have hinX4 : ∀ w ∈ wsX40, w ∈ wz yX4_init cX4_init 1 none := fun w h9 => wz_in (zinX4 w h9)
  have hinX5 : ∀ w ∈ wsX50, w ∈ wz yX4_init cX4_init 1 none := fun w h9 => wz_in (zinX5 w h9)
  have hinX2 : ∀ w ∈ wsX20, w ∈ wz yX4_init cX4_init 1 none := fun w h9 => wz_in (zinX2 w h9)
  refine lv_aload_n hx hb dX4_init_0 rfl (lv_at hl 0 rfl) ?_
  refine W.objInit hx hb hown (hts _ (wz_in qM_X4_3)) (hts _ (wz_in qI_objinit)) (hts _ (wz_in qC_objinit)) rfl (by rw [hml]; exact hl.1) rfl dX4_init_1 (Nat.le_of_ble_eq_true rfl) (Nat.le_of_ble_eq_true rfl) ?_
  refine W.eq (g2 := F0 m 4 ls []) rfl ?_
  have U0 : Up (fun k => k = n) G M G M := Up.rf
  have hA0 : gA G n = gA G n := rfl
  have hN0 : gN G = n + 1 := hN
  refine lv_aload_n hx hb dX4_init_4 rfl (lv_at hl 0 rfl) ?_
  refine i_new (ci := 5) (fs := [.int 0, .int 0, .null, .int 0]) hx hb hts hinX5 tyX5 tyX5_ok hown (hts _ (wz_in qL_X4_9)) (hts _ (wz_in qB_X5)) (hts _ (wz_in qN_X5)) hE hw rfl sh5 rfl (fun j hj => by rcases (show j = 0 ∨ j = 1 ∨ j = 2 ∨ j = 3 by omega) with rfl | rfl | rfl | rfl <;> rfl) (by show 0 + 1 ≤ 16; omega) (by show 0 + 4 ≤ 268; omega) dX4_init_5 (fun G1a M1a H uA1 eA1 kA1 xA1 hEA1 hwA1 => ?_)
  rw [hN0] at eA1 kA1 xA1 ⊢
  refine lv_dup hx hb dX4_init_8 rfl ?_
  refine lv_iconst (v := (nI 4)) hx hb dX4_init_9 (by decide) ?_
  refine lv_iconst (v := (nI 4)) hx hb dX4_init_10 (by decide) ?_
  refine i_call (n := n + 1) (As := [.int (nI 4), .int (nI 4)]) (rest := [.ref (gA G1a (n + 1)), .ref (gA G n)]) hx hb hml hown hts hEA1 hO hwA1 hl (mX5_init l G1a (a := 4) (b := 4) (by decide) (by decide) eA1 kA1 xA1) (cwI 2 hts (zN qC_X5_init) rfl rfl rfl (hts _ (wz_in qN_X5)) (hts _ (wz_in qM_X4_11)) (hts _ (wz_in qI_X5_init)) rfl kdX5_init ⟨(Nat.le_of_ble_eq_true rfl), (Nat.le_of_ble_eq_true rfl)⟩) rfl rfl (Nat.le_of_ble_eq_true rfl) dX4_init_11 ⟨(by show 1 + 1 ≤ 16; omega), (by show 4 + 16 ≤ 268; omega)⟩ (fun G1b M1b H locs uB1 pB1 hEB1 hwB1 => ?_)
  obtain ⟨nB1, p1_0, p1_1, p1_2⟩ := pB1
  refine i_putF (ci := 4) (fs := [.null, .null, .null, .null, .null, .null, .null, .int 0, .int 0, .int 0, .int 0, .int 0]) (v := .ref (gA G1a (n + 1))) (ty := (.object "WinterRoad$Table")) n (sh4 (.ref (gA G1a (n + 1))) (.null) (.null) (.null) (.null) (.null) (.null)) (fun _ => 0) ((uB1.a (by omega)).trans ((uA1.a (by omega)).trans hA0)) hx hb hts hinX4 tyX4 tyX4_ok nmX4 hown hEB1 hwB1 (by omega) (by rw [uB1.k (by omega) (by omega), uB1.m (by omega) (by omega), uA1.k (by omega) (fun z => z), uA1.m (by omega) (fun z => z), hk, hm]; rfl) rfl 0 (by decide) (hts _ (wz_in qF_X4_14)) rfl rfl hnm rfl (by decide +kernel) rfl rfl (Nat.le_of_ble_eq_true rfl) rfl dX4_init_14 (fun G1 M1 H locs u1 e1 k1 x1 hE1 hw1 => ?_)
  have V1 : Up (fun k => k = n) G M G1 M1 := ((uA1.sub (fun _ _ z => z.elim)).tr uB1 (fun q hq z => absurd (show q = n + 1 from z) (by omega))).tr u1 (fun _ _ z => z)
  have U1 : Up (fun k => k = n) G M G1 M1 := U0.tr V1 (fun _ _ z => z)
  have hN1 : gN G1 = n + 3 := by omega
  have hA1 : gA G1 n = gA G n := (V1.a (by omega)).trans hA0
  have f1a_1 : isTab G1 (n + 1) 16 := p1_0.up u1 (by omega) (fun q hq => by omega)
  have f1b_1 : M1 (n + 1) 0 = nI 4 := by rw [u1.m (by omega) (by omega)]; exact p1_1
  have f1c_1 : M1 (n + 1) 1 = nI 4 := by rw [u1.m (by omega) (by omega)]; exact p1_2
  have q1_1 : gA G1 (n + 1) = gA G1a (n + 1) := (u1.a (by omega)).trans (uB1.a (by omega))
  clear uA1 eA1 kA1 xA1 hEA1 hwA1 uB1 nB1 hEB1 hwB1 u1 e1 V1 U0 hN0 hA0 hE hw p1_0 p1_1 p1_2 hk hm
  refine lv_aload_n hx hb dX4_init_17 rfl (lv_at hl 0 rfl) ?_
  refine i_new (ci := 5) (fs := [.int 0, .int 0, .null, .int 0]) hx hb hts hinX5 tyX5 tyX5_ok hown (hts _ (wz_in qL_X4_9)) (hts _ (wz_in qB_X5)) (hts _ (wz_in qN_X5)) hE1 hw1 rfl sh5 rfl (fun j hj => by rcases (show j = 0 ∨ j = 1 ∨ j = 2 ∨ j = 3 by omega) with rfl | rfl | rfl | rfl <;> rfl) (by show 2 + 1 ≤ 16; omega) (by show 20 + 4 ≤ 268; omega) dX4_init_18 (fun G2a M2a H uA2 eA2 kA2 xA2 hEA2 hwA2 => ?_)
  rw [hN1] at eA2 kA2 xA2 ⊢
  refine lv_dup hx hb dX4_init_21 rfl ?_
  refine lv_bipush (v := (nI 6)) hx hb dX4_init_22 (by decide) ?_
  refine lv_iconst (v := (nI 2)) hx hb dX4_init_24 (by decide) ?_
  refine i_call (n := n + 3) (As := [.int (nI 6), .int (nI 2)]) (rest := [.ref (gA G2a (n + 3)), .ref (gA G n)]) hx hb hml hown hts hEA2 hO hwA2 hl (mX5_init l G2a (a := 6) (b := 2) (by decide) (by decide) eA2 kA2 xA2) (cwI 2 hts (zN qC_X5_init) rfl rfl rfl (hts _ (wz_in qN_X5)) (hts _ (wz_in qM_X4_11)) (hts _ (wz_in qI_X5_init)) rfl kdX5_init ⟨(Nat.le_of_ble_eq_true rfl), (Nat.le_of_ble_eq_true rfl)⟩) rfl rfl (Nat.le_of_ble_eq_true rfl) dX4_init_25 ⟨(by show 3 + 1 ≤ 16; omega), (by show 24 + 12 ≤ 268; omega)⟩ (fun G2b M2b H locs uB2 pB2 hEB2 hwB2 => ?_)
  obtain ⟨nB2, p2_0, p2_1, p2_2⟩ := pB2
  refine i_putF (ci := 4) (fs := [.ref (gA G1a (n + 1)), .null, .null, .null, .null, .null, .null, .int 0, .int 0, .int 0, .int 0, .int 0]) (v := .ref (gA G2a (n + 3))) (ty := (.object "WinterRoad$Table")) n (sh4 (.ref (gA G1a (n + 1))) (.ref (gA G2a (n + 3))) (.null) (.null) (.null) (.null) (.null)) (fun _ => 0) ((uB2.a (by omega)).trans ((uA2.a (by omega)).trans hA1)) hx hb hts hinX4 tyX4 tyX4_ok nmX4 hown hEB2 hwB2 (by omega) (by rw [uB2.k (by omega) (by omega), uB2.m (by omega) (by omega), uA2.k (by omega) (fun z => z), uA2.m (by omega) (fun z => z), k1, x1]; rfl) rfl 1 (by decide) (hts _ (wz_in qF_X4_20)) rfl rfl hnm rfl (by decide +kernel) rfl rfl (Nat.le_of_ble_eq_true rfl) rfl dX4_init_28 (fun G2 M2 H locs u2 e2 k2 x2 hE2 hw2 => ?_)
  have V2 : Up (fun k => k = n) G1 M1 G2 M2 := ((uA2.sub (fun _ _ z => z.elim)).tr uB2 (fun q hq z => absurd (show q = n + 3 from z) (by omega))).tr u2 (fun _ _ z => z)
  have U2 : Up (fun k => k = n) G M G2 M2 := U1.tr V2 (fun _ _ z => z)
  have hN2 : gN G2 = n + 5 := by omega
  have hA2 : gA G2 n = gA G n := (V2.a (by omega)).trans hA1
  have f1a_2 : isTab G2 (n + 1) 16 := f1a_1.up V2 (by omega) (fun q hq => by omega)
  have f1b_2 : M2 (n + 1) 0 = nI 4 := by rw [V2.m (by omega) (by omega)]; exact f1b_1
  have f1c_2 : M2 (n + 1) 1 = nI 4 := by rw [V2.m (by omega) (by omega)]; exact f1c_1
  have q1_2 : gA G2 (n + 1) = gA G1a (n + 1) := (V2.a (by omega)).trans q1_1
  have f3a_2 : isTab G2 (n + 3) 12 := p2_0.up u2 (by omega) (fun q hq => by omega)
  have f3b_2 : M2 (n + 3) 0 = nI 6 := by rw [u2.m (by omega) (by omega)]; exact p2_1
  have f3c_2 : M2 (n + 3) 1 = nI 2 := by rw [u2.m (by omega) (by omega)]; exact p2_2
  have q3_2 : gA G2 (n + 3) = gA G2a (n + 3) := (u2.a (by omega)).trans (uB2.a (by omega))
  clear uA2 eA2 kA2 xA2 hEA2 hwA2 uB2 nB2 hEB2 hwB2 u2 e2 V2 U1 hN1 hA1 hE1 hw1 p2_0 p2_1 p2_2 k1 x1 f1a_1 f1b_1 f1c_1 q1_1
  refine lv_aload_n hx hb dX4_init_31 rfl (lv_at hl 0 rfl) ?_
  refine i_new (ci := 5) (fs := [.int 0, .int 0, .null, .int 0]) hx hb hts hinX5 tyX5 tyX5_ok hown (hts _ (wz_in qL_X4_9)) (hts _ (wz_in qB_X5)) (hts _ (wz_in qN_X5)) hE2 hw2 rfl sh5 rfl (fun j hj => by rcases (show j = 0 ∨ j = 1 ∨ j = 2 ∨ j = 3 by omega) with rfl | rfl | rfl | rfl <;> rfl) (by show 4 + 1 ≤ 16; omega) (by show 36 + 4 ≤ 268; omega) dX4_init_32 (fun G3a M3a H uA3 eA3 kA3 xA3 hEA3 hwA3 => ?_)
  rw [hN2] at eA3 kA3 xA3 ⊢
  refine lv_dup hx hb dX4_init_35 rfl ?_
  refine lv_iconst (v := (nI 4)) hx hb dX4_init_36 (by decide) ?_
  refine lv_iconst (v := (nI 2)) hx hb dX4_init_37 (by decide) ?_
  refine i_call (n := n + 5) (As := [.int (nI 4), .int (nI 2)]) (rest := [.ref (gA G3a (n + 5)), .ref (gA G n)]) hx hb hml hown hts hEA3 hO hwA3 hl (mX5_init l G3a (a := 4) (b := 2) (by decide) (by decide) eA3 kA3 xA3) (cwI 2 hts (zN qC_X5_init) rfl rfl rfl (hts _ (wz_in qN_X5)) (hts _ (wz_in qM_X4_11)) (hts _ (wz_in qI_X5_init)) rfl kdX5_init ⟨(Nat.le_of_ble_eq_true rfl), (Nat.le_of_ble_eq_true rfl)⟩) rfl rfl (Nat.le_of_ble_eq_true rfl) dX4_init_38 ⟨(by show 5 + 1 ≤ 16; omega), (by show 40 + 8 ≤ 268; omega)⟩ (fun G3b M3b H locs uB3 pB3 hEB3 hwB3 => ?_)
  obtain ⟨nB3, p3_0, p3_1, p3_2⟩ := pB3
  refine i_putF (ci := 4) (fs := [.ref (gA G1a (n + 1)), .ref (gA G2a (n + 3)), .null, .null, .null, .null, .null, .int 0, .int 0, .int 0, .int 0, .int 0]) (v := .ref (gA G3a (n + 5))) (ty := (.object "WinterRoad$Table")) n (sh4 (.ref (gA G1a (n + 1))) (.ref (gA G2a (n + 3))) (.ref (gA G3a (n + 5))) (.null) (.null) (.null) (.null)) (fun _ => 0) ((uB3.a (by omega)).trans ((uA3.a (by omega)).trans hA2)) hx hb hts hinX4 tyX4 tyX4_ok nmX4 hown hEB3 hwB3 (by omega) (by rw [uB3.k (by omega) (by omega), uB3.m (by omega) (by omega), uA3.k (by omega) (fun z => z), uA3.m (by omega) (fun z => z), k2, x2]; rfl) rfl 2 (by decide) (hts _ (wz_in qF_X4_23)) rfl rfl hnm rfl (by decide +kernel) rfl rfl (Nat.le_of_ble_eq_true rfl) rfl dX4_init_41 (fun G3 M3 H locs u3 e3 k3 x3 hE3 hw3 => ?_)
  have V3 : Up (fun k => k = n) G2 M2 G3 M3 := ((uA3.sub (fun _ _ z => z.elim)).tr uB3 (fun q hq z => absurd (show q = n + 5 from z) (by omega))).tr u3 (fun _ _ z => z)
  have U3 : Up (fun k => k = n) G M G3 M3 := U2.tr V3 (fun _ _ z => z)
  have hN3 : gN G3 = n + 7 := by omega
  have hA3 : gA G3 n = gA G n := (V3.a (by omega)).trans hA2
  have f1a_3 : isTab G3 (n + 1) 16 := f1a_2.up V3 (by omega) (fun q hq => by omega)
  have f1b_3 : M3 (n + 1) 0 = nI 4 := by rw [V3.m (by omega) (by omega)]; exact f1b_2
  have f1c_3 : M3 (n + 1) 1 = nI 4 := by rw [V3.m (by omega) (by omega)]; exact f1c_2
  have q1_3 : gA G3 (n + 1) = gA G1a (n + 1) := (V3.a (by omega)).trans q1_2
  have f3a_3 : isTab G3 (n + 3) 12 := f3a_2.up V3 (by omega) (fun q hq => by omega)
  have f3b_3 : M3 (n + 3) 0 = nI 6 := by rw [V3.m (by omega) (by omega)]; exact f3b_2
  have f3c_3 : M3 (n + 3) 1 = nI 2 := by rw [V3.m (by omega) (by omega)]; exact f3c_2
  have q3_3 : gA G3 (n + 3) = gA G2a (n + 3) := (V3.a (by omega)).trans q3_2
  have f5a_3 : isTab G3 (n + 5) 8 := p3_0.up u3 (by omega) (fun q hq => by omega)
  have f5b_3 : M3 (n + 5) 0 = nI 4 := by rw [u3.m (by omega) (by omega)]; exact p3_1
  have f5c_3 : M3 (n + 5) 1 = nI 2 := by rw [u3.m (by omega) (by omega)]; exact p3_2
  have q5_3 : gA G3 (n + 5) = gA G3a (n + 5) := (u3.a (by omega)).trans (uB3.a (by omega))
  clear uA3 eA3 kA3 xA3 hEA3 hwA3 uB3 nB3 hEB3 hwB3 u3 e3 V3 U2 hN2 hA2 hE2 hw2 p3_0 p3_1 p3_2 k2 x2 f1a_2 f1b_2 f1c_2 q1_2 f3a_2 f3b_2 f3c_2 q3_2
  refine lv_aload_n hx hb dX4_init_44 rfl (lv_at hl 0 rfl) ?_
  refine i_new (ci := 5) (fs := [.int 0, .int 0, .null, .int 0]) hx hb hts hinX5 tyX5 tyX5_ok hown (hts _ (wz_in qL_X4_9)) (hts _ (wz_in qB_X5)) (hts _ (wz_in qN_X5)) hE3 hw3 rfl sh5 rfl (fun j hj => by rcases (show j = 0 ∨ j = 1 ∨ j = 2 ∨ j = 3 by omega) with rfl | rfl | rfl | rfl <;> rfl) (by show 6 + 1 ≤ 16; omega) (by show 48 + 4 ≤ 268; omega) dX4_init_45 (fun G4a M4a H uA4 eA4 kA4 xA4 hEA4 hwA4 => ?_)
  rw [hN3] at eA4 kA4 xA4 ⊢
  refine lv_dup hx hb dX4_init_48 rfl ?_
  refine lv_iconst (v := (nI 4)) hx hb dX4_init_49 (by decide) ?_
  refine lv_iconst (v := (nI 4)) hx hb dX4_init_50 (by decide) ?_
  refine i_call (n := n + 7) (As := [.int (nI 4), .int (nI 4)]) (rest := [.ref (gA G4a (n + 7)), .ref (gA G n)]) hx hb hml hown hts hEA4 hO hwA4 hl (mX5_init l G4a (a := 4) (b := 4) (by decide) (by decide) eA4 kA4 xA4) (cwI 2 hts (zN qC_X5_init) rfl rfl rfl (hts _ (wz_in qN_X5)) (hts _ (wz_in qM_X4_11)) (hts _ (wz_in qI_X5_init)) rfl kdX5_init ⟨(Nat.le_of_ble_eq_true rfl), (Nat.le_of_ble_eq_true rfl)⟩) rfl rfl (Nat.le_of_ble_eq_true rfl) dX4_init_51 ⟨(by show 7 + 1 ≤ 16; omega), (by show 52 + 16 ≤ 268; omega)⟩ (fun G4b M4b H locs uB4 pB4 hEB4 hwB4 => ?_)
  obtain ⟨nB4, p4_0, p4_1, p4_2⟩ := pB4
  refine i_putF (ci := 4) (fs := [.ref (gA G1a (n + 1)), .ref (gA G2a (n + 3)), .ref (gA G3a (n + 5)), .null, .null, .null, .null, .int 0, .int 0, .int 0, .int 0, .int 0]) (v := .ref (gA G4a (n + 7))) (ty := (.object "WinterRoad$Table")) n (sh4 (.ref (gA G1a (n + 1))) (.ref (gA G2a (n + 3))) (.ref (gA G3a (n + 5))) (.ref (gA G4a (n + 7))) (.null) (.null) (.null)) (fun _ => 0) ((uB4.a (by omega)).trans ((uA4.a (by omega)).trans hA3)) hx hb hts hinX4 tyX4 tyX4_ok nmX4 hown hEB4 hwB4 (by omega) (by rw [uB4.k (by omega) (by omega), uB4.m (by omega) (by omega), uA4.k (by omega) (fun z => z), uA4.m (by omega) (fun z => z), k3, x3]; rfl) rfl 3 (by decide) (hts _ (wz_in qF_X4_26)) rfl rfl hnm rfl (by decide +kernel) rfl rfl (Nat.le_of_ble_eq_true rfl) rfl dX4_init_54 (fun G4 M4 H locs u4 e4 k4 x4 hE4 hw4 => ?_)
  have V4 : Up (fun k => k = n) G3 M3 G4 M4 := ((uA4.sub (fun _ _ z => z.elim)).tr uB4 (fun q hq z => absurd (show q = n + 7 from z) (by omega))).tr u4 (fun _ _ z => z)
  have U4 : Up (fun k => k = n) G M G4 M4 := U3.tr V4 (fun _ _ z => z)
  have hN4 : gN G4 = n + 9 := by omega
  have hA4 : gA G4 n = gA G n := (V4.a (by omega)).trans hA3
  have f1a_4 : isTab G4 (n + 1) 16 := f1a_3.up V4 (by omega) (fun q hq => by omega)
  have f1b_4 : M4 (n + 1) 0 = nI 4 := by rw [V4.m (by omega) (by omega)]; exact f1b_3
  have f1c_4 : M4 (n + 1) 1 = nI 4 := by rw [V4.m (by omega) (by omega)]; exact f1c_3
  have q1_4 : gA G4 (n + 1) = gA G1a (n + 1) := (V4.a (by omega)).trans q1_3
  have f3a_4 : isTab G4 (n + 3) 12 := f3a_3.up V4 (by omega) (fun q hq => by omega)
  have f3b_4 : M4 (n + 3) 0 = nI 6 := by rw [V4.m (by omega) (by omega)]; exact f3b_3
  have f3c_4 : M4 (n + 3) 1 = nI 2 := by rw [V4.m (by omega) (by omega)]; exact f3c_3
  have q3_4 : gA G4 (n + 3) = gA G2a (n + 3) := (V4.a (by omega)).trans q3_3
  have f5a_4 : isTab G4 (n + 5) 8 := f5a_3.up V4 (by omega) (fun q hq => by omega)
  have f5b_4 : M4 (n + 5) 0 = nI 4 := by rw [V4.m (by omega) (by omega)]; exact f5b_3
  have f5c_4 : M4 (n + 5) 1 = nI 2 := by rw [V4.m (by omega) (by omega)]; exact f5c_3
  have q5_4 : gA G4 (n + 5) = gA G3a (n + 5) := (V4.a (by omega)).trans q5_3
  have f7a_4 : isTab G4 (n + 7) 16 := p4_0.up u4 (by omega) (fun q hq => by omega)
  have f7b_4 : M4 (n + 7) 0 = nI 4 := by rw [u4.m (by omega) (by omega)]; exact p4_1
  have f7c_4 : M4 (n + 7) 1 = nI 4 := by rw [u4.m (by omega) (by omega)]; exact p4_2
  have q7_4 : gA G4 (n + 7) = gA G4a (n + 7) := (u4.a (by omega)).trans (uB4.a (by omega))
  clear uA4 eA4 kA4 xA4 hEA4 hwA4 uB4 nB4 hEB4 hwB4 u4 e4 V4 U3 hN3 hA3 hE3 hw3 p4_0 p4_1 p4_2 k3 x3 f1a_3 f1b_3 f1c_3 q1_3 f3a_3 f3b_3 f3c_3 q3_3 f5a_3 f5b_3 f5c_3 q5_3
  refine lv_aload_n hx hb dX4_init_57 rfl (lv_at hl 0 rfl) ?_
  refine i_new (ci := 5) (fs := [.int 0, .int 0, .null, .int 0]) hx hb hts hinX5 tyX5 tyX5_ok hown (hts _ (wz_in qL_X4_9)) (hts _ (wz_in qB_X5)) (hts _ (wz_in qN_X5)) hE4 hw4 rfl sh5 rfl (fun j hj => by rcases (show j = 0 ∨ j = 1 ∨ j = 2 ∨ j = 3 by omega) with rfl | rfl | rfl | rfl <;> rfl) (by show 8 + 1 ≤ 16; omega) (by show 68 + 4 ≤ 268; omega) dX4_init_58 (fun G5a M5a H uA5 eA5 kA5 xA5 hEA5 hwA5 => ?_)
  rw [hN4] at eA5 kA5 xA5 ⊢
  refine lv_dup hx hb dX4_init_61 rfl ?_
  refine lv_bipush (v := (nI 16)) hx hb dX4_init_62 (by decide) ?_
  refine lv_bipush (v := (nI 7)) hx hb dX4_init_64 (by decide) ?_
  refine i_call (n := n + 9) (As := [.int (nI 16), .int (nI 7)]) (rest := [.ref (gA G5a (n + 9)), .ref (gA G n)]) hx hb hml hown hts hEA5 hO hwA5 hl (mX5_init l G5a (a := 16) (b := 7) (by decide) (by decide) eA5 kA5 xA5) (cwI 2 hts (zN qC_X5_init) rfl rfl rfl (hts _ (wz_in qN_X5)) (hts _ (wz_in qM_X4_11)) (hts _ (wz_in qI_X5_init)) rfl kdX5_init ⟨(Nat.le_of_ble_eq_true rfl), (Nat.le_of_ble_eq_true rfl)⟩) rfl rfl (Nat.le_of_ble_eq_true rfl) dX4_init_66 ⟨(by show 9 + 1 ≤ 16; omega), (by show 72 + 112 ≤ 268; omega)⟩ (fun G5b M5b H locs uB5 pB5 hEB5 hwB5 => ?_)
  obtain ⟨nB5, p5_0, p5_1, p5_2⟩ := pB5
  refine i_putF (ci := 4) (fs := [.ref (gA G1a (n + 1)), .ref (gA G2a (n + 3)), .ref (gA G3a (n + 5)), .ref (gA G4a (n + 7)), .null, .null, .null, .int 0, .int 0, .int 0, .int 0, .int 0]) (v := .ref (gA G5a (n + 9))) (ty := (.object "WinterRoad$Table")) n (sh4 (.ref (gA G1a (n + 1))) (.ref (gA G2a (n + 3))) (.ref (gA G3a (n + 5))) (.ref (gA G4a (n + 7))) (.ref (gA G5a (n + 9))) (.null) (.null)) (fun _ => 0) ((uB5.a (by omega)).trans ((uA5.a (by omega)).trans hA4)) hx hb hts hinX4 tyX4 tyX4_ok nmX4 hown hEB5 hwB5 (by omega) (by rw [uB5.k (by omega) (by omega), uB5.m (by omega) (by omega), uA5.k (by omega) (fun z => z), uA5.m (by omega) (fun z => z), k4, x4]; rfl) rfl 4 (by decide) (hts _ (wz_in qF_X4_29)) rfl rfl hnm rfl (by decide +kernel) rfl rfl (Nat.le_of_ble_eq_true rfl) rfl dX4_init_69 (fun G5 M5 H locs u5 e5 k5 x5 hE5 hw5 => ?_)
  have V5 : Up (fun k => k = n) G4 M4 G5 M5 := ((uA5.sub (fun _ _ z => z.elim)).tr uB5 (fun q hq z => absurd (show q = n + 9 from z) (by omega))).tr u5 (fun _ _ z => z)
  have U5 : Up (fun k => k = n) G M G5 M5 := U4.tr V5 (fun _ _ z => z)
  have hN5 : gN G5 = n + 11 := by omega
  have hA5 : gA G5 n = gA G n := (V5.a (by omega)).trans hA4
  have f1a_5 : isTab G5 (n + 1) 16 := f1a_4.up V5 (by omega) (fun q hq => by omega)
  have f1b_5 : M5 (n + 1) 0 = nI 4 := by rw [V5.m (by omega) (by omega)]; exact f1b_4
  have f1c_5 : M5 (n + 1) 1 = nI 4 := by rw [V5.m (by omega) (by omega)]; exact f1c_4
  have q1_5 : gA G5 (n + 1) = gA G1a (n + 1) := (V5.a (by omega)).trans q1_4
  have f3a_5 : isTab G5 (n + 3) 12 := f3a_4.up V5 (by omega) (fun q hq => by omega)
  have f3b_5 : M5 (n + 3) 0 = nI 6 := by rw [V5.m (by omega) (by omega)]; exact f3b_4
  have f3c_5 : M5 (n + 3) 1 = nI 2 := by rw [V5.m (by omega) (by omega)]; exact f3c_4
  have q3_5 : gA G5 (n + 3) = gA G2a (n + 3) := (V5.a (by omega)).trans q3_4
  have f5a_5 : isTab G5 (n + 5) 8 := f5a_4.up V5 (by omega) (fun q hq => by omega)
  have f5b_5 : M5 (n + 5) 0 = nI 4 := by rw [V5.m (by omega) (by omega)]; exact f5b_4
  have f5c_5 : M5 (n + 5) 1 = nI 2 := by rw [V5.m (by omega) (by omega)]; exact f5c_4
  have q5_5 : gA G5 (n + 5) = gA G3a (n + 5) := (V5.a (by omega)).trans q5_4
  have f7a_5 : isTab G5 (n + 7) 16 := f7a_4.up V5 (by omega) (fun q hq => by omega)
  have f7b_5 : M5 (n + 7) 0 = nI 4 := by rw [V5.m (by omega) (by omega)]; exact f7b_4
  have f7c_5 : M5 (n + 7) 1 = nI 4 := by rw [V5.m (by omega) (by omega)]; exact f7c_4
  have q7_5 : gA G5 (n + 7) = gA G4a (n + 7) := (V5.a (by omega)).trans q7_4
  have f9a_5 : isTab G5 (n + 9) 112 := p5_0.up u5 (by omega) (fun q hq => by omega)
  have f9b_5 : M5 (n + 9) 0 = nI 16 := by rw [u5.m (by omega) (by omega)]; exact p5_1
  have f9c_5 : M5 (n + 9) 1 = nI 7 := by rw [u5.m (by omega) (by omega)]; exact p5_2
  have q9_5 : gA G5 (n + 9) = gA G5a (n + 9) := (u5.a (by omega)).trans (uB5.a (by omega))
  clear uA5 eA5 kA5 xA5 hEA5 hwA5 uB5 nB5 hEB5 hwB5 u5 e5 V5 U4 hN4 hA4 hE4 hw4 p5_0 p5_1 p5_2 k4 x4 f1a_4 f1b_4 f1c_4 q1_4 f3a_4 f3b_4 f3c_4 q3_4 f5a_4 f5b_4 f5c_4 q5_4 f7a_4 f7b_4 f7c_4 q7_4
  refine lv_aload_n hx hb dX4_init_72 rfl (lv_at hl 0 rfl) ?_
  refine i_new (ci := 2) (fs := [.int 0, .null, .null]) hx hb hts hinX2 tyX2 tyX2_ok hown (hts _ (wz_in qL_X4_32)) (hts _ (wz_in qB_X2)) (hts _ (wz_in qN_X2)) hE5 hw5 rfl sh2 rfl (fun j hj => by rcases (show j = 0 ∨ j = 1 ∨ j = 2 by omega) with rfl | rfl | rfl <;> rfl) (by show 10 + 1 ≤ 16; omega) (by show 184 + 3 ≤ 268; omega) dX4_init_73 (fun G6a M6a H uA6 eA6 kA6 xA6 hEA6 hwA6 => ?_)
  rw [hN5] at eA6 kA6 xA6 ⊢
  refine lv_dup hx hb dX4_init_76 rfl ?_
  refine lv_iconst (v := (nI 4)) hx hb dX4_init_77 (by decide) ?_
  refine lv_bipush (v := (nI 8)) hx hb dX4_init_78 (by decide) ?_
  refine i_call (n := n + 11) (As := [.int (nI 4), .int (nI 8)]) (rest := [.ref (gA G6a (n + 11)), .ref (gA G n)]) hx hb hml hown hts hEA6 hO hwA6 hl (mX2_init l G6a (a := 4) (b := 8) (by decide) (by decide) (by decide) (by decide) eA6 kA6 xA6) (cwI 2 hts (zN qC_X2_init) rfl rfl rfl (hts _ (wz_in qN_X2)) (hts _ (wz_in qM_X4_34)) (hts _ (wz_in qI_X2_init)) rfl kdX2_init ⟨(Nat.le_of_ble_eq_true rfl), (Nat.le_of_ble_eq_true rfl)⟩) rfl rfl (Nat.le_of_ble_eq_true rfl) dX4_init_80 ⟨(by show 11 + 2 ≤ 16; omega), (by show 187 + 36 ≤ 268; omega)⟩ (fun G6b M6b H locs uB6 pB6 hEB6 hwB6 => ?_)
  obtain ⟨nB6, p6_0, p6_1⟩ := pB6
  refine i_putF (ci := 4) (fs := [.ref (gA G1a (n + 1)), .ref (gA G2a (n + 3)), .ref (gA G3a (n + 5)), .ref (gA G4a (n + 7)), .ref (gA G5a (n + 9)), .null, .null, .int 0, .int 0, .int 0, .int 0, .int 0]) (v := .ref (gA G6a (n + 11))) (ty := (.object "WinterRoad$Lines")) n (sh4 (.ref (gA G1a (n + 1))) (.ref (gA G2a (n + 3))) (.ref (gA G3a (n + 5))) (.ref (gA G4a (n + 7))) (.ref (gA G5a (n + 9))) (.ref (gA G6a (n + 11))) (.null)) (fun _ => 0) ((uB6.a (by omega)).trans ((uA6.a (by omega)).trans hA5)) hx hb hts hinX4 tyX4 tyX4_ok nmX4 hown hEB6 hwB6 (by omega) (by rw [uB6.k (by omega) (by omega), uB6.m (by omega) (by omega), uA6.k (by omega) (fun z => z), uA6.m (by omega) (fun z => z), k5, x5]; rfl) rfl 5 (by decide) (hts _ (wz_in qF_X4_35)) rfl rfl hnm rfl (by decide +kernel) rfl rfl (Nat.le_of_ble_eq_true rfl) rfl dX4_init_83 (fun G6 M6 H locs u6 e6 k6 x6 hE6 hw6 => ?_)
  have V6 : Up (fun k => k = n) G5 M5 G6 M6 := ((uA6.sub (fun _ _ z => z.elim)).tr uB6 (fun q hq z => absurd (show q = n + 11 from z) (by omega))).tr u6 (fun _ _ z => z)
  have U6 : Up (fun k => k = n) G M G6 M6 := U5.tr V6 (fun _ _ z => z)
  have hN6 : gN G6 = n + 14 := by omega
  have hA6 : gA G6 n = gA G n := (V6.a (by omega)).trans hA5
  have f1a_6 : isTab G6 (n + 1) 16 := f1a_5.up V6 (by omega) (fun q hq => by omega)
  have f1b_6 : M6 (n + 1) 0 = nI 4 := by rw [V6.m (by omega) (by omega)]; exact f1b_5
  have f1c_6 : M6 (n + 1) 1 = nI 4 := by rw [V6.m (by omega) (by omega)]; exact f1c_5
  have q1_6 : gA G6 (n + 1) = gA G1a (n + 1) := (V6.a (by omega)).trans q1_5
  have f3a_6 : isTab G6 (n + 3) 12 := f3a_5.up V6 (by omega) (fun q hq => by omega)
  have f3b_6 : M6 (n + 3) 0 = nI 6 := by rw [V6.m (by omega) (by omega)]; exact f3b_5
  have f3c_6 : M6 (n + 3) 1 = nI 2 := by rw [V6.m (by omega) (by omega)]; exact f3c_5
  have q3_6 : gA G6 (n + 3) = gA G2a (n + 3) := (V6.a (by omega)).trans q3_5
  have f5a_6 : isTab G6 (n + 5) 8 := f5a_5.up V6 (by omega) (fun q hq => by omega)
  have f5b_6 : M6 (n + 5) 0 = nI 4 := by rw [V6.m (by omega) (by omega)]; exact f5b_5
  have f5c_6 : M6 (n + 5) 1 = nI 2 := by rw [V6.m (by omega) (by omega)]; exact f5c_5
  have q5_6 : gA G6 (n + 5) = gA G3a (n + 5) := (V6.a (by omega)).trans q5_5
  have f7a_6 : isTab G6 (n + 7) 16 := f7a_5.up V6 (by omega) (fun q hq => by omega)
  have f7b_6 : M6 (n + 7) 0 = nI 4 := by rw [V6.m (by omega) (by omega)]; exact f7b_5
  have f7c_6 : M6 (n + 7) 1 = nI 4 := by rw [V6.m (by omega) (by omega)]; exact f7c_5
  have q7_6 : gA G6 (n + 7) = gA G4a (n + 7) := (V6.a (by omega)).trans q7_5
  have f9a_6 : isTab G6 (n + 9) 112 := f9a_5.up V6 (by omega) (fun q hq => by omega)
  have f9b_6 : M6 (n + 9) 0 = nI 16 := by rw [V6.m (by omega) (by omega)]; exact f9b_5
  have f9c_6 : M6 (n + 9) 1 = nI 7 := by rw [V6.m (by omega) (by omega)]; exact f9c_5
  have q9_6 : gA G6 (n + 9) = gA G5a (n + 9) := (V6.a (by omega)).trans q9_5
  have f11a_6 : isLin G6 (n + 11) 4 32 := p6_0.up u6 (by omega) (fun q hq => by omega)
  have f11b_6 : M6 (n + 11) 0 = nI 8 := by rw [u6.m (by omega) (by omega)]; exact p6_1
  have q11_6 : gA G6 (n + 11) = gA G6a (n + 11) := (u6.a (by omega)).trans (uB6.a (by omega))
  clear uA6 eA6 kA6 xA6 hEA6 hwA6 uB6 nB6 hEB6 hwB6 u6 e6 V6 U5 hN5 hA5 hE5 hw5 p6_0 p6_1 k5 x5 f1a_5 f1b_5 f1c_5 q1_5 f3a_5 f3b_5 f3c_5 q3_5 f5a_5 f5b_5 f5c_5 q5_5 f7a_5 f7b_5 f7c_5 q7_5 f9a_5 f9b_5 f9c_5 q9_5
  refine lv_aload_n hx hb dX4_init_86 rfl (lv_at hl 0 rfl) ?_
  refine i_new (ci := 2) (fs := [.int 0, .null, .null]) hx hb hts hinX2 tyX2 tyX2_ok hown (hts _ (wz_in qL_X4_32)) (hts _ (wz_in qB_X2)) (hts _ (wz_in qN_X2)) hE6 hw6 rfl sh2 rfl (fun j hj => by rcases (show j = 0 ∨ j = 1 ∨ j = 2 by omega) with rfl | rfl | rfl <;> rfl) (by show 13 + 1 ≤ 16; omega) (by show 223 + 3 ≤ 268; omega) dX4_init_87 (fun G7a M7a H uA7 eA7 kA7 xA7 hEA7 hwA7 => ?_)
  rw [hN6] at eA7 kA7 xA7 ⊢
  refine lv_dup hx hb dX4_init_90 rfl ?_
  refine lv_bipush (v := (nI 6)) hx hb dX4_init_91 (by decide) ?_
  refine lv_bipush (v := (nI 6)) hx hb dX4_init_93 (by decide) ?_
  refine i_call (n := n + 14) (As := [.int (nI 6), .int (nI 6)]) (rest := [.ref (gA G7a (n + 14)), .ref (gA G n)]) hx hb hml hown hts hEA7 hO hwA7 hl (mX2_init l G7a (a := 6) (b := 6) (by decide) (by decide) (by decide) (by decide) eA7 kA7 xA7) (cwI 2 hts (zN qC_X2_init) rfl rfl rfl (hts _ (wz_in qN_X2)) (hts _ (wz_in qM_X4_34)) (hts _ (wz_in qI_X2_init)) rfl kdX2_init ⟨(Nat.le_of_ble_eq_true rfl), (Nat.le_of_ble_eq_true rfl)⟩) rfl rfl (Nat.le_of_ble_eq_true rfl) dX4_init_95 ⟨(by show 14 + 2 ≤ 16; omega), (by show 226 + 42 ≤ 268; omega)⟩ (fun G7b M7b H locs uB7 pB7 hEB7 hwB7 => ?_)
  obtain ⟨nB7, p7_0, p7_1⟩ := pB7
  refine i_putF (ci := 4) (fs := [.ref (gA G1a (n + 1)), .ref (gA G2a (n + 3)), .ref (gA G3a (n + 5)), .ref (gA G4a (n + 7)), .ref (gA G5a (n + 9)), .ref (gA G6a (n + 11)), .null, .int 0, .int 0, .int 0, .int 0, .int 0]) (v := .ref (gA G7a (n + 14))) (ty := (.object "WinterRoad$Lines")) n (sh4 (.ref (gA G1a (n + 1))) (.ref (gA G2a (n + 3))) (.ref (gA G3a (n + 5))) (.ref (gA G4a (n + 7))) (.ref (gA G5a (n + 9))) (.ref (gA G6a (n + 11))) (.ref (gA G7a (n + 14)))) (fun _ => 0) ((uB7.a (by omega)).trans ((uA7.a (by omega)).trans hA6)) hx hb hts hinX4 tyX4 tyX4_ok nmX4 hown hEB7 hwB7 (by omega) (by rw [uB7.k (by omega) (by omega), uB7.m (by omega) (by omega), uA7.k (by omega) (fun z => z), uA7.m (by omega) (fun z => z), k6, x6]; rfl) rfl 6 (by decide) (hts _ (wz_in qF_X4_39)) rfl rfl hnm rfl (by decide +kernel) rfl rfl (Nat.le_of_ble_eq_true rfl) rfl dX4_init_98 (fun G7 M7 H locs u7 e7 k7 x7 hE7 hw7 => ?_)
  have V7 : Up (fun k => k = n) G6 M6 G7 M7 := ((uA7.sub (fun _ _ z => z.elim)).tr uB7 (fun q hq z => absurd (show q = n + 14 from z) (by omega))).tr u7 (fun _ _ z => z)
  have U7 : Up (fun k => k = n) G M G7 M7 := U6.tr V7 (fun _ _ z => z)
  have hN7 : gN G7 = n + 17 := by omega
  have hA7 : gA G7 n = gA G n := (V7.a (by omega)).trans hA6
  have f1a_7 : isTab G7 (n + 1) 16 := f1a_6.up V7 (by omega) (fun q hq => by omega)
  have f1b_7 : M7 (n + 1) 0 = nI 4 := by rw [V7.m (by omega) (by omega)]; exact f1b_6
  have f1c_7 : M7 (n + 1) 1 = nI 4 := by rw [V7.m (by omega) (by omega)]; exact f1c_6
  have q1_7 : gA G7 (n + 1) = gA G1a (n + 1) := (V7.a (by omega)).trans q1_6
  have f3a_7 : isTab G7 (n + 3) 12 := f3a_6.up V7 (by omega) (fun q hq => by omega)
  have f3b_7 : M7 (n + 3) 0 = nI 6 := by rw [V7.m (by omega) (by omega)]; exact f3b_6
  have f3c_7 : M7 (n + 3) 1 = nI 2 := by rw [V7.m (by omega) (by omega)]; exact f3c_6
  have q3_7 : gA G7 (n + 3) = gA G2a (n + 3) := (V7.a (by omega)).trans q3_6
  have f5a_7 : isTab G7 (n + 5) 8 := f5a_6.up V7 (by omega) (fun q hq => by omega)
  have f5b_7 : M7 (n + 5) 0 = nI 4 := by rw [V7.m (by omega) (by omega)]; exact f5b_6
  have f5c_7 : M7 (n + 5) 1 = nI 2 := by rw [V7.m (by omega) (by omega)]; exact f5c_6
  have q5_7 : gA G7 (n + 5) = gA G3a (n + 5) := (V7.a (by omega)).trans q5_6
  have f7a_7 : isTab G7 (n + 7) 16 := f7a_6.up V7 (by omega) (fun q hq => by omega)
  have f7b_7 : M7 (n + 7) 0 = nI 4 := by rw [V7.m (by omega) (by omega)]; exact f7b_6
  have f7c_7 : M7 (n + 7) 1 = nI 4 := by rw [V7.m (by omega) (by omega)]; exact f7c_6
  have q7_7 : gA G7 (n + 7) = gA G4a (n + 7) := (V7.a (by omega)).trans q7_6
  have f9a_7 : isTab G7 (n + 9) 112 := f9a_6.up V7 (by omega) (fun q hq => by omega)
  have f9b_7 : M7 (n + 9) 0 = nI 16 := by rw [V7.m (by omega) (by omega)]; exact f9b_6
  have f9c_7 : M7 (n + 9) 1 = nI 7 := by rw [V7.m (by omega) (by omega)]; exact f9c_6
  have q9_7 : gA G7 (n + 9) = gA G5a (n + 9) := (V7.a (by omega)).trans q9_6
  have f11a_7 : isLin G7 (n + 11) 4 32 := f11a_6.up V7 (by omega) (fun q hq => by omega)
  have f11b_7 : M7 (n + 11) 0 = nI 8 := by rw [V7.m (by omega) (by omega)]; exact f11b_6
  have q11_7 : gA G7 (n + 11) = gA G6a (n + 11) := (V7.a (by omega)).trans q11_6
  have f14a_7 : isLin G7 (n + 14) 6 36 := p7_0.up u7 (by omega) (fun q hq => by omega)
  have f14b_7 : M7 (n + 14) 0 = nI 6 := by rw [u7.m (by omega) (by omega)]; exact p7_1
  have q14_7 : gA G7 (n + 14) = gA G7a (n + 14) := (u7.a (by omega)).trans (uB7.a (by omega))
  clear uA7 eA7 kA7 xA7 hEA7 hwA7 uB7 nB7 hEB7 hwB7 u7 e7 V7 U6 hN6 hA6 hE6 hw6 p7_0 p7_1 k6 x6 f1a_6 f1b_6 f1c_6 q1_6 f3a_6 f3b_6 f3c_6 q3_6 f5a_6 f5b_6 f5c_6 q5_6 f7a_6 f7b_6 f7c_6 q7_6 f9a_6 f9b_6 f9c_6 q9_6 f11a_6 f11b_6 q11_6
  refine lv_aload_n hx hb dX4_init_101 rfl (lv_at hl 0 rfl) ?_
  refine lv_bipush (v := (-9)) hx hb dX4_init_102 (by decide) ?_
  refine i_put (ci := 4) (fs := [.ref (gA G1a (n + 1)), .ref (gA G2a (n + 3)), .ref (gA G3a (n + 5)), .ref (gA G4a (n + 7)), .ref (gA G5a (n + 9)), .ref (gA G6a (n + 11)), .ref (gA G7a (n + 14)), .int 0, .int 0, .int 0, .int 0, .int 0]) (v := .int (-9)) (ty := .int) n (sh4 (.ref (gA G1a (n + 1))) (.ref (gA G2a (n + 3))) (.ref (gA G3a (n + 5))) (.ref (gA G4a (n + 7))) (.ref (gA G5a (n + 9))) (.ref (gA G6a (n + 11))) (.ref (gA G7a (n + 14)))) (upd (fun _ => 0) 10 (-9)) hA7 hx hb hts hinX4 tyX4 tyX4_ok nmX4 hown hE7 hw7 (by omega) (by rw [k7, x7]; rfl) rfl 10 (by decide) (hts _ (wz_in qF_X4_42)) rfl rfl rfl rfl rfl (Nat.le_of_ble_eq_true rfl) rfl dX4_init_104 (fun G8 M8 H locs u8 e8 k8 x8 hE8 hw8 => ?_)
  refine lv_aload_n hx hb dX4_init_107 rfl (lv_at hl 0 rfl) ?_
  refine lv_bipush (v := (-9)) hx hb dX4_init_108 (by decide) ?_
  refine i_put (ci := 4) (fs := [.ref (gA G1a (n + 1)), .ref (gA G2a (n + 3)), .ref (gA G3a (n + 5)), .ref (gA G4a (n + 7)), .ref (gA G5a (n + 9)), .ref (gA G6a (n + 11)), .ref (gA G7a (n + 14)), .int 0, .int 0, .int 0, .int (-9), .int 0]) (v := .int (-9)) (ty := .int) n (sh4 (.ref (gA G1a (n + 1))) (.ref (gA G2a (n + 3))) (.ref (gA G3a (n + 5))) (.ref (gA G4a (n + 7))) (.ref (gA G5a (n + 9))) (.ref (gA G6a (n + 11))) (.ref (gA G7a (n + 14)))) (upd (upd (fun _ => 0) 10 (-9)) 11 (-9)) ((u8.a (by omega)).trans hA7) hx hb hts hinX4 tyX4 tyX4_ok nmX4 hown hE8 hw8 (by omega) (by rw [k8, x8]; rfl) rfl 11 (by decide) (hts _ (wz_in qF_X4_46)) rfl rfl rfl rfl rfl (Nat.le_of_ble_eq_true rfl) rfl dX4_init_110 (fun G9 M9 H locs u9 e9 k9 x9 hE9 hw9 => ?_)
  have V9 : Up (fun k => k = n) G7 M7 G9 M9 := u8.tr u9 (fun _ _ z => z)
  have f1a_9 : isTab G9 (n + 1) 16 := f1a_7.up V9 (by omega) (fun q hq => by omega)
  have f1b_9 : M9 (n + 1) 0 = nI 4 := by rw [V9.m (by omega) (by omega)]; exact f1b_7
  have f1c_9 : M9 (n + 1) 1 = nI 4 := by rw [V9.m (by omega) (by omega)]; exact f1c_7
  have q1_9 : gA G9 (n + 1) = gA G1a (n + 1) := (V9.a (by omega)).trans q1_7
  have f3a_9 : isTab G9 (n + 3) 12 := f3a_7.up V9 (by omega) (fun q hq => by omega)
  have f3b_9 : M9 (n + 3) 0 = nI 6 := by rw [V9.m (by omega) (by omega)]; exact f3b_7
  have f3c_9 : M9 (n + 3) 1 = nI 2 := by rw [V9.m (by omega) (by omega)]; exact f3c_7
  have q3_9 : gA G9 (n + 3) = gA G2a (n + 3) := (V9.a (by omega)).trans q3_7
  have f5a_9 : isTab G9 (n + 5) 8 := f5a_7.up V9 (by omega) (fun q hq => by omega)
  have f5b_9 : M9 (n + 5) 0 = nI 4 := by rw [V9.m (by omega) (by omega)]; exact f5b_7
  have f5c_9 : M9 (n + 5) 1 = nI 2 := by rw [V9.m (by omega) (by omega)]; exact f5c_7
  have q5_9 : gA G9 (n + 5) = gA G3a (n + 5) := (V9.a (by omega)).trans q5_7
  have f7a_9 : isTab G9 (n + 7) 16 := f7a_7.up V9 (by omega) (fun q hq => by omega)
  have f7b_9 : M9 (n + 7) 0 = nI 4 := by rw [V9.m (by omega) (by omega)]; exact f7b_7
  have f7c_9 : M9 (n + 7) 1 = nI 4 := by rw [V9.m (by omega) (by omega)]; exact f7c_7
  have q7_9 : gA G9 (n + 7) = gA G4a (n + 7) := (V9.a (by omega)).trans q7_7
  have f9a_9 : isTab G9 (n + 9) 112 := f9a_7.up V9 (by omega) (fun q hq => by omega)
  have f9b_9 : M9 (n + 9) 0 = nI 16 := by rw [V9.m (by omega) (by omega)]; exact f9b_7
  have f9c_9 : M9 (n + 9) 1 = nI 7 := by rw [V9.m (by omega) (by omega)]; exact f9c_7
  have q9_9 : gA G9 (n + 9) = gA G5a (n + 9) := (V9.a (by omega)).trans q9_7
  have f11a_9 : isLin G9 (n + 11) 4 32 := f11a_7.up V9 (by omega) (fun q hq => by omega)
  have f11b_9 : M9 (n + 11) 0 = nI 8 := by rw [V9.m (by omega) (by omega)]; exact f11b_7
  have q11_9 : gA G9 (n + 11) = gA G6a (n + 11) := (V9.a (by omega)).trans q11_7
  have f14a_9 : isLin G9 (n + 14) 6 36 := f14a_7.up V9 (by omega) (fun q hq => by omega)
  have f14b_9 : M9 (n + 14) 0 = nI 6 := by rw [V9.m (by omega) (by omega)]; exact f14b_7
  have q14_9 : gA G9 (n + 14) = gA G7a (n + 14) := (V9.a (by omega)).trans q14_7
  refine i_vret (n := n) hx hb hr hlocks (U7.tr V9 (fun _ _ z => z)) hE9 hw9 ⟨by omega, ⟨?_, f1a_9, f3a_9, f5a_9, f7a_9, f9a_9, f11a_9, f14a_9⟩, ⟨fun q hq => ?_, f11b_9, f14b_9⟩, ?_⟩ dX4_init_113 (by omega) (by omega)
  · show gK G9 n = sX4 G9 n
    rw [k9]
    unfold sh4 sX4
    rw [q1_9, q3_9, q5_9, q7_9, q9_9, q11_9, q14_9]
  · rcases k5 hq with rfl | rfl | rfl | rfl | rfl
    · exact ⟨f1b_9, f1c_9⟩
    · exact ⟨f3b_9, f3c_9⟩
    · exact ⟨f5b_9, f5c_9⟩
    · exact ⟨f7b_9, f7c_9⟩
    · exact ⟨f9b_9, f9c_9⟩
  · rw [x9]
    rfl

