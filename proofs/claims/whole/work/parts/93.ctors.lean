/-! ===== more words; constructors ===== -/
theorem qA_boolean : Cond.arrayClass .boolean ∈ zT := zT_in (qin_1 (List.mem_of_getElem? (i := 162) (by decide +kernel))) rfl
theorem qA_char : Cond.arrayClass .char ∈ zT := zT_in (qin_1 (List.mem_of_getElem? (i := 44) (by decide +kernel))) rfl
theorem qA_int : Cond.arrayClass .int ∈ zT := zT_in (qin_1 (List.mem_of_getElem? (i := 73) (by decide +kernel))) rfl
theorem qA_long : Cond.arrayClass .long ∈ zT := zT_in (qin_6 (List.mem_of_getElem? (i := 57) (by decide +kernel))) rfl
theorem qB_X0 : Cond.instantiable RX0 3 ∈ zT := zT_in (qin_1 (List.mem_of_getElem? (i := 140) (by decide +kernel))) rfl
theorem qB_X1 : Cond.instantiable RX1 4 ∈ zT := zT_in (qin_1 (List.mem_of_getElem? (i := 26) (by decide +kernel))) rfl
theorem qB_X2 : Cond.instantiable RX2 3 ∈ zT := zT_in (qin_1 (List.mem_of_getElem? (i := 75) (by decide +kernel))) rfl
theorem qB_X3 : Cond.instantiable RX3 2 ∈ zT := zT_in (qin_1 (List.mem_of_getElem? (i := 146) (by decide +kernel))) rfl
theorem qB_X4 : Cond.instantiable RX4 12 ∈ zT := zT_in (qin_1 (List.mem_of_getElem? (i := 46) (by decide +kernel))) rfl
theorem qB_X5 : Cond.instantiable RX5 4 ∈ zT := zT_in (qin_1 (List.mem_of_getElem? (i := 52) (by decide +kernel))) rfl
theorem qB_X6 : Cond.instantiable RX6 5 ∈ zT := zT_in (qin_1 (List.mem_of_getElem? (i := 18) (by decide +kernel))) rfl
theorem qB_X7 : Cond.instantiable RX7 14 ∈ zT := zT_in (qin_4 (List.mem_of_getElem? (i := 152) (by decide +kernel))) rfl
theorem qC_objinit : Cond.code objectInit ⟨#[0xb1]⟩ 1 none ∈ zT := zT_in (qin_1 (List.mem_of_getElem? (i := 24) (by decide +kernel))) rfl
theorem qI_objinit : Cond.instanceMethod objectInit ∈ zT := zT_in (qin_1 (List.mem_of_getElem? (i := 23) (by decide +kernel))) rfl
theorem qM_X0_3 : Cond.methodLink RX0 3 objectInit ∈ zT := zT_in (qin_1 (List.mem_of_getElem? (i := 144) (by decide +kernel))) rfl
theorem qM_X1_3 : Cond.methodLink RX1 3 objectInit ∈ zT := zT_in (qin_1 (List.mem_of_getElem? (i := 30) (by decide +kernel))) rfl
theorem qM_X2_3 : Cond.methodLink RX2 3 objectInit ∈ zT := zT_in (qin_1 (List.mem_of_getElem? (i := 79) (by decide +kernel))) rfl
theorem qM_X3_1 : Cond.methodLink RX3 1 objectInit ∈ zT := zT_in (qin_1 (List.mem_of_getElem? (i := 150) (by decide +kernel))) rfl
theorem qM_X4_3 : Cond.methodLink RX4 3 objectInit ∈ zT := zT_in (qin_1 (List.mem_of_getElem? (i := 50) (by decide +kernel))) rfl
theorem qM_X5_18 : Cond.methodLink RX5 18 Lib.Math.max.name ∈ zT := zT_in (qin_1 (List.mem_of_getElem? (i := 57) (by decide +kernel))) rfl
theorem qM_X5_3 : Cond.methodLink RX5 3 objectInit ∈ zT := zT_in (qin_1 (List.mem_of_getElem? (i := 56) (by decide +kernel))) rfl
theorem qM_X6_1 : Cond.methodLink RX6 1 objectInit ∈ zT := zT_in (qin_1 (List.mem_of_getElem? (i := 22) (by decide +kernel))) rfl
theorem qM_X7_1 : Cond.methodLink RX7 1 objectInit ∈ zT := zT_in (qin_4 (List.mem_of_getElem? (i := 156) (by decide +kernel))) rfl
/-- a table before its constructor -/
def sh5 : mS := fun f => .inr (5, [.int (f 0), .int (f 1), .null, .int (f 3)])
def sh2 : mS := fun f => .inr (2, [.int (f 0), .null, .null])
def sh4 (q1 q3 q5 q7 q9 q11 q14 : Value) : mS := fun f => .inr (4, [q1, q3, q5, q7, q9, q11, q14, .int (f 7), .int (f 8), .int (f 9), .int (f 10), .int (f 11)])
set_option maxRecDepth 100000 in
set_option maxHeartbeats 4000000 in
theorem mX5_init (l : Launch) (G : mG) {M : mM} {n a b : Nat} (ha : a * b < 2 ^ 20) (h0 : 0 < a * b) (hN : gN G = n + 1) (hk : gK G n = sh5) (hm : M n = fun _ => 0) : MI l G yX5_init (wz yX5_init cX5_init 3 none) 1 20 1 (a * b) [.ref (gA G n), .int (nI a), .int (nI b)] M n (fun G1 M1 => gN G1 = n + 2 ∧ isTab G1 n (a * b) ∧ M1 n 0 = nI a ∧ M1 n 1 = nI b) := by
  refine mi_of (cc := cX5_init) (maxL := 3) (by decide) rfl (Nat.le_of_ble_eq_true rfl) ?_
  intro p e s m args below meth c H ls hx hb hr hts hown hml hlocks hnm hE hO hw hl
  have hl : lv_has ls 3 [(0, .ref (gA G n)), (1, .int (nI a)), (2, .int (nI b))] := hl
  have hinX5 : ∀ w ∈ wsX50, w ∈ wz yX5_init cX5_init 3 none := fun w h9 => wz_in (zinX5 w h9)
  refine lv_aload_n hx hb dX5_init_0 rfl (lv_at hl 0 rfl) ?_
  refine W.objInit hx hb hown (hts _ (wz_in qM_X5_3)) (hts _ (wz_in qI_objinit)) (hts _ (wz_in qC_objinit)) rfl (by rw [hml]; exact hl.1) rfl dX5_init_1 (Nat.le_of_ble_eq_true rfl) (Nat.le_of_ble_eq_true rfl) ?_
  refine W.eq (g2 := F0 m 4 ls []) rfl ?_
  refine lv_aload_n hx hb dX5_init_4 rfl (lv_at hl 0 rfl) ?_
  refine lv_iload_n hx hb dX5_init_5 rfl (lv_at hl 1 rfl) ?_
  refine i_putF (ci := 5) (fs := [.int 0, .int 0, .null, .int 0]) (v := .int (nI a)) (ty := .int) n sh5 (upd (fun _ => 0) 0 (nI a)) rfl hx hb hts hinX5 tyX5 tyX5_ok nmX5 hown hE hw (by omega) (by rw [hk, hm]; rfl) rfl 0 (by decide) (hts _ (wz_in qF_X5_9)) rfl rfl hnm rfl (by decide +kernel) rfl rfl (Nat.le_of_ble_eq_true rfl) rfl dX5_init_6 (fun G1 M1 H locs u1 e1 k1 x1 hE1 hw1 => ?_)
  refine lv_aload_n hx hb dX5_init_9 rfl (lv_at hl 0 rfl) ?_
  refine lv_iload_n hx hb dX5_init_10 rfl (lv_at hl 2 rfl) ?_
  refine i_putF (ci := 5) (fs := [.int (nI a), .int 0, .null, .int 0]) (v := .int (nI b)) (ty := .int) n sh5 (upd (upd (fun _ => 0) 0 (nI a)) 1 (nI b)) (u1.a (by omega)) hx hb hts hinX5 tyX5 tyX5_ok nmX5 hown hE1 hw1 (by omega) (by rw [k1, x1]; rfl) rfl 1 (by decide) (hts _ (wz_in qF_X5_15)) rfl rfl hnm rfl (by decide +kernel) rfl rfl (Nat.le_of_ble_eq_true rfl) rfl dX5_init_11 (fun G2 M2 H locs u2 e2 k2 x2 hE2 hw2 => ?_)
  refine lv_aload_n hx hb dX5_init_14 rfl (lv_at hl 0 rfl) ?_
  refine lv_iconst (v := (nI 0)) hx hb dX5_init_15 (by decide) ?_
  refine lv_iload_n hx hb dX5_init_16 rfl (lv_at hl 1 rfl) ?_
  refine lv_iload_n hx hb dX5_init_17 rfl (lv_at hl 2 rfl) ?_
  refine lv_imul hx hb dX5_init_18 ?_
  refine va_mmax hx hb (hml.trans hl.1.symm) hown (hts _ (wz_in qM_X5_18)) (hts _ (wz_in qT_max)) (hts _ (wz_in qN_J9)) (hts _ (wz_in qC_max)) (Nat.le_of_ble_eq_true rfl) (Nat.le_of_ble_eq_true rfl) (Nat.zero_le _) (Nat.zero_le _) dX5_init_19 ?_
  refine W.eq (g2 := F0 m 22 ls [.int (nI (a * b)), .ref (gA G n)]) (by rw [pk_mul, n_lt (by decide) (by omega), if_pos h0]) ?_
  refine i_newa (atype := .int) (ty := .int) (a0 := (a * b, .inl (fun _ => 0))) (N' := a * b) 0 hx hb (hts _ (wz_in qA_int)) rfl (fun _ h9 => h9) rfl hE2 hw2 (aI G2 (a * b)) rfl (fun _ => rfl) (nI_pos (by omega)) (nI_clamp (by omega)) (Nat.le_trans (Nat.mul_le_mul_right _ (Nat.le_of_lt ha)) (by decide)) (Nat.le_refl _) (by show 0 + a * b ≤ a * b; omega) dX5_init_22 (fun G3 M3 H u3 e3 k3 x3 hE3 hw3 => ?_)
  have n2 : gN G2 = n + 1 := by omega
  rw [n2] at e3 k3 x3 ⊢
  refine i_putF (ci := 5) (fs := [.int (nI a), .int (nI b), .null, .int 0]) (v := .ref (gA G3 (n + 1))) (ty := .array .int) n (fun f => .inr (5, [.int (f 0), .int (f 1), .ref (gA G3 (n + 1)), .int (f 3)])) (upd (upd (fun _ => 0) 0 (nI a)) 1 (nI b)) ((u3.a (by omega)).trans ((u2.a (by omega)).trans (u1.a (by omega)))) hx hb hts hinX5 tyX5 tyX5_ok nmX5 hown hE3 hw3 (by omega) (by rw [u3.k (by omega) (fun z => z), u3.m (by omega) (fun z => z), k2, x2]; rfl) rfl 2 (by decide) (hts _ (wz_in qF_X5_24)) rfl rfl hnm rfl (by decide +kernel) rfl rfl (Nat.le_of_ble_eq_true rfl) rfl dX5_init_24 (fun G4 M4 H locs u4 e4 k4 x4 hE4 hw4 => ?_)
  have uu : Up (fun k => k = n) G M G4 M4 := ((u1.tr u2 (fun _ _ z => z)).tr u3 (fun _ _ z => z.elim)).tr u4 (fun _ _ z => z)
  refine i_vret (n := n) hx hb hr hlocks uu hE4 hw4 ⟨by omega, ⟨?_, ?_⟩, ?_, ?_⟩ dX5_init_27 (by omega) (by omega)
  · show gK G4 n = sX5 G4 n
    rw [k4]
    unfold sX5
    rw [u4.a (by omega)]
  · rw [u4.k (by omega) (by omega), k3]
    unfold aI
    rw [u4.1.2.2.1, u3.1.2.2.1]
  · rw [x4]
    rfl
  · rw [x4]
    rfl

