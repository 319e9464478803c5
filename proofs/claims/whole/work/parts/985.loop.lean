/-! ===== the law's loop ===== -/
set_option maxHeartbeats 4000000 in
set_option maxRecDepth 100000 in
theorem law_loop {p : Program} {l : Launch} {e : Env} {s : State} {m : MethodId} {below : List Frame} {meth : Method} {c : Code} {b L : Nat} {xs : Nat → Int32} {G : mG} (hfl : l.stackTraces = false) (hr : meth.sig.returnType = ret) (hlocks : meth.locks = false) (hE : lE p s m #[Value.ref b] c b L xs G) :
    ∀ (n k : Nat), 6 * k ≤ L → L ≤ 6 * k + 6 * n + 5 → ∀ (C D : mM) (f : Nat → Int32) (H : Heap) (locs : List Loc) (ls : Array Slot) (cells slots : Nat), PI C D → mW G s (lM C D f) H locs → lv_has ls 7 (lB G b k) → cells ≤ 325 + k → slots ≤ 10135 + 6 * k → W p l e room_1 s m #[Value.ref b] below meth c H locs cells slots (lw_Z below #[Value.ref b] s) (F0 m 23 ls []) := by
  obtain ⟨hx, hb, hml, hown, hts, _, _, ⟨hX, hbl, hz⟩, hL⟩ := id hE
  have hbA : ¬ mA G b := by
    show ¬ gZ G ≤ b
    omega
  have step : ∀ k : Nat, 6 * k ≤ L → (6 * k + 6 ≤ L → lK p l e s m #[Value.ref b] below meth c b k G (lw_Z below #[Value.ref b] s)) → ∀ (C D : mM) (f : Nat → Int32) (H : Heap) (locs : List Loc) (ls : Array Slot) (cells slots : Nat), PI C D → mW G s (lM C D f) H locs → lv_has ls 7 (lB G b k) → cells ≤ 325 + k → slots ≤ 10135 + 6 * k → W p l e room_1 s m #[Value.ref b] below meth c H locs cells slots (lw_Z below #[Value.ref b] s) (F0 m 23 ls []) := by
    intro k hk hK C D f H locs ls cells slots hP hw hl hc hs
    refine lv_iload hx hb dL_law_23 (lv_at hl 4 rfl) ?_
    refine lv_aload_n hx hb dL_law_25 rfl (lv_at hl 0 rfl) ?_
    refine va_slen hx hb hX hbl hbA hw.2 dL_law_26 ?_
    refine lv_bipush (v := nI 6) hx hb dL_law_27 (by decide) ?_
    refine lv_isub hx hb dL_law_29 ?_
    refine lv_icmp_gt (tgt := 1912) hx hb dL_law_30 (by decide) (fun _ => ?_) (fun q => ?_)
    · refine lv_iconst (v := 1) hx hb dL_law_1912 (by decide) ?_
      refine va_forget (fun q hq => ?_) ?_
      · have h9 : gZ G ≤ q.base := hw.2.2.2 q hq
        omega
      · refine W.widen (k := 601024) (n := 7293034) (by omega) (by omega) ?_
        exact lw_ret hx hb hr hlocks dL_law_1913
    · have hk6 : 6 * k + 6 ≤ L := by
        refine Nat.le_of_not_lt (fun z => q ?_)
        show nI L - nI 6 < nI (6 * k)
        rw [Int32.lt_iff_toInt_lt, pk_sub_toInt (by omega) (by decide), nI_toInt (by omega)]
        omega
      have K := hK hk6
      refine lv_aload_n hx hb dL_law_33 rfl (lv_at hl 0 rfl) ?_
      refine lv_iload hx hb dL_law_34 (lv_at hl 4 rfl) ?_
      refine va_sld hx hb hX hbl hbA hw.2 (vp_in_nI (by omega) (by omega)) dL_law_36 ?_
      refine lv_bipush (v := nI 31) hx hb dL_law_37 (by decide) ?_
      refine lv_iand hx hb dL_law_39 ?_
      obtain ⟨j, hj, hje⟩ := pk_andE (xs (nI (6 * k)).toNatClampNeg) (m := nI 31) 5 (by decide)
      rw [hje]
      have hj : j < 32 := hj
      match j, hj with
      | 0, _ =>
        refine lv_tableIn (off := 128) (tgt := 168) hx hb dL_law_40 (by decide) (by decide) rfl (by decide) ?_
        exact k_append hfl hE K hk6 hP hw hl hc hs
      | 1, _ =>
        refine lv_tableIn (off := 184) (tgt := 224) hx hb dL_law_40 (by decide) (by decide) rfl (by decide) ?_
        exact k_clearText hfl hE K hk6 hP hw hl hc hs
      | 2, _ =>
        refine lv_tableIn (off := 197) (tgt := 237) hx hb dL_law_40 (by decide) (by decide) rfl (by decide) ?_
        exact k_errorPosition hfl hE K hk6 hP hw hl hc hs
      | 3, _ =>
        refine lv_tableIn (off := 210) (tgt := 250) hx hb dL_law_40 (by decide) (by decide) rfl (by decide) ?_
        exact k_load hfl hE K hk6 hP hw hl hc hs
      | 4, _ =>
        refine lv_tableIn (off := 254) (tgt := 294) hx hb dL_law_40 (by decide) (by decide) rfl (by decide) ?_
        exact k_about hfl hE K hk6 hP hw hl hc hs
      | 5, _ =>
        refine lv_tableIn (off := 310) (tgt := 350) hx hb dL_law_40 (by decide) (by decide) rfl (by decide) ?_
        exact k_convoy hfl hE K hk6 hP hw hl hc hs
      | 6, _ =>
        refine lv_tableIn (off := 378) (tgt := 418) hx hb dL_law_40 (by decide) (by decide) rfl (by decide) ?_
        exact k_member hfl hE K hk6 hP hw hl hc hs
      | 7, _ =>
        refine lv_tableIn (off := 446) (tgt := 486) hx hb dL_law_40 (by decide) (by decide) rfl (by decide) ?_
        exact k_vehicle hfl hE K hk6 hP hw hl hc hs
      | 8, _ =>
        refine lv_tableIn (off := 514) (tgt := 554) hx hb dL_law_40 (by decide) (by decide) rfl (by decide) ?_
        exact k_gate hfl hE K hk6 hP hw hl hc hs
      | 9, _ =>
        refine lv_tableIn (off := 582) (tgt := 622) hx hb dL_law_40 (by decide) (by decide) rfl (by decide) ?_
        exact k_bay hfl hE K hk6 hP hw hl hc hs
      | 10, _ =>
        refine lv_tableIn (off := 650) (tgt := 690) hx hb dL_law_40 (by decide) (by decide) rfl (by decide) ?_
        exact k_depot hfl hE K hk6 hP hw hl hc hs
      | 11, _ =>
        refine lv_tableIn (off := 718) (tgt := 758) hx hb dL_law_40 (by decide) (by decide) rfl (by decide) ?_
        exact k_addGate hfl hE K hk6 hP hw hl hc hs
      | 12, _ =>
        refine lv_tableIn (off := 810) (tgt := 850) hx hb dL_law_40 (by decide) (by decide) rfl (by decide) ?_
        exact k_addBay hfl hE K hk6 hP hw hl hc hs
      | 13, _ =>
        refine lv_tableIn (off := 878) (tgt := 918) hx hb dL_law_40 (by decide) (by decide) rfl (by decide) ?_
        exact k_addDepot hfl hE K hk6 hP hw hl hc hs
      | 14, _ =>
        refine lv_tableIn (off := 946) (tgt := 986) hx hb dL_law_40 (by decide) (by decide) rfl (by decide) ?_
        exact k_addConvoy hfl hE K hk6 hP hw hl hc hs
      | 15, _ =>
        refine lv_tableIn (off := 990) (tgt := 1030) hx hb dL_law_40 (by decide) (by decide) rfl (by decide) ?_
        exact k_addVehicle hfl hE K hk6 hP hw hl hc hs
      | 16, _ =>
        refine lv_tableIn (off := 1094) (tgt := 1134) hx hb dL_law_40 (by decide) (by decide) rfl (by decide) ?_
        exact k_hold hfl hE K hk6 hP hw hl hc hs
      | 17, _ =>
        refine lv_tableIn (off := 1162) (tgt := 1202) hx hb dL_law_40 (by decide) (by decide) rfl (by decide) ?_
        exact k_supply hfl hE K hk6 hP hw hl hc hs
      | 18, _ =>
        refine lv_tableIn (off := 1230) (tgt := 1270) hx hb dL_law_40 (by decide) (by decide) rfl (by decide) ?_
        exact k_pass hfl hE K hk6 hP hw hl hc hs
      | 19, _ =>
        refine lv_tableIn (off := 1286) (tgt := 1326) hx hb dL_law_40 (by decide) (by decide) rfl (by decide) ?_
        exact k_undo hfl hE K hk6 hP hw hl hc hs
      | 20, _ =>
        refine lv_tableIn (off := 1330) (tgt := 1370) hx hb dL_law_40 (by decide) (by decide) rfl (by decide) ?_
        exact k_arrives hfl hE K hk6 hP hw hl hc hs
      | 21, _ =>
        refine lv_tableIn (off := 1386) (tgt := 1426) hx hb dL_law_40 (by decide) (by decide) rfl (by decide) ?_
        exact k_leaves hfl hE K hk6 hP hw hl hc hs
      | 22, _ =>
        refine lv_tableIn (off := 1442) (tgt := 1482) hx hb dL_law_40 (by decide) (by decide) rfl (by decide) ?_
        exact k_bestHold hfl hE K hk6 hP hw hl hc hs
      | 23, _ =>
        refine lv_tableIn (off := 1498) (tgt := 1538) hx hb dL_law_40 (by decide) (by decide) rfl (by decide) ?_
        exact k_lacks hfl hE K hk6 hP hw hl hc hs
      | 24, _ =>
        refine lv_tableIn (off := 1554) (tgt := 1594) hx hb dL_law_40 (by decide) (by decide) rfl (by decide) ?_
        exact k_runScript hfl hE K hk6 hP hw hl hc hs
      | 25, _ =>
        refine lv_tableIn (off := 1654) (tgt := 1694) hx hb dL_law_40 (by decide) (by decide) rfl (by decide) ?_
        exact k_simulate hfl hE K hk6 hP hw hl hc hs
      | 26, _ =>
        refine lv_tableIn (off := 1754) (tgt := 1794) hx hb dL_law_40 (by decide) (by decide) rfl (by decide) ?_
        exact k_save hfl hE K hk6 hP hw hl hc hs
      | 27, _ =>
        refine lv_tableIn (off := 1810) (tgt := 1850) hx hb dL_law_40 (by decide) (by decide) rfl (by decide) ?_
        exact k_restore hfl hE K hk6 hP hw hl hc hs
      | 28, _ =>
        refine lv_tableOut (tgt := 1906) hx hb dL_law_40 (by decide) (by decide) ?_
        exact K C D f H locs ls cells slots hP hw hl (by omega) (by omega)
      | 29, _ =>
        refine lv_tableOut (tgt := 1906) hx hb dL_law_40 (by decide) (by decide) ?_
        exact K C D f H locs ls cells slots hP hw hl (by omega) (by omega)
      | 30, _ =>
        refine lv_tableOut (tgt := 1906) hx hb dL_law_40 (by decide) (by decide) ?_
        exact K C D f H locs ls cells slots hP hw hl (by omega) (by omega)
      | 31, _ =>
        refine lv_tableOut (tgt := 1906) hx hb dL_law_40 (by decide) (by decide) ?_
        exact K C D f H locs ls cells slots hP hw hl (by omega) (by omega)
      | j + 32, h9 => exact absurd h9 (by omega)
  intro n
  induction n with
  | zero =>
    intro k hk hn
    exact step k hk (fun z => absurd z (by omega))
  | succ n ih =>
    intro k hk hn
    refine step k hk (fun hk6 C D f H locs ls cells slots hP hw hl hc hs => ?_)
    refine lv_iinc (v := nI (6 * (k + 1))) (k := 4) (lv' := [(4, .int (nI (6 * (k + 1)))), (0, .ref b), (1, .ref (gA G 0)), (2, .ref (gA G 316)), (3, .ref (gA G 324))]) hx hb dL_law_1906 hl rfl (nI_add (6 * k) 6) (by decide) rfl (fun ls hl => ?_)
    refine lv_goto (tgt := 23) hx hb dL_law_1909 (by decide) ?_
    exact ih (k + 1) (by omega) (by omega) C D f H locs ls cells slots hP hw (lv_sub hl [1, 2, 3, 4, 0] rfl) hc hs
