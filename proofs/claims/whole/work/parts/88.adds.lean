/-! ===== new gates, bays, depots, convoys, vehicles ===== -/
section ADD
variable {C D C' D' : mM} {A : aA}
theorem PI.now (h : PI C D) (hC : ∀ a, a < 3 ∨ 20 ≤ a → C' a = C a) (h1 : ∀ a, a ≠ 0 → a ≠ 3 → D' a = D a) (h2 : ∀ j, j ≠ 0 → j ≠ 13 → D' 0 j = D 0 j) (hb : ∃ b, C' 3 9 = bI b) (rC : RepC (sB C' 3) A) (rM : RepR (D' 3) A) (ok : okA A) : PI C' D' := by
  obtain ⟨⟨A0, c1, c2, c3, c4, c5, c6⟩, hT, hP, hH⟩ := h
  exact ⟨⟨A, hb, rC, rM, ok, by rw [h2 12 (by decide) (by decide)]; exact c5, c6.move (fun i hi => hC _ (by omega))⟩, hT.fr (hC 1 (by decide)) (hC 2 (by decide)) (h2 2 (by decide) (by decide)) (h1 1 (by decide) (by decide)), hP.fr (fun a ha => hC a (by omega)) (h1 6 (by decide) (by decide)) (h1 7 (by decide) (by decide)), hH.fr (fun a ha hb => hC a (by omega)) (h1 5 (by decide) (by decide)) (h2 9 (by decide) (by decide))⟩
theorem full_0 {S : mM} (h : RepC S A) {k o N : Nat} (hk : k < 5) (ho : o = 1 + 2 * k) (hlt : aN A k < aMx k) : pX5_isFull N (sB S o) = some (nI 0) := by
  rw [C_full h hk ho, decide_eq_true hlt]
  rfl
theorem full_1 {S : mM} (h : RepC S A) {k o N : Nat} (hk : k < 5) (ho : o = 1 + 2 * k) (hlt : ¬ aN A k < aMx k) : pX5_isFull N (sB S o) = some (nI 1) := by
  rw [C_full h hk ho, decide_eq_false hlt]
  rfl
/-- the call is remembered; the road is the same -/
theorem remA (h : PI C D) (hA : PNow C D A) : ∃ C1 D1, pX0_remember C = some C1 ∧ pX7_remember (sto D 0 0 (nI 0)) = some D1 ∧ PI C1 D1 ∧ PNow C1 D1 A ∧ D1 0 0 = nI 0 := by
  obtain ⟨C1, D1, e1, e2, e3, e4, e5, e6⟩ := remem (h.th (nI 0))
  have hA' : PNow C (sto D 0 0 (nI 0)) A := hA.fr (fun _ _ _ => rfl) (sto_k (by decide)) (sto_j (by decide))
  exact ⟨C1, D1, e1, e2, e3, hA'.fr (fun a h1 h2 => e4 a (by omega)) (e5 3 (by decide) (by decide)) (e6 12 (by decide)), by rw [e6 0 (by decide), sto_i]⟩
theorem okA.new {k : Nat} {v : Nat → Int32} (h : okA A) (i : Inv (newT A k v)) (hv : k = 2 → ∃ q, v 1 = nI q ∧ q ≤ 999) : okA (newT A k v) := by
  obtain ⟨_, L, l1, l2, l3, l4⟩ := h
  exact ⟨i, L, l1, l2, l3, l4.new hv⟩
theorem a_addGate (h : PI C D) (a1 a2 a3 a4 : Int32) : MP ["java/lang/IllegalArgumentException", "java/lang/IllegalStateException"] (pX6_addGate a1 a2 a3 a4 C) (pX7_addGate a1 a2 a3 a4 D) := by
  obtain ⟨⟨A, hA⟩, hT, hP, hH⟩ := id h
  obtain ⟨hb, hC, hM, ⟨iv, L, hL, hL1, hL2, hD⟩, h12, hS⟩ := id hA
  have ok : okA A := ⟨iv, L, hL, hL1, hL2, hD⟩
  have h4 := cnt3 iv
  have h16 := cnt4 iv
  have h6 := cnt1 iv
  have h40 : aN A 0 ≤ 4 := iv.cnt 0 (by decide)
  have h42 : aN A 2 ≤ 4 := iv.cnt 2 (by decide)
  obtain ⟨C1, D1, m1, m2, hP1, hA1, z1⟩ := remA h hA
  have z0 : ∀ {ρ : Type} {K : Int32 → Option ρ}, ld D 3 250 (nI 0) K = K (nI L) := fun {ρ} {K} => by rw [R_ld0 hM, hL]
  have c0 : pX4_length (sB C 3) = some (nI L) := by rw [c_len hC, hL]
  have mno : pX7_addGate_b63 a1 a2 a3 a4 D = some (nI 0, sto D 0 0 (nI 1)) := by
    unfold pX7_addGate_b63 pX7_addGate_b64 pX7_addGate_b104
    rw [if_pos (by decide), refused_n (by decide) (by decide), cw2_s, if_neg (by decide)]
  have lL : (nI L - nI 1).toInt64 = lN (L - 1) := by rw [pk_sub (by omega), nI_l (by omega)]
  by_cases q1 : nI 1 ≤ a1 ∧ a1 ≤ nI (L - 1)
  · by_cases q2 : nI 2 ≤ a2 ∧ a2 ≤ nI 24
    · obtain ⟨p, p1, p2, rfl⟩ := rngN (by decide) (by decide) q2
      have lp : (nI p).toInt64 - lN 1 = lN (p - 1) := by rw [nI_l (by omega), lN_sub (by omega)]
      by_cases q3 : nI 0 ≤ a3 ∧ a3 ≤ nI (p - 1)
      · by_cases q4 : nI 0 ≤ a4 ∧ a4 ≤ nI (p - 1)
        · have ec : pX6_addGate a1 (nI p) a3 a4 C = cr1 (pX5_isFull 16 (sB C 4)) fun v45 => if v45 = 0 then (cr1 (pX5_rowAt 16 a1 (sB C 4)) fun v59 => if v59 = (-9) then (pX6_addGate_b72 a1 (nI p) a3 a4 (nI 0) C) else (pX6_addGate_b67 a1 (nI p) a3 a4 C)) else (pX6_addGate_b67 a1 (nI p) a3 a4 C) := by
            unfold pX6_addGate
            rw [c0, cr1_s, pk_sub (by omega), rng_ok q1, bx_n, rng_ok q2, bx_n, pk_sub (by omega), rng_ok q3, bx_n, rng_ok q4, bx_n]
          have em : pX7_addGate a1 (nI p) a3 a4 D = pX7_addGate_b64 a1 (nI p) a3 a4 (nI 1) D := by
            unfold pX7_addGate
            rw [z0, lL, inr_ok (by decide) (by omega) q1, cr1_s, if_neg (by decide), inr_ok (by decide) (by decide) q2, cr1_s, if_neg (by decide), lp, inr_ok (by decide) (by omega) q3, cr1_s, if_neg (by decide), inr_ok (by decide) (by omega) q4, cr1_s, if_neg (by decide)]
          unfold pX7_addGate_b64 at em
          rw [if_neg (by decide), R_n0 hM, n_eq (by omega) (by decide)] at em
          have cno : pX6_addGate_b67 a1 (nI p) a3 a4 C = some (.inr "java/lang/IllegalStateException", C) := by
            unfold pX6_addGate_b67 pX6_addGate_b72
            rw [ref_1, bx_e]
          have mn2 : pX7_addGate_b99 a1 (nI p) a3 a4 D = some (nI 0, sto D 0 0 (nI 2)) := by
            unfold pX7_addGate_b99 pX7_addGate_b104
            rw [refused_n (by decide) (by decide), cw2_s, if_neg (by decide)]
          by_cases hf : aN A 0 < 4
          · rw [s4, full_0 hC (k := 0) (by decide) rfl hf, cr1_s, if_pos (by decide), C_rowG hC iv, cr1_s] at ec
            rw [if_neg (by omega), m_gateOn (S := sB D 3) hM, cr1_s] at em
            cases er : rowF (aT A 0) a1 (aN A 0) with
            | some g =>
              have hg := (rowF_some er).1
              rw [er] at ec em
              refine MP.no h 1 (by decide) (b := nI 0) ?_ ?_
              · rw [ec, show oI (some g) = nI g from rfl, n_eqN (by omega), if_neg (fun y => y), cno]
                rfl
              · rw [em, show oI (some g) = nI g from rfl, n_eqN (by omega), if_neg (fun y => y), mn2]
            | none =>
              rw [er] at ec em
              obtain ⟨b1, hC1, hM1, _, _, _⟩ := id hA1
              obtain ⟨T, j1, j2, j3⟩ := c_newGate hC1 hf a1 (nI p) a3 a4
              obtain ⟨U, k1, k2, k3⟩ := m_addGate (S := sB D1 3) hM1 hf a1 (nI p) a3 a4
              obtain ⟨x3, x30, x31, rfl⟩ := rngN (by decide) (by omega) q3
              have iv' : Inv (newT A 0 (nv [a1, nI p, nI x3, a4])) := iv.new hf (fun _ i hi => rowF_no er i hi) (fun _ => ⟨p, x3, rfl, p1, p2, rfl, by omega⟩) (fun z => absurd z (by decide)) (fun z => absurd z (by decide)) (fun z => absurd z (by decide))
              have rM' : RepR (wB D1 3 1 U 3) (newT A 0 (nv [a1, nI p, nI x3, a4])) := by
                rw [show wB D1 3 1 U 3 = U 0 from wB_at (β := 3) (k := 0) (by decide)]
                exact k2
              refine MP.ok (v := nI (aN A 0)) (C' := wB C1 3 17 T) (D' := wB D1 3 1 U) ?_ ?_ (hP1.now (fun a ha => wB_out (by omega)) (fun a _ h3 => wB_out (by omega)) (fun j _ _ => by rw [wB_out (by omega)]) ⟨b1.choose, ?_⟩ (j2.cells (fun a ha => wB_at ha)) rM' (ok.new iv' (fun z => absurd z (by decide)))) ?_
              · rw [ec, show oI none = -9 from rfl, if_pos rfl]
                unfold pX6_addGate_b72
                rw [ref_0, bx_n, m1, cr1_s, j1, cws_s]
              · rw [em, show oI none = -9 from rfl, if_pos rfl]
                unfold pX7_addGate_b104
                rw [refused_0, cw2_s, if_pos (by decide), m2, cr1_s, k1, cvs_s, R_n0 rM', newT_N, if_pos rfl, pk_sub (by omega), Nat.add_sub_cancel]
              · rw [show wB C1 3 17 T 3 = T 0 from wB_at (β := 3) (k := 0) (by decide), j3]
                exact b1.choose_spec
              · rw [wB_out (by omega)]
                exact z1
          · rw [s4, full_1 hC (k := 0) (by decide) rfl hf, cr1_s, if_neg (by decide), cno] at ec
            rw [if_pos (by omega), mn2] at em
            exact MP.no h 1 (by decide) (b := nI 0) ec em
        · refine MP.no h 0 (by decide) (b := nI 0) ?_ ?_
          · unfold pX6_addGate
            rw [c0, cr1_s, pk_sub (by omega), rng_ok q1, bx_n, rng_ok q2, bx_n, pk_sub (by omega), rng_ok q3, bx_n, rng_no q4, bx_e]
            rfl
          · unfold pX7_addGate
            rw [z0, lL, inr_ok (by decide) (by omega) q1, cr1_s, if_neg (by decide), inr_ok (by decide) (by decide) q2, cr1_s, if_neg (by decide), lp, inr_ok (by decide) (by omega) q3, cr1_s, if_neg (by decide), inr_no (by decide) (by omega) q4, cr1_s, if_pos (by decide), mno]
      · refine MP.no h 0 (by decide) (b := nI 0) ?_ ?_
        · unfold pX6_addGate
          rw [c0, cr1_s, pk_sub (by omega), rng_ok q1, bx_n, rng_ok q2, bx_n, pk_sub (by omega), rng_no q3, bx_e]
          rfl
        · unfold pX7_addGate
          rw [z0, lL, inr_ok (by decide) (by omega) q1, cr1_s, if_neg (by decide), inr_ok (by decide) (by decide) q2, cr1_s, if_neg (by decide), lp, inr_no (by decide) (by omega) q3, cr1_s, if_pos (by decide), mno]
    · refine MP.no h 0 (by decide) (b := nI 0) ?_ ?_
      · unfold pX6_addGate
        rw [c0, cr1_s, pk_sub (by omega), rng_ok q1, bx_n, rng_no q2, bx_e]
        rfl
      · unfold pX7_addGate
        rw [z0, lL, inr_ok (by decide) (by omega) q1, cr1_s, if_neg (by decide), inr_no (by decide) (by decide) q2, cr1_s, if_pos (by decide), mno]
  · refine MP.no h 0 (by decide) (b := nI 0) ?_ ?_
    · unfold pX6_addGate
      rw [c0, cr1_s, pk_sub (by omega), rng_no q1, bx_e]
      rfl
    · unfold pX7_addGate
      rw [z0, lL, inr_no (by decide) (by omega) q1, cr1_s, if_pos (by decide), mno]
theorem a_addBay (h : PI C D) (a1 a2 : Int32) : MP ["java/lang/IllegalArgumentException", "java/lang/IllegalStateException"] (pX6_addBay a1 a2 C) (pX7_addBay a1 a2 D) := by
  obtain ⟨⟨A, hA⟩, hT, hP, hH⟩ := id h
  obtain ⟨hb, hC, hM, ⟨iv, L, hL, hL1, hL2, hD⟩, h12, hS⟩ := id hA
  have ok : okA A := ⟨iv, L, hL, hL1, hL2, hD⟩
  have h4 := cnt3 iv
  have h16 := cnt4 iv
  have h6 := cnt1 iv
  have h40 : aN A 0 ≤ 4 := iv.cnt 0 (by decide)
  have h42 : aN A 2 ≤ 4 := iv.cnt 2 (by decide)
  obtain ⟨C1, D1, m1, m2, hP1, hA1, z1⟩ := remA h hA
  have z0 : ∀ {ρ : Type} {K : Int32 → Option ρ}, ld D 3 250 (nI 0) K = K (nI L) := fun {ρ} {K} => by rw [R_ld0 hM, hL]
  have c0 : pX4_length (sB C 3) = some (nI L) := by rw [c_len hC, hL]
  have mno : pX7_addBay_b34 a1 a2 D = some (nI 0, sto D 0 0 (nI 1)) := by
    unfold pX7_addBay_b34 pX7_addBay_b35 pX7_addBay_b74
    rw [if_pos (by decide), refused_n (by decide) (by decide), cw2_s, if_neg (by decide)]
  have lL : (nI L - nI 1).toInt64 = lN (L - 1) := by rw [pk_sub (by omega), nI_l (by omega)]
  by_cases q1 : nI 1 ≤ a1 ∧ a1 ≤ nI (L - 1)
  · by_cases q2 : nI 1 ≤ a2 ∧ a2 ≤ nI 6
    · have ec : pX6_addBay a1 a2 C = cr1 (pX5_isFull 12 (sB C 6)) fun v45 => if v45 = 0 then (cr1 (pX5_rowAt 12 a1 (sB C 6)) fun v59 => if v59 = (-9) then (pX6_addBay_b55 a1 a2 (nI 0) C) else (pX6_addBay_b50 a1 a2 C)) else (pX6_addBay_b50 a1 a2 C) := by
        unfold pX6_addBay
        rw [c0, cr1_s, pk_sub (by omega), rng_ok q1, bx_n, rng_ok q2, bx_n]
      have em : pX7_addBay a1 a2 D = pX7_addBay_b35 a1 a2 (nI 1) D := by
        unfold pX7_addBay
        rw [z0, lL, inr_ok (by decide) (by omega) q1, cr1_s, if_neg (by decide), inr_ok (by decide) (by decide) q2, cr1_s, if_neg (by decide)]
      unfold pX7_addBay_b35 at em
      rw [if_neg (by decide), R_n1 hM, n_eq (by omega) (by decide)] at em
      have cno : pX6_addBay_b50 a1 a2 C = some (.inr "java/lang/IllegalStateException", C) := by
        unfold pX6_addBay_b50 pX6_addBay_b55
        rw [ref_1, bx_e]
      have mn2 : pX7_addBay_b69 a1 a2 D = some (nI 0, sto D 0 0 (nI 2)) := by
        unfold pX7_addBay_b69 pX7_addBay_b74
        rw [refused_n (by decide) (by decide), cw2_s, if_neg (by decide)]
      by_cases hf : aN A 1 < 6
      · rw [s6, full_0 hC (k := 1) (by decide) rfl hf, cr1_s, if_pos (by decide), C_rowB hC iv, cr1_s] at ec
        rw [if_neg (by omega), m_bayOn (S := sB D 3) hM, cr1_s] at em
        cases er : rowF (aT A 1) a1 (aN A 1) with
        | some g =>
          have hg := (rowF_some er).1
          rw [er] at ec em
          refine MP.no h 1 (by decide) (b := nI 0) ?_ ?_
          · rw [ec, show oI (some g) = nI g from rfl, n_eqN (by omega), if_neg (fun y => y), cno]
            rfl
          · rw [em, show oI (some g) = nI g from rfl, n_eqN (by omega), if_neg (fun y => y), mn2]
        | none =>
          rw [er] at ec em
          obtain ⟨b1, hC1, hM1, _, _, _⟩ := id hA1
          obtain ⟨T, j1, j2, j3⟩ := c_newBay hC1 hf a1 a2
          obtain ⟨U, k1, k2, k3⟩ := m_addBay (S := sB D1 3) hM1 iv hf a1 a2
          obtain ⟨x2, x20, x21, rfl⟩ := rngN (by decide) (by decide) q2
          obtain ⟨x1, x10, x11, rfl⟩ := rngN (by decide) (by omega) q1
          have iv' : Inv (newT A 1 (nv [nI x1, nI x2])) := iv.new hf (fun _ i hi => rowF_no er i hi) (fun z => absurd z (by decide)) (fun _ => ⟨⟨x2, rfl, x20, x21⟩, fun z => by have z2 : nI x1 = nI L := z.trans hL; rw [P_eq (by omega) (by omega)] at z2; omega⟩) (fun z => absurd z (by decide)) (fun z => absurd z (by decide))
          have rM' : RepR (wB D1 3 1 U 3) (newT A 1 (nv [nI x1, nI x2])) := by
            rw [show wB D1 3 1 U 3 = U 0 from wB_at (β := 3) (k := 0) (by decide)]
            exact k2
          refine MP.ok (v := nI (aN A 1)) (C' := wB C1 3 17 T) (D' := wB D1 3 1 U) ?_ ?_ (hP1.now (fun a ha => wB_out (by omega)) (fun a _ h3 => wB_out (by omega)) (fun j _ _ => by rw [wB_out (by omega)]) ⟨b1.choose, ?_⟩ (j2.cells (fun a ha => wB_at ha)) rM' (ok.new iv' (fun z => absurd z (by decide)))) ?_
          · rw [ec, show oI none = -9 from rfl, if_pos rfl]
            unfold pX6_addBay_b55
            rw [ref_0, bx_n, m1, cr1_s, j1, cws_s]
          · rw [em, show oI none = -9 from rfl, if_pos rfl]
            unfold pX7_addBay_b74
            rw [refused_0, cw2_s, if_pos (by decide), m2, cr1_s, k1, cvs_s, R_n1 rM', newT_N, if_pos rfl, pk_sub (by omega), Nat.add_sub_cancel]
          · rw [show wB C1 3 17 T 3 = T 0 from wB_at (β := 3) (k := 0) (by decide), j3]
            exact b1.choose_spec
          · rw [wB_out (by omega)]
            exact z1
      · rw [s6, full_1 hC (k := 1) (by decide) rfl hf, cr1_s, if_neg (by decide), cno] at ec
        rw [if_pos (by omega), mn2] at em
        exact MP.no h 1 (by decide) (b := nI 0) ec em
    · refine MP.no h 0 (by decide) (b := nI 0) ?_ ?_
      · unfold pX6_addBay
        rw [c0, cr1_s, pk_sub (by omega), rng_ok q1, bx_n, rng_no q2, bx_e]
        rfl
      · unfold pX7_addBay
        rw [z0, lL, inr_ok (by decide) (by omega) q1, cr1_s, if_neg (by decide), inr_no (by decide) (by decide) q2, cr1_s, if_pos (by decide), mno]
  · refine MP.no h 0 (by decide) (b := nI 0) ?_ ?_
    · unfold pX6_addBay
      rw [c0, cr1_s, pk_sub (by omega), rng_no q1, bx_e]
      rfl
    · unfold pX7_addBay
      rw [z0, lL, inr_no (by decide) (by omega) q1, cr1_s, if_pos (by decide), mno]
theorem a_addDepot (h : PI C D) (a1 a2 : Int32) : MP ["java/lang/IllegalArgumentException", "java/lang/IllegalStateException"] (pX6_addDepot a1 a2 C) (pX7_addDepot a1 a2 D) := by
  obtain ⟨⟨A, hA⟩, hT, hP, hH⟩ := id h
  obtain ⟨hb, hC, hM, ⟨iv, L, hL, hL1, hL2, hD⟩, h12, hS⟩ := id hA
  have ok : okA A := ⟨iv, L, hL, hL1, hL2, hD⟩
  have h4 := cnt3 iv
  have h16 := cnt4 iv
  have h6 := cnt1 iv
  have h40 : aN A 0 ≤ 4 := iv.cnt 0 (by decide)
  have h42 : aN A 2 ≤ 4 := iv.cnt 2 (by decide)
  obtain ⟨C1, D1, m1, m2, hP1, hA1, z1⟩ := remA h hA
  have z0 : ∀ {ρ : Type} {K : Int32 → Option ρ}, ld D 3 250 (nI 0) K = K (nI L) := fun {ρ} {K} => by rw [R_ld0 hM, hL]
  have c0 : pX4_length (sB C 3) = some (nI L) := by rw [c_len hC, hL]
  have mno : pX7_addDepot_b32 a1 a2 D = some (nI 0, sto D 0 0 (nI 1)) := by
    unfold pX7_addDepot_b32 pX7_addDepot_b33 pX7_addDepot_b71
    rw [if_pos (by decide), refused_n (by decide) (by decide), cw2_s, if_neg (by decide)]
  have lL : (nI L).toInt64 = lN (L) := by rw [nI_l (by omega)]
  by_cases q1 : nI 0 ≤ a1 ∧ a1 ≤ nI (L)
  · by_cases q2 : nI 0 ≤ a2 ∧ a2 ≤ nI 999
    · have ec : pX6_addDepot a1 a2 C = cr1 (pX5_isFull 8 (sB C 8)) fun v45 => if v45 = 0 then (cr1 (pX5_rowAt 8 a1 (sB C 8)) fun v59 => if v59 = (-9) then (pX6_addDepot_b54 a1 a2 (nI 0) C) else (pX6_addDepot_b49 a1 a2 C)) else (pX6_addDepot_b49 a1 a2 C) := by
        unfold pX6_addDepot
        rw [c0, cr1_s, rng_ok q1, bx_n, rng_ok q2, bx_n]
      have em : pX7_addDepot a1 a2 D = pX7_addDepot_b33 a1 a2 (nI 1) D := by
        unfold pX7_addDepot
        rw [z0, lL, inr_ok (by decide) (by omega) q1, cr1_s, if_neg (by decide), inr_ok (by decide) (by decide) q2, cr1_s, if_neg (by decide)]
      unfold pX7_addDepot_b33 at em
      rw [if_neg (by decide), R_n2 hM, n_eq (by omega) (by decide)] at em
      have cno : pX6_addDepot_b49 a1 a2 C = some (.inr "java/lang/IllegalStateException", C) := by
        unfold pX6_addDepot_b49 pX6_addDepot_b54
        rw [ref_1, bx_e]
      have mn2 : pX7_addDepot_b66 a1 a2 D = some (nI 0, sto D 0 0 (nI 2)) := by
        unfold pX7_addDepot_b66 pX7_addDepot_b71
        rw [refused_n (by decide) (by decide), cw2_s, if_neg (by decide)]
      by_cases hf : aN A 2 < 4
      · rw [s8, full_0 hC (k := 2) (by decide) rfl hf, cr1_s, if_pos (by decide), C_rowD hC iv, cr1_s] at ec
        rw [if_neg (by omega), m_depotOn (S := sB D 3) hM, cr1_s] at em
        cases er : rowF (aT A 2) a1 (aN A 2) with
        | some g =>
          have hg := (rowF_some er).1
          rw [er] at ec em
          refine MP.no h 1 (by decide) (b := nI 0) ?_ ?_
          · rw [ec, show oI (some g) = nI g from rfl, n_eqN (by omega), if_neg (fun y => y), cno]
            rfl
          · rw [em, show oI (some g) = nI g from rfl, n_eqN (by omega), if_neg (fun y => y), mn2]
        | none =>
          rw [er] at ec em
          obtain ⟨b1, hC1, hM1, _, _, _⟩ := id hA1
          obtain ⟨T, j1, j2, j3⟩ := c_newDepot hC1 hf a1 a2
          obtain ⟨U, k1, k2, k3⟩ := m_addDepot (S := sB D1 3) hM1 hf a1 a2
          obtain ⟨x2, x20, x21, rfl⟩ := rngN (by decide) (by decide) q2
          obtain ⟨x1, x10, x11, rfl⟩ := rngN (by decide) (by omega) q1
          have iv' : Inv (newT A 2 (nv [nI x1, nI x2])) := iv.new hf (fun _ i hi => rowF_no er i hi) (fun z => absurd z (by decide)) (fun z => absurd z (by decide)) (fun _ => ⟨x2, rfl, by omega⟩) (fun z => absurd z (by decide))
          have rM' : RepR (wB D1 3 1 U 3) (newT A 2 (nv [nI x1, nI x2])) := by
            rw [show wB D1 3 1 U 3 = U 0 from wB_at (β := 3) (k := 0) (by decide)]
            exact k2
          refine MP.ok (v := nI (aN A 2)) (C' := wB C1 3 17 T) (D' := wB D1 3 1 U) ?_ ?_ (hP1.now (fun a ha => wB_out (by omega)) (fun a _ h3 => wB_out (by omega)) (fun j _ _ => by rw [wB_out (by omega)]) ⟨b1.choose, ?_⟩ (j2.cells (fun a ha => wB_at ha)) rM' (ok.new iv' (fun _ => ⟨x2, rfl, x21⟩))) ?_
          · rw [ec, show oI none = -9 from rfl, if_pos rfl]
            unfold pX6_addDepot_b54
            rw [ref_0, bx_n, m1, cr1_s, j1, cws_s]
          · rw [em, show oI none = -9 from rfl, if_pos rfl]
            unfold pX7_addDepot_b71
            rw [refused_0, cw2_s, if_pos (by decide), m2, cr1_s, k1, cvs_s, R_n2 rM', newT_N, if_pos rfl, pk_sub (by omega), Nat.add_sub_cancel]
          · rw [show wB C1 3 17 T 3 = T 0 from wB_at (β := 3) (k := 0) (by decide), j3]
            exact b1.choose_spec
          · rw [wB_out (by omega)]
            exact z1
      · rw [s8, full_1 hC (k := 2) (by decide) rfl hf, cr1_s, if_neg (by decide), cno] at ec
        rw [if_pos (by omega), mn2] at em
        exact MP.no h 1 (by decide) (b := nI 0) ec em
    · refine MP.no h 0 (by decide) (b := nI 0) ?_ ?_
      · unfold pX6_addDepot
        rw [c0, cr1_s, rng_ok q1, bx_n, rng_no q2, bx_e]
        rfl
      · unfold pX7_addDepot
        rw [z0, lL, inr_ok (by decide) (by omega) q1, cr1_s, if_neg (by decide), inr_no (by decide) (by decide) q2, cr1_s, if_pos (by decide), mno]
  · refine MP.no h 0 (by decide) (b := nI 0) ?_ ?_
    · unfold pX6_addDepot
      rw [c0, cr1_s, rng_no q1, bx_e]
      rfl
    · unfold pX7_addDepot
      rw [z0, lL, inr_no (by decide) (by omega) q1, cr1_s, if_pos (by decide), mno]
theorem a_addConvoy (h : PI C D) : MP ["java/lang/IllegalStateException"] (pX6_addConvoy C) (pX7_addConvoy D) := by
  obtain ⟨⟨A, hA⟩, hT, hP, hH⟩ := id h
  obtain ⟨hb, hC, hM, ⟨iv, L, hL, hL1, hL2, hD⟩, h12, hS⟩ := id hA
  have ok : okA A := ⟨iv, L, hL, hL1, hL2, hD⟩
  have h4 := cnt3 iv
  have h16 := cnt4 iv
  have h6 := cnt1 iv
  have h40 : aN A 0 ≤ 4 := iv.cnt 0 (by decide)
  have h42 : aN A 2 ≤ 4 := iv.cnt 2 (by decide)
  obtain ⟨C1, D1, m1, m2, hP1, hA1, z1⟩ := remA h hA
  have z0 : ∀ {ρ : Type} {K : Int32 → Option ρ}, ld D 3 250 (nI 0) K = K (nI L) := fun {ρ} {K} => by rw [R_ld0 hM, hL]
  have c0 : pX4_length (sB C 3) = some (nI L) := by rw [c_len hC, hL]
  by_cases hf : aN A 3 < 4
  · obtain ⟨b1, hC1, hM1, _, _, _⟩ := id hA1
    obtain ⟨T, j1, j2, j3⟩ := c_newConvoy hC1 hf
    obtain ⟨U, k1, k2, k3⟩ := m_addConvoy (S := sB D1 3) hM1 iv hf
    have iv' : Inv (newT A 3 (fun _ => nI 0)) := iv.new hf (fun z => absurd z (by decide)) (fun z => absurd z (by decide)) (fun z => absurd z (by decide)) (fun z => absurd z (by decide)) (fun z => absurd z (by decide))
    have rM' : RepR (wB D1 3 1 U 3) (newT A 3 (fun _ => nI 0)) := by
      rw [show wB D1 3 1 U 3 = U 0 from wB_at (β := 3) (k := 0) (by decide)]
      exact k2
    refine MP.ok (v := nI (aN A 3)) (C' := wB C1 3 17 T) (D' := wB D1 3 1 U) ?_ ?_ (hP1.now (fun a ha => wB_out (by omega)) (fun a _ h3 => wB_out (by omega)) (fun j _ _ => by rw [wB_out (by omega)]) ⟨b1.choose, ?_⟩ (j2.cells (fun a ha => wB_at ha)) rM' (ok.new iv' (fun z => absurd z (by decide)))) ?_
    · unfold pX6_addConvoy
      rw [s10, full_0 hC (k := 3) (by decide) rfl hf, cr1_s, ref_0, bx_n, m1, cr1_s, j1, cws_s]
    · unfold pX7_addConvoy pX7_addConvoy_b16
      rw [R_n3 hM, n_eq (by omega) (by decide), if_neg (by omega), refused_0, cw2_s, if_pos (by decide), m2, cr1_s, k1, cvs_s, R_n3 rM', newT_N, if_pos rfl, pk_sub (by omega), Nat.add_sub_cancel]
    · rw [show wB C1 3 17 T 3 = T 0 from wB_at (β := 3) (k := 0) (by decide), j3]
      exact b1.choose_spec
    · rw [wB_out (by omega)]
      exact z1
  · refine MP.no h 0 (by decide) (b := nI 0) ?_ ?_
    · unfold pX6_addConvoy
      rw [s10, full_1 hC (k := 3) (by decide) rfl hf, cr1_s, ref_1, bx_e]
      rfl
    · unfold pX7_addConvoy pX7_addConvoy_b16
      rw [R_n3 hM, n_eq (by omega) (by decide), if_pos (by omega), refused_n (by decide) (by decide), cw2_s, if_neg (by decide)]
theorem a_addVehicle (h : PI C D) (a1 a2 a3 a4 a5 : Int32) : MP ["java/lang/IndexOutOfBoundsException", "java/lang/IllegalArgumentException", "java/lang/IllegalStateException"] (pX6_addVehicle a1 a2 a3 a4 a5 C) (pX7_addVehicle a1 a2 a3 a4 a5 D) := by
  obtain ⟨⟨A, hA⟩, hT, hP, hH⟩ := id h
  obtain ⟨hb, hC, hM, ⟨iv, L, hL, hL1, hL2, hD⟩, h12, hS⟩ := id hA
  have ok : okA A := ⟨iv, L, hL, hL1, hL2, hD⟩
  have h4 := cnt3 iv
  have h16 := cnt4 iv
  have h6 := cnt1 iv
  have h40 : aN A 0 ≤ 4 := iv.cnt 0 (by decide)
  have h42 : aN A 2 ≤ 4 := iv.cnt 2 (by decide)
  obtain ⟨C1, D1, m1, m2, hP1, hA1, z1⟩ := remA h hA
  have z0 : ∀ {ρ : Type} {K : Int32 → Option ρ}, ld D 3 250 (nI 0) K = K (nI L) := fun {ρ} {K} => by rw [R_ld0 hM, hL]
  have c0 : pX4_length (sB C 3) = some (nI L) := by rw [c_len hC, hL]
  -- the reference: what is sound, then the rest
  have ms : ∃ t, (t = nI 1 ↔ ((nI 1 ≤ a2 ∧ a2 ≤ nI 9) ∧ (nI 1 ≤ a3 ∧ a3 ≤ nI 4) ∧ (nI 20 ≤ a4 ∧ a4 ≤ nI 99) ∧ nI 0 ≤ a5 ∧ a5 ≤ a4)) ∧ (t = nI 0 ∨ t = nI 1) ∧ pX7_addVehicle a1 a2 a3 a4 a5 D = pX7_addVehicle_b57 a1 a2 a3 a4 a5 t D := by
    unfold pX7_addVehicle pX7_addVehicle_b56
    have n01 : ¬ (nI 0 = nI 1) := by decide
    by_cases q2 : nI 1 ≤ a2 ∧ a2 ≤ nI 9
    · rw [inr_ok (by decide) (by decide) q2, cr1_s, if_neg (by decide)]
      by_cases q3 : nI 1 ≤ a3 ∧ a3 ≤ nI 4
      · rw [inr_ok (by decide) (by decide) q3, cr1_s, if_neg (by decide)]
        by_cases q4 : nI 20 ≤ a4 ∧ a4 ≤ nI 99
        · rw [inr_ok (by decide) (by decide) q4, cr1_s, if_neg (by decide), show lN 0 = (nI 0).toInt64 from (nI_l (by decide)).symm, in_32, cr1_s, bI_0]
          by_cases q5 : nI 0 ≤ a5 ∧ a5 ≤ a4
          · rw [decide_eq_true q5, if_neg (by decide)]
            exact ⟨nI 1, ⟨fun _ => ⟨q2, q3, q4, q5⟩, fun _ => rfl⟩, Or.inr rfl, rfl⟩
          · rw [decide_eq_false q5, if_pos rfl]
            exact ⟨nI 0, ⟨fun z => absurd z n01, fun z => absurd z.2.2.2 q5⟩, Or.inl rfl, rfl⟩
        · rw [inr_no (by decide) (by decide) q4, cr1_s, if_pos (by decide)]
          exact ⟨nI 0, ⟨fun z => absurd z n01, fun z => absurd z.2.2.1 q4⟩, Or.inl rfl, rfl⟩
      · rw [inr_no (by decide) (by decide) q3, cr1_s, if_pos (by decide)]
        exact ⟨nI 0, ⟨fun z => absurd z n01, fun z => absurd z.2.1 q3⟩, Or.inl rfl, rfl⟩
    · rw [inr_no (by decide) (by decide) q2, cr1_s, if_pos (by decide)]
      exact ⟨nI 0, ⟨fun z => absurd z n01, fun z => absurd z.1 q2⟩, Or.inl rfl, rfl⟩
  obtain ⟨t, t1, t2, em⟩ := ms
  unfold pX7_addVehicle_b57 at em
  rcases idx a1 (aN A 3) (by omega) with ⟨c, hc, rfl⟩ | hx
  · rw [isConvoy_ok hM iv hc, cr1_s, if_neg (by decide)] at em
    have ex3 := ex_ok hC iv (N := 16) (k := 3) (o := 7) (by decide) rfl hc
    rw [← s10] at ex3
    have l8 := (iv.line0 c hc).1
    have mn1 : pX7_addVehicle_b122 (nI c) a2 a3 a4 a5 (nI 2) D = some (nI 0, sto D 0 0 (nI 2)) := by
      unfold pX7_addVehicle_b122
      rw [refused_n (by decide) (by decide), cw2_s, if_neg (by decide)]
    have mn2 : pX7_addVehicle_b117 (nI c) a2 a3 a4 a5 D = some (nI 0, sto D 0 0 (nI 3)) := by
      unfold pX7_addVehicle_b117 pX7_addVehicle_b122
      rw [refused_n (by decide) (by decide), cw2_s, if_neg (by decide)]
    have cno : pX6_addVehicle_b63 (nI c) a2 a3 a4 a5 C = some (.inr "java/lang/IllegalStateException", C) := by
      unfold pX6_addVehicle_b63 pX6_addVehicle_b68
      rw [ref_1, bx_e]
    have cbad : ¬ ((nI 1 ≤ a2 ∧ a2 ≤ nI 9) ∧ (nI 1 ≤ a3 ∧ a3 ≤ nI 4) ∧ (nI 20 ≤ a4 ∧ a4 ≤ nI 99) ∧ nI 0 ≤ a5 ∧ a5 ≤ a4) → pX6_addVehicle (nI c) a2 a3 a4 a5 C = some (.inr "java/lang/IllegalArgumentException", C) := fun hn => by
      unfold pX6_addVehicle
      rw [ex3, bx_n]
      by_cases q2 : nI 1 ≤ a2 ∧ a2 ≤ nI 9
      · rw [rng_ok q2, bx_n]
        by_cases q3 : nI 1 ≤ a3 ∧ a3 ≤ nI 4
        · rw [rng_ok q3, bx_n]
          by_cases q4 : nI 20 ≤ a4 ∧ a4 ≤ nI 99
          · rw [rng_ok q4, bx_n, rng_no (fun q5 => hn ⟨q2, q3, q4, q5⟩), bx_e]
          · rw [rng_no q4, bx_e]
        · rw [rng_no q3, bx_e]
      · rw [rng_no q2, bx_e]
    rcases t2 with rfl | rfl
    · rw [if_pos (by decide), mn1] at em
      exact MP.no h 1 (by decide) (b := nI 0) (cbad (fun z => absurd (t1.mpr z) (by decide))) em
    · obtain ⟨q2, q3, q4, q5⟩ := t1.mp rfl
      have ec : pX6_addVehicle (nI c) a2 a3 a4 a5 C = if (bI (decide (aN A 4 < 16 ∧ (aL A 0 c).length < 8))) = 0 then (pX6_addVehicle_b63 (nI c) a2 a3 a4 a5 C) else (if bI (decide (aT A 3 c 0 = aS A 0)) = 0 then (pX6_addVehicle_b68 (nI c) a2 a3 a4 a5 (nI 0) C) else (pX6_addVehicle_b63 (nI c) a2 a3 a4 a5 C)) := by
        unfold pX6_addVehicle
        rw [ex3, bx_n, rng_ok q2, bx_n, rng_ok q3, bx_n, rng_ok q4, bx_n, rng_ok q5, bx_n, c_room hC iv hc, cr1_s, c_end hC hc, cr1_s]
      rw [if_neg (by decide), R_n4 hM, n_eq (by omega) (by decide), m_sizeOf (S := sB D 3) hM hc, cr1_s, n_eq (by omega) (by decide), m_there (S := sB D 3) hM hc, cr1_s, bI_0] at em
      rw [bI_0, bI_0, cno] at ec
      by_cases hf : aN A 4 < 16
      · by_cases hl : (aL A 0 c).length < 8
        · rw [decide_eq_true ⟨hf, hl⟩, if_neg (by decide)] at ec
          rw [if_neg (by omega), if_neg (by omega)] at em
          by_cases he : aT A 3 c 0 = aS A 0
          · rw [decide_eq_true he, if_neg (by decide)] at ec
            rw [decide_eq_true he, if_neg (by decide), mn2] at em
            exact MP.no h 2 (by decide) (b := nI 0) ec em
          · rw [decide_eq_false he, if_pos rfl] at ec
            rw [decide_eq_false he, if_pos rfl] at em
            obtain ⟨b1, hC1, hM1, _, _, _⟩ := id hA1
            obtain ⟨y2, y20, y21, rfl⟩ := rngN (by decide) (by decide) q2
            obtain ⟨y3, y30, y31, rfl⟩ := rngN (by decide) (by decide) q3
            obtain ⟨y4, y40, y41, rfl⟩ := rngN (by decide) (by decide) q4
            obtain ⟨y5, y50, y51, rfl⟩ := rngN (by decide) (by omega) q5
            obtain ⟨T, j1, j2, j3⟩ := c_newVehicle hC1 hf (show c < 4 by omega) hl (nI y2) (nI y3) (nI y4) (nI y5)
            obtain ⟨U, k1, k2, k3⟩ := m_addCar (S := sB D1 3) hM1 hf hc hl (nI y2) (nI y3) (nI y4) (nI y5)
            have iv' : Inv (newV A c (nI y2) (nI y3) (nI y4) (nI y5)) := iv.okCar hf hc hl ⟨y20, y21⟩ ⟨y30, y31⟩ y41 y51
            have rM' : RepR (wB D1 3 1 U 3) (newV A c (nI y2) (nI y3) (nI y4) (nI y5)) := by
              rw [show wB D1 3 1 U 3 = U 0 from wB_at (β := 3) (k := 0) (by decide)]
              exact k2
            refine MP.ok (v := nI (aN A 4)) (C' := wB C1 3 17 T) (D' := wB D1 3 1 U) ?_ ?_ (hP1.now (fun a ha => wB_out (by omega)) (fun a _ h3 => wB_out (by omega)) (fun j _ _ => by rw [wB_out (by omega)]) ⟨b1.choose, ?_⟩ (j2.cells (fun a ha => wB_at ha)) rM' ⟨iv', L, hL, hL1, hL2, hD.car⟩) ?_
            · rw [ec]
              unfold pX6_addVehicle_b68
              rw [ref_0, bx_n, m1, cr1_s, j1, cws_s]
            · have en : aN (newV A c (nI y2) (nI y3) (nI y4) (nI y5)) 4 = aN A 4 + 1 := rfl
              rw [em]
              unfold pX7_addVehicle_b122
              rw [refused_0, cw2_s, if_pos (by decide), m2, cr1_s, k1, cvs_s, R_n4 rM', en, pk_sub (by omega), Nat.add_sub_cancel]
            · rw [show wB C1 3 17 T 3 = T 0 from wB_at (β := 3) (k := 0) (by decide), j3]
              exact b1.choose_spec
            · rw [wB_out (by omega)]
              exact z1
        · rw [decide_eq_false (fun z => hl z.2), if_pos rfl] at ec
          rw [if_neg (by omega), if_pos (by omega), mn2] at em
          exact MP.no h 2 (by decide) (b := nI 0) ec em
      · rw [decide_eq_false (fun z => hf z.1), if_pos rfl] at ec
        rw [if_pos (by omega), mn2] at em
        exact MP.no h 2 (by decide) (b := nI 0) ec em
  · rw [isConvoy_no hM iv hx, cr1_s, if_pos (by decide)] at em
    refine MP.no h 0 (by decide) (b := nI 0) ?_ ?_
    · unfold pX6_addVehicle
      rw [s10, ex_no hC (k := 3) (by decide) rfl hx, bx_e]
      rfl
    · rw [em]
      unfold pX7_addVehicle_b122
      rw [refused_n (by decide) (by decide), cw2_s, if_neg (by decide)]
end ADD
