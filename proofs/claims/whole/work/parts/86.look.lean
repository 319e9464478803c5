/-! ===== the calls that only look ===== -/
section LOOK
variable {C D : mM}
theorem c_hrs {S : mM} {A : aA} (h : RepC S A) : pX4_hours S = some (aS A 1) := by
  unfold pX4_hours
  rw [gf_e, h.1.2]
theorem a_about (h : PI C D) (x : Int32) : MG ["java/lang/IllegalArgumentException"] C (pX6_about x C) (pX7_about x D) := by
  obtain ⟨⟨A, hb, hC, hM, ⟨iv, L, hL, hL1, hL2, hD⟩, h12, hS⟩, hT, hP, hH⟩ := id h
  have hM1 : RepR (sto D 0 0 (nI 0) 3) A := by
    rw [sto_k (by decide)]
    exact hM
  have hM2 : RepR (sB (sto D 0 0 (nI 0)) 3 0) A := hM1
  have h4 := cnt3 iv
  have h16 := cnt4 iv
  have h6 := cnt1 iv
  have h40 : aN A 0 ≤ 4 := iv.cnt 0 (by decide)
  have h42 : aN A 2 ≤ 4 := iv.cnt 2 (by decide)
  by_cases hx : nI 0 ≤ x ∧ x ≤ nI 11
  · have em : pX7_about x D = pX7_about_b18 x (nI 0) D := by
      unfold pX7_about
      rw [inr_ok (by decide) (by decide) hx, cr1_s, if_neg (by decide)]
    obtain ⟨q, q0, q1, rfl⟩ := rngN (by decide) (by decide) hx
    have hq : q = 0 ∨ q = 1 ∨ q = 2 ∨ q = 3 ∨ q = 4 ∨ q = 5 ∨ q = 6 ∨ q = 7 ∨ q = 8 ∨ q = 9 ∨ q = 10 ∨ q = 11 := by omega
    unfold pX7_about_b18 at em
    rw [refused_0, cw2_s, if_pos (by decide)] at em
    rcases hq with rfl | rfl | rfl | rfl | rfl | rfl | rfl | rfl | rfl | rfl | rfl | rfl
    · refine MG.ok h (v := aS A 0) ?_ ?_
      · unfold pX6_about
        rw [rng_ok hx, bx_n, if_pos rfl, c_len hC, cr1_s]
      · rw [em, if_neg (by decide), if_neg (by decide), if_neg (by decide), if_neg (by decide), if_neg (by decide), R_ld0 hM1]
    · refine MG.ok h (v := aS A 1) ?_ ?_
      · unfold pX6_about
        rw [rng_ok hx, bx_n, if_neg (by decide), if_pos rfl, c_hrs hC, cr1_s]
      · rw [em, if_neg (by decide), if_neg (by decide), if_neg (by decide), if_neg (by decide), if_neg (by decide), R_ld1 hM1]
    · refine MG.ok h (v := nI (aN A 0)) ?_ ?_
      · unfold pX6_about
        rw [rng_ok hx, bx_n, if_neg (by decide), if_neg (by decide), if_pos rfl, s4, C_cntG hC, cr1_s]
      · rw [em, if_neg (by decide), if_neg (by decide), if_neg (by decide), if_neg (by decide), if_neg (by decide), R_n0 hM1]
    · refine MG.ok h (v := nI (aN A 1)) ?_ ?_
      · unfold pX6_about
        rw [rng_ok hx, bx_n, if_neg (by decide), if_neg (by decide), if_neg (by decide), if_pos rfl, s6, C_cntB hC, cr1_s]
      · rw [em, if_neg (by decide), if_neg (by decide), if_neg (by decide), if_neg (by decide), if_neg (by decide), R_n1 hM1]
    · refine MG.ok h (v := nI (aN A 2)) ?_ ?_
      · unfold pX6_about
        rw [rng_ok hx, bx_n, if_neg (by decide), if_neg (by decide), if_neg (by decide), if_neg (by decide), if_pos rfl, s8, C_cntD hC, cr1_s]
      · rw [em, if_neg (by decide), if_neg (by decide), if_neg (by decide), if_neg (by decide), if_neg (by decide), R_n2 hM1]
    · refine MG.ok h (v := nI (aN A 3)) ?_ ?_
      · unfold pX6_about
        rw [rng_ok hx, bx_n, if_neg (by decide), if_neg (by decide), if_neg (by decide), if_neg (by decide), if_neg (by decide), if_pos rfl, s10, C_cntC hC, cr1_s]
      · rw [em, if_neg (by decide), if_neg (by decide), if_neg (by decide), if_neg (by decide), if_neg (by decide), R_n3 hM1]
    · refine MG.ok h (v := nI (aN A 4)) ?_ ?_
      · unfold pX6_about
        rw [rng_ok hx, bx_n, if_neg (by decide), if_neg (by decide), if_neg (by decide), if_neg (by decide), if_neg (by decide), if_neg (by decide), if_pos rfl, s12, C_cntV hC, cr1_s]
      · rw [em, if_neg (by decide), if_neg (by decide), if_neg (by decide), if_neg (by decide), if_neg (by decide), R_n4 hM1]
    · refine MG.ok h (v := nI (cntN A (nI 2) (aN A 4))) ?_ ?_
      · unfold pX6_about
        rw [rng_ok hx, bx_n, if_neg (by decide), if_neg (by decide), if_neg (by decide), if_neg (by decide), if_neg (by decide), if_neg (by decide), if_neg (by decide), if_pos rfl, c_many hC iv, cr1_s]
      · rw [em, if_pos rfl, m_many hM2, cr1_s]
    · refine MG.ok h (v := nI (cntN A (nI 1) (aN A 4))) ?_ ?_
      · unfold pX6_about
        rw [rng_ok hx, bx_n, if_neg (by decide), if_neg (by decide), if_neg (by decide), if_neg (by decide), if_neg (by decide), if_neg (by decide), if_neg (by decide), if_neg (by decide), if_pos rfl, c_many hC iv, cr1_s]
      · rw [em, if_neg (by decide), if_pos rfl, m_many hM2, cr1_s]
    · refine MG.ok h (v := colSum (aT A 4) 3 (aN A 4)) ?_ ?_
      · unfold pX6_about
        rw [rng_ok hx, bx_n, if_neg (by decide), if_neg (by decide), if_neg (by decide), if_neg (by decide), if_neg (by decide), if_neg (by decide), if_neg (by decide), if_neg (by decide), if_neg (by decide), if_pos rfl, s12, c_sum hC (k := 4) (o := 9) (n := 112) (j := 3) (by decide) rfl rfl (by decide), cr1_s]
      · rw [em, if_neg (by decide), if_neg (by decide), if_pos rfl, m_tanks hM2, cr1_s]
    · refine MG.ok h (v := colSum (aT A 2) 1 (aN A 2)) ?_ ?_
      · unfold pX6_about
        rw [rng_ok hx, bx_n, if_neg (by decide), if_neg (by decide), if_neg (by decide), if_neg (by decide), if_neg (by decide), if_neg (by decide), if_neg (by decide), if_neg (by decide), if_neg (by decide), if_neg (by decide), if_pos rfl, s8, c_sum hC (k := 2) (o := 5) (n := 8) (j := 1) (by decide) rfl rfl (by decide), cr1_s]
      · rw [em, if_neg (by decide), if_neg (by decide), if_neg (by decide), if_pos rfl, m_depots hM2, cr1_s]
    · refine MG.ok h (v := colSum (aT A 4) 6 (aN A 4)) ?_ ?_
      · unfold pX6_about
        rw [rng_ok hx, bx_n, if_neg (by decide), if_neg (by decide), if_neg (by decide), if_neg (by decide), if_neg (by decide), if_neg (by decide), if_neg (by decide), if_neg (by decide), if_neg (by decide), if_neg (by decide), if_neg (by decide), s12, c_sum hC (k := 4) (o := 9) (n := 112) (j := 6) (by decide) rfl rfl (by decide), cr1_s]
      · rw [em, if_neg (by decide), if_neg (by decide), if_neg (by decide), if_neg (by decide), if_pos rfl, ld_n (j := 7) (by decide) (by decide), hM1.2.2.2.2]
  · refine MG.no h 0 (by decide) ?_ ?_ (b := nI 0)
    · unfold pX6_about
      rw [rng_no hx, bx_e]
      rfl
    · unfold pX7_about pX7_about_b18
      rw [inr_no (by decide) (by decide) hx, cr1_s, if_pos (by decide), refused_n (by decide) (by decide), cw2_s, if_neg (by decide)]
theorem a_convoy (h : PI C D) (x y : Int32) : MG ["java/lang/IndexOutOfBoundsException", "java/lang/IllegalArgumentException"] C (pX6_convoy x y C) (pX7_convoy x y D) := by
  obtain ⟨⟨A, hb, hC, hM, ⟨iv, L, hL, hL1, hL2, hD⟩, h12, hS⟩, hT, hP, hH⟩ := id h
  have hM1 : RepR (sto D 0 0 (nI 0) 3) A := by
    rw [sto_k (by decide)]
    exact hM
  have hM2 : RepR (sB (sto D 0 0 (nI 0)) 3 0) A := hM1
  have h4 := cnt3 iv
  have h16 := cnt4 iv
  have h6 := cnt1 iv
  have h40 : aN A 0 ≤ 4 := iv.cnt 0 (by decide)
  have h42 : aN A 2 ≤ 4 := iv.cnt 2 (by decide)
  rcases idx x (aN A 3) (by omega) with ⟨i, hi, rfl⟩ | hx
  · have ex3 := ex_ok hC iv (N := 16) (k := 3) (o := 7) (by decide) rfl hi
    rw [← s10] at ex3
    by_cases hy : nI 0 ≤ y ∧ y ≤ nI 7
    · have em : pX7_convoy (nI i) y D = pX7_convoy_b30 (nI i) y (nI 0) D := by
        unfold pX7_convoy
        rw [isConvoy_ok hM iv hi, cr1_s, if_neg (by decide), inr_ok (by decide) (by decide) hy, cr1_s, if_neg (by decide)]
      obtain ⟨q, q0, q1, rfl⟩ := rngN (by decide) (by decide) hy
      have hq : q = 0 ∨ q = 1 ∨ q = 2 ∨ q = 3 ∨ q = 4 ∨ q = 5 ∨ q = 6 ∨ q = 7 := by omega
      unfold pX7_convoy_b30 at em
      rw [refused_0, cw2_s, if_pos (by decide)] at em
      rcases hq with rfl | rfl | rfl | rfl | rfl | rfl | rfl | rfl
      · refine MG.ok h (v := aT A 3 i 0) ?_ ?_
        · unfold pX6_convoy
          rw [ex3, bx_n, rng_ok hy, bx_n, if_pos rfl, s10, C_getC hC hi (by decide), cr1_s]
        · rw [em, if_pos rfl, convoyAt_n, cr1_s, R_ldC0 hM1 hi]
      · refine MG.ok h (v := nI (aL A 0 i).length) ?_ ?_
        · unfold pX6_convoy
          rw [ex3, bx_n, rng_ok hy, bx_n, if_neg (by decide), if_pos rfl, s14, C_size0 hC (by omega), cr1_s]
        · rw [em, if_neg (by decide), if_pos rfl, convoyAt_n, cr1_s, R_size0 hM1 hi]
      · refine MG.ok h (v := slowF A (aL A 0 i)) ?_ ?_
        · unfold pX6_convoy
          rw [ex3, bx_n, rng_ok hy, bx_n, if_neg (by decide), if_neg (by decide), if_pos rfl, c_slow hC iv hi, cr1_s]
        · rw [em, if_neg (by decide), if_neg (by decide), if_pos rfl, m_slow hM2 iv hi, cr1_s]
      · refine MG.ok h (v := aT A 3 i 1) ?_ ?_
        · unfold pX6_convoy
          rw [ex3, bx_n, rng_ok hy, bx_n, if_neg (by decide), if_neg (by decide), if_neg (by decide), if_pos rfl, s10, C_getC hC hi (by decide), cr1_s]
        · rw [em, if_neg (by decide), if_neg (by decide), if_neg (by decide), if_pos rfl, pk_sub (by decide), convoyAt_n, cr1_s, R_ldC1 hM1 hi]
      · refine MG.ok h (v := aT A 3 i 2) ?_ ?_
        · unfold pX6_convoy
          rw [ex3, bx_n, rng_ok hy, bx_n, if_neg (by decide), if_neg (by decide), if_neg (by decide), if_neg (by decide), if_pos rfl, s10, C_getC hC hi (by decide), cr1_s]
        · rw [em, if_neg (by decide), if_neg (by decide), if_neg (by decide), if_neg (by decide), if_pos rfl, pk_sub (by decide), convoyAt_n, cr1_s, R_ldC2 hM1 hi]
      · refine MG.ok h (v := aT A 3 i 3) ?_ ?_
        · unfold pX6_convoy
          rw [ex3, bx_n, rng_ok hy, bx_n, if_neg (by decide), if_neg (by decide), if_neg (by decide), if_neg (by decide), if_neg (by decide), if_pos rfl, s10, C_getC hC hi (by decide), cr1_s]
        · rw [em, if_neg (by decide), if_neg (by decide), if_neg (by decide), if_neg (by decide), if_neg (by decide), if_pos rfl, pk_sub (by decide), convoyAt_n, cr1_s, R_ldC3 hM1 hi]
      · refine MG.ok h (v := litF A (nI 0) (aL A 0 i)) ?_ ?_
        · unfold pX6_convoy
          rw [ex3, bx_n, rng_ok hy, bx_n, if_neg (by decide), if_neg (by decide), if_neg (by decide), if_neg (by decide), if_neg (by decide), if_neg (by decide), if_pos rfl, c_liters hC iv hi, cr1_s]
        · rw [em, if_neg (by decide), if_neg (by decide), if_neg (by decide), if_neg (by decide), if_neg (by decide), if_neg (by decide), if_pos rfl, m_liters hM2 iv hi, cr1_s]
      · refine MG.ok h (v := bI (decide (aT A 3 i 0 = aS A 0))) ?_ ?_
        · unfold pX6_convoy
          rw [ex3, bx_n, rng_ok hy, bx_n, if_neg (by decide), if_neg (by decide), if_neg (by decide), if_neg (by decide), if_neg (by decide), if_neg (by decide), if_neg (by decide), c_end hC hi, cr1_s]
          cases decide (aT A 3 i 0 = aS A 0) <;> rfl
        · rw [em, if_neg (by decide), if_neg (by decide), if_neg (by decide), if_neg (by decide), if_neg (by decide), if_neg (by decide), if_neg (by decide), if_pos rfl, m_there hM2 hi, cr1_s]
          cases decide (aT A 3 i 0 = aS A 0) <;> rfl
    · refine MG.no h 1 (by decide) ?_ ?_ (b := nI 0)
      · unfold pX6_convoy
        rw [s10, ex_ok hC iv (k := 3) (by decide) rfl hi, bx_n, rng_no hy, bx_e]
        rfl
      · unfold pX7_convoy pX7_convoy_b30
        rw [isConvoy_ok hM iv hi, cr1_s, if_neg (by decide), inr_no (by decide) (by decide) hy, cr1_s, if_pos (by decide), refused_n (by decide) (by decide), cw2_s, if_neg (by decide)]
  · refine MG.no h 0 (by decide) ?_ ?_ (b := nI 0)
    · unfold pX6_convoy
      rw [s10, ex_no hC (k := 3) (by decide) rfl hx, bx_e]
      rfl
    · unfold pX7_convoy pX7_convoy_b30
      rw [isConvoy_no hM iv hx, cr1_s, if_pos (by decide), refused_n (by decide) (by decide), cw2_s, if_neg (by decide)]
theorem a_member (h : PI C D) (x y : Int32) : MG ["java/lang/IndexOutOfBoundsException", "java/lang/IllegalArgumentException"] C (pX6_member x y C) (pX7_member x y D) := by
  obtain ⟨⟨A, hb, hC, hM, ⟨iv, L, hL, hL1, hL2, hD⟩, h12, hS⟩, hT, hP, hH⟩ := id h
  have hM1 : RepR (sto D 0 0 (nI 0) 3) A := by
    rw [sto_k (by decide)]
    exact hM
  have hM2 : RepR (sB (sto D 0 0 (nI 0)) 3 0) A := hM1
  have h4 := cnt3 iv
  have h16 := cnt4 iv
  have h6 := cnt1 iv
  have h40 : aN A 0 ≤ 4 := iv.cnt 0 (by decide)
  have h42 : aN A 2 ≤ 4 := iv.cnt 2 (by decide)
  rcases idx x (aN A 3) (by omega) with ⟨i, hi, rfl⟩ | hx
  · have l8 := (iv.line0 i hi).1
    by_cases hy : 0 ≤ y
    · obtain ⟨j, j1, rfl⟩ := nI_of (x := y) (Int32.not_lt.mpr hy)
      have ec : pX6_member (nI i) (nI j) C = cr1 (pX2_get 4 32 (nI i) (nI j) (sB (sB C 3) 11)) fun v32 => some (.inl v32) := by
        unfold pX6_member pX6_member_b20
        rw [s10, ex_ok hC iv (k := 3) (by decide) rfl hi, bx_n, if_pos hy, refA_0, bx_n, s14]
      have em : pX7_member (nI i) (nI j) D = (if nI (aL A 0 i).length ≤ nI j then some (-9, sto D 0 0 (nI 0)) else cr1 (pX7_who (nI i) (nI j) (sB (sto D 0 0 (nI 0)) 3)) fun v48 => some (v48, sto D 0 0 (nI 0))) := by
        unfold pX7_member pX7_member_b22
        rw [isConvoy_ok hM iv hi, cr1_s, if_neg (by decide), if_pos hy, refused_0, cw2_s, if_pos (by decide), m_sizeOf hM2 hi, cr1_s]
      by_cases z : j < (aL A 0 i).length
      · refine MG.ok h (v := nI ((aL A 0 i).getD j 0)) ?_ ?_
        · rw [ec, C_get0 hC (by omega) z, cr1_s]
        · rw [em, n_le (by omega) (by omega), if_neg (by omega), m_who hM2 hi z, cr1_s]
      · refine MG.ok h (v := -9) ?_ ?_
        · rw [ec, lin_get_out hC.i (by decide) rfl (show i < 4 by omega) (Or.inr (by rw [P_le (by omega) (by omega)]; omega)), cr1_s]
        · rw [em, n_le (by omega) (by omega), if_pos (by omega)]
    · refine MG.no h 1 (by decide) ?_ ?_ (b := nI 0)
      · unfold pX6_member pX6_member_b20
        rw [s10, ex_ok hC iv (k := 3) (by decide) rfl hi, bx_n, if_neg hy, refA_1, bx_e]
        rfl
      · unfold pX7_member pX7_member_b22
        rw [isConvoy_ok hM iv hi, cr1_s, if_neg (by decide), if_neg hy, refused_n (by decide) (by decide), cw2_s, if_neg (by decide)]
  · refine MG.no h 0 (by decide) ?_ ?_ (b := nI 0)
    · unfold pX6_member
      rw [s10, ex_no hC (k := 3) (by decide) rfl hx, bx_e]
      rfl
    · unfold pX7_member pX7_member_b22
      rw [isConvoy_no hM iv hx, cr1_s, if_pos (by decide), refused_n (by decide) (by decide), cw2_s, if_neg (by decide)]
theorem a_vehicle (h : PI C D) (x y : Int32) : MG ["java/lang/IndexOutOfBoundsException", "java/lang/IllegalArgumentException"] C (pX6_vehicle x y C) (pX7_vehicle x y D) := by
  obtain ⟨⟨A, hb, hC, hM, ⟨iv, L, hL, hL1, hL2, hD⟩, h12, hS⟩, hT, hP, hH⟩ := id h
  have hM1 : RepR (sto D 0 0 (nI 0) 3) A := by
    rw [sto_k (by decide)]
    exact hM
  have hM2 : RepR (sB (sto D 0 0 (nI 0)) 3 0) A := hM1
  have h4 := cnt3 iv
  have h16 := cnt4 iv
  have h6 := cnt1 iv
  have h40 : aN A 0 ≤ 4 := iv.cnt 0 (by decide)
  have h42 : aN A 2 ≤ 4 := iv.cnt 2 (by decide)
  rcases idx x (aN A 4) (by omega) with ⟨i, hi, rfl⟩ | hx
  · by_cases hy : nI 0 ≤ y ∧ y ≤ nI 6
    · have em : pX7_vehicle (nI i) y D = pX7_vehicle_b41 (nI i) y (nI 0) D := by
        unfold pX7_vehicle
        rw [R_n4 hM, mix_ok hi (by omega), cr1_s, if_neg (by decide), inr_ok (by decide) (by decide) hy, cr1_s, if_neg (by decide)]
      have ec := ex_ok hC iv (N := 112) (k := 4) (o := 9) (by decide) rfl hi
      rw [← s12] at ec
      obtain ⟨q, q0, q1, rfl⟩ := rngN (by decide) (by decide) hy
      unfold pX7_vehicle_b41 at em
      rw [refused_0, cw2_s, if_pos (by decide)] at em
      refine MG.ok h (v := aT A 4 i q) ?_ ?_
      · unfold pX6_vehicle
        rw [ec, bx_n, rng_ok hy, bx_n, s12, C_getV hC hi (by omega), cr1_s]
      · rw [em, carAt_n, cr1_s, R_ldV hM1 hi (by omega)]
    · refine MG.no h 1 (by decide) ?_ ?_ (b := nI 0)
      · unfold pX6_vehicle
        rw [s12, ex_ok hC iv (k := 4) (by decide) rfl hi, bx_n, rng_no hy, bx_e]
        rfl
      · unfold pX7_vehicle pX7_vehicle_b41
        rw [R_n4 hM, mix_ok hi (by omega), cr1_s, if_neg (by decide), inr_no (by decide) (by decide) hy, cr1_s, if_pos (by decide), refused_n (by decide) (by decide), cw2_s, if_neg (by decide)]
  · refine MG.no h 0 (by decide) ?_ ?_ (b := nI 0)
    · unfold pX6_vehicle
      rw [s12, ex_no hC (k := 4) (by decide) rfl hx, bx_e]
      rfl
    · unfold pX7_vehicle pX7_vehicle_b41
      rw [R_n4 hM, mix_no (by omega) hx, cr1_s, if_pos (by decide), refused_n (by decide) (by decide), cw2_s, if_neg (by decide)]
theorem a_depot (h : PI C D) (x y : Int32) : MG ["java/lang/IndexOutOfBoundsException", "java/lang/IllegalArgumentException"] C (pX6_depot x y C) (pX7_depot x y D) := by
  obtain ⟨⟨A, hb, hC, hM, ⟨iv, L, hL, hL1, hL2, hD⟩, h12, hS⟩, hT, hP, hH⟩ := id h
  have hM1 : RepR (sto D 0 0 (nI 0) 3) A := by
    rw [sto_k (by decide)]
    exact hM
  have hM2 : RepR (sB (sto D 0 0 (nI 0)) 3 0) A := hM1
  have h4 := cnt3 iv
  have h16 := cnt4 iv
  have h6 := cnt1 iv
  have h40 : aN A 0 ≤ 4 := iv.cnt 0 (by decide)
  have h42 : aN A 2 ≤ 4 := iv.cnt 2 (by decide)
  rcases idx x (aN A 2) (by omega) with ⟨i, hi, rfl⟩ | hx
  · by_cases hy : nI 0 ≤ y ∧ y ≤ nI 1
    · have em : pX7_depot (nI i) y D = pX7_depot_b28 (nI i) y (nI 0) D := by
        unfold pX7_depot
        rw [isDepot_ok hM iv hi, cr1_s, if_neg (by decide), inr_ok (by decide) (by decide) hy, cr1_s, if_neg (by decide)]
      have ec := ex_ok hC iv (N := 8) (k := 2) (o := 5) (by decide) rfl hi
      rw [← s8] at ec
      obtain ⟨q, q0, q1, rfl⟩ := rngN (by decide) (by decide) hy
      unfold pX7_depot_b28 at em
      rw [refused_0, cw2_s, if_pos (by decide)] at em
      refine MG.ok h (v := aT A 2 i q) ?_ ?_
      · unfold pX6_depot
        rw [ec, bx_n, rng_ok hy, bx_n, s8, C_getD hC hi (by omega), cr1_s]
      · rw [em, depotAt_n, cr1_s, R_ldD hM1 hi (by omega)]
    · refine MG.no h 1 (by decide) ?_ ?_ (b := nI 0)
      · unfold pX6_depot
        rw [s8, ex_ok hC iv (k := 2) (by decide) rfl hi, bx_n, rng_no hy, bx_e]
        rfl
      · unfold pX7_depot pX7_depot_b28
        rw [isDepot_ok hM iv hi, cr1_s, if_neg (by decide), inr_no (by decide) (by decide) hy, cr1_s, if_pos (by decide), refused_n (by decide) (by decide), cw2_s, if_neg (by decide)]
  · refine MG.no h 0 (by decide) ?_ ?_ (b := nI 0)
    · unfold pX6_depot
      rw [s8, ex_no hC (k := 2) (by decide) rfl hx, bx_e]
      rfl
    · unfold pX7_depot pX7_depot_b28
      rw [isDepot_no hM iv hx, cr1_s, if_pos (by decide), refused_n (by decide) (by decide), cw2_s, if_neg (by decide)]
theorem a_gate (h : PI C D) (x y : Int32) : MG ["java/lang/IndexOutOfBoundsException", "java/lang/IllegalArgumentException"] C (pX6_gate x y C) (pX7_gate x y D) := by
  obtain ⟨⟨A, hb, hC, hM, ⟨iv, L, hL, hL1, hL2, hD⟩, h12, hS⟩, hT, hP, hH⟩ := id h
  have hM1 : RepR (sto D 0 0 (nI 0) 3) A := by
    rw [sto_k (by decide)]
    exact hM
  have hM2 : RepR (sB (sto D 0 0 (nI 0)) 3 0) A := hM1
  have h4 := cnt3 iv
  have h16 := cnt4 iv
  have h6 := cnt1 iv
  have h40 : aN A 0 ≤ 4 := iv.cnt 0 (by decide)
  have h42 : aN A 2 ≤ 4 := iv.cnt 2 (by decide)
  rcases idx x (aN A 0) (by omega) with ⟨i, hi, rfl⟩ | hx
  · by_cases hy : nI 0 ≤ y ∧ y ≤ nI 5
    · have em : pX7_gate (nI i) y D = pX7_gate_b40 (nI i) y (nI 0) D := by
        unfold pX7_gate
        rw [R_n0 hM, mix_ok hi (by omega), cr1_s, if_neg (by decide), inr_ok (by decide) (by decide) hy, cr1_s, if_neg (by decide)]
      have ec := ex_ok hC iv (N := 16) (k := 0) (o := 1) (by decide) rfl hi
      rw [← s4] at ec
      obtain ⟨q, q0, q1, rfl⟩ := rngN (by decide) (by decide) hy
      unfold pX7_gate_b40 at em
      rw [refused_0, cw2_s, if_pos (by decide)] at em
      by_cases z4 : q < 4
      · refine MG.ok h (v := aT A 0 i q) ?_ ?_
        · unfold pX6_gate
          rw [ec, bx_n, rng_ok hy, bx_n, n_eq (by omega) (by decide), if_neg (by omega), n_eq (by omega) (by decide), if_neg (by omega), s4, C_getG hC hi z4, cr1_s]
        · rw [em, n_le (by decide) (by omega), if_neg (by omega), gateAt_n, cr1_s, R_ldG hM1 hi z4]
      · have hq : q = 4 ∨ q = 5 := by omega
        rcases hq with rfl | rfl
        · refine MG.ok h (v := bI (shutG A i)) ?_ ?_
          · unfold pX6_gate
            rw [ec, bx_n, rng_ok hy, bx_n, if_pos rfl, c_closed hC iv hi, cr1_s, n_if ((clF_le A _).trans (clF_0 iv hi))]
            cases shutG A i <;> rfl
          · rw [em, if_pos (by decide), if_neg (by decide), m_closed hM2 iv hi, cr1_s]
            cases shutG A i <;> rfl
        · refine MG.ok h (v := clF A i) ?_ ?_
          · unfold pX6_gate
            rw [ec, bx_n, rng_ok hy, bx_n, if_neg (by decide), if_pos rfl, c_closed hC iv hi, cr1_s]
          · rw [em, if_pos (by decide), if_pos rfl, m_clF hM1 iv hi, cr1_s]
    · refine MG.no h 1 (by decide) ?_ ?_ (b := nI 0)
      · unfold pX6_gate
        rw [s4, ex_ok hC iv (k := 0) (by decide) rfl hi, bx_n, rng_no hy, bx_e]
        rfl
      · unfold pX7_gate pX7_gate_b40
        rw [R_n0 hM, mix_ok hi (by omega), cr1_s, if_neg (by decide), inr_no (by decide) (by decide) hy, cr1_s, if_pos (by decide), refused_n (by decide) (by decide), cw2_s, if_neg (by decide)]
  · refine MG.no h 0 (by decide) ?_ ?_ (b := nI 0)
    · unfold pX6_gate
      rw [s4, ex_no hC (k := 0) (by decide) rfl hx, bx_e]
      rfl
    · unfold pX7_gate pX7_gate_b40
      rw [R_n0 hM, mix_no (by omega) hx, cr1_s, if_pos (by decide), refused_n (by decide) (by decide), cw2_s, if_neg (by decide)]
theorem a_bay (h : PI C D) (x y : Int32) : MG ["java/lang/IndexOutOfBoundsException", "java/lang/IllegalArgumentException"] C (pX6_bay x y C) (pX7_bay x y D) := by
  obtain ⟨⟨A, hb, hC, hM, ⟨iv, L, hL, hL1, hL2, hD⟩, h12, hS⟩, hT, hP, hH⟩ := id h
  have hM1 : RepR (sto D 0 0 (nI 0) 3) A := by
    rw [sto_k (by decide)]
    exact hM
  have hM2 : RepR (sB (sto D 0 0 (nI 0)) 3 0) A := hM1
  have h4 := cnt3 iv
  have h16 := cnt4 iv
  have h6 := cnt1 iv
  have h40 : aN A 0 ≤ 4 := iv.cnt 0 (by decide)
  have h42 : aN A 2 ≤ 4 := iv.cnt 2 (by decide)
  rcases idx x (aN A 1) (by omega) with ⟨i, hi, rfl⟩ | hx
  · by_cases hy : nI 0 ≤ y ∧ y ≤ nI 3
    · have em : pX7_bay (nI i) y D = pX7_bay_b40 (nI i) y (nI 0) D := by
        unfold pX7_bay
        rw [R_n1 hM, mix_ok hi (by omega), cr1_s, if_neg (by decide), inr_ok (by decide) (by decide) hy, cr1_s, if_neg (by decide)]
      have ec := ex_ok hC iv (N := 12) (k := 1) (o := 3) (by decide) rfl hi
      rw [← s6] at ec
      obtain ⟨q, q0, q1, rfl⟩ := rngN (by decide) (by decide) hy
      unfold pX7_bay_b40 at em
      rw [refused_0, cw2_s, if_pos (by decide)] at em
      have l6 := (iv.line1 i hi).1
      by_cases z2 : q < 2
      · refine MG.ok h (v := aT A 1 i q) ?_ ?_
        · unfold pX6_bay
          rw [ec, bx_n, rng_ok hy, bx_n, n_eq (by omega) (by decide), if_neg (by omega), n_eq (by omega) (by decide), if_neg (by omega), s6, C_getB hC hi z2, cr1_s]
        · rw [em, n_le (by decide) (by omega), if_neg (by omega), bayAt_n, cr1_s, R_ldB hM1 hi z2]
      · have hq : q = 2 ∨ q = 3 := by omega
        rcases hq with rfl | rfl
        · refine MG.ok h (v := nI (aL A 1 i).length) ?_ ?_
          · unfold pX6_bay
            rw [ec, bx_n, rng_ok hy, bx_n, if_pos rfl, s17, C_size1 hC (by omega), cr1_s]
          · rw [em, if_neg (by decide), bayAt_n, cr1_s, R_size1 hM1 hi]
        · by_cases z : 0 < (aL A 1 i).length
          · refine MG.ok h (v := nI ((aL A 1 i).getD 0 0)) ?_ ?_
            · unfold pX6_bay
              rw [ec, bx_n, rng_ok hy, bx_n, if_neg (by decide), if_pos rfl, s17, C_get1 hC (by omega) z, cr1_s]
            · rw [em, if_pos (by decide), bayAt_n, cr1_s, R_size1 hM1 hi, n_eq0 (by omega), if_neg (by omega), bayAt_n, cr1_s, R_head hM1 hi z]
          · refine MG.ok h (v := -9) ?_ ?_
            · unfold pX6_bay
              rw [ec, bx_n, rng_ok hy, bx_n, if_neg (by decide), if_pos rfl, s17, lin_get_out hC.q (by decide) rfl (show i < 6 by omega) (Or.inr (by rw [P_le (by omega) (by decide)]; omega)), cr1_s]
            · rw [em, if_pos (by decide), bayAt_n, cr1_s, R_size1 hM1 hi, n_eq0 (by omega), if_pos (by omega)]
    · refine MG.no h 1 (by decide) ?_ ?_ (b := nI 0)
      · unfold pX6_bay
        rw [s6, ex_ok hC iv (k := 1) (by decide) rfl hi, bx_n, rng_no hy, bx_e]
        rfl
      · unfold pX7_bay pX7_bay_b40
        rw [R_n1 hM, mix_ok hi (by omega), cr1_s, if_neg (by decide), inr_no (by decide) (by decide) hy, cr1_s, if_pos (by decide), refused_n (by decide) (by decide), cw2_s, if_neg (by decide)]
  · refine MG.no h 0 (by decide) ?_ ?_ (b := nI 0)
    · unfold pX6_bay
      rw [s6, ex_no hC (k := 1) (by decide) rfl hx, bx_e]
      rfl
    · unfold pX7_bay pX7_bay_b40
      rw [R_n1 hM, mix_no (by omega) hx, cr1_s, if_pos (by decide), refused_n (by decide) (by decide), cw2_s, if_neg (by decide)]
end LOOK
