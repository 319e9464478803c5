/-! ===== hold, supply, pass, undo, save, restore ===== -/
section ACTS
variable {C D C' D' : mM} {A : aA}
theorem put_now {ρ : Type} {o k n i j : Nat} (hC : RepC (sB C o) A) (x : Int32) (hk : k < 5) (hn : n = aMx k * aCo k) (hi : i < aN A k) (hj : j < aCo k) :
    (∀ K : mM → Option ρ, cvs C (o + (1 + 2 * k)) 2 (pX5_put n (nI i) (nI j) x (sB C (o + (1 + 2 * k)))) K = K (sto C (o + (1 + 2 * k + 1)) (i * aCo k + j) x)) ∧ RepC (sB (sto C (o + (1 + 2 * k + 1)) (i * aCo k + j) x) o) (aPut A k i j x) := by
  have ht := hC.2.1 k hk
  have hp := hC.put x hk hi hj
  rw [wB_sto (by decide), wB_self] at hp
  refine ⟨fun K => ?_, ?_⟩
  · rw [← sB_sB, tab_put ht (Nat.lt_trans (aMx_lt hk).1 (by decide)) hn x hi hj, cvs_s, sB_sB, wB_sto (by decide), wB_self, Nat.add_assoc]
  · rw [sB_sto]
    exact hp
theorem raise_now {ρ : Type} {o k n i j : Nat} (hC : RepC (sB C o) A) (x : Int32) (hk : k < 5) (hn : n = aMx k * aCo k) (hi : i < aN A k) (hj : j < aCo k) :
    (∀ K : mM → Option ρ, cvs C (o + (1 + 2 * k)) 2 (pX5_raise n (nI i) (nI j) x (sB C (o + (1 + 2 * k)))) K = K (sto C (o + (1 + 2 * k + 1)) (i * aCo k + j) (aT A k i j + x))) ∧ RepC (sB (sto C (o + (1 + 2 * k + 1)) (i * aCo k + j) (aT A k i j + x)) o) (aPut A k i j (aT A k i j + x)) := by
  have ht := hC.2.1 k hk
  have hp := hC.put (aT A k i j + x) hk hi hj
  rw [wB_sto (by decide), wB_self] at hp
  refine ⟨fun K => ?_, ?_⟩
  · rw [← sB_sB, tab_raise ht (Nat.lt_trans (aMx_lt hk).1 (by decide)) hn x hi hj, cvs_s, sB_sB, wB_sto (by decide), wB_self, Nat.add_assoc]
  · rw [sB_sto]
    exact hp
theorem a_hold (h : PI C D) (x y : Int32) : MP ["java/lang/IndexOutOfBoundsException", "java/lang/IllegalArgumentException"] (pX6_hold x y C) (pX7_hold x y D) := by
  obtain ⟨⟨A, hA⟩, hT, hP, hH⟩ := id h
  obtain ⟨hb, hC, hM, ⟨iv, L, hL, hL1, hL2⟩, h12, hS⟩ := id hA
  have h4 := cnt3 iv
  obtain ⟨C1, D1, m1, m2, hP1, hA1, z1⟩ := remA h hA
  obtain ⟨b1, hC1, hM1, _, _, _⟩ := id hA1
  rcases idx x (aN A 3) (by omega) with ⟨c, hc, rfl⟩ | hx
  · have ex3 := ex_ok hC iv (N := 16) (k := 3) (o := 7) (by decide) rfl hc
    rw [← s10] at ex3
    by_cases hy : nI 0 ≤ y ∧ y ≤ nI 23
    · obtain ⟨p1, p2⟩ := put_now (ρ := (Int32 ⊕ String) × mM) (o := 3) (k := 3) (n := 16) (i := c) (j := 1) hC1 y (by decide) rfl hc (by decide)
      have p1' : ∀ K : mM → Option ((Int32 ⊕ String) × mM), cvs C1 10 2 (pX5_put 16 (nI c) (nI 1) y (sB C1 10)) K = K (sto C1 11 (c * aCo 3 + 1) y) := p1
      refine MP.ok (v := aT A 3 c 1) (C' := sto C1 11 (c * aCo 3 + 1) y) (D' := sto D1 3 (86 + 13 * c + 2) y) ?_ ?_ (hP1.now (A := aPut A 3 c 1 y) (fun a ha => sto_k (by omega)) (fun a _ h3 => sto_k h3) (fun j _ _ => by rw [sto_k (by decide)]) ⟨b1.choose, ?_⟩ p2 ?_ ⟨iv.put3 _ _ _, L, hL, hL1, hL2⟩) ?_
      · unfold pX6_hold
        have eg : pX5_get 16 (nI c) (nI 1) (sB C1 10) = some (aT A 3 c 1) := by
          rw [s10]
          exact C_getC hC1 hc (by decide)
        rw [ex3, bx_n, rng_ok hy, bx_n, m1, cr1_s, eg, cr1_s, p1']
      · unfold pX7_hold pX7_isHold pX7_hold_b25
        rw [isConvoy_ok hM iv hc, cr1_s, if_neg (by decide), inr_ok (by decide) (by decide) hy, cr1_s, gd_p (bI_Z _), cr1_s, if_neg (by decide), refused_0, cw2_s, if_pos (by decide), m2, cr1_s, convoyAt_n, cr1_s, R_ldC1 hM1 hc, cr1_s, st_n (by omega) (by decide)]
      · rw [sto_k (by decide)]
        exact b1.choose_spec
      · rw [sto_u]
        exact hM1.put (k := 3) (i := c) (j := 1) _ (by decide) hc (by decide) (by decide)
      · rw [sto_k (by decide)]
        exact z1
    · refine MP.no h 1 (by decide) (b := nI 0) ?_ ?_
      · unfold pX6_hold
        rw [ex3, bx_n, rng_no hy, bx_e]
        rfl
      · unfold pX7_hold pX7_isHold pX7_hold_b25
        rw [isConvoy_ok hM iv hc, cr1_s, if_neg (by decide), inr_no (by decide) (by decide) hy, cr1_s, gd_p (bI_Z _), cr1_s, if_pos (by decide), refused_n (by decide) (by decide), cw2_s, if_neg (by decide)]
  · refine MP.no h 0 (by decide) (b := nI 0) ?_ ?_
    · unfold pX6_hold
      rw [s10, ex_no hC (k := 3) (by decide) rfl hx, bx_e]
      rfl
    · unfold pX7_hold pX7_hold_b25
      rw [isConvoy_no hM iv hx, cr1_s, if_pos (by decide), refused_n (by decide) (by decide), cw2_s, if_neg (by decide)]
theorem a_supply (h : PI C D) (x y : Int32) : MP ["java/lang/IndexOutOfBoundsException", "java/lang/IllegalArgumentException", "java/lang/IllegalStateException"] (pX6_supply x y C) (pX7_supply x y D) := by
  obtain ⟨⟨A, hA⟩, hT, hP, hH⟩ := id h
  obtain ⟨hb, hC, hM, ⟨iv, L, hL, hL1, hL2⟩, h12, hS⟩ := id hA
  have h4 : aN A 2 ≤ 4 := iv.cnt 2 (by decide)
  obtain ⟨C1, D1, m1, m2, hP1, hA1, z1⟩ := remA h hA
  obtain ⟨b1, hC1, hM1, _, _, _⟩ := id hA1
  rcases idx x (aN A 2) (by omega) with ⟨c, hc, rfl⟩ | hx
  · have ex3 := ex_ok hC iv (N := 8) (k := 2) (o := 5) (by decide) rfl hc
    rw [← s8] at ex3
    obtain ⟨q, q1, q2⟩ := iv.depot c hc
    by_cases hy : nI 1 ≤ y ∧ y ≤ nI 500
    · obtain ⟨p, p0, p9, rfl⟩ := rngN (by decide) (by decide) hy
      have ec : pX6_supply (nI c) (nI p) C = if q + p ≤ 999 then (pX6_supply_b44 (nI c) (nI p) (nI 0) C) else (pX6_supply_b44 (nI c) (nI p) (nI 1) C) := by
        unfold pX6_supply
        rw [ex3, bx_n, rng_ok hy, bx_n, s8, C_getD hC hc (by decide), cr1_s, q1, nI_add, n_le (by omega) (by decide)]
      have em : pX7_supply (nI c) (nI p) D = if q + p ≤ 999 then (pX7_supply_b52 (nI c) (nI p) (nI 0) D) else (pX7_supply_b52 (nI c) (nI p) (nI 3) D) := by
        unfold pX7_supply
        rw [isDepot_ok hM iv hc, cr1_s, if_neg (by decide), inr_ok (by decide) (by decide) hy, cr1_s, if_neg (by decide), depotAt_n, cr1_s, R_ldD hM hc (by decide), q1, nI_add, n_le (by omega) (by decide)]
      by_cases z : q + p ≤ 999
      · rw [if_pos z] at ec em
        obtain ⟨p1, p2⟩ := raise_now (ρ := (Int32 ⊕ String) × mM) (o := 3) (k := 2) (n := 8) (i := c) (j := 1) hC1 (nI p) (by decide) rfl hc (by decide)
        have p1' : ∀ K : mM → Option ((Int32 ⊕ String) × mM), cvs C1 8 2 (pX5_raise 8 (nI c) (nI 1) (nI p) (sB C1 8)) K = K (sto C1 9 (c * aCo 2 + 1) (aT A 2 c 1 + nI p)) := p1
        have p3 : RepC (sB (sto C1 9 (c * aCo 2 + 1) (aT A 2 c 1 + nI p)) 3) (aPut A 2 c 1 (aT A 2 c 1 + nI p)) := p2
        have r3 : RepR (sto D1 3 (78 + 2 * c + 1) (aT A 2 c 1 + nI p) 3) (aPut A 2 c 1 (aT A 2 c 1 + nI p)) := by
          rw [sto_u]
          exact hM1.put (k := 2) (i := c) (j := 1) _ (by decide) hc (by decide) (by decide)
        refine MP.ok (v := aT A 2 c 1 + nI p) (C' := sto C1 9 (c * aCo 2 + 1) (aT A 2 c 1 + nI p)) (D' := sto D1 3 (78 + 2 * c + 1) (aT A 2 c 1 + nI p)) ?_ ?_ (hP1.now (A := aPut A 2 c 1 (aT A 2 c 1 + nI p)) (fun a ha => sto_k (by omega)) (fun a _ h3 => sto_k h3) (fun j _ _ => by rw [sto_k (by decide)]) ⟨b1.choose, ?_⟩ p3 r3 ⟨iv.stock (q := q + p) (by rw [q1, nI_add]) (by omega), L, hL, hL1, hL2.1, fun d hd => ?_⟩) ?_
        rotate_left 3
        · by_cases y : d = c
          · subst y
            rw [aT_eq, q1, nI_add]
            exact ⟨q + p, rfl, z⟩
          · rw [aT_ne (by omega)]
            exact hL2.2 d hd
        rotate_left 1
        · rw [ec]
          unfold pX6_supply_b44
          rw [ref_0, bx_n, m1, cr1_s, p1', s8, C_getD p3 hc (by decide), cr1_s, aT_eq]
        · rw [em]
          unfold pX7_supply_b52
          rw [refused_0, cw2_s, if_pos (by decide), m2, cr1_s, depotAt_n, cr1_s, R_ldD hM1 hc (by decide), st_n (by omega) (by decide), cr1_s, R_ldD r3 hc (by decide), aT_eq]
        · rw [sto_k (by decide)]
          exact b1.choose_spec
        · rw [sto_k (by decide)]
          exact z1
      · rw [if_neg z] at ec em
        refine MP.no h 2 (by decide) (b := nI 0) ?_ ?_
        · rw [ec]
          unfold pX6_supply_b44
          rw [ref_1, bx_e]
          rfl
        · rw [em]
          unfold pX7_supply_b52
          rw [refused_n (by decide) (by decide), cw2_s, if_neg (by decide)]
    · refine MP.no h 1 (by decide) (b := nI 0) ?_ ?_
      · unfold pX6_supply
        rw [ex3, bx_n, rng_no hy, bx_e]
        rfl
      · unfold pX7_supply pX7_supply_b52
        rw [isDepot_ok hM iv hc, cr1_s, if_neg (by decide), inr_no (by decide) (by decide) hy, cr1_s, if_pos (by decide), refused_n (by decide) (by decide), cw2_s, if_neg (by decide)]
  · refine MP.no h 0 (by decide) (b := nI 0) ?_ ?_
    · unfold pX6_supply
      rw [s8, ex_no hC (k := 2) (by decide) rfl hx, bx_e]
      rfl
    · unfold pX7_supply pX7_supply_b52
      rw [isDepot_no hM iv hx, cr1_s, if_pos (by decide), refused_n (by decide) (by decide), cw2_s, if_neg (by decide)]
theorem a_pass (h : PI C D) (x : Int32) : MP ["java/lang/IllegalArgumentException"] (pX6_pass x C) (pX7_pass x D) := by
  obtain ⟨⟨A, hA⟩, hT, hP, hH⟩ := id h
  obtain ⟨hb, hC, hM, ⟨iv, L, hL, hL1, hL2⟩, h12, hS⟩ := id hA
  obtain ⟨C1, D1, m1, m2, hP1, hA1, z1⟩ := remA h hA
  obtain ⟨⟨b1, hb1⟩, hC1, hM1, _, _, _⟩ := id hA1
  by_cases hx : nI 1 ≤ x ∧ x ≤ nI 99
  · obtain ⟨p, p1, p2, rfl⟩ := rngN (by decide) (by decide) hx
    have hcr : CR (sB C1 3) A (C1 3 10) (C1 3 11) b1 := ⟨hC1, hb1, rfl, rfl⟩
    obtain ⟨T, st', j1, j2⟩ := c_pass hcr iv p1 p2
    have hmr : MR D1 3 A (D1 0 12) (D1 0 13) := ⟨hM1, rfl, rfl⟩
    obtain ⟨D2, k1, k2, k3⟩ := m_pass hmr (by decide) iv (n := p) (by omega)
    obtain ⟨i1, i2, i3⟩ := iterN_ok (w := C1 3 10) p (A, C1 3 11) iv
    have ei : (iterN (D1 0 12) p (A, D1 0 13)).1 = (iterN (C1 3 10) p (A, C1 3 11)).1 := iterN_i p A _ _
    rw [ei] at k1 k2
    have i2' : aN (iterN (C1 3 10) p (A, C1 3 11)).1 = aN A := i2
    have i3' : aS (iterN (C1 3 10) p (A, C1 3 11)).1 0 = aS A 0 := i3
    have rT : RepC (sB (wB C1 3 17 T) 3) (iterN (C1 3 10) p (A, C1 3 11)).1 := j2.1.cells (fun a ha => wB_at ha)
    refine MP.ok (v := nI (cntN (iterN (C1 3 10) p (A, C1 3 11)).1 (nI 2) (aN A 4)) - nI (cntN A (nI 2) (aN A 4))) (C' := wB C1 3 17 T) (D' := D2) ?_ ?_ (hP1.now (fun a ha => wB_out (by omega)) (fun a h0 h3 => k3.1 a h0 h3) (fun j _ h13 => k3.2 j h13) ⟨st', ?_⟩ rT k2.1 ⟨i1, L, by rw [i3']; exact hL, hL1, hL2.1, (Inv.stkIter (w := C1 3 10) p (A, C1 3 11) iv).dep hL2.2⟩) ?_
    · unfold pX6_pass
      rw [rng_ok hx, bx_n, m1, cr1_s, c_many hC1 iv, cr1_s, j1, cws_s, c_many rT i1, cr1_s, i2']
    · unfold pX7_pass pX7_pass_b18
      rw [inr_ok (by decide) (by decide) hx, cr1_s, if_neg (by decide), refused_0, cw2_s, if_pos (by decide), m2, cr1_s, k1, cw2_s]
    · rw [show wB C1 3 17 T 3 = T 0 from wB_at (β := 3) (k := 0) (by decide)]
      exact j2.2.1
    · rw [k3.2 0 (by decide)]
      exact z1
  · refine MP.no h 0 (by decide) (b := nI 0) ?_ ?_
    · unfold pX6_pass
      rw [rng_no hx, bx_e]
      rfl
    · unfold pX7_pass pX7_pass_b18
      rw [inr_no (by decide) (by decide) hx, cr1_s, if_pos (by decide), refused_n (by decide) (by decide), cw2_s, if_neg (by decide)]
theorem a_undo (h : PI C D) : MP ["java/lang/IllegalStateException"] (pX6_undo C) (pX7_undo D) := by
  obtain ⟨⟨A, hA⟩, hT, hP, hH⟩ := id h
  obtain ⟨hb, hC, hM, ⟨iv, L, hL, hL1, hL2⟩, h12, hS⟩ := id hA
  obtain ⟨y0, nx, sz, y1, y2, y3, y4, y5, y6⟩ := id hH
  by_cases q : sz = 0
  · subst q
    refine MP.no h 0 (by decide) (b := nI 0) ?_ ?_
    · unfold pX6_undo pX0_size pX6_undo_b15
      rw [gf_e, y3, cr1_s, if_pos (by decide), ref_1, bx_e]
      rfl
    · unfold pX7_undo pX7_undo_b13
      rw [gf_e, y5, if_pos (by decide), refused_n (by decide) (by decide), cw2_s, if_neg (by decide)]
  · obtain ⟨B, b1, b2, b3⟩ := y6 (sz - 1) (by omega)
    have ep : (nx + 14 - sz + (sz - 1)) % 14 = (nx + 13) % 14 := by omega
    rw [ep] at b1
    have hlt : (nx + 13) % 14 < 14 := Nat.mod_lt _ (by decide)
    have b1' : RepC (sB (sto (sto C 37 1 (nI ((nx + 13) % 14))) 37 2 (nI (sz - 1))) (38 + 3 + 17 * ((nx + 13) % 14))) B := RepC.move (a := 41 + 17 * ((nx + 13) % 14)) b1 (fun i hi => by rw [sto_k (by omega), sto_k (by omega)])
    have st3 : StatC (sB (sto (sto C 37 1 (nI ((nx + 13) % 14))) 37 2 (nI (sz - 1))) 3) := StatC.move hC.stat (fun i hi => by rw [sto_k (by omega), sto_k (by omega)])
    obtain ⟨C1, g1, g2, g3⟩ := c_giveBack (b1 := 38) (nm := 14) (i := (nx + 13) % 14) hlt (by decide) (by decide) st3 b1'
    obtain ⟨D1, f1, f2, f3⟩ := m_copy (b1 := 5) (n1 := 3500) (b2 := 3) (n2 := 250) (a := 250 * (sz - 1)) (c := 0) (m := 250) (by omega) (by decide) (by decide) (by decide) (Or.inl (by decide)) (sto (sto D 0 0 (nI 0)) 0 9 (nI (sz - 1)))
    have cO : ∀ a, (a < 3 ∨ 20 ≤ a) → a ≠ 37 → C1 a = C a := fun a x1 x2 => by rw [g3 a x1, sto_k x2, sto_k x2]
    have dO : ∀ a, a ≠ 0 → a ≠ 3 → D1 a = D a := fun a x1 x2 => by rw [f2 a x2, sto_k x1, sto_k x1]
    have d0 : ∀ j, j ≠ 0 → j ≠ 9 → D1 0 j = D 0 j := fun j x1 x2 => by rw [f2 0 (by decide), sto_j x2, sto_j x1]
    have r3 : RepR (D1 3) B := b2.ext (fun r hr => by
      rw [f3, if_pos (by omega), sto_k (by decide), sto_k (by decide), show 250 * (sz - 1) + (r - 0) = 250 * (sz - 1) + r by omega])
    refine MP.ok (v := nI (sz - 1)) (C' := C1) (D' := D1) ?_ ?_ ⟨⟨B, ⟨true, g2.2.1⟩, g2.1, r3, b3, by rw [d0 12 (by decide) (by decide)]; exact h12, hS.move (fun i hi => cO _ (by omega) (by omega))⟩, hT.fr (cO 1 (by decide) (by decide)) (cO 2 (by decide) (by decide)) (d0 2 (by decide) (by decide)) (dO 1 (by decide) (by decide)), hP.fr (fun a ha => cO a (by omega) (by omega)) (dO 6 (by decide) (by decide)) (dO 7 (by decide) (by decide)), fun j hj => (y0 j hj).move (fun i hi => cO _ (by omega) (by omega)), (nx + 13) % 14, sz - 1, ?_, hlt, ?_, by omega, ?_, fun j hj => ?_⟩ ?_
    · unfold pX6_undo pX0_size pX6_undo_b15 pX0_takeBack pX0_size
      rw [gf_e, y3, cr1_s, n_eq0 (by omega), if_neg q, ref_0, bx_n, gf_e, y3, n_le0 (by omega), if_neg q, gf_e, y1, pf_e, gf_e, sto_j (by decide), y3, pf_e, nI_add, pk_sub (by omega), pk_sub (by omega), show nx + 14 - 1 = nx + 13 by omega, pk_rem (by omega) (by decide) (by decide), gf_e, sto_j (by decide), sto_i, g1, cr1_s, cr1_s, gf_e, g3 37 (Or.inr (by decide)), sto_i, cr1_s]
    · unfold pX7_undo pX7_undo_b13
      rw [gf_e, y5, n_eq0 (by omega), if_neg q, refused_0, cw2_s, if_pos (by decide), gf_e, sto_j (by decide), y5, pf_e, gf_e, pk_sub (by omega), sto_i, pk_mul, f1, cr1_s, gf_e, f2 0 (by decide), sto_i]
    · rw [g3 37 (Or.inr (by decide)), sto_j (by decide), sto_i]
    · rw [g3 37 (Or.inr (by decide)), sto_i]
    · rw [f2 0 (by decide), sto_i]
    · obtain ⟨E, e1, e2, e3⟩ := y6 j (by omega)
      have ep2 : ((nx + 13) % 14 + 14 - (sz - 1) + j) % 14 = (nx + 14 - sz + j) % 14 := by omega
      rw [ep2, dO 5 (by decide) (by decide)]
      exact ⟨E, e1.move (fun i hi => cO _ (by omega) (by omega)), e2, e3⟩
    · rw [f2 0 (by decide), sto_j (by decide), sto_i]
theorem slot_ok {x : Int32} (h : nI 0 ≤ x ∧ x ≤ nI 1) : pX6_checkSlot x = some none := by
  unfold pX6_checkSlot
  rw [within_i, cr1_s, decide_eq_true h, if_neg (by decide)]
theorem slot_no {x : Int32} (h : ¬ (nI 0 ≤ x ∧ x ≤ nI 1)) : pX6_checkSlot x = some (some "java/lang/IndexOutOfBoundsException") := by
  unfold pX6_checkSlot
  rw [within_i, cr1_s, decide_eq_false h, if_pos (by decide)]
theorem a_save (h : PI C D) (x : Int32) : MP ["java/lang/IndexOutOfBoundsException"] (pX6_save x C) (pX7_save x D) := by
  obtain ⟨⟨A, hA⟩, hT, hP, hH⟩ := id h
  obtain ⟨⟨b, hb⟩, hC, hM, hok, h12, hS⟩ := id hA
  by_cases hx : nI 0 ≤ x ∧ x ≤ nI 1
  · obtain ⟨i, _, i1, rfl⟩ := rngN (by decide) (by decide) hx
    have hi : i < 2 := by omega
    obtain ⟨C1, g1, g2, g3⟩ := c_keep (b1 := 279) (nm := 2) (i := i) hi (by decide) (by decide) (hP i hi).1 hC
    obtain ⟨D1, f1, f2, f3⟩ := m_copy (b1 := 3) (n1 := 250) (b2 := 6) (n2 := 500) (a := 0) (c := 250 * i) (m := 250) (by decide) (by omega) (by decide) (by decide) (Or.inl (by decide)) (sto D 0 0 (nI 0))
    have cO : ∀ a, a ≠ 281 → (a < 282 + 17 * i ∨ 282 + 17 * i + 17 ≤ a) → sto C1 281 i (nI 1) a = C a := fun a x1 x2 => by rw [sto_k x1, g3 a x2]
    have dO : ∀ a, a ≠ 0 → a ≠ 6 → a ≠ 7 → sto D1 7 i (nI 1) a = D a := fun a x1 x2 x3 => by rw [sto_k x3, f2 a x2, sto_k x1]
    have d0 : ∀ j, j ≠ 0 → sto D1 7 i (nI 1) 0 j = D 0 j := fun j x1 => by rw [sto_k (by decide), f2 0 (by decide), sto_j x1]
    have r3 : RepR (sto D1 7 i (nI 1) 3) A := by
      rw [dO 3 (by decide) (by decide) (by decide)]
      exact hM
    have c3 : RepC (sB (sto C1 281 i (nI 1)) 3) A := RepC.move (a := 3) hC (fun j hj => cO _ (by omega) (by omega))
    refine MP.ok (v := aS A 1) (C' := sto C1 281 i (nI 1)) (D' := sto D1 7 i (nI 1)) ?_ ?_ ⟨⟨A, hA.fr (fun a h1 h2 => cO a (by omega) (by omega)) (dO 3 (by decide) (by decide) (by decide)) (d0 12 (by decide))⟩, hT.fr (cO 1 (by decide) (by omega)) (cO 2 (by decide) (by omega)) (d0 2 (by decide)) (dO 1 (by decide) (by decide) (by decide)), fun j hj => ?_, hH.fr (fun a h1 h2 => cO a (by omega) (by omega)) (dO 5 (by decide) (by decide) (by decide)) (d0 9 (by decide))⟩ ?_
    · unfold pX6_save
      rw [slot_ok hx, bx_n, g1, cr1_s, c_hrs c3, cr1_s]
    · unfold pX7_save pX7_save_b16
      rw [inr_ok (by decide) (by decide) hx, cr1_s, if_neg (by decide), refused_0, cw2_s, if_pos (by decide), pk_mul, f1, cr1_s, st_n (j := i) (by omega) (by decide)]
      exact R_ld1 r3
    · by_cases q : j = i
      · subst q
        have rN : RepC (sB (sto C1 281 j (nI 1)) (282 + 17 * j)) A := RepC.move (a := 279 + 3 + 17 * j) g2 (fun k hk => by rw [sto_k (by omega)])
        refine ⟨rN.stat, true, sto_i _ _ _ _, sto_i _ _ _ _, fun _ => ⟨A, rN, hM.ext (fun r hr => ?_), hok⟩⟩
        rw [sto_k (by decide), f3, if_pos (by omega), sto_k (by decide), show 0 + (250 * j + r - 250 * j) = r by omega]
      · obtain ⟨p1, t, p2, p3, p4⟩ := hP j hj
        refine ⟨p1.move (fun k hk => cO _ (by omega) (by omega)), t, by rw [sto_j q, g3 281 (by omega)]; exact p2, by rw [sto_j q, f2 7 (by decide), sto_k (by decide)]; exact p3, fun z => ?_⟩
        obtain ⟨E, e1, e2, e3⟩ := p4 z
        refine ⟨E, e1.move (fun k hk => cO _ (by omega) (by omega)), e2.ext (fun r hr => ?_), e3⟩
        rw [sto_k (by decide), f3, if_neg (by omega), sto_k (by decide)]
    · rw [sto_k (by decide), f2 0 (by decide), sto_i]
  · refine MP.no h 0 (by decide) (b := nI 0) ?_ ?_
    · unfold pX6_save
      rw [slot_no hx, bx_e]
      rfl
    · unfold pX7_save pX7_save_b16
      rw [inr_no (by decide) (by decide) hx, cr1_s, if_pos (by decide), refused_n (by decide) (by decide), cw2_s, if_neg (by decide)]
theorem a_restore (h : PI C D) (x : Int32) : MP ["java/lang/IndexOutOfBoundsException", "java/lang/IllegalStateException"] (pX6_restore x C) (pX7_restore x D) := by
  obtain ⟨⟨A, hA⟩, hT, hP, hH⟩ := id h
  obtain ⟨⟨b, hb⟩, hC, hM, hok, h12, hS⟩ := id hA
  obtain ⟨y0, nx, sz, y1, y2, y3, y4, y5, y6⟩ := id hH
  by_cases hx : nI 0 ≤ x ∧ x ≤ nI 1
  · obtain ⟨i, _, i1, rfl⟩ := rngN (by decide) (by decide) hx
    have hi : i < 2 := by omega
    obtain ⟨p1, t, p2, p3, p4⟩ := hP i hi
    have eh : pX3_holds 279 2 (nI i) C = some (bI t) := by
      unfold pX3_holds
      rw [n_lt0 (by omega), if_neg (fun z => z), n_le (by decide) (by omega), if_neg (by omega), ld_n hi (by decide), p2, bI_0, gd_p isZ_0, gd_p isZ_1]
      cases t <;> rfl
    have ec : pX6_restore (nI i) C = if t = false then (pX6_restore_b20 (nI i) (nI 1) C) else (pX6_restore_b20 (nI i) (nI 0) C) := by
      unfold pX6_restore
      rw [slot_ok hx, bx_n, eh, cr1_s, bI_0]
    have em : pX7_restore (nI i) D = if t = false then (pX7_restore_b29 (nI i) (nI 2) D) else (pX7_restore_b29 (nI i) (nI 0) D) := by
      unfold pX7_restore
      rw [inr_ok (by decide) (by decide) hx, cr1_s, if_neg (by decide), ld_n hi (by decide), p3, bI_0]
    cases t with
    | false =>
      refine MP.no h 1 (by decide) (b := nI 0) ?_ ?_
      · rw [ec, if_pos rfl]
        unfold pX6_restore_b20
        rw [ref_1, bx_e]
        rfl
      · rw [em, if_pos rfl]
        unfold pX7_restore_b29
        rw [refused_n (by decide) (by decide), cw2_s, if_neg (by decide)]
    | true =>
      obtain ⟨B, b1, b2, b3⟩ := p4 rfl
      obtain ⟨C1, g1, g2, g3⟩ := c_giveBack (b1 := 279) (nm := 2) (i := i) hi (by decide) (by decide) hC.stat b1
      obtain ⟨D1, f1, f2, f3⟩ := m_copy (b1 := 6) (n1 := 500) (b2 := 3) (n2 := 250) (a := 250 * i) (c := 0) (m := 250) (by omega) (by decide) (by decide) (by decide) (Or.inl (by decide)) (sto D 0 0 (nI 0))
      have cO : ∀ a, (a < 3 ∨ 20 ≤ a) → a ≠ 37 → sto C1 37 2 (nI 0) a = C a := fun a x1 x2 => by rw [sto_k x2, g3 a x1]
      have dO : ∀ a, a ≠ 0 → a ≠ 3 → sto D1 0 9 (nI 0) a = D a := fun a x1 x2 => by rw [sto_k x1, f2 a x2, sto_k x1]
      have d0 : ∀ j, j ≠ 0 → j ≠ 9 → sto D1 0 9 (nI 0) 0 j = D 0 j := fun j x1 x2 => by rw [sto_j x2, f2 0 (by decide), sto_j x1]
      have r3 : RepR (sto D1 0 9 (nI 0) 3) B := by
        rw [sto_k (by decide)]
        exact b2.ext (fun r hr => by
          rw [f3, if_pos (by omega), sto_k (by decide), show 250 * i + (r - 0) = 250 * i + r by omega])
      have c3 : RepC (sB (sto C1 37 2 (nI 0)) 3) B := RepC.move (a := 3) g2.1 (fun j hj => by rw [sto_k (by omega)])
      refine MP.ok (v := aS B 1) (C' := sto C1 37 2 (nI 0)) (D' := sto D1 0 9 (nI 0)) ?_ ?_ ⟨⟨B, ⟨true, ?_⟩, c3, r3, b3, by rw [d0 12 (by decide) (by decide)]; exact h12, hS.move (fun k hk => cO _ (by omega) (by omega))⟩, hT.fr (cO 1 (by decide) (by decide)) (cO 2 (by decide) (by decide)) (d0 2 (by decide) (by decide)) (dO 1 (by decide) (by decide)), hP.fr (fun a ha => cO a (by omega) (by omega)) (dO 6 (by decide) (by decide)) (dO 7 (by decide) (by decide)), fun j hj => (y0 j hj).move (fun k hk => cO _ (by omega) (by omega)), nx, 0, ?_, y2, sto_i _ _ _ _, Nat.zero_le _, sto_i _ _ _ _, fun j hj => absurd hj (Nat.not_lt_zero _)⟩ ?_
      · rw [ec, if_neg (by decide)]
        unfold pX6_restore_b20 pX0_forget
        rw [ref_0, bx_n, g1, cr1_s, pf_e, cr1_s, c_hrs c3, cr1_s]
      · rw [em, if_neg (by decide)]
        unfold pX7_restore_b29
        rw [refused_0, cw2_s, if_pos (by decide), pk_mul, f1, cr1_s, pf_e]
        exact R_ld1 r3
      · rw [sto_k (by decide)]
        exact g2.2.1
      · rw [sto_j (by decide), g3 37 (Or.inr (by decide))]
        exact y1
      · rw [sto_j (by decide), f2 0 (by decide), sto_i]
  · refine MP.no h 0 (by decide) (b := nI 0) ?_ ?_
    · unfold pX6_restore
      rw [slot_no hx, bx_e]
      rfl
    · unfold pX7_restore pX7_restore_b29
      rw [inr_no (by decide) (by decide) hx, cr1_s, if_pos (by decide), refused_n (by decide) (by decide), cw2_s, if_neg (by decide)]
end ACTS
