/-! ===== arrives, leaves, bestHold, lacks ===== -/
section WOULD
variable {C D C' D' : mM} {A : aA}
theorem arrN_n {w : Int32} {c : Nat} : ∀ (n h : Nat) (X : aA × Int32), arrN w c n h X = -9 ∨ ∃ k, k < h + n ∧ arrN w c n h X = nI k := by
  intro n
  induction n with
  | zero => intro h X; exact Or.inl rfl
  | succ n ih =>
    intro h X
    unfold arrN
    by_cases q : aT X.1 3 c 0 = aS X.1 0
    · rw [if_pos q]
      exact Or.inr ⟨h, by omega, rfl⟩
    · rw [if_neg q]
      rcases ih (h + 1) (nxt w X) with e | ⟨k, k1, k2⟩
      · exact Or.inl e
      · exact Or.inr ⟨k, by omega, k2⟩
/-- the class begins to try -/
theorem c_try (hA : PNow C D A) : ∃ C1, pX4_copyFrom 20 3 C = some C1 ∧ CR (sB C1 20) A (-9) (-9) true ∧ ∀ a, a < 20 ∨ 37 ≤ a → C1 a = C a := by
  obtain ⟨hb, hC, hM, hok, h12, hS⟩ := hA
  obtain ⟨C1, e1, e2, e3⟩ := cp_state (S := C) (b1 := 20) (b2 := 3) hS hC (Or.inr (by decide))
  exact ⟨C1, e1, e2, fun a ha => e3 a (by omega)⟩
/-- the reference begins to try, the call being no refusal -/
theorem m_try (hA : PNow C D A) : ∃ D1, pX7_begin (sto D 0 0 (nI 0)) = some D1 ∧ MR D1 4 A (-9) (D 0 13) ∧ (∀ a, a ≠ 0 → a ≠ 4 → D1 a = D a) ∧ D1 0 = sto D 0 0 (nI 0) 0 := by
  obtain ⟨hb, hC, hM, hok, h12, hS⟩ := hA
  have hM' : RepR (sto D 0 0 (nI 0) 3) A := by
    rw [sto_k (by decide)]
    exact hM
  obtain ⟨D1, e1, e2, e3⟩ := m_begin hM'
  refine ⟨D1, e1, ⟨e2, ?_, ?_⟩, fun a h0 h4 => by rw [e3 a h4, sto_k h0], e3 0 (by decide)⟩
  · rw [e3 0 (by decide), sto_j (by decide)]
    exact h12
  · rw [e3 0 (by decide), sto_j (by decide)]
theorem a_arrives (h : PI C D) (x : Int32) : MP ["java/lang/IndexOutOfBoundsException"] (pX6_arrives x C) (pX7_arrives x D) := by
  obtain ⟨⟨A, hA⟩, hT, hP, hH⟩ := id h
  obtain ⟨hb, hC, hM, ⟨iv, L, hL, hL1, hL2⟩, h12, hS⟩ := id hA
  have h4 := cnt3 iv
  rcases idx x (aN A 3) (by omega) with ⟨c, hc, rfl⟩ | hx
  · obtain ⟨C1, c1, c2, c3⟩ := c_try hA
    obtain ⟨D1, m1, m2, m3, m4⟩ := m_try hA
    obtain ⟨T, A', fl', st', t1, t2⟩ := c_arr (c := c) 301 0 fuel (sB C1 20) A (-9) true rfl (by decide) c2 iv hc (fun z => absurd z (by decide))
    obtain ⟨D2, u1, u2⟩ := m_arr (c := c) 301 0 fuel D1 A (D 0 13) rfl (by decide) m2 iv hc
    rw [arrN_i (w' := -9) 301 0 A (D 0 13) (-9)] at u1
    have rT : RepC (sB (wB C1 20 17 T) 20) A' := t2.1.cells (fun a ha => wB_at ha)
    refine MP.ok (v := arrN (-9) c 301 0 (A, -9)) (C' := wB C1 20 17 T) (D' := D2) ?_ ?_ (h.trial (fun a ha => (wB_out (by omega)).trans (c3 a ha)) rT.stat (fun a h0 h4 => (u2.1 a h0 h4).trans (m3 a h0 h4)) (fun j h0 _ h13 => by rw [u2.2 j h13, m4, sto_j h0]) (by rw [u2.2 12 (by decide), m4, sto_j (by decide)]; exact h12)) ?_
    · unfold pX6_arrives pX4_hoursToEnd
      rw [s10, ex_ok hC iv (k := 3) (by decide) rfl hc, bx_n, c1, cr1_s, t1, cws_s]
    · unfold pX7_arrives pX7_arrives_b14 pX7_arrival
      rw [isConvoy_ok hM iv hc, cr1_s, if_neg (by decide), refused_0, cw2_s, if_pos (by decide), m1, cr1_s, u1, cw2_s]
    · rw [u2.2 0 (by decide), m4, sto_i]
  · refine MP.no h 0 (by decide) (b := nI 0) ?_ ?_
    · unfold pX6_arrives
      rw [s10, ex_no hC (k := 3) (by decide) rfl hx, bx_e]
      rfl
    · unfold pX7_arrives pX7_arrives_b14
      rw [isConvoy_no hM iv hx, cr1_s, if_pos (by decide), refused_n (by decide) (by decide), cw2_s, if_neg (by decide)]
theorem a_leaves (h : PI C D) (x : Int32) : MP ["java/lang/IndexOutOfBoundsException"] (pX6_leaves x C) (pX7_leaves x D) := by
  obtain ⟨⟨A, hA⟩, hT, hP, hH⟩ := id h
  obtain ⟨hb, hC, hM, ⟨iv, L, hL, hL1, hL2⟩, h12, hS⟩ := id hA
  have h4 := cnt3 iv
  rcases idx x (aN A 3) (by omega) with ⟨c, hc, rfl⟩ | hx
  · obtain ⟨C1, c1, c2, c3⟩ := c_try hA
    obtain ⟨D1, m1, m2, m3, m4⟩ := m_try hA
    have c2' : CR (sto (sB C1 20) 0 10 (nI c)) A (nI c) (-9) true := ⟨c2.1.flag (nI c) (by decide), by rw [sto_j (by decide)]; exact c2.2.1, sto_i _ _ _ _, by rw [sto_j (by decide)]; exact c2.2.2.2⟩
    have m2' : MR (sto (sto D1 0 12 (nI c)) 0 13 (-9)) 4 A (nI c) (-9) := ⟨by rw [sto_k (by decide), sto_k (by decide)]; exact m2.1, by rw [sto_j (by decide), sto_i], sto_i _ _ _ _⟩
    obtain ⟨T, A', fl', st', t1, t2⟩ := c_left 300 0 fuel (sto (sB C1 20) 0 10 (nI c)) A (-9) true rfl (by decide) c2' iv (fun z => absurd z (by decide))
    obtain ⟨D2, u1, u2⟩ := m_left 300 0 fuel (sto (sto D1 0 12 (nI c)) 0 13 (-9)) A (-9) rfl (by decide) m2' iv
    have rT : RepC (sB (wB C1 20 17 T) 20) A' := t2.1.cells (fun a ha => wB_at ha)
    have dO : ∀ a, a ≠ 0 → a ≠ 4 → sto D2 0 12 (-9) a = D a := fun a h0 h4 => by rw [sto_k h0, u2.1 a h0 h4, sto_k h0, sto_k h0, m3 a h0 h4]
    have d0 : ∀ j, j ≠ 12 → j ≠ 13 → sto D2 0 12 (-9) 0 j = sto D 0 0 (nI 0) 0 j := fun j h12 h13 => by rw [sto_j h12, u2.2 j h13, sto_j h13, sto_j h12, m4]
    refine MP.ok (v := leftN (nI c) 300 (A, -9)) (C' := wB C1 20 17 T) (D' := sto D2 0 12 (-9)) ?_ ?_ (h.trial (fun a ha => (wB_out (by omega)).trans (c3 a ha)) rT.stat dO (fun j h0 h12 h13 => by rw [d0 j h12 h13, sto_j h0]) (sto_i _ _ _ _)) ?_
    · unfold pX6_leaves pX4_firstLeftBy
      rw [s10, ex_ok hC iv (k := 3) (by decide) rfl hc, bx_n, c1, cr1_s, pf_e, t1, cws_s]
    · unfold pX7_leaves pX7_leaves_b14
      rw [isConvoy_ok hM iv hc, cr1_s, if_neg (by decide), refused_0, cw2_s, if_pos (by decide), m1, cr1_s, pf_e, pf_e, u1]
    · rw [d0 0 (by decide) (by decide), sto_i]
  · refine MP.no h 0 (by decide) (b := nI 0) ?_ ?_
    · unfold pX6_leaves
      rw [s10, ex_no hC (k := 3) (by decide) rfl hx, bx_e]
      rfl
    · unfold pX7_leaves pX7_leaves_b14
      rw [isConvoy_no hM iv hx, cr1_s, if_pos (by decide), refused_n (by decide) (by decide), cw2_s, if_neg (by decide)]
/-- what a trial leaves as it is -/
def Try (C D C' D' : mM) : Prop := (∀ a, a < 20 ∨ 37 ≤ a → C' a = C a) ∧ StatC (sB C' 20) ∧ (∀ a, a ≠ 0 → a ≠ 4 → D' a = D a) ∧ ∀ j, j ≠ 13 → D' 0 j = D 0 j
theorem Try.tr {C2 D2 : mM} (h : Try C D C' D') (g : Try C' D' C2 D2) : Try C D C2 D2 := ⟨fun a ha => (g.1 a ha).trans (h.1 a ha), g.2.1, fun a h0 h4 => (g.2.2.1 a h0 h4).trans (h.2.2.1 a h0 h4), fun j hj => (g.2.2.2 j hj).trans (h.2.2.2 j hj)⟩
/-- what a trial needs -/
def Now3 (C D : mM) (A : aA) : Prop := RepC (sB C 3) A ∧ RepR (D 3) A ∧ D 0 12 = -9 ∧ StatC (sB C 20)
theorem Try.now (h : Try C D C' D') (g : Now3 C D A) : Now3 C' D' A := ⟨RepC.move (a := 3) g.1 (fun i hi => h.1 _ (by omega)), by rw [h.2.2.1 3 (by decide) (by decide)]; exact g.2.1, by rw [h.2.2.2 12 (by decide)]; exact g.2.2.1, h.2.1⟩
theorem try_both (g : Now3 C D A) : ∃ C1 D1, pX4_copyFrom 20 3 C = some C1 ∧ CR (sB C1 20) A (-9) (-9) true ∧ (∀ a, a < 20 ∨ 37 ≤ a → C1 a = C a) ∧ pX7_begin D = some D1 ∧ MR D1 4 A (-9) (D 0 13) ∧ ∀ a, a ≠ 4 → D1 a = D a := by
  obtain ⟨C1, e1, e2, e3⟩ := cp_state (S := C) (b1 := 20) (b2 := 3) g.2.2.2 g.1 (Or.inr (by decide))
  obtain ⟨D1, f1, f2, f3⟩ := m_begin g.2.1
  exact ⟨C1, D1, e1, e2, fun a ha => e3 a (by omega), f1, ⟨f2, by rw [f3 0 (by decide)]; exact g.2.2.1, by rw [f3 0 (by decide)]⟩, f3⟩
theorem sub_lt {k i : Nat} (hk : k ≤ 300) (hi : i ≤ 23) : ¬ (nI 301 ≤ nI k - nI i) := by
  have e : (nI k - nI i).toInt = k - i := by
    rw [Int32.toInt_sub, nI_toInt (by omega), nI_toInt (by omega)]
    exact Int.bmod_eq_of_le (by omega) (by omega)
  rw [Int32.le_iff_toInt_le, e, nI_toInt (by decide)]
  omega
theorem hold_loop {c : Nat} (iv : Inv A) (hc : c < aN A 3) : ∀ (m i k k' : Nat) (C D : mM) (b f g : Int32), i + m = 24 → m < k → m < k' → Now3 C D A → (b = -9 ∧ f = nI 301 ∨ f = g ∧ ∃ q, q < 24 ∧ b = nI q) →
    ∃ v C' D', pX6_bestHold_l34 k (nI c) b f (nI i) C = some (.inl v, C') ∧ pX7_bestHold_l43 k' (nI c) b g (nI i) D = some (v, D') ∧ Try C D C' D' := by
  have h4 := cnt3 iv
  intro m
  induction m with
  | zero =>
    intro i k k' C D b f g hi hk hk' hn hb
    obtain ⟨k, rfl⟩ : ∃ z, k = z + 1 := ⟨k - 1, by omega⟩
    obtain ⟨k', rfl⟩ : ∃ z, k' = z + 1 := ⟨k' - 1, by omega⟩
    obtain rfl : i = 24 := by omega
    refine ⟨b, C, D, ?_, ?_, fun _ _ => rfl, hn.2.2.2, fun _ _ _ => rfl, fun _ _ => rfl⟩
    · show pX6_bestHold_lb34 (pX6_bestHold_l34 k) (nI c) b f (nI 24) C = _
      unfold pX6_bestHold_lb34
      rw [if_pos (by decide)]
    · show pX7_bestHold_lb43 (pX7_bestHold_l43 k') (nI c) b g (nI 24) D = _
      unfold pX7_bestHold_lb43
      rw [if_pos (by decide)]
  | succ m ih =>
    intro i k k' C D b f g hi hk hk' hn hb
    obtain ⟨k, rfl⟩ : ∃ z, k = z + 1 := ⟨k - 1, by omega⟩
    obtain ⟨k', rfl⟩ : ∃ z, k' = z + 1 := ⟨k' - 1, by omega⟩
    obtain ⟨C1, D1, e1, e2, e3, f1, f2, f3⟩ := try_both hn
    obtain ⟨p1, p2⟩ := put_now (ρ := (Int32 ⊕ String) × mM) (o := 20) (k := 3) (n := 16) (i := c) (j := 1) e2.1 (nI i) (by decide) rfl hc (by decide)
    have p1' : ∀ K : mM → Option ((Int32 ⊕ String) × mM), cvs C1 27 2 (pX5_put 16 (nI c) (nI 1) (nI i) (sB C1 27)) K = K (sto C1 28 (c * aCo 3 + 1) (nI i)) := p1
    have p2' : RepC (sB (sto C1 28 (c * aCo 3 + 1) (nI i)) 20) (aPut A 3 c 1 (nI i)) := p2
    have c2 : CR (sB (sto C1 28 (c * aCo 3 + 1) (nI i)) 20) (aPut A 3 c 1 (nI i)) (-9) (-9) true := by
      have ez : sB (sto C1 28 (c * aCo 3 + 1) (nI i)) 20 0 = sB C1 20 0 := by
        show sto C1 28 (c * aCo 3 + 1) (nI i) 20 = C1 20
        rw [sto_k (by decide)]
      exact ⟨p2', by rw [ez]; exact e2.2.1, by rw [ez]; exact e2.2.2.1, by rw [ez]; exact e2.2.2.2⟩
    have d2 : MR (sto D1 4 (86 + 13 * c + 2) (nI i)) 4 (aPut A 3 c 1 (nI i)) (-9) (D 0 13) := f2.w (by decide) (f2.1.put (k := 3) (i := c) (j := 1) _ (by decide) hc (by decide) (by decide))
    have iv' : Inv (aPut A 3 c 1 (nI i)) := iv.put3 _ _ _
    obtain ⟨T, A', fl', st', t1, t2⟩ := c_arr (c := c) 301 0 fuel _ _ (-9) true rfl (by decide) c2 iv' hc (fun z => absurd z (by decide))
    obtain ⟨D2, u1, u2⟩ := m_arr (c := c) 301 0 fuel _ _ (D 0 13) rfl (by decide) d2 iv' hc
    rw [arrN_i (w' := -9) 301 0 _ (D 0 13) (-9)] at u1
    have rT : RepC (sB (wB (sto C1 28 (c * aCo 3 + 1) (nI i)) 20 17 T) 20) A' := t2.1.cells (fun a ha => wB_at ha)
    have tr : Try C D (wB (sto C1 28 (c * aCo 3 + 1) (nI i)) 20 17 T) D2 := ⟨fun a ha => by rw [wB_out (by omega), sto_k (by omega), e3 a ha], rT.stat, fun a h0 h4 => by rw [u2.1 a h0 h4, sto_k h4, f3 a h4], fun j hj => by rw [u2.2 j hj, sto_k (by decide), f3 0 (by decide)]⟩
    -- both as far as the answer of the trial
    have hC : pX6_bestHold_l34 (k + 1) (nI c) b f (nI i) C = (if arrN (-9) c 301 0 (aPut A 3 c 1 (nI i), -9) = (-9) then pX6_bestHold_l34 k (nI c) b f (nI (i + 1)) (wB (sto C1 28 (c * aCo 3 + 1) (nI i)) 20 17 T)
        else (if f ≤ (arrN (-9) c 301 0 (aPut A 3 c 1 (nI i), -9) - nI i) then pX6_bestHold_l34 k (nI c) b f (nI (i + 1)) (wB (sto C1 28 (c * aCo 3 + 1) (nI i)) 20 17 T) else pX6_bestHold_l34 k (nI c) (nI i) (arrN (-9) c 301 0 (aPut A 3 c 1 (nI i), -9) - nI i) (nI (i + 1)) (wB (sto C1 28 (c * aCo 3 + 1) (nI i)) 20 17 T))) := by
      show pX6_bestHold_lb34 (pX6_bestHold_l34 k) (nI c) b f (nI i) C = _
      unfold pX6_bestHold_lb34 pX4_hoursToEnd
      rw [n_lt (by decide) (by omega), if_neg (by omega), e1, cr1_s, p1', t1, cws_s, vl_e, vl_e, vl_e, nI_add]
    have hM : pX7_bestHold_l43 (k' + 1) (nI c) b g (nI i) D = (if arrN (-9) c 301 0 (aPut A 3 c 1 (nI i), -9) = (-9) then pX7_bestHold_l43 k' (nI c) b g (nI (i + 1)) D2
        else (if b = (-9) then pX7_bestHold_l43 k' (nI c) (nI i) (arrN (-9) c 301 0 (aPut A 3 c 1 (nI i), -9) - nI i) (nI (i + 1)) D2 else (if g ≤ (arrN (-9) c 301 0 (aPut A 3 c 1 (nI i), -9) - nI i) then pX7_bestHold_l43 k' (nI c) b g (nI (i + 1)) D2 else pX7_bestHold_l43 k' (nI c) (nI i) (arrN (-9) c 301 0 (aPut A 3 c 1 (nI i), -9) - nI i) (nI (i + 1)) D2))) := by
      show pX7_bestHold_lb43 (pX7_bestHold_l43 k') (nI c) b g (nI i) D = _
      unfold pX7_bestHold_lb43 pX7_bestHold_b95 pX7_arrival
      rw [n_le (by decide) (by omega), if_neg (by omega), f1, cr1_s, convoyAt_n, cr1_s, st_n (by omega) (by decide), u1, cw2_s, vl_e, vl_e, vl_e, nI_add]
    rw [hC, hM]
    have hn' := tr.now hn
    rcases arrN_n (w := -9) (c := c) 301 0 (aPut A 3 c 1 (nI i), -9) with ea | ⟨z, z1, z2⟩
    · rw [if_pos ea, if_pos ea]
      obtain ⟨v, C', D', r1, r2, r3⟩ := ih (i + 1) k k' _ D2 b f g (by omega) (by omega) (by omega) hn' hb
      exact ⟨v, C', D', r1, r2, tr.tr r3⟩
    · have en : ¬ (arrN (-9) c 301 0 (aPut A 3 c 1 (nI i), -9) = -9) := by
        rw [z2, P_eqN (by omega)]
        exact fun y => y
      rw [if_neg en, if_neg en, z2]
      rcases hb with ⟨b1, b2⟩ | ⟨b1, q, q1, q2⟩
      · obtain ⟨v, C', D', r1, r2, r3⟩ := ih (i + 1) k k' _ D2 (nI i) (nI z - nI i) (nI z - nI i) (by omega) (by omega) (by omega) hn' (Or.inr ⟨rfl, i, by omega, rfl⟩)
        rw [b2, if_neg (sub_lt (by omega) (by omega)), if_pos b1]
        exact ⟨v, C', D', r1, r2, tr.tr r3⟩
      · have eb : ¬ (b = -9) := by
          rw [q2, P_eqN (by omega)]
          exact fun y => y
        rw [b1, if_neg eb]
        by_cases y : g ≤ nI z - nI i
        · obtain ⟨v, C', D', r1, r2, r3⟩ := ih (i + 1) k k' _ D2 b g g (by omega) (by omega) (by omega) hn' (Or.inr ⟨rfl, q, q1, q2⟩)
          rw [if_pos y, if_pos y]
          exact ⟨v, C', D', r1, r2, tr.tr r3⟩
        · obtain ⟨v, C', D', r1, r2, r3⟩ := ih (i + 1) k k' _ D2 (nI i) (nI z - nI i) (nI z - nI i) (by omega) (by omega) (by omega) hn' (Or.inr ⟨rfl, i, by omega, rfl⟩)
          rw [if_neg y, if_neg y]
          exact ⟨v, C', D', r1, r2, tr.tr r3⟩
theorem PI.try (h : PI C D) (g : Try C (sto D 0 0 (nI 0)) C' D') : PI C' D' := by
  obtain ⟨⟨A, hb, hC, hM, hok, h12, hS⟩, hT, hP, hH⟩ := id h
  exact h.trial g.1 g.2.1 (fun a h0 h4 => by rw [g.2.2.1 a h0 h4, sto_k h0]) (fun j h0 _ h13 => by rw [g.2.2.2 j h13, sto_j h0]) (by rw [g.2.2.2 12 (by decide), sto_j (by decide)]; exact h12)
theorem PNow.three (hA : PNow C D A) : Now3 C (sto D 0 0 (nI 0)) A := ⟨hA.2.1, by rw [sto_k (by decide)]; exact hA.2.2.1, by rw [sto_j (by decide)]; exact hA.2.2.2.2.1, hA.2.2.2.2.2⟩
theorem a_bestHold (h : PI C D) (x : Int32) : MP ["java/lang/IndexOutOfBoundsException"] (pX6_bestHold x C) (pX7_bestHold x D) := by
  obtain ⟨⟨A, hA⟩, hT, hP, hH⟩ := id h
  obtain ⟨hb, hC, hM, ⟨iv, L, hL, hL1, hL2⟩, h12, hS⟩ := id hA
  have h4 := cnt3 iv
  rcases idx x (aN A 3) (by omega) with ⟨c, hc, rfl⟩ | hx
  · have ex3 := ex_ok hC iv (N := 16) (k := 3) (o := 7) (by decide) rfl hc
    rw [← s10] at ex3
    have ec : pX6_bestHold (nI c) C = if decide (aT A 3 c 0 = aS A 0) = false then (pX6_bestHold_l34 fuel (nI c) (-9) (nI 301) (nI 0) C) else some (.inl (nI 0), C) := by
      unfold pX6_bestHold
      rw [ex3, bx_n, c_end hC hc, cr1_s, bI_0]
    have em : pX7_bestHold (nI c) D = if decide (aT A 3 c 0 = aS A 0) = false then (pX7_bestHold_l43 fuel (nI c) (-9) (nI 0) (nI 0) (sto D 0 0 (nI 0))) else some (nI 0, sto D 0 0 (nI 0)) := by
      have rS : RepR (sB (sto D 0 0 (nI 0)) 3 0) A := by
        show RepR (sto D 0 0 (nI 0) 3) A
        rw [sto_k (by decide)]
        exact hM
      unfold pX7_bestHold pX7_bestHold_b14
      rw [isConvoy_ok hM iv hc, cr1_s, if_neg (by decide), refused_0, cw2_s, if_pos (by decide), m_there rS hc, cr1_s, bI_0]
    by_cases q : decide (aT A 3 c 0 = aS A 0) = false
    · rw [if_pos q] at ec em
      obtain ⟨v, C', D', r1, r2, r3⟩ := hold_loop iv hc 24 0 fuel fuel C (sto D 0 0 (nI 0)) (-9) (nI 301) (nI 0) rfl (by decide) (by decide) hA.three (Or.inl ⟨rfl, rfl⟩)
      exact MP.ok (ec.trans r1) (em.trans r2) (h.try r3) (by rw [r3.2.2.2 0 (by decide), sto_i])
    · rw [if_neg q] at ec em
      exact MP.ok ec em (h.th _) (sto_i _ _ _ _)
  · refine MP.no h 0 (by decide) (b := nI 0) ?_ ?_
    · unfold pX6_bestHold
      rw [s10, ex_no hC (k := 3) (by decide) rfl hx, bx_e]
      rfl
    · unfold pX7_bestHold pX7_bestHold_b14
      rw [isConvoy_no hM iv hx, cr1_s, if_pos (by decide), refused_n (by decide) (by decide), cw2_s, if_neg (by decide)]
theorem lack_loop {c : Nat} (iv : Inv A) (hD : Dep A) (hc : c < aN A 2) : ∀ (m i k k' : Nat) (C D : mM), i + m = 41 → m < k → m < k' → Now3 C D A →
    ∃ v C' D', pX6_lacks_l13 k (nI c) (nI i) C = some (.inl v, C') ∧ pX7_lacks_l24 k' (nI c) (nI i) D = some (v, D') ∧ Try C D C' D' := by
  have h4 : aN A 2 ≤ 4 := iv.cnt 2 (by decide)
  obtain ⟨s, s1, s2⟩ := hD c hc
  intro m
  induction m with
  | zero =>
    intro i k k' C D hi hk hk' hn
    obtain ⟨k, rfl⟩ : ∃ z, k = z + 1 := ⟨k - 1, by omega⟩
    obtain ⟨k', rfl⟩ : ∃ z, k' = z + 1 := ⟨k' - 1, by omega⟩
    obtain rfl : i = 41 := by omega
    refine ⟨-9, C, D, ?_, ?_, fun _ _ => rfl, hn.2.2.2, fun _ _ _ => rfl, fun _ _ => rfl⟩
    · show pX6_lacks_lb13 (pX6_lacks_l13 k) (nI c) (nI 41) C = _
      unfold pX6_lacks_lb13
      rw [if_pos (by decide)]
    · show pX7_lacks_lb24 (pX7_lacks_l24 k') (nI c) (nI 41) D = _
      unfold pX7_lacks_lb24
      rw [if_pos (by decide)]
  | succ m ih =>
    intro i k k' C D hi hk hk' hn
    obtain ⟨k, rfl⟩ : ∃ z, k = z + 1 := ⟨k - 1, by omega⟩
    obtain ⟨k', rfl⟩ : ∃ z, k' = z + 1 := ⟨k' - 1, by omega⟩
    obtain ⟨C1, D1, e1, e2, e3, f1, f2, f3⟩ := try_both hn
    obtain ⟨p1, p2⟩ := raise_now (ρ := (Int32 ⊕ String) × mM) (o := 20) (k := 2) (n := 8) (i := c) (j := 1) e2.1 (nI i) (by decide) rfl hc (by decide)
    have p1' : ∀ K : mM → Option ((Int32 ⊕ String) × mM), cvs C1 25 2 (pX5_raise 8 (nI c) (nI 1) (nI i) (sB C1 25)) K = K (sto C1 26 (c * aCo 2 + 1) (aT A 2 c 1 + nI i)) := p1
    have p2' : RepC (sB (sto C1 26 (c * aCo 2 + 1) (aT A 2 c 1 + nI i)) 20) (aPut A 2 c 1 (aT A 2 c 1 + nI i)) := p2
    have c2 : CR (sB (sto C1 26 (c * aCo 2 + 1) (aT A 2 c 1 + nI i)) 20) (aPut A 2 c 1 (aT A 2 c 1 + nI i)) (-9) (-9) true := by
      have ez : sB (sto C1 26 (c * aCo 2 + 1) (aT A 2 c 1 + nI i)) 20 0 = sB C1 20 0 := by
        show sto C1 26 (c * aCo 2 + 1) (aT A 2 c 1 + nI i) 20 = C1 20
        rw [sto_k (by decide)]
      exact ⟨p2', by rw [ez]; exact e2.2.1, by rw [ez]; exact e2.2.2.1, by rw [ez]; exact e2.2.2.2⟩
    have d2 : MR (sto D1 4 (78 + 2 * c + 1) (aT A 2 c 1 + nI i)) 4 (aPut A 2 c 1 (aT A 2 c 1 + nI i)) (-9) (D 0 13) := f2.w (by decide) (f2.1.put (k := 2) (i := c) (j := 1) _ (by decide) hc (by decide) (by decide))
    have iv' : Inv (aPut A 2 c 1 (aT A 2 c 1 + nI i)) := iv.stock (q := s + i) (by rw [s1, nI_add]) (by omega)
    obtain ⟨T, A', fl', st', t1, t2⟩ := c_all 300 0 fuel _ _ (-9) true rfl (by decide) c2 iv' (fun z => absurd z (by decide))
    obtain ⟨D2, u1, u2⟩ := m_all 301 0 fuel _ _ (D 0 13) rfl (by decide) d2 iv'
    rw [allN_i (w' := -9) 301 _ (D 0 13) (-9)] at u1
    have rT : RepC (sB (wB (sto C1 26 (c * aCo 2 + 1) (aT A 2 c 1 + nI i)) 20 17 T) 20) A' := t2.1.cells (fun a ha => wB_at ha)
    have tr : Try C D (wB (sto C1 26 (c * aCo 2 + 1) (aT A 2 c 1 + nI i)) 20 17 T) D2 := ⟨fun a ha => by rw [wB_out (by omega), sto_k (by omega), e3 a ha], rT.stat, fun a h0 h4 => by rw [u2.1 a h0 h4, sto_k h4, f3 a h4], fun j hj => by rw [u2.2 j hj, sto_k (by decide), f3 0 (by decide)]⟩
    have hC : pX6_lacks_l13 (k + 1) (nI c) (nI i) C = (if allN (-9) 301 (aPut A 2 c 1 (aT A 2 c 1 + nI i), -9) = false then pX6_lacks_l13 k (nI c) (nI (i + 1)) (wB (sto C1 26 (c * aCo 2 + 1) (aT A 2 c 1 + nI i)) 20 17 T) else some (.inl (nI i), wB (sto C1 26 (c * aCo 2 + 1) (aT A 2 c 1 + nI i)) 20 17 T)) := by
      show pX6_lacks_lb13 (pX6_lacks_l13 k) (nI c) (nI i) C = _
      unfold pX6_lacks_lb13 pX4_allArrive
      rw [n_lt (by decide) (by omega), if_neg (by omega), e1, cr1_s, p1', t1, cws_s, bI_0, vl_e, nI_add]
    have hM : pX7_lacks_l24 (k' + 1) (nI c) (nI i) D = (if allN (-9) 301 (aPut A 2 c 1 (aT A 2 c 1 + nI i), -9) = false then pX7_lacks_l24 k' (nI c) (nI (i + 1)) D2 else some (nI i, D2)) := by
      show pX7_lacks_lb24 (pX7_lacks_l24 k') (nI c) (nI i) D = _
      unfold pX7_lacks_lb24 pX7_allArrive
      rw [n_lt (by decide) (by omega), if_neg (by omega), f1, cr1_s, depotAt_n, cr1_s, R_ldD f2.1 hc (by decide), st_n (by omega) (by decide), u1, cw2_s, bI_0, vl_e, nI_add]
    rw [hC, hM]
    by_cases q : allN (-9) 301 (aPut A 2 c 1 (aT A 2 c 1 + nI i), -9) = false
    · rw [if_pos q, if_pos q]
      obtain ⟨v, C', D', r1, r2, r3⟩ := ih (i + 1) k k' _ D2 (by omega) (by omega) (by omega) (tr.now hn)
      exact ⟨v, C', D', r1, r2, tr.tr r3⟩
    · rw [if_neg q, if_neg q]
      exact ⟨nI i, _, D2, rfl, rfl, tr⟩
theorem a_lacks (h : PI C D) (x : Int32) : MP ["java/lang/IndexOutOfBoundsException"] (pX6_lacks x C) (pX7_lacks x D) := by
  obtain ⟨⟨A, hA⟩, hT, hP, hH⟩ := id h
  obtain ⟨hb, hC, hM, ⟨iv, L, hL, hL1, hL2, hD⟩, h12, hS⟩ := id hA
  have h4 : aN A 2 ≤ 4 := iv.cnt 2 (by decide)
  rcases idx x (aN A 2) (by omega) with ⟨c, hc, rfl⟩ | hx
  · obtain ⟨v, C', D', r1, r2, r3⟩ := lack_loop iv hD hc 41 0 fuel fuel C (sto D 0 0 (nI 0)) rfl (by decide) (by decide) hA.three
    refine MP.ok (v := v) (C' := C') (D' := D') ?_ ?_ (h.try r3) (by rw [r3.2.2.2 0 (by decide), sto_i])
    · unfold pX6_lacks
      rw [s8, ex_ok hC iv (k := 2) (by decide) rfl hc, bx_n, r1]
    · unfold pX7_lacks pX7_lacks_b14
      rw [isDepot_ok hM iv hc, cr1_s, if_neg (by decide), refused_0, cw2_s, if_pos (by decide), r2]
  · refine MP.no h 0 (by decide) (b := nI 0) ?_ ?_
    · unfold pX6_lacks
      rw [s8, ex_no hC (k := 2) (by decide) rfl hx, bx_e]
      rfl
    · unfold pX7_lacks pX7_lacks_b14
      rw [isDepot_no hM iv hx, cr1_s, if_pos (by decide), refused_n (by decide) (by decide), cw2_s, if_neg (by decide)]
end WOULD
