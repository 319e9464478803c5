/-! ===== the text: vehicles, letters, all of it ===== -/
section LETTERS
variable {S M : mM} {n p : Nat} {ch : Nat → Nat} {bad : Bool} {A : aA} {L : Nat}
theorem car_pair {M0 : mM} {t x1 : Int32} (ht : pX7_accept t M0 = some M) (hs : TC S n ch p bad) (hm : TM M n ch p bad) (rC : RepC (sB S 20) A) (rM : RepR (M 2) A) (iv : Inv A) (hL : aS A 0 = nI L) (hD : Dep A) (hf : bad = false → 0 < aN A 3 ∧ aN A 4 < 16 ∧ (aL A 0 (aN A 3 - 1)).length < 8 ∧ x1 = nI (aN A 3 - 1)) :
    ∃ S' M', pX1_readVehicle S = some S' ∧ pX7_readCar_b61 x1 t M0 = some M' ∧ RdR S M S' M' n ch p bad L := by
  unfold pX1_readVehicle pX7_readCar_b61
  rw [ht, cr1_s]
  obtain ⟨v1, w1, S1, M1, e1, f1, p1, bad1, t1, u1, o1, y1, g1, z1⟩ := one_pair (a := nI 1) (b := nI 9) (a' := nI 1) (b' := nI 9) (Q := fun x => 1 ≤ x ∧ x ≤ 9) hs hm (fun _ => ⟨1, 9, rfl, rfl, rfl, rfl, by decide, by decide, fun x h h' => ⟨h, h'⟩⟩)
  rw [e1, cw2_s, f1, cw2_s]
  obtain ⟨v2, w2, S2, M2, e2, f2, p2, bad2, t2, u2, o2, y2, g2, z2⟩ := one_pair (a := nI 1) (b := nI 4) (a' := nI 1) (b' := nI 4) (Q := fun x => 1 ≤ x ∧ x ≤ 4) t1 u1 (fun _ => ⟨1, 4, rfl, rfl, rfl, rfl, by decide, by decide, fun x h h' => ⟨h, h'⟩⟩)
  rw [e2, cw2_s, f2, cw2_s]
  obtain ⟨v3, w3, S3, M3, e3, f3, p3, bad3, t3, u3, o3, y3, g3, z3⟩ := two_pair (a := nI 20) (b := nI 99) (a' := nI 20) (b' := nI 99) (Q := fun x => x ≤ 99) t2 u2 (fun _ => ⟨20, 99, rfl, rfl, rfl, rfl, by decide, by decide, fun x _ h' => h'⟩)
  rw [e3, cw2_s, f3, cw2_s]
  have hq : bad3 = false → ∃ l m, nI 0 = nI l ∧ v3 = nI m ∧ nI 0 = nI l ∧ w3 = nI m ∧ l ≤ 99 ∧ m ≤ 99 ∧ ∀ x, l ≤ x → x ≤ m → (∃ tk, v3 = nI tk ∧ tk ≤ 99 ∧ x ≤ tk) := fun z => by
    obtain ⟨_, _, rfl, x, a4, a5⟩ := g3 z
    exact ⟨0, x, rfl, a4, rfl, a4, by decide, a5, fun y _ hy => ⟨x, a4, a5, hy⟩⟩
  obtain ⟨v4, w4, S4, M4, e4, f4, p4, bad4, t4, u4, o4, y4, g4, z4⟩ := two_pair (a := nI 0) (b := v3) (a' := nI 0) (b' := w3) t3 u3 hq
  rw [e4, cw2_s, f4, cw2_s, gf_e, gf_e, t4.2.2.2.2.2, u4.2.2.2.1, bI_0, bI_0]
  have oo := Oth.tr o1 (Oth.tr o2 (Oth.tr o3 o4))
  have yy := y1.tr (y2.tr (y3.tr y4))
  cases bad4 with
  | true =>
    rw [if_neg (by decide), if_pos (by rfl)]
    refine ⟨S4, M4, rfl, rfl, rd_bad t4 u4 oo yy rC rM iv hL hD (fun z => ?_)⟩
    have q1 : bad1 = true := by
      cases bad1 with
      | true => rfl
      | false => exact absurd (g1 rfl).1 (by rw [z]; decide)
    have q2 : bad2 = true := by
      cases bad2 with
      | true => rfl
      | false => exact absurd (g2 rfl).1 (by rw [q1]; decide)
    have q3 : bad3 = true := by
      cases bad3 with
      | true => rfl
      | false => exact absurd (g3 rfl).1 (by rw [q2]; decide)
    rw [z4 q3, z3 q2, z2 q1, z1 z]
  | false =>
    obtain ⟨c1, c2, rfl, x4, c4, tk, c5, c6, c7⟩ := g4 rfl
    obtain ⟨r1, r2, rfl, x3, r4, r5⟩ := g3 c1
    obtain ⟨a1, a2, rfl, x2, a4, a5⟩ := g2 r1
    obtain ⟨b1, b2, rfl, x0, b4, b5⟩ := g1 a1
    rw [if_pos rfl, if_neg (by decide)]
    obtain ⟨k1, k2, k3, rfl⟩ := hf b1
    have rC2 : RepC (sB S4 20) A := rC.cells (fun a ha => oo (20 + a) (by omega))
    have rM2 : RepR (sB M4 2 0) A := by
      show RepR (M4 2) A
      rw [yy.1 2 (by decide)]
      exact rM
    have hc : aN A 3 - 1 < aN A 3 := by omega
    have h4 := cnt3 iv
    have ec : pX5_count 16 (sB S4 27) = some (nI (aN A 3)) := by
      rw [show (27 : Nat) = 20 + 7 from rfl, ← sB_sB]
      exact C_cntC rC2
    obtain ⟨T, j1, j2, _⟩ := c_newVehicle rC2 k2 (c := aN A 3 - 1) (by omega) k3 v1 v2 v3 v4
    obtain ⟨U, m1, m2, _⟩ := m_addCar rM2 k2 hc k3 v1 v2 v3 v4
    rw [ec, cr1_s, pk_sub (by omega), j1, cws_s, m1, cvs_s]
    refine ⟨_, _, rfl, rfl, rd_new t4 u4 oo yy j2 m2 ?_ hL hD.car b1 (by omega)⟩
    rw [b4, a4, c5, c4]
    exact iv.okCar k2 hc k3 b5 a5 c6 c7
theorem m_isNext (h : TM M n ch p bad) {x : Nat} (hx : x < 256) : pX7_isNext (nI x) M = some (bI (decide (p < n ∧ ch p = x))) := by
  obtain ⟨h1, h2, h3, h4, h5, h6⟩ := h
  unfold pX7_isNext
  rw [gf_e, gf_e, h1, h3, n_le (by omega) (by omega), gd_p isZ_0, gd_p isZ_1]
  by_cases q : p < n
  · have hc := (h2 p q).2
    rw [if_neg (by omega), gf_e, h3, ld_n (by omega) (by decide), (h2 p q).1, n_eq (by omega) (by omega)]
    by_cases z : ch p = x
    · rw [if_pos z, decide_eq_true ⟨q, z⟩]
      rfl
    · rw [if_neg z, decide_eq_false (fun y => z y.2)]
      rfl
  · rw [if_pos (by omega), decide_eq_false (fun y => q y.1)]
    rfl
theorem C_full (h : RepC S A) {k o N : Nat} (hk : k < 5) (ho : o = 1 + 2 * k) : pX5_isFull N (sB S o) = some (bI (!decide (aN A k < aMx k))) := by
  subst ho
  rw [tab_full (h.2.1 k hk) (Nat.lt_of_le_of_lt (show aMx k ≤ 16 by rcases k5 hk with rfl | rfl | rfl | rfl | rfl <;> decide) (by decide))]
  by_cases q : aN A k < aMx k
  · rw [if_pos q, decide_eq_true q]
    rfl
  · rw [if_neg q, decide_eq_false q]
    rfl
theorem c_room (h : RepC S A) (iv : Inv A) {c : Nat} (hc : c < aN A 3) : pX4_hasRoomForVehicle (nI c) S = some (bI (decide (aN A 4 < 16 ∧ (aL A 0 c).length < 8))) := by
  have h4 := cnt3 iv
  have h8 := (iv.line0 c hc).1
  unfold pX4_hasRoomForVehicle
  rw [C_full h (k := 4) (by decide) rfl, cr1_s, bI_0, gd_p isZ_0, gd_p isZ_1]
  by_cases q : aN A 4 < 16
  · rw [show (!decide (aN A 4 < aMx 4)) = false from by rw [show aMx 4 = 16 from rfl, decide_eq_true q]; rfl, if_pos rfl, tab_has h.c, if_neg, cr1_s, if_neg (by decide), C_size0 h (by omega), cr1_s, n_le (by decide) (by omega)]
    · by_cases z : (aL A 0 c).length < 8
      · rw [if_neg (by omega), decide_eq_true ⟨q, z⟩]
        rfl
      · rw [if_pos (by omega), decide_eq_false (fun y => z y.2)]
        rfl
    · rw [P_lt0 (by omega), P_le (by omega) (by omega)]
      exact fun y => y.elim (fun z => z) (fun z => by omega)
  · rw [show (!decide (aN A 4 < aMx 4)) = true from by rw [show aMx 4 = 16 from rfl, decide_eq_false q]; rfl, if_neg (by decide), decide_eq_false (fun y => q y.1)]
    rfl
theorem c_room_0 (h : RepC S A) {x : Int32} (hx : x < 0) : pX4_hasRoomForVehicle x S = some (nI 0) := by
  unfold pX4_hasRoomForVehicle
  rw [C_full h (k := 4) (by decide) rfl, cr1_s, bI_0, gd_p isZ_0, gd_p isZ_1]
  by_cases q : (!decide (aN A 4 < aMx 4)) = false
  · rw [if_pos q, tab_has h.c, if_pos (Or.inl hx), cr1_s, if_pos (by decide)]
  · rw [if_neg q]
/-- whether a letter is allowed -/
def alw (A : aA) (l : Nat) : Bool :=
  if l = 98 then decide (aN A 1 < 6) else if l = 99 then decide (aN A 3 < 4) else if l = 100 then decide (aN A 2 < 4) else if l = 103 then decide (aN A 0 < 4)
  else if l = 118 then decide (0 < aN A 3 ∧ aN A 4 < 16 ∧ (aL A 0 (aN A 3 - 1)).length < 8) else false
theorem bI_not0 (b : Bool) (x y : Option Int32) : (if bI (!b) = 0 then x else y) = if b = true then x else y := by
  rw [bI_0]
  cases b <;> rfl
theorem c_allowed (h : RepC (sB S 20) A) (iv : Inv A) {l : Nat} (hl : l < 256) : pX1_isAllowed (nI l) S = some (bI (alw A l)) := by
  have ef : ∀ (k o N : Nat), k < 5 → o = 20 + (1 + 2 * k) → pX5_isFull N (sB S o) = some (bI (!decide (aN A k < aMx k))) := fun k o N hk ho => by
    rw [ho, ← sB_sB]
    exact C_full h hk rfl
  unfold pX1_isAllowed alw
  rw [n_eq (by omega) (by decide), n_eq (by omega) (by decide), n_eq (by omega) (by decide), n_eq (by omega) (by decide), n_eq (by omega) (by decide), gd_p isZ_0, gd_p isZ_1]
  by_cases a1 : l = 98
  · rw [if_pos a1, if_pos a1, ef 1 23 12 (by decide) rfl, cr1_s, bI_not0]
    show (if decide (aN A 1 < 6) = true then _ else _) = _
    cases decide (aN A 1 < 6) <;> rfl
  · rw [if_neg a1, if_neg a1]
    by_cases a2 : l = 99
    · rw [if_pos a2, if_pos a2, ef 3 27 16 (by decide) rfl, cr1_s, bI_not0]
      show (if decide (aN A 3 < 4) = true then _ else _) = _
      cases decide (aN A 3 < 4) <;> rfl
    · rw [if_neg a2, if_neg a2]
      by_cases a3 : l = 100
      · rw [if_pos a3, if_pos a3, ef 2 25 8 (by decide) rfl, cr1_s, bI_not0]
        show (if decide (aN A 2 < 4) = true then _ else _) = _
        cases decide (aN A 2 < 4) <;> rfl
      · rw [if_neg a3, if_neg a3]
        by_cases a4 : l = 103
        · rw [if_pos a4, if_pos a4, ef 0 21 16 (by decide) rfl, cr1_s, bI_not0]
          show (if decide (aN A 0 < 4) = true then _ else _) = _
          cases decide (aN A 0 < 4) <;> rfl
        · rw [if_neg a4, if_neg a4]
          by_cases a5 : l = 118
          · have ec : pX5_count 16 (sB S 27) = some (nI (aN A 3)) := by
              rw [show (27 : Nat) = 20 + 7 from rfl, ← sB_sB]
              exact C_cntC h
            rw [if_pos a5, if_pos a5, ec, cr1_s]
            by_cases q : 0 < aN A 3
            · rw [pk_sub (by omega), c_room h iv (show aN A 3 - 1 < aN A 3 by omega), cr1_s, gd_p (bI_Z _)]
              congr 2
              exact decide_eq_decide.mpr ⟨fun y => ⟨q, y⟩, fun y => y.2⟩
            · rw [show aN A 3 = 0 by omega, c_room_0 h (by decide), cr1_s, gd_p isZ_0, decide_eq_false (fun y => absurd y.1 (by decide))]
              rfl
          · rw [if_neg a5, if_neg a5]
            rfl
end LETTERS
