/-! ===== the text: all of it ===== -/
def RdF (S M S' M' : mM) (n : Nat) (ch : Nat → Nat) (p : Nat) (L : Nat) : Prop :=
  ∃ p' bad', TC S' n ch p' bad' ∧ TM M' n ch p' bad' ∧ StatC (sB S' 20) ∧ (∀ a, a ≠ 1 → (a < 20 ∨ 37 ≤ a) → S' a = S a) ∧ (∀ a, a ≠ 0 → a ≠ 2 → M' a = M a) ∧ (∀ j, j ≠ 3 → j ≠ 4 → M' 0 j = M 0 j) ∧
    (bad' = false → p < p' ∧ ∃ A', RepC (sB S' 20) A' ∧ RepR (M' 2) A' ∧ Inv A' ∧ aS A' 0 = nI L ∧ Dep A')
section ALLTEXT
variable {S M : mM} {n p : Nat} {ch : Nat → Nat} {bad : Bool} {A : aA} {L : Nat}
theorem rd_fin {S1 M1 S' M' : mM} {p1 : Nat} (o : Oth 1 S S1) (x : Mx M M1) (h : RdR S1 M1 S' M' n ch p1 false L) (hp : p ≤ p1) : RdF S M S' M' n ch p L := by
  obtain ⟨p', bad', A', a1, a2, a3, a4, a5, a6, aD, a7, a8, a9, a10, a11⟩ := h
  exact ⟨p', bad', a1, a2, a3.stat, fun a h1 h2 => (a7 a h1 h2).trans (o a h1), fun a h1 h2 => (a8 a h1 h2).trans (x.1 a h1), fun j h3 h4 => (a9 j h3 h4).trans (x.2 j h3 h4), fun z => ⟨Nat.lt_of_le_of_lt hp (a10 z).2, A', a3, a4, a5, a6, aD⟩⟩
theorem rd_no {S1 M1 S' M' : mM} (o : Oth 1 S S1) (x : Mx M M1) (hs : TC S1 n ch p true) (rC : RepC (sB S1 20) A) (h : RdR S1 M1 S' M' n ch p true L) : RdF S M S1 M' n ch p L := by
  obtain ⟨p', bad', A', a1, a2, a3, a4, a5, a6, aD, a7, a8, a9, a10, a11⟩ := h
  obtain rfl : p' = p := a11 rfl
  have hb : bad' = true := by
    cases bad' with
    | true => rfl
    | false => exact absurd (a10 rfl).1 (by decide)
  subst hb
  exact ⟨p', true, hs, a2, rC.stat, fun a h1 _ => o a h1, fun a h1 h2 => (a8 a h1 h2).trans (x.1 a h1), fun j h3 h4 => (a9 j h3 h4).trans (x.2 j h3 h4), fun z => absurd z (by decide)⟩
theorem m_readCar (hm : TM M n ch p false) (rM : RepR (M 2) A) (iv : Inv A) (hp : p < n) (hl : ch p ≠ 98 ∧ ch p ≠ 99 ∧ ch p ≠ 100 ∧ ch p ≠ 103) : pX7_readCar M = pX7_readCar_b61 (nI (aN A 3) - nI 1) (bI (alw A (ch p))) M := by
  have h4 := cnt3 iv
  have h16 := cnt4 iv
  unfold pX7_readCar
  rw [R_n3 rM, vl_e, m_isNext hm (by decide), cr1_s, bI_0]
  have ea : alw A (ch p) = if ch p = 118 then decide (0 < aN A 3 ∧ aN A 4 < 16 ∧ (aL A 0 (aN A 3 - 1)).length < 8) else false := by
    unfold alw
    rw [if_neg hl.1, if_neg hl.2.1, if_neg hl.2.2.1, if_neg hl.2.2.2]
  rw [ea]
  by_cases q : ch p = 118
  · rw [decide_eq_true ⟨hp, q⟩, if_neg (by decide), if_pos q]
    by_cases z : 0 < aN A 3
    · have rS : RepR (sB M 2 0) A := rM
      have l8 := (iv.line0 (aN A 3 - 1) (by omega)).1
      rw [pk_sub (by omega), n_lt0 (by omega), if_neg (fun y => y), R_n4 rM, n_le (by decide) (by omega)]
      by_cases y : aN A 4 < 16
      · rw [if_neg (by omega), if_pos (nI_pos' (by omega))]
        unfold pX7_readCar_b48
        rw [m_sizeOf rS (show aN A 3 - 1 < aN A 3 by omega), cr1_s, n_le (by decide) (by omega)]
        by_cases x : (aL A 0 (aN A 3 - 1)).length < 8
        · rw [if_neg (by omega), decide_eq_true ⟨z, y, x⟩]
          rfl
        · rw [if_pos (by omega), decide_eq_false (fun k => x k.2.2)]
          rfl
      · rw [if_pos (by omega), decide_eq_false (fun k => y k.2.1)]
        rfl
    · rw [show aN A 3 = 0 by omega, if_pos (by decide), decide_eq_false (fun k => absurd k.1 (by decide))]
      rfl
  · rw [decide_eq_false (fun y => q y.2), if_pos rfl, if_neg q]
    rfl
/-- a letter and what belongs to it -/
theorem part_pair (ih : mM → Option (Int32 × mM)) (hs : TC S n ch p false) (hm : TM M n ch p false) (hp : p < n) (rC : RepC (sB S 20) A) (rM : RepR (M 2) A) (iv : Inv A) (hL : aS A 0 = nI L) (hD : Dep A) (h1 : 10 ≤ L) (h2 : L ≤ 60) :
    ∃ S' M', pX1_readPart S = some S' ∧ pX7_readText_lb56 ih M = ih M' ∧ RdF S M S' M' n ch p L := by
  have hc := (hs.2.2.1 p hp).2
  have h140 := hs.2.1
  obtain ⟨M1, f1, f2, f3⟩ := m_accept hm (alw A (ch p)) (fun _ _ => hp)
  have rM1 : RepR (M1 2) A := by
    rw [f3.1 2 (by decide)]
    exact rM
  have hM : pX7_readText_lb56 ih M = (if decide (p < n ∧ ch p = 103) = false then (if decide (p < n ∧ ch p = 98) = false then (if decide (p < n ∧ ch p = 100) = false then (if decide (p < n ∧ ch p = 99) = false then (cr1 (pX7_readCar M) fun S168 => ih S168) else (ld M 2 250 (nI 5) fun v137 => if (nI 4) ≤ v137 then (pX7_readText_b147 ih (nI 0) M) else (pX7_readText_b147 ih (nI 1) M))) else (cr1 (pX7_readDepot M) fun S116 => ih S116)) else (cr1 (pX7_readBay M) fun S100 => ih S100)) else (cr1 (pX7_readGate M) fun S84 => ih S84)) := by
    unfold pX7_readText_lb56
    rw [gf_e, hm.2.2.2.1, bI_0, if_neg (by decide), gf_e, gf_e, hm.1, hm.2.2.1, n_le (by omega) (by omega), if_neg (by omega), m_isNext hm (by decide), cr1_s, bI_0, m_isNext hm (by decide), cr1_s, bI_0, m_isNext hm (by decide), cr1_s, bI_0, m_isNext hm (by decide), cr1_s, bI_0]
  have hC : pX1_readPart S = if alw A (ch p) = false then pX1_readPart_b20 (nI (ch p)) (nI 1) S else pX1_readPart_b20 (nI (ch p)) (nI 0) S := by
    unfold pX1_readPart
    rw [c_sign hs, if_pos hp, cr1_s, c_allowed rC iv hc, cr1_s, bI_0]
  have hC0 : alw A (ch p) = false → pX1_readPart S = some (sto S 1 3 (bI true)) := fun q => by
    rw [hC, if_pos q]
    unfold pX1_readPart_b20
    rw [pz_1, gf_e, sto_i, if_neg (by decide)]
    rfl
  have tN : TC (sto S 1 3 (bI true)) n ch p true := hs.flag true
  have tY : TC (sto (sto S 1 3 (bI false)) 1 2 (nI (p + 1))) n ch (p + 1) false := (hs.flag false).at (by omega)
  have oN : Oth 1 S (sto S 1 3 (bI true)) := Oth.rf.sto
  have oY : Oth 1 S (sto (sto S 1 3 (bI false)) 1 2 (nI (p + 1))) := Oth.rf.sto.sto
  have rN : RepC (sB (sto S 1 3 (bI true)) 20) A := rC.cells (fun a ha => oN (20 + a) (by omega))
  have rY : RepC (sB (sto (sto S 1 3 (bI false)) 1 2 (nI (p + 1))) 20) A := rC.cells (fun a ha => oY (20 + a) (by omega))
  have hC1 : alw A (ch p) = true → pX1_readPart S = (if ch p = 98 then (cr1 (pX1_readBay (sto (sto S 1 3 (bI false)) 1 2 (nI (p + 1)))) fun S90 => some S90)
      else if ch p = 99 then (cws (sto (sto S 1 3 (bI false)) 1 2 (nI (p + 1))) 20 17 (pX4_newConvoy (sB (sto (sto S 1 3 (bI false)) 1 2 (nI (p + 1))) 20)) fun v105 S105 => some S105)
      else if ch p = 100 then (cr1 (pX1_readDepot (sto (sto S 1 3 (bI false)) 1 2 (nI (p + 1)))) fun S98 => some S98)
      else if ch p = 101 then (cr1 (pX1_readVehicle (sto (sto S 1 3 (bI false)) 1 2 (nI (p + 1)))) fun S114 => some S114)
      else if ch p = 102 then (cr1 (pX1_readVehicle (sto (sto S 1 3 (bI false)) 1 2 (nI (p + 1)))) fun S114 => some S114)
      else if ch p = 103 then (cr1 (pX1_readGate (sto (sto S 1 3 (bI false)) 1 2 (nI (p + 1)))) fun S82 => some S82)
      else (cr1 (pX1_readVehicle (sto (sto S 1 3 (bI false)) 1 2 (nI (p + 1)))) fun S114 => some S114)) := fun q => by
    rw [hC, q, if_neg (by decide)]
    unfold pX1_readPart_b20
    rw [pz_0, gf_e, sto_i, if_pos (by decide), gf_e, sto_j (by decide), hs.2.2.2.1, pf_e, nI_add, n_eq (by omega) (by decide), n_eq (by omega) (by decide), n_eq (by omega) (by decide), n_eq (by omega) (by decide), n_eq (by omega) (by decide), n_eq (by omega) (by decide)]
    rfl
  generalize sto S 1 3 (bI true) = SN at hC0 tN oN rN
  generalize sto (sto S 1 3 (bI false)) 1 2 (nI (p + 1)) = SY at tY oY rY hC1
  by_cases a4 : ch p = 103
  · have hM' : pX7_readText_lb56 ih M = (cr1 (pX7_readGate M) fun S84 => ih S84) := by rw [hM, decide_eq_true (⟨hp, a4⟩ : p < n ∧ ch p = 103), if_neg (by decide)]
    have ea : alw A (ch p) = decide (aN A 0 < 4) := by
      rw [a4]
      rfl
    have eg : pX7_readGate M = pX7_readGate_b16 (bI (alw A (ch p))) M := by
      unfold pX7_readGate
      rw [R_n0 rM, n_le (by decide) (Nat.lt_of_le_of_lt (iv.cnt 0 (by decide)) (by decide)), ea]
      by_cases q : aN A 0 < 4
      · rw [if_neg (by omega), decide_eq_true q]
        rfl
      · rw [if_pos (by omega), decide_eq_false q]
        rfl
    by_cases q : alw A (ch p) = false
    · rw [q] at f1 f2 eg
      rw [if_neg (fun z => absurd z.2 (by decide))] at f2
      obtain ⟨S', M', k1, k2, k3⟩ := gate_pair f1 tN f2 rN rM1 iv hL hD h1 h2 (fun z => absurd z (by decide))
      exact ⟨SN, M', hC0 q, by rw [hM', eg, k2, cr1_s], rd_no oN f3 tN rN k3⟩
    · have q' : alw A (ch p) = true := by simpa using q
      have hlt : aN A 0 < 4 := of_decide_eq_true (ea ▸ q')
      rw [q'] at f1 f2 eg
      rw [if_pos ⟨rfl, rfl⟩] at f2
      obtain ⟨S', M', k1, k2, k3⟩ := gate_pair f1 tY f2 rY rM1 iv hL hD h1 h2 (fun _ => hlt)
      exact ⟨S', M', by rw [hC1 q', if_neg (by omega), if_neg (by omega), if_neg (by omega), if_neg (by omega), if_neg (by omega), if_pos a4, k1, cr1_s], by rw [hM', eg, k2, cr1_s], rd_fin oY f3 k3 (Nat.le_succ _)⟩
  · by_cases a1 : ch p = 98
    · have hM' : pX7_readText_lb56 ih M = (cr1 (pX7_readBay M) fun S84 => ih S84) := by rw [hM, decide_eq_false (fun z : p < n ∧ ch p = 103 => a4 z.2), if_pos rfl, decide_eq_true (⟨hp, a1⟩ : p < n ∧ ch p = 98), if_neg (by decide)]
      have ea : alw A (ch p) = decide (aN A 1 < 6) := by
        rw [a1]
        rfl
      have eg : pX7_readBay M = pX7_readBay_b17 (bI (alw A (ch p))) M := by
        unfold pX7_readBay
        rw [R_n1 rM, n_le (by decide) (Nat.lt_of_le_of_lt (iv.cnt 1 (by decide)) (by decide)), ea]
        by_cases q : aN A 1 < 6
        · rw [if_neg (by omega), decide_eq_true q]
          rfl
        · rw [if_pos (by omega), decide_eq_false q]
          rfl
      by_cases q : alw A (ch p) = false
      · rw [q] at f1 f2 eg
        rw [if_neg (fun z => absurd z.2 (by decide))] at f2
        obtain ⟨S', M', k1, k2, k3⟩ := bay_pair f1 tN f2 rN rM1 iv hL hD h1 h2 (fun z => absurd z (by decide))
        exact ⟨SN, M', hC0 q, by rw [hM', eg, k2, cr1_s], rd_no oN f3 tN rN k3⟩
      · have q' : alw A (ch p) = true := by simpa using q
        have hlt : aN A 1 < 6 := of_decide_eq_true (ea ▸ q')
        rw [q'] at f1 f2 eg
        rw [if_pos ⟨rfl, rfl⟩] at f2
        obtain ⟨S', M', k1, k2, k3⟩ := bay_pair f1 tY f2 rY rM1 iv hL hD h1 h2 (fun _ => hlt)
        exact ⟨S', M', by rw [hC1 q', if_pos a1, k1, cr1_s], by rw [hM', eg, k2, cr1_s], rd_fin oY f3 k3 (Nat.le_succ _)⟩
    · by_cases a3 : ch p = 100
      · have hM' : pX7_readText_lb56 ih M = (cr1 (pX7_readDepot M) fun S84 => ih S84) := by rw [hM, decide_eq_false (fun z : p < n ∧ ch p = 103 => a4 z.2), if_pos rfl, decide_eq_false (fun z : p < n ∧ ch p = 98 => a1 z.2), if_pos rfl, decide_eq_true (⟨hp, a3⟩ : p < n ∧ ch p = 100), if_neg (by decide)]
        have ea : alw A (ch p) = decide (aN A 2 < 4) := by
          rw [a3]
          rfl
        have eg : pX7_readDepot M = pX7_readDepot_b16 (bI (alw A (ch p))) M := by
          unfold pX7_readDepot
          rw [R_n2 rM, n_le (by decide) (Nat.lt_of_le_of_lt (iv.cnt 2 (by decide)) (by decide)), ea]
          by_cases q : aN A 2 < 4
          · rw [if_neg (by omega), decide_eq_true q]
            rfl
          · rw [if_pos (by omega), decide_eq_false q]
            rfl
        by_cases q : alw A (ch p) = false
        · rw [q] at f1 f2 eg
          rw [if_neg (fun z => absurd z.2 (by decide))] at f2
          obtain ⟨S', M', k1, k2, k3⟩ := depot_pair f1 tN f2 rN rM1 iv hL hD h1 h2 (fun z => absurd z (by decide))
          exact ⟨SN, M', hC0 q, by rw [hM', eg, k2, cr1_s], rd_no oN f3 tN rN k3⟩
        · have q' : alw A (ch p) = true := by simpa using q
          have hlt : aN A 2 < 4 := of_decide_eq_true (ea ▸ q')
          rw [q'] at f1 f2 eg
          rw [if_pos ⟨rfl, rfl⟩] at f2
          obtain ⟨S', M', k1, k2, k3⟩ := depot_pair f1 tY f2 rY rM1 iv hL hD h1 h2 (fun _ => hlt)
          exact ⟨S', M', by rw [hC1 q', if_neg a1, if_neg (by omega), if_pos a3, k1, cr1_s], by rw [hM', eg, k2, cr1_s], rd_fin oY f3 k3 (Nat.le_succ _)⟩
      · by_cases a2 : ch p = 99
        · have ea : alw A (ch p) = decide (aN A 3 < 4) := by
            rw [a2]
            rfl
          have hM' : pX7_readText_lb56 ih M = pX7_readText_b147 ih (bI (alw A (ch p))) M := by
            rw [hM, decide_eq_false (fun z : p < n ∧ ch p = 103 => a4 z.2), if_pos rfl, decide_eq_false (fun z : p < n ∧ ch p = 98 => a1 z.2), if_pos rfl, decide_eq_false (fun z : p < n ∧ ch p = 100 => a3 z.2), if_pos rfl, decide_eq_true (⟨hp, a2⟩ : p < n ∧ ch p = 99), if_neg (by decide), R_n3 rM, n_le (by decide) (Nat.lt_of_le_of_lt (iv.cnt 3 (by decide)) (by decide)), ea]
            by_cases q : aN A 3 < 4
            · rw [if_neg (by omega), decide_eq_true q]
              rfl
            · rw [if_pos (by omega), decide_eq_false q]
              rfl
          unfold pX7_readText_b147 at hM'
          rw [f1, cr1_s, gf_e, f2.2.2.2.1, bI_0] at hM'
          by_cases q : alw A (ch p) = false
          · rw [q] at f2 hM'
            rw [if_neg (fun z => absurd z.2 (by decide))] at f2
            rw [if_pos (by rfl)] at hM'
            exact ⟨SN, M1, hC0 q, hM', rd_no oN f3 tN rN ⟨p, true, A, tN, f2, rN, rM1, iv, hL, hD, fun _ _ _ => rfl, fun _ _ _ => rfl, fun _ _ _ => rfl, fun z => absurd z (by decide), fun _ => rfl⟩⟩
          · have q' : alw A (ch p) = true := by simpa using q
            have hlt : aN A 3 < 4 := of_decide_eq_true (ea ▸ q')
            rw [q'] at f2 hM'
            rw [if_pos ⟨rfl, rfl⟩] at f2
            obtain ⟨T, j1, j2, _⟩ := c_newConvoy rY hlt
            obtain ⟨U, m1, m2, _⟩ := m_addConvoy (S := sB M1 2) rM1 iv hlt
            rw [if_neg (by decide), m1, cvs_s] at hM'
            have iv' : Inv (newT A 3 (fun _ => nI 0)) := iv.new hlt (fun z => absurd z (by decide)) (fun z => absurd z (by decide)) (fun z => absurd z (by decide)) (fun z => absurd z (by decide)) (fun z => absurd z (by decide))
            have k := rd_new (S := SY) (M := M1) (n := n) (ch := ch) (p := p) (bad := false) (L := L) tY f2 Oth.rf Mx.rf j2 m2 iv' hL (hD.new (fun z => absurd z (by decide))) rfl (Nat.lt_succ_self _)
            exact ⟨_, _, by rw [hC1 q', if_neg a1, if_pos a2, j1, cws_s], hM', rd_fin oY f3 k (Nat.le_refl _)⟩
        · have hM' : pX7_readText_lb56 ih M = (cr1 (pX7_readCar_b61 (nI (aN A 3) - nI 1) (bI (alw A (ch p))) M) fun S168 => ih S168) := by
            rw [hM, decide_eq_false (fun z : p < n ∧ ch p = 103 => a4 z.2), if_pos rfl, decide_eq_false (fun z : p < n ∧ ch p = 98 => a1 z.2), if_pos rfl, decide_eq_false (fun z : p < n ∧ ch p = 100 => a3 z.2), if_pos rfl, decide_eq_false (fun z : p < n ∧ ch p = 99 => a2 z.2), if_pos rfl, m_readCar hm rM iv hp ⟨a1, a2, a3, a4⟩]
          by_cases q : alw A (ch p) = false
          · rw [q] at f1 f2 hM'
            rw [if_neg (fun z => absurd z.2 (by decide))] at f2
            obtain ⟨S', M', k1, k2, k3⟩ := car_pair (x1 := nI (aN A 3) - nI 1) f1 tN f2 rN rM1 iv hL hD (fun z => absurd z (by decide))
            exact ⟨SN, M', hC0 q, by rw [hM', k2, cr1_s], rd_no oN f3 tN rN k3⟩
          · have q' : alw A (ch p) = true := by simpa using q
            have ea : alw A (ch p) = if ch p = 118 then decide (0 < aN A 3 ∧ aN A 4 < 16 ∧ (aL A 0 (aN A 3 - 1)).length < 8) else false := by
              unfold alw
              rw [if_neg a1, if_neg a2, if_neg a3, if_neg a4]
            have a5 : ch p = 118 := by
              by_cases z : ch p = 118
              · exact z
              · rw [ea, if_neg z] at q'
                exact absurd q' (by decide)
            have hv : 0 < aN A 3 ∧ aN A 4 < 16 ∧ (aL A 0 (aN A 3 - 1)).length < 8 := by
              have q2 := q'
              rw [ea, if_pos a5] at q2
              exact of_decide_eq_true q2
            rw [q'] at f1 f2 hM'
            rw [if_pos ⟨rfl, rfl⟩] at f2
            obtain ⟨S', M', k1, k2, k3⟩ := car_pair (x1 := nI (aN A 3) - nI 1) f1 tY f2 rY rM1 iv hL hD (fun _ => ⟨hv.1, hv.2.1, hv.2.2, pk_sub (by omega)⟩)
            exact ⟨S', M', by rw [hC1 q', if_neg a1, if_neg a2, if_neg a3, if_neg (by omega), if_neg (by omega), if_neg a4, k1, cr1_s], by rw [hM', k2, cr1_s], rd_fin oY f3 k3 (Nat.le_succ _)⟩
end ALLTEXT
