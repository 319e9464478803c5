/-! ===== a script's command: both do the same ===== -/
section OBEY
variable {S M : mM} {A : aA} {w w' fl fl' : Int32} {st : Bool} {g : Nat}
def ObR (S M : mM) (g : Nat) (w w' : Int32) : Prop := ∃ r S' M' A' fl st fl', pX4_obeys (nI g) S = some (bI r, S') ∧ pX7_does (nI g) M = some (bI r, M') ∧ CR S' A' w fl st ∧ MR M' 4 A' w' fl' ∧ Inv A' ∧ Mo 4 M M'
theorem ob_is (hc : CR S A w fl st) (hm : MR M 4 A w' fl') (iv : Inv A) (r : Bool) (e1 : pX4_obeys (nI g) S = some (bI r, S)) (e2 : pX7_does (nI g) M = some (bI r, M)) : ObR S M g w w' := ⟨r, S, M, A, fl, st, fl', e1, e2, hc, hm, iv, Mo.rf⟩
theorem C_has (h : RepC S A) {k o N i : Nat} (hk : k < 5) (ho : o = 1 + 2 * k) (hi : i < 2 ^ 20) (iv : Inv A) : pX5_has N (nI i) (sB S o) = some (bI (decide (i < aN A k))) := by
  subst ho
  have hN : aN A k ≤ aMx k := iv.cnt k hk
  have hM : aMx k ≤ 16 := by rcases k5 hk with rfl | rfl | rfl | rfl | rfl <;> decide
  rw [tab_has (h.2.1 k hk)]
  by_cases q : i < aN A k
  · rw [decide_eq_true q, if_neg]
    · rfl
    · rw [P_lt0 (by omega), P_le (by omega) (by omega)]
      exact fun y => y.elim (fun z => z) (fun z => by omega)
  · rw [decide_eq_false q, if_pos]
    · rfl
    · rw [P_le (by omega) (by omega)]
      exact Or.inr (by omega)
theorem c_pass_0 : pX4_letGoBy (nI 0) S = some (nI 0, S) := by
  unfold pX4_letGoBy
  rw [within_n (by decide) (by decide) (by decide), if_neg (by decide), cr1_s, if_pos (by decide), gd_p isZ_0]
theorem ob_1 (hc : CR S A w fl st) (hm : MR M 4 A w' fl') (iv : Inv A) (hg : g < 100000) (h : g / 10000 = 1) : ObR S M g w w' := by
  by_cases z : g / 100 % 100 = 0
  · have z1 : g / 1000 % 10 = 0 := by omega
    have z2 : g / 100 % 10 = 0 := by omega
    by_cases y : g % 100 = 0
    · refine ob_is hc hm iv false ?_ ?_
      · rw [oc_1 hg h, z1, if_pos (by decide), z2, if_pos (by decide), y, c_pass_0, cw2_s, if_pos (by decide), gd_p isZ_0]
        rfl
      · rw [om_1 hg h, z, if_pos (by decide), y, if_pos (by decide), gd_p isZ_0]
        rfl
    · obtain ⟨S', st', e1, r1⟩ := c_pass hc iv (n := g % 100) (by omega) (by omega)
      obtain ⟨M', f1, r2, o2⟩ := m_pass hm (by decide) iv (n := g % 100) (by omega)
      refine ⟨true, S', M', _, _, st', _, ?_, ?_, r1, (iterN_i (w := w') (w' := w) (g % 100) A fl' fl) ▸ r2, (iterN_ok (w := w) (g % 100) (A, fl) iv).1, o2⟩
      · rw [oc_1 hg h, z1, if_pos (by decide), z2, if_pos (by decide), e1, cw2_s, if_neg (by decide), gd_p isZ_1]
        rfl
      · rw [om_1 hg h, z, if_pos (by decide), n_eq0 (by omega), if_neg y, f1, cw2_s, gd_p isZ_1]
        rfl
  · refine ob_is hc hm iv false ?_ ?_
    · rw [oc_1 hg h, n_eq0 (by omega), n_eq0 (by omega), gd_p isZ_0]
      by_cases y : g / 1000 % 10 = 0
      · rw [if_pos y, if_neg (by omega)]
        rfl
      · rw [if_neg y]
        rfl
    · rw [om_1 hg h, n_eq0 (by omega), if_neg z, gd_p isZ_0]
      rfl
theorem ob_2 (hc : CR S A w fl st) (hm : MR M 4 A w' fl') (iv : Inv A) (hg : g < 100000) (h : g / 10000 = 2) : ObR S M g w w' := by
  have h4 := cnt3 iv
  have m0 : ∀ K : Int32 → Option (Int32 × mM), ld M 4 250 (nI 5) K = K (nI (aN A 3)) := fun K => R_n3 hm.1
  by_cases y : g / 100 % 10 = 0
  · have eh : pX5_has 16 (nI (g / 1000 % 10)) (sB S 7) = some (bI (decide (g / 1000 % 10 < aN A 3))) := C_has hc.1 (by decide) rfl (by omega) iv
    by_cases z : g / 1000 % 10 < aN A 3
    · rw [decide_eq_true z] at eh
      by_cases x : g % 100 ≤ 23
      · obtain ⟨S', e1, r1, z1⟩ := C_put (ρ := Int32 × mM) hc.1 (k := 3) (o := 7) (n := 16) (i := g / 1000 % 10) (j := 1) (nI (g % 100)) (by decide) rfl rfl z (by decide)
        refine ⟨true, S', sto M 4 (86 + 13 * (g / 1000 % 10) + 2) (nI (g % 100)), aPut A 3 (g / 1000 % 10) 1 (nI (g % 100)), fl, st, fl', ?_, ?_, hc.to r1 z1, hm.w (by decide) (hm.1.put (k := 3) (i := g / 1000 % 10) (j := 1) _ (by decide) z (by decide) (by decide)), iv.put3 _ _ _, Mo.rf.w (by decide)⟩
        · rw [oc_2 hg h, y, if_pos (by decide)]
          unfold pX4_obeysHold
          rw [eh, cr1_s, if_neg (by decide), within_n (by omega) (by decide) (by decide), if_pos ⟨by omega, x⟩, cr1_s, if_neg (by decide), e1, gd_p isZ_1, cw2_s, if_neg (by decide), gd_p isZ_1]
          rfl
        · rw [om_2 hg h, m0, n_le (by omega) (by omega), if_neg (by omega), y, if_pos (by decide)]
          unfold pX7_isHold
          rw [in_n _ (by decide) (by decide), cr1_s, gd_p (bI_Z _), cr1_s, decide_eq_true (⟨by rw [P_le (by decide) (by omega)]; omega, by rw [P_le (by omega) (by decide)]; exact x⟩ : nI 0 ≤ nI (g % 100) ∧ nI (g % 100) ≤ nI 23), if_neg (by decide), convoyAt_n, cr1_s, st_n (by omega) (by decide), gd_p isZ_1]
          rfl
      · refine ob_is hc hm iv false ?_ ?_
        · rw [oc_2 hg h, y, if_pos (by decide)]
          unfold pX4_obeysHold
          rw [eh, cr1_s, if_neg (by decide), within_n (by omega) (by decide) (by decide), if_neg (fun k => x k.2), cr1_s, if_pos (by decide), gd_p isZ_0, cw2_s, if_pos (by decide), gd_p isZ_0]
          rfl
        · rw [om_2 hg h, m0, n_le (by omega) (by omega), if_neg (by omega), y, if_pos (by decide)]
          unfold pX7_isHold
          rw [in_n _ (by decide) (by decide), cr1_s, gd_p (bI_Z _), cr1_s, decide_eq_false (fun k => x (by have := k.2; rw [P_le (by omega) (by decide)] at this; exact this)), if_pos (by decide), gd_p isZ_0]
          rfl
    · rw [decide_eq_false z] at eh
      refine ob_is hc hm iv false ?_ ?_
      · rw [oc_2 hg h, y, if_pos (by decide)]
        unfold pX4_obeysHold
        rw [eh, cr1_s, if_pos (by decide), gd_p isZ_0, cw2_s, if_pos (by decide), gd_p isZ_0]
        rfl
      · rw [om_2 hg h, m0, n_le (by omega) (by omega), if_pos (by omega), gd_p isZ_0]
        rfl
  · refine ob_is hc hm iv false ?_ ?_
    · rw [oc_2 hg h, n_eq0 (by omega), if_neg y, gd_p isZ_0]
      rfl
    · rw [om_2 hg h, m0, n_le (by omega) (by omega), n_eq0 (by omega), if_neg y, gd_p isZ_0]
      by_cases z : aN A 3 ≤ g / 1000 % 10
      · rw [if_pos z]
        rfl
      · rw [if_neg z]
        rfl
theorem ob_3 (hc : CR S A w fl st) (hm : MR M 4 A w' fl') (iv : Inv A) (hg : g < 100000) (h : g / 10000 = 3) : ObR S M g w w' := by
  have h4 : aN A 2 ≤ 4 := iv.cnt 2 (by decide)
  have m0 : ∀ K : Int32 → Option (Int32 × mM), ld M 4 250 (nI 4) K = K (nI (aN A 2)) := fun K => R_n2 hm.1
  have eh : pX5_has 8 (nI (g / 1000 % 10)) (sB S 5) = some (bI (decide (g / 1000 % 10 < aN A 2))) := C_has hc.1 (by decide) rfl (by omega) iv
  by_cases z : g / 1000 % 10 < aN A 2
  · rw [decide_eq_true z] at eh
    obtain ⟨q, q1, q2⟩ := iv.depot _ z
    by_cases x : 1 ≤ g % 1000 ∧ g % 1000 ≤ 500
    · by_cases v : q + g % 1000 ≤ 999
      · obtain ⟨S', e1, r1, z1⟩ := C_raise (ρ := Int32 × mM) hc.1 (k := 2) (o := 5) (n := 8) (i := g / 1000 % 10) (j := 1) (nI (g % 1000)) (by decide) rfl rfl z (by decide)
        refine ⟨true, S', sto M 4 (78 + 2 * (g / 1000 % 10) + 1) (aT A 2 (g / 1000 % 10) 1 + nI (g % 1000)), aPut A 2 (g / 1000 % 10) 1 (aT A 2 (g / 1000 % 10) 1 + nI (g % 1000)), fl, st, fl', ?_, ?_, hc.to r1 z1, hm.w (by decide) (hm.1.put (k := 2) (i := g / 1000 % 10) (j := 1) _ (by decide) z (by decide) (by decide)), iv.stock (q := q + g % 1000) (by rw [q1, nI_add]) (by omega), Mo.rf.w (by decide)⟩
        · rw [oc_3 hg h]
          unfold pX4_obeysSupply
          rw [eh, cr1_s, if_neg (by decide), within_n (by omega) (by decide) (by decide), if_pos x, cr1_s, if_neg (by decide), C_getD hc.1 z (by decide), cr1_s, q1, nI_add, n_le (by omega) (by decide), if_pos v, e1, gd_p isZ_1, cw2_s, gd_p isZ_1]
          rfl
        · rw [om_3 hg h, m0, n_le (by omega) (by omega), if_neg (by omega), in_n _ (by decide) (by decide), cr1_s, decide_eq_true (⟨by rw [P_le (by decide) (by omega)]; exact x.1, by rw [P_le (by omega) (by decide)]; exact x.2⟩ : nI 1 ≤ nI (g % 1000) ∧ nI (g % 1000) ≤ nI 500), if_neg (by decide), depotAt_n, cr1_s, R_ldD hm.1 z (by decide), n_if (show (aT A 2 (g / 1000 % 10) 1 + nI (g % 1000) ≤ nI 999) = (q + g % 1000 ≤ 999) by rw [q1, nI_add, P_le (by omega) (by decide)]), if_pos v, cr1_s, R_ldD hm.1 z (by decide), st_n (by omega) (by decide), gd_p isZ_1]
          rfl
      · refine ob_is hc hm iv false ?_ ?_
        · rw [oc_3 hg h]
          unfold pX4_obeysSupply
          rw [eh, cr1_s, if_neg (by decide), within_n (by omega) (by decide) (by decide), if_pos x, cr1_s, if_neg (by decide), C_getD hc.1 z (by decide), cr1_s, q1, nI_add, n_le (by omega) (by decide), if_neg v, gd_p isZ_0, cw2_s, gd_p isZ_0]
          rfl
        · rw [om_3 hg h, m0, n_le (by omega) (by omega), if_neg (by omega), in_n _ (by decide) (by decide), cr1_s, decide_eq_true (⟨by rw [P_le (by decide) (by omega)]; exact x.1, by rw [P_le (by omega) (by decide)]; exact x.2⟩ : nI 1 ≤ nI (g % 1000) ∧ nI (g % 1000) ≤ nI 500), if_neg (by decide), depotAt_n, cr1_s, R_ldD hm.1 z (by decide), n_if (show (aT A 2 (g / 1000 % 10) 1 + nI (g % 1000) ≤ nI 999) = (q + g % 1000 ≤ 999) by rw [q1, nI_add, P_le (by omega) (by decide)]), if_neg v, gd_p isZ_0]
          rfl
    · refine ob_is hc hm iv false ?_ ?_
      · rw [oc_3 hg h]
        unfold pX4_obeysSupply
        rw [eh, cr1_s, if_neg (by decide), within_n (by omega) (by decide) (by decide), if_neg x, cr1_s, if_pos (by decide), gd_p isZ_0, cw2_s, gd_p isZ_0]
        rfl
      · rw [om_3 hg h, m0, n_le (by omega) (by omega), if_neg (by omega), in_n _ (by decide) (by decide), cr1_s, decide_eq_false (fun k => x ⟨by have := k.1; rw [P_le (by decide) (by omega)] at this; exact this, by have := k.2; rw [P_le (by omega) (by decide)] at this; exact this⟩), if_pos (by decide), gd_p isZ_0]
        rfl
  · rw [decide_eq_false z] at eh
    refine ob_is hc hm iv false ?_ ?_
    · rw [oc_3 hg h]
      unfold pX4_obeysSupply
      rw [eh, cr1_s, if_pos (by decide), gd_p isZ_0, cw2_s, gd_p isZ_0]
      rfl
    · rw [om_3 hg h, m0, n_le (by omega) (by omega), if_pos (by omega), gd_p isZ_0]
      rfl
end OBEY
