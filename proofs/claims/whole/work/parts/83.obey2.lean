/-! ===== a script's command: the questions ===== -/
section OBEY2
variable {S M : mM} {A : aA} {w w' fl fl' : Int32} {st : Bool} {g : Nat}
theorem tf_bI {α : Type} {P : Prop} [Decidable P] (X : α) : (if P then some ((nI 0), X) else some ((nI 1), X)) = some (bI (!decide P), X) := by
  by_cases q : P
  · rw [if_pos q, decide_eq_true q]
    rfl
  · rw [if_neg q, decide_eq_false q]
    rfl
theorem ft_bI {α : Type} {P : Prop} [Decidable P] (X : α) : (if P then some ((nI 1), X) else some ((nI 0), X)) = some (bI (decide P), X) := by
  by_cases q : P
  · rw [if_pos q, decide_eq_true q]
    rfl
  · rw [if_neg q, decide_eq_false q]
    rfl
theorem ob_4 (hc : CR S A w fl st) (hm : MR M 4 A w' fl') (iv : Inv A) (hg : g < 100000) (h : g / 10000 = 4) : ObR S M g w w' := by
  have h4 := cnt3 iv
  have m0 : ∀ K : Int32 → Option (Int32 × mM), ld M 4 250 (nI 5) K = K (nI (aN A 3)) := fun K => R_n3 hm.1
  by_cases y : g / 100 % 10 = 0
  · have eh : pX5_has 16 (nI (g / 1000 % 10)) (sB S 7) = some (bI (decide (g / 1000 % 10 < aN A 3))) := C_has hc.1 (by decide) rfl (by omega) iv
    by_cases z : g / 1000 % 10 < aN A 3
    · rw [decide_eq_true z] at eh
      refine ob_is hc hm iv (!decide (aT A 3 (g / 1000 % 10) 0 < nI (g % 100))) ?_ ?_
      · rw [oc_4 hg h, y, if_pos (by decide), eh, cr1_s, if_neg (by decide), C_getC hc.1 z (by decide), cr1_s, gd_p isZ_0, gd_p isZ_1, tf_bI]
      · rw [om_4 hg h, m0, n_le (by omega) (by omega), if_neg (by omega), y, if_pos (by decide), convoyAt_n, cr1_s, R_ldC0 hm.1 z, gd_p isZ_0, gd_p isZ_1, tf_bI]
    · rw [decide_eq_false z] at eh
      refine ob_is hc hm iv false ?_ ?_
      · rw [oc_4 hg h, y, if_pos (by decide), eh, cr1_s, if_pos (by decide), gd_p isZ_0]
        rfl
      · rw [om_4 hg h, m0, n_le (by omega) (by omega), if_pos (by omega), gd_p isZ_0]
        rfl
  · refine ob_is hc hm iv false ?_ ?_
    · rw [oc_4 hg h, n_eq0 (by omega), if_neg y, gd_p isZ_0]
      rfl
    · rw [om_4 hg h, m0, n_le (by omega) (by omega), n_eq0 (by omega), if_neg y, gd_p isZ_0]
      by_cases z : aN A 3 ≤ g / 1000 % 10
      · rw [if_pos z]
        rfl
      · rw [if_neg z]
        rfl
theorem ob_5 (hc : CR S A w fl st) (hm : MR M 4 A w' fl') (iv : Inv A) (hg : g < 100000) (h : g / 10000 = 5) : ObR S M g w w' := by
  have h16 := cnt4 iv
  have m0 : ∀ K : Int32 → Option (Int32 × mM), ld M 4 250 (nI 6) K = K (nI (aN A 4)) := fun K => R_n4 hm.1
  have eh : pX5_has 112 (nI (g / 100 % 100)) (sB S 9) = some (bI (decide (g / 100 % 100 < aN A 4))) := C_has hc.1 (by decide) rfl (by omega) iv
  by_cases z : g / 100 % 100 < aN A 4
  · rw [decide_eq_true z] at eh
    refine ob_is hc hm iv (!decide (aT A 4 (g / 100 % 100) 3 < nI (g % 100))) ?_ ?_
    · rw [oc_5 hg h, eh, cr1_s, if_neg (by decide), C_getV hc.1 z (by decide), cr1_s, gd_p isZ_0, gd_p isZ_1, tf_bI]
    · rw [om_5 hg h, m0, n_le (by omega) (by omega), if_neg (by omega), carAt_n, cr1_s, R_ldV hm.1 z (by decide), gd_p isZ_0, gd_p isZ_1, tf_bI]
  · rw [decide_eq_false z] at eh
    refine ob_is hc hm iv false ?_ ?_
    · rw [oc_5 hg h, eh, cr1_s, if_pos (by decide), gd_p isZ_0]
      rfl
    · rw [om_5 hg h, m0, n_le (by omega) (by omega), if_pos (by omega), gd_p isZ_0]
      rfl
theorem ob_6 (hc : CR S A w fl st) (hm : MR M 4 A w' fl') (iv : Inv A) (hg : g < 100000) (h : g / 10000 = 6) : ObR S M g w w' := by
  have h16 := cnt4 iv
  have m0 : ∀ K : Int32 → Option (Int32 × mM), ld M 4 250 (nI 6) K = K (nI (aN A 4)) := fun K => R_n4 hm.1
  have eh : pX5_has 112 (nI (g / 100 % 100)) (sB S 9) = some (bI (decide (g / 100 % 100 < aN A 4))) := C_has hc.1 (by decide) rfl (by omega) iv
  by_cases z : g / 100 % 100 < aN A 4
  · rw [decide_eq_true z] at eh
    by_cases y : g / 10 % 10 = 0
    · have e0 : g % 100 = g % 10 := by omega
      refine ob_is hc hm iv (decide (aT A 4 (g / 100 % 100) 4 = nI (g % 10))) ?_ ?_
      · rw [oc_6 hg h, y, if_pos (by decide), eh, cr1_s, if_neg (by decide), C_getV hc.1 z (by decide), cr1_s, gd_p isZ_0, gd_p isZ_1, ft_bI]
      · rw [om_6 hg h, m0, n_le (by omega) (by omega), if_neg (by omega), n_le (by omega) (by omega), if_neg (by omega), carAt_n, cr1_s, R_ldV hm.1 z (by decide), gd_p isZ_0, gd_p isZ_1, ft_bI, e0]
    · refine ob_is hc hm iv false ?_ ?_
      · rw [oc_6 hg h, n_eq0 (by omega), if_neg y, gd_p isZ_0]
        rfl
      · rw [om_6 hg h, m0, n_le (by omega) (by omega), if_neg (by omega), n_le (by omega) (by omega), if_pos (by omega), gd_p isZ_0]
        rfl
  · rw [decide_eq_false z] at eh
    refine ob_is hc hm iv false ?_ ?_
    · rw [oc_6 hg h, n_eq0 (by omega), gd_p isZ_0]
      by_cases y : g / 10 % 10 = 0
      · rw [if_pos y, eh, cr1_s, if_pos (by decide)]
        rfl
      · rw [if_neg y]
        rfl
    · rw [om_6 hg h, m0, n_le (by omega) (by omega), if_pos (by omega), gd_p isZ_0]
      rfl
theorem clF_le (A : aA) (g : Nat) : (clF A g ≤ 0) = (clF A g = 0) := by
  unfold clF
  by_cases q : nI 0 < aT A 0 g 2 - remI (aS A 1 + aT A 0 g 3) (aT A 0 g 1)
  · rw [if_pos q]
    refine propext ⟨fun z => absurd z (Int32.not_le.mpr q), fun z => ?_⟩
    rw [z]
    exact Int32.le_refl _
  · rw [if_neg q]
    exact propext ⟨fun _ => rfl, fun _ => Int32.le_refl _⟩
theorem ob_7 (hc : CR S A w fl st) (hm : MR M 4 A w' fl') (iv : Inv A) (hg : g < 100000) (h : g / 10000 = 7) : ObR S M g w w' := by
  have h4 : aN A 0 ≤ 4 := iv.cnt 0 (by decide)
  have m0 : ∀ K : Int32 → Option (Int32 × mM), ld M 4 250 (nI 2) K = K (nI (aN A 0)) := fun K => R_n0 hm.1
  have eh : pX5_has 16 (nI (g / 1000 % 10)) (sB S 1) = some (bI (decide (g / 1000 % 10 < aN A 0))) := C_has hc.1 (by decide) rfl (by omega) iv
  by_cases x : g % 1000 < 2
  · have x1 : g % 100 = g % 1000 := by omega
    have x2 : g / 100 % 10 = 0 := by omega
    have x3 : g % 10 = g % 1000 := by omega
    by_cases z : g / 1000 % 10 < aN A 0
    · rw [decide_eq_true z] at eh
      have rS : RepR (sB M 4 0) A := hm.1
      have ec : pX4_obeys (nI g) S = pX4_obeys_b299 (nI (g % 1000)) (bI (shutG A (g / 1000 % 10))) S := by
        rw [oc_7 hg h, x1, n_lt (by decide) (by omega), if_neg (by omega), x2, if_pos (by decide), eh, cr1_s, if_neg (by decide), c_closed hc.1 iv z, cr1_s, x3, n_if ((clF_le A _).trans (clF_0 iv z))]
        cases shutG A (g / 1000 % 10) <;> rfl
      have em : pX7_does (nI g) M = if nI (g % 1000) = nI 1 then pX7_does_b367 (bI (shutG A (g / 1000 % 10))) (nI 1) M else pX7_does_b367 (bI (shutG A (g / 1000 % 10))) (nI 0) M := by
        rw [om_7 hg h, m0, n_le (by omega) (by omega), if_neg (by omega), n_le (by decide) (by omega), if_neg (by omega), m_closed rS iv z, cr1_s]
      refine ob_is hc hm iv (decide (bI (shutG A (g / 1000 % 10)) = if nI (g % 1000) = nI 1 then nI 1 else nI 0)) ?_ ?_
      · rw [ec]
        unfold pX4_obeys_b299 pX4_obeys_b310
        rw [gd_p isZ_0, gd_p isZ_1]
        by_cases y : nI (g % 1000) = nI 1
        · rw [if_pos y, if_pos y, ft_bI]
        · rw [if_neg y, if_neg y, ft_bI]
      · rw [em]
        unfold pX7_does_b367
        rw [gd_p isZ_0, gd_p isZ_1]
        by_cases y : nI (g % 1000) = nI 1
        · rw [if_pos y, if_pos y, ft_bI]
        · rw [if_neg y, if_neg y, ft_bI]
    · rw [decide_eq_false z] at eh
      refine ob_is hc hm iv false ?_ ?_
      · rw [oc_7 hg h, x1, n_lt (by decide) (by omega), if_neg (by omega), x2, if_pos (by decide), eh, cr1_s, if_pos (by decide), gd_p isZ_0]
        rfl
      · rw [om_7 hg h, m0, n_le (by omega) (by omega), if_pos (by omega), gd_p isZ_0]
        rfl
  · refine ob_is hc hm iv false ?_ ?_
    · rw [oc_7 hg h, n_lt (by decide) (by omega), n_eq0 (by omega), gd_p isZ_0]
      by_cases y : 1 < g % 100
      · rw [if_pos y]
        rfl
      · rw [if_neg y, if_neg (by omega)]
        rfl
    · rw [om_7 hg h, m0, n_le (by omega) (by omega), n_le (by decide) (by omega), if_pos (show 2 ≤ g % 1000 by omega), gd_p isZ_0]
      by_cases z : aN A 0 ≤ g / 1000 % 10
      · rw [if_pos z]
        rfl
      · rw [if_neg z]
        rfl
theorem ob_8 (hc : CR S A w fl st) (hm : MR M 4 A w' fl') (iv : Inv A) (hg : g < 100000) (h : g / 10000 = 8) : ObR S M g w w' := by
  have h6 := cnt1 iv
  have m0 : ∀ K : Int32 → Option (Int32 × mM), ld M 4 250 (nI 3) K = K (nI (aN A 1)) := fun K => R_n1 hm.1
  have eh : pX5_has 12 (nI (g / 1000 % 10)) (sB S 3) = some (bI (decide (g / 1000 % 10 < aN A 1))) := C_has hc.1 (by decide) rfl (by omega) iv
  by_cases x : g % 1000 < 10
  · have x1 : g / 100 % 10 = 0 := by omega
    have x2 : g / 10 % 10 = 0 := by omega
    have x3 : g % 10 = g % 1000 := by omega
    by_cases z : g / 1000 % 10 < aN A 1
    · rw [decide_eq_true z] at eh
      refine ob_is hc hm iv (!decide (nI (aL A 1 (g / 1000 % 10)).length < nI (g % 1000))) ?_ ?_
      · rw [oc_8 hg h, x1, if_pos (by decide), x2, if_pos (by decide), eh, cr1_s, if_neg (by decide), C_size1 hc.1 (by omega), cr1_s, x3, gd_p isZ_0, gd_p isZ_1, tf_bI]
      · rw [om_8 hg h, m0, n_le (by omega) (by omega), if_neg (by omega), n_le (by decide) (by omega), if_neg (by omega), bayAt_n, cr1_s, R_size1 hm.1 z, gd_p isZ_0, gd_p isZ_1, tf_bI]
    · rw [decide_eq_false z] at eh
      refine ob_is hc hm iv false ?_ ?_
      · rw [oc_8 hg h, x1, if_pos (by decide), x2, if_pos (by decide), eh, cr1_s, if_pos (by decide), gd_p isZ_0]
        rfl
      · rw [om_8 hg h, m0, n_le (by omega) (by omega), if_pos (by omega), gd_p isZ_0]
        rfl
  · refine ob_is hc hm iv false ?_ ?_
    · rw [oc_8 hg h, n_eq0 (by omega), n_eq0 (by omega), gd_p isZ_0]
      by_cases y : g / 100 % 10 = 0
      · rw [if_pos y, if_neg (by omega)]
        rfl
      · rw [if_neg y]
        rfl
    · rw [om_8 hg h, m0, n_le (by omega) (by omega), n_le (by decide) (by omega), if_pos (show 10 ≤ g % 1000 by omega), gd_p isZ_0]
      by_cases z : aN A 1 ≤ g / 1000 % 10
      · rw [if_pos z]
        rfl
      · rw [if_neg z]
        rfl
theorem ob_9 (hc : CR S A w fl st) (hm : MR M 4 A w' fl') (iv : Inv A) (hg : g < 100000) (h : g / 10000 = 9) : ObR S M g w w' := by
  have rS : RepR (sB M 4 0) A := hm.1
  by_cases z : g / 100 % 100 = 0
  · have z1 : g / 1000 % 10 = 0 := by omega
    have z2 : g / 100 % 10 = 0 := by omega
    refine ob_is hc hm iv (!decide (nI (cntN A (nI 2) (aN A 4)) < nI (g % 100))) ?_ ?_
    · rw [oc_9 hg h, z1, if_pos (by decide), z2, if_pos (by decide), c_many hc.1 iv, cr1_s, gd_p isZ_0, gd_p isZ_1, tf_bI]
    · rw [om_9 hg h, z, if_pos (by decide), m_many rS, cr1_s, gd_p isZ_0, gd_p isZ_1, tf_bI]
  · refine ob_is hc hm iv false ?_ ?_
    · rw [oc_9 hg h, n_eq0 (by omega), n_eq0 (by omega), gd_p isZ_0]
      by_cases y : g / 1000 % 10 = 0
      · rw [if_pos y, if_neg (by omega)]
        rfl
      · rw [if_neg y]
        rfl
    · rw [om_9 hg h, n_eq0 (by omega), if_neg z, gd_p isZ_0]
      rfl
theorem ob_0 (hc : CR S A w fl st) (hm : MR M 4 A w' fl') (iv : Inv A) (hg : g < 100000) (h : g / 10000 = 0) : ObR S M g w w' := by
  refine ob_is hc hm iv false ?_ ?_
  · rw [oc_0 hg h, gd_p isZ_0]
    rfl
  · rw [om_0 hg h, gd_p isZ_0]
    rfl
theorem obey (hc : CR S A w fl st) (hm : MR M 4 A w' fl') (iv : Inv A) (hg : g < 100000) : ObR S M g w w' := by
  have hk : g / 10000 = 0 ∨ g / 10000 = 1 ∨ g / 10000 = 2 ∨ g / 10000 = 3 ∨ g / 10000 = 4 ∨ g / 10000 = 5 ∨ g / 10000 = 6 ∨ g / 10000 = 7 ∨ g / 10000 = 8 ∨ g / 10000 = 9 := by omega
  rcases hk with h | h | h | h | h | h | h | h | h | h
  · exact ob_0 hc hm iv hg h
  · exact ob_1 hc hm iv hg h
  · exact ob_2 hc hm iv hg h
  · exact ob_3 hc hm iv hg h
  · exact ob_4 hc hm iv hg h
  · exact ob_5 hc hm iv hg h
  · exact ob_6 hc hm iv hg h
  · exact ob_7 hc hm iv hg h
  · exact ob_8 hc hm iv hg h
  · exact ob_9 hc hm iv hg h
end OBEY2
