/-! ===== append, clearText, errorPosition, load ===== -/
section TEXTCALLS
variable {C D C' D' : mM} {Es : List String}
theorem MP.ex {c : Option ((Int32 ⊕ String) × mM)} {m : Option (Int32 × mM)} {b : Int32} (i : Nat) (hi : i < Es.length) (hc : c = some (.inr (Es.getD i ""), C')) (hm : m = some (b, D')) (h : PI C' D') (h0 : D' 0 0 = nI (i + 1)) : MP Es c m :=
  ⟨_, _, _, _, hc, hm, h, Or.inr ⟨i, hi, rfl, h0⟩⟩
theorem nar_char {q : Nat} (hq : q < 65536) : vp_nar .char (nI q) = nI q := by
  rw [vp_nar_char, ← lg_i2c_nf]
  exact lg_i2c_word (by rw [nI_toInt (by omega)]; omega) (by rw [nI_toInt (by omega)]; omega)
theorem i2c {q : Nat} (hq : q < 65536) : ((nI q).toUInt32 % 65536).toInt32 = nI q := lg_i2c_word (by rw [nI_toInt (by omega)]; omega) (by rw [nI_toInt (by omega)]; omega)
theorem a_append (h : PI C D) (x : Int32) : MP ["java/lang/IllegalArgumentException", "java/lang/IllegalStateException"] (pX6_append x C) (pX7_append x D) := by
  obtain ⟨⟨A, hA⟩, ⟨n, ch, ⟨t1, t2, t3, b, t4⟩, t5, t6⟩, hP, hH⟩ := id h
  have eF : pX1_isFull C = some (bI (decide (140 ≤ n))) := by
    unfold pX1_isFull
    rw [gf_e, t1, n_lt (by omega) (by decide), gd_p isZ_0, gd_p isZ_1]
    by_cases q : n < 140
    · rw [if_pos q, decide_eq_false (by omega)]
      rfl
    · rw [if_neg q, decide_eq_true (by omega)]
      rfl
  by_cases hx : nI 0 ≤ x ∧ x ≤ nI 255
  · obtain ⟨q, q0, q1, rfl⟩ := rngN (by decide) (by decide) hx
    by_cases z : n < 140
    · refine MP.ok (v := nI (n + 1)) (C' := sto (sto C 2 n (nI q)) 1 1 (nI (n + 1))) (D' := sto (sto (sto D 0 0 (nI 0)) 1 n (nI q)) 0 2 (nI (n + 1))) ?_ ?_ ?_ ?_
      · unfold pX6_append
        rw [rng_ok hx, bx_n, eF, cr1_s, decide_eq_false (by omega), bI_f, ref_0, bx_n, i2c (by omega)]
        unfold pX1_addSign
        rw [gf_e, t1, n_lt0 (by omega), if_neg (fun y => y), gf_e, t1, n_le (by decide) (by omega), if_neg (by omega), gf_e, t1, st_n (by omega) (by decide), nar_char (by omega), gf_e, sto_k (by decide), t1, pf_e, nI_add, gf_e, sto_i, cw2_s]
      · unfold pX7_append
        rw [inr_ok (by decide) (by decide) hx, cr1_s, if_neg (by decide), gf_e, t5, n_eq (by omega) (by decide), if_neg (by omega)]
        unfold pX7_append_b32
        rw [refused_0, cw2_s, if_pos (by decide), gf_e, sto_j (by decide), t5, st_n (by omega) (by decide), gf_e, sto_k (by decide), sto_j (by decide), t5, pf_e, nI_add, gf_e, sto_i]
      · refine ⟨⟨A, hA.fr (fun a h1 h2 => by rw [sto_k (by omega), sto_k (by omega)]) (by rw [sto_k (by decide), sto_k (by decide), sto_k (by decide)]) (by rw [sto_j (by decide), sto_k (by decide), sto_j (by decide)])⟩, ⟨n + 1, fun i => if i = n then q else ch i, ⟨sto_i _ _ _ _, by omega, fun i hi => ?_, b, by rw [sto_j (by decide), sto_k (by decide)]; exact t4⟩, sto_i _ _ _ _, fun i hi => ?_⟩, hP.fr (fun a ha => by rw [sto_k (by omega), sto_k (by omega)]) (by rw [sto_k (by decide), sto_k (by decide), sto_k (by decide)]) (by rw [sto_k (by decide), sto_k (by decide), sto_k (by decide)]), hH.fr (fun a ha hb => by rw [sto_k (by omega), sto_k (by omega)]) (by rw [sto_k (by decide), sto_k (by decide), sto_k (by decide)]) (by rw [sto_j (by decide), sto_k (by decide), sto_j (by decide)])⟩
        · rw [sto_k (by decide)]
          by_cases y : i = n
          · subst y
            dsimp only
            rw [sto_i, if_pos rfl]
            exact ⟨rfl, by omega⟩
          · dsimp only
            rw [sto_j y, if_neg y]
            exact t3 i (by omega)
        · rw [sto_k (by decide)]
          by_cases y : i = n
          · subst y
            dsimp only
            rw [sto_i, if_pos rfl]
            exact ⟨rfl, by omega⟩
          · dsimp only
            rw [sto_j y, if_neg y, sto_k (by decide)]
            exact t6 i (by omega)
      · rw [sto_j (by decide), sto_k (by decide), sto_i]
    · refine MP.no h 1 (by decide) ?_ ?_ (b := nI 0)
      · unfold pX6_append
        rw [rng_ok hx, bx_n, eF, cr1_s, decide_eq_true (by omega), bI_t, ref_1, bx_e]
        rfl
      · unfold pX7_append pX7_append_b32
        rw [inr_ok (by decide) (by decide) hx, cr1_s, if_neg (by decide), gf_e, t5, n_eq (by omega) (by decide), if_pos (by omega), refused_n (by decide) (by decide), cw2_s, if_neg (by decide)]
  · refine MP.no h 0 (by decide) ?_ ?_ (b := nI 0)
    · unfold pX6_append
      rw [rng_no hx, bx_e]
      rfl
    · unfold pX7_append pX7_append_b32
      rw [inr_no (by decide) (by decide) hx, cr1_s, if_pos (by decide), refused_n (by decide) (by decide), cw2_s, if_neg (by decide)]
/-- two machines answer the same -/
def ME (c m : Option (Int32 × mM)) : Prop := ∃ v C' D', c = some (v, C') ∧ m = some (v, D') ∧ PI C' D'
theorem a_clearText (h : PI C D) : ME (pX6_clearText C) (pX7_clearText D) := by
  obtain ⟨⟨A, hA⟩, ⟨n, ch, ⟨t1, t2, t3, b, t4⟩, t5, t6⟩, hP, hH⟩ := id h
  refine ⟨nI n, sto C 1 1 (nI 0), sto (sto D 0 0 (nI 0)) 0 2 (nI 0), ?_, ?_, ⟨A, hA.fr (fun a h1 h2 => by rw [sto_k (by omega)]) (by rw [sto_k (by decide), sto_k (by decide)]) (by rw [sto_j (by decide), sto_j (by decide)])⟩, ⟨0, ch, ⟨sto_i _ _ _ _, by decide, fun i hi => absurd hi (Nat.not_lt_zero _), b, by rw [sto_j (by decide)]; exact t4⟩, sto_i _ _ _ _, fun i hi => absurd hi (Nat.not_lt_zero _)⟩, hP.fr (fun a ha => by rw [sto_k (by omega)]) (by rw [sto_k (by decide), sto_k (by decide)]) (by rw [sto_k (by decide), sto_k (by decide)]), hH.fr (fun a ha hb => by rw [sto_k (by omega)]) (by rw [sto_k (by decide), sto_k (by decide)]) (by rw [sto_j (by decide), sto_j (by decide)])⟩
  · unfold pX6_clearText pX1_emptyOut
    rw [gf_e, t1, pf_e, cw2_s]
  · unfold pX7_clearText
    rw [pf_e, gf_e, sto_j (by decide), t5, pf_e]
/-- reading keeps what holds -/
theorem PI.rd {n : Nat} {ch : Nat → Nat} {r : Int32} (h : PI C D) (hr : RdT C D C' D' n ch r) : PI C' D' := by
  obtain ⟨⟨A, ⟨b, c1⟩, c2, c3, c4, c5, c6⟩, hT, hP, hH⟩ := h
  obtain ⟨p, bad, a1, a2, a3, a4, a5, a6, a7⟩ := hr
  refine ⟨⟨A, ⟨b, by rw [a4 3 (by decide) (Or.inl (by decide))]; exact c1⟩, c2.move (fun i hi => a4 _ (by omega) (Or.inl (by omega))), by rw [a5 3 (by decide) (by decide)]; exact c3, c4, by rw [a6 12 (by decide) (by decide)]; exact c5, a3⟩, ⟨n, ch, ⟨a1.1, a1.2.1, a1.2.2.1, bad, a1.2.2.2.2.2⟩, a2.1, a2.2.1⟩, hP.fr (fun a ha => a4 a (by omega) (Or.inr (by omega))) (a5 6 (by decide) (by decide)) (a5 7 (by decide) (by decide)), hH.fr (fun a ha hb => a4 a (by omega) (Or.inr (by omega))) (a5 5 (by decide) (by decide)) (a6 9 (by decide) (by decide))⟩
theorem a_errorPosition (h : PI C D) : ME (pX6_errorPosition C) (pX7_errorPosition D) := by
  have h' := h.th (nI 0)
  obtain ⟨⟨A, hA⟩, ⟨n, ch, t1, t2, t3⟩, hP, hH⟩ := id h'
  obtain ⟨S', M', r, e1, e2, e3⟩ := text_pair t1 ⟨t2, t3⟩ hA.2.2.2.2.2
  refine ⟨r, S', M', ?_, ?_, h'.rd e3⟩
  · unfold pX6_errorPosition
    rw [e1, cw2_s]
  · unfold pX7_errorPosition
    rw [pf_e, e2, cw2_s]
theorem c_noSlots (S : mM) : pX3_emptyOut 279 2 S = some (sto (sto S 281 0 (nI 0)) 281 1 (nI 0)) := by
  obtain ⟨k, hk⟩ := fuel_s
  unfold pX3_emptyOut
  rw [hk]
  show pX3_emptyOut_lb2 279 2 (pX3_emptyOut_l2 279 2 (k + 3)) (nI 0) S = _
  unfold pX3_emptyOut_lb2
  rw [if_neg (by decide), st_n (by decide) (by decide), vl_e, nI_add]
  show pX3_emptyOut_lb2 279 2 (pX3_emptyOut_l2 279 2 (k + 2)) (nI 1) _ = _
  unfold pX3_emptyOut_lb2
  rw [if_neg (by decide), st_n (by decide) (by decide), vl_e, nI_add]
  show pX3_emptyOut_lb2 279 2 (pX3_emptyOut_l2 279 2 (k + 1)) (nI 2) _ = _
  unfold pX3_emptyOut_lb2
  rw [if_pos (by decide)]
  rfl
theorem a_load (h : PI C D) : MP ["java/lang/IllegalStateException"] (pX6_load C) (pX7_load D) := by
  obtain ⟨⟨A, hA⟩, ⟨n, ch, t1, t2, t3⟩, hP, hH⟩ := id h
  obtain ⟨S', M', r, e1, e2, e3⟩ := text_pair t1 ⟨t2, t3⟩ hA.2.2.2.2.2
  have h1 := h.rd e3
  by_cases q : r = -9
  · obtain ⟨p, bad, a1, a2, a3, a4, a5, a6, a7⟩ := e3
    obtain ⟨B, b1, b2, b3⟩ := a7 q
    obtain ⟨⟨A1, hA1⟩, hT1, hP1, hH1⟩ := id h1
    obtain ⟨_, nx, sz, y1, y2, y3, y4, y5, y6⟩ := id hH1
    obtain ⟨S2, g1, g2, g3⟩ := cp_state (S := S') (b1 := 3) (b2 := 20) hA1.2.1.stat b1 (Or.inl (by decide))
    obtain ⟨M2, f1, f2, f3⟩ := m_copy (b1 := 2) (n1 := 250) (b2 := 3) (n2 := 250) (a := 0) (c := 0) (m := 250) (by decide) (by decide) (by decide) (by decide) (Or.inl (by decide)) (sto M' 0 0 (nI 0))
    have eC : pX6_load C = some (.inl (nI (aN B 4)), sto (sto (sto S2 37 2 (nI 0)) 281 0 (nI 0)) 281 1 (nI 0)) := by
      unfold pX6_load
      rw [e1, cw2_s, if_pos q]
      unfold pX6_load_b21
      have ec : pX5_count 112 (sB (sto (sto (sto S2 37 2 (nI 0)) 281 0 (nI 0)) 281 1 (nI 0)) 12) = some (nI (aN B 4)) := by
        rw [s12]
        refine C_cntV (RepC.move (a := 3) g2.1 (fun i hi => ?_))
        rw [sto_k (by omega), sto_k (by omega), sto_k (by omega)]
      unfold pX0_forget
      rw [ref_0, bx_n, g1, cr1_s, pf_e, cr1_s, c_noSlots, cr1_s, ec, cr1_s]
    have eM : pX7_load D = some (nI (aN B 4), sto (sto (sto M2 0 9 (nI 0)) 7 0 (nI 0)) 7 1 (nI 0)) := by
      unfold pX7_load
      rw [e2, cw2_s, if_pos q]
      unfold pX7_load_b15
      have r3 : RepR (sto (sto (sto M2 0 9 (nI 0)) 7 0 (nI 0)) 7 1 (nI 0) 3) B := by
        rw [sto_k (by decide), sto_k (by decide), sto_k (by decide)]
        refine b2.ext (fun q hq => ?_)
        rw [f3, if_pos (by omega), sto_k (by decide), show 0 + (q - 0) = q by omega]
      have e7 := R_n4 (ρ := Int32 × mM) (K := fun v64 => some (v64, sto (sto (sto M2 0 9 (nI 0)) 7 0 (nI 0)) 7 1 (nI 0))) r3
      rw [refused_0, cw2_s, if_pos (by decide), f1, cr1_s, pf_e, st_n (j := 0) (by decide) (by decide), st_n (j := 1) (by decide) (by decide)]
      exact e7
    have r3 : RepR (sto (sto (sto M2 0 9 (nI 0)) 7 0 (nI 0)) 7 1 (nI 0) 3) B := by
      rw [sto_k (by decide), sto_k (by decide), sto_k (by decide)]
      refine b2.ext (fun q hq => ?_)
      rw [f3, if_pos (by omega), sto_k (by decide), show 0 + (q - 0) = q by omega]
    have cO : ∀ a, (a < 3 ∨ 20 ≤ a) → a ≠ 37 → a ≠ 281 → sto (sto (sto S2 37 2 (nI 0)) 281 0 (nI 0)) 281 1 (nI 0) a = S' a := fun a x1 x2 x3 => by
      rw [sto_k x3, sto_k x3, sto_k x2, g3 a (by omega)]
    have dO : ∀ a, a ≠ 0 → a ≠ 3 → a ≠ 7 → sto (sto (sto M2 0 9 (nI 0)) 7 0 (nI 0)) 7 1 (nI 0) a = M' a := fun a x1 x2 x3 => by
      rw [sto_k x3, sto_k x3, sto_k x1, f2 a x2, sto_k x1]
    have d0 : ∀ j, j ≠ 9 → j ≠ 0 → sto (sto (sto M2 0 9 (nI 0)) 7 0 (nI 0)) 7 1 (nI 0) 0 j = M' 0 j := fun j x1 x2 => by
      rw [sto_k (by decide), sto_k (by decide), sto_j x1, f2 0 (by decide), sto_j x2]
    have n3 : ∀ i, i < 17 → sto (sto (sto S2 37 2 (nI 0)) 281 0 (nI 0)) 281 1 (nI 0) (3 + i) = S2 (3 + i) := fun i hi => by
      rw [sto_k (by omega), sto_k (by omega), sto_k (by omega)]
    refine MP.ok eC eM ⟨⟨B, ⟨true, ?_⟩, g2.1.move n3, r3, b3, ?_, ?_⟩, hT1.fr (cO 1 (by decide) (by decide) (by decide)) (cO 2 (by decide) (by decide) (by decide)) (d0 2 (by decide) (by decide)) (dO 1 (by decide) (by decide) (by decide)), fun i hi => ⟨?_, false, ?_, ?_, fun z => absurd z (by decide)⟩, fun j hj => ?_, nx, 0, ?_⟩ ?_
    · rw [n3 0 (by decide)]
      exact g2.2.1
    · rw [d0 12 (by decide) (by decide)]
      exact hA1.2.2.2.2.1
    · exact hA1.2.2.2.2.2.move (fun i hi => cO _ (by omega) (by omega) (by omega))
    · exact (hP1 i hi).1.move (fun j hj => cO _ (by omega) (by omega) (by omega))
    · rcases (by omega : i = 0 ∨ i = 1) with rfl | rfl
      · rw [sto_j (by decide), sto_i]
        rfl
      · rw [sto_i]
        rfl
    · rcases (by omega : i = 0 ∨ i = 1) with rfl | rfl
      · rw [sto_j (by decide), sto_i]
        rfl
      · rw [sto_i]
        rfl
    · exact (hH1.1 j hj).move (fun i hi => cO _ (by omega) (by omega) (by omega))
    · refine ⟨?_, y2, ?_, Nat.zero_le _, ?_, fun j hj => absurd hj (Nat.not_lt_zero _)⟩
      · rw [sto_k (by decide), sto_k (by decide), sto_j (by decide), g3 37 (by decide)]
        exact y1
      · rw [sto_k (by decide), sto_k (by decide), sto_i]
      · rw [sto_k (by decide), sto_k (by decide), sto_i]
    · rw [sto_k (by decide), sto_k (by decide), sto_j (by decide), f2 0 (by decide), sto_i]
  · refine MP.ex 0 (by decide) (C' := S') (D' := sto M' 0 0 (nI 1)) (b := nI 0) ?_ ?_ (h1.th _) (sto_i _ _ _ _)
    · unfold pX6_load
      rw [e1, cw2_s, if_neg q]
      unfold pX6_load_b21
      rw [ref_1, bx_e]
      rfl
    · unfold pX7_load
      rw [e2, cw2_s, if_neg q]
      unfold pX7_load_b15
      rw [refused_n (by decide) (by decide), cw2_s, if_neg (by decide)]
end TEXTCALLS
