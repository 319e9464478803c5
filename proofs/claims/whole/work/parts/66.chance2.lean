/-! ===== chance, the reference ===== -/
section CHANCE2
variable {S : mM} {A : aA} {w fl : Int32}
theorem m_chance (h : MR S 4 A w fl) (iv : Inv A) {n : Nat} (hn : n < 2 ^ 31) : ∃ S', pX7_stir (nI n) S = some S' ∧ MR S' 4 (chanD (chanH A n) n) w fl ∧ Mo 4 S S' := by
  have h3 := cnt3 iv
  have h2 : aN A 2 ≤ 4 := iv.cnt 2 (by decide)
  have hd8 : n / 8 < 2 ^ 31 := by omega
  have hd64 : n / 64 < 2 ^ 31 := by omega
  have b42 : ∀ (S : mM) (B : aA), MR S 4 B w fl → aN B = aN A → ∃ S', pX7_stir_b42 (nI n) S = some S' ∧ MR S' 4 (chanD B n) w fl ∧ Mo 4 S S' := by
    intro S B hB hN
    unfold pX7_stir_b42 chanD
    rw [pk_rem hn (by decide) (by decide), n_eq (by omega) (by decide), R_n2 hB.1, hN]
    by_cases q : n % 5 = 1
    · rw [if_pos q, n_le0 (by omega)]
      by_cases q2 : aN A 2 = 0
      · rw [if_pos q2, if_neg (by omega)]
        exact ⟨S, rfl, hB, Mo.rf⟩
      · rw [if_neg q2, if_pos ⟨q, by omega⟩]
        have hlt : n / 8 % aN A 2 < aN A 2 := Nat.mod_lt _ (by omega)
        have hB2 : n / 8 % aN A 2 < aN B 2 := by rw [hN]; exact hlt
        have hz : ¬ (nI (aN A 2) = 0) := by rw [P_eq0 (by omega)]; exact q2
        unfold nz
        rw [R_n2 hB.1, hN, gd_p (decide_eq_true hz), pk_div hn (by decide) (by decide), pk_rem hd8 (by omega) (by omega), depotAt_n, cr1_s, R_ldD hB.1 hB2 (by decide), pk_div hn (by decide) (by decide), pk_rem hd64 (by decide) (by decide), vl_e]
        have fin : ∀ x, x = mn (nI 999) (aT B 2 (n / 8 % aN A 2) 1 + nI (n / 64 % 30)) → ∃ S', st S 4 250 (nI (78 + 2 * (n / 8 % aN A 2) + 1)) x (fun S108 => some S108) = some S' ∧ MR S' 4 (aPut B 2 (n / 8 % aN A 2) 1 (mn (nI 999) (aT B 2 (n / 8 % aN A 2) 1 + nI (n / 64 % 30)))) w fl ∧ Mo 4 S S' := by
          intro x hx
          rw [st_n (by omega) (by decide), ← hx]
          exact ⟨_, rfl, hB.w (by decide) (hB.1.put (k := 2) (i := n / 8 % aN A 2) (j := 1) x (by decide) hB2 (by decide) (by decide)), Mo.rf.w (by decide)⟩
        by_cases q3 : aT B 2 (n / 8 % aN A 2) 1 + nI (n / 64 % 30) ≤ nI 999
        · rw [if_pos q3]
          refine fin _ ?_
          unfold mn
          by_cases q4 : aT B 2 (n / 8 % aN A 2) 1 + nI (n / 64 % 30) < nI 999
          · rw [if_pos q4]
          · rw [if_neg q4]
            exact Int32.le_antisymm q3 (Int32.not_lt.mp q4)
        · rw [if_neg q3]
          refine fin _ ?_
          unfold mn
          rw [if_neg (fun z => q3 (Int32.le_of_lt z))]
    · rw [if_neg q, if_neg (fun z => q z.1)]
      exact ⟨S, rfl, hB, Mo.rf⟩
  unfold pX7_stir
  rw [pk_rem hn (by decide) (by decide), n_eq0 (by omega)]
  by_cases q : n % 5 = 0
  · rw [if_pos q, R_n3 h.1, n_le0 (by omega)]
    by_cases q2 : aN A 3 = 0
    · rw [if_pos q2, show chanH A n = A from if_neg (by omega)]
      exact b42 S A h rfl
    · have hlt : n / 8 % aN A 3 < aN A 3 := Nat.mod_lt _ (by omega)
      have hz : ¬ (nI (aN A 3) = 0) := by rw [P_eq0 (by omega)]; exact q2
      rw [if_neg q2, show chanH A n = aPut A 3 (n / 8 % aN A 3) 1 (nI (n / 64 % 6)) from if_pos ⟨q, by omega⟩]
      unfold nz
      rw [R_n3 h.1, gd_p (decide_eq_true hz), pk_div hn (by decide) (by decide), pk_rem hd8 (by omega) (by omega), convoyAt_n, cr1_s, pk_div hn (by decide) (by decide), pk_rem hd64 (by decide) (by decide), st_n (by omega) (by decide)]
      have r1 := h.w (q := 86 + 13 * (n / 8 % aN A 3) + 2) (x := nI (n / 64 % 6)) (by decide) (h.1.put (k := 3) (i := n / 8 % aN A 3) (j := 1) (nI (n / 64 % 6)) (by decide) hlt (by decide) (by decide))
      obtain ⟨S', x1, x2, x3⟩ := b42 _ _ r1 rfl
      exact ⟨S', x1, x2, (Mo.rf.w (by decide)).tr x3⟩
  · rw [if_neg q, show chanH A n = A from if_neg (fun z => q z.1)]
    exact b42 S A h rfl
end CHANCE2
