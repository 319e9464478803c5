/-! ===== sums ===== -/
section SUMS
variable {S : mM} {A : aA}
theorem m_tanks (h : RepR (S 0) A) : pX7_tanks S = some (colSum (aT A 4) 3 (aN A 4)) := by
  have h16 : aN A 4 ≤ 16 := h.n (by decide)
  have main : ∀ (n i k : Nat), n + i = aN A 4 → n < k → pX7_tanks_l4 S k (colSum (aT A 4) 3 i) (nI i) = some (colSum (aT A 4) 3 (aN A 4)) := by
    intro n
    induction n with
    | zero =>
      intro i k hi hk
      obtain ⟨k, rfl⟩ : ∃ q, k = q + 1 := ⟨k - 1, by omega⟩
      show pX7_tanks_lb4 (pX7_tanks_l4 S k) S _ (nI i) = _
      unfold pX7_tanks_lb4
      rw [R_n4 h, n_le (by omega) (by omega), if_pos (by omega), show i = aN A 4 by omega]
    | succ n ih =>
      intro i k hi hk
      obtain ⟨k, rfl⟩ : ∃ q, k = q + 1 := ⟨k - 1, by omega⟩
      show pX7_tanks_lb4 (pX7_tanks_l4 S k) S _ (nI i) = _
      unfold pX7_tanks_lb4
      rw [R_n4 h, n_le (by omega) (by omega), if_neg (by omega), carAt_n, cr1_s, R_ldV h (by omega) (by decide), vl_e, vl_e, nI_add]
      exact ih (i + 1) k (by omega) (by omega)
  exact main (aN A 4) 0 fuel (by omega) (by unfold fuel; omega)
theorem m_depots (h : RepR (S 0) A) : pX7_depots S = some (colSum (aT A 2) 1 (aN A 2)) := by
  have h16 : aN A 2 ≤ 4 := h.n (by decide)
  have main : ∀ (n i k : Nat), n + i = aN A 2 → n < k → pX7_depots_l4 S k (colSum (aT A 2) 1 i) (nI i) = some (colSum (aT A 2) 1 (aN A 2)) := by
    intro n
    induction n with
    | zero =>
      intro i k hi hk
      obtain ⟨k, rfl⟩ : ∃ q, k = q + 1 := ⟨k - 1, by omega⟩
      show pX7_depots_lb4 (pX7_depots_l4 S k) S _ (nI i) = _
      unfold pX7_depots_lb4
      rw [R_n2 h, n_le (by omega) (by omega), if_pos (by omega), show i = aN A 2 by omega]
    | succ n ih =>
      intro i k hi hk
      obtain ⟨k, rfl⟩ : ∃ q, k = q + 1 := ⟨k - 1, by omega⟩
      show pX7_depots_lb4 (pX7_depots_l4 S k) S _ (nI i) = _
      unfold pX7_depots_lb4
      rw [R_n2 h, n_le (by omega) (by omega), if_neg (by omega), depotAt_n, cr1_s, R_ldD h (by omega) (by decide), vl_e, vl_e, nI_add]
      exact ih (i + 1) k (by omega) (by omega)
  exact main (aN A 2) 0 fuel (by omega) (by unfold fuel; omega)
theorem c_sum (h : RepC S A) {k o n j : Nat} (hk : k < 5) (ho : o = 1 + 2 * k) (hn : n = aMx k * aCo k) (hj : j < aCo k) : pX5_sum n (nI j) (sB S o) = some (colSum (aT A k) j (aN A k)) := by
  subst ho
  exact tab_sum (h.2.1 k hk) (aMx_lt hk).1 hn hj
end SUMS
