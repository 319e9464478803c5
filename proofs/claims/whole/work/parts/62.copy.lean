/-! ===== copies: tables, lines, a State ===== -/
/-- the first n numbers of a cell into another -/
def cpC (S : mM) (k0 k1 n : Nat) : mM := u2 S k1 (va_cpy (S k0) (S k1) 0 0 n)
theorem cpC_in {S : mM} {k0 k1 n i : Nat} (h : i < n) : cpC S k0 k1 n k1 i = S k0 i := by
  unfold cpC u2 va_cpy
  rw [if_pos rfl, if_pos (by omega)]
  congr 1
  omega
theorem cpC_o {S : mM} {k0 k1 n a : Nat} (h : a ≠ k1) : cpC S k0 k1 n a = S a := if_neg h
section COPY
variable {ρ : Type} {S : mM} {A : aA}
theorem ac_n {k0 k1 n : Nat} {K : mM → Option ρ} (hn : n < 2 ^ 20) : ac S k0 n k1 n (nI 0) (nI 0) (nI n) K = K (cpC S k0 k1 n) := by
  have e0 : (nI 0).toNatClampNeg = 0 := nI_clamp (by decide)
  have e1 : (nI n).toNatClampNeg = n := nI_clamp (by omega)
  unfold ac acB cpC
  rw [e0, e1, gd_p]
  refine decide_eq_true ⟨by decide, by decide, nI_pos (by omega), by omega, by omega⟩
theorem cp_tab {b1 b2 n : Nat} (hn : n < 2 ^ 20) (h2 : b2 + 1 ≠ b1) : ∃ S', pX5_copyFrom b1 b2 n S = some S' ∧ S' b1 = upd (S b1) 3 (S b2 3) ∧ (∀ i, i < n → S' (b1 + 1) i = S (b2 + 1) i) ∧ ∀ a, a ≠ b1 → a ≠ b1 + 1 → S' a = S a := by
  unfold pX5_copyFrom
  rw [gf_e, pf_e, if_neg (Int32.lt_irrefl), vl_e, ac_n hn]
  refine ⟨_, rfl, ?_, fun i hi => ?_, fun a ha hb => ?_⟩
  · rw [cpC_o (by omega), sto_u]
  · rw [cpC_in hi, sto_o h2]
  · rw [cpC_o hb, sto_o ha]
theorem cp_lin {b1 b2 n1 n2 : Nat} (hn1 : n1 < 2 ^ 20) (hn2 : n2 < 2 ^ 20) (h1 : b2 + 2 ≠ b1 + 1) : ∃ S', pX2_copyFrom b1 b2 n1 n2 S = some S' ∧ (∀ i, i < n1 → S' (b1 + 1) i = S (b2 + 1) i) ∧ (∀ i, i < n2 → S' (b1 + 2) i = S (b2 + 2) i) ∧ ∀ a, a ≠ b1 + 1 → a ≠ b1 + 2 → S' a = S a := by
  unfold pX2_copyFrom
  rw [if_neg (Int32.lt_irrefl), vl_e, ac_n hn1, if_neg (Int32.lt_irrefl), vl_e, ac_n hn2]
  refine ⟨_, rfl, fun i hi => ?_, fun i hi => ?_, fun a ha hb => ?_⟩
  · rw [cpC_o (by omega), cpC_in hi]
  · rw [cpC_in hi, cpC_o h1]
  · rw [cpC_o hb, cpC_o ha]
end COPY
