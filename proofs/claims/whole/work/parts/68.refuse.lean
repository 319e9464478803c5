/-! ===== ranges, refusals ===== -/
section REFUSE
variable {S : mM}
theorem in_64 (x y z : Int64) : pX7_in x y z = some (bI (decide (y ≤ x ∧ x ≤ z))) := by
  unfold pX7_in
  rw [gd_p isZ_0, gd_p isZ_1]
  by_cases q : lg_cmp x y < 0
  · rw [if_pos q, decide_eq_false (fun h => absurd ((lg_cmp_lt x y).mp q) (Int64.not_lt.mpr h.1)), bI_f]
  · rw [if_neg q]
    have q' : y ≤ x := Int64.not_lt.mp (fun h => q ((lg_cmp_lt x y).mpr h))
    by_cases p : 0 < lg_cmp x z
    · rw [if_pos p, decide_eq_false (fun h => absurd ((lg_cmp_gt x z).mp p) (Int64.not_lt.mpr h.2)), bI_f]
    · rw [if_neg p]
      have p' : x ≤ z := Int64.not_lt.mp (fun h => p ((lg_cmp_gt x z).mpr h))
      rw [decide_eq_true ⟨q', p'⟩, bI_t]
theorem i64_le (a b : Int32) : (a.toInt64 ≤ b.toInt64) = (a ≤ b) := by
  rw [Int64.le_iff_toInt_le, Int32.le_iff_toInt_le, Int32.toInt_toInt64, Int32.toInt_toInt64]
theorem in_32 (x y z : Int32) : pX7_in x.toInt64 y.toInt64 z.toInt64 = some (bI (decide (y ≤ x ∧ x ≤ z))) := by
  rw [in_64]
  congr 2
  exact decide_eq_decide.mpr (by rw [i64_le, i64_le])
theorem in_n (x : Int32) {l m : Nat} (hl : l < 2 ^ 31) (hm : m < 2 ^ 31) : pX7_in x.toInt64 (lN l) (lN m) = some (bI (decide (nI l ≤ x ∧ x ≤ nI m))) := by
  rw [← nI_l hl, ← nI_l hm, in_32]
theorem within_i (x y z : Int32) : pX6_isWithin x y z = some (bI (decide (y ≤ x ∧ x ≤ z))) := by
  unfold pX6_isWithin
  rw [gd_p isZ_0, gd_p isZ_1]
  by_cases q : x < y
  · rw [if_pos q, decide_eq_false (fun h => absurd q (Int32.not_lt.mpr h.1)), bI_f]
  · rw [if_neg q]
    by_cases p : z < x
    · rw [if_pos p, decide_eq_false (fun h => absurd p (Int32.not_lt.mpr h.2)), bI_f]
    · rw [if_neg p, decide_eq_true ⟨Int32.not_lt.mp q, Int32.not_lt.mp p⟩, bI_t]
theorem refused_0 : pX7_refused (nI 0) S = some (nI 0, sto S 0 0 (nI 0)) := by
  unfold pX7_refused
  rw [pf_e, if_pos (by decide), gd_p isZ_0]
theorem refused_n {k : Nat} (h0 : 0 < k) (hk : k < 2 ^ 31) : pX7_refused (nI k) S = some (nI 1, sto S 0 0 (nI k)) := by
  unfold pX7_refused
  rw [pf_e, n_le0 hk, if_neg (by omega), gd_p isZ_1]
end REFUSE
