/-! ===== the reference's copies ===== -/
section COPY3
variable {S : mM} {A : aA}
theorem m_copy_loop {b1 n1 b2 n2 a c m : Nat} (h1 : a + m ≤ n1) (h2 : c + m ≤ n2) (hn1 : n1 < 2 ^ 20) (hn2 : n2 < 2 ^ 20) (hd : b1 ≠ b2 ∨ c ≤ a) : ∀ (n i k : Nat) (S : mM), n + i = m → n < k →
    ∃ S', pX7_copy_l3 b1 n1 b2 n2 k (nI a) (nI c) (nI m) (nI i) S = some S' ∧ (∀ q, q ≠ b2 → S' q = S q) ∧ ∀ q, S' b2 q = if c + i ≤ q ∧ q < c + m then S b1 (a + (q - c)) else S b2 q := by
  intro n
  induction n with
  | zero =>
    intro i k S hi hk
    obtain ⟨k, rfl⟩ : ∃ q, k = q + 1 := ⟨k - 1, by omega⟩
    refine ⟨S, ?_, fun _ _ => rfl, fun q => by rw [if_neg (by omega)]⟩
    show pX7_copy_lb3 b1 n1 b2 n2 (pX7_copy_l3 b1 n1 b2 n2 k) (nI a) (nI c) (nI m) (nI i) S = _
    unfold pX7_copy_lb3
    rw [n_le (by omega) (by omega), if_pos (by omega)]
  | succ n ih =>
    intro i k S hi hk
    obtain ⟨k, rfl⟩ : ∃ q, k = q + 1 := ⟨k - 1, by omega⟩
    show ∃ S', pX7_copy_lb3 b1 n1 b2 n2 (pX7_copy_l3 b1 n1 b2 n2 k) (nI a) (nI c) (nI m) (nI i) S = some S' ∧ _
    unfold pX7_copy_lb3
    rw [n_le (by omega) (by omega), if_neg (by omega), nI_add, ld_n (by omega) (by omega), nI_add, st_n (by omega) (by omega), vl_e, nI_add]
    obtain ⟨S', e1, e2, e3⟩ := ih (i + 1) k (sto S b2 (c + i) (S b1 (a + i))) (by omega) (by omega)
    refine ⟨S', e1, fun q hq => (e2 q hq).trans (sto_o hq), fun q => ?_⟩
    rw [e3]
    by_cases q1 : c + (i + 1) ≤ q ∧ q < c + m
    · rw [if_pos q1, if_pos (by omega), sto_n (by omega)]
    · rw [if_neg q1]
      by_cases q2 : q = c + i
      · subst q2
        rw [sto_i, if_pos (by omega), show a + (c + i - c) = a + i by omega]
      · rw [sto_j q2, if_neg (by omega)]
theorem m_copy {b1 n1 b2 n2 a c m : Nat} (h1 : a + m ≤ n1) (h2 : c + m ≤ n2) (hn1 : n1 < 2 ^ 12) (hn2 : n2 < 2 ^ 12) (hd : b1 ≠ b2 ∨ c ≤ a) (S : mM) :
    ∃ S', pX7_copy b1 n1 b2 n2 (nI a) (nI c) (nI m) S = some S' ∧ (∀ q, q ≠ b2 → S' q = S q) ∧ ∀ q, S' b2 q = if c ≤ q ∧ q < c + m then S b1 (a + (q - c)) else S b2 q := by
  exact m_copy_loop h1 h2 (by omega) (by omega) hd m 0 fuel S (by omega) (by unfold fuel; omega)
/-- only the first 250 numbers of a row count -/
theorem RepR.ext {r r' : Nat → Int32} (h : RepR r A) (he : ∀ q, q < 250 → r' q = r q) : RepR r' A := by
  obtain ⟨⟨g1, g2⟩, g3, g4, g5, g7⟩ := id h
  refine ⟨⟨by rw [he 0 (by decide)]; exact g1, by rw [he 1 (by decide)]; exact g2⟩, fun a ha => by rw [he _ (by omega)]; exact g3 a ha, fun a c d ha hc hd => ?_, fun a c ha hc => ?_, by rw [he 7 (by decide)]; exact g7⟩
  · rw [he _ (rix_lt ha (R_lt h ha hc) hd).2]
    exact g4 a c d ha hc hd
  · obtain ⟨k1, k2, k3⟩ := g5 a c ha hc
    have hc' := R_lt h (lTb_lt ha) hc
    exact ⟨k1, by rw [he _ (lsz_lt ha hc').2]; exact k2, fun j hj => by rw [he _ (lix_lt ha hc' (by omega)).2]; exact k3 j hj⟩
theorem m_begin (h : RepR (S 3) A) : ∃ S', pX7_begin S = some S' ∧ RepR (S' 4) A ∧ ∀ q, q ≠ 4 → S' q = S q := by
  unfold pX7_begin
  obtain ⟨S', e1, e2, e3⟩ := m_copy (b1 := 3) (n1 := 250) (b2 := 4) (n2 := 250) (a := 0) (c := 0) (m := 250) (by decide) (by decide) (by decide) (by decide) (Or.inl (by decide)) S
  rw [e1, cr1_s]
  refine ⟨S', rfl, h.ext (fun q hq => ?_), e2⟩
  rw [e3, if_pos (by omega), show 0 + (q - 0) = q by omega]
end COPY3
