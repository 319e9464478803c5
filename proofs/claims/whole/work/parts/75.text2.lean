/-! ===== the text: numbers that the reference reads ===== -/
def TM (M : mM) (n : Nat) (ch : Nat → Nat) (p : Nat) (bad : Bool) : Prop := M 0 2 = nI n ∧ (∀ i, i < n → M 1 i = nI (ch i) ∧ ch i < 256) ∧ M 0 3 = nI p ∧ M 0 4 = bI (!bad) ∧ n ≤ 140 ∧ p ≤ n
/-- what else stays -/
def Mx (M M' : mM) : Prop := (∀ a, a ≠ 0 → M' a = M a) ∧ ∀ j, j ≠ 3 → j ≠ 4 → M' 0 j = M 0 j
theorem Mx.rf {M : mM} : Mx M M := ⟨fun _ _ => rfl, fun _ _ _ => rfl⟩
theorem Mx.tr {M N P : mM} (h : Mx M N) (g : Mx N P) : Mx M P := ⟨fun a ha => (g.1 a ha).trans (h.1 a ha), fun j h3 h4 => (g.2 j h3 h4).trans (h.2 j h3 h4)⟩
theorem Mx.w {M N : mM} {q : Nat} {x : Int32} (h : Mx M N) (hq : q = 3 ∨ q = 4) : Mx M (sto N 0 q x) := ⟨fun a ha => by rw [sto_k ha]; exact h.1 a ha, fun j h3 h4 => by rw [sto_j (by omega)]; exact h.2 j h3 h4⟩
section TEXTM
variable {M : mM} {n p : Nat} {ch : Nat → Nat} {bad : Bool}
theorem TM.set (h : TM M n ch p bad) (b : Bool) {q : Nat} (hq : q ≤ n) : TM (sto (sto M 0 4 (bI (!b))) 0 3 (nI q)) n ch q b := by
  obtain ⟨h1, h2, h3, h4, h5, h6⟩ := h
  exact ⟨by rw [sto_j (by decide), sto_j (by decide)]; exact h1, fun i hi => by rw [sto_k (by decide), sto_k (by decide)]; exact h2 i hi, sto_i _ _ _ _, by rw [sto_j (by decide), sto_i], h5, hq⟩
/-- a sign is taken if all is well -/
theorem m_accept (h : TM M n ch p bad) (b : Bool) (hp : bad = false → b = true → p < n) : ∃ M', pX7_accept (bI b) M = some M' ∧ TM M' n ch (if bad = false ∧ b = true then p + 1 else p) (bad || !b) ∧ Mx M M' := by
  obtain ⟨h1, h2, h3, h4, h5, h6⟩ := id h
  have no : bad = true ∨ b = false → pX7_accept_b16 M = some (sto (sto M 0 4 (bI (!true))) 0 3 (nI p)) := fun _ => by
    unfold pX7_accept_b16 pX7_accept_b17
    rw [pz_0, gf_e, gf_e, sto_i, if_pos (by decide), sto_j (by decide), h3, pf_e, nI_add, Nat.add_zero]
    rfl
  unfold pX7_accept
  rw [gf_e, h4, bI_0]
  cases bad with
  | true =>
    rw [if_pos (by rfl), no (Or.inl rfl), if_neg (fun y => absurd y.1 (by decide))]
    exact ⟨_, rfl, h.set true h6, (Mx.rf.w (Or.inr rfl)).w (Or.inl rfl)⟩
  | false =>
    rw [if_neg (by decide), bI_0]
    cases b with
    | false =>
      rw [if_pos rfl, no (Or.inr rfl), if_neg (by decide)]
      exact ⟨_, rfl, h.set true h6, (Mx.rf.w (Or.inr rfl)).w (Or.inl rfl)⟩
    | true =>
      have h7 := hp rfl rfl
      rw [if_neg (by decide), if_pos ⟨rfl, rfl⟩]
      unfold pX7_accept_b17
      rw [pz_1, gf_e, gf_e, sto_i, if_neg (by decide), sto_j (by decide), h3, pf_e, nI_add]
      exact ⟨_, rfl, h.set false (by omega), (Mx.rf.w (Or.inr rfl)).w (Or.inl rfl)⟩
theorem m_key (h : TM M n ch p bad) (a b : Int32) : ∃ x, pX7_digit a b M = pX7_digit_b28 a b x M ∧ dKey n ch p x := by
  obtain ⟨h1, h2, h3, h4, h5, h6⟩ := h
  unfold pX7_digit
  rw [gf_e, gf_e, h1, h3, n_le (by omega) (by omega)]
  by_cases q : p < n
  · rw [if_neg (by omega), gf_e, h3, ld_n (by omega) (by decide), (h2 p q).1]
    exact ⟨_, rfl, dKey_in q (h2 p q).2⟩
  · rw [if_pos (by omega)]
    exact ⟨_, rfl, dKey_out q (by decide)⟩
theorem m_b59_bad (h : TM M n ch p bad) (a x : Int32) (b : Bool) (hb : bad = true ∨ b = false) : ∃ M', pX7_digit_b59 a x (bI b) M = some (a, M') ∧ TM M' n ch p true ∧ Mx M M' := by
  obtain ⟨M', e1, e2, e3⟩ := m_accept h b (fun y z => by
    rcases hb with q | q
    · rw [q] at y
      exact absurd y (by decide)
    · rw [q] at z
      exact absurd z (by decide))
  have e0 : ¬ (bad = false ∧ b = true) := fun y => by
    rcases hb with q | q
    · rw [q] at y
      exact absurd y.1 (by decide)
    · rw [q] at y
      exact absurd y.2 (by decide)
  have e4 : (bad || !b) = true := by
    rcases hb with q | q
    · rw [q]
      rfl
    · rw [q]
      cases bad <;> rfl
  rw [if_neg e0, e4] at e2
  unfold pX7_digit_b59
  rw [e1, cr1_s, gf_e, e2.2.2.2.1, bI_0, if_pos (by rfl)]
  exact ⟨M', rfl, e2, e3⟩
/-- nothing is read once something is wrong -/
theorem m_dig_bad (h : TM M n ch p true) (a b : Int32) : ∃ M', pX7_digit a b M = some (a, M') ∧ TM M' n ch p true ∧ Mx M M' := by
  obtain ⟨x, e1, _⟩ := m_key h a b
  rw [e1]
  unfold pX7_digit_b28
  rw [in_n _ (by decide) (by decide), cr1_s, bI_0]
  by_cases q : decide (nI 0 ≤ x ∧ x ≤ nI 9) = false
  · rw [if_pos q]
    exact m_b59_bad h a x false (Or.inl rfl)
  · rw [if_neg q, in_32, cr1_s, bI_0]
    by_cases z : decide (a ≤ x ∧ x ≤ b) = false
    · rw [if_pos z]
      exact m_b59_bad h a x false (Or.inl rfl)
    · rw [if_neg z]
      exact m_b59_bad h a x true (Or.inl rfl)
theorem m_dig {l m : Nat} (h : TM M n ch p false) (hl : l < 1000) (hm : m < 1000) :
    (∃ d M', dgV n ch p = some d ∧ l ≤ d ∧ d ≤ m ∧ pX7_digit (nI l) (nI m) M = some (nI d, M') ∧ TM M' n ch (p + 1) false ∧ Mx M M') ∨
    (∃ M', (∀ d, dgV n ch p = some d → ¬ (l ≤ d ∧ d ≤ m)) ∧ pX7_digit (nI l) (nI m) M = some (nI l, M') ∧ TM M' n ch p true ∧ Mx M M') := by
  obtain ⟨x, e1, k⟩ := m_key h (nI l) (nI m)
  rw [e1]
  unfold pX7_digit_b28
  rw [in_n _ (by decide) (by decide), cr1_s, bI_0]
  rcases k with ⟨d, k1, k2, k3⟩ | ⟨k1, k2⟩
  · have hp := (dgV_9 k1).2
    subst k2
    rw [decide_eq_true (⟨by rw [P_le (by decide) (by omega)]; omega, by rw [P_le (by omega) (by decide)]; omega⟩ : nI 0 ≤ nI d ∧ nI d ≤ nI 9), if_neg (by decide), in_32, cr1_s, bI_0]
    by_cases z : l ≤ d ∧ d ≤ m
    · rw [decide_eq_true (⟨by rw [P_le (by omega) (by omega)]; exact z.1, by rw [P_le (by omega) (by omega)]; exact z.2⟩ : nI l ≤ nI d ∧ nI d ≤ nI m), if_neg (by decide)]
      obtain ⟨M', f1, f2, f3⟩ := m_accept h true (fun _ _ => hp)
      rw [if_pos ⟨rfl, rfl⟩] at f2
      unfold pX7_digit_b59
      rw [show nI 1 = bI true from rfl, f1, cr1_s, gf_e, f2.2.2.2.1, bI_0, if_neg (by decide)]
      exact Or.inl ⟨d, M', k1, z.1, z.2, rfl, f2, f3⟩
    · rw [decide_eq_false (fun y => z ⟨by have := y.1; rw [P_le (by omega) (by omega)] at this; exact this, by have := y.2; rw [P_le (by omega) (by omega)] at this; exact this⟩), if_pos rfl]
      obtain ⟨M', f1, f2, f3⟩ := m_b59_bad h (nI l) (nI d) false (Or.inr rfl)
      refine Or.inr ⟨M', fun d' hd' y => ?_, f1, f2, f3⟩
      rw [k1] at hd'
      cases hd'
      exact z y
  · rw [decide_eq_false k2, if_pos rfl]
    obtain ⟨M', f1, f2, f3⟩ := m_b59_bad h (nI l) x false (Or.inr rfl)
    refine Or.inr ⟨M', fun d' hd' y => ?_, f1, f2, f3⟩
    rw [k1] at hd'
    cases hd'
theorem m_two_bad (h : TM M n ch p true) (a b : Int32) : ∃ w M', pX7_two a b M = some (w, M') ∧ TM M' n ch p true ∧ Mx M M' := by
  obtain ⟨M1, e1, t1, x1⟩ := m_dig_bad h (a / nI 10) (b / nI 10)
  have e59 : ∀ t0 t2 t3, ∃ w M', pX7_two_b59 t0 t2 t3 M1 = some (w, M') ∧ TM M' n ch p true ∧ Mx M M' := fun t0 t2 t3 => by
    obtain ⟨M2, e2, t2', x2⟩ := m_dig_bad t1 t2 t3
    unfold pX7_two_b59
    rw [e2, cw2_s]
    exact ⟨_, M2, rfl, t2', x1.tr x2⟩
  have e45 : ∀ x5 t0 t2, ∃ w M', pX7_two_b45 x5 t0 t2 M1 = some (w, M') ∧ TM M' n ch p true ∧ Mx M M' := fun x5 t0 t2 => by
    unfold pX7_two_b45
    by_cases q : x5 ≤ nI 9
    · rw [if_pos q]
      exact e59 _ _ _
    · rw [if_neg q]
      exact e59 _ _ _
  unfold pX7_two
  rw [e1, cw2_s, vl_e, vl_e]
  by_cases q : 0 ≤ a - nI 10 * (a / nI 10)
  · rw [if_pos q]
    exact e45 _ _ _
  · rw [if_neg q]
    exact e45 _ _ _
theorem low_two : ∀ l, l < 100 → ∀ d, d < 10 → l < 10 * d → ¬ (0 ≤ nI l - nI 10 * nI d) := by decide
theorem m_two {l m : Nat} (h : TM M n ch p false) (hl : l < 100) (hm : m < 100) :
    (∃ d e M', dgV n ch p = some d ∧ l / 10 ≤ d ∧ d ≤ m / 10 ∧ dgV n ch (p + 1) = some e ∧ l ≤ 10 * d + e ∧ 10 * d + e ≤ m ∧ pX7_two (nI l) (nI m) M = some (nI (10 * d + e), M') ∧ TM M' n ch (p + 2) false ∧ Mx M M') ∨
    (∃ d w M', dgV n ch p = some d ∧ l / 10 ≤ d ∧ d ≤ m / 10 ∧ (∀ e, dgV n ch (p + 1) = some e → ¬ (l ≤ 10 * d + e ∧ 10 * d + e ≤ m)) ∧ pX7_two (nI l) (nI m) M = some (w, M') ∧ TM M' n ch (p + 1) true ∧ Mx M M') ∨
    (∃ w M', (∀ d, dgV n ch p = some d → ¬ (l / 10 ≤ d ∧ d ≤ m / 10)) ∧ pX7_two (nI l) (nI m) M = some (w, M') ∧ TM M' n ch p true ∧ Mx M M') := by
  have d1 : nI l / nI 10 = nI (l / 10) := pk_div (by omega) (by decide) (by decide)
  have d2 : nI m / nI 10 = nI (m / 10) := pk_div (by omega) (by decide) (by decide)
  rcases m_dig (l := l / 10) (m := m / 10) h (by omega) (by omega) with ⟨d, M1, f1, f2, f3, f4, f5, f6⟩ | ⟨M1, f1, f4, f5, f6⟩
  · have d9 := (dgV_9 f1).1
    have hu : pX7_two (nI l) (nI m) M = pX7_two_b59 (nI (10 * d)) (nI (l - 10 * d)) (nI (min 9 (m - 10 * d))) M1 := by
      have h45 : ∀ t0 t2, pX7_two_b45 (nI (m - 10 * d)) t0 t2 M1 = pX7_two_b59 t0 t2 (nI (min 9 (m - 10 * d))) M1 := fun t0 t2 => by
        unfold pX7_two_b45
        rw [n_le (by omega) (by decide)]
        by_cases q : m - 10 * d ≤ 9
        · rw [if_pos q, Nat.min_eq_right q]
        · rw [if_neg q, Nat.min_eq_left (by omega)]
      unfold pX7_two
      rw [d1, d2, f4, cw2_s, vl_e, vl_e]
      by_cases q : 10 * d ≤ l
      · rw [if_pos (by rw [pk_mul, pk_sub q]; exact nI_pos' (by omega)), pk_mul, pk_sub (by omega), pk_sub q, h45]
      · rw [if_neg (low_two l hl d (by omega) (by omega)), pk_mul, pk_sub (by omega), h45, show l - 10 * d = 0 by omega]
    rcases m_dig (l := l - 10 * d) (m := min 9 (m - 10 * d)) f5 (by omega) (by omega) with ⟨e, M2, g1, g2, g3, g4, g5, g6⟩ | ⟨M2, g1, g4, g5, g6⟩
    · refine Or.inl ⟨d, e, M2, f1, f2, f3, g1, by omega, by omega, ?_, g5, f6.tr g6⟩
      rw [hu]
      unfold pX7_two_b59
      rw [g4, cw2_s, nI_add]
    · refine Or.inr (Or.inl ⟨d, nI (10 * d) + nI (l - 10 * d), M2, f1, f2, f3, fun e he y => g1 e he ?_, ?_, g5, f6.tr g6⟩)
      · have := (dgV_9 he).1
        omega
      · rw [hu]
        unfold pX7_two_b59
        rw [g4, cw2_s]
  · refine Or.inr (Or.inr ?_)
    obtain ⟨w, M2, g1, g2, g3⟩ : ∃ w M2, pX7_two (nI l) (nI m) M = some (w, M2) ∧ TM M2 n ch p true ∧ Mx M M2 := by
      have e59 : ∀ t0 t2 t3, ∃ w M', pX7_two_b59 t0 t2 t3 M1 = some (w, M') ∧ TM M' n ch p true ∧ Mx M M' := fun t0 t2 t3 => by
        obtain ⟨M2, e2, t2', x2⟩ := m_dig_bad f5 t2 t3
        unfold pX7_two_b59
        rw [e2, cw2_s]
        exact ⟨_, M2, rfl, t2', f6.tr x2⟩
      have e45 : ∀ x5 t0 t2, ∃ w M', pX7_two_b45 x5 t0 t2 M1 = some (w, M') ∧ TM M' n ch p true ∧ Mx M M' := fun x5 t0 t2 => by
        unfold pX7_two_b45
        by_cases q : x5 ≤ nI 9
        · rw [if_pos q]
          exact e59 _ _ _
        · rw [if_neg q]
          exact e59 _ _ _
      unfold pX7_two
      rw [d1, d2, f4, cw2_s, vl_e, vl_e]
      by_cases q : 0 ≤ nI l - nI 10 * nI (l / 10)
      · rw [if_pos q]
        exact e45 _ _ _
      · rw [if_neg q]
        exact e45 _ _ _
    exact ⟨w, M2, f1, g1, g2, g3⟩
end TEXTM
