/-! ===== hours that go by ===== -/
def iterN (w : Int32) : Nat → aA × Int32 → aA × Int32
  | 0, X => X
  | n + 1, X => iterN w n (nxt w X)
section PASS
variable {S : mM} {A : aA} {w fl : Int32} {st : Bool} {b1 : Nat}
theorem iterN_ok : ∀ (n : Nat) (X : aA × Int32), Inv X.1 → Inv (iterN w n X).1 ∧ aN (iterN w n X).1 = aN X.1 ∧ aS (iterN w n X).1 0 = aS X.1 0 := by
  intro n
  induction n with
  | zero => intro X h; exact ⟨h, rfl, rfl⟩
  | succ n ih =>
    intro X h
    obtain ⟨i1, i2, i3⟩ := Inv.okHourA (w := w) (X := X) h
    obtain ⟨k1, k2, k3⟩ := ih (nxt w X) i1
    exact ⟨k1, k2.trans i2, k3.trans i3⟩
theorem within_n {a l m : Nat} (ha : a < 2 ^ 31) (hl : l < 2 ^ 31) (hm : m < 2 ^ 31) : pX6_isWithin (nI a) (nI l) (nI m) = some (if l ≤ a ∧ a ≤ m then nI 1 else nI 0) := by
  unfold pX6_isWithin
  rw [n_lt ha hl, n_lt hm ha, gd_p isZ_0, gd_p isZ_1]
  by_cases q : a < l
  · rw [if_pos q, if_neg (by omega)]
  · rw [if_neg q]
    by_cases q2 : m < a
    · rw [if_pos q2, if_neg (by omega)]
    · rw [if_neg q2, if_pos (by omega)]
theorem c_pass_loop : ∀ (n i s k : Nat) (S : mM) (A : aA) (fl : Int32) (st : Bool), n + i = s → s < 2 ^ 20 → n < k → CR S A w fl st → Inv A →
    ∃ S' st', pX4_letGoBy_l14 k (nI s) (nI i) S = some (nI 1, S') ∧ CR S' (iterN w n (A, fl)).1 w (iterN w n (A, fl)).2 st' := by
  intro n
  induction n with
  | zero =>
    intro i s k S A fl st hn hs hk hr iv
    obtain ⟨k, rfl⟩ : ∃ q, k = q + 1 := ⟨k - 1, by omega⟩
    refine ⟨S, st, ?_, hr⟩
    show pX4_letGoBy_lb14 (pX4_letGoBy_l14 k) (nI s) (nI i) S = _
    unfold pX4_letGoBy_lb14
    rw [n_le (by omega) (by omega), if_pos (by omega), gd_p isZ_1]
  | succ n ih =>
    intro i s k S A fl st hn hs hk hr iv
    obtain ⟨k, rfl⟩ : ∃ q, k = q + 1 := ⟨k - 1, by omega⟩
    show ∃ S' st', pX4_letGoBy_lb14 (pX4_letGoBy_l14 k) (nI s) (nI i) S = _ ∧ _
    unfold pX4_letGoBy_lb14
    rw [n_le (by omega) (by omega), if_neg (by omega)]
    obtain ⟨S1, st1, e1, r1, i1, i2, i3, hq1⟩ := c_nxt hr iv
    rw [e1, cr1_s, vl_e, nI_add]
    exact ih (i + 1) s k S1 (nxt w (A, fl)).1 (nxt w (A, fl)).2 st1 (by omega) hs (by omega) r1 i1
theorem c_pass (h : CR S A w fl st) (iv : Inv A) {n : Nat} (h1 : 1 ≤ n) (h2 : n ≤ 99) : ∃ S' st', pX4_letGoBy (nI n) S = some (nI 1, S') ∧ CR S' (iterN w n (A, fl)).1 w (iterN w n (A, fl)).2 st' := by
  unfold pX4_letGoBy
  rw [within_n (by omega) (by omega) (by omega), if_pos ⟨h1, h2⟩, cr1_s, if_neg (by decide)]
  exact c_pass_loop n 0 n fuel S A fl st (by omega) (by omega) (by unfold fuel; omega) h iv
theorem m_pass_loop (hb1 : b1 ≠ 0) (x3 : Int32) : ∀ (n i s k : Nat) (S : mM) (A : aA) (fl : Int32), n + i = s → s < 2 ^ 20 → n < k → MR S b1 A w fl → Inv A →
    ∃ S', pX7_goHours_l9 b1 k (nI s) x3 (nI i) S = some (nI (cntN (iterN w n (A, fl)).1 (nI 2) (aN A 4)) - x3, S') ∧ MR S' b1 (iterN w n (A, fl)).1 w (iterN w n (A, fl)).2 ∧ Mo b1 S S' := by
  intro n
  induction n with
  | zero =>
    intro i s k S A fl hn hs hk hr iv
    obtain ⟨k, rfl⟩ : ∃ q, k = q + 1 := ⟨k - 1, by omega⟩
    have hS : RepR (sB S b1 0) A := hr.1
    refine ⟨S, ?_, hr, Mo.rf⟩
    show pX7_goHours_lb9 b1 (pX7_goHours_l9 b1 k) (nI s) x3 (nI i) S = some (nI (cntN A (nI 2) (aN A 4)) - x3, S)
    unfold pX7_goHours_lb9
    rw [n_le (by omega) (by omega), if_pos (by omega), m_many hS, cr1_s]
  | succ n ih =>
    intro i s k S A fl hn hs hk hr iv
    obtain ⟨k, rfl⟩ : ∃ q, k = q + 1 := ⟨k - 1, by omega⟩
    show ∃ S', pX7_goHours_lb9 b1 (pX7_goHours_l9 b1 k) (nI s) x3 (nI i) S = _ ∧ _
    unfold pX7_goHours_lb9
    rw [n_le (by omega) (by omega), if_neg (by omega)]
    obtain ⟨S1, e1, r1, o1, i1, i2⟩ := m_nxt hr hb1 iv
    rw [e1, cr1_s, vl_e, nI_add]
    obtain ⟨S', x1, x2, x4⟩ := ih (i + 1) s k S1 (nxt w (A, fl)).1 (nxt w (A, fl)).2 (by omega) hs (by omega) r1 i1
    rw [i2] at x1
    exact ⟨S', x1, x2, o1.tr x4⟩
theorem m_pass (h : MR S b1 A w fl) (hb1 : b1 ≠ 0) (iv : Inv A) {n : Nat} (hn : n < 2 ^ 12) : ∃ S', pX7_goHours b1 (nI n) S = some (nI (cntN (iterN w n (A, fl)).1 (nI 2) (aN A 4)) - nI (cntN A (nI 2) (aN A 4)), S') ∧ MR S' b1 (iterN w n (A, fl)).1 w (iterN w n (A, fl)).2 ∧ Mo b1 S S' := by
  unfold pX7_goHours
  have hS : RepR (sB S b1 0) A := h.1
  rw [m_many hS, cr1_s]
  exact m_pass_loop hb1 _ n 0 n fuel S A fl (by omega) (by omega) (by unfold fuel; omega) h iv
end PASS
