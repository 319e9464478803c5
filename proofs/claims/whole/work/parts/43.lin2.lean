/-! ===== taking a vehicle out of a line; empty lines ===== -/
section LIN2
variable {T : mM} {L mo n1 n2 : Nat} {l : Nat → List Nat}
/-- the line c while those behind the place p close up, as far as i -/
def shiftL (x : List Nat) (p i : Nat) : List Nat := (List.range x.length).map (fun j => if p ≤ j ∧ j < i then x.getD (j + 1) 0 else x.getD j 0)
theorem shiftL_len (x : List Nat) (p i : Nat) : (shiftL x p i).length = x.length := by simp [shiftL]
theorem shiftL_get (x : List Nat) (p i j : Nat) (h : j < x.length) : (shiftL x p i).getD j 0 = if p ≤ j ∧ j < i then x.getD (j + 1) 0 else x.getD j 0 := by
  rw [List.getD_eq_getElem?_getD]
  simp [shiftL, h]
theorem shiftL_set (x : List Nat) (p i : Nat) (hp : p ≤ i) (h : i + 1 < x.length) : (shiftL x p i).set i (x.getD (i + 1) 0) = shiftL x p (i + 1) := by
  apply List.ext_getElem?
  intro j
  by_cases hj : j < x.length
  · by_cases q : j = i
    · subst q
      rw [List.getElem?_set_self (by rw [shiftL_len]; omega)]
      simp [shiftL, hj, hp]
    · rw [List.getElem?_set_ne (Ne.symm q)]
      simp only [shiftL, List.getElem?_map, List.getElem?_range hj, Option.map_some]
      by_cases q2 : p ≤ j ∧ j < i
      · rw [if_pos q2, if_pos (by omega)]
      · rw [if_neg q2, if_neg (by omega)]
  · rw [List.getElem?_eq_none (by rw [List.length_set, shiftL_len]; omega), List.getElem?_eq_none (by rw [shiftL_len]; omega)]
theorem shiftL_0 (x : List Nat) (p : Nat) : shiftL x p p = x := by
  apply List.ext_getElem?
  intro j
  by_cases hj : j < x.length
  · simp only [shiftL, List.getElem?_map, List.getElem?_range hj, Option.map_some]
    rw [if_neg (by omega), List.getD_eq_getElem?_getD, List.getElem?_eq_getElem hj]
    rfl
  · rw [List.getElem?_eq_none (by rw [shiftL_len]; omega), List.getElem?_eq_none (by omega)]
theorem shiftL_end (x : List Nat) (p : Nat) (hp : p < x.length) (j : Nat) (hj : j < x.length - 1) : (shiftL x p (x.length - 1)).getD j 0 = (x.eraseIdx p).getD j 0 := by
  rw [shiftL_get _ _ _ _ (by omega), List.getD_eq_getElem?_getD (l := x.eraseIdx p), List.getElem?_eraseIdx]
  by_cases q : j < p
  · rw [if_pos q, if_neg (by omega), List.getD_eq_getElem?_getD]
  · rw [if_neg q, if_pos ⟨by omega, by omega⟩, List.getD_eq_getElem?_getD]
theorem lin_remove_loop (hs : L * mo < 2 ^ 20) (hn1 : n1 = L) (hn2 : n2 = L * mo) {c p : Nat} (hc : c < L) (x : List Nat) (hp : p < x.length) : ∀ (m i k : Nat) (T : mM), p ≤ i → i + m + 1 = x.length → m < k → LinRep T L mo (fun a => if a = c then shiftL x p i else l a) →
    ∃ T', pX2_remove_l30 n1 n2 k (nI c) (nI i) T = some T' ∧ LinRep T' L mo (fun a => if a = c then x.eraseIdx p else l a) := by
  intro m
  induction m with
  | zero =>
    intro i k T hpi hi hk h
    obtain ⟨k, rfl⟩ : ∃ q, k = q + 1 := ⟨k - 1, by omega⟩
    have g := h.2 c hc
    simp only [if_true, shiftL_len] at g
    obtain ⟨g1, g2, g3⟩ := g
    have k2 : L * 1 ≤ L * mo := Nat.mul_le_mul_left L (by omega)
    have k3 : 1 * mo ≤ L * mo := Nat.mul_le_mul_right mo (by omega)
    refine ⟨sto T 1 c (nI (x.length - 1)), ?_, by rw [sto_k (by decide)]; exact h.1, fun a ha => ?_⟩
    · show pX2_remove_lb30 n1 n2 (pX2_remove_l30 n1 n2 k) (nI c) (nI i) T = _
      subst hn1
      unfold pX2_remove_lb30
      rw [ld_n hc (by omega), g2, pk_sub (by omega), n_le (by omega) (by omega), if_pos (by omega), ld_n hc (by omega), g2, st_n hc (by omega), pk_sub (by omega)]
    · have g' := h.2 a ha
      dsimp only
      by_cases q : a = c
      · subst q
        simp only [if_true]
        rw [sto_i, List.length_eraseIdx, if_pos hp, sto_k (by decide)]
        refine ⟨by omega, rfl, fun j hj => ?_⟩
        rw [g3 j (by omega), ← shiftL_end x p hp j hj, show i = x.length - 1 by omega]
      · simp only [q, if_false] at g' ⊢
        rw [sto_j q, sto_k (by decide)]
        exact g'
  | succ m ih =>
    intro i k T hpi hi hk h
    obtain ⟨k, rfl⟩ : ∃ q, k = q + 1 := ⟨k - 1, by omega⟩
    have g := h.2 c hc
    simp only [if_true, shiftL_len] at g
    obtain ⟨g1, g2, g3⟩ := g
    have k2 : L * 1 ≤ L * mo := Nat.mul_le_mul_left L (by omega)
    have k3 : 1 * mo ≤ L * mo := Nat.mul_le_mul_right mo (by omega)
    have e : pX2_remove_l30 n1 n2 (k + 1) (nI c) (nI i) T = pX2_remove_l30 n1 n2 k (nI c) (nI (i + 1)) (sto T 2 (c * mo + i) (nI (x.getD (i + 1) 0))) := by
      show pX2_remove_lb30 n1 n2 (pX2_remove_l30 n1 n2 k) (nI c) (nI i) T = _
      have e1 := lin_get h hs hn1 hn2 (c := c) (i := i + 1) hc (by simp [shiftL_len]; omega)
      have e2 := lin_put h hs hn1 hn2 (c := c) (i := i) (nI (x.getD (i + 1) 0)) hc (by simp [shiftL_len]; omega)
      simp only [if_true] at e1
      rw [shiftL_get _ _ _ _ (by omega), if_neg (by omega)] at e1
      subst hn1
      unfold pX2_remove_lb30
      rw [ld_n hc (by omega), g2, pk_sub (by omega), n_le (by omega) (by omega), if_neg (by omega), nI_add, e1, cr1_s, e2, cr1_s, vl_e]
    rw [e]
    refine ih (i + 1) k _ (by omega) (by omega) (by omega) ?_
    have h9 := lin_set h (c := c) (i := i) (x.getD (i + 1) 0) hc (by simp [shiftL_len]; omega)
    refine ⟨h9.1, fun a ha => ?_⟩
    have h8 := h9.2 a ha
    dsimp only
    by_cases q : a = c
    · subst q
      simp only [if_true] at h8 ⊢
      rw [shiftL_set x p i hpi (by omega)] at h8
      exact h8
    · simp only [q, if_false] at h8 ⊢
      exact h8
theorem lin_remove (h : LinRep T L mo l) (hs : L * mo < 2 ^ 12) (hn1 : n1 = L) (hn2 : n2 = L * mo) {c p : Nat} (hc : c < L) (hp : p < (l c).length) :
    ∃ T', pX2_remove n1 n2 (nI c) (nI p) T = some T' ∧ LinRep T' L mo (fun a => if a = c then (l c).eraseIdx p else l a) := by
  obtain ⟨g1, g2, g3⟩ := h.2 c hc
  have k2 : L * 1 ≤ L * mo := Nat.mul_le_mul_left L (by omega)
  have k3 : 1 * mo ≤ L * mo := Nat.mul_le_mul_right mo (by omega)
  have h' : LinRep T L mo (fun a => if a = c then shiftL (l c) p p else l a) := by
    refine ⟨h.1, fun a ha => ?_⟩
    have h8 := h.2 a ha
    dsimp only
    by_cases q : a = c
    · subst q
      simp only [if_true, shiftL_0]
      exact h8
    · simp only [q, if_false]
      exact h8
  obtain ⟨T', e1, e2⟩ := lin_remove_loop (by omega) hn1 hn2 hc (l c) hp ((l c).length - 1 - p) p fuel T (Nat.le_refl _) (by omega) (by unfold fuel; omega) h'
  refine ⟨T', ?_, e2⟩
  subst hn1
  unfold pX2_remove
  rw [n_lt0 (by omega), if_neg (by simp), n_le (by omega) (by omega), if_neg (by omega), n_lt0 (by omega), if_neg (by simp), ld_n hc (by omega), g2, n_lt (by omega) (by omega), if_pos hp]
  exact e1
theorem lin_clear_loop (hn1 : n1 = L) (hL : L < 2 ^ 12) : ∀ (m i k : Nat) (T : mM), i + m = L → m < k → T 0 0 = nI mo → (∀ c, c < i → T 1 c = nI 0) →
    ∃ T', pX2_emptyOut_l2 n1 n2 k (nI i) T = some T' ∧ LinRep T' L mo (fun _ => []) := by
  intro m
  induction m with
  | zero =>
    intro i k T hi hk h0 h1
    obtain ⟨k, rfl⟩ : ∃ q, k = q + 1 := ⟨k - 1, by omega⟩
    refine ⟨T, ?_, h0, fun c hc => ⟨Nat.zero_le _, h1 c (by omega), fun j hj => absurd hj (Nat.not_lt_zero _)⟩⟩
    show pX2_emptyOut_lb2 n1 n2 (pX2_emptyOut_l2 n1 n2 k) (nI i) T = _
    subst hn1
    unfold pX2_emptyOut_lb2
    rw [n_le (by omega) (by omega), if_pos (by omega)]
  | succ m ih =>
    intro i k T hi hk h0 h1
    obtain ⟨k, rfl⟩ : ∃ q, k = q + 1 := ⟨k - 1, by omega⟩
    have e : pX2_emptyOut_l2 n1 n2 (k + 1) (nI i) T = pX2_emptyOut_l2 n1 n2 k (nI (i + 1)) (sto T 1 i (nI 0)) := by
      show pX2_emptyOut_lb2 n1 n2 (pX2_emptyOut_l2 n1 n2 k) (nI i) T = _
      subst hn1
      unfold pX2_emptyOut_lb2
      rw [n_le (by omega) (by omega), if_neg (by omega), st_n (by omega) (by omega), vl_e, nI_add]
    rw [e]
    refine ih (i + 1) k _ (by omega) (by omega) (by rw [sto_k (by decide)]; exact h0) (fun c hc => ?_)
    by_cases q : c = i
    · subst q
      exact sto_i _ _ _ _
    · rw [sto_j q]
      exact h1 c (by omega)
theorem lin_clear (hn1 : n1 = L) (hL : L < 2 ^ 12) (h0 : T 0 0 = nI mo) : ∃ T', pX2_emptyOut n1 n2 T = some T' ∧ LinRep T' L mo (fun _ => []) :=
  lin_clear_loop hn1 hL L 0 fuel T (by omega) (by unfold fuel; omega) h0 (fun c hc => absurd hc (Nat.not_lt_zero _))
end LIN2
