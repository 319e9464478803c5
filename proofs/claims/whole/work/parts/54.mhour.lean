/-! ===== the reference's hour is the hour ===== -/
section MH
variable {S : mM} {A : aA}
theorem m_fill_loop {c d : Nat} : ∀ (m i k : Nat) (S : mM) (A : aA) (st : Bool), i + m = (aL A 0 c).length → m < k → RepR (S 0) A → Inv A → c < aN A 3 → d < aN A 2 →
    ∃ S', pX7_fill_l14 k (nI c) (nI d) (nI i) S = some S' ∧ RepR (S' 0) (((aL A 0 c).drop i).foldl (fillV d) (A, st)).1 := by
  intro m
  induction m with
  | zero =>
    intro i k S A st hi hk h iv hc hd
    obtain ⟨k, rfl⟩ : ∃ q, k = q + 1 := ⟨k - 1, by omega⟩
    have h8 := (iv.line0 c hc).1
    refine ⟨S, ?_, by rw [List.drop_eq_nil_of_le (by omega)]; exact h⟩
    show pX7_fill_lb14 (pX7_fill_l14 k) (nI c) (nI d) (nI i) S = _
    unfold pX7_fill_lb14
    rw [m_sizeOf h hc, cr1_s, n_le (by omega) (by omega), if_pos (by omega)]
  | succ m ih =>
    intro i k S A st hi hk h iv hc hd
    obtain ⟨k, rfl⟩ : ∃ q, k = q + 1 := ⟨k - 1, by omega⟩
    have h8 := (iv.line0 c hc).1
    have hd4 : aN A 2 ≤ 4 := iv.cnt 2 (by decide)
    have hv := iv.vok hc (getD_mem (x := aL A 0 c) (i := i) (by omega))
    rw [drop_get (x := aL A 0 c) (i := i) (by omega), List.foldl_cons]
    show ∃ S', pX7_fill_lb14 (pX7_fill_l14 k) (nI c) (nI d) (nI i) S = some S' ∧ _
    generalize hvv : (aL A 0 c).getD i 0 = v at hv
    unfold pX7_fill_lb14
    rw [m_sizeOf h hc, cr1_s, n_le (by omega) (by omega), if_neg (by omega), n_eqN (by omega), if_neg (by simp), m_who h hc (by omega), cr1_s, hvv, carAt_n, cr1_s, R_ldV h hv (by decide), carAt_n, cr1_s, R_ldV h hv (by decide), vl_e, depotAt_n, cr1_s, R_ldD h hd (by decide)]
    have fin : ∀ g, mn (aT A 4 v 2 - aT A 4 v 3) (aT A 2 d 1) = g → ∃ S', pX7_fill_b80 (pX7_fill_l14 k) (nI c) (nI d) (nI i) (nI v) g S = some S' ∧ RepR (S' 0) (((aL A 0 c).drop (i + 1)).foldl (fillV d) (fillV d (A, st) v)).1 := by
      intro g hg
      unfold pX7_fill_b80
      rw [carAt_n, cr1_s, R_ldV h hv (by decide)]
      have hv16 := cnt4 iv
      rw [st_n (by omega) (by decide)]
      have r1 : RepR (sto S 0 (138 + 7 * v + 3) (aT A 4 v 3 + g) 0) (aPut A 4 v 3 (aT A 4 v 3 + g)) := by
        rw [sto_u]
        exact h.put (k := 4) (i := v) (j := 3) _ (by decide) hv (by decide) (by decide)
      generalize sto S 0 (138 + 7 * v + 3) (aT A 4 v 3 + g) = S1 at r1 ⊢
      rw [depotAt_n, cr1_s, R_ldD r1 hd (by decide), st_n (by omega) (by decide), vl_e, nI_add]
      have r2 : RepR (sto S1 0 (78 + 2 * d + 1) (aT (aPut A 4 v 3 (aT A 4 v 3 + g)) 2 d 1 - g) 0) (aPut (aPut A 4 v 3 (aT A 4 v 3 + g)) 2 d 1 (aT (aPut A 4 v 3 (aT A 4 v 3 + g)) 2 d 1 - g)) := by
        rw [sto_u]
        exact r1.put (k := 2) (i := d) (j := 1) _ (by decide) hd (by decide) (by decide)
      have eA : (fillV d (A, st) v).1 = aPut (aPut A 4 v 3 (aT A 4 v 3 + g)) 2 d 1 (aT (aPut A 4 v 3 (aT A 4 v 3 + g)) 2 d 1 - g) := by
        unfold fillV
        simp only [hg]
        rw [aT_ne (by omega)]
      rw [← eA] at r2
      have := ih (i + 1) k _ (fillV d (A, st) v).1 (fillV d (A, st) v).2 (by show i + 1 + m = (aL A 0 c).length; omega) (by omega) r2 (iv.okFillV st hd hv) hc hd
      exact this
    by_cases q : aT A 2 d 1 ≤ aT A 4 v 2 - aT A 4 v 3
    · rw [if_pos q, cr1_s, R_ldD h hd (by decide)]
      refine fin _ ?_
      unfold mn
      by_cases q2 : aT A 2 d 1 < aT A 4 v 2 - aT A 4 v 3
      · rw [if_pos q2]
      · rw [if_neg q2]
        exact Int32.le_antisymm (Int32.not_lt.mp q2) q
    · rw [if_neg q]
      refine fin _ ?_
      unfold mn
      rw [if_neg (fun z => q (Int32.le_of_lt z))]
theorem m_fill (h : RepR (S 0) A) (iv : Inv A) (st : Bool) {c : Nat} (hc : c < aN A 3) : ∃ S', pX7_fill (nI c) S = some S' ∧ RepR (S' 0) (fillC c (A, st)).1 := by
  unfold pX7_fill fillC
  have h8 := (iv.line0 c hc).1
  rw [convoyAt_n, cr1_s, R_ldC0 h hc, m_depotOn h, cr1_s]
  cases e : rowF (aT A 2) (aT A 3 c 0) (aN A 2) with
  | none =>
    simp only [e]
    refine ⟨S, ?_, h⟩
    show pX7_fill_lb14 (pX7_fill_l14 4999) (nI c) (-9) (nI 0) S = _
    unfold pX7_fill_lb14
    rw [m_sizeOf h hc, cr1_s]
    by_cases q : nI (aL A 0 c).length ≤ nI 0
    · rw [if_pos q]
    · rw [if_neg q, if_pos rfl]
  | some d =>
    simp only [e]
    have := m_fill_loop (c := c) (d := d) (aL A 0 c).length 0 fuel S A st (by omega) (by unfold fuel; omega) h iv hc (rowF_some e).1
    rw [List.drop_zero] at this
    exact this
theorem m_burn_loop {c : Nat} {L : List Nat} (h8 : L.length ≤ 8) {N : Nat} (hN : N ≤ 16) (hL : ∀ v, v ∈ L → v < N) : ∀ (m i k : Nat) (S : mM) (A : aA), i + m = L.length → m < k → RepR (S 0) A → aL A 0 c = L → aN A 4 = N → c < aN A 3 →
    ∃ S', pX7_burn_l13 k (nI c) (nI i) S = some S' ∧ RepR (S' 0) ((L.drop i).foldl burnV A) := by
  intro m
  induction m with
  | zero =>
    intro i k S A hi hk h hA hn hc
    obtain ⟨k, rfl⟩ : ∃ q, k = q + 1 := ⟨k - 1, by omega⟩
    refine ⟨S, ?_, by rw [List.drop_eq_nil_of_le (by omega)]; exact h⟩
    show pX7_burn_lb13 (pX7_burn_l13 k) (nI c) (nI i) S = _
    unfold pX7_burn_lb13
    rw [m_sizeOf h hc, cr1_s, hA, n_le (by omega) (by omega), if_pos (by omega)]
  | succ m ih =>
    intro i k S A hi hk h hA hn hc
    obtain ⟨k, rfl⟩ : ∃ q, k = q + 1 := ⟨k - 1, by omega⟩
    have hv : L.getD i 0 < aN A 4 := by rw [hn]; exact hL _ (getD_mem (by omega))
    have hv' : L.getD i 0 < 16 := by omega
    rw [drop_get (x := L) (i := i) (by omega), List.foldl_cons]
    show ∃ S', pX7_burn_lb13 (pX7_burn_l13 k) (nI c) (nI i) S = some S' ∧ _
    unfold pX7_burn_lb13
    rw [m_sizeOf h hc, cr1_s, hA, n_le (by omega) (by omega), if_neg (by omega), m_who h hc (by rw [hA]; omega), cr1_s, hA]
    generalize hvv : L.getD i 0 = v at hv hv' ⊢
    rw [carAt_n, cr1_s, R_ldV h hv (by decide), carAt_n, cr1_s, R_ldV h hv (by decide), st_n (by omega) (by decide)]
    have r1 : RepR (sto S 0 (138 + 7 * v + 3) (aT A 4 v 3 - aT A 4 v 1) 0) (aPut A 4 v 3 (aT A 4 v 3 - aT A 4 v 1)) := by
      rw [sto_u]
      exact h.put (k := 4) (i := v) (j := 3) _ (by decide) hv (by decide) (by decide)
    generalize sto S 0 (138 + 7 * v + 3) (aT A 4 v 3 - aT A 4 v 1) = S1 at r1 ⊢
    have e6 : aT (aPut A 4 v 3 (aT A 4 v 3 - aT A 4 v 1)) 4 v 6 = aT A 4 v 6 := aT_ne (by omega)
    have e1 : aT (aPut A 4 v 3 (aT A 4 v 3 - aT A 4 v 1)) 4 v 1 = aT A 4 v 1 := aT_ne (by omega)
    have hz : ∀ (x : Int32) (K : Int32 → Option mM), ld (sto S1 0 (138 + 7 * v + 6) x) 0 250 (nI (138 + 7 * v + 1)) K = K (aT A 4 v 1) := fun x K => by
      rw [ld_n (by omega) (by decide), sto_j (by omega), ← e1]
      have := r1.2.2.1 4 v 1 (by decide) hv (by decide)
      rw [← this]
      rfl
    rw [carAt_n, cr1_s, R_ldV r1 hv (by decide), cr1_s, R_ldV r1 hv (by decide), e6, e1, st_n (by omega) (by decide), ld_n (by decide) (by decide), cr1_s, hz, st_n (by decide) (by decide), vl_e, nI_add]
    rw [sto_j (by omega)]
    have r2 := r1.burn (v := v) (aT A 4 v 1) hv
    rw [e6] at r2
    refine ih (i + 1) k _ (burnV A v) (by omega) (by omega) ?_ hA hn hc
    rw [sto_u, sto_u]
    exact r2
theorem m_burn (h : RepR (S 0) A) (iv : Inv A) {c : Nat} (hc : c < aN A 3) : ∃ S', pX7_burn (nI c) S = some S' ∧ RepR (S' 0) (burnC c A) := by
  unfold pX7_burn burnC
  have h8 := (iv.line0 c hc).1
  have hc' := R_lt h (k := 3) (by decide) hc
  have hc4 : c < 4 := hc'
  rw [convoyAt_n, cr1_s, R_ldC0 h hc, st_n (by omega) (by decide)]
  have r1 : RepR (sto S 0 (86 + 13 * c + 0) (aT A 3 c 0 + nI 1) 0) (aPut A 3 c 0 (aT A 3 c 0 + nI 1)) := by
    rw [sto_u]
    exact h.put (k := 3) (i := c) (j := 0) _ (by decide) hc (by decide) (by decide)
  have := m_burn_loop (c := c) h8 (N := aN A 4) (cnt4 iv) (fun v hv => iv.vok hc hv) (aL A 0 c).length 0 fuel _ _ (by omega) (by unfold fuel; omega) r1 rfl rfl hc
  rw [List.drop_zero] at this
  exact this
theorem m_arr_loop {c : Nat} {L : List Nat} (h8 : L.length ≤ 8) {N : Nat} (hN : N ≤ 16) (hL : ∀ v, v ∈ L → v < N) : ∀ (m i k : Nat) (S : mM) (A : aA), i + m = L.length → m < k → RepR (S 0) A → aL A 0 c = L → aN A 4 = N → c < aN A 3 →
    ∃ S', pX7_arrive_l2 k (nI c) (nI i) S = some S' ∧ RepR (S' 0) (aLine ((L.drop i).foldl endV A) 0 c []) := by
  intro m
  induction m with
  | zero =>
    intro i k S A hi hk h hA hn hc
    obtain ⟨k, rfl⟩ : ∃ q, k = q + 1 := ⟨k - 1, by omega⟩
    have hc' := R_lt h (k := 3) (by decide) hc
    have hc4 : c < 4 := hc'
    rw [List.drop_eq_nil_of_le (by omega)]
    show ∃ S', pX7_arrive_lb2 (pX7_arrive_l2 k) (nI c) (nI i) S = some S' ∧ _
    unfold pX7_arrive_lb2
    rw [m_sizeOf h hc, cr1_s, hA, n_le (by omega) (by omega), if_pos (by omega), convoyAt_n, cr1_s, st_n (by omega) (by decide)]
    refine ⟨_, rfl, ?_⟩
    rw [sto_u]
    refine h.line (k := 0) (by decide) hc (Nat.zero_le _) (upd_s _ _ _) (fun j hj => absurd hj (Nat.not_lt_zero _)) (fun q _ h1 _ => upd_n h1)
  | succ m ih =>
    intro i k S A hi hk h hA hn hc
    obtain ⟨k, rfl⟩ : ∃ q, k = q + 1 := ⟨k - 1, by omega⟩
    have hv : L.getD i 0 < aN A 4 := by rw [hn]; exact hL _ (getD_mem (by omega))
    have hv' : L.getD i 0 < 16 := by omega
    rw [drop_get (x := L) (i := i) (by omega), List.foldl_cons]
    show ∃ S', pX7_arrive_lb2 (pX7_arrive_l2 k) (nI c) (nI i) S = some S' ∧ _
    unfold pX7_arrive_lb2
    rw [m_sizeOf h hc, cr1_s, hA, n_le (by omega) (by omega), if_neg (by omega), m_who h hc (by rw [hA]; omega), cr1_s, hA]
    generalize hvv : L.getD i 0 = v at hv hv' ⊢
    rw [carAt_n, cr1_s, st_n (by omega) (by decide)]
    have r1 : RepR (sto S 0 (138 + 7 * v + 4) (nI 2) 0) (aPut A 4 v 4 (nI 2)) := by
      rw [sto_u]
      exact h.put (k := 4) (i := v) (j := 4) _ (by decide) hv (by decide) (by decide)
    generalize sto S 0 (138 + 7 * v + 4) (nI 2) = S1 at r1 ⊢
    have eL : aL (aPut A 4 v 4 (nI 2)) 0 c = L := hA
    rw [m_who r1 hc (by rw [eL]; omega), cr1_s, eL, hvv, carAt_n, cr1_s, st_n (by omega) (by decide), vl_e, nI_add]
    have r2 : RepR (sto S1 0 (138 + 7 * v + 5) (-9) 0) (endV A v) := by
      rw [sto_u]
      exact r1.put (k := 4) (i := v) (j := 5) _ (by decide) hv (by decide) (by decide)
    exact ih (i + 1) k _ (endV A v) (by omega) (by omega) r2 hA hn hc
theorem m_arrive (h : RepR (S 0) A) {c : Nat} (hc : c < aN A 3) (h8 : (aL A 0 c).length ≤ 8) (hN : aN A 4 ≤ 16) (hL : ∀ v, v ∈ aL A 0 c → v < aN A 4) : ∃ S', pX7_arrive (nI c) S = some S' ∧ RepR (S' 0) (endC c A) := by
  have := m_arr_loop (c := c) h8 hN hL (aL A 0 c).length 0 fuel S A (by omega) (by unfold fuel; omega) h rfl rfl hc
  rw [List.drop_zero] at this
  exact this
theorem m_before (h : RepR (S 0) A) (iv : Inv A) {v u : Nat} (hv : v < aN A 4) (hu : u < aN A 4) : pX7_isBefore (nI v) (nI u) S = some (bI (befV A v u)) := by
  have h16 := cnt4 iv
  obtain ⟨s, _, _, _, a1, a2, a3, -⟩ := iv.veh v hv
  obtain ⟨t, _, _, _, b1, b2, b3, -⟩ := iv.veh u hu
  unfold pX7_isBefore befV
  rw [carAt_n, cr1_s, R_ldV h hv (by decide), carAt_n, cr1_s, R_ldV h hu (by decide), vl_e, a1, b1, gd_p isZ_0, gd_p isZ_1]
  have e1 : (nI s - nI t < 0) = (s < t) := by
    rw [Int32.lt_iff_toInt_lt, pk_sub_toInt (by omega) (by omega), show (0 : Int32).toInt = 0 from by decide]
    exact propext (by omega)
  have e2 : (nI s - nI t = 0) = (s = t) := by
    rw [← Int32.toInt_inj, pk_sub_toInt (by omega) (by omega), show (0 : Int32).toInt = 0 from by decide]
    exact propext (by omega)
  have e3 : decide (nI s < nI t ∨ nI s = nI t ∧ v < u) = decide (s < t ∨ s = t ∧ v < u) := decide_eq_decide.mpr (by rw [P_lt (by omega) (by omega), P_eq (by omega) (by omega)])
  rw [e3, n_if e1]
  by_cases q1 : s < t
  · rw [if_pos q1, decide_eq_true (Or.inl q1), bI_t]
  · rw [if_neg q1, n_if e2]
    by_cases q2 : s = t
    · rw [if_pos q2, n_le (by omega) (by omega)]
      by_cases q3 : u ≤ v
      · rw [if_pos q3, decide_eq_false (by omega), bI_f]
      · rw [if_neg q3, decide_eq_true (Or.inr ⟨q2, by omega⟩), bI_t]
    · rw [if_neg q2, decide_eq_false (by omega), bI_f]
theorem m_bub {c i : Nat} {ih8 : Int32 → Int32 → Int32 → mM → Option mM} : ∀ (p k : Nat) (S : mM) (L : List Nat), p < k → p < L.length → L.length ≤ 8 → (∀ j, j < L.length → L.getD j 0 < aN A 4) → Inv A → c < aN A 3 → RepR (S 0) (aLine A 0 c L) →
    ∃ S', pX7_order_l20 ih8 k (nI c) (nI (86 + 13 * c + 5)) (nI i) (nI p) S = ih8 (nI c) (nI (86 + 13 * c + 5)) (nI (i + 1)) S' ∧ RepR (S' 0) (aLine A 0 c (bub (befV A) p L)) := by
  intro p
  induction p with
  | zero =>
    intro k S L hk hl h8 hL iv hc h
    obtain ⟨k, rfl⟩ : ∃ q, k = q + 1 := ⟨k - 1, by omega⟩
    refine ⟨S, ?_, h⟩
    show pX7_order_lb20 ih8 (pX7_order_l20 ih8 k) _ _ _ (nI 0) S = _
    unfold pX7_order_lb20
    rw [if_pos (by decide), vl_e, nI_add]
  | succ p ihp =>
    intro k S L hk hl h8 hL iv hc h
    obtain ⟨k, rfl⟩ : ∃ q, k = q + 1 := ⟨k - 1, by omega⟩
    show ∃ S', pX7_order_lb20 ih8 (pX7_order_l20 ih8 k) _ _ _ (nI (p + 1)) S = _ ∧ _
    have hc' := R_lt h (k := 3) (by decide) hc
    have hc4 : c < 4 := hc'
    have eL : aL (aLine A 0 c L) 0 c = L := aL_eq _ _ _ _
    have w1 : ∀ j, j < L.length → S 0 (86 + 13 * c + 5 + j) = nI (L.getD j 0) := fun j hj => by
      have := (h.2.2.2.1 0 c (by decide) hc).2.2 j (by rw [eL]; exact hj)
      rw [eL, show lix 0 c j = 86 + 13 * c + 5 + j by show 86 + 13 * c + (5 + j) = _; omega] at this
      exact this
    have hv := hL (p + 1) hl
    have hu := hL p (by omega)
    unfold pX7_order_lb20
    have hb : bub (befV A) (p + 1) L = if befV A (L.getD (p + 1) 0) (L.getD p 0) = true then bub (befV A) p ((L.set (p + 1) (L.getD p 0)).set p (L.getD (p + 1) 0)) else L := rfl
    have ivA : Inv A := iv
    rw [n_le0 (by omega), if_neg (by omega), nI_add, pk_sub (by omega), show 86 + 13 * c + 5 + (p + 1) - 1 = 86 + 13 * c + 5 + p by omega, ld_n (by omega) (by decide), ld_n (by omega) (by decide), w1 _ hl, w1 _ (by omega), hb]
    generalize hvv : L.getD (p + 1) 0 = v at hv ⊢
    generalize huu : L.getD p 0 = u at hu ⊢
    have hbef : pX7_isBefore (nI v) (nI u) S = some (bI (befV A v u)) := by
      have h16 := cnt4 iv
      obtain ⟨s, _, _, _, a1, a2, a3, -⟩ := iv.veh v hv
      obtain ⟨t, _, _, _, b1, b2, b3, -⟩ := iv.veh u hu
      unfold pX7_isBefore befV
      rw [carAt_n, cr1_s, R_ldV h hv (by decide), carAt_n, cr1_s, R_ldV h hu (by decide), vl_e, aT_line, a1, b1, gd_p isZ_0, gd_p isZ_1]
      have e1 : (nI s - nI t < 0) = (s < t) := by
        rw [Int32.lt_iff_toInt_lt, pk_sub_toInt (by omega) (by omega), show (0 : Int32).toInt = 0 from by decide]
        exact propext (by omega)
      have e2 : (nI s - nI t = 0) = (s = t) := by
        rw [← Int32.toInt_inj, pk_sub_toInt (by omega) (by omega), show (0 : Int32).toInt = 0 from by decide]
        exact propext (by omega)
      have e3 : decide (nI s < nI t ∨ nI s = nI t ∧ v < u) = decide (s < t ∨ s = t ∧ v < u) := decide_eq_decide.mpr (by rw [P_lt (by omega) (by omega), P_eq (by omega) (by omega)])
      rw [e3, n_if e1]
      by_cases q1 : s < t
      · rw [if_pos q1, decide_eq_true (Or.inl q1), bI_t]
      · rw [if_neg q1, n_if e2]
        by_cases q2 : s = t
        · rw [if_pos q2, n_le (by omega) (by omega)]
          by_cases q3 : u ≤ v
          · rw [if_pos q3, decide_eq_false (by omega), bI_f]
          · rw [if_neg q3, decide_eq_true (Or.inr ⟨q2, by omega⟩), bI_t]
        · rw [if_neg q2, decide_eq_false (by omega), bI_f]
    rw [hbef, cr1_s, bI_0]
    by_cases q : befV A v u = false
    · rw [if_pos q, if_neg (by rw [q]; simp), vl_e, nI_add]
      exact ⟨S, rfl, h⟩
    · have q' : befV A v u = true := by cases e : befV A v u with | true => rfl | false => exact absurd e q
      rw [if_neg q, if_pos q', ld_n (by omega) (by decide), ld_n (by omega) (by decide), w1 _ hl, w1 _ (by omega), hvv, huu, st_n (by omega) (by decide), st_n (by omega) (by decide), vl_e]
      have e5 : nI (p + 1) + -1 = nI p := by
        rw [← Int32.sub_eq_add_neg]
        exact (pk_sub (a := p + 1) (b := 1) (by omega)).trans (by rw [show p + 1 - 1 = p by omega])
      rw [e5]
      refine ihp k _ ((L.set (p + 1) u).set p v) (by omega) (by rw [List.length_set, List.length_set]; omega) (by rw [List.length_set, List.length_set]; exact h8) (fun j hj => ?_) iv hc ?_
      · rw [List.length_set, List.length_set] at hj
        by_cases z : j = p
        · subst z
          rw [getD_set_eq (by rw [List.length_set]; exact hj)]
          exact hv
        · rw [getD_set_ne z]
          by_cases z2 : j = p + 1
          · subst z2
            rw [getD_set_eq hj]
            exact hu
          · rw [getD_set_ne z2]
            exact hL j hj
      · rw [sto_u, sto_u, ← aLine_twice A 0 c L]
        refine h.line (k := 0) (by decide) hc (by rw [List.length_set, List.length_set]; exact h8) ?_ (fun j hj => ?_) (fun q _ h1 h2 => ?_)
        · rw [List.length_set, List.length_set, upd_n (by show 86 + 13 * c + 1 ≠ _; omega), upd_n (by show 86 + 13 * c + 1 ≠ _; omega)]
          have := (h.2.2.2.1 0 c (by decide) hc).2.1
          rw [eL] at this
          exact this
        · rw [List.length_set, List.length_set] at hj
          show upd (upd (S 0) _ (nI u)) _ (nI v) (86 + 13 * c + (5 + j)) = _
          by_cases z : j = p
          · subst z
            rw [show 86 + 13 * c + (5 + j) = 86 + 13 * c + 5 + j by omega, upd_s, getD_set_eq (by rw [List.length_set]; exact hj)]
          · rw [upd_n (by omega), getD_set_ne z]
            by_cases z2 : j = p + 1
            · subst z2
              rw [show 86 + 13 * c + (5 + (p + 1)) = 86 + 13 * c + 5 + (p + 1) by omega, upd_s, getD_set_eq hj]
            · rw [upd_n (by omega), getD_set_ne z2, show 86 + 13 * c + (5 + j) = 86 + 13 * c + 5 + j by omega]
              exact w1 j hj
        · have := h2 p (by show p < 8; omega)
          have := h2 (p + 1) (by show p + 1 < 8; omega)
          have e7 : ∀ j, lix 0 c j = 86 + 13 * c + (5 + j) := fun j => rfl
          rw [e7] at *
          rw [upd_n (by omega), upd_n (by omega)]
theorem m_ord_loop {c : Nat} (iv : Inv A) (hc : c < aN A 3) : ∀ (n i k : Nat) (S : mM) (L : List Nat), n + i = L.length → n < k → L.length ≤ 8 → (∀ j, j < L.length → L.getD j 0 < aN A 4) → RepR (S 0) (aLine A 0 c L) →
    ∃ S', pX7_order_l8 k (nI c) (nI (86 + 13 * c + 5)) (nI i) S = some S' ∧ RepR (S' 0) (aLine A 0 c (ordL (befV A) n i L)) := by
  intro n
  induction n with
  | zero =>
    intro i k S L hi hk h8 hL h
    obtain ⟨k, rfl⟩ : ∃ q, k = q + 1 := ⟨k - 1, by omega⟩
    show ∃ S', pX7_order_lb8 (pX7_order_l8 k) (nI c) _ (nI i) S = _ ∧ _
    unfold pX7_order_lb8
    rw [m_sizeOf h hc, cr1_s, aL_eq, n_le (by omega) (by omega), if_pos (by omega)]
    exact ⟨S, rfl, h⟩
  | succ n ih =>
    intro i k S L hi hk h8 hL h
    obtain ⟨k, rfl⟩ : ∃ q, k = q + 1 := ⟨k - 1, by omega⟩
    show ∃ S', pX7_order_lb8 (pX7_order_l8 k) (nI c) _ (nI i) S = _ ∧ _
    unfold pX7_order_lb8
    rw [m_sizeOf h hc, cr1_s, aL_eq, n_le (by omega) (by omega), if_neg (by omega)]
    obtain ⟨S1, e1, r1⟩ := m_bub (A := A) (i := i) (ih8 := pX7_order_l8 k) i fuel S L (by unfold fuel; omega) (by omega) h8 hL iv hc h
    rw [e1]
    have hp := bub_perm (befV A) i L (by omega)
    refine ih (i + 1) k S1 (bub (befV A) i L) (by rw [hp.length_eq]; omega) (by omega) (by rw [hp.length_eq]; exact h8) (fun j hj => ?_) r1
    have hm := hp.mem_iff.mp (getD_mem hj)
    obtain ⟨q, hq1, hq2⟩ := List.mem_iff_getElem.mp hm
    have := hL q hq1
    rw [List.getD_eq_getElem?_getD, List.getElem?_eq_getElem hq1] at this
    rw [← hq2]
    exact this
theorem m_order (h : RepR (S 0) A) (iv : Inv A) {c : Nat} (hc : c < aN A 3) (hne : aL A 0 c ≠ []) : ∃ S', pX7_order (nI c) S = some S' ∧ RepR (S' 0) (ordC c A) := by
  have h8 := (iv.line0 c hc).1
  have hl : 0 < (aL A 0 c).length := List.length_pos_iff.mpr hne
  unfold pX7_order
  rw [convoyAt_n, cr1_s]
  exact m_ord_loop iv hc ((aL A 0 c).length - 1) 1 fuel S (aL A 0 c) (by omega) (by unfold fuel; omega) h8 (fun j hj => iv.vok hc (getD_mem hj)) (by rw [aLine_self]; exact h)
end MH
