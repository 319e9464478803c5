/-! ===== new things, of the reference; what holds of every road ===== -/
section NEW3
variable {r : Nat → Int32} {A : aA}
theorem RepR.new {r' v : Nat → Int32} (h : RepR r A) {k : Nat} (hk : k < 5) (hlt : aN A k < aMx k) (hc : r' (2 + k) = nI (aN A k + 1)) (ht : ∀ j, j < aCo k → r' (rix k (aN A k) j) = v j)
    (hl : ∀ b, b < 2 → lTb b = k → aL A b (aN A k) = [] ∧ r' (lsz b (aN A k)) = nI 0)
    (ho : ∀ q, q < 250 → q ≠ 2 + k → (∀ j, j < aCo k → q ≠ rix k (aN A k) j) → (∀ b j, b < 2 → lTb b = k → j < lMx b → q ≠ lsz b (aN A k) ∧ q ≠ lix b (aN A k) j) → r' q = r q)
    (h6 : k = 4 → v 6 = nI 0) : RepR r' (newT A k v) := by
  obtain ⟨⟨g1, g2⟩, g3, g4, g5, g7⟩ := id h
  have hb8 : ∀ j, j < aCo k → 8 ≤ rix k (aN A k) j := fun j hj => (rix_lt hk hlt hj).1
  have low : ∀ q, q < 8 → q ≠ 2 + k → r' q = r q := fun q hq hne => ho q (by omega) hne (fun j hj => by have := hb8 j hj; omega) (fun b j hb e hj => by
    subst e
    have l1 := (lsz_lt hb hlt).1
    have l2 := (lix_lt hb hlt hj).1
    exact ⟨by omega, by omega⟩)
  refine ⟨⟨by rw [low 0 (by omega) (by omega)]; exact g1, by rw [low 1 (by omega) (by omega)]; exact g2⟩, fun a ha => ?_, fun a c d ha hc' hd => ?_, fun b i hb hi => ?_, ?_⟩
  · rw [newT_N]
    by_cases q : a = k
    · subst q
      rw [if_pos rfl]
      exact ⟨hc, hlt⟩
    · rw [if_neg q, low (2 + a) (by omega) (by omega)]
      exact g3 a ha
  · rw [newT_T]
    rw [newT_N] at hc'
    by_cases q : a = k ∧ c = aN A k
    · obtain ⟨rfl, rfl⟩ := q
      rw [if_pos ⟨rfl, rfl⟩]
      exact ht d hd
    · rw [if_neg q]
      have hc2 : c < aN A a := by
        by_cases z : a = k
        · subst z
          rw [if_pos rfl] at hc'
          have : c ≠ aN A a := fun e => q ⟨rfl, e⟩
          omega
        · rw [if_neg z] at hc'
          exact hc'
      have hcm := R_lt h ha hc2
      have b8 := rix_lt ha hcm hd
      rw [ho _ b8.2 (by omega) (fun j hj => rix_ne ha hcm hd hk hlt hj (fun z => q ⟨z.1, z.2.1⟩)) (fun b j hb e hj => by
        subst e
        exact ⟨rix_lsz ha hcm hd hb hlt, rix_lix ha hcm hd hb hlt hj⟩)]
      exact g4 a c d ha hc2 hd
  · rw [newT_N] at hi
    by_cases z : lTb b = k ∧ i = aN A k
    · obtain ⟨z1, z2⟩ := z
      subst z2
      obtain ⟨e1, e2⟩ := hl b hb z1
      have e3 : aL (newT A k v) b (aN A k) = [] := e1
      rw [e3]
      exact ⟨Nat.zero_le _, e2, fun j hj => absurd hj (Nat.not_lt_zero _)⟩
    · have hi2 : i < aN A (lTb b) := by
        by_cases y : lTb b = k
        · rw [if_pos y] at hi
          have : i ≠ aN A k := fun e => z ⟨y, e⟩
          rw [y]
          omega
        · rw [if_neg y] at hi
          exact hi
      obtain ⟨k1, k2, k3⟩ := g5 b i hb hi2
      have him := R_lt h (lTb_lt hb) hi2
      refine ⟨k1, ?_, fun j hj => ?_⟩
      · rw [ho _ (lsz_lt hb him).2 (by have := (lsz_lt hb him).1; omega) (fun j hj => Ne.symm (rix_lsz hk hlt hj hb him)) (fun b' j hb' e hj => by
          subst e
          exact ⟨lsz_ne hb him hb' hlt (fun y => z ⟨by rw [y.1], y.2⟩), lsz_lix hb him hb' hlt hj⟩)]
        exact k2
      · have hjm : j < lMx b := Nat.lt_of_lt_of_le hj k1
        rw [ho _ (lix_lt hb him hjm).2 (by have := (lix_lt hb him hjm).1; omega) (fun j' hj' => Ne.symm (rix_lix hk hlt hj' hb him hjm)) (fun b' j' hb' e hj' => by
          subst e
          exact ⟨Ne.symm (lsz_lix hb' hlt hb him hjm), lix_ne hb him hjm hb' hlt hj' (fun y => z ⟨by rw [y.1], y.2.1⟩)⟩)]
        exact k3 j hj
  · rw [low 7 (by omega) (by omega), g7]
    by_cases q : k = 4
    · subst q
      have e1 : colSum (aT (newT A 4 v) 4) 6 (aN A 4) = colSum (aT A 4) 6 (aN A 4) := colSum_to (fun i hi => by rw [newT_T, if_neg (fun y => by omega)])
      have e2 : aT (newT A 4 v) 4 (aN A 4) 6 = 0 := by
        rw [newT_T, if_pos ⟨rfl, rfl⟩]
        exact h6 rfl
      have e3 : aN (newT A 4 v) 4 = aN A 4 + 1 := rfl
      rw [e3]
      show _ = colSum (aT (newT A 4 v) 4) 6 (aN A 4) + aT (newT A 4 v) 4 (aN A 4) 6
      rw [e1, e2, Int32.add_zero]
    · have e0 : aN (newT A k v) 4 = aN A 4 := by rw [newT_N, if_neg (Ne.symm q)]
      rw [e0]
      exact colSum_to (fun i hi => by rw [newT_T, if_neg (fun y => q y.1.symm)])
/-- numbers where nothing is yet -/
theorem RepR.free {r' : Nat → Int32} (h : RepR r A) {k : Nat} (hk : k < 5) (hlt : aN A k < aMx k) (ho : ∀ q, q < 250 → (∀ j, j < aCo k → q ≠ rix k (aN A k) j) → r' q = r q) : RepR r' A := by
  obtain ⟨⟨g1, g2⟩, g3, g4, g5, g7⟩ := id h
  have hb8 : ∀ j, j < aCo k → 8 ≤ rix k (aN A k) j := fun j hj => (rix_lt hk hlt hj).1
  have low : ∀ q, q < 8 → r' q = r q := fun q hq => ho q (by omega) (fun j hj => by have := hb8 j hj; omega)
  refine ⟨⟨by rw [low 0 (by omega)]; exact g1, by rw [low 1 (by omega)]; exact g2⟩, fun a ha => by rw [low _ (by omega)]; exact g3 a ha, fun a c d ha hc' hd => ?_, fun b i hb hi => ?_, by rw [low 7 (by omega)]; exact g7⟩
  · have hcm := R_lt h ha hc'
    rw [ho _ (rix_lt ha hcm hd).2 (fun j hj => rix_ne ha hcm hd hk hlt hj (fun z => by obtain ⟨rfl, rfl, _⟩ := z; omega))]
    exact g4 a c d ha hc' hd
  · obtain ⟨k1, k2, k3⟩ := g5 b i hb hi
    have him := R_lt h (lTb_lt hb) hi
    refine ⟨k1, ?_, fun j hj => ?_⟩
    · rw [ho _ (lsz_lt hb him).2 (fun j hj => Ne.symm (rix_lsz hk hlt hj hb him))]
      exact k2
    · rw [ho _ (lix_lt hb him (by omega)).2 (fun j' hj' => Ne.symm (rix_lix hk hlt hj' hb him (by omega)))]
      exact k3 j hj
theorem upd_c {f : Nat → Int32} {a b : Nat} {x y : Int32} (h : a ≠ b) : upd (upd f a x) b y = upd (upd f b y) a x := by
  funext j
  by_cases q : j = b
  · subst q
    rw [upd_s, upd_n (Ne.symm h), upd_s]
  · rw [upd_n q]
    by_cases z : j = a
    · subst z
      rw [upd_s, upd_s]
    · rw [upd_n z, upd_n z, upd_n q]
end NEW3
section NEW4
variable {S : mM} {A : aA}
theorem m_addGate (h : RepR (S 0) A) (hlt : aN A 0 < 4) (a1 a2 a3 a4 : Int32) : ∃ S', pX7_addGateTo a1 a2 a3 a4 S = some S' ∧ RepR (S' 0) (newT A 0 (nv [a1, a2, a3, a4])) ∧ Oth 0 S S' := by
  unfold pX7_addGateTo
  have hn : S 0 2 = nI (aN A 0) := (h.2.1 0 (by decide)).1
  rw [ld_n (j := 2) (by decide) (by decide), hn, gateAt_n, cr1_s, st_n (by omega) (by decide), gateAt_n, cr1_s, st_n (by omega) (by decide), gateAt_n, cr1_s, st_n (by omega) (by decide), gateAt_n, cr1_s, st_n (by omega) (by decide), ld_n (j := 2) (by decide) (by decide), st_n (j := 2) (by decide) (by decide)]
  refine ⟨_, rfl, h.new (k := 0) (by decide) hlt ?_ (fun j hj => ?_) (fun b hb e => ?_) (fun q hq h2 h3 _ => ?_) (fun e => absurd e (by decide)), Oth.rf.sto.sto.sto.sto.sto⟩
  · show sto _ 0 2 _ 0 2 = _
    rw [sto_i, sto_j (by omega), sto_j (by omega), sto_j (by omega), sto_j (by omega), hn, nI_add]
  · have hj4 : j < 4 := hj
    show sto _ 0 2 _ 0 (8 + 4 * aN A 0 + j) = _
    rcases j with _ | _ | _ | _ | j
    · rw [sto_j (by omega), sto_j (by omega), sto_j (by omega), sto_j (by omega), sto_i]
      rfl
    · rw [sto_j (by omega), sto_j (by omega), sto_j (by omega), sto_i]
      rfl
    · rw [sto_j (by omega), sto_j (by omega), sto_i]
      rfl
    · rw [sto_j (by omega), sto_i]
      rfl
    · omega
  · rcases k2 hb with rfl | rfl <;> exact absurd e (by decide)
  · have t0 : q ≠ 8 + 4 * aN A 0 + 0 := h3 0 (by decide)
    have t1 : q ≠ 8 + 4 * aN A 0 + 1 := h3 1 (by decide)
    have t2 : q ≠ 8 + 4 * aN A 0 + 2 := h3 2 (by decide)
    have t3 : q ≠ 8 + 4 * aN A 0 + 3 := h3 3 (by decide)
    rw [sto_j (by omega), sto_j t3, sto_j t2, sto_j t1, sto_j t0]
theorem m_addBay (h : RepR (S 0) A) (iv : Inv A) (hlt : aN A 1 < 6) (a1 a2 : Int32) : ∃ S', pX7_addBayTo a1 a2 S = some S' ∧ RepR (S' 0) (newT A 1 (nv [a1, a2])) ∧ Oth 0 S S' := by
  unfold pX7_addBayTo
  have hn : S 0 3 = nI (aN A 1) := (h.2.1 1 (by decide)).1
  rw [ld_n (j := 3) (by decide) (by decide), hn, bayAt_n, cr1_s, st_n (by omega) (by decide), bayAt_n, cr1_s, st_n (by omega) (by decide), bayAt_n, cr1_s, st_n (by omega) (by decide), ld_n (j := 3) (by decide) (by decide), st_n (j := 3) (by decide) (by decide)]
  refine ⟨_, rfl, h.new (k := 1) (by decide) hlt ?_ (fun j hj => ?_) (fun b hb e => ?_) (fun q hq h2 h3 h4 => ?_) (fun e => absurd e (by decide)), Oth.rf.sto.sto.sto.sto⟩
  · show sto _ 0 3 _ 0 3 = _
    rw [sto_i, sto_j (by omega), sto_j (by omega), sto_j (by omega), hn, nI_add]
  · have hj4 : j < 2 := hj
    show sto _ 0 3 _ 0 (24 + 9 * aN A 1 + j) = _
    rcases j with _ | _ | j
    · rw [sto_j (by omega), sto_j (by omega), sto_j (by omega), sto_i]
      rfl
    · rw [sto_j (by omega), sto_j (by omega), sto_i]
      rfl
    · omega
  · rcases k2 hb with rfl | rfl
    · exact absurd e (by decide)
    · refine ⟨iv.none1 _ (Nat.le_refl _), ?_⟩
      show sto _ 0 3 _ 0 (24 + 9 * aN A 1 + 2) = _
      rw [sto_j (by omega), sto_i]
  · have t0 : q ≠ 24 + 9 * aN A 1 + 0 := h3 0 (by decide)
    have t1 : q ≠ 24 + 9 * aN A 1 + 1 := h3 1 (by decide)
    have t2 : q ≠ 24 + 9 * aN A 1 + 2 := (h4 1 0 (by decide) rfl (by decide)).1
    rw [sto_j (by omega), sto_j t2, sto_j t1, sto_j t0]
theorem m_addDepot (h : RepR (S 0) A) (hlt : aN A 2 < 4) (a1 a2 : Int32) : ∃ S', pX7_addDepotTo a1 a2 S = some S' ∧ RepR (S' 0) (newT A 2 (nv [a1, a2])) ∧ Oth 0 S S' := by
  unfold pX7_addDepotTo
  have hn : S 0 4 = nI (aN A 2) := (h.2.1 2 (by decide)).1
  rw [ld_n (j := 4) (by decide) (by decide), hn, depotAt_n, cr1_s, st_n (by omega) (by decide), depotAt_n, cr1_s, st_n (by omega) (by decide), ld_n (j := 4) (by decide) (by decide), st_n (j := 4) (by decide) (by decide)]
  refine ⟨_, rfl, h.new (k := 2) (by decide) hlt ?_ (fun j hj => ?_) (fun b hb e => ?_) (fun q hq h2 h3 _ => ?_) (fun e => absurd e (by decide)), Oth.rf.sto.sto.sto⟩
  · show sto _ 0 4 _ 0 4 = _
    rw [sto_i, sto_j (by omega), sto_j (by omega), hn, nI_add]
  · have hj4 : j < 2 := hj
    show sto _ 0 4 _ 0 (78 + 2 * aN A 2 + j) = _
    rcases j with _ | _ | j
    · rw [sto_j (by omega), sto_j (by omega), sto_i]
      rfl
    · rw [sto_j (by omega), sto_i]
      rfl
    · omega
  · rcases k2 hb with rfl | rfl <;> exact absurd e (by decide)
  · have t0 : q ≠ 78 + 2 * aN A 2 + 0 := h3 0 (by decide)
    have t1 : q ≠ 78 + 2 * aN A 2 + 1 := h3 1 (by decide)
    rw [sto_j (by omega), sto_j t1, sto_j t0]
theorem m_addConvoy_loop {n : Nat} (hlt : n < 4) : ∀ (m i k : Nat) (S : mM), i + m = 13 → m < k → S 0 5 = nI n →
    ∃ S', pX7_addConvoyTo_l2 k (nI i) S = some S' ∧ Oth 0 S S' ∧ ∀ q, S' 0 q = if q = 5 then nI (n + 1) else if 86 + 13 * n + i ≤ q ∧ q < 86 + 13 * n + 13 then nI 0 else S 0 q := by
  intro m
  induction m with
  | zero =>
    intro i k S hi hk hn
    cases k with
    | zero => omega
    | succ k =>
      obtain rfl : i = 13 := by omega
      unfold pX7_addConvoyTo_l2 pX7_addConvoyTo_lb2
      rw [if_pos (Int32.le_refl _), ld_n (j := 5) (by decide) (by decide), st_n (j := 5) (by decide) (by decide), hn, nI_add]
      refine ⟨_, rfl, Oth.rf.sto, fun q => ?_⟩
      by_cases z : q = 5
      · subst z
        rw [sto_i, if_pos rfl]
      · rw [sto_j z, if_neg z, if_neg (by omega)]
  | succ m ih =>
    intro i k S hi hk hn
    cases k with
    | zero => omega
    | succ k =>
      unfold pX7_addConvoyTo_l2 pX7_addConvoyTo_lb2
      rw [n_le (by decide) (by omega), if_neg (by omega), ld_n (j := 5) (by decide) (by decide), hn, convoyAt_n, cr1_s, st_n (by omega) (by decide), vl_e, nI_add]
      obtain ⟨S', e1, e2, e3⟩ := ih (i + 1) k (sto S 0 (86 + 13 * n + i) (nI 0)) (by omega) (by omega) (by rw [sto_j (by omega)]; exact hn)
      refine ⟨S', e1, Oth.tr Oth.rf.sto e2, fun q => ?_⟩
      rw [e3]
      by_cases z : q = 5
      · rw [if_pos z, if_pos z]
      · rw [if_neg z, if_neg z]
        by_cases y : 86 + 13 * n + (i + 1) ≤ q ∧ q < 86 + 13 * n + 13
        · rw [if_pos y, if_pos (by omega)]
        · rw [if_neg y]
          by_cases x : q = 86 + 13 * n + i
          · subst x
            rw [sto_i, if_pos (by omega)]
          · rw [sto_j x, if_neg (by omega)]
theorem m_addConvoy (h : RepR (S 0) A) (iv : Inv A) (hlt : aN A 3 < 4) : ∃ S', pX7_addConvoyTo S = some S' ∧ RepR (S' 0) (newT A 3 (fun _ => nI 0)) ∧ Oth 0 S S' := by
  unfold pX7_addConvoyTo
  have hn : S 0 5 = nI (aN A 3) := (h.2.1 3 (by decide)).1
  obtain ⟨S', e1, e2, e3⟩ := m_addConvoy_loop hlt 13 0 fuel S rfl (by decide) hn
  refine ⟨S', e1, h.new (k := 3) (by decide) hlt ?_ (fun j hj => ?_) (fun b hb e => ?_) (fun q hq h2 h3 h4 => ?_) (fun e => absurd e (by decide)), e2⟩
  · rw [e3, if_pos rfl]
  · have hj4 : j < 4 := hj
    rw [e3]
    rcases j with _ | _ | _ | _ | j
    · show (if 86 + 13 * aN A 3 + 0 = 5 then _ else if _ then _ else _) = _
      rw [if_neg (by omega), if_pos (by show 86 + 13 * aN A 3 + 0 ≤ 86 + 13 * aN A 3 + 0 ∧ 86 + 13 * aN A 3 + 0 < 86 + 13 * aN A 3 + 13; omega)]
    · show (if 86 + 13 * aN A 3 + 2 = 5 then _ else if _ then _ else _) = _
      rw [if_neg (by omega), if_pos (by show 86 + 13 * aN A 3 + 0 ≤ 86 + 13 * aN A 3 + 2 ∧ 86 + 13 * aN A 3 + 2 < 86 + 13 * aN A 3 + 13; omega)]
    · show (if 86 + 13 * aN A 3 + 3 = 5 then _ else if _ then _ else _) = _
      rw [if_neg (by omega), if_pos (by show 86 + 13 * aN A 3 + 0 ≤ 86 + 13 * aN A 3 + 3 ∧ 86 + 13 * aN A 3 + 3 < 86 + 13 * aN A 3 + 13; omega)]
    · show (if 86 + 13 * aN A 3 + 4 = 5 then _ else if _ then _ else _) = _
      rw [if_neg (by omega), if_pos (by show 86 + 13 * aN A 3 + 0 ≤ 86 + 13 * aN A 3 + 4 ∧ 86 + 13 * aN A 3 + 4 < 86 + 13 * aN A 3 + 13; omega)]
    · omega
  · rcases k2 hb with rfl | rfl
    · refine ⟨iv.none0 _ (Nat.le_refl _), ?_⟩
      rw [e3]
      show (if 86 + 13 * aN A 3 + 1 = 5 then _ else if 86 + 13 * aN A 3 + 0 ≤ 86 + 13 * aN A 3 + 1 ∧ 86 + 13 * aN A 3 + 1 < 86 + 13 * aN A 3 + 13 then _ else _) = _
      rw [if_neg (by omega), if_pos (by omega)]
    · exact absurd e (by decide)
  · have t0 : q ≠ 86 + 13 * aN A 3 + 0 := h3 0 (by decide)
    have t1 : q ≠ 86 + 13 * aN A 3 + 2 := h3 1 (by decide)
    have t2 : q ≠ 86 + 13 * aN A 3 + 3 := h3 2 (by decide)
    have t3 : q ≠ 86 + 13 * aN A 3 + 4 := h3 3 (by decide)
    have t4 : q ≠ 86 + 13 * aN A 3 + 1 := (h4 0 0 (by decide) rfl (by decide)).1
    have t5 : ∀ j, j < 8 → q ≠ 86 + 13 * aN A 3 + (5 + j) := fun j hj => (h4 0 j (by decide) rfl hj).2
    rw [e3, if_neg (by omega), if_neg]
    rintro ⟨y1, y2⟩
    exact t5 (q - (86 + 13 * aN A 3 + 5)) (by omega) (by omega)
end NEW4
