/-! ===== what holds of both machines between two calls ===== -/
def PNow (C D : mM) (A : aA) : Prop := (∃ b, C 3 9 = bI b) ∧ RepC (sB C 3) A ∧ RepR (D 3) A ∧ okA A ∧ D 0 12 = -9 ∧ StatC (sB C 20)
def PTxt (C D : mM) : Prop := ∃ (n : Nat) (ch : Nat → Nat), (C 1 1 = nI n ∧ n ≤ 140 ∧ (∀ i, i < n → C 2 i = nI (ch i) ∧ ch i < 256) ∧ ∃ b, C 1 3 = bI b) ∧ D 0 2 = nI n ∧ ∀ i, i < n → D 1 i = nI (ch i) ∧ ch i < 256
def PSlot (C D : mM) : Prop := ∀ i, i < 2 → StatC (sB C (282 + 17 * i)) ∧ ∃ t, C 281 i = bI t ∧ D 7 i = bI t ∧ (t = true → ∃ B, RepC (sB C (282 + 17 * i)) B ∧ RepR (fun q => D 6 (250 * i + q)) B ∧ okA B)
def PHist (C D : mM) : Prop := (∀ j, j < 14 → StatC (sB C (41 + 17 * j))) ∧ ∃ nx sz, C 37 1 = nI nx ∧ nx < 14 ∧ C 37 2 = nI sz ∧ sz ≤ 14 ∧ D 0 9 = nI sz ∧ ∀ j, j < sz → ∃ B, RepC (sB C (41 + 17 * ((nx + 14 - sz + j) % 14))) B ∧ RepR (fun q => D 5 (250 * j + q)) B ∧ okA B
def PI (C D : mM) : Prop := (∃ A, PNow C D A) ∧ PTxt C D ∧ PSlot C D ∧ PHist C D
section PAIRI
variable {C C' D D' : mM} {A : aA}
theorem RepC.move {a b : Nat} (h : RepC (sB C a) A) (he : ∀ i, i < 17 → C' (b + i) = C (a + i)) : RepC (sB C' b) A := h.cells he
theorem StatC.move {a : Nat} (h : StatC (sB C a)) (he : ∀ i, i < 17 → C' (a + i) = C (a + i)) : StatC (sB C' a) := h.cells he
theorem PTxt.fr (h : PTxt C D) (h1 : C' 1 = C 1) (h2 : C' 2 = C 2) (d2 : D' 0 2 = D 0 2) (d1 : D' 1 = D 1) : PTxt C' D' := by
  obtain ⟨n, ch, h⟩ := h
  refine ⟨n, ch, ?_⟩
  rw [h1, h2, d2, d1]
  exact h
theorem PSlot.fr (h : PSlot C D) (hC : ∀ a, 279 ≤ a → C' a = C a) (h6 : D' 6 = D 6) (h7 : D' 7 = D 7) : PSlot C' D' := by
  intro i hi
  obtain ⟨h1, t, h2, h3, h4⟩ := h i hi
  refine ⟨h1.move (fun a ha => hC _ (by omega)), t, by rw [hC 281 (by decide)]; exact h2, by rw [h7]; exact h3, fun z => ?_⟩
  obtain ⟨B, b1, b2, b3⟩ := h4 z
  exact ⟨B, b1.move (fun a ha => hC _ (by omega)), by rw [h6]; exact b2, b3⟩
theorem PHist.fr (h : PHist C D) (hC : ∀ a, 37 ≤ a → a < 279 → C' a = C a) (h5 : D' 5 = D 5) (h9 : D' 0 9 = D 0 9) : PHist C' D' := by
  obtain ⟨h0, nx, sz, h1, h2, h3, h4, h6, h7⟩ := h
  refine ⟨fun j hj => (h0 j hj).move (fun a ha => hC _ (by omega) (by omega)), nx, sz, by rw [hC 37 (by decide) (by decide)]; exact h1, h2, by rw [hC 37 (by decide) (by decide)]; exact h3, h4, by rw [h9]; exact h6, fun j hj => ?_⟩
  obtain ⟨B, b1, b2, b3⟩ := h7 j hj
  exact ⟨B, b1.move (fun a ha => hC _ (by omega) (by omega)), by rw [h5]; exact b2, b3⟩
theorem PNow.fr (h : PNow C D A) (hC : ∀ a, 3 ≤ a → a < 37 → C' a = C a) (h3 : D' 3 = D 3) (h12 : D' 0 12 = D 0 12) : PNow C' D' A := by
  obtain ⟨⟨b, h1⟩, h2, h4, h5, h6, h7⟩ := h
  exact ⟨⟨b, by rw [hC 3 (by decide) (by decide)]; exact h1⟩, h2.move (fun i hi => hC _ (by omega) (by omega)), by rw [h3]; exact h4, h5, by rw [h12]; exact h6, h7.move (fun i hi => hC _ (by omega) (by omega))⟩
/-- nothing but what was thrown -/
theorem PI.fr (h : PI C D) (h1 : ∀ a, a ≠ 0 → D' a = D a) (h2 : ∀ j, j ≠ 0 → j ≠ 13 → D' 0 j = D 0 j) : PI C D' := by
  obtain ⟨⟨A, a1⟩, a2, a3, a4⟩ := h
  exact ⟨⟨A, a1.fr (fun _ _ _ => rfl) (h1 3 (by decide)) (h2 12 (by decide) (by decide))⟩, a2.fr rfl rfl (h2 2 (by decide) (by decide)) (h1 1 (by decide)), a3.fr (fun _ _ => rfl) (h1 6 (by decide)) (h1 7 (by decide)), a4.fr (fun _ _ _ => rfl) (h1 5 (by decide)) (h2 9 (by decide) (by decide))⟩
theorem PI.th (h : PI C D) (x : Int32) : PI C (sto D 0 0 x) := h.fr (fun a ha => sto_k ha) (fun j hj _ => sto_j hj)
/-- the tried road anew, of both -/
theorem PI.trial (h : PI C D) (hC : ∀ a, a < 20 ∨ 37 ≤ a → C' a = C a) (hS : StatC (sB C' 20)) (h1 : ∀ a, a ≠ 0 → a ≠ 4 → D' a = D a) (h2 : ∀ j, j ≠ 0 → j ≠ 12 → j ≠ 13 → D' 0 j = D 0 j) (h12 : D' 0 12 = -9) : PI C' D' := by
  obtain ⟨⟨A, ⟨b, c1⟩, c2, c3, c4, c5, c6⟩, a2, a3, a4⟩ := h
  refine ⟨⟨A, ⟨b, by rw [hC 3 (by decide)]; exact c1⟩, c2.move (fun i hi => hC _ (by omega)), by rw [h1 3 (by decide) (by decide)]; exact c3, c4, h12, hS⟩, a2.fr (hC 1 (by decide)) (hC 2 (by decide)) (h2 2 (by decide) (by decide) (by decide)) (h1 1 (by decide) (by decide)), a3.fr (fun a ha => hC a (by omega)) (h1 6 (by decide) (by decide)) (h1 7 (by decide) (by decide)), a4.fr (fun a ha hb => hC a (by omega)) (h1 5 (by decide) (by decide)) (h2 9 (by decide) (by decide) (by decide))⟩
theorem copyAt_n {b1 nm i : Nat} (h : i < nm) (hn : nm < 2 ^ 20) : pX3_copyAt b1 nm (nI i) C = some (some (b1 + 3 + 17 * i)) := by
  unfold pX3_copyAt
  rw [n_lt0 (by omega), if_neg (fun z => z), n_le (by omega) (by omega), if_neg (by omega), gd_p (inB_n h (by omega)), nI_clamp (by omega)]
/-- a State kept on a shelf -/
theorem c_keep {b1 nm i : Nat} (h : i < nm) (hn : nm < 2 ^ 8) (hb : 20 ≤ b1 + 3) (hs : StatC (sB C (b1 + 3 + 17 * i))) (hr : RepC (sB C 3) A) : ∃ C1, pX3_keep b1 nm (nI i) C = some (sto C1 (b1 + 2) i (nI 1)) ∧ RepC (sB C1 (b1 + 3 + 17 * i)) A ∧ ∀ a, a < b1 + 3 + 17 * i ∨ b1 + 3 + 17 * i + 17 ≤ a → C1 a = C a := by
  obtain ⟨C1, e1, r1, o1⟩ := cp_state (S := C) (b1 := b1 + 3 + 17 * i) (b2 := 3) hs hr (Or.inr (by omega))
  refine ⟨C1, ?_, r1.1, o1⟩
  unfold pX3_keep
  rw [copyAt_n h (by omega), bo_s, n_lt0 (by omega), if_neg (fun z => z), n_le (by omega) (by omega), if_neg (by omega), e1, cr1_s, st_n h (by omega)]
  rfl
/-- a State of a shelf is the one that counts again -/
theorem c_giveBack {b1 nm i : Nat} (h : i < nm) (hn : nm < 2 ^ 8) (hb : 20 ≤ b1 + 3) (hs : StatC (sB C 3)) (hr : RepC (sB C (b1 + 3 + 17 * i)) A) : ∃ C1, pX3_giveBack b1 nm (nI i) C = some C1 ∧ CR (sB C1 3) A (-9) (-9) true ∧ ∀ a, a < 3 ∨ 20 ≤ a → C1 a = C a := by
  obtain ⟨C1, e1, r1, o1⟩ := cp_state (S := C) (b1 := 3) (b2 := b1 + 3 + 17 * i) hs hr (Or.inl (by omega))
  refine ⟨C1, ?_, r1, o1⟩
  unfold pX3_giveBack
  rw [copyAt_n h (by omega), bo_s, e1, cr1_s]
/-- the diary takes a road -/
theorem m_push {s : Nat} (hs : s < 14) (h : D 0 9 = nI s) : ∃ D', pX7_remember_b37 D = some D' ∧ D' 0 9 = nI (s + 1) ∧ (∀ a, a ≠ 0 → a ≠ 5 → D' a = D a) ∧ (∀ j, j ≠ 9 → D' 0 j = D 0 j) ∧ ∀ q, D' 5 q = if 250 * s ≤ q ∧ q < 250 * s + 250 then D 3 (q - 250 * s) else D 5 q := by
  obtain ⟨D1, e1, e2, e3⟩ := m_copy (b1 := 3) (n1 := 250) (b2 := 5) (n2 := 3500) (a := 0) (c := 250 * s) (m := 250) (by decide) (by omega) (by decide) (by decide) (Or.inl (by decide)) D
  unfold pX7_remember_b37
  rw [gf_e, h, pk_mul, e1, cr1_s, gf_e, e2 0 (by decide), h, pf_e, nI_add]
  refine ⟨_, rfl, sto_i _ _ _ _, fun a h0 h5 => by rw [sto_k h0]; exact e2 a h5, fun j hj => by rw [sto_j hj, e2 0 (by decide)], fun q => ?_⟩
  rw [sto_k (by decide), e3, Nat.zero_add]
theorem remem (h : PI C D) : ∃ C' D', pX0_remember C = some C' ∧ pX7_remember D = some D' ∧ PI C' D' ∧ (∀ a, a < 37 ∨ 279 ≤ a → C' a = C a) ∧ (∀ a, a ≠ 0 → a ≠ 5 → D' a = D a) ∧ (∀ j, j ≠ 9 → D' 0 j = D 0 j) := by
  obtain ⟨⟨A, hA⟩, hT, hS, hH⟩ := id h
  obtain ⟨h0, nx, sz, h1, h2, h3, h4, h6, h7⟩ := id hH
  obtain ⟨C1, e1, r1, o1⟩ := c_keep (b1 := 38) (nm := 14) (i := nx) h2 (by decide) (by decide) (h0 nx h2) hA.2.1
  have k37 : C1 37 = C 37 := o1 37 (by omega)
  obtain ⟨sz', hsz, hsz2⟩ : ∃ sz', sz' = min (sz + 1) 14 ∧ (if nI 14 < nI sz + nI 1 then nI 14 else nI sz + nI 1) = nI sz' := by
    refine ⟨_, rfl, ?_⟩
    rw [nI_add, n_lt (by decide) (by omega)]
    by_cases q : 14 < sz + 1
    · rw [if_pos q, Nat.min_eq_right (by omega)]
    · rw [if_neg q, Nat.min_eq_left (by omega)]
  have eC : pX0_remember C = some (sto (sto (sto C1 40 nx (nI 1)) 37 1 (nI ((nx + 1) % 14))) 37 2 (nI sz')) := by
    unfold pX0_remember
    rw [gf_e, h1, e1, cr1_s, gf_e, sto_k (by decide), k37, h1, pf_e, gf_e, sto_j (by decide), sto_k (by decide), k37, h3, vl_e, pf_e, hsz2, nI_add, pk_rem (by omega) (by decide) (by decide)]
  have oC : ∀ a, a ≠ 37 → a ≠ 40 → (a < 41 + 17 * nx ∨ 41 + 17 * nx + 17 ≤ a) → sto (sto (sto C1 40 nx (nI 1)) 37 1 (nI ((nx + 1) % 14))) 37 2 (nI sz') a = C a := fun a a1 a2 a3 => by
    rw [sto_k a1, sto_k a1, sto_k a2, o1 a a3]
  have nC : ∀ i, i < 17 → sto (sto (sto C1 40 nx (nI 1)) 37 1 (nI ((nx + 1) % 14))) 37 2 (nI sz') (41 + 17 * nx + i) = C1 (41 + 17 * nx + i) := fun i hi => by
    rw [sto_k (by omega), sto_k (by omega), sto_k (by omega)]
  have c1' : sto (sto (sto C1 40 nx (nI 1)) 37 1 (nI ((nx + 1) % 14))) 37 2 (nI sz') 37 1 = nI ((nx + 1) % 14) := by rw [sto_j (by decide), sto_i]
  have c2' : sto (sto (sto C1 40 nx (nI 1)) 37 1 (nI ((nx + 1) % 14))) 37 2 (nI sz') 37 2 = nI sz' := sto_i _ _ _ _
  generalize sto (sto (sto C1 40 nx (nI 1)) 37 1 (nI ((nx + 1) % 14))) 37 2 (nI sz') = C' at eC oC nC c1' c2'
  have rN : RepC (sB C' (41 + 17 * nx)) A := r1.move nC
  -- the diary
  obtain ⟨D', eD, d9, dO, d0, dN, dE⟩ : ∃ D', pX7_remember D = some D' ∧ D' 0 9 = nI sz' ∧ (∀ a, a ≠ 0 → a ≠ 5 → D' a = D a) ∧ (∀ j, j ≠ 9 → D' 0 j = D 0 j) ∧ (∀ q, q < 250 → D' 5 (250 * (sz' - 1) + q) = D 3 q) ∧ (∀ j q, j < sz' - 1 → q < 250 → D' 5 (250 * j + q) = D 5 (250 * (j + (sz + 1 - sz')) + q)) := by
    unfold pX7_remember
    rw [gf_e, h6, n_eq (by omega) (by decide)]
    by_cases q : sz = 14
    · obtain rfl : sz' = 14 := by omega
      obtain ⟨D1, f1, f2, f3⟩ := m_copy (b1 := 5) (n1 := 3500) (b2 := 5) (n2 := 3500) (a := 250) (c := 0) (m := 3250) (by decide) (by decide) (by decide) (by decide) (Or.inr (by decide)) D
      obtain ⟨D2, g1, g2, g3, g4, g5⟩ := m_push (s := 13) (D := sto D1 0 9 (nI 13)) (by decide) (sto_i _ _ _ _)
      rw [if_pos q, f1, cr1_s, gf_e, f2 0 (by decide), h6, pf_e, q, pk_sub (by decide)]
      refine ⟨D2, g1, g2, fun a a0 a5 => by rw [g3 a a0 a5, sto_k a0, f2 a a5], fun j hj => by rw [g4 j hj, sto_j hj, f2 0 (by decide)], fun r hr => ?_, fun j r hj hr => ?_⟩
      · rw [g5, if_pos (by omega), sto_k (by decide), f2 3 (by decide), show 250 * (14 - 1) + r - 250 * 13 = r by omega]
      · rw [g5, if_neg (by omega), sto_k (by decide), f3, if_pos (by omega), show 250 + (250 * j + r - 0) = 250 * (j + (14 + 1 - 14)) + r by omega]
    · obtain rfl : sz' = sz + 1 := by omega
      obtain ⟨D2, g1, g2, g3, g4, g5⟩ := m_push (s := sz) (D := D) (by omega) h6
      rw [if_neg q, g1]
      refine ⟨D2, rfl, g2, g3, g4, fun r hr => ?_, fun j r hj hr => ?_⟩
      · rw [g5, if_pos (by omega), show 250 * (sz + 1 - 1) + r - 250 * sz = r by omega]
      · rw [g5, if_neg (by omega), show sz + 1 - (sz + 1) = 0 by omega, Nat.add_zero]
  refine ⟨C', D', eC, eD, ⟨⟨A, hA.fr (fun a a1 a2 => oC a (by omega) (by omega) (by omega)) (dO 3 (by decide) (by decide)) (d0 12 (by decide))⟩, hT.fr (oC 1 (by decide) (by decide) (by omega)) (oC 2 (by decide) (by decide) (by omega)) (d0 2 (by decide)) (dO 1 (by decide) (by decide)), hS.fr (fun a ha => oC a (by omega) (by omega) (by omega)) (dO 6 (by decide) (by decide)) (dO 7 (by decide) (by decide)), ?_⟩, fun a ha => oC a (by omega) (by omega) (by omega), dO, d0⟩
  refine ⟨fun j hj => ?_, (nx + 1) % 14, sz', c1', Nat.mod_lt _ (by decide), c2', by omega, d9, fun j hj => ?_⟩
  · by_cases q : j = nx
    · rw [q]
      exact rN.stat
    · exact (h0 j hj).move (fun a ha => oC _ (by omega) (by omega) (by omega))
  · by_cases q : j = sz' - 1
    · have ep : ((nx + 1) % 14 + 14 - sz' + j) % 14 = nx := by omega
      rw [ep]
      refine ⟨A, rN, hA.2.2.1.ext (fun r hr => ?_), hA.2.2.2.1⟩
      rw [q]
      exact dN r hr
    · obtain ⟨B, b1, b2, b3⟩ := h7 (j + (sz + 1 - sz')) (by omega)
      have ep : ((nx + 1) % 14 + 14 - sz' + j) % 14 = (nx + 14 - sz + (j + (sz + 1 - sz'))) % 14 := by omega
      have en : (nx + 14 - sz + (j + (sz + 1 - sz'))) % 14 ≠ nx := by omega
      rw [ep]
      generalize (nx + 14 - sz + (j + (sz + 1 - sz'))) % 14 = pl at b1 en
      refine ⟨B, b1.move (fun a ha => oC _ (by omega) (by omega) (by omega)), b2.ext (fun r hr => ?_), b3⟩
      exact dE j r (by omega) hr
end PAIRI
