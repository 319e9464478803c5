/-! ===== a State copied ===== -/
/-- what never changes of a State's cells -/
def StatC (S : mM) : Prop := (∀ k, k < 5 → S (1 + 2 * k) 0 = nI (aMx k) ∧ S (1 + 2 * k) 1 = nI (aCo k)) ∧ S 11 0 = nI 8 ∧ S 14 0 = nI 6
theorem RepC.stat {S : mM} {A : aA} (h : RepC S A) : StatC S := ⟨fun k hk => ⟨(h.2.1 k hk).1, (h.2.1 k hk).2.1⟩, h.i.1, h.q.1⟩
section COPY2
variable {S : mM} {A : aA}
theorem tab_of {T T' : mM} {mx co cnt : Nat} {f : Nat → Nat → Int32} (h : TabRep T mx co cnt f) (h0 : T' 0 0 = nI mx) (h1 : T' 0 1 = nI co) (h3 : T' 0 3 = T 0 3) (hc : ∀ i, i < mx * co → T' 1 i = T 1 i) : TabRep T' mx co cnt f := by
  obtain ⟨e0, e1, e3, hm, hf⟩ := h
  exact ⟨h0, h1, h3.trans e3, hm, fun i j hi hj => by rw [hc _ (cell_lt (by omega) hj)]; exact hf i j hi hj⟩
theorem lin_of {T T' : mM} {L mo : Nat} {l : Nat → List Nat} (h : LinRep T L mo l) (h0 : T' 0 0 = nI mo) (h1 : ∀ i, i < L → T' 1 i = T 1 i) (h2 : ∀ i, i < L * mo → T' 2 i = T 2 i) : LinRep T' L mo l := by
  refine ⟨h0, fun c hc => ?_⟩
  obtain ⟨k1, k2, k3⟩ := h.2 c hc
  exact ⟨k1, by rw [h1 c hc]; exact k2, fun i hi => by rw [h2 _ (cell_lt hc (by omega))]; exact k3 i hi⟩
theorem cp_state {b1 b2 : Nat} (hs : StatC (sB S b1)) (h : RepC (sB S b2) A) (hd : b1 + 17 ≤ b2 ∨ b2 + 17 ≤ b1) : ∃ S', pX4_copyFrom b1 b2 S = some S' ∧ CR (sB S' b1) A (-9) (-9) true ∧ ∀ a, a < b1 ∨ b1 + 17 ≤ a → S' a = S a := by
  unfold pX4_copyFrom
  rw [gf_e, pf_e, gf_e, pf_e, sto_o (show b2 ≠ b1 by omega)]
  have o0 : ∀ a, a ≠ b1 → sto (sto S b1 7 (S b2 7)) b1 8 (S b2 8) a = S a := fun a ha => by rw [sto_o ha, sto_o ha]
  have f7 : sto (sto S b1 7 (S b2 7)) b1 8 (S b2 8) b1 7 = S b2 7 := by rw [sto_j (by decide), sto_i]
  have f8 : sto (sto S b1 7 (S b2 7)) b1 8 (S b2 8) b1 8 = S b2 8 := sto_i _ _ _ _
  generalize sto (sto S b1 7 (S b2 7)) b1 8 (S b2 8) = S0 at o0 f7 f8 ⊢
  obtain ⟨S1, e1, h1, c1, o1⟩ := cp_tab (S := S0) (b1 := b1 + 1) (b2 := b2 + 1) (n := 16) (by decide) (by omega)
  rw [e1, cr1_s]
  obtain ⟨S2, e2, h2, c2, o2⟩ := cp_tab (S := S1) (b1 := b1 + 3) (b2 := b2 + 3) (n := 12) (by decide) (by omega)
  rw [e2, cr1_s]
  obtain ⟨S3, e3, h3, c3, o3⟩ := cp_tab (S := S2) (b1 := b1 + 5) (b2 := b2 + 5) (n := 8) (by decide) (by omega)
  rw [e3, cr1_s]
  obtain ⟨S4, e4, h4, c4, o4⟩ := cp_tab (S := S3) (b1 := b1 + 7) (b2 := b2 + 7) (n := 16) (by decide) (by omega)
  rw [e4, cr1_s]
  obtain ⟨S5, e5, h5, c5, o5⟩ := cp_tab (S := S4) (b1 := b1 + 9) (b2 := b2 + 9) (n := 112) (by decide) (by omega)
  rw [e5, cr1_s]
  obtain ⟨S6, e6, c6, d6, o6⟩ := cp_lin (S := S5) (b1 := b1 + 11) (b2 := b2 + 11) (n1 := 4) (n2 := 32) (by decide) (by decide) (by omega)
  rw [e6, cr1_s]
  obtain ⟨S7, e7, c7, d7, o7⟩ := cp_lin (S := S6) (b1 := b1 + 14) (b2 := b2 + 14) (n1 := 6) (n2 := 36) (by decide) (by decide) (by omega)
  rw [e7, cr1_s, pz_1, pf_e, pf_e]
  have o8 : ∀ a, a ≠ b1 → sto (sto (sto S7 b1 9 (nI 1)) b1 10 (-9)) b1 11 (-9) a = S7 a := fun a ha => by rw [sto_o ha, sto_o ha, sto_o ha]
  have f9 : sto (sto (sto S7 b1 9 (nI 1)) b1 10 (-9)) b1 11 (-9) b1 9 = nI 1 := by rw [sto_j (by decide), sto_j (by decide), sto_i]
  have f10 : sto (sto (sto S7 b1 9 (nI 1)) b1 10 (-9)) b1 11 (-9) b1 10 = -9 := by rw [sto_j (by decide), sto_i]
  have f11 : sto (sto (sto S7 b1 9 (nI 1)) b1 10 (-9)) b1 11 (-9) b1 11 = -9 := sto_i _ _ _ _
  have g : ∀ j, j ≠ 9 → j ≠ 10 → j ≠ 11 → sto (sto (sto S7 b1 9 (nI 1)) b1 10 (-9)) b1 11 (-9) b1 j = S7 b1 j := fun j h1 h2 h3 => by rw [sto_j h3, sto_j h2, sto_j h1]
  generalize sto (sto (sto S7 b1 9 (nI 1)) b1 10 (-9)) b1 11 (-9) = S8 at o8 f9 f10 f11 g ⊢
  -- what is no cell of the copy's State is as it was, and its own object's cell but for its fields
  have up : ∀ a, a < b1 ∨ b1 + 17 ≤ a → S8 a = S a := fun a ha => by
    rw [o8 a (by omega), o7 a (by omega) (by omega), o6 a (by omega) (by omega), o5 a (by omega) (by omega), o4 a (by omega) (by omega), o3 a (by omega) (by omega), o2 a (by omega) (by omega), o1 a (by omega) (by omega), o0 a (by omega)]
  have ob : S7 b1 = S0 b1 := by
    rw [o7 b1 (by omega) (by omega), o6 b1 (by omega) (by omega), o5 b1 (by omega) (by omega), o4 b1 (by omega) (by omega), o3 b1 (by omega) (by omega), o2 b1 (by omega) (by omega), o1 b1 (by omega) (by omega)]
  obtain ⟨⟨r1, r2⟩, r3, r4, r5⟩ := h
  refine ⟨S8, rfl, ⟨⟨⟨?_, ?_⟩, fun k hk => ?_, ?_, ?_⟩, f9, f10, f11⟩, up⟩
  · show S8 b1 7 = _
    rw [g 7 (by decide) (by decide) (by decide), ob, f7]
    exact r1
  · show S8 b1 8 = _
    rw [g 8 (by decide) (by decide) (by decide), ob, f8]
    exact r2
  · have hst := hs.1 k hk
    have hr := r3 k hk
    rcases k5 hk with rfl | rfl | rfl | rfl | rfl
    · have t0 : S8 (b1 + 1) = upd (S (b1 + 1)) 3 (S (b2 + 1) 3) := by
        rw [o8 _ (by omega), o7 _ (by omega) (by omega), o6 _ (by omega) (by omega), o5 _ (by omega) (by omega), o4 _ (by omega) (by omega), o3 _ (by omega) (by omega), o2 _ (by omega) (by omega), h1, show S0 (b1 + 1) = S (b1 + 1) by rw [o0 _ (by omega)], show S0 (b2 + 1) = S (b2 + 1) by rw [o0 _ (by omega)]]
      refine tab_of hr ?_ ?_ ?_ (fun i hi => ?_)
      · show S8 (b1 + 1) 0 = _
        rw [t0, upd_n (by decide)]
        exact hst.1
      · show S8 (b1 + 1) 1 = _
        rw [t0, upd_n (by decide)]
        exact hst.2
      · show S8 (b1 + 1) 3 = S (b2 + 1) 3
        rw [t0, upd_s]
      · show S8 (b1 + 1 + 1) i = S (b2 + 1 + 1) i
        rw [o8 _ (by omega), o7 _ (by omega) (by omega), o6 _ (by omega) (by omega), o5 _ (by omega) (by omega), o4 _ (by omega) (by omega), o3 _ (by omega) (by omega), o2 _ (by omega) (by omega), c1 i hi, show S0 (b2 + 1 + 1) = S (b2 + 1 + 1) by rw [o0 _ (by omega)]]
    · have t0 : S8 (b1 + 3) = upd (S (b1 + 3)) 3 (S (b2 + 3) 3) := by
        rw [o8 _ (by omega), o7 _ (by omega) (by omega), o6 _ (by omega) (by omega), o5 _ (by omega) (by omega), o4 _ (by omega) (by omega), o3 _ (by omega) (by omega), h2, show S1 (b1 + 3) = S (b1 + 3) by rw [o1 _ (by omega) (by omega), o0 _ (by omega)], show S1 (b2 + 3) = S (b2 + 3) by rw [o1 _ (by omega) (by omega), o0 _ (by omega)]]
      refine tab_of hr ?_ ?_ ?_ (fun i hi => ?_)
      · show S8 (b1 + 3) 0 = _
        rw [t0, upd_n (by decide)]
        exact hst.1
      · show S8 (b1 + 3) 1 = _
        rw [t0, upd_n (by decide)]
        exact hst.2
      · show S8 (b1 + 3) 3 = S (b2 + 3) 3
        rw [t0, upd_s]
      · show S8 (b1 + 3 + 1) i = S (b2 + 3 + 1) i
        rw [o8 _ (by omega), o7 _ (by omega) (by omega), o6 _ (by omega) (by omega), o5 _ (by omega) (by omega), o4 _ (by omega) (by omega), o3 _ (by omega) (by omega), c2 i hi, show S1 (b2 + 3 + 1) = S (b2 + 3 + 1) by rw [o1 _ (by omega) (by omega), o0 _ (by omega)]]
    · have t0 : S8 (b1 + 5) = upd (S (b1 + 5)) 3 (S (b2 + 5) 3) := by
        rw [o8 _ (by omega), o7 _ (by omega) (by omega), o6 _ (by omega) (by omega), o5 _ (by omega) (by omega), o4 _ (by omega) (by omega), h3, show S2 (b1 + 5) = S (b1 + 5) by rw [o2 _ (by omega) (by omega), o1 _ (by omega) (by omega), o0 _ (by omega)], show S2 (b2 + 5) = S (b2 + 5) by rw [o2 _ (by omega) (by omega), o1 _ (by omega) (by omega), o0 _ (by omega)]]
      refine tab_of hr ?_ ?_ ?_ (fun i hi => ?_)
      · show S8 (b1 + 5) 0 = _
        rw [t0, upd_n (by decide)]
        exact hst.1
      · show S8 (b1 + 5) 1 = _
        rw [t0, upd_n (by decide)]
        exact hst.2
      · show S8 (b1 + 5) 3 = S (b2 + 5) 3
        rw [t0, upd_s]
      · show S8 (b1 + 5 + 1) i = S (b2 + 5 + 1) i
        rw [o8 _ (by omega), o7 _ (by omega) (by omega), o6 _ (by omega) (by omega), o5 _ (by omega) (by omega), o4 _ (by omega) (by omega), c3 i hi, show S2 (b2 + 5 + 1) = S (b2 + 5 + 1) by rw [o2 _ (by omega) (by omega), o1 _ (by omega) (by omega), o0 _ (by omega)]]
    · have t0 : S8 (b1 + 7) = upd (S (b1 + 7)) 3 (S (b2 + 7) 3) := by
        rw [o8 _ (by omega), o7 _ (by omega) (by omega), o6 _ (by omega) (by omega), o5 _ (by omega) (by omega), h4, show S3 (b1 + 7) = S (b1 + 7) by rw [o3 _ (by omega) (by omega), o2 _ (by omega) (by omega), o1 _ (by omega) (by omega), o0 _ (by omega)], show S3 (b2 + 7) = S (b2 + 7) by rw [o3 _ (by omega) (by omega), o2 _ (by omega) (by omega), o1 _ (by omega) (by omega), o0 _ (by omega)]]
      refine tab_of hr ?_ ?_ ?_ (fun i hi => ?_)
      · show S8 (b1 + 7) 0 = _
        rw [t0, upd_n (by decide)]
        exact hst.1
      · show S8 (b1 + 7) 1 = _
        rw [t0, upd_n (by decide)]
        exact hst.2
      · show S8 (b1 + 7) 3 = S (b2 + 7) 3
        rw [t0, upd_s]
      · show S8 (b1 + 7 + 1) i = S (b2 + 7 + 1) i
        rw [o8 _ (by omega), o7 _ (by omega) (by omega), o6 _ (by omega) (by omega), o5 _ (by omega) (by omega), c4 i hi, show S3 (b2 + 7 + 1) = S (b2 + 7 + 1) by rw [o3 _ (by omega) (by omega), o2 _ (by omega) (by omega), o1 _ (by omega) (by omega), o0 _ (by omega)]]
    · have t0 : S8 (b1 + 9) = upd (S (b1 + 9)) 3 (S (b2 + 9) 3) := by
        rw [o8 _ (by omega), o7 _ (by omega) (by omega), o6 _ (by omega) (by omega), h5, show S4 (b1 + 9) = S (b1 + 9) by rw [o4 _ (by omega) (by omega), o3 _ (by omega) (by omega), o2 _ (by omega) (by omega), o1 _ (by omega) (by omega), o0 _ (by omega)], show S4 (b2 + 9) = S (b2 + 9) by rw [o4 _ (by omega) (by omega), o3 _ (by omega) (by omega), o2 _ (by omega) (by omega), o1 _ (by omega) (by omega), o0 _ (by omega)]]
      refine tab_of hr ?_ ?_ ?_ (fun i hi => ?_)
      · show S8 (b1 + 9) 0 = _
        rw [t0, upd_n (by decide)]
        exact hst.1
      · show S8 (b1 + 9) 1 = _
        rw [t0, upd_n (by decide)]
        exact hst.2
      · show S8 (b1 + 9) 3 = S (b2 + 9) 3
        rw [t0, upd_s]
      · show S8 (b1 + 9 + 1) i = S (b2 + 9 + 1) i
        rw [o8 _ (by omega), o7 _ (by omega) (by omega), o6 _ (by omega) (by omega), c5 i hi, show S4 (b2 + 9 + 1) = S (b2 + 9 + 1) by rw [o4 _ (by omega) (by omega), o3 _ (by omega) (by omega), o2 _ (by omega) (by omega), o1 _ (by omega) (by omega), o0 _ (by omega)]]
  · refine lin_of r4 ?_ (fun i hi => ?_) (fun i hi => ?_)
    · show S8 (b1 + 11) 0 = _
      rw [o8 _ (by omega), o7 _ (by omega) (by omega), o6 _ (by omega) (by omega), o5 _ (by omega) (by omega), o4 _ (by omega) (by omega), o3 _ (by omega) (by omega), o2 _ (by omega) (by omega), o1 _ (by omega) (by omega), o0 _ (by omega)]
      exact hs.2.1
    · show S8 (b1 + 11 + 1) i = S (b2 + 11 + 1) i
      rw [o8 _ (by omega), o7 _ (by omega) (by omega), c6 i hi, show S5 (b2 + 11 + 1) = S (b2 + 11 + 1) by rw [o5 _ (by omega) (by omega), o4 _ (by omega) (by omega), o3 _ (by omega) (by omega), o2 _ (by omega) (by omega), o1 _ (by omega) (by omega), o0 _ (by omega)]]
    · show S8 (b1 + 11 + 2) i = S (b2 + 11 + 2) i
      rw [o8 _ (by omega), o7 _ (by omega) (by omega), d6 i hi, show S5 (b2 + 11 + 2) = S (b2 + 11 + 2) by rw [o5 _ (by omega) (by omega), o4 _ (by omega) (by omega), o3 _ (by omega) (by omega), o2 _ (by omega) (by omega), o1 _ (by omega) (by omega), o0 _ (by omega)]]
  · refine lin_of r5 ?_ (fun i hi => ?_) (fun i hi => ?_)
    · show S8 (b1 + 14) 0 = _
      rw [o8 _ (by omega), o7 _ (by omega) (by omega), o6 _ (by omega) (by omega), o5 _ (by omega) (by omega), o4 _ (by omega) (by omega), o3 _ (by omega) (by omega), o2 _ (by omega) (by omega), o1 _ (by omega) (by omega), o0 _ (by omega)]
      exact hs.2.2
    · show S8 (b1 + 14 + 1) i = S (b2 + 14 + 1) i
      rw [o8 _ (by omega), c7 i hi, show S6 (b2 + 14 + 1) = S (b2 + 14 + 1) by rw [o6 _ (by omega) (by omega), o5 _ (by omega) (by omega), o4 _ (by omega) (by omega), o3 _ (by omega) (by omega), o2 _ (by omega) (by omega), o1 _ (by omega) (by omega), o0 _ (by omega)]]
    · show S8 (b1 + 14 + 2) i = S (b2 + 14 + 2) i
      rw [o8 _ (by omega), d7 i hi, show S6 (b2 + 14 + 2) = S (b2 + 14 + 2) by rw [o6 _ (by omega) (by omega), o5 _ (by omega) (by omega), o4 _ (by omega) (by omega), o3 _ (by omega) (by omega), o2 _ (by omega) (by omega), o1 _ (by omega) (by omega), o0 _ (by omega)]]
end COPY2
