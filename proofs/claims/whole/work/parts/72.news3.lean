/-! ===== a new vehicle, of the reference; new things keep what holds of every road ===== -/
section NEW5
variable {S : mM} {A : aA}
theorem m_addCar (h : RepR (S 0) A) (hlt : aN A 4 < 16) {c : Nat} (hc : c < aN A 3) (h8 : (aL A 0 c).length < 8) (a1 a2 a3 a4 : Int32) : ∃ S', pX7_addCarTo (nI c) a1 a2 a3 a4 S = some S' ∧ RepR (S' 0) (newV A c a1 a2 a3 a4) ∧ Oth 0 S S' := by
  unfold pX7_addCarTo
  have hn : S 0 6 = nI (aN A 4) := (h.2.1 4 (by decide)).1
  have hc4 : c < 4 := R_lt h (k := 3) (by decide) hc
  rw [ld_n (j := 6) (by decide) (by decide), hn, carAt_n, cr1_s, st_n (by omega) (by decide), carAt_n, cr1_s, st_n (by omega) (by decide), carAt_n, cr1_s, st_n (by omega) (by decide), carAt_n, cr1_s, st_n (by omega) (by decide), carAt_n, cr1_s, st_n (by omega) (by decide), carAt_n, cr1_s, st_n (by omega) (by decide), carAt_n, cr1_s, st_n (by omega) (by decide)]
  have o7 : Oth 0 S (sto (sto (sto (sto (sto (sto (sto S 0 (138 + 7 * aN A 4 + 0) a1) 0 (138 + 7 * aN A 4 + 1) a2) 0 (138 + 7 * aN A 4 + 2) a3) 0 (138 + 7 * aN A 4 + 3) a4) 0 (138 + 7 * aN A 4 + 4) (nI 0)) 0 (138 + 7 * aN A 4 + 5) (nI c)) 0 (138 + 7 * aN A 4 + 6) (nI 0)) := Oth.rf.sto.sto.sto.sto.sto.sto.sto
  have e7 : ∀ q, (∀ j, j < 7 → q ≠ 138 + 7 * aN A 4 + j) → (sto (sto (sto (sto (sto (sto (sto S 0 (138 + 7 * aN A 4 + 0) a1) 0 (138 + 7 * aN A 4 + 1) a2) 0 (138 + 7 * aN A 4 + 2) a3) 0 (138 + 7 * aN A 4 + 3) a4) 0 (138 + 7 * aN A 4 + 4) (nI 0)) 0 (138 + 7 * aN A 4 + 5) (nI c)) 0 (138 + 7 * aN A 4 + 6) (nI 0)) 0 q = S 0 q := fun q hq => by
    rw [sto_j (hq 6 (by decide)), sto_j (hq 5 (by decide)), sto_j (hq 4 (by decide)), sto_j (hq 3 (by decide)), sto_j (hq 2 (by decide)), sto_j (hq 1 (by decide)), sto_j (hq 0 (by decide))]
  have v7 : ∀ j, j < 7 → (sto (sto (sto (sto (sto (sto (sto S 0 (138 + 7 * aN A 4 + 0) a1) 0 (138 + 7 * aN A 4 + 1) a2) 0 (138 + 7 * aN A 4 + 2) a3) 0 (138 + 7 * aN A 4 + 3) a4) 0 (138 + 7 * aN A 4 + 4) (nI 0)) 0 (138 + 7 * aN A 4 + 5) (nI c)) 0 (138 + 7 * aN A 4 + 6) (nI 0)) 0 (138 + 7 * aN A 4 + j) = nv [a1, a2, a3, a4, nI 0, nI c, nI 0] j := fun j hj => by
    rcases j with _ | _ | _ | _ | _ | _ | _ | j
    · rw [sto_j (by omega), sto_j (by omega), sto_j (by omega), sto_j (by omega), sto_j (by omega), sto_j (by omega), sto_i]
      rfl
    · rw [sto_j (by omega), sto_j (by omega), sto_j (by omega), sto_j (by omega), sto_j (by omega), sto_i]
      rfl
    · rw [sto_j (by omega), sto_j (by omega), sto_j (by omega), sto_j (by omega), sto_i]
      rfl
    · rw [sto_j (by omega), sto_j (by omega), sto_j (by omega), sto_i]
      rfl
    · rw [sto_j (by omega), sto_j (by omega), sto_i]
      rfl
    · rw [sto_j (by omega), sto_i]
      rfl
    · rw [sto_i]
      rfl
    · omega
  generalize sto (sto (sto (sto (sto (sto (sto S 0 (138 + 7 * aN A 4 + 0) a1) 0 (138 + 7 * aN A 4 + 1) a2) 0 (138 + 7 * aN A 4 + 2) a3) 0 (138 + 7 * aN A 4 + 3) a4) 0 (138 + 7 * aN A 4 + 4) (nI 0)) 0 (138 + 7 * aN A 4 + 5) (nI c)) 0 (138 + 7 * aN A 4 + 6) (nI 0) = T at o7 e7 v7 ⊢
  have r7 : RepR (T 0) A := h.free (k := 4) (by decide) hlt (fun q _ hq => e7 q hq)
  have n7 : T 0 6 = nI (aN A 4) := by
    rw [e7 6 (fun j hj => by omega)]
    exact hn
  have s7 : T 0 (86 + 13 * c + 1) = nI (aL A 0 c).length := (r7.2.2.2.1 0 c (by decide) hc).2.1
  have rn : RepR (upd (T 0) 6 (nI (aN A 4 + 1))) (newT A 4 (nv [a1, a2, a3, a4, nI 0, nI c, nI 0])) := by
    refine h.new (k := 4) (by decide) hlt (upd_s _ _ _) (fun j hj => ?_) (fun b hb e => ?_) (fun q hq h2 h3 _ => ?_) (fun _ => rfl)
    · have hj7 : j < 7 := hj
      show upd (T 0) 6 _ (138 + 7 * aN A 4 + j) = _
      rw [upd_n (by omega)]
      exact v7 j hj7
    · rcases k2 hb with rfl | rfl <;> exact absurd e (by decide)
    · rw [upd_n h2]
      exact e7 q h3
  have rp := rn.push (k := 0) (i := c) (aN A 4) (by decide) hc h8
  rw [m_sizeOf r7 hc, cr1_s, nI_add, convoyAt_n, cr1_s, st_n (by omega) (by decide), convoyAt_n, cr1_s, ld_n (by omega) (by decide), st_n (by omega) (by decide), ld_n (j := 6) (by decide) (by decide), st_n (j := 6) (by decide) (by decide), sto_j (S := T) (by omega), s7, sto_j (j := 6) (by omega), sto_j (j := 6) (S := T) (by omega), n7, nI_add (aN A 4) 1]
  refine ⟨_, rfl, ?_, Oth.tr o7 Oth.rf.sto.sto.sto⟩
  rw [sto_u, sto_u, sto_u, upd_c (a := 86 + 13 * c + 1) (b := 6) (by omega), upd_c (a := 86 + 13 * c + (5 + (aL A 0 c).length)) (b := 6) (by omega)]
  exact rp
theorem Inv.new {k : Nat} {v : Nat → Int32} (iv : Inv A) (hlt : aN A k < aMx k) (hd : k < 3 → ∀ i, i < aN A k → aT A k i 0 ≠ v 0)
    (hg : k = 0 → ∃ p q, v 1 = nI p ∧ 2 ≤ p ∧ p ≤ 24 ∧ v 2 = nI q ∧ q < p) (hb : k = 1 → (∃ p, v 1 = nI p ∧ 1 ≤ p ∧ p ≤ 6) ∧ v 0 ≠ aS A 0) (hp : k = 2 → ∃ q, v 1 = nI q ∧ q < 2 ^ 20)
    (hv : k = 4 → ∃ s u t q, v 0 = nI s ∧ 1 ≤ s ∧ s ≤ 9 ∧ v 1 = nI u ∧ 1 ≤ u ∧ u ≤ 4 ∧ v 2 = nI t ∧ t ≤ 99 ∧ v 3 = nI q ∧ q ≤ t) : Inv (newT A k v) := by
  have hN : ∀ a i, i < aN (newT A k v) a → (a = k ∧ i = aN A k) ∨ i < aN A a := by
    intro a i hi
    rw [newT_N] at hi
    by_cases q : a = k
    · subst q
      rw [if_pos rfl] at hi
      by_cases z : i = aN A a
      · exact Or.inl ⟨rfl, z⟩
      · exact Or.inr (by omega)
    · rw [if_neg q] at hi
      exact Or.inr hi
  have hT : ∀ a i j, i < aN A a → aT (newT A k v) a i j = aT A a i j := by
    intro a i j hi
    rw [newT_T, if_neg]
    rintro ⟨rfl, rfl⟩
    exact Nat.lt_irrefl _ hi
  have hV : ∀ j, aT (newT A k v) k (aN A k) j = v j := fun j => by rw [newT_T, if_pos ⟨rfl, rfl⟩]
  have hle : ∀ a, aN A a ≤ aN (newT A k v) a := fun a => by
    rw [newT_N]
    by_cases q : a = k
    · subst q
      rw [if_pos rfl]
      exact Nat.le_succ _
    · rw [if_neg q]
      exact Nat.le_refl _
  refine ⟨fun a ha => ?_, fun a ha i j hi hj e => ?_, fun i hi => ?_, fun i hi => ?_, fun i hi => ?_, fun i hi => ?_, fun c hc => ?_, fun b hb' => ?_, fun c hc => ?_, fun b hb' => ?_⟩
  · rw [newT_N]
    by_cases q : a = k
    · subst q
      rw [if_pos rfl]
      exact hlt
    · rw [if_neg q]
      exact iv.cnt a ha
  · rcases hN a i hi with ⟨q1, q2⟩ | hi'
    · rcases hN a j hj with ⟨q3, q4⟩ | hj'
      · rw [q2, q4]
      · exfalso
        subst q1
        subst q2
        rw [hV, hT _ _ _ hj'] at e
        exact hd ha j hj' e.symm
    · rcases hN a j hj with ⟨q3, q4⟩ | hj'
      · exfalso
        subst q3
        subst q4
        rw [hT _ _ _ hi', hV] at e
        exact hd ha i hi' e
      · rw [hT _ _ _ hi', hT _ _ _ hj'] at e
        exact iv.dist a ha i j hi' hj' e
  · rcases hN 0 i hi with ⟨q1, q2⟩ | hi'
    · subst q1
      subst q2
      rw [hV, hV]
      exact hg rfl
    · rw [hT _ _ _ hi', hT _ _ _ hi']
      exact iv.gate i hi'
  · rcases hN 1 i hi with ⟨q1, q2⟩ | hi'
    · subst q1
      subst q2
      rw [hV, hV]
      exact hb rfl
    · rw [hT _ _ _ hi', hT _ _ _ hi']
      exact iv.bay i hi'
  · rcases hN 2 i hi with ⟨q1, q2⟩ | hi'
    · subst q1
      subst q2
      rw [hV]
      exact hp rfl
    · rw [hT _ _ _ hi']
      exact iv.depot i hi'
  · rcases hN 4 i hi with ⟨q1, q2⟩ | hi'
    · subst q1
      subst q2
      rw [hV, hV, hV, hV]
      exact hv rfl
    · rw [hT _ _ _ hi', hT _ _ _ hi', hT _ _ _ hi', hT _ _ _ hi']
      exact iv.veh i hi'
  · show (aL A 0 c).length ≤ 8 ∧ (aL A 0 c).Nodup ∧ ∀ u, u ∈ aL A 0 c → _
    rcases hN 3 c hc with ⟨q1, q2⟩ | hc'
    · have e : aL A 0 c = [] := iv.none0 c (by rw [q2, ← q1]; exact Nat.le_refl _)
      rw [e]
      exact ⟨by decide, List.nodup_nil, fun u hu => absurd hu List.not_mem_nil⟩
    · obtain ⟨g1, g2, g3⟩ := iv.line0 c hc'
      refine ⟨g1, g2, fun u hu => ?_⟩
      obtain ⟨b1, b2, b3⟩ := g3 u hu
      exact ⟨Nat.lt_of_lt_of_le b1 (hle 4), (hT _ _ _ b1).trans b2, (hT _ _ _ b1).trans b3⟩
  · show (aL A 1 b).length ≤ 6 ∧ (aL A 1 b).Nodup ∧ ∀ u, u ∈ aL A 1 b → _
    rcases hN 1 b hb' with ⟨q1, q2⟩ | hc'
    · have e : aL A 1 b = [] := iv.none1 b (by rw [q2, ← q1]; exact Nat.le_refl _)
      rw [e]
      exact ⟨by decide, List.nodup_nil, fun u hu => absurd hu List.not_mem_nil⟩
    · obtain ⟨g1, g2, g3⟩ := iv.line1 b hc'
      refine ⟨g1, g2, fun u hu => ?_⟩
      obtain ⟨b1, b2, b3⟩ := g3 u hu
      exact ⟨Nat.lt_of_lt_of_le b1 (hle 4), (hT _ _ _ b1).trans b2, (hT _ _ _ b1).trans b3⟩
  · exact iv.none0 c (Nat.le_trans (hle 3) hc)
  · exact iv.none1 b (Nat.le_trans (hle 1) hb')
theorem Inv.okCar {c s u t q : Nat} (iv : Inv A) (hlt : aN A 4 < 16) (hc : c < aN A 3) (h8 : (aL A 0 c).length < 8) (hs : 1 ≤ s ∧ s ≤ 9) (hu : 1 ≤ u ∧ u ≤ 4) (ht : t ≤ 99) (hq : q ≤ t) : Inv (newV A c (nI s) (nI u) (nI t) (nI q)) := by
  have i1 : Inv (newT A 4 (nv [nI s, nI u, nI t, nI q, nI 0, nI c, nI 0])) := iv.new hlt (fun z => absurd z (by decide)) (fun z => absurd z (by decide)) (fun z => absurd z (by decide)) (fun z => absurd z (by decide)) (fun _ => ⟨s, u, t, q, rfl, hs.1, hs.2, rfl, hu.1, hu.2, rfl, ht, rfl, hq⟩)
  have nl : ∀ c', c' < aN A 3 → aN A 4 ∉ aL A 0 c' := fun c' hc' hm => Nat.lt_irrefl _ ((iv.line0 c' hc').2.2 _ hm).1
  refine i1.lines (B := newV A c (nI s) (nI u) (nI t) (nI q)) ⟨rfl, rfl⟩ (fun _ _ _ _ => rfl) (fun c' hc' => ?_) (fun b hb => i1.line1 b hb) (fun c' hc' => ?_) (fun b hb => i1.none1 b hb)
  · obtain ⟨g1, g2, g3⟩ := i1.line0 c' hc'
    by_cases z : c' = c
    · subst z
      have e : aL (newV A c' (nI s) (nI u) (nI t) (nI q)) 0 c' = aL A 0 c' ++ [aN A 4] := aL_eq _ _ _ _
      rw [e]
      refine ⟨by rw [List.length_append, List.length_singleton]; omega, ?_, fun v hv => ?_⟩
      · rw [List.nodup_append]
        refine ⟨g2, List.nodup_cons.mpr ⟨List.not_mem_nil, List.nodup_nil⟩, fun a ha d hd y => ?_⟩
        rw [List.mem_singleton] at hd
        exact nl c' hc (by rw [← hd, ← y]; exact ha)
      · rw [List.mem_append, List.mem_singleton] at hv
        rcases hv with hv | rfl
        · exact g3 v hv
        · refine ⟨Nat.lt_succ_self _, ?_, ?_⟩
          · show aT (newT A 4 _) 4 (aN A 4) 4 = _
            rw [newT_T, if_pos ⟨rfl, rfl⟩]
            rfl
          · show aT (newT A 4 _) 4 (aN A 4) 5 = _
            rw [newT_T, if_pos ⟨rfl, rfl⟩]
            rfl
    · have e : aL (newV A c (nI s) (nI u) (nI t) (nI q)) 0 c' = aL A 0 c' := aL_ne (Or.inr z)
      rw [e]
      exact ⟨g1, g2, g3⟩
  · have e : aL (newV A c (nI s) (nI u) (nI t) (nI q)) 0 c' = aL A 0 c' := aL_ne (Or.inr (by
      intro z
      subst z
      exact absurd hc (Nat.not_lt.mpr hc')))
    rw [e]
    exact i1.none0 c' hc'
end NEW5
