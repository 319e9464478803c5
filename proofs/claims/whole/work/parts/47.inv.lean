/-! ===== what holds of every road holds behind each step ===== -/
theorem aT_ne {A : aA} {k i j a b c : Nat} {x : Int32} (h : a ≠ k ∨ b ≠ i ∨ c ≠ j) : aT (aPut A k i j x) a b c = aT A a b c := by
  rw [aT_put, if_neg]
  rintro ⟨h1, h2, h3⟩
  rcases h with q | q | q
  · exact q h1
  · exact q h2
  · exact q h3
theorem aT_eq (A : aA) (k i j : Nat) (x : Int32) : aT (aPut A k i j x) k i j = x := if_pos ⟨rfl, rfl, rfl⟩
theorem aL_ne {A : aA} {k i a b : Nat} {y : List Nat} (h : a ≠ k ∨ b ≠ i) : aL (aLine A k i y) a b = aL A a b := by
  rw [aL_line, if_neg]
  rintro ⟨h1, h2⟩
  rcases h with q | q
  · exact q h1
  · exact q h2
theorem aL_eq (A : aA) (k i : Nat) (y : List Nat) : aL (aLine A k i y) k i = y := if_pos ⟨rfl, rfl⟩
/-- what stays: the counts, the scalars -/
def Sam (A B : aA) : Prop := aN B = aN A ∧ aS B = aS A
theorem Sam.rf {A : aA} : Sam A A := ⟨rfl, rfl⟩
theorem Sam.tr {A B C : aA} (h : Sam A B) (g : Sam B C) : Sam A C := ⟨g.1.trans h.1, g.2.trans h.2⟩
theorem Sam.put {A B : aA} {k i j : Nat} {x : Int32} (h : Sam A B) : Sam A (aPut B k i j x) := h
theorem Sam.line {A B : aA} {k i : Nat} {y : List Nat} (h : Sam A B) : Sam A (aLine B k i y) := h
section INV
variable {A : aA}
theorem Inv.put3 (h : Inv A) (c j : Nat) (x : Int32) : Inv (aPut A 3 c j x) := by
  have e : ∀ k a b, k ≠ 3 → aT (aPut A 3 c j x) k a b = aT A k a b := fun k a b hk => aT_ne (Or.inl hk)
  refine ⟨h.cnt, fun k hk a b ha hb hh => ?_, fun i hi => ?_, fun i hi => ?_, fun i hi => ?_, fun v hv => ?_, fun a ha => ?_, fun a ha => ?_, h.none0, h.none1⟩
  · rw [e _ _ _ (by omega), e _ _ _ (by omega)] at hh
    exact h.dist k hk a b ha hb hh
  · rw [e _ _ _ (by decide), e _ _ _ (by decide)]
    exact h.gate i hi
  · rw [e _ _ _ (by decide), e _ _ _ (by decide)]
    exact h.bay i hi
  · rw [e _ _ _ (by decide)]
    exact h.depot i hi
  · rw [e _ _ _ (by decide), e _ _ _ (by decide), e _ _ _ (by decide), e _ _ _ (by decide)]
    exact h.veh v hv
  · obtain ⟨h1, h2, h3⟩ := h.line0 a ha
    refine ⟨h1, h2, fun v hv => ?_⟩
    rw [e _ _ _ (by decide), e _ _ _ (by decide)]
    exact h3 v hv
  · obtain ⟨h1, h2, h3⟩ := h.line1 a ha
    refine ⟨h1, h2, fun v hv => ?_⟩
    rw [e _ _ _ (by decide), e _ _ _ (by decide)]
    exact h3 v hv
theorem Inv.sc1 (h : Inv A) (x : Int32) : Inv (aSc A 1 x) :=
  ⟨h.cnt, h.dist, h.gate, h.bay, h.depot, h.veh, h.line0, h.line1, h.none0, h.none1⟩
theorem Inv.stock (h : Inv A) {d q : Nat} {x : Int32} (hx : x = nI q) (hq : q < 2 ^ 20) : Inv (aPut A 2 d 1 x) := by
  have e : ∀ k a b, k ≠ 2 ∨ b ≠ 1 → aT (aPut A 2 d 1 x) k a b = aT A k a b := fun k a b hk => aT_ne (by omega)
  refine ⟨h.cnt, fun k hk a b ha hb hh => ?_, fun i hi => ?_, fun i hi => ?_, fun i hi => ?_, fun v hv => ?_, fun a ha => ?_, fun a ha => ?_, h.none0, h.none1⟩
  · rw [e _ _ _ (by omega), e _ _ _ (by omega)] at hh
    exact h.dist k hk a b ha hb hh
  · rw [e _ _ _ (by omega), e _ _ _ (by omega)]
    exact h.gate i hi
  · rw [e _ _ _ (by omega), e _ _ _ (by omega)]
    exact h.bay i hi
  · rw [aT_put]
    by_cases z : (2 : Nat) = 2 ∧ i = d ∧ (1 : Nat) = 1
    · rw [if_pos z]
      exact ⟨q, hx, hq⟩
    · rw [if_neg z]
      exact h.depot i hi
  · rw [e _ _ _ (by omega), e _ _ _ (by omega), e _ _ _ (by omega), e _ _ _ (by omega)]
    exact h.veh v hv
  · obtain ⟨h1, h2, h3⟩ := h.line0 a ha
    refine ⟨h1, h2, fun v hv => ?_⟩
    rw [e _ _ _ (by omega), e _ _ _ (by omega)]
    exact h3 v hv
  · obtain ⟨h1, h2, h3⟩ := h.line1 a ha
    refine ⟨h1, h2, fun v hv => ?_⟩
    rw [e _ _ _ (by omega), e _ _ _ (by omega)]
    exact h3 v hv
/-- a number of a vehicle that is no stay and no host anew -/
theorem Inv.veh4 (h : Inv A) {w j : Nat} {x : Int32} (hj : j ≠ 4 ∧ j ≠ 5)
    (hv : ∀ v, v < aN A 4 → ∃ s u t q, aT (aPut A 4 w j x) 4 v 0 = nI s ∧ 1 ≤ s ∧ s ≤ 9 ∧ aT (aPut A 4 w j x) 4 v 1 = nI u ∧ 1 ≤ u ∧ u ≤ 4 ∧ aT (aPut A 4 w j x) 4 v 2 = nI t ∧ t ≤ 99 ∧ aT (aPut A 4 w j x) 4 v 3 = nI q ∧ q ≤ t) : Inv (aPut A 4 w j x) := by
  have e : ∀ k a b, k ≠ 4 ∨ b ≠ j → aT (aPut A 4 w j x) k a b = aT A k a b := fun k a b hk => aT_ne (by omega)
  refine ⟨h.cnt, fun k hk a b ha hb hh => ?_, fun i hi => ?_, fun i hi => ?_, fun i hi => ?_, hv, fun a ha => ?_, fun a ha => ?_, h.none0, h.none1⟩
  · rw [e _ _ _ (by omega), e _ _ _ (by omega)] at hh
    exact h.dist k hk a b ha hb hh
  · rw [e _ _ _ (by omega), e _ _ _ (by omega)]
    exact h.gate i hi
  · rw [e _ _ _ (by omega), e _ _ _ (by omega)]
    exact h.bay i hi
  · rw [e _ _ _ (by omega)]
    exact h.depot i hi
  · obtain ⟨h1, h2, h3⟩ := h.line0 a ha
    refine ⟨h1, h2, fun v hv => ?_⟩
    rw [e _ _ _ (by omega), e _ _ _ (by omega)]
    exact h3 v hv
  · obtain ⟨h1, h2, h3⟩ := h.line1 a ha
    refine ⟨h1, h2, fun v hv => ?_⟩
    rw [e _ _ _ (by omega), e _ _ _ (by omega)]
    exact h3 v hv
theorem Inv.burnt (h : Inv A) (w : Nat) (x : Int32) : Inv (aPut A 4 w 6 x) :=
  h.veh4 (by decide) (fun v hv => by
    rw [aT_ne (by omega), aT_ne (by omega), aT_ne (by omega), aT_ne (by omega)]
    exact h.veh v hv)
theorem Inv.lit (h : Inv A) {w q t : Nat} {x : Int32} (ht : aT A 4 w 2 = nI t) (h9 : t ≤ 99) (hx : x = nI q) (hq : q ≤ t) : Inv (aPut A 4 w 3 x) :=
  h.veh4 (by decide) (fun v hv => by
    rw [aT_ne (by omega), aT_ne (by omega), aT_ne (by omega)]
    obtain ⟨s, u, t', q', h1, h2, h3, h4, h5, h6, h7, h8, h9', h10⟩ := h.veh v hv
    by_cases z : v = w
    · subst z
      rw [aT_eq]
      rw [h7] at ht
      have e2 : t' = t := (nI_eq (by omega) (by omega)).mp ht
      exact ⟨s, u, t, q, h1, h2, h3, h4, h5, h6, by rw [h7, e2], h9, hx, hq⟩
    · rw [aT_ne (by omega)]
      exact ⟨s, u, t', q', h1, h2, h3, h4, h5, h6, h7, h8, h9', h10⟩)
/-- stays, hosts and lines anew -/
theorem Inv.lines {B : aA} (h : Inv A) (hs : Sam A B) (e : ∀ k a b, k ≠ 4 ∨ (b ≠ 4 ∧ b ≠ 5) → aT B k a b = aT A k a b)
    (l0 : ∀ c, c < aN A 3 → (aL B 0 c).length ≤ 8 ∧ (aL B 0 c).Nodup ∧ ∀ v, v ∈ aL B 0 c → v < aN A 4 ∧ aT B 4 v 4 = nI 0 ∧ aT B 4 v 5 = nI c)
    (l1 : ∀ b, b < aN A 1 → (aL B 1 b).length ≤ 6 ∧ (aL B 1 b).Nodup ∧ ∀ v, v ∈ aL B 1 b → v < aN A 4 ∧ aT B 4 v 4 = nI 1 ∧ aT B 4 v 5 = nI b)
    (n0 : ∀ c, aN A 3 ≤ c → aL B 0 c = []) (n1 : ∀ b, aN A 1 ≤ b → aL B 1 b = []) : Inv B := by
  obtain ⟨s1, s2⟩ := hs
  refine ⟨by rw [s1]; exact h.cnt, fun k hk a b ha hb hh => ?_, fun i hi => ?_, fun i hi => ?_, fun i hi => ?_, fun v hv => ?_, by rw [s1]; exact l0, by rw [s1]; exact l1, by rw [s1]; exact n0, by rw [s1]; exact n1⟩
  · rw [s1] at ha hb
    rw [e _ _ _ (by omega), e _ _ _ (by omega)] at hh
    exact h.dist k hk a b ha hb hh
  · rw [s1] at hi
    rw [e _ _ _ (by omega), e _ _ _ (by omega)]
    exact h.gate i hi
  · rw [s1] at hi
    rw [e _ _ _ (by omega), e _ _ _ (by omega), s2]
    exact h.bay i hi
  · rw [s1] at hi
    rw [e _ _ _ (by omega)]
    exact h.depot i hi
  · rw [s1] at hv
    rw [e _ _ _ (by omega), e _ _ _ (by omega), e _ _ _ (by omega), e _ _ _ (by omega)]
    exact h.veh v hv
theorem Inv.host {c c' : Nat} (h : Inv A) {v : Nat} (hc : c < aN A 3) (hc' : c' < aN A 3) (h1 : v ∈ aL A 0 c) (h2 : v ∈ aL A 0 c') : c = c' := by
  have k1 := ((h.line0 c hc).2.2 v h1).2.2
  have k2 := ((h.line0 c' hc').2.2 v h2).2.2
  have n3 : aN A 3 ≤ 4 := h.cnt 3 (by decide)
  exact (nI_eq (by omega) (by omega)).mp (k1.symm.trans k2)
theorem Inv.host1 {b b' : Nat} (h : Inv A) {v : Nat} (hc : b < aN A 1) (hc' : b' < aN A 1) (h1 : v ∈ aL A 1 b) (h2 : v ∈ aL A 1 b') : b = b' := by
  have k1 := ((h.line1 b hc).2.2 v h1).2.2
  have k2 := ((h.line1 b' hc').2.2 v h2).2.2
  have n3 : aN A 1 ≤ 6 := h.cnt 1 (by decide)
  exact (nI_eq (by omega) (by omega)).mp (k1.symm.trans k2)
theorem Inv.apart {c b : Nat} (h : Inv A) {v : Nat} (hc : c < aN A 3) (hb : b < aN A 1) (h1 : v ∈ aL A 0 c) (h2 : v ∈ aL A 1 b) : False := by
  have k1 := ((h.line0 c hc).2.2 v h1).2.1
  have k2 := ((h.line1 b hb).2.2 v h2).2.1
  exact absurd (k1.symm.trans k2) (by decide)
theorem getD_mem {x : List Nat} {i : Nat} (h : i < x.length) : x.getD i 0 ∈ x := by
  rw [List.getD_eq_getElem?_getD, List.getElem?_eq_getElem h]
  exact List.getElem_mem h
theorem erase_mem {x : List Nat} {i v : Nat} (hi : i < x.length) (hn : x.Nodup) : v ∈ x.eraseIdx i → v ∈ x ∧ v ≠ x.getD i 0 := by
  intro h
  refine ⟨List.mem_of_mem_eraseIdx h, fun e => ?_⟩
  rw [List.mem_eraseIdx_iff_getElem?] at h
  obtain ⟨j, hj, hv⟩ := h
  have hj2 : j < x.length := (List.getElem?_eq_some_iff.mp hv).1
  have e1 : x[j]? = x[i]? := by
    rw [hv, e, List.getD_eq_getElem?_getD, List.getElem?_eq_getElem hi]
    rfl
  exact hj ((List.getElem?_inj hj2 hn).mp e1)
theorem leaveV_T (c b i v : Nat) (A : aA) (k a j : Nat) : aT (leaveV c b i v A) k a j = if k = 4 ∧ a = v ∧ j = 5 then nI b else if k = 4 ∧ a = v ∧ j = 4 then nI 1 else aT A k a j := rfl
theorem leaveV_0 (c b i v : Nat) (A : aA) (a : Nat) : aL (leaveV c b i v A) 0 a = if a = c then (aL A 0 c).eraseIdx i else aL A 0 a := by
  show aL (aLine (aLine A 0 c ((aL A 0 c).eraseIdx i)) 1 b (aL A 1 b ++ [v])) 0 a = _
  rw [aL_ne (by omega), aL_line]
  by_cases q : a = c
  · rw [if_pos ⟨rfl, q⟩, if_pos q]
  · rw [if_neg (fun z => q z.2), if_neg q]
theorem leaveV_1 (c b i v : Nat) (A : aA) (a : Nat) : aL (leaveV c b i v A) 1 a = if a = b then aL A 1 b ++ [v] else aL A 1 a := by
  show aL (aLine (aLine A 0 c ((aL A 0 c).eraseIdx i)) 1 b (aL A 1 b ++ [v])) 1 a = _
  rw [aL_line]
  by_cases q : a = b
  · rw [if_pos ⟨rfl, q⟩, if_pos q]
  · rw [if_neg (fun z => q z.2), if_neg q, aL_ne (by omega)]
theorem Inv.leave (h : Inv A) {c b i : Nat} (hc : c < aN A 3) (hb : b < aN A 1) (hi : i < (aL A 0 c).length) (hr : (aL A 1 b).length < 6) : Inv (leaveV c b i ((aL A 0 c).getD i 0) A) := by
  have hm := getD_mem hi
  obtain ⟨g1, g2, g3⟩ := h.line0 c hc
  obtain ⟨b1, b2, b3⟩ := h.line1 b hb
  generalize hv : (aL A 0 c).getD i 0 = v at hm
  refine h.lines ⟨rfl, rfl⟩ (fun k a j hk => ?_) (fun c' hc' => ?_) (fun b' hb' => ?_) (fun c' hc' => ?_) (fun b' hb' => ?_)
  · rw [leaveV_T, if_neg (by omega), if_neg (by omega)]
  · rw [leaveV_0]
    by_cases q : c' = c
    · subst q
      rw [if_pos rfl]
      refine ⟨by rw [List.length_eraseIdx]; split <;> omega, g2.eraseIdx i, fun w hw => ?_⟩
      obtain ⟨w1, w2⟩ := erase_mem hi g2 hw
      rw [hv] at w2
      rw [leaveV_T, leaveV_T, if_neg (by omega), if_neg (by omega), if_neg (by omega), if_neg (by omega)]
      exact g3 w w1
    · rw [if_neg q]
      obtain ⟨k1, k2, k3⟩ := h.line0 c' hc'
      refine ⟨k1, k2, fun w hw => ?_⟩
      have w2 : w ≠ v := fun e => q (h.host hc' hc hw (by rw [e]; exact hm))
      rw [leaveV_T, leaveV_T, if_neg (by omega), if_neg (by omega), if_neg (by omega), if_neg (by omega)]
      exact k3 w hw
  · rw [leaveV_1]
    by_cases q : b' = b
    · subst q
      rw [if_pos rfl]
      refine ⟨by rw [List.length_append, List.length_singleton]; omega, ?_, fun w hw => ?_⟩
      · rw [List.nodup_append]
        refine ⟨b2, List.nodup_cons.mpr ⟨List.not_mem_nil, List.nodup_nil⟩, fun a ha d hd e => ?_⟩
        rw [List.mem_singleton] at hd
        exact h.apart hc hb hm (by rw [← hd, ← e]; exact ha)
      · rw [List.mem_append, List.mem_singleton] at hw
        rcases hw with hw | rfl
        · have w2 : w ≠ v := fun e => h.apart hc hb hm (by rw [← e]; exact hw)
          rw [leaveV_T, leaveV_T, if_neg (by omega), if_neg (by omega), if_neg (by omega), if_neg (by omega)]
          exact b3 w hw
        · refine ⟨(g3 w hm).1, ?_, ?_⟩
          · rw [leaveV_T, if_neg (by omega), if_pos ⟨rfl, rfl, rfl⟩]
          · rw [leaveV_T, if_pos ⟨rfl, rfl, rfl⟩]
    · rw [if_neg q]
      obtain ⟨k1, k2, k3⟩ := h.line1 b' hb'
      refine ⟨k1, k2, fun w hw => ?_⟩
      have w2 : w ≠ v := fun e => h.apart hc hb' hm (by rw [← e]; exact hw)
      rw [leaveV_T, leaveV_T, if_neg (by omega), if_neg (by omega), if_neg (by omega), if_neg (by omega)]
      exact k3 w hw
  · rw [leaveV_0, if_neg (by omega)]
    exact h.none0 c' hc'
  · rw [leaveV_1, if_neg (by omega)]
    exact h.none1 b' hb'
theorem joinV_T (c b v : Nat) (r : List Nat) (A : aA) (k a j : Nat) : aT (joinV c b v r A) k a j = if k = 4 ∧ a = v ∧ j = 5 then nI c else if k = 4 ∧ a = v ∧ j = 4 then nI 0 else aT A k a j := rfl
theorem joinV_0 (c b v : Nat) (r : List Nat) (A : aA) (a : Nat) : aL (joinV c b v r A) 0 a = if a = c then aL A 0 c ++ [v] else aL A 0 a := by
  show aL (aLine (aLine A 1 b r) 0 c (aL A 0 c ++ [v])) 0 a = _
  rw [aL_line]
  by_cases q : a = c
  · rw [if_pos ⟨rfl, q⟩, if_pos q]
  · rw [if_neg (fun z => q z.2), if_neg q, aL_ne (by omega)]
theorem joinV_1 (c b v : Nat) (r : List Nat) (A : aA) (a : Nat) : aL (joinV c b v r A) 1 a = if a = b then r else aL A 1 a := by
  show aL (aLine (aLine A 1 b r) 0 c (aL A 0 c ++ [v])) 1 a = _
  rw [aL_ne (by omega), aL_line]
  by_cases q : a = b
  · rw [if_pos ⟨rfl, q⟩, if_pos q]
  · rw [if_neg (fun z => q z.2), if_neg q]
theorem Inv.join (h : Inv A) {c b v : Nat} {r : List Nat} (hc : c < aN A 3) (hb : b < aN A 1) (hl : aL A 1 b = v :: r) (hr : (aL A 0 c).length < 8) : Inv (joinV c b v r A) := by
  obtain ⟨g1, g2, g3⟩ := h.line0 c hc
  obtain ⟨b1, b2, b3⟩ := h.line1 b hb
  have hm : v ∈ aL A 1 b := by rw [hl]; exact List.mem_cons_self
  have hn : v ∉ r ∧ r.Nodup := by rw [hl] at b2; exact List.nodup_cons.mp b2
  refine h.lines ⟨rfl, rfl⟩ (fun k a j hk => ?_) (fun c' hc' => ?_) (fun b' hb' => ?_) (fun c' hc' => ?_) (fun b' hb' => ?_)
  · rw [joinV_T, if_neg (by omega), if_neg (by omega)]
  · rw [joinV_0]
    by_cases q : c' = c
    · subst q
      rw [if_pos rfl]
      refine ⟨by rw [List.length_append, List.length_singleton]; omega, ?_, fun w hw => ?_⟩
      · rw [List.nodup_append]
        refine ⟨g2, List.nodup_cons.mpr ⟨List.not_mem_nil, List.nodup_nil⟩, fun a ha d hd e => ?_⟩
        rw [List.mem_singleton] at hd
        exact h.apart hc hb (by rw [← hd, ← e]; exact ha) hm
      · rw [List.mem_append, List.mem_singleton] at hw
        rcases hw with hw | rfl
        · have w2 : w ≠ v := fun e => h.apart hc hb (by rw [← e]; exact hw) hm
          rw [joinV_T, joinV_T, if_neg (by omega), if_neg (by omega), if_neg (by omega), if_neg (by omega)]
          exact g3 w hw
        · refine ⟨(b3 w hm).1, ?_, ?_⟩
          · rw [joinV_T, if_neg (by omega), if_pos ⟨rfl, rfl, rfl⟩]
          · rw [joinV_T, if_pos ⟨rfl, rfl, rfl⟩]
    · rw [if_neg q]
      obtain ⟨k1, k2, k3⟩ := h.line0 c' hc'
      refine ⟨k1, k2, fun w hw => ?_⟩
      have w2 : w ≠ v := fun e => h.apart hc' hb hw (by rw [e]; exact hm)
      rw [joinV_T, joinV_T, if_neg (by omega), if_neg (by omega), if_neg (by omega), if_neg (by omega)]
      exact k3 w hw
  · rw [joinV_1]
    by_cases q : b' = b
    · subst q
      rw [if_pos rfl]
      refine ⟨by rw [hl, List.length_cons] at b1; omega, hn.2, fun w hw => ?_⟩
      have w2 : w ≠ v := fun e => hn.1 (by rw [← e]; exact hw)
      rw [joinV_T, joinV_T, if_neg (by omega), if_neg (by omega), if_neg (by omega), if_neg (by omega)]
      exact b3 w (by rw [hl]; exact List.mem_cons_of_mem _ hw)
    · rw [if_neg q]
      obtain ⟨k1, k2, k3⟩ := h.line1 b' hb'
      refine ⟨k1, k2, fun w hw => ?_⟩
      have w2 : w ≠ v := fun e => q (h.host1 hb' hb hw (by rw [e]; exact hm))
      rw [joinV_T, joinV_T, if_neg (by omega), if_neg (by omega), if_neg (by omega), if_neg (by omega)]
      exact k3 w hw
  · rw [joinV_0, if_neg (by omega)]
    exact h.none0 c' hc'
  · rw [joinV_1, if_neg (by omega)]
    exact h.none1 b' hb'
theorem arrs_T : ∀ (x : List Nat) (A : aA) (k a j : Nat), aT (x.foldl endV A) k a j = if k = 4 ∧ a ∈ x ∧ j = 5 then -9 else if k = 4 ∧ a ∈ x ∧ j = 4 then nI 2 else aT A k a j := by
  intro x
  induction x with
  | nil => intro A k a j; simp
  | cons v r ih =>
    intro A k a j
    rw [List.foldl_cons, ih]
    have e : aT (endV A v) k a j = if k = 4 ∧ a = v ∧ j = 5 then -9 else if k = 4 ∧ a = v ∧ j = 4 then nI 2 else aT A k a j := rfl
    rw [e]
    by_cases q1 : k = 4
    · by_cases q2 : a ∈ r
      · by_cases q5 : j = 5
        · simp [q1, q2, q5]
        · by_cases q4 : j = 4 <;> simp [q1, q2, q4, q5]
      · by_cases q3 : a = v
        · subst q3
          simp [q1, q2]
        · simp [q1, q2, q3]
    · simp [q1]
theorem arrs_L (x : List Nat) (A : aA) : aL (x.foldl endV A) = aL A ∧ Sam A (x.foldl endV A) := by
  induction x generalizing A with
  | nil => exact ⟨rfl, Sam.rf⟩
  | cons v r ih => exact ⟨(ih (endV A v)).1, (ih (endV A v)).2⟩
theorem Inv.arr (h : Inv A) {c : Nat} (hc : c < aN A 3) : Inv (endC c A) ∧ Sam A (endC c A) := by
  obtain ⟨e1, e2⟩ := arrs_L (aL A 0 c) A
  have eT : ∀ k a j, aT (endC c A) k a j = if k = 4 ∧ a ∈ aL A 0 c ∧ j = 5 then -9 else if k = 4 ∧ a ∈ aL A 0 c ∧ j = 4 then nI 2 else aT A k a j := fun k a j => arrs_T _ _ _ _ _
  have eL : ∀ k a, aL (endC c A) k a = if k = 0 ∧ a = c then [] else aL A k a := fun k a => by
    unfold endC
    rw [aL_line, e1]
  refine ⟨h.lines e2 (fun k a j hk => ?_) (fun c' hc' => ?_) (fun b' hb' => ?_) (fun c' hc' => ?_) (fun b' hb' => ?_), e2⟩
  · rw [eT, if_neg (by omega), if_neg (by omega)]
  · rw [eL]
    by_cases q : c' = c
    · rw [if_pos ⟨rfl, q⟩]
      exact ⟨Nat.zero_le _, List.nodup_nil, fun v hv => absurd hv List.not_mem_nil⟩
    · rw [if_neg (fun z => q z.2)]
      obtain ⟨k1, k2, k3⟩ := h.line0 c' hc'
      refine ⟨k1, k2, fun w hw => ?_⟩
      have w2 : w ∉ aL A 0 c := fun e => q (h.host hc' hc hw e)
      rw [eT, eT, if_neg (fun z => w2 z.2.1), if_neg (fun z => w2 z.2.1), if_neg (fun z => w2 z.2.1), if_neg (fun z => w2 z.2.1)]
      exact k3 w hw
  · rw [eL, if_neg (by omega)]
    obtain ⟨k1, k2, k3⟩ := h.line1 b' hb'
    refine ⟨k1, k2, fun w hw => ?_⟩
    have w2 : w ∉ aL A 0 c := fun e => h.apart hc hb' e hw
    rw [eT, eT, if_neg (fun z => w2 z.2.1), if_neg (fun z => w2 z.2.1), if_neg (fun z => w2 z.2.1), if_neg (fun z => w2 z.2.1)]
    exact k3 w hw
  · rw [eL, h.none0 c' hc']
    split <;> rfl
  · rw [eL, if_neg (by omega)]
    exact h.none1 b' hb'
end INV
