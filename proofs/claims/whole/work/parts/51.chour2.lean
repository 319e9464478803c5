/-! ===== the class's hour is the hour, second part ===== -/
theorem aPut_comm {A : aA} {k i j k' i' j' : Nat} {x y : Int32} (h : k ≠ k' ∨ i ≠ i' ∨ j ≠ j') : aPut (aPut A k i j x) k' i' j' y = aPut (aPut A k' i' j' y) k i j x := by
  refine Prod.ext rfl (Prod.ext rfl (Prod.ext ?_ rfl))
  funext a b c
  show (if a = k' ∧ b = i' ∧ c = j' then y else if a = k ∧ b = i ∧ c = j then x else A.2.2.1 a b c) = (if a = k ∧ b = i ∧ c = j then x else if a = k' ∧ b = i' ∧ c = j' then y else A.2.2.1 a b c)
  by_cases q : a = k ∧ b = i ∧ c = j
  · rw [if_pos q, if_neg (by omega), if_pos q]
  · rw [if_neg q, if_neg q]
theorem burn_arr (A : aA) (v u : Nat) : burnV (endV A v) u = endV (burnV A u) v := by
  unfold burnV endV
  rw [aT_ne (by omega), aT_ne (by omega), aT_ne (by omega), aT_ne (by omega), aT_ne (by omega), aT_ne (by omega)]
  rw [aPut_comm (k := 4) (i := v) (j := 5) (by omega), aPut_comm (k := 4) (i := v) (j := 4) (by omega), aPut_comm (k := 4) (i := v) (j := 5) (by omega), aPut_comm (k := 4) (i := v) (j := 4) (by omega)]
theorem burn_arrs (v : Nat) : ∀ (x : List Nat) (A : aA), x.foldl burnV (endV A v) = endV (x.foldl burnV A) v := by
  intro x
  induction x with
  | nil => intro A; rfl
  | cons u r ih =>
    intro A
    rw [List.foldl_cons, List.foldl_cons, burn_arr, ih]
def goV (e : Bool) (A : aA) (v : Nat) : aA := if e = true then endV (burnV A v) v else burnV A v
theorem goV_f (x : List Nat) (A : aA) : x.foldl (goV false) A = x.foldl burnV A := rfl
theorem goV_t : ∀ (x : List Nat) (A : aA), x.foldl (goV true) A = x.foldl endV (x.foldl burnV A) := by
  intro x
  induction x with
  | nil => intro A; rfl
  | cons u r ih =>
    intro A
    rw [List.foldl_cons, List.foldl_cons, List.foldl_cons, ih]
    show r.foldl endV (r.foldl burnV (endV (burnV A u) u)) = _
    rw [burn_arrs]
theorem burns_T : ∀ (x : List Nat) (A : aA) (k a j : Nat), k ≠ 4 → aT (x.foldl burnV A) k a j = aT A k a j := by
  intro x
  induction x with
  | nil => intro A k a j _; rfl
  | cons v r ih =>
    intro A k a j hk
    rw [List.foldl_cons, ih _ _ _ _ hk]
    unfold burnV
    rw [aT_ne (by omega), aT_ne (by omega)]
theorem burns_L : ∀ (x : List Nat) (A : aA), aL (x.foldl burnV A) = aL A ∧ Sam A (x.foldl burnV A) := by
  intro x
  induction x with
  | nil => intro A; exact ⟨rfl, Sam.rf⟩
  | cons v r ih => intro A; exact ⟨(ih (burnV A v)).1, (ih (burnV A v)).2⟩
theorem burnC_km (c : Nat) (A : aA) : aT (burnC c A) 3 c 0 = aT A 3 c 0 + nI 1 ∧ aS (burnC c A) = aS A ∧ aL (burnC c A) = aL A ∧ aN (burnC c A) = aN A := by
  unfold burnC
  obtain ⟨h1, h2⟩ := burns_L (aL A 0 c) (aPut A 3 c 0 (aT A 3 c 0 + nI 1))
  refine ⟨?_, h2.2, h1, h2.1⟩
  rw [burns_T _ _ _ _ _ (by decide), aT_eq]
section CH2
variable {S : mM} {A : aA} {w fl : Int32} {st : Bool}
theorem c_go_loop {c : Nat} {e : Bool} {L : List Nat} (hc4 : c < 4) (h8 : L.length ≤ 8) {N : Nat} (hL : ∀ v, v ∈ L → v < N) : ∀ (m i k : Nat) (S : mM) (A : aA) (st : Bool), i + m = L.length → m < k → CR S A w fl st → aL A 0 c = L → aN A 4 = N →
    ∃ S', pX4_goOn_l23 k (nI c) (bI e) (nI i) S = some S' ∧ CR S' (if e = true then aLine ((L.drop i).foldl (goV e) A) 0 c [] else (L.drop i).foldl (goV e) A) w fl st := by
  intro m
  induction m with
  | zero =>
    intro i k S A st hi hk h hA hN
    obtain ⟨k, rfl⟩ : ∃ q, k = q + 1 := ⟨k - 1, by omega⟩
    show ∃ S', pX4_goOn_lb23 (pX4_goOn_l23 k) (nI c) (bI e) (nI i) S = some S' ∧ _
    unfold pX4_goOn_lb23
    rw [C_size0 h.1 hc4, cr1_s, hA, n_le (by omega) (by omega), if_pos (by omega), bI_0, List.drop_eq_nil_of_le (by omega)]
    cases e with
    | false =>
      rw [if_pos rfl]
      exact ⟨S, rfl, h⟩
    | true =>
      rw [if_neg (by simp), if_pos rfl]
      obtain ⟨S1, e1, r1, z1⟩ := C_empty0 (ρ := mM) h.1 hc4
      rw [e1]
      exact ⟨S1, rfl, h.to r1 z1⟩
  | succ m ih =>
    intro i k S A st hi hk h hA hN
    obtain ⟨k, rfl⟩ : ∃ q, k = q + 1 := ⟨k - 1, by omega⟩
    show ∃ S', pX4_goOn_lb23 (pX4_goOn_l23 k) (nI c) (bI e) (nI i) S = some S' ∧ _
    have hv : L.getD i 0 < aN A 4 := by rw [hN]; exact hL _ (getD_mem (by omega))
    rw [drop_get (x := L) (i := i) (by omega), List.foldl_cons]
    unfold pX4_goOn_lb23
    rw [C_size0 h.1 hc4, cr1_s, hA, n_le (by omega) (by omega), if_neg (by omega), C_get0 h.1 hc4 (by rw [hA]; omega), cr1_s, hA]
    generalize hvv : L.getD i 0 = v at hv ⊢
    rw [C_getV h.1 hv (by decide), cr1_s]
    obtain ⟨S1, e1, r1, z1⟩ := C_raise (ρ := mM) h.1 (k := 4) (o := 9) (n := 112) (i := v) (j := 3) (-(aT A 4 v 1)) (by decide) rfl rfl hv (by decide)
    rw [e1]
    obtain ⟨S2, e2, r2, z2⟩ := C_raise (ρ := mM) r1 (k := 4) (o := 9) (n := 112) (i := v) (j := 6) (aT A 4 v 1) (by decide) rfl rfl hv (by decide)
    rw [e2, bI_0]
    have r2' : RepC S2 (burnV A v) := by
      rw [aT_ne (by omega), ← Int32.sub_eq_add_neg] at r2
      exact r2
    cases e with
    | false =>
      rw [if_pos rfl, vl_e, nI_add]
      exact ih (i + 1) k S2 (burnV A v) st (by omega) (by omega) (h.to r2' (z2.trans z1)) hA hN
    | true =>
      rw [if_neg (by simp)]
      obtain ⟨S3, e3, r3, z3⟩ := c_move r2' (v := v) (nI 2) (-9) hv
      rw [e3, cr1_s, vl_e, nI_add]
      exact ih (i + 1) k S3 (endV (burnV A v) v) st (by omega) (by omega) (h.to r3 (z3.trans (z2.trans z1))) hA hN
theorem c_go (h : CR S A w fl st) (iv : Inv A) {c : Nat} (hc : c < aN A 3) : ∃ S', pX4_goOn (nI c) S = some S' ∧ CR S' (if aT (burnC c A) 3 c 0 = aS (burnC c A) 0 then endC c (burnC c A) else burnC c A) w fl true := by
  have h4 := cnt3 iv
  have h8 := (iv.line0 c hc).1
  obtain ⟨k1, k2, k3, k4⟩ := burnC_km c A
  unfold pX4_goOn
  rw [pz_1]
  have h1 := h.stir true
  obtain ⟨S1, e1, r1, z1⟩ := C_raise (ρ := mM) h1.1 (k := 3) (o := 7) (n := 16) (i := c) (j := 0) (nI 1) (by decide) rfl rfl hc (by decide)
  rw [bI_t] at e1
  rw [e1]
  have r2 := h1.to r1 z1
  rw [c_end (c := c) r2.1 hc, cr1_s]
  have e5 : aT (aPut A 3 c 0 (aT A 3 c 0 + nI 1)) 3 c 0 = aT A 3 c 0 + nI 1 := aT_eq _ _ _ _ _
  have e6 : aS (aPut A 3 c 0 (aT A 3 c 0 + nI 1)) 0 = aS A 0 := rfl
  rw [e5, e6, k1, k2]
  have := c_go_loop (c := c) (e := decide (aT A 3 c 0 + nI 1 = aS A 0)) (L := aL A 0 c) (w := w) (fl := fl) (by omega) h8 (N := aN A 4) (fun v hv => iv.vok hc hv) (aL A 0 c).length 0 fuel S1 _ true (by omega) (by unfold fuel; omega) r2 rfl rfl
  obtain ⟨S', g1, g2⟩ := this
  refine ⟨S', g1, ?_⟩
  rw [List.drop_zero] at g2
  by_cases q : aT A 3 c 0 + nI 1 = aS A 0
  · rw [if_pos q]
    rw [decide_eq_true q, if_pos rfl, goV_t] at g2
    unfold endC
    rw [k3]
    exact g2
  · rw [if_neg q]
    rw [decide_eq_false q, if_neg (by simp), goV_f] at g2
    exact g2
theorem c_rich (h : RepC S A) (iv : Inv A) {c : Nat} (hc : c < aN A 3) (hne : aL A 0 c ≠ []) : pX4_richest (nI c) S = some (nI (richF A (aL A 0 c))) := by
  have h4 := cnt3 iv
  have h8 := (iv.line0 c hc).1
  have hl : 0 < (aL A 0 c).length := List.length_pos_iff.mpr hne
  have main : ∀ (m i k v : Nat), i + m = (aL A 0 c).length → m < k → v < aN A 4 → pX4_richest_l12 S k (nI c) (nI v) (nI i) = some (nI (((aL A 0 c).drop i).foldl (fun m o => if aT A 4 m 3 < aT A 4 o 3 then o else m) v)) := by
    intro m
    induction m with
    | zero =>
      intro i k v hi hk hv
      obtain ⟨k, rfl⟩ : ∃ q, k = q + 1 := ⟨k - 1, by omega⟩
      show pX4_richest_lb12 (pX4_richest_l12 S k) S (nI c) (nI v) (nI i) = _
      unfold pX4_richest_lb12
      rw [C_size0 h (by omega), cr1_s, n_le (by omega) (by omega), if_pos (by omega), List.drop_eq_nil_of_le (by omega)]
      rfl
    | succ m ih =>
      intro i k v hi hk hv
      obtain ⟨k, rfl⟩ : ∃ q, k = q + 1 := ⟨k - 1, by omega⟩
      show pX4_richest_lb12 (pX4_richest_l12 S k) S (nI c) (nI v) (nI i) = _
      unfold pX4_richest_lb12
      have ho := iv.vok hc (getD_mem (x := aL A 0 c) (i := i) (by omega))
      rw [drop_get (x := aL A 0 c) (i := i) (by omega), List.foldl_cons, C_size0 h (by omega), cr1_s, n_le (by omega) (by omega), if_neg (by omega), C_get0 h (by omega) (by omega), cr1_s]
      generalize hoo : (aL A 0 c).getD i 0 = o at ho ⊢
      rw [C_getV h ho (by decide), cr1_s, C_getV h hv (by decide), cr1_s]
      by_cases q : aT A 4 o 3 ≤ aT A 4 v 3
      · rw [if_pos q, vl_e, nI_add, if_neg (Int32.not_lt.mpr q)]
        exact ih (i + 1) k v (by omega) (by omega) hv
      · rw [if_neg q, vl_e, nI_add, if_pos (Int32.not_le.mp q)]
        exact ih (i + 1) k o (by omega) (by omega) ho
  unfold pX4_richest
  rw [C_get0 h (by omega) hl, cr1_s, main ((aL A 0 c).length - 1) 1 fuel _ (by omega) (by unfold fuel; omega) (iv.vok hc (getD_mem hl))]
  have hd := drop_get (x := aL A 0 c) (i := 0) hl
  rw [List.drop_zero] at hd
  generalize hg : (aL A 0 c).getD 0 0 = v0 at hd ⊢
  generalize hr : (aL A 0 c).drop (0 + 1) = r0 at hd
  rw [hd]
  rfl
theorem c_give (h : RepC S A) {m v : Nat} (hm : m < aN A 4) (hv : v < aN A 4) : ∃ S', pX4_giveFuel (nI m) (nI v) S = some S' ∧ RepC S' (giveF A m v) ∧ S' 0 = S 0 := by
  unfold pX4_giveFuel
  rw [C_getV h hv (by decide), cr1_s, C_getV h hv (by decide), cr1_s, vl_e, C_getV h hm (by decide), cr1_s, vl_e, vl_e]
  have hg : (if aT A 4 v 2 - aT A 4 v 3 < (if nI 10 < aT A 4 m 3 / nI 2 then nI 10 else aT A 4 m 3 / nI 2) then aT A 4 v 2 - aT A 4 v 3 else (if nI 10 < aT A 4 m 3 / nI 2 then nI 10 else aT A 4 m 3 / nI 2)) = giftF A m v := by
    unfold giftF
    have e : (if nI 10 < aT A 4 m 3 / nI 2 then nI 10 else aT A 4 m 3 / nI 2) = mn (nI 10) (aT A 4 m 3 / nI 2) := by
      unfold mn
      by_cases q : aT A 4 m 3 / nI 2 < nI 10
      · rw [if_pos q, if_neg (fun z => Int32.lt_irrefl (Int32.lt_trans q z))]
      · rw [if_neg q]
        by_cases q2 : nI 10 < aT A 4 m 3 / nI 2
        · rw [if_pos q2]
        · rw [if_neg q2]
          exact Int32.le_antisymm (Int32.not_lt.mp q2) (Int32.not_lt.mp q)
    rw [e]
    rfl
  rw [hg]
  obtain ⟨S1, e1, r1, z1⟩ := C_raise (ρ := mM) h (k := 4) (o := 9) (n := 112) (i := m) (j := 3) (-(giftF A m v)) (by decide) rfl rfl hm (by decide)
  rw [e1]
  obtain ⟨S2, e2, r2, z2⟩ := C_raise (ρ := mM) r1 (k := 4) (o := 9) (n := 112) (i := v) (j := 3) (giftF A m v) (by decide) rfl rfl hv (by decide)
  rw [e2]
  refine ⟨S2, rfl, ?_, z2.trans z1⟩
  unfold giveF
  rw [Int32.sub_eq_add_neg]
  exact r2
theorem c_before (h : RepC S A) (iv : Inv A) {v u : Nat} (hv : v < aN A 4) (hu : u < aN A 4) : pX4_comesAhead (nI v) (nI u) S = some (bI (befV A v u)) := by
  have h16 := cnt4 iv
  unfold pX4_comesAhead befV
  rw [C_getV h hv (by decide), cr1_s, C_getV h hu (by decide), cr1_s, gd_p isZ_0, gd_p isZ_1]
  by_cases q1 : aT A 4 v 0 < aT A 4 u 0
  · rw [if_pos q1, decide_eq_true (Or.inl q1), bI_t]
  · rw [if_neg q1]
    by_cases q2 : aT A 4 v 0 = aT A 4 u 0
    · rw [if_pos q2, n_le (by omega) (by omega)]
      by_cases q3 : u ≤ v
      · rw [if_pos q3, decide_eq_false, bI_f]
        rintro (z | z)
        · exact q1 z
        · omega
      · rw [if_neg q3, decide_eq_true (Or.inr ⟨q2, by omega⟩), bI_t]
    · rw [if_neg q2, decide_eq_false, bI_f]
      rintro (z | z)
      · exact q1 z
      · exact q2 z.1
theorem aLine_twice (A : aA) (k i : Nat) (x y : List Nat) : aLine (aLine A k i x) k i y = aLine A k i y := by
  refine Prod.ext rfl (Prod.ext rfl (Prod.ext rfl ?_))
  funext a b
  show (if a = k ∧ b = i then y else if a = k ∧ b = i then x else A.2.2.2 a b) = if a = k ∧ b = i then y else A.2.2.2 a b
  by_cases q : a = k ∧ b = i
  · rw [if_pos q, if_pos q]
  · rw [if_neg q, if_neg q, if_neg q]
theorem getD_set_ne {x : List Nat} {i j v : Nat} (h : j ≠ i) : (x.set i v).getD j 0 = x.getD j 0 := by
  rw [List.getD_eq_getElem?_getD, List.getD_eq_getElem?_getD, List.getElem?_set_ne (Ne.symm h)]
theorem getD_set_eq {x : List Nat} {i v : Nat} (h : i < x.length) : (x.set i v).getD i 0 = v := by
  rw [List.getD_eq_getElem?_getD, List.getElem?_set_self h]
  rfl
theorem set_gd {x : List Nat} {i : Nat} (h : i < x.length) : x.set i (x.getD i 0) = x := by
  apply List.ext_getElem?
  intro j
  by_cases q : j = i
  · subst q
    rw [List.getElem?_set_self h, List.getD_eq_getElem?_getD, List.getElem?_eq_getElem h]
    rfl
  · rw [List.getElem?_set_ne (Ne.symm q)]
/-- the inner loop: the vehicle v looks for its place from p on -/
theorem c_bub {c i v : Nat} {ih2 : Int32 → Int32 → mM → Option mM} (hc4 : c < 4) : ∀ (p k : Nat) (S : mM) (L : List Nat), p < k → p < 2 ^ 20 → p < L.length → L.length ≤ 8 → v < aN A 4 → (∀ j, j < L.length → L.getD j 0 < aN A 4) → Inv A → CR S (aLine A 0 c L) w fl st →
    ∃ S', pX4_putInOrder_l27 ih2 k (nI c) (nI i) (nI v) (nI p) S = ih2 (nI c) (nI (i + 1)) S' ∧ CR S' (aLine A 0 c (bub (befV A) p (L.set p v))) w fl st := by
  intro p
  induction p with
  | zero =>
    intro k S L hk hp hl h8 hv hL iv h
    obtain ⟨k, rfl⟩ : ∃ q, k = q + 1 := ⟨k - 1, by omega⟩
    show ∃ S', pX4_putInOrder_lb27 ih2 (pX4_putInOrder_l27 ih2 k) (nI c) (nI i) (nI v) (nI 0) S = _ ∧ _
    unfold pX4_putInOrder_lb27
    rw [if_pos (by decide)]
    unfold pX4_putInOrder_b80
    have eL : aL (aLine A 0 c L) 0 c = L := aL_eq _ _ _ _
    obtain ⟨S1, e1, r1, z1⟩ := C_put0 (ρ := mM) h.1 (c := c) (p := 0) v hc4 (by rw [eL]; exact hl)
    rw [e1, vl_e, nI_add]
    refine ⟨S1, rfl, ?_⟩
    rw [eL, aLine_twice] at r1
    exact h.to r1 z1
  | succ p ihp =>
    intro k S L hk hp hl h8 hv hL iv h
    obtain ⟨k, rfl⟩ : ∃ q, k = q + 1 := ⟨k - 1, by omega⟩
    show ∃ S', pX4_putInOrder_lb27 ih2 (pX4_putInOrder_l27 ih2 k) (nI c) (nI i) (nI v) (nI (p + 1)) S = _ ∧ _
    unfold pX4_putInOrder_lb27
    have eL : aL (aLine A 0 c L) 0 c = L := aL_eq _ _ _ _
    have hu := hL p (by omega)
    have hstop : ∃ S', pX4_putInOrder_b80 ih2 (nI c) (nI i) (nI v) (nI (p + 1)) S = ih2 (nI c) (nI (i + 1)) S' ∧ CR S' (aLine A 0 c (L.set (p + 1) v)) w fl st := by
      unfold pX4_putInOrder_b80
      obtain ⟨S1, e1, r1, z1⟩ := C_put0 (ρ := mM) h.1 (c := c) (p := p + 1) v hc4 (by rw [eL]; exact hl)
      rw [e1, vl_e, nI_add]
      refine ⟨S1, rfl, ?_⟩
      rw [eL, aLine_twice] at r1
      exact h.to r1 z1
    have hb : bub (befV A) (p + 1) (L.set (p + 1) v) = if befV A v (L.getD p 0) = true then bub (befV A) p ((L.set (p + 1) (L.getD p 0)).set p v) else L.set (p + 1) v := by
      show (if befV A ((L.set (p + 1) v).getD (p + 1) 0) ((L.set (p + 1) v).getD p 0) = true then bub (befV A) p (((L.set (p + 1) v).set (p + 1) ((L.set (p + 1) v).getD p 0)).set p ((L.set (p + 1) v).getD (p + 1) 0)) else L.set (p + 1) v) = _
      rw [getD_set_eq hl, getD_set_ne (by omega), List.set_set]
    rw [n_le0 (by omega), if_neg (by omega), pk_sub (by omega), show p + 1 - 1 = p by omega, C_get0 h.1 hc4 (by rw [eL]; omega), cr1_s, eL, hb]
    generalize huu : L.getD p 0 = u at hu ⊢
    have hbef : pX4_comesAhead (nI v) (nI u) S = some (bI (befV A v u)) := by
      have iv' : RepC S (aLine A 0 c L) := h.1
      have h16 := cnt4 iv
      have hx := h.1
      unfold pX4_comesAhead befV
      rw [C_getV hx hv (by decide), cr1_s, C_getV hx hu (by decide), cr1_s, gd_p isZ_0, gd_p isZ_1, aT_line]
      by_cases q1 : aT A 4 v 0 < aT A 4 u 0
      · rw [if_pos q1, decide_eq_true (Or.inl q1), bI_t]
      · rw [if_neg q1]
        by_cases q2 : aT A 4 v 0 = aT A 4 u 0
        · rw [if_pos q2, n_le (by omega) (by omega)]
          by_cases q3 : u ≤ v
          · rw [if_pos q3, decide_eq_false, bI_f]
            rintro (z | z)
            · exact q1 z
            · omega
          · rw [if_neg q3, decide_eq_true (Or.inr ⟨q2, by omega⟩), bI_t]
        · rw [if_neg q2, decide_eq_false, bI_f]
          rintro (z | z)
          · exact q1 z
          · exact q2 z.1
    rw [hbef, cr1_s, bI_0]
    by_cases q : befV A v u = false
    · rw [if_pos q, if_neg (by rw [q]; simp)]
      exact hstop
    · have q' : befV A v u = true := by cases e : befV A v u with | true => rfl | false => exact absurd e q
      rw [if_neg q, if_pos q']
      obtain ⟨S1, e1, r1, z1⟩ := C_put0 (ρ := mM) h.1 (c := c) (p := p + 1) u hc4 (by rw [eL]; exact hl)
      rw [cr1_s, e1, vl_e]
      rw [eL, aLine_twice] at r1
      have e5 : nI (p + 1) + -1 = nI p := by
        rw [← Int32.sub_eq_add_neg]
        exact (pk_sub (a := p + 1) (b := 1) (by omega)).trans (by rw [show p + 1 - 1 = p by omega])
      rw [e5]
      have := ihp k S1 (L.set (p + 1) u) (by omega) (by omega) (by rw [List.length_set]; omega) (by rw [List.length_set]; exact h8) hv (fun j hj => by
        rw [List.length_set] at hj
        by_cases z : j = p + 1
        · subst z
          rw [getD_set_eq hj]
          exact hu
        · rw [getD_set_ne z]
          exact hL j hj) iv (h.to r1 z1)
      exact this
theorem c_ord_loop {c : Nat} (hc4 : c < 4) (iv : Inv A) : ∀ (n i k : Nat) (S : mM) (L : List Nat), n + i = L.length → n < k → L.length ≤ 8 → (∀ j, j < L.length → L.getD j 0 < aN A 4) → CR S (aLine A 0 c L) w fl st →
    ∃ S', pX4_putInOrder_l2 k (nI c) (nI i) S = some S' ∧ CR S' (aLine A 0 c (ordL (befV A) n i L)) w fl st := by
  intro n
  induction n with
  | zero =>
    intro i k S L hi hk h8 hL h
    obtain ⟨k, rfl⟩ : ∃ q, k = q + 1 := ⟨k - 1, by omega⟩
    show ∃ S', pX4_putInOrder_lb2 (pX4_putInOrder_l2 k) (nI c) (nI i) S = _ ∧ _
    unfold pX4_putInOrder_lb2
    rw [C_size0 h.1 hc4, cr1_s, aL_eq, n_le (by omega) (by omega), if_pos (by omega)]
    exact ⟨S, rfl, h⟩
  | succ n ih =>
    intro i k S L hi hk h8 hL h
    obtain ⟨k, rfl⟩ : ∃ q, k = q + 1 := ⟨k - 1, by omega⟩
    show ∃ S', pX4_putInOrder_lb2 (pX4_putInOrder_l2 k) (nI c) (nI i) S = _ ∧ _
    unfold pX4_putInOrder_lb2
    have eL : aL (aLine A 0 c L) 0 c = L := aL_eq _ _ _ _
    rw [C_size0 h.1 hc4, cr1_s, eL, n_le (by omega) (by omega), if_neg (by omega), C_get0 h.1 hc4 (by rw [eL]; omega), cr1_s, eL]
    obtain ⟨S1, e1, r1⟩ := c_bub (A := A) (i := i) (v := L.getD i 0) (ih2 := pX4_putInOrder_l2 k) hc4 i fuel S L (by unfold fuel; omega) (by omega) (by omega) h8 (hL i (by omega)) hL iv h
    rw [e1]
    rw [set_gd (by omega)] at r1
    have hp := bub_perm (befV A) i L (by omega)
    refine ih (i + 1) k S1 (bub (befV A) i L) (by rw [hp.length_eq]; omega) (by omega) (by rw [hp.length_eq]; exact h8) (fun j hj => ?_) r1
    have hm := hp.mem_iff.mp (getD_mem hj)
    obtain ⟨q, hq1, hq2⟩ := List.mem_iff_getElem.mp hm
    have := hL q hq1
    rw [List.getD_eq_getElem?_getD, List.getElem?_eq_getElem hq1] at this
    rw [← hq2]
    exact this
theorem aLine_self (A : aA) (k i : Nat) : aLine A k i (aL A k i) = A := by
  refine Prod.ext rfl (Prod.ext rfl (Prod.ext rfl ?_))
  funext a b
  show (if a = k ∧ b = i then A.2.2.2 k i else A.2.2.2 a b) = A.2.2.2 a b
  by_cases q : a = k ∧ b = i
  · rw [if_pos q, q.1, q.2]
  · rw [if_neg q]
theorem c_ord (h : CR S A w fl st) (iv : Inv A) {c : Nat} (hc : c < aN A 3) (hne : aL A 0 c ≠ []) : ∃ S', pX4_putInOrder (nI c) S = some S' ∧ CR S' (ordC c A) w fl st := by
  have h4 := cnt3 iv
  have h8 := (iv.line0 c hc).1
  have hl : 0 < (aL A 0 c).length := List.length_pos_iff.mpr hne
  have h' : CR S (aLine A 0 c (aL A 0 c)) w fl st := by rw [aLine_self]; exact h
  exact c_ord_loop (c := c) (by omega) iv ((aL A 0 c).length - 1) 1 fuel S (aL A 0 c) (by omega) (by unfold fuel; omega) h8 (fun j hj => iv.vok hc (getD_mem hj)) h'
end CH2
