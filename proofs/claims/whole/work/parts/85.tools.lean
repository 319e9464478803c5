/-! ===== same answer or same refusal; what the calls that only look tell ===== -/
def Ag (Es : List String) (r : Int32 ⊕ String) (b : Int32) (D' : mM) : Prop := (∃ v, r = .inl v ∧ b = v ∧ D' 0 0 = nI 0) ∨ ∃ i, i < Es.length ∧ r = .inr (Es.getD i "") ∧ D' 0 0 = nI (i + 1)
def MP (Es : List String) (c : Option ((Int32 ⊕ String) × mM)) (m : Option (Int32 × mM)) : Prop := ∃ r C' b D', c = some (r, C') ∧ m = some (b, D') ∧ PI C' D' ∧ Ag Es r b D'
def MG (Es : List String) (C : mM) (c : Option (Int32 ⊕ String)) (m : Option (Int32 × mM)) : Prop := ∃ r b D', c = some r ∧ m = some (b, D') ∧ PI C D' ∧ Ag Es r b D'
section TOOLS
variable {C C' D D' : mM} {A : aA} {Es : List String}
theorem MP.no {c : Option ((Int32 ⊕ String) × mM)} {m : Option (Int32 × mM)} {b : Int32} (h : PI C D) (i : Nat) (hi : i < Es.length) (hc : c = some (.inr (Es.getD i ""), C)) (hm : m = some (b, sto D 0 0 (nI (i + 1)))) : MP Es c m :=
  ⟨_, _, _, _, hc, hm, h.th _, Or.inr ⟨i, hi, rfl, sto_i _ _ _ _⟩⟩
theorem MG.no {c : Option (Int32 ⊕ String)} {m : Option (Int32 × mM)} {b : Int32} (h : PI C D) (i : Nat) (hi : i < Es.length) (hc : c = some (.inr (Es.getD i ""))) (hm : m = some (b, sto D 0 0 (nI (i + 1)))) : MG Es C c m :=
  ⟨_, _, _, hc, hm, h.th _, Or.inr ⟨i, hi, rfl, sto_i _ _ _ _⟩⟩
theorem MG.ok {c : Option (Int32 ⊕ String)} {m : Option (Int32 × mM)} {v : Int32} (h : PI C D) (hc : c = some (.inl v)) (hm : m = some (v, sto D 0 0 (nI 0))) : MG Es C c m :=
  ⟨_, _, _, hc, hm, h.th _, Or.inl ⟨v, rfl, rfl, sto_i _ _ _ _⟩⟩
theorem MP.ok {c : Option ((Int32 ⊕ String) × mM)} {m : Option (Int32 × mM)} {v : Int32} (hc : c = some (.inl v, C')) (hm : m = some (v, D')) (h : PI C' D') (h0 : D' 0 0 = nI 0) : MP Es c m :=
  ⟨_, _, _, _, hc, hm, h, Or.inl ⟨v, rfl, rfl, h0⟩⟩
theorem rng_ok {x y z : Int32} (h : y ≤ x ∧ x ≤ z) : pX6_checkRange x y z = some none := by
  unfold pX6_checkRange pX6_checkRange_b14 pX6_refuseArgumentIf
  rw [within_i, cr1_s, decide_eq_true h, if_neg (by decide), if_pos (by decide), bx_n]
theorem rng_no {x y z : Int32} (h : ¬ (y ≤ x ∧ x ≤ z)) : pX6_checkRange x y z = some (some "java/lang/IllegalArgumentException") := by
  unfold pX6_checkRange pX6_checkRange_b14 pX6_refuseArgumentIf
  rw [within_i, cr1_s, decide_eq_false h, if_pos (by decide), if_neg (by decide), bx_e]
theorem ref_0 : pX6_refuseIf (nI 0) = some none := by
  unfold pX6_refuseIf
  rw [if_pos (by decide)]
theorem ref_1 : pX6_refuseIf (nI 1) = some (some "java/lang/IllegalStateException") := by
  unfold pX6_refuseIf
  rw [if_neg (by decide)]
theorem refA_0 : pX6_refuseArgumentIf (nI 0) = some none := by
  unfold pX6_refuseArgumentIf
  rw [if_pos (by decide)]
theorem refA_1 : pX6_refuseArgumentIf (nI 1) = some (some "java/lang/IllegalArgumentException") := by
  unfold pX6_refuseArgumentIf
  rw [if_neg (by decide)]
theorem idx (x : Int32) (N : Nat) (hN : N < 2 ^ 20) : (∃ i, i < N ∧ x = nI i) ∨ (x < 0 ∨ nI N ≤ x) := by
  by_cases q : x < 0
  · exact Or.inr (Or.inl q)
  · obtain ⟨j, j1, j2⟩ := nI_of q
    by_cases z : j < N
    · exact Or.inl ⟨j, z, j2⟩
    · refine Or.inr (Or.inr ?_)
      rw [j2, P_le (by omega) j1]
      omega
theorem rngN {x : Int32} {l m : Nat} (hl : l < 2 ^ 31) (hm : m < 2 ^ 31) (h : nI l ≤ x ∧ x ≤ nI m) : ∃ q, l ≤ q ∧ q ≤ m ∧ x = nI q := by
  obtain ⟨j, j1, j2⟩ := nI_of (x := x) (fun z => absurd (Int32.lt_of_le_of_lt h.1 z) (by rw [P_lt0 hl]; exact fun y => y))
  subst j2
  rw [P_le hl j1, P_le j1 hm] at h
  exact ⟨j, h.1, h.2, rfl⟩
theorem ex_ok {S : mM} (h : RepC S A) (iv : Inv A) {k o N i : Nat} (hk : k < 5) (ho : o = 1 + 2 * k) (hi : i < aN A k) : pX6_checkExists N (nI i) (sB S o) = some none := by
  have hM : aMx k ≤ 16 := by rcases k5 hk with rfl | rfl | rfl | rfl | rfl <;> decide
  have hN := iv.cnt k hk
  unfold pX6_checkExists
  rw [C_has h hk ho (by omega) iv, cr1_s, decide_eq_true hi, if_neg (by decide)]
theorem ex_no {S : mM} (h : RepC S A) {k o N : Nat} {x : Int32} (hk : k < 5) (ho : o = 1 + 2 * k) (hx : x < 0 ∨ nI (aN A k) ≤ x) : pX6_checkExists N x (sB S o) = some (some "java/lang/IndexOutOfBoundsException") := by
  subst ho
  unfold pX6_checkExists
  rw [tab_has (h.2.1 k hk), if_pos hx, cr1_s, if_pos (by decide)]
theorem mix_ok {i N : Nat} (hi : i < N) (hN : N < 2 ^ 20) : pX7_in (nI i).toInt64 (lN 0) ((nI N - nI 1).toInt64) = some (bI true) := by
  rw [show lN 0 = (nI 0).toInt64 from (nI_l (by decide)).symm, in_32, pk_sub (by omega), decide_eq_true]
  exact ⟨by rw [P_le (by decide) (by omega)]; omega, by rw [P_le (by omega) (by omega)]; omega⟩
theorem mix_no {x : Int32} {N : Nat} (hN : N < 2 ^ 20) (hx : x < 0 ∨ nI N ≤ x) : pX7_in x.toInt64 (lN 0) ((nI N - nI 1).toInt64) = some (bI false) := by
  rw [show lN 0 = (nI 0).toInt64 from (nI_l (by decide)).symm, in_32, decide_eq_false]
  rintro ⟨h1, h2⟩
  rcases hx with hx | hx
  · exact absurd (Int32.lt_of_le_of_lt h1 hx) (by decide)
  · by_cases z : N = 0
    · subst z
      exact absurd (Int32.le_trans h1 h2) (by decide)
    · rw [pk_sub (by omega)] at h2
      have h3 := Int32.le_trans hx h2
      rw [P_le (by omega) (by omega)] at h3
      omega
theorem s4 : sB C 4 = sB (sB C 3) 1 := (sB_sB (a := 3) (b := 1)).symm
theorem s6 : sB C 6 = sB (sB C 3) 3 := (sB_sB (a := 3) (b := 3)).symm
theorem s8 : sB C 8 = sB (sB C 3) 5 := (sB_sB (a := 3) (b := 5)).symm
theorem s10 : sB C 10 = sB (sB C 3) 7 := (sB_sB (a := 3) (b := 7)).symm
theorem s12 : sB C 12 = sB (sB C 3) 9 := (sB_sB (a := 3) (b := 9)).symm
theorem s14 : sB C 14 = sB (sB C 3) 11 := (sB_sB (a := 3) (b := 11)).symm
theorem s17 : sB C 17 = sB (sB C 3) 14 := (sB_sB (a := 3) (b := 14)).symm
theorem s25 : sB C 25 = sB (sB C 20) 5 := (sB_sB (a := 20) (b := 5)).symm
theorem s27 : sB C 27 = sB (sB C 20) 7 := (sB_sB (a := 20) (b := 7)).symm
theorem s29 : sB C 29 = sB (sB C 20) 9 := (sB_sB (a := 20) (b := 9)).symm
theorem inr_ok {x : Int32} {l m : Nat} (hl : l < 2 ^ 31) (hm : m < 2 ^ 31) (h : nI l ≤ x ∧ x ≤ nI m) : pX7_in x.toInt64 (lN l) (lN m) = some (bI true) := by
  rw [in_n _ hl hm, decide_eq_true h]
theorem inr_no {x : Int32} {l m : Nat} (hl : l < 2 ^ 31) (hm : m < 2 ^ 31) (h : ¬ (nI l ≤ x ∧ x ≤ nI m)) : pX7_in x.toInt64 (lN l) (lN m) = some (bI false) := by
  rw [in_n _ hl hm, decide_eq_false h]
theorem isConvoy_ok (h : RepR (D 3) A) (iv : Inv A) {i : Nat} (hi : i < aN A 3) : pX7_isConvoy (nI i) D = some (bI true) := by
  have h4 := cnt3 iv
  unfold pX7_isConvoy
  rw [R_n3 h, mix_ok hi (by omega), cr1_s, gd_p (bI_Z _)]
theorem isConvoy_no (h : RepR (D 3) A) (iv : Inv A) {x : Int32} (hx : x < 0 ∨ nI (aN A 3) ≤ x) : pX7_isConvoy x D = some (bI false) := by
  have h4 := cnt3 iv
  unfold pX7_isConvoy
  rw [R_n3 h, mix_no (by omega) hx, cr1_s, gd_p (bI_Z _)]
theorem isDepot_ok (h : RepR (D 3) A) (iv : Inv A) {i : Nat} (hi : i < aN A 2) : pX7_isDepot (nI i) D = some (bI true) := by
  have h4 : aN A 2 ≤ 4 := iv.cnt 2 (by decide)
  unfold pX7_isDepot
  rw [R_n2 h, mix_ok hi (by omega), cr1_s, gd_p (bI_Z _)]
theorem isDepot_no (h : RepR (D 3) A) (iv : Inv A) {x : Int32} (hx : x < 0 ∨ nI (aN A 2) ≤ x) : pX7_isDepot x D = some (bI false) := by
  have h4 : aN A 2 ≤ 4 := iv.cnt 2 (by decide)
  unfold pX7_isDepot
  rw [R_n2 h, mix_no (by omega) hx, cr1_s, gd_p (bI_Z _)]
end TOOLS
section LITERS
variable {S : mM} {A : aA}
def litF (A : aA) (x : Int32) (L : List Nat) : Int32 := L.foldl (fun s v => s + aT A 4 v 3) x
theorem c_liters (h : RepC S A) (iv : Inv A) {c : Nat} (hc : c < aN A 3) : pX4_litersWith (nI c) S = some (litF A (nI 0) (aL A 0 c)) := by
  have h4 := cnt3 iv
  have h8 := (iv.line0 c hc).1
  have main : ∀ (m i k : Nat) (x : Int32), i + m = (aL A 0 c).length → m < k → pX4_litersWith_l4 S k (nI c) x (nI i) = some (litF A x ((aL A 0 c).drop i)) := by
    intro m
    induction m with
    | zero =>
      intro i k x hi hk
      obtain ⟨k, rfl⟩ : ∃ q, k = q + 1 := ⟨k - 1, by omega⟩
      show pX4_litersWith_lb4 (pX4_litersWith_l4 S k) S (nI c) x (nI i) = _
      unfold pX4_litersWith_lb4
      rw [C_size0 h (by omega), cr1_s, n_le (by omega) (by omega), if_pos (by omega), List.drop_eq_nil_of_le (by omega)]
      rfl
    | succ m ih =>
      intro i k x hi hk
      obtain ⟨k, rfl⟩ : ∃ q, k = q + 1 := ⟨k - 1, by omega⟩
      show pX4_litersWith_lb4 (pX4_litersWith_l4 S k) S (nI c) x (nI i) = _
      unfold pX4_litersWith_lb4
      have hv := iv.vok hc (getD_mem (x := aL A 0 c) (i := i) (by omega))
      rw [C_size0 h (by omega), cr1_s, n_le (by omega) (by omega), if_neg (by omega), C_get0 h (by omega) (by omega), cr1_s, C_getV h hv (by decide), cr1_s, vl_e, vl_e, nI_add, ih (i + 1) k _ (by omega) (by omega), drop_get (x := aL A 0 c) (i := i) (by omega)]
      rfl
  unfold pX4_litersWith
  rw [main (aL A 0 c).length 0 fuel (nI 0) (by omega) (by unfold fuel; omega), List.drop_zero]
theorem m_liters (h : RepR (S 0) A) (iv : Inv A) {c : Nat} (hc : c < aN A 3) : pX7_litersOf (nI c) S = some (litF A (nI 0) (aL A 0 c)) := by
  have h4 := cnt3 iv
  have h8 := (iv.line0 c hc).1
  have main : ∀ (m i k : Nat) (x : Int32), i + m = (aL A 0 c).length → m < k → pX7_litersOf_l4 S k (nI c) x (nI i) = some (litF A x ((aL A 0 c).drop i)) := by
    intro m
    induction m with
    | zero =>
      intro i k x hi hk
      obtain ⟨k, rfl⟩ : ∃ q, k = q + 1 := ⟨k - 1, by omega⟩
      show pX7_litersOf_lb4 (pX7_litersOf_l4 S k) S (nI c) x (nI i) = _
      unfold pX7_litersOf_lb4
      rw [m_sizeOf h hc, cr1_s, n_le (by omega) (by omega), if_pos (by omega), List.drop_eq_nil_of_le (by omega)]
      rfl
    | succ m ih =>
      intro i k x hi hk
      obtain ⟨k, rfl⟩ : ∃ q, k = q + 1 := ⟨k - 1, by omega⟩
      show pX7_litersOf_lb4 (pX7_litersOf_l4 S k) S (nI c) x (nI i) = _
      unfold pX7_litersOf_lb4
      have hv := iv.vok hc (getD_mem (x := aL A 0 c) (i := i) (by omega))
      rw [m_sizeOf h hc, cr1_s, n_le (by omega) (by omega), if_neg (by omega), m_who h hc (by omega), cr1_s, carAt_n, cr1_s, R_ldV h hv (by decide), vl_e, vl_e, nI_add, ih (i + 1) k _ (by omega) (by omega), drop_get (x := aL A 0 c) (i := i) (by omega)]
      rfl
  unfold pX7_litersOf
  rw [main (aL A 0 c).length 0 fuel (nI 0) (by omega) (by unfold fuel; omega), List.drop_zero]
theorem shut_lt {q p : Nat} (r : Int32) (hp : p ≤ 24) (hq : q < p) (h1 : -(p : Int) < r.toInt) (h2 : r.toInt < p) : (nI 0 < nI q - r) = (r < nI q) := by
  have e : (nI q - r).toInt = q - r.toInt := by
    rw [Int32.toInt_sub, nI_toInt (by omega)]
    exact Int.bmod_eq_of_le (by omega) (by omega)
  rw [Int32.lt_iff_toInt_lt, Int32.lt_iff_toInt_lt, e, nI_toInt (by decide), nI_toInt (by omega)]
  exact propext (by omega)
theorem m_clF (h : RepR (S 3) A) (iv : Inv A) {g : Nat} (hg : g < aN A 0) : pX7_closedFor (nI g) S = some (clF A g) := by
  obtain ⟨p, q, h1, h2, h3, h4, h5⟩ := iv.gate g hg
  have hz : ¬ (nI p = 0) := by rw [P_eq0 (by omega)]; omega
  unfold pX7_closedFor
  rw [R_ld1 h, gateAt_n, cr1_s, R_ldG h hg (by decide), gateAt_n, cr1_s, R_ldG h hg (by decide), h1]
  unfold nz
  obtain ⟨r1, r2⟩ := remI_lt (aS A 1 + aT A 0 g 3) (n := p) (by omega) (by omega)
  rw [gd_p (decide_eq_true hz), vl_e, gateAt_n, cr1_s, R_ldG h hg (by decide), h4, cr1_s, R_ldG h hg (by decide), h4]
  unfold clF
  rw [h1, h4, n_if (shut_lt (q := q) (p := p) _ h3 h5 r1 r2)]
  show (if nI q ≤ remI (aS A 1 + aT A 0 g 3) (nI p) then some (nI 0) else some (nI q - remI (aS A 1 + aT A 0 g 3) (nI p))) = _
  by_cases z : remI (aS A 1 + aT A 0 g 3) (nI p) < nI q
  · rw [if_neg (Int32.not_le.mpr z), if_pos z]
  · rw [if_pos (Int32.not_lt.mp z), if_neg z]
end LITERS
