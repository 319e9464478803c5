/-! ===== the reference's row: reads and writes ===== -/
theorem sto_u (S : mM) (b q : Nat) (x : Int32) : sto S b q x b = upd (S b) q x := by
  funext j
  rw [sto_a]
  unfold upd
  by_cases h : j = q
  · rw [if_pos ⟨rfl, h⟩, if_pos h]
  · rw [if_neg (fun z => h z.2), if_neg h]
theorem sto_o {S : mM} {b q a : Nat} {x : Int32} (h : a ≠ b) : sto S b q x a = S a := sto_k h
section ROW2
variable {ρ : Type} {S : mM} {A : aA} {b : Nat} {r : Nat → Int32}
theorem carAt_n (v j : Nat) : pX7_carAt (nI v) (nI j) = some (nI (138 + 7 * v + j)) := by
  unfold pX7_carAt
  rw [pk_mul, nI_add, nI_add]
theorem convoyAt_n (v j : Nat) : pX7_convoyAt (nI v) (nI j) = some (nI (86 + 13 * v + j)) := by
  unfold pX7_convoyAt
  rw [pk_mul, nI_add, nI_add]
theorem depotAt_n (v j : Nat) : pX7_depotAt (nI v) (nI j) = some (nI (78 + 2 * v + j)) := by
  unfold pX7_depotAt
  rw [pk_mul, nI_add, nI_add]
theorem bayAt_n (v j : Nat) : pX7_bayAt (nI v) (nI j) = some (nI (24 + 9 * v + j)) := by
  unfold pX7_bayAt
  rw [pk_mul, nI_add, nI_add]
theorem gateAt_n (v j : Nat) : pX7_gateAt (nI v) (nI j) = some (nI (8 + 4 * v + j)) := by
  unfold pX7_gateAt
  rw [pk_mul, nI_add, nI_add]
theorem R_lt (h : RepR r A) {k i : Nat} (hk : k < 5) (hi : i < aN A k) : i < aMx k := Nat.lt_of_lt_of_le hi (h.n hk)
theorem R_ld (h : RepR (S b) A) {k i j q : Nat} {K : Int32 → Option ρ} (hk : k < 5) (hq : q = rix k i j) (hi : i < aN A k) (hj : j < aCo k) : ld S b 250 (nI q) K = K (aT A k i j) := by
  subst hq
  have := rix_lt hk (R_lt h hk hi) hj
  rw [ld_n this.2 (by decide), h.2.2.1 k i j hk hi hj]
theorem R_ld0 (h : RepR (S b) A) {K : Int32 → Option ρ} : ld S b 250 (nI 0) K = K (aS A 0) := by rw [ld_n (by decide) (by decide), h.1.1]
theorem R_ld1 (h : RepR (S b) A) {K : Int32 → Option ρ} : ld S b 250 (nI 1) K = K (aS A 1) := by rw [ld_n (by decide) (by decide), h.1.2]
theorem R_cnt (h : RepR (S b) A) {k q : Nat} {K : Int32 → Option ρ} (hk : k < 5) (hq : q = 2 + k) : ld S b 250 (nI q) K = K (nI (aN A k)) := by
  subst hq
  rw [ld_n (by omega) (by decide), (h.2.1 k hk).1]
theorem R_size (h : RepR (S b) A) {k i q : Nat} {K : Int32 → Option ρ} (hk : k < 2) (hq : q = lsz k i) (hi : i < aN A (lTb k)) : ld S b 250 (nI q) K = K (nI (aL A k i).length) := by
  subst hq
  have := lsz_lt hk (R_lt h (lTb_lt hk) hi)
  rw [ld_n this.2 (by decide), (h.2.2.2.1 k i hk hi).2.1]
theorem R_who (h : RepR (S b) A) {k i j q : Nat} {K : Int32 → Option ρ} (hk : k < 2) (hq : q = lix k i j) (hi : i < aN A (lTb k)) (hj : j < (aL A k i).length) : ld S b 250 (nI q) K = K (nI ((aL A k i).getD j 0)) := by
  subst hq
  have h5 := h.2.2.2.1 k i hk hi
  have := lix_lt hk (R_lt h (lTb_lt hk) hi) (j := j) (by omega)
  rw [ld_n this.2 (by decide), h5.2.2 j hj]
theorem R_ldV (h : RepR (S b) A) {i j : Nat} {K : Int32 → Option ρ} (hi : i < aN A 4) (hj : j < 7) : ld S b 250 (nI (138 + 7 * i + j)) K = K (aT A 4 i j) := R_ld h (k := 4) (by decide) rfl hi hj
theorem R_ldD (h : RepR (S b) A) {i j : Nat} {K : Int32 → Option ρ} (hi : i < aN A 2) (hj : j < 2) : ld S b 250 (nI (78 + 2 * i + j)) K = K (aT A 2 i j) := R_ld h (k := 2) (by decide) rfl hi hj
theorem R_ldB (h : RepR (S b) A) {i j : Nat} {K : Int32 → Option ρ} (hi : i < aN A 1) (hj : j < 2) : ld S b 250 (nI (24 + 9 * i + j)) K = K (aT A 1 i j) := R_ld h (k := 1) (by decide) rfl hi hj
theorem R_ldG (h : RepR (S b) A) {i j : Nat} {K : Int32 → Option ρ} (hi : i < aN A 0) (hj : j < 4) : ld S b 250 (nI (8 + 4 * i + j)) K = K (aT A 0 i j) := R_ld h (k := 0) (by decide) rfl hi hj
theorem R_ldC0 (h : RepR (S b) A) {i : Nat} {K : Int32 → Option ρ} (hi : i < aN A 3) : ld S b 250 (nI (86 + 13 * i + 0)) K = K (aT A 3 i 0) := R_ld h (k := 3) (j := 0) (by decide) rfl hi (by decide)
theorem R_ldC1 (h : RepR (S b) A) {i : Nat} {K : Int32 → Option ρ} (hi : i < aN A 3) : ld S b 250 (nI (86 + 13 * i + 2)) K = K (aT A 3 i 1) := R_ld h (k := 3) (j := 1) (by decide) rfl hi (by decide)
theorem R_ldC2 (h : RepR (S b) A) {i : Nat} {K : Int32 → Option ρ} (hi : i < aN A 3) : ld S b 250 (nI (86 + 13 * i + 3)) K = K (aT A 3 i 2) := R_ld h (k := 3) (j := 2) (by decide) rfl hi (by decide)
theorem R_ldC3 (h : RepR (S b) A) {i : Nat} {K : Int32 → Option ρ} (hi : i < aN A 3) : ld S b 250 (nI (86 + 13 * i + 4)) K = K (aT A 3 i 3) := R_ld h (k := 3) (j := 3) (by decide) rfl hi (by decide)
theorem R_n0 (h : RepR (S b) A) {K : Int32 → Option ρ} : ld S b 250 (nI 2) K = K (nI (aN A 0)) := R_cnt h (k := 0) (by decide) rfl
theorem R_n1 (h : RepR (S b) A) {K : Int32 → Option ρ} : ld S b 250 (nI 3) K = K (nI (aN A 1)) := R_cnt h (k := 1) (by decide) rfl
theorem R_n2 (h : RepR (S b) A) {K : Int32 → Option ρ} : ld S b 250 (nI 4) K = K (nI (aN A 2)) := R_cnt h (k := 2) (by decide) rfl
theorem R_n3 (h : RepR (S b) A) {K : Int32 → Option ρ} : ld S b 250 (nI 5) K = K (nI (aN A 3)) := R_cnt h (k := 3) (by decide) rfl
theorem R_n4 (h : RepR (S b) A) {K : Int32 → Option ρ} : ld S b 250 (nI 6) K = K (nI (aN A 4)) := R_cnt h (k := 4) (by decide) rfl
theorem R_size0 (h : RepR (S b) A) {i : Nat} {K : Int32 → Option ρ} (hi : i < aN A 3) : ld S b 250 (nI (86 + 13 * i + 1)) K = K (nI (aL A 0 i).length) := R_size h (k := 0) (by decide) rfl hi
theorem R_size1 (h : RepR (S b) A) {i : Nat} {K : Int32 → Option ρ} (hi : i < aN A 1) : ld S b 250 (nI (24 + 9 * i + 2)) K = K (nI (aL A 1 i).length) := R_size h (k := 1) (by decide) rfl hi
theorem R_who0 (h : RepR (S b) A) {i j : Nat} {K : Int32 → Option ρ} (hi : i < aN A 3) (hj : j < (aL A 0 i).length) : ld S b 250 (nI (86 + 13 * i + (5 + j))) K = K (nI ((aL A 0 i).getD j 0)) := R_who h (k := 0) (by decide) rfl hi hj
theorem R_head (h : RepR (S b) A) {i : Nat} {K : Int32 → Option ρ} (hi : i < aN A 1) (hj : 0 < (aL A 1 i).length) : ld S b 250 (nI (24 + 9 * i + 3)) K = K (nI ((aL A 1 i).getD 0 0)) := R_who h (k := 1) (j := 0) (by decide) rfl hi hj
theorem R_st (h : RepR (S b) A) {k i j q : Nat} {K : mM → Option ρ} (x : Int32) (hk : k < 5) (hq : q = rix k i j) (hi : i < aN A k) (hj : j < aCo k) (h6 : ¬ (k = 4 ∧ j = 6)) :
    st S b 250 (nI q) x K = K (sto S b q x) ∧ RepR (sto S b q x b) (aPut A k i j x) := by
  subst hq
  have := rix_lt hk (R_lt h hk hi) hj
  refine ⟨st_n this.2 (by decide), ?_⟩
  rw [sto_u]
  exact h.put x hk hi hj h6
/-- a line of the row anew -/
theorem RepR.line {r' : Nat → Int32} (h : RepR r A) {k i : Nat} {L : List Nat} (hk : k < 2) (hi : i < aN A (lTb k)) (hL : L.length ≤ lMx k) (h1 : r' (lsz k i) = nI L.length) (h2 : ∀ j, j < L.length → r' (lix k i j) = nI (L.getD j 0))
    (ho : ∀ q, q < 250 → q ≠ lsz k i → (∀ j, j < lMx k → q ≠ lix k i j) → r' q = r q) : RepR r' (aLine A k i L) := by
  obtain ⟨⟨g1, g2⟩, g3, g4, g5, g7⟩ := id h
  have hi' := R_lt h (lTb_lt hk) hi
  have l1 := lsz_lt hk hi'
  have l2 : ∀ j, j < lMx k → 8 ≤ lix k i j := fun j hj => (lix_lt hk hi' hj).1
  have low : ∀ q, q < 8 → r' q = r q := fun q hq => ho q (by omega) (by omega) (fun j hj => by have := l2 j hj; omega)
  refine ⟨⟨by rw [low 0 (by omega)]; exact g1, by rw [low 1 (by omega)]; exact g2⟩, fun a ha => by rw [low _ (by omega)]; exact g3 a ha, fun a c d ha hc hd => ?_, fun a c ha hc => ?_, by rw [low 7 (by omega)]; exact g7⟩
  · have hc' := R_lt h ha hc
    rw [ho _ (rix_lt ha hc' hd).2 (rix_lsz ha hc' hd hk hi') (fun j hj => rix_lix ha hc' hd hk hi' hj)]
    exact g4 a c d ha hc hd
  · rw [aL_line]
    by_cases q : a = k ∧ c = i
    · obtain ⟨rfl, rfl⟩ := q
      rw [if_pos ⟨rfl, rfl⟩]
      exact ⟨hL, h1, h2⟩
    · rw [if_neg q]
      obtain ⟨k1, k2, k3⟩ := g5 a c ha hc
      have hc' := R_lt h (lTb_lt ha) hc
      refine ⟨k1, ?_, fun j hj => ?_⟩
      · rw [ho _ (lsz_lt ha hc').2 (lsz_ne ha hc' hk hi' q) (fun j hj => lsz_lix ha hc' hk hi' hj)]
        exact k2
      · rw [ho _ (lix_lt ha hc' (by omega)).2 (Ne.symm (lsz_lix hk hi' ha hc' (by omega))) (fun j' hj' => lix_ne ha hc' (by omega) hk hi' hj' (fun z => q ⟨z.1, z.2.1⟩))]
        exact k3 j hj
/-- the cells that a step of the reference leaves as they are: all but the row b -/
def Oth (b : Nat) (S S' : mM) : Prop := ∀ a, a ≠ b → S' a = S a
theorem Oth.rf {S : mM} {b : Nat} : Oth b S S := fun _ _ => rfl
theorem Oth.tr {S T U : mM} {b : Nat} (h : Oth b S T) (g : Oth b T U) : Oth b S U := fun a ha => (g a ha).trans (h a ha)
theorem Oth.sto {S T : mM} {b q : Nat} {x : Int32} (h : Oth b S T) : Oth b S (sto T b q x) := fun a ha => (sto_o ha).trans (h a ha)
/-- those behind a place close up -/
theorem drop_n {at' many : Nat} (hm : many ≤ 8) (ha : at' + many ≤ 240) : ∀ (n i k : Nat) (S : mM), n + i + 1 = many → n < k →
    ∃ S', pX7_drop_l3 k (nI at') (nI many) (nI i) S = some S' ∧ Oth 0 S S' ∧ ∀ q, S' 0 q = if at' + i ≤ q ∧ q + 1 < at' + many then S 0 (q + 1) else S 0 q := by
  intro n
  induction n with
  | zero =>
    intro i k S hn hk
    obtain ⟨k, rfl⟩ : ∃ q, k = q + 1 := ⟨k - 1, by omega⟩
    refine ⟨S, ?_, Oth.rf, fun q => by rw [if_neg (by omega)]⟩
    show pX7_drop_lb3 (pX7_drop_l3 k) _ _ _ S = _
    unfold pX7_drop_lb3
    rw [pk_sub (by omega), n_le (by omega) (by omega), if_pos (by omega)]
  | succ n ih =>
    intro i k S hn hk
    obtain ⟨k, rfl⟩ : ∃ q, k = q + 1 := ⟨k - 1, by omega⟩
    show ∃ S', pX7_drop_lb3 (pX7_drop_l3 k) _ _ _ S = some S' ∧ _
    unfold pX7_drop_lb3
    rw [pk_sub (by omega), n_le (by omega) (by omega), if_neg (by omega), nI_add, nI_add, ld_n (by omega) (by decide), st_n (by omega) (by decide), vl_e, nI_add]
    obtain ⟨S', e1, e2, e3⟩ := ih (i + 1) k (sto S 0 (at' + i) (S 0 (at' + i + 1))) (by omega) (by omega)
    refine ⟨S', e1, fun a ha => (e2 a ha).trans (sto_o ha), fun q => ?_⟩
    rw [e3]
    by_cases q1 : at' + (i + 1) ≤ q ∧ q + 1 < at' + many
    · rw [if_pos q1, if_pos (by omega), sto_j (by omega)]
    · rw [if_neg q1]
      by_cases q2 : q = at' + i
      · subst q2
        rw [sto_i, if_pos (by omega)]
      · rw [sto_j q2, if_neg (by omega)]
theorem R_drop {at' i many : Nat} (hm : many ≤ 8) (ha : at' + many ≤ 240) (hi : i < many) (S : mM) : ∃ S', pX7_drop (nI at') (nI i) (nI many) S = some S' ∧ Oth 0 S S' ∧ ∀ q, S' 0 q = if at' + i ≤ q ∧ q + 1 < at' + many then S 0 (q + 1) else S 0 q :=
  drop_n hm ha (many - 1 - i) i fuel S (by omega) (by unfold fuel; omega)
theorem m_sizeOf (h : RepR (S 0) A) {c : Nat} (hc : c < aN A 3) : pX7_sizeOf (nI c) S = some (nI (aL A 0 c).length) := by
  unfold pX7_sizeOf
  rw [convoyAt_n, cr1_s, R_size0 h hc]
theorem m_who (h : RepR (S 0) A) {c i : Nat} (hc : c < aN A 3) (hi : i < (aL A 0 c).length) : pX7_who (nI c) (nI i) S = some (nI ((aL A 0 c).getD i 0)) := by
  unfold pX7_who
  rw [nI_add, convoyAt_n, cr1_s, R_who0 h hc hi]
theorem m_short (h : RepR (S 0) A) {v : Nat} (hv : v < aN A 4) : pX7_isShort (nI v) S = some (bI (shortV A v)) := by
  unfold pX7_isShort
  rw [carAt_n, cr1_s, R_ldV h hv (by decide), carAt_n, cr1_s, R_ldV h hv (by decide), gd_p isZ_0, gd_p isZ_1]
  unfold shortV
  by_cases q : aT A 4 v 1 ≤ aT A 4 v 3
  · rw [if_pos q, decide_eq_false (Int32.not_lt.mpr q), bI_f]
  · rw [if_neg q, decide_eq_true (Int32.not_le.mp q), bI_t]
theorem m_there (h : RepR (S 0) A) {c : Nat} (hc : c < aN A 3) : pX7_isThere (nI c) S = some (bI (decide (aT A 3 c 0 = aS A 0))) := by
  unfold pX7_isThere
  rw [convoyAt_n, cr1_s, R_ldC0 h hc, R_ld0 h, gd_p isZ_0, gd_p isZ_1]
  by_cases q : aT A 3 c 0 = aS A 0
  · rw [if_pos q, decide_eq_true q, bI_t]
  · rw [if_neg q, decide_eq_false q, bI_f]
theorem rowF_step {f : Nat → Nat → Int32} {x : Int32} (n : Nat) : oI (rowF f x (n + 1)) = if f n 0 = x then nI n else oI (rowF f x n) := by
  show oI (if f n 0 = x then some n else rowF f x n) = _
  by_cases q : f n 0 = x
  · rw [if_pos q, if_pos q]
    rfl
  · rw [if_neg q, if_neg q]
theorem m_bayOn (h : RepR (S 0) A) (x : Int32) : pX7_bayOn x S = some (oI (rowF (aT A 1) x (aN A 1))) := by
  have h6 : aN A 1 ≤ 6 := h.n (by decide)
  have main : ∀ (n i k : Nat), n + i = aN A 1 → n < k → pX7_bayOn_l5 S k x (oI (rowF (aT A 1) x i)) (nI i) = some (oI (rowF (aT A 1) x (aN A 1))) := by
    intro n
    induction n with
    | zero =>
      intro i k hi hk
      obtain ⟨k, rfl⟩ : ∃ q, k = q + 1 := ⟨k - 1, by omega⟩
      show pX7_bayOn_lb5 (pX7_bayOn_l5 S k) S x _ (nI i) = _
      unfold pX7_bayOn_lb5
      rw [R_n1 h, n_le (by omega) (by omega), if_pos (by omega), show i = aN A 1 by omega]
    | succ n ih =>
      intro i k hi hk
      obtain ⟨k, rfl⟩ : ∃ q, k = q + 1 := ⟨k - 1, by omega⟩
      show pX7_bayOn_lb5 (pX7_bayOn_l5 S k) S x _ (nI i) = _
      unfold pX7_bayOn_lb5
      have e := ih (i + 1) k (by omega) (by omega)
      rw [rowF_step] at e
      rw [R_n1 h, n_le (by omega) (by omega), if_neg (by omega), bayAt_n, cr1_s, R_ldB h (by omega) (by decide), vl_e, nI_add, vl_e]
      by_cases q : aT A 1 i 0 = x
      · rw [if_pos q] at e ⊢
        exact e
      · rw [if_neg q] at e ⊢
        exact e
  exact main (aN A 1) 0 fuel (by omega) (by unfold fuel; omega)
theorem m_depotOn (h : RepR (S 0) A) (x : Int32) : pX7_depotOn x S = some (oI (rowF (aT A 2) x (aN A 2))) := by
  have h6 : aN A 2 ≤ 4 := h.n (by decide)
  have main : ∀ (n i k : Nat), n + i = aN A 2 → n < k → pX7_depotOn_l5 S k x (oI (rowF (aT A 2) x i)) (nI i) = some (oI (rowF (aT A 2) x (aN A 2))) := by
    intro n
    induction n with
    | zero =>
      intro i k hi hk
      obtain ⟨k, rfl⟩ : ∃ q, k = q + 1 := ⟨k - 1, by omega⟩
      show pX7_depotOn_lb5 (pX7_depotOn_l5 S k) S x _ (nI i) = _
      unfold pX7_depotOn_lb5
      rw [R_n2 h, n_le (by omega) (by omega), if_pos (by omega), show i = aN A 2 by omega]
    | succ n ih =>
      intro i k hi hk
      obtain ⟨k, rfl⟩ : ∃ q, k = q + 1 := ⟨k - 1, by omega⟩
      show pX7_depotOn_lb5 (pX7_depotOn_l5 S k) S x _ (nI i) = _
      unfold pX7_depotOn_lb5
      have e := ih (i + 1) k (by omega) (by omega)
      rw [rowF_step] at e
      rw [R_n2 h, n_le (by omega) (by omega), if_neg (by omega), depotAt_n, cr1_s, R_ldD h (by omega) (by decide), vl_e, nI_add, vl_e]
      by_cases q : aT A 2 i 0 = x
      · rw [if_pos q] at e ⊢
        exact e
      · rw [if_neg q] at e ⊢
        exact e
  exact main (aN A 2) 0 fuel (by omega) (by unfold fuel; omega)
theorem m_gateOn (h : RepR (S 0) A) (x : Int32) : pX7_gateOn x S = some (oI (rowF (aT A 0) x (aN A 0))) := by
  have h6 : aN A 0 ≤ 4 := h.n (by decide)
  have main : ∀ (n i k : Nat), n + i = aN A 0 → n < k → pX7_gateOn_l5 S k x (oI (rowF (aT A 0) x i)) (nI i) = some (oI (rowF (aT A 0) x (aN A 0))) := by
    intro n
    induction n with
    | zero =>
      intro i k hi hk
      obtain ⟨k, rfl⟩ : ∃ q, k = q + 1 := ⟨k - 1, by omega⟩
      show pX7_gateOn_lb5 (pX7_gateOn_l5 S k) S x _ (nI i) = _
      unfold pX7_gateOn_lb5
      rw [R_n0 h, n_le (by omega) (by omega), if_pos (by omega), show i = aN A 0 by omega]
    | succ n ih =>
      intro i k hi hk
      obtain ⟨k, rfl⟩ : ∃ q, k = q + 1 := ⟨k - 1, by omega⟩
      show pX7_gateOn_lb5 (pX7_gateOn_l5 S k) S x _ (nI i) = _
      unfold pX7_gateOn_lb5
      have e := ih (i + 1) k (by omega) (by omega)
      rw [rowF_step] at e
      rw [R_n0 h, n_le (by omega) (by omega), if_neg (by omega), gateAt_n, cr1_s, R_ldG h (by omega) (by decide), vl_e, nI_add, vl_e]
      by_cases q : aT A 0 i 0 = x
      · rw [if_pos q] at e ⊢
        exact e
      · rw [if_neg q] at e ⊢
        exact e
  exact main (aN A 0) 0 fuel (by omega) (by unfold fuel; omega)
theorem m_closed (h : RepR (S 0) A) (iv : Inv A) {g : Nat} (hg : g < aN A 0) : pX7_isClosed (nI g) S = some (bI (shutG A g)) := by
  obtain ⟨p, q, h1, h2, h3, h4, h5⟩ := iv.gate g hg
  unfold pX7_isClosed
  rw [R_ld1 h, gateAt_n, cr1_s, R_ldG h hg (by decide), gateAt_n, cr1_s, R_ldG h hg (by decide)]
  have hz : ¬ (aT A 0 g 1 = 0) := by rw [h1, P_eq0 (by omega)]; omega
  unfold nz
  rw [gd_p (decide_eq_true hz), gateAt_n, cr1_s, R_ldG h hg (by decide), gd_p isZ_0, gd_p isZ_1]
  unfold shutG remI
  by_cases z : aT A 0 g 2 ≤ aS A 1 + aT A 0 g 3 - (aS A 1 + aT A 0 g 3) / aT A 0 g 1 * aT A 0 g 1
  · rw [if_pos z, decide_eq_false (Int32.not_lt.mpr z), bI_f]
  · rw [if_neg z, decide_eq_true (Int32.not_le.mp z), bI_t]
theorem m_slow (h : RepR (S 0) A) (iv : Inv A) {c : Nat} (hc : c < aN A 3) : pX7_slowest (nI c) S = some (slowF A (aL A 0 c)) := by
  have h4 := cnt3 iv
  have h8 := (iv.line0 c hc).1
  have main : ∀ (m i k : Nat) (x : Int32), i + m = (aL A 0 c).length → m < k → pX7_slowest_l4 S k (nI c) x (nI i) = some (if i = 0 then (if (aL A 0 c) = [] then x else slowF A (aL A 0 c)) else ((aL A 0 c).drop i).foldl (fun m w => mn m (aT A 4 w 0)) x) := by
    intro m
    induction m with
    | zero =>
      intro i k x hi hk
      obtain ⟨k, rfl⟩ : ∃ q, k = q + 1 := ⟨k - 1, by omega⟩
      show pX7_slowest_lb4 (pX7_slowest_l4 S k) S (nI c) x (nI i) = _
      unfold pX7_slowest_lb4
      rw [m_sizeOf h hc, cr1_s, n_le (by omega) (by omega), if_pos (by omega)]
      by_cases q : i = 0
      · rw [if_pos q, if_pos (List.length_eq_zero_iff.mp (by omega))]
      · rw [if_neg q, List.drop_eq_nil_of_le (by omega)]
        rfl
    | succ m ih =>
      intro i k x hi hk
      obtain ⟨k, rfl⟩ : ∃ q, k = q + 1 := ⟨k - 1, by omega⟩
      show pX7_slowest_lb4 (pX7_slowest_l4 S k) S (nI c) x (nI i) = _
      unfold pX7_slowest_lb4
      have hv := iv.vok hc (getD_mem (x := aL A 0 c) (i := i) (by omega))
      rw [m_sizeOf h hc, cr1_s, n_le (by omega) (by omega), if_neg (by omega), m_who h hc (by omega), cr1_s, carAt_n, cr1_s, R_ldV h hv (by decide), n_eq0 (by omega)]
      have hd := drop_get (x := aL A 0 c) (i := i) (by omega)
      by_cases q : i = 0
      · subst q
        rw [if_pos rfl, if_pos rfl, vl_e, nI_add, ih (0 + 1) k _ (by omega) (by omega), if_neg (by omega)]
        rw [List.drop_zero] at hd
        rw [if_neg (by rw [hd]; simp)]
        generalize hg : (aL A 0 c).getD 0 0 = v0 at hd ⊢
        rw [hd]
        rfl
      · rw [if_neg q, if_neg q, hd, List.foldl_cons]
        unfold mn
        by_cases z : x ≤ aT A 4 ((aL A 0 c).getD i 0) 0
        · rw [if_pos z, vl_e, nI_add, ih (i + 1) k _ (by omega) (by omega), if_neg (by omega), if_neg (Int32.not_lt.mpr z)]
          rfl
        · rw [if_neg z, vl_e, nI_add, ih (i + 1) k _ (by omega) (by omega), if_neg (by omega), if_pos (Int32.not_le.mp z)]
          rfl
  unfold pX7_slowest
  rw [main (aL A 0 c).length 0 fuel (nI 0) (by omega) (by unfold fuel; omega), if_pos rfl]
  by_cases q : aL A 0 c = []
  · rw [if_pos q, q]
    rfl
  · rw [if_neg q]
end ROW2
