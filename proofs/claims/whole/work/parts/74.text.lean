/-! ===== the text: numbers that the class reads ===== -/
/-- the class's text: n signs ch, read as far as p, wrong or not -/
def TC (S : mM) (n : Nat) (ch : Nat → Nat) (p : Nat) (bad : Bool) : Prop := S 1 1 = nI n ∧ n ≤ 140 ∧ (∀ i, i < n → S 2 i = nI (ch i) ∧ ch i < 256) ∧ S 1 2 = nI p ∧ p ≤ n ∧ S 1 3 = bI bad
def dgV (n : Nat) (ch : Nat → Nat) (p : Nat) : Option Nat := if p < n ∧ 48 ≤ ch p ∧ ch p ≤ 57 then some (ch p - 48) else none
theorem dgV_9 {n : Nat} {ch : Nat → Nat} {p d : Nat} (h : dgV n ch p = some d) : d ≤ 9 ∧ p < n := by
  unfold dgV at h
  by_cases q : p < n ∧ 48 ≤ ch p ∧ ch p ≤ 57
  · rw [if_pos q] at h
    cases h
    omega
  · rw [if_neg q] at h
    cases h
def dKey (n : Nat) (ch : Nat → Nat) (p : Nat) (x : Int32) : Prop := (∃ d, dgV n ch p = some d ∧ x = nI d ∧ d ≤ 9) ∨ (dgV n ch p = none ∧ ¬ (nI 0 ≤ x ∧ x ≤ nI 9))
theorem low48 : ∀ x, x < 48 → ¬ (nI 0 ≤ nI x - nI 48) := by decide
theorem dKey_in {n : Nat} {ch : Nat → Nat} {p : Nat} (hp : p < n) (hc : ch p < 256) : dKey n ch p (nI (ch p) - nI 48) := by
  unfold dKey dgV
  by_cases q : 48 ≤ ch p
  · rw [pk_sub q]
    by_cases z : ch p ≤ 57
    · exact Or.inl ⟨ch p - 48, by rw [if_pos ⟨hp, q, z⟩], rfl, by omega⟩
    · refine Or.inr ⟨by rw [if_neg (fun y => z y.2.2)], fun y => ?_⟩
      have y2 := y.2
      rw [P_le (by omega) (by decide)] at y2
      omega
  · exact Or.inr ⟨by rw [if_neg (fun y => q y.2.1)], fun y => low48 _ (by omega) y.1⟩
theorem dKey_out {n : Nat} {ch : Nat → Nat} {p : Nat} (hp : ¬ p < n) {x : Int32} (hx : ¬ (nI 0 ≤ x)) : dKey n ch p x := Or.inr ⟨by unfold dgV; rw [if_neg (fun y => hp y.1)], fun y => hx y.1⟩
section TEXT
variable {S : mM} {n p : Nat} {ch : Nat → Nat} {bad : Bool}
theorem TC.flag (h : TC S n ch p bad) (b : Bool) : TC (sto S 1 3 (bI b)) n ch p b := by
  obtain ⟨h1, h2, h3, h4, h5, h6⟩ := h
  exact ⟨by rw [sto_j (by decide)]; exact h1, h2, fun i hi => by rw [sto_k (by decide)]; exact h3 i hi, by rw [sto_j (by decide)]; exact h4, h5, sto_i _ _ _ _⟩
theorem TC.at (h : TC S n ch p bad) {q : Nat} (hq : q ≤ n) : TC (sto S 1 2 (nI q)) n ch q bad := by
  obtain ⟨h1, h2, h3, h4, h5, h6⟩ := h
  exact ⟨by rw [sto_j (by decide)]; exact h1, h2, fun i hi => by rw [sto_k (by decide)]; exact h3 i hi, sto_i _ _ _ _, hq, by rw [sto_j (by decide)]; exact h6⟩
theorem c_sign (h : TC S n ch p bad) : pX1_signAt S = some (if p < n then nI (ch p) else -9) := by
  obtain ⟨h1, h2, h3, h4, h5, h6⟩ := h
  unfold pX1_signAt
  rw [gf_e, h4, n_lt0 (by omega), if_neg (fun y => y), gf_e, gf_e, h1, h4, n_le (by omega) (by omega)]
  by_cases q : p < n
  · rw [if_neg (by omega), if_pos q, gf_e, h4, n_le (by decide) (by omega), if_neg (by omega), gf_e, h4, ld_n (by omega) (by decide), (h3 p q).1]
  · rw [if_pos (by omega), if_neg q]
theorem c_key (h : TC S n ch p bad) : ∃ x, pX1_signAt S = some x ∧ dKey n ch p (x - nI 48) := by
  refine ⟨_, c_sign h, ?_⟩
  by_cases q : p < n
  · rw [if_pos q]
    exact dKey_in q (h.2.2.1 p q).2
  · rw [if_neg q]
    exact dKey_out q (by decide)
theorem c_b95 (ih : Int32 → Int32 → Int32 → Int32 → Int32 → Int32 → mM → Option (Int32 × mM)) (h : TC S n ch p bad) (x1 x2 x3 x4 x5 x6 x7 : Int32) : ∃ S', pX1_number_b95 ih x1 x2 x3 x4 x5 x6 x7 S = ih x1 x2 x3 x4 x5 (x6 + nI 1) S' ∧ TC S' n ch p true ∧ Oth 1 S S' := by
  unfold pX1_number_b95 pX1_number_b100
  rw [pz_1, gf_e, sto_i, if_neg (by decide), vl_e]
  exact ⟨_, rfl, h.flag true, Oth.rf.sto⟩
theorem c_dig_ok {dg l m num span i k d : Nat} (h : TC S n ch p false) (hi : i < dg) (hdg : dg < 8) (hl : l < 1000) (hm : m < 1000) (hnum : num < 1000) (h0 : 0 < span) (hs : span ≤ 100) (hd : dgV n ch p = some d) (h1 : (num * 10 + d) * span ≤ m) (h2 : l ≤ (num * 10 + d) * span + span - 1) :
    ∃ S', pX1_number_l31 (k + 1) (nI dg) (nI l) (nI m) (nI num) (nI span) (nI i) S = pX1_number_l31 k (nI dg) (nI l) (nI m) (nI (num * 10 + d)) (nI (span / 10)) (nI (i + 1)) S' ∧ TC S' n ch (p + 1) false ∧ Oth 1 S S' := by
  have h9 := dgV_9 hd
  obtain ⟨t1, t2, t3, t4, t5, t6⟩ := id h
  obtain ⟨x, k1, k2⟩ := c_key h
  rw [show pX1_number_l31 (k + 1) (nI dg) (nI l) (nI m) (nI num) (nI span) (nI i) S = pX1_number_lb31 (pX1_number_l31 k) (nI dg) (nI l) (nI m) (nI num) (nI span) (nI i) S from rfl]
  unfold pX1_number_lb31
  rcases k2 with ⟨d', e1, e2, e3⟩ | ⟨e1, _⟩
  · rw [hd] at e1
    cases e1
    rw [n_le (by omega) (by omega), if_neg (by omega), gf_e, t6, bI_0, if_pos rfl, k1, cr1_s, vl_e, vl_e, e2, within_n (by omega) (by decide) (by decide), if_pos ⟨by omega, by omega⟩, cr1_s, if_neg (by decide), pk_mul, nI_add, pk_mul, n_lt (by omega) (by omega), if_neg (by omega), nI_add, pk_sub (by omega), n_le (by omega) (by omega), if_pos h2]
    unfold pX1_number_b100
    rw [pz_0, gf_e, sto_i, if_pos (by decide), vl_e, gf_e, sto_j (by decide), t4, pf_e, vl_e, vl_e, pk_mul, nI_add, nI_add, nI_add, pk_div (by omega) (by decide) (by decide)]
    exact ⟨_, rfl, (h.flag false).at (by omega), Oth.rf.sto.sto⟩
  · rw [hd] at e1
    cases e1
theorem c_dig_no {dg l m num span i k : Nat} (h : TC S n ch p false) (hi : i < dg) (hdg : dg < 8) (hl : l < 1000) (hm : m < 1000) (hnum : num < 1000) (h0 : 0 < span) (hs : span ≤ 100) (hd : ∀ d, dgV n ch p = some d → ¬ ((num * 10 + d) * span ≤ m ∧ l ≤ (num * 10 + d) * span + span - 1)) :
    ∃ S', pX1_number_l31 (k + 1) (nI dg) (nI l) (nI m) (nI num) (nI span) (nI i) S = pX1_number_l31 k (nI dg) (nI l) (nI m) (nI num) (nI span) (nI (i + 1)) S' ∧ TC S' n ch p true ∧ Oth 1 S S' := by
  obtain ⟨t1, t2, t3, t4, t5, t6⟩ := id h
  obtain ⟨x, k1, k2⟩ := c_key h
  rw [show pX1_number_l31 (k + 1) (nI dg) (nI l) (nI m) (nI num) (nI span) (nI i) S = pX1_number_lb31 (pX1_number_l31 k) (nI dg) (nI l) (nI m) (nI num) (nI span) (nI i) S from rfl]
  unfold pX1_number_lb31
  rw [n_le (by omega) (by omega), if_neg (by omega), gf_e, t6, bI_0, if_pos rfl, k1, cr1_s, vl_e, vl_e]
  rcases k2 with ⟨d, e1, e2, e3⟩ | ⟨e1, e2⟩
  · have hb : (num * 10 + d) * span ≤ 10000 * 100 := Nat.mul_le_mul (by omega) hs
    have hno := hd d e1
    obtain ⟨S', b1, b2, b3⟩ := c_b95 (pX1_number_l31 k) h (nI dg) (nI l) (nI m) (nI num) (nI span) (nI i) (nI d)
    rw [e2, within_n (by omega) (by decide) (by decide), if_pos ⟨by omega, by omega⟩, cr1_s, if_neg (by decide), pk_mul, nI_add, pk_mul, n_lt (by omega) (by omega), nI_add, pk_sub (by omega), n_le (by omega) (by omega), b1, nI_add]
    by_cases q : m < (num * 10 + d) * span
    · rw [if_pos q]
      exact ⟨S', rfl, b2, b3⟩
    · rw [if_neg q, if_neg (fun z => hno ⟨by omega, z⟩)]
      exact ⟨S', rfl, b2, b3⟩
  · obtain ⟨S', b1, b2, b3⟩ := c_b95 (pX1_number_l31 k) h (nI dg) (nI l) (nI m) (nI num) (nI span) (nI i) (x - nI 48)
    rw [within_i, cr1_s, decide_eq_false e2, bI_0, if_pos rfl, b1, nI_add]
    exact ⟨S', rfl, b2, b3⟩
theorem c_run_bad {k : Nat} (h : TC S n ch p true) (x1 x2 x3 x4 x5 x6 : Int32) : pX1_number_l31 (k + 1) x1 x2 x3 x4 x5 x6 S = some (x4, S) := by
  rw [show pX1_number_l31 (k + 1) x1 x2 x3 x4 x5 x6 S = pX1_number_lb31 (pX1_number_l31 k) x1 x2 x3 x4 x5 x6 S from rfl]
  unfold pX1_number_lb31
  by_cases q : x1 ≤ x6
  · rw [if_pos q]
  · rw [if_neg q, gf_e, h.2.2.2.2.2, bI_0, if_neg (by decide)]
theorem c_run_end {k : Nat} (x1 x2 x3 x4 x5 : Int32) : pX1_number_l31 (k + 1) x1 x2 x3 x4 x5 x1 S = some (x4, S) := by
  rw [show pX1_number_l31 (k + 1) x1 x2 x3 x4 x5 x1 S = pX1_number_lb31 (pX1_number_l31 k) x1 x2 x3 x4 x5 x1 S from rfl]
  unfold pX1_number_lb31
  rw [if_pos (Int32.le_refl _)]
/-- the last digit -/
theorem c_run1 {dg l m num i k : Nat} (h : TC S n ch p false) (hi : i + 1 = dg) (hdg : dg < 8) (hl : l < 1000) (hm : m < 1000) (hnum : num < 1000) :
    (∃ d S', dgV n ch p = some d ∧ num * 10 + d ≤ m ∧ l ≤ num * 10 + d ∧ pX1_number_l31 (k + 2) (nI dg) (nI l) (nI m) (nI num) (nI 1) (nI i) S = some (nI (num * 10 + d), S') ∧ TC S' n ch (p + 1) false ∧ Oth 1 S S') ∨
    (∃ S', (∀ d, dgV n ch p = some d → ¬ (num * 10 + d ≤ m ∧ l ≤ num * 10 + d)) ∧ pX1_number_l31 (k + 2) (nI dg) (nI l) (nI m) (nI num) (nI 1) (nI i) S = some (nI num, S') ∧ TC S' n ch p true ∧ Oth 1 S S') := by
  by_cases q : ∃ d, dgV n ch p = some d ∧ num * 10 + d ≤ m ∧ l ≤ num * 10 + d
  · obtain ⟨d, d1, d2, d3⟩ := q
    obtain ⟨S', e1, e2, e3⟩ := c_dig_ok (k := k + 1) (span := 1) h (show i < dg by omega) hdg hl hm hnum (by decide) (by decide) d1 (by omega) (by omega)
    refine Or.inl ⟨d, S', d1, d2, d3, ?_, e2, e3⟩
    rw [e1, hi, c_run_end]
  · have hno : ∀ d, dgV n ch p = some d → ¬ (num * 10 + d ≤ m ∧ l ≤ num * 10 + d) := fun d hd z => q ⟨d, hd, z⟩
    obtain ⟨S', e1, e2, e3⟩ := c_dig_no (k := k + 1) (span := 1) h (show i < dg by omega) hdg hl hm hnum (by decide) (by decide) (fun d hd z => hno d hd ⟨by omega, by omega⟩)
    refine Or.inr ⟨S', hno, ?_, e2, e3⟩
    rw [e1, c_run_bad e2]
/-- the last two digits -/
theorem c_run2 {dg l m num i k : Nat} (h : TC S n ch p false) (hi : i + 2 = dg) (hdg : dg < 8) (hl : l < 1000) (hm : m < 1000) (hnum : num < 10) :
    (∃ d e S', dgV n ch p = some d ∧ (num * 10 + d) * 10 ≤ m ∧ l ≤ (num * 10 + d) * 10 + 9 ∧ dgV n ch (p + 1) = some e ∧ (num * 10 + d) * 10 + e ≤ m ∧ l ≤ (num * 10 + d) * 10 + e ∧ pX1_number_l31 (k + 3) (nI dg) (nI l) (nI m) (nI num) (nI 10) (nI i) S = some (nI ((num * 10 + d) * 10 + e), S') ∧ TC S' n ch (p + 2) false ∧ Oth 1 S S') ∨
    (∃ d v S', dgV n ch p = some d ∧ (num * 10 + d) * 10 ≤ m ∧ l ≤ (num * 10 + d) * 10 + 9 ∧ (∀ e, dgV n ch (p + 1) = some e → ¬ ((num * 10 + d) * 10 + e ≤ m ∧ l ≤ (num * 10 + d) * 10 + e)) ∧ pX1_number_l31 (k + 3) (nI dg) (nI l) (nI m) (nI num) (nI 10) (nI i) S = some (v, S') ∧ TC S' n ch (p + 1) true ∧ Oth 1 S S') ∨
    (∃ v S', (∀ d, dgV n ch p = some d → ¬ ((num * 10 + d) * 10 ≤ m ∧ l ≤ (num * 10 + d) * 10 + 9)) ∧ pX1_number_l31 (k + 3) (nI dg) (nI l) (nI m) (nI num) (nI 10) (nI i) S = some (v, S') ∧ TC S' n ch p true ∧ Oth 1 S S') := by
  by_cases q : ∃ d, dgV n ch p = some d ∧ (num * 10 + d) * 10 ≤ m ∧ l ≤ (num * 10 + d) * 10 + 9
  · obtain ⟨d, d1, d2, d3⟩ := q
    have d9 := (dgV_9 d1).1
    obtain ⟨S1, e1, e2, e3⟩ := c_dig_ok (k := k + 2) (span := 10) h (show i < dg by omega) hdg hl hm (show num < 1000 by omega) (by decide) (by decide) d1 (by omega) (by omega)
    rcases c_run1 (k := k) (num := num * 10 + d) (i := i + 1) e2 (show i + 1 + 1 = dg by omega) hdg hl hm (by omega) with ⟨e, S', f1, f2, f3, f4, f5, f6⟩ | ⟨S', f1, f4, f5, f6⟩
    · exact Or.inl ⟨d, e, S', d1, d2, d3, f1, f2, f3, e1.trans f4, f5, Oth.tr e3 f6⟩
    · exact Or.inr (Or.inl ⟨d, _, S', d1, d2, d3, f1, e1.trans f4, f5, Oth.tr e3 f6⟩)
  · have hno : ∀ d, dgV n ch p = some d → ¬ ((num * 10 + d) * 10 ≤ m ∧ l ≤ (num * 10 + d) * 10 + 9) := fun d hd z => q ⟨d, hd, z⟩
    obtain ⟨S', e1, e2, e3⟩ := c_dig_no (k := k + 2) (span := 10) h (show i < dg by omega) hdg hl hm (show num < 1000 by omega) (by decide) (by decide) (fun d hd z => hno d hd ⟨by omega, by omega⟩)
    exact Or.inr (Or.inr ⟨nI num, S', hno, by rw [e1, c_run_bad e2], e2, e3⟩)
theorem c_span {dg : Nat} (hdg : dg < 8) (x2 x3 x4 : Int32) : ∀ (m i k span : Nat), i + m = dg → m < k → pX1_number_l9 k (nI dg) x2 x3 x4 (nI span) (nI i) S = pX1_number_l31 fuel (nI dg) x2 x3 x4 (nI (span * 10 ^ m)) (nI 0) S := by
  intro m
  induction m with
  | zero =>
    intro i k span hi hk
    cases k with
    | zero => omega
    | succ k =>
      obtain rfl : i = dg := hi
      rw [show pX1_number_l9 (k + 1) (nI i) x2 x3 x4 (nI span) (nI i) S = pX1_number_lb9 (pX1_number_l9 k) (nI i) x2 x3 x4 (nI span) (nI i) S from rfl]
      unfold pX1_number_lb9
      rw [if_pos (Int32.le_refl _), Nat.pow_zero, Nat.mul_one]
  | succ m ih =>
    intro i k span hi hk
    cases k with
    | zero => omega
    | succ k =>
      rw [show pX1_number_l9 (k + 1) (nI dg) x2 x3 x4 (nI span) (nI i) S = pX1_number_lb9 (pX1_number_l9 k) (nI dg) x2 x3 x4 (nI span) (nI i) S from rfl]
      unfold pX1_number_lb9
      rw [n_le (by omega) (by omega), if_neg (by omega), vl_e, vl_e, pk_mul, nI_add, ih (i + 1) k (span * 10) (by omega) (by omega), Nat.pow_succ, Nat.mul_assoc, Nat.mul_comm 10]
theorem c_num {dg m : Nat} (hdg : dg < 8) (hm : 1 + m = dg) (x y : Int32) : pX1_number (nI dg) x y S = pX1_number_l31 fuel (nI dg) x y (nI 0) (nI (10 ^ m)) (nI 0) S := by
  unfold pX1_number
  rw [c_span hdg _ _ _ m 1 fuel 1 hm (Nat.lt_trans (show m < 8 by omega) (by decide)), Nat.one_mul]
theorem fuel_s : ∃ k, fuel = k + 4 := ⟨fuel - 4, by decide⟩
end TEXT
