/-! ===== looks ahead, second part; how many ===== -/
section AH2
variable {S : mM} {A : aA} {w fl : Int32} {st : Bool} {b1 : Nat}
theorem c_many (h : RepC S A) (iv : Inv A) (x : Int32) : pX4_howMany x S = some (nI (cntN A x (aN A 4))) := by
  have h16 := cnt4 iv
  have main : ∀ (n i k : Nat), n + i = aN A 4 → n < k → pX4_howMany_l4 S k x (nI (cntN A x i)) (nI i) = some (nI (cntN A x (aN A 4))) := by
    intro n
    induction n with
    | zero =>
      intro i k hi hk
      obtain ⟨k, rfl⟩ : ∃ q, k = q + 1 := ⟨k - 1, by omega⟩
      show pX4_howMany_lb4 (pX4_howMany_l4 S k) S x _ (nI i) = _
      unfold pX4_howMany_lb4
      rw [C_cntV h, cr1_s, n_le (by omega) (by omega), if_pos (by omega), show i = aN A 4 by omega]
    | succ n ih =>
      intro i k hi hk
      obtain ⟨k, rfl⟩ : ∃ q, k = q + 1 := ⟨k - 1, by omega⟩
      show pX4_howMany_lb4 (pX4_howMany_l4 S k) S x _ (nI i) = _
      unfold pX4_howMany_lb4
      have e := ih (i + 1) k (by omega) (by omega)
      have e2 : cntN A x (i + 1) = if aT A 4 i 4 = x then cntN A x i + 1 else cntN A x i := rfl
      rw [e2] at e
      rw [C_cntV h, cr1_s, n_le (by omega) (by omega), if_neg (by omega), C_getV h (by omega) (by decide), cr1_s, vl_e, nI_add, vl_e, nI_add]
      by_cases q : aT A 4 i 4 = x
      · rw [if_pos q] at e ⊢
        exact e
      · rw [if_neg q] at e ⊢
        exact e
  exact main (aN A 4) 0 fuel (by omega) (by unfold fuel; omega)
theorem m_many (h : RepR (S 0) A) (x : Int32) : pX7_countAt x S = some (nI (cntN A x (aN A 4))) := by
  have h16 : aN A 4 ≤ 16 := h.n (by decide)
  have main : ∀ (n i k : Nat), n + i = aN A 4 → n < k → pX7_countAt_l4 S k x (nI (cntN A x i)) (nI i) = some (nI (cntN A x (aN A 4))) := by
    intro n
    induction n with
    | zero =>
      intro i k hi hk
      obtain ⟨k, rfl⟩ : ∃ q, k = q + 1 := ⟨k - 1, by omega⟩
      show pX7_countAt_lb4 (pX7_countAt_l4 S k) S x _ (nI i) = _
      unfold pX7_countAt_lb4
      rw [R_n4 h, n_le (by omega) (by omega), if_pos (by omega), show i = aN A 4 by omega]
    | succ n ih =>
      intro i k hi hk
      obtain ⟨k, rfl⟩ : ∃ q, k = q + 1 := ⟨k - 1, by omega⟩
      show pX7_countAt_lb4 (pX7_countAt_l4 S k) S x _ (nI i) = _
      unfold pX7_countAt_lb4
      have e := ih (i + 1) k (by omega) (by omega)
      have e2 : cntN A x (i + 1) = if aT A 4 i 4 = x then cntN A x i + 1 else cntN A x i := rfl
      rw [e2] at e
      rw [R_n4 h, n_le (by omega) (by omega), if_neg (by omega), carAt_n, cr1_s, R_ldV h (by omega) (by decide), vl_e, nI_add, vl_e, nI_add, vl_e, nI_add, Nat.add_zero]
      by_cases q : aT A 4 i 4 = x
      · rw [if_pos q] at e ⊢
        exact e
      · rw [if_neg q] at e ⊢
        exact e
  exact main (aN A 4) 0 fuel (by omega) (by unfold fuel; omega)
theorem arrd_n (iv : Inv A) {α : Type} {x y : α} : (if nI (cntN A (nI 2) (aN A 4)) = nI (aN A 4) then x else y) = if arrd A = true then x else y := by
  have h16 := cnt4 iv
  have hle := cntN_le A (nI 2) (aN A 4)
  rw [n_eq (by omega) (by omega)]
  refine n_if ?_
  unfold arrd
  exact propext decide_eq_true_iff.symm
theorem c_all_end (h : CR S A w fl st) (iv : Inv A) : pX4_allArrive_b26 S = some (bI (arrd A), S) := by
  unfold pX4_allArrive_b26
  rw [c_many h.1 iv, cr1_s, C_cntV h.1, cr1_s, arrd_n iv, gd_p isZ_0, gd_p isZ_1]
  cases e : arrd A with
  | true => rw [if_pos rfl]; rfl
  | false => rw [if_neg (by simp)]; rfl
theorem allN_1 (X : aA × Int32) : ∀ n, arrd X.1 = true → allN w (n + 1) X = true := fun n h => by
  unfold allN
  rw [if_pos h]
theorem c_all : ∀ (n h k : Nat) (S : mM) (A : aA) (fl : Int32) (st : Bool), n + h = 300 → n < k → CR S A w fl st → Inv A → (st = false → Stuck A) →
    ∃ S' A' fl' st', pX4_allArrive_l2 k (nI h) S = some (bI (allN w (n + 1) (A, fl)), S') ∧ CR S' A' w fl' st' := by
  intro n
  induction n with
  | zero =>
    intro h k S A fl st hn hk hr iv hq
    obtain ⟨k, rfl⟩ : ∃ q, k = q + 1 := ⟨k - 1, by omega⟩
    refine ⟨S, A, fl, st, ?_, hr⟩
    show pX4_allArrive_lb2 (pX4_allArrive_l2 k) (nI h) S = some (bI (if arrd A = true then true else false), S)
    unfold pX4_allArrive_lb2
    rw [n_le (by omega) (by omega), if_pos (by omega), c_all_end hr iv]
    cases arrd A <;> rfl
  | succ n ih =>
    intro h k S A fl st hn hk hr iv hq
    obtain ⟨k, rfl⟩ : ∃ q, k = q + 1 := ⟨k - 1, by omega⟩
    show ∃ S' A' fl' st', pX4_allArrive_lb2 (pX4_allArrive_l2 k) (nI h) S = _ ∧ _
    have e : allN w (n + 1 + 1) (A, fl) = if arrd A = true then true else allN w (n + 1) (nxt w (A, fl)) := rfl
    rw [e]
    unfold pX4_allArrive_lb2
    rw [n_le (by omega) (by omega), if_neg (by omega), gf_e, hr.2.1, bI_0]
    by_cases qs : st = false
    · rw [if_pos qs, c_all_end hr iv]
      obtain ⟨k1, k2, k3, k4⟩ := stuck_nxt (w := w) (fl := fl) iv (hq qs)
      refine ⟨S, A, fl, st, ?_, hr⟩
      cases ea : arrd A with
      | true => rw [if_pos rfl]
      | false =>
        rw [if_neg (by simp)]
        have := allN_s (w := w) (n + 1) (nxt w (A, fl)).1 (nxt w (A, fl)).2 k1 k4 (by rw [k2.arrs]; exact ea)
        rw [show allN w (n + 1) (nxt w (A, fl)) = false from this]
    · rw [if_neg qs]
      obtain ⟨S1, st1, e1, r1, i1, i2, i3, hq1⟩ := c_nxt hr iv
      rw [e1, cr1_s, vl_e, nI_add]
      obtain ⟨S', A', fl', st', x1, x2⟩ := ih (h + 1) k S1 (nxt w (A, fl)).1 (nxt w (A, fl)).2 st1 (by omega) (by omega) r1 i1 (fun z => (hq1 z).2.2.2)
      refine ⟨S', A', fl', st', ?_, x2⟩
      rw [x1]
      cases ea : arrd A with
      | false => rw [if_neg (by simp)]
      | true =>
        rw [if_pos rfl]
        obtain ⟨k1, k2, k3, k4⟩ := stuck_nxt (w := w) (fl := fl) iv (arrd_stuck iv ea)
        rw [allN_1 _ n (by show arrd (nxt w (A, fl)).1 = true; rw [k2.arrs]; exact ea)]
theorem m_nxt (h : MR S b1 A w fl) (hb1 : b1 ≠ 0) (iv : Inv A) : ∃ S', pX7_goHour b1 S = some S' ∧ MR S' b1 (nxt w (A, fl)).1 w (nxt w (A, fl)).2 ∧ Mo b1 S S' ∧ Inv (nxt w (A, fl)).1 ∧ aN (nxt w (A, fl)).1 = aN A := by
  obtain ⟨S', e, r, o⟩ := m_hour h hb1 iv
  obtain ⟨i1, i2, i3⟩ := Inv.okHourA (w := w) (X := (A, fl)) iv
  exact ⟨S', e, r, o, i1, i2⟩
theorem m_arr {c : Nat} : ∀ (n h k : Nat) (S : mM) (A : aA) (fl : Int32), n + h = 301 → n < k → MR S 4 A w fl → Inv A → c < aN A 3 →
    ∃ S', pX7_arrival_l2 k (nI c) (nI h) S = some (arrN w c n h (A, fl), S') ∧ Mo 4 S S' := by
  intro n
  induction n with
  | zero =>
    intro h k S A fl hn hk hr iv hc
    obtain ⟨k, rfl⟩ : ∃ q, k = q + 1 := ⟨k - 1, by omega⟩
    refine ⟨S, ?_, Mo.rf⟩
    show pX7_arrival_lb2 (pX7_arrival_l2 k) (nI c) (nI h) S = _
    unfold pX7_arrival_lb2
    rw [n_lt (by omega) (by omega), if_pos (by omega)]
    rfl
  | succ n ih =>
    intro h k S A fl hn hk hr iv hc
    obtain ⟨k, rfl⟩ : ∃ q, k = q + 1 := ⟨k - 1, by omega⟩
    have hs : RepR (sB S 4 0) A := hr.1
    show ∃ S', pX7_arrival_lb2 (pX7_arrival_l2 k) (nI c) (nI h) S = _ ∧ _
    have e : arrN w c (n + 1) h (A, fl) = if aT A 3 c 0 = aS A 0 then nI h else arrN w c n (h + 1) (nxt w (A, fl)) := rfl
    rw [e]
    unfold pX7_arrival_lb2
    rw [n_lt (by omega) (by omega), if_neg (by omega), m_there hs hc, cr1_s, bI_0]
    by_cases q : aT A 3 c 0 = aS A 0
    · rw [if_neg (by rw [decide_eq_true q]; simp), if_pos q]
      exact ⟨S, rfl, Mo.rf⟩
    · rw [if_pos (decide_eq_false q), if_neg q]
      obtain ⟨S1, e1, r1, o1, i1, i2⟩ := m_nxt hr (by decide) iv
      rw [e1, cr1_s, vl_e, nI_add]
      obtain ⟨S', x1, x2⟩ := ih (h + 1) k S1 (nxt w (A, fl)).1 (nxt w (A, fl)).2 (by omega) (by omega) r1 i1 (by rw [i2]; exact hc)
      exact ⟨S', x1, o1.tr x2⟩
theorem m_left : ∀ (n h k : Nat) (S : mM) (A : aA) (fl : Int32), n + h = 300 → n < k → MR S 4 A w fl → Inv A →
    ∃ S1, pX7_leaves_l39 k (nI h) S = some (leftN w n (A, fl), sto S1 0 12 (-9)) ∧ Mo 4 S S1 := by
  intro n
  induction n with
  | zero =>
    intro h k S A fl hn hk hr iv
    obtain ⟨k, rfl⟩ : ∃ q, k = q + 1 := ⟨k - 1, by omega⟩
    refine ⟨S, ?_, Mo.rf⟩
    show pX7_leaves_lb39 (pX7_leaves_l39 k) (nI h) S = some (fl, _)
    unfold pX7_leaves_lb39
    rw [n_le (by omega) (by omega), if_pos (by omega), pf_e, gf_e, sto_j (by decide), hr.2.2]
  | succ n ih =>
    intro h k S A fl hn hk hr iv
    obtain ⟨k, rfl⟩ : ∃ q, k = q + 1 := ⟨k - 1, by omega⟩
    show ∃ S1, pX7_leaves_lb39 (pX7_leaves_l39 k) (nI h) S = _ ∧ _
    have e : leftN w (n + 1) (A, fl) = if fl = -9 then leftN w n (nxt w (A, fl)) else fl := rfl
    rw [e]
    unfold pX7_leaves_lb39
    rw [n_le (by omega) (by omega), if_neg (by omega), gf_e, hr.2.2]
    by_cases q : fl = -9
    · rw [if_pos q, if_pos q]
      obtain ⟨S1, e1, r1, o1, i1, i2⟩ := m_nxt hr (by decide) iv
      rw [e1, cr1_s, vl_e, nI_add]
      obtain ⟨S', x1, x2⟩ := ih (h + 1) k S1 (nxt w (A, fl)).1 (nxt w (A, fl)).2 (by omega) (by omega) r1 i1
      exact ⟨S', x1, o1.tr x2⟩
    · rw [if_neg q, if_neg q, pf_e, gf_e, sto_j (by decide), hr.2.2]
      exact ⟨S, rfl, Mo.rf⟩
theorem m_all : ∀ (n h k : Nat) (S : mM) (A : aA) (fl : Int32), n + h = 301 → n < k → MR S 4 A w fl → Inv A →
    ∃ S', pX7_allArrive_l2 k (nI h) S = some (bI (allN w n (A, fl)), S') ∧ Mo 4 S S' := by
  intro n
  induction n with
  | zero =>
    intro h k S A fl hn hk hr iv
    obtain ⟨k, rfl⟩ : ∃ q, k = q + 1 := ⟨k - 1, by omega⟩
    refine ⟨S, ?_, Mo.rf⟩
    show pX7_allArrive_lb2 (pX7_allArrive_l2 k) (nI h) S = some (bI false, S)
    unfold pX7_allArrive_lb2
    rw [n_lt (by omega) (by omega), if_pos (by omega), gd_p isZ_0]
    rfl
  | succ n ih =>
    intro h k S A fl hn hk hr iv
    obtain ⟨k, rfl⟩ : ∃ q, k = q + 1 := ⟨k - 1, by omega⟩
    have hs : RepR (sB S 4 0) A := hr.1
    show ∃ S', pX7_allArrive_lb2 (pX7_allArrive_l2 k) (nI h) S = _ ∧ _
    have e : allN w (n + 1) (A, fl) = if arrd A = true then true else allN w n (nxt w (A, fl)) := rfl
    rw [e]
    unfold pX7_allArrive_lb2
    rw [n_lt (by omega) (by omega), if_neg (by omega), m_many hs, cr1_s, R_n4 hr.1, arrd_n iv, gd_p isZ_1]
    by_cases q : arrd A = true
    · rw [if_pos q, if_pos q]
      exact ⟨S, rfl, Mo.rf⟩
    · rw [if_neg q, if_neg q]
      obtain ⟨S1, e1, r1, o1, i1, i2⟩ := m_nxt hr (by decide) iv
      rw [e1, cr1_s, vl_e, nI_add]
      obtain ⟨S', x1, x2⟩ := ih (h + 1) k S1 (nxt w (A, fl)).1 (nxt w (A, fl)).2 (by omega) (by omega) r1 i1
      exact ⟨S', x1, o1.tr x2⟩
end AH2
