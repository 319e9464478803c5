/-! ===== looks ahead ===== -/
def nxt (w : Int32) (X : aA × Int32) : aA × Int32 := ((hourA w X).1, (hourA w X).2.1)
/-- how many vehicles have a stay -/
def cntN (A : aA) (x : Int32) : Nat → Nat
  | 0 => 0
  | v + 1 => if aT A 4 v 4 = x then cntN A x v + 1 else cntN A x v
theorem cntN_le (A : aA) (x : Int32) : ∀ n, cntN A x n ≤ n := by
  intro n
  induction n with
  | zero => exact Nat.le_refl _
  | succ n ih =>
    unfold cntN
    split <;> omega
theorem cntN_all (A : aA) (x : Int32) : ∀ n, cntN A x n = n ↔ ∀ v, v < n → aT A 4 v 4 = x := by
  intro n
  induction n with
  | zero => exact ⟨fun _ v hv => absurd hv (Nat.not_lt_zero _), fun _ => rfl⟩
  | succ n ih =>
    unfold cntN
    have hle := cntN_le A x n
    by_cases q : aT A 4 n 4 = x
    · rw [if_pos q]
      constructor
      · intro h v hv
        by_cases z : v = n
        · rw [z]
          exact q
        · exact ih.mp (by omega) v (by omega)
      · intro h
        have := ih.mpr (fun v hv => h v (by omega))
        omega
    · rw [if_neg q]
      constructor
      · intro h
        omega
      · intro h
        exact absurd (h n (by omega)) q
def arrd (A : aA) : Bool := decide (cntN A (nI 2) (aN A 4) = aN A 4)
/-- behind how many hours a convoy is at the end, within n more -/
def arrN (w : Int32) (c : Nat) : Nat → Nat → aA × Int32 → Int32
  | 0, _, _ => -9
  | n + 1, h, X => if aT X.1 3 c 0 = aS X.1 0 then nI h else arrN w c n (h + 1) (nxt w X)
def leftN (w : Int32) : Nat → aA × Int32 → Int32
  | 0, X => X.2
  | n + 1, X => if X.2 = -9 then leftN w n (nxt w X) else X.2
def allN (w : Int32) : Nat → aA × Int32 → Bool
  | 0, _ => false
  | n + 1, X => if arrd X.1 = true then true else allN w n (nxt w X)
section AHEAD
variable {S : mM} {A : aA} {w fl : Int32} {st : Bool}
theorem Sim.km {B : aA} (h : Sim A B) (c : Nat) : (aT B 3 c 0 = aS B 0) = (aT A 3 c 0 = aS A 0) := by
  rw [h.2.2.2 3 c 0 (by omega), h.2.2.1]
theorem Sim.arrs {B : aA} (h : Sim A B) : arrd B = arrd A := by
  have e : ∀ n, cntN B (nI 2) n = cntN A (nI 2) n := by
    intro n
    induction n with
    | zero => rfl
    | succ n ih =>
      unfold cntN
      rw [h.2.2.2 4 n 4 (by omega), ih]
  unfold arrd
  rw [h.1, e]
theorem stuck_nxt (iv : Inv A) (h : Stuck A) : Inv (nxt w (A, fl)).1 ∧ Sim A (nxt w (A, fl)).1 ∧ (nxt w (A, fl)).2 = fl ∧ Stuck (nxt w (A, fl)).1 := by
  obtain ⟨k1, k2⟩ := stuck_hour (w := w) (fl := fl) iv h
  exact ⟨(Inv.okHourA (w := w) (X := (A, fl)) iv).1, k1, k2, k1.Stuck h⟩
theorem arrN_s {c : Nat} : ∀ (n h : Nat) (A : aA) (fl : Int32), Inv A → Stuck A → aT A 3 c 0 ≠ aS A 0 → arrN w c n h (A, fl) = -9 := by
  intro n
  induction n with
  | zero => intro h A fl _ _ _; rfl
  | succ n ih =>
    intro h A fl iv hs hk
    unfold arrN
    obtain ⟨k1, k2, k3, k4⟩ := stuck_nxt (w := w) (fl := fl) iv hs
    rw [if_neg hk]
    exact ih (h + 1) (nxt w (A, fl)).1 (nxt w (A, fl)).2 k1 k4 (by rw [Ne, k2.km]; exact hk)
theorem leftN_s : ∀ (n : Nat) (A : aA) (fl : Int32), Inv A → Stuck A → leftN w n (A, fl) = fl := by
  intro n
  induction n with
  | zero => intro A fl _ _; rfl
  | succ n ih =>
    intro A fl iv hs
    unfold leftN
    obtain ⟨k1, k2, k3, k4⟩ := stuck_nxt (w := w) (fl := fl) iv hs
    by_cases q : (A, fl).2 = -9
    · rw [if_pos q]
      have := ih (nxt w (A, fl)).1 (nxt w (A, fl)).2 k1 k4
      rw [k3] at this
      have e : nxt w (A, fl) = ((nxt w (A, fl)).1, (nxt w (A, fl)).2) := rfl
      rw [k3] at e
      rw [e]
      exact this
    · rw [if_neg q]
theorem arrd_stuck (iv : Inv A) (h : arrd A = true) : Stuck A := by
  intro c hc ha
  obtain ⟨v, r, e⟩ : ∃ v r, aL A 0 c = v :: r := by
    cases e : aL A 0 c with
    | nil => exact absurd e (act_ne ha)
    | cons v r => exact ⟨v, r, rfl⟩
  obtain ⟨h1, h2, -⟩ := (iv.line0 c hc).2.2 v (by rw [e]; exact List.mem_cons_self)
  have := (cntN_all A (nI 2) (aN A 4)).mp (of_decide_eq_true h) v h1
  rw [h2] at this
  exact absurd this (by decide)
theorem allN_s : ∀ (n : Nat) (A : aA) (fl : Int32), Inv A → Stuck A → arrd A = false → allN w n (A, fl) = false := by
  intro n
  induction n with
  | zero => intro A fl _ _ _; rfl
  | succ n ih =>
    intro A fl iv hs ha
    unfold allN
    obtain ⟨k1, k2, k3, k4⟩ := stuck_nxt (w := w) (fl := fl) iv hs
    rw [if_neg (show ¬ arrd (A, fl).1 = true by rw [ha]; simp)]
    exact ih (nxt w (A, fl)).1 (nxt w (A, fl)).2 k1 k4 (by rw [k2.arrs]; exact ha)
theorem c_nxt (h : CR S A w fl st) (iv : Inv A) : ∃ S' st', pX4_letHourGoBy S = some S' ∧ CR S' (nxt w (A, fl)).1 w (nxt w (A, fl)).2 st' ∧ Inv (nxt w (A, fl)).1 ∧ aN (nxt w (A, fl)).1 = aN A ∧ aS (nxt w (A, fl)).1 0 = aS A 0 ∧ (st' = false → Stuck A ∧ Sim A (nxt w (A, fl)).1 ∧ (nxt w (A, fl)).2 = fl ∧ Stuck (nxt w (A, fl)).1) := by
  obtain ⟨S', e, r⟩ := c_hour h iv
  obtain ⟨i1, i2, i3⟩ := Inv.okHourA (w := w) (X := (A, fl)) iv
  refine ⟨S', (hourA w (A, fl)).2.2, e, r, i1, i2, i3, fun hq => ?_⟩
  obtain ⟨q1, q2, q3⟩ := quiet iv hq
  exact ⟨q1, q2, q3, q2.Stuck q1⟩
theorem c_arr {c : Nat} : ∀ (n h k : Nat) (S : mM) (A : aA) (fl : Int32) (st : Bool), n + h = 301 → n < k → CR S A w fl st → Inv A → c < aN A 3 → (st = false → Stuck A ∧ aT A 3 c 0 ≠ aS A 0) →
    ∃ S' A' fl' st', pX4_hoursToEnd_l2 k (nI c) (nI h) S = some (arrN w c n h (A, fl), S') ∧ CR S' A' w fl' st' := by
  intro n
  induction n with
  | zero =>
    intro h k S A fl st hn hk hr iv hc hq
    obtain ⟨k, rfl⟩ : ∃ q, k = q + 1 := ⟨k - 1, by omega⟩
    refine ⟨S, A, fl, st, ?_, hr⟩
    show pX4_hoursToEnd_lb2 (pX4_hoursToEnd_l2 k) (nI c) (nI h) S = _
    unfold pX4_hoursToEnd_lb2
    rw [n_lt (by omega) (by omega), if_pos (by omega)]
    rfl
  | succ n ih =>
    intro h k S A fl st hn hk hr iv hc hq
    obtain ⟨k, rfl⟩ : ∃ q, k = q + 1 := ⟨k - 1, by omega⟩
    show ∃ S' A' fl' st', pX4_hoursToEnd_lb2 (pX4_hoursToEnd_l2 k) (nI c) (nI h) S = _ ∧ _
    unfold pX4_hoursToEnd_lb2
    rw [n_lt (by omega) (by omega), if_neg (by omega), gf_e, hr.2.1, bI_0]
    by_cases qs : st = false
    · rw [if_pos qs]
      obtain ⟨q1, q2⟩ := hq qs
      rw [arrN_s _ _ _ _ iv q1 q2]
      exact ⟨S, A, fl, st, rfl, hr⟩
    · rw [if_neg qs, c_end hr.1 hc, cr1_s, bI_0]
      have e : arrN w c (n + 1) h (A, fl) = if aT A 3 c 0 = aS A 0 then nI h else arrN w c n (h + 1) (nxt w (A, fl)) := rfl
      rw [e]
      by_cases q : aT A 3 c 0 = aS A 0
      · rw [if_neg (by rw [decide_eq_true q]; simp), if_pos q]
        exact ⟨S, A, fl, st, rfl, hr⟩
      · rw [if_pos (decide_eq_false q), if_neg q]
        obtain ⟨S1, st1, e1, r1, i1, i2, i3, hq1⟩ := c_nxt hr iv
        rw [e1, cr1_s, vl_e, nI_add]
        exact ih (h + 1) k S1 (nxt w (A, fl)).1 (nxt w (A, fl)).2 st1 (by omega) (by omega) r1 i1 (by rw [i2]; exact hc) (fun z => by
          obtain ⟨z1, z2, z3, z4⟩ := hq1 z
          exact ⟨z4, by rw [Ne, z2.km]; exact q⟩)
theorem c_left : ∀ (n h k : Nat) (S : mM) (A : aA) (fl : Int32) (st : Bool), n + h = 300 → n < k → CR S A w fl st → Inv A → (st = false → Stuck A) →
    ∃ S' A' fl' st', pX4_firstLeftBy_l7 k (nI h) S = some (leftN w n (A, fl), S') ∧ CR S' A' w fl' st' := by
  intro n
  induction n with
  | zero =>
    intro h k S A fl st hn hk hr iv hq
    obtain ⟨k, rfl⟩ : ∃ q, k = q + 1 := ⟨k - 1, by omega⟩
    refine ⟨S, A, fl, st, ?_, hr⟩
    show pX4_firstLeftBy_lb7 (pX4_firstLeftBy_l7 k) (nI h) S = some (fl, S)
    unfold pX4_firstLeftBy_lb7
    rw [n_le (by omega) (by omega), if_pos (by omega), gf_e, hr.2.2.2]
  | succ n ih =>
    intro h k S A fl st hn hk hr iv hq
    obtain ⟨k, rfl⟩ : ∃ q, k = q + 1 := ⟨k - 1, by omega⟩
    show ∃ S' A' fl' st', pX4_firstLeftBy_lb7 (pX4_firstLeftBy_l7 k) (nI h) S = _ ∧ _
    unfold pX4_firstLeftBy_lb7
    rw [n_le (by omega) (by omega), if_neg (by omega), gf_e, hr.2.1, bI_0]
    by_cases qs : st = false
    · rw [if_pos qs, gf_e, hr.2.2.2, leftN_s _ _ _ iv (hq qs)]
      exact ⟨S, A, fl, st, rfl, hr⟩
    · rw [if_neg qs, gf_e, gf_e, hr.2.2.2]
      have e : leftN w (n + 1) (A, fl) = if fl = -9 then leftN w n (nxt w (A, fl)) else fl := rfl
      rw [e]
      by_cases q : fl = -9
      · rw [if_pos q, if_pos q]
        obtain ⟨S1, st1, e1, r1, i1, i2, i3, hq1⟩ := c_nxt hr iv
        rw [e1, cr1_s, vl_e, nI_add]
        exact ih (h + 1) k S1 (nxt w (A, fl)).1 (nxt w (A, fl)).2 st1 (by omega) (by omega) r1 i1 (fun z => (hq1 z).2.2.2)
      · rw [if_neg q, if_neg q]
        exact ⟨S, A, fl, st, rfl, hr⟩
end AHEAD
