/-! ===== what is found changes nothing on the road ===== -/
section INDEP
variable {w w' : Int32}
theorem shedB_i {c b : Nat} : ∀ (n i : Nat) (A : aA) (fl fl' : Int32) (st : Bool), (shedB c b w n i (A, fl, st)).1 = (shedB c b w' n i (A, fl', st)).1 ∧ (shedB c b w n i (A, fl, st)).2.2 = (shedB c b w' n i (A, fl', st)).2.2 := by
  intro n
  induction n with
  | zero => intro i A fl fl' st; exact ⟨rfl, rfl⟩
  | succ n ih =>
    intro i A fl fl' st
    unfold shedB
    by_cases q : shortV A ((aL A 0 c).getD i 0) = true ∧ roomB A b = true
    · rw [if_pos (show shortV (A, fl, st).1 ((aL (A, fl, st).1 0 c).getD i 0) = true ∧ roomB (A, fl, st).1 b = true from q), if_pos (show shortV (A, fl', st).1 ((aL (A, fl', st).1 0 c).getD i 0) = true ∧ roomB (A, fl', st).1 b = true from q)]
      exact ih _ _ _ _ _
    · rw [if_neg (show ¬ (shortV (A, fl, st).1 ((aL (A, fl, st).1 0 c).getD i 0) = true ∧ roomB (A, fl, st).1 b = true) from q), if_neg (show ¬ (shortV (A, fl', st).1 ((aL (A, fl', st).1 0 c).getD i 0) = true ∧ roomB (A, fl', st).1 b = true) from q)]
      exact ih _ _ _ _ _
theorem shedC_i {c : Nat} (A : aA) (fl fl' : Int32) (st : Bool) : (shedC c w (A, fl, st)).1 = (shedC c w' (A, fl', st)).1 ∧ (shedC c w (A, fl, st)).2.2 = (shedC c w' (A, fl', st)).2.2 := by
  unfold shedC
  dsimp only
  cases e : rowF (aT A 1) (aT A 3 c 0) (aN A 1) with
  | none => exact ⟨rfl, rfl⟩
  | some b => exact shedB_i _ _ _ _ _ _
theorem stepC_i {c : Nat} : ∀ (n : Nat) (A : aA) (fl fl' : Int32) (st : Bool), (stepC c w n (A, fl, st)).1 = (stepC c w' n (A, fl', st)).1 ∧ (stepC c w n (A, fl, st)).2.2 = (stepC c w' n (A, fl', st)).2.2 := by
  intro n
  induction n with
  | zero => intro A fl fl' st; exact ⟨rfl, rfl⟩
  | succ n ih =>
    intro A fl fl' st
    obtain ⟨k1, k2⟩ := shedC_i (w := w) (w' := w') (c := c) A fl fl' st
    unfold stepC
    by_cases q1 : shutAt A (aT A 3 c 0 + nI 1) = true
    · rw [if_pos (show shutAt (A, fl, st).1 (aT (A, fl, st).1 3 c 0 + nI 1) = true from q1), if_pos (show shutAt (A, fl', st).1 (aT (A, fl', st).1 3 c 0 + nI 1) = true from q1)]
      exact ⟨rfl, rfl⟩
    · rw [if_neg (show ¬ shutAt (A, fl, st).1 (aT (A, fl, st).1 3 c 0 + nI 1) = true from q1), if_neg (show ¬ shutAt (A, fl', st).1 (aT (A, fl', st).1 3 c 0 + nI 1) = true from q1), k1, k2]
      by_cases q2 : okC (shedC c w' (A, fl', st)).1 c = true
      · rw [if_pos q2, if_pos q2]
        by_cases q3 : aT (burnC c (shedC c w' (A, fl', st)).1) 3 c 0 = aS (burnC c (shedC c w' (A, fl', st)).1) 0
        · rw [if_pos q3, if_pos q3]
          exact ⟨rfl, rfl⟩
        · rw [if_neg q3, if_neg q3]
          exact ih _ _ _ _
      · rw [if_neg q2, if_neg q2]
        exact ⟨rfl, rfl⟩
theorem driveC_i {c : Nat} (A : aA) (fl fl' : Int32) (st : Bool) : (driveC c w (A, fl, st)).1 = (driveC c w' (A, fl', st)).1 ∧ (driveC c w (A, fl, st)).2.2 = (driveC c w' (A, fl', st)).2.2 := by
  unfold driveC
  dsimp only
  by_cases q : 0 < aT A 3 c 1
  · rw [if_pos q, if_pos q]
    exact ⟨rfl, rfl⟩
  · rw [if_neg q, if_neg q]
    exact stepC_i _ _ _ _ _
theorem hourB_i : ∀ (n c : Nat) (A : aA) (fl fl' : Int32) (st : Bool), (hourB w n c (A, fl, st)).1 = (hourB w' n c (A, fl', st)).1 ∧ (hourB w n c (A, fl, st)).2.2 = (hourB w' n c (A, fl', st)).2.2 := by
  intro n
  induction n with
  | zero => intro c A fl fl' st; exact ⟨rfl, rfl⟩
  | succ n ih =>
    intro c A fl fl' st
    have hB : ∀ (w fl : Int32), hourB w (n + 1) c (A, fl, st) = hourB w n (c + 1) (if actC A c = true then driveC c w (A, fl, st) else (A, fl, st)) := fun _ _ => rfl
    rw [hB, hB]
    by_cases q : actC A c = true
    · rw [if_pos q, if_pos q]
      obtain ⟨k1, k2⟩ := driveC_i (w := w) (w' := w') (c := c) A fl fl' st
      generalize driveC c w (A, fl, st) = Y at k1 k2 ⊢
      generalize driveC c w' (A, fl', st) = Z at k1 k2 ⊢
      obtain ⟨Y1, Y2, Y3⟩ := Y
      obtain ⟨Z1, Z2, Z3⟩ := Z
      dsimp only at k1 k2
      rw [k1, k2]
      exact ih _ _ _ _ _
    · rw [if_neg q, if_neg q]
      exact ih _ _ _ _ _
theorem nxt_i (A : aA) (fl fl' : Int32) : (nxt w (A, fl)).1 = (nxt w' (A, fl')).1 := by
  unfold nxt hourA
  dsimp only
  rw [(hourB_i (w := w) (w' := w') (aN A 3) 0 A fl fl' false).1]
theorem iterN_i : ∀ (n : Nat) (A : aA) (fl fl' : Int32), (iterN w n (A, fl)).1 = (iterN w' n (A, fl')).1 := by
  intro n
  induction n with
  | zero => intro A fl fl'; rfl
  | succ n ih =>
    intro A fl fl'
    have k := nxt_i (w := w) (w' := w') A fl fl'
    have e : ∀ (w fl : Int32), iterN w (n + 1) (A, fl) = iterN w n ((nxt w (A, fl)).1, (nxt w (A, fl)).2) := fun _ _ => rfl
    rw [e, e, k]
    exact ih _ _ _
theorem arrN_i {c : Nat} : ∀ (n h : Nat) (A : aA) (fl fl' : Int32), arrN w c n h (A, fl) = arrN w' c n h (A, fl') := by
  intro n
  induction n with
  | zero => intro h A fl fl'; rfl
  | succ n ih =>
    intro h A fl fl'
    have k := nxt_i (w := w) (w' := w') A fl fl'
    have e : ∀ (w fl : Int32), arrN w c (n + 1) h (A, fl) = if aT A 3 c 0 = aS A 0 then nI h else arrN w c n (h + 1) ((nxt w (A, fl)).1, (nxt w (A, fl)).2) := fun _ _ => rfl
    rw [e, e, k, ih (h + 1) _ _ (nxt w' (A, fl')).2]
theorem allN_i : ∀ (n : Nat) (A : aA) (fl fl' : Int32), allN w n (A, fl) = allN w' n (A, fl') := by
  intro n
  induction n with
  | zero => intro A fl fl'; rfl
  | succ n ih =>
    intro A fl fl'
    have k := nxt_i (w := w) (w' := w') A fl fl'
    have e : ∀ (w fl : Int32), allN w (n + 1) (A, fl) = if arrd A = true then true else allN w n ((nxt w (A, fl)).1, (nxt w (A, fl)).2) := fun _ _ => rfl
    rw [e, e, k, ih _ _ (nxt w' (A, fl')).2]
end INDEP
