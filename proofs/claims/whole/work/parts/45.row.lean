/-! ===== the reference's row ===== -/
/-- where a number of a table lies in a row; a line's size; its vehicles -/
def rix : Nat → Nat → Nat → Nat
  | 0, i, j => 8 + 4 * i + j
  | 1, i, j => 24 + 9 * i + j
  | 2, i, j => 78 + 2 * i + j
  | 3, i, j => 86 + 13 * i + (if j = 0 then 0 else j + 1)
  | _, i, j => 138 + 7 * i + j
def lsz : Nat → Nat → Nat
  | 0, i => 86 + 13 * i + 1
  | _, i => 24 + 9 * i + 2
def lix : Nat → Nat → Nat → Nat
  | 0, i, j => 86 + 13 * i + (5 + j)
  | _, i, j => 24 + 9 * i + (3 + j)
/-- which table a line's things are in; how long a line may be -/
def lTb : Nat → Nat
  | 0 => 3
  | _ => 1
def lMx : Nat → Nat
  | 0 => 8
  | _ => 6
def RepR (r : Nat → Int32) (A : aA) : Prop :=
  (r 0 = aS A 0 ∧ r 1 = aS A 1) ∧ (∀ k, k < 5 → r (2 + k) = nI (aN A k) ∧ aN A k ≤ aMx k) ∧ (∀ k i j, k < 5 → i < aN A k → j < aCo k → r (rix k i j) = aT A k i j) ∧
  (∀ k i, k < 2 → i < aN A (lTb k) → (aL A k i).length ≤ lMx k ∧ r (lsz k i) = nI (aL A k i).length ∧ ∀ j, j < (aL A k i).length → r (lix k i j) = nI ((aL A k i).getD j 0)) ∧
  r 7 = colSum (aT A 4) 6 (aN A 4)
theorem k5 {k : Nat} (h : k < 5) : k = 0 ∨ k = 1 ∨ k = 2 ∨ k = 3 ∨ k = 4 := by omega
theorem k2 {k : Nat} (h : k < 2) : k = 0 ∨ k = 1 := by omega
theorem rix_lt {k i j : Nat} (hk : k < 5) (hi : i < aMx k) (hj : j < aCo k) : 8 ≤ rix k i j ∧ rix k i j < 250 := by
  rcases k5 hk with rfl | rfl | rfl | rfl | rfl <;> simp only [rix, aMx, aCo] at * <;> (try split) <;> omega
theorem rix_ne {k i j k' i' j' : Nat} (hk : k < 5) (hi : i < aMx k) (hj : j < aCo k) (hk' : k' < 5) (hi' : i' < aMx k') (hj' : j' < aCo k') (h : ¬ (k = k' ∧ i = i' ∧ j = j')) : rix k i j ≠ rix k' i' j' := by
  rcases k5 hk with rfl | rfl | rfl | rfl | rfl <;> rcases k5 hk' with rfl | rfl | rfl | rfl | rfl <;> simp only [rix, aMx, aCo] at hi hj hi' hj' ⊢ <;> (try split) <;> (try split) <;> omega
theorem rix_lsz {k i j k' i' : Nat} (hk : k < 5) (hi : i < aMx k) (hj : j < aCo k) (hk' : k' < 2) (hi' : i' < aMx (lTb k')) : rix k i j ≠ lsz k' i' := by
  rcases k5 hk with rfl | rfl | rfl | rfl | rfl <;> rcases k2 hk' with rfl | rfl <;> simp only [rix, lsz, lTb, aMx, aCo] at * <;> (try split) <;> omega
theorem rix_lix {k i j k' i' j' : Nat} (hk : k < 5) (hi : i < aMx k) (hj : j < aCo k) (hk' : k' < 2) (hi' : i' < aMx (lTb k')) (hj' : j' < lMx k') : rix k i j ≠ lix k' i' j' := by
  rcases k5 hk with rfl | rfl | rfl | rfl | rfl <;> rcases k2 hk' with rfl | rfl <;> simp only [rix, lix, lTb, lMx, aMx, aCo] at * <;> (try split) <;> omega
theorem lsz_lt {k i : Nat} (hk : k < 2) (hi : i < aMx (lTb k)) : 8 ≤ lsz k i ∧ lsz k i < 250 := by
  rcases k2 hk with rfl | rfl <;> simp only [lsz, lTb, aMx] at * <;> omega
theorem lix_lt {k i j : Nat} (hk : k < 2) (hi : i < aMx (lTb k)) (hj : j < lMx k) : 8 ≤ lix k i j ∧ lix k i j < 250 := by
  rcases k2 hk with rfl | rfl <;> simp only [lix, lTb, lMx, aMx] at * <;> omega
theorem lsz_ne {k i k' i' : Nat} (hk : k < 2) (hi : i < aMx (lTb k)) (hk' : k' < 2) (hi' : i' < aMx (lTb k')) (h : ¬ (k = k' ∧ i = i')) : lsz k i ≠ lsz k' i' := by
  rcases k2 hk with rfl | rfl <;> rcases k2 hk' with rfl | rfl <;> simp only [lsz, lTb, aMx] at hi hi' ⊢ <;> omega
theorem lsz_lix {k i k' i' j' : Nat} (hk : k < 2) (hi : i < aMx (lTb k)) (hk' : k' < 2) (hi' : i' < aMx (lTb k')) (hj' : j' < lMx k') : lsz k i ≠ lix k' i' j' := by
  rcases k2 hk with rfl | rfl <;> rcases k2 hk' with rfl | rfl <;> simp only [lsz, lix, lTb, lMx, aMx] at * <;> omega
theorem lix_ne {k i j k' i' j' : Nat} (hk : k < 2) (hi : i < aMx (lTb k)) (hj : j < lMx k) (hk' : k' < 2) (hi' : i' < aMx (lTb k')) (hj' : j' < lMx k') (h : ¬ (k = k' ∧ i = i' ∧ j = j')) : lix k i j ≠ lix k' i' j' := by
  rcases k2 hk with rfl | rfl <;> rcases k2 hk' with rfl | rfl <;> simp only [lix, lTb, lMx, aMx] at hi hj hi' hj' ⊢ <;> omega
theorem upd_s (f : Nat → Int32) (k : Nat) (x : Int32) : upd f k x k = x := by simp [upd]
theorem upd_n {f : Nat → Int32} {k j : Nat} {x : Int32} (h : j ≠ k) : upd f k x j = f j := by simp [upd, h]
theorem colSum_to {f g : Nat → Nat → Int32} {j : Nat} : ∀ {n : Nat}, (∀ i, i < n → f i j = g i j) → colSum f j n = colSum g j n := by
  intro n
  induction n with
  | zero => intro _; rfl
  | succ n ih =>
    intro h
    show colSum f j n + f n j = colSum g j n + g n j
    rw [ih (fun i hi => h i (by omega)), h n (by omega)]
theorem colSum_add {f : Nat → Nat → Int32} {i j : Nat} {x : Int32} : ∀ {n : Nat}, i < n → colSum (fun a b => if a = i ∧ b = j then f i j + x else f a b) j n = colSum f j n + x := by
  intro n
  induction n with
  | zero => intro h; omega
  | succ n ih =>
    intro h
    show colSum _ j n + _ = colSum f j n + f n j + x
    by_cases q : n = i
    · subst q
      rw [colSum_to (g := f) (fun a ha => by rw [if_neg]; intro z; omega)]
      simp only [and_self, if_true]
      rw [Int32.add_assoc]
    · rw [ih (by omega)]
      simp only [q, false_and, if_false]
      rw [Int32.add_assoc, Int32.add_assoc, Int32.add_comm x]
section REPR
variable {r : Nat → Int32} {A : aA}
theorem RepR.n (h : RepR r A) {k : Nat} (hk : k < 5) : aN A k ≤ aMx k := (h.2.1 k hk).2
theorem lTb_lt {k : Nat} (hk : k < 2) : lTb k < 5 := by rcases k2 hk with rfl | rfl <;> decide
theorem RepR.put (h : RepR r A) {k i j : Nat} (x : Int32) (hk : k < 5) (hi : i < aN A k) (hj : j < aCo k) (h6 : ¬ (k = 4 ∧ j = 6)) : RepR (upd r (rix k i j) x) (aPut A k i j x) := by
  obtain ⟨⟨h1, h2⟩, h3, h4, h5, h7⟩ := id h
  have hi' : i < aMx k := Nat.lt_of_lt_of_le hi (h.n hk)
  obtain ⟨b1, b2⟩ := rix_lt hk hi' hj
  refine ⟨⟨by rw [upd_n (by omega)]; exact h1, by rw [upd_n (by omega)]; exact h2⟩, fun a ha => ?_, fun a b c ha hb hc => ?_, fun a b ha hb => ?_, ?_⟩
  · rw [upd_n (by omega)]
    exact h3 a ha
  · rw [aT_put]
    by_cases q : a = k ∧ b = i ∧ c = j
    · obtain ⟨rfl, rfl, rfl⟩ := q
      rw [upd_s, if_pos ⟨rfl, rfl, rfl⟩]
    · rw [if_neg q, upd_n (rix_ne ha (Nat.lt_of_lt_of_le hb (h.n ha)) hc hk hi' hj q)]
      exact h4 a b c ha hb hc
  · obtain ⟨g1, g2, g3⟩ := h5 a b ha hb
    have hb' : b < aMx (lTb a) := Nat.lt_of_lt_of_le hb (h.n (lTb_lt ha))
    refine ⟨g1, ?_, fun c hc => ?_⟩
    · rw [upd_n (Ne.symm (rix_lsz hk hi' hj ha hb'))]
      exact g2
    · rw [upd_n (Ne.symm (rix_lix hk hi' hj ha hb' (by rw [aL_put] at hc; omega)))]
      exact g3 c hc
  · rw [upd_n (by omega), h7]
    refine colSum_to (fun a ha => ?_)
    rw [aT_put, if_neg (fun z => h6 ⟨z.1.symm, z.2.2.symm⟩)]
/-- a vehicle burns x -/
theorem RepR.burn (h : RepR r A) {v : Nat} (x : Int32) (hv : v < aN A 4) : RepR (upd (upd r (138 + 7 * v + 6) (aT A 4 v 6 + x)) 7 (r 7 + x)) (aPut A 4 v 6 (aT A 4 v 6 + x)) := by
  obtain ⟨⟨h1, h2⟩, h3, h4, h5, h7⟩ := id h
  have hv' : v < aMx 4 := Nat.lt_of_lt_of_le hv (h.n (by decide))
  have hv2 : v < 16 := hv'
  refine ⟨⟨by rw [upd_n (by omega), upd_n (by omega)]; exact h1, by rw [upd_n (by omega), upd_n (by omega)]; exact h2⟩, fun a ha => ?_, fun a b c ha hb hc => ?_, fun a b ha hb => ?_, ?_⟩
  · rw [upd_n (by omega), upd_n (by omega)]
    exact h3 a ha
  · rw [aT_put]
    have hb' : b < aMx a := Nat.lt_of_lt_of_le hb (h.n ha)
    obtain ⟨b1, b2⟩ := rix_lt ha hb' hc
    rw [upd_n (by omega)]
    by_cases q : a = 4 ∧ b = v ∧ c = 6
    · obtain ⟨rfl, rfl, rfl⟩ := q
      rw [if_pos ⟨rfl, rfl, rfl⟩]
      exact upd_s _ _ _
    · rw [if_neg q, upd_n (k := 138 + 7 * v + 6) (rix_ne (k' := 4) (i' := v) (j' := 6) ha hb' hc (by decide) hv' (by decide) q)]
      exact h4 a b c ha hb hc
  · obtain ⟨g1, g2, g3⟩ := h5 a b ha hb
    have hb' : b < aMx (lTb a) := Nat.lt_of_lt_of_le hb (h.n (lTb_lt ha))
    have l1 := lsz_lt ha hb'
    refine ⟨g1, ?_, fun c hc => ?_⟩
    · rw [upd_n (by omega), upd_n (k := 138 + 7 * v + 6) (Ne.symm (rix_lsz (k := 4) (i := v) (j := 6) (by decide) hv' (by decide) ha hb'))]
      exact g2
    · have hc' : c < lMx a := by rw [aL_put] at hc; omega
      have l2 := lix_lt ha hb' hc'
      rw [upd_n (by omega), upd_n (k := 138 + 7 * v + 6) (Ne.symm (rix_lix (k := 4) (i := v) (j := 6) (by decide) hv' (by decide) ha hb' hc'))]
      exact g3 c hc
  · rw [upd_s, h7]
    show _ = colSum (fun a b => if 4 = 4 ∧ a = v ∧ b = 6 then aT A 4 v 6 + x else aT A 4 a b) 6 (aN A 4)
    rw [← colSum_add (f := aT A 4) (x := x) hv]
    exact colSum_to (fun a _ => by simp)
end REPR
