/-! ===== the road as a value; what holds it ===== -/
/-- scalars (0: the length, 1: the hours), counts (0 gates, 1 bays, 2 depots, 3 convoys, 4 vehicles), numbers (kind, thing, column), lines (0 of convoys, 1 of bays) -/
abbrev aA : Type := (Nat → Int32) × (Nat → Nat) × (Nat → Nat → Nat → Int32) × (Nat → Nat → List Nat)
def aS (A : aA) : Nat → Int32 := A.1
def aN (A : aA) : Nat → Nat := A.2.1
def aT (A : aA) : Nat → Nat → Nat → Int32 := A.2.2.1
def aL (A : aA) : Nat → Nat → List Nat := A.2.2.2
def aMx : Nat → Nat
  | 0 => 4
  | 1 => 6
  | 2 => 4
  | 3 => 4
  | _ => 16
def aCo : Nat → Nat
  | 0 => 4
  | 1 => 2
  | 2 => 2
  | 3 => 4
  | _ => 7
/-- a number anew; a line; a scalar; a whole table -/
def aPut (A : aA) (k i j : Nat) (x : Int32) : aA := (A.1, A.2.1, fun a b c => if a = k ∧ b = i ∧ c = j then x else A.2.2.1 a b c, A.2.2.2)
def aLine (A : aA) (k i : Nat) (x : List Nat) : aA := (A.1, A.2.1, A.2.2.1, fun a b => if a = k ∧ b = i then x else A.2.2.2 a b)
def aSc (A : aA) (k : Nat) (x : Int32) : aA := (fun a => if a = k then x else A.1 a, A.2.1, A.2.2.1, A.2.2.2)
def aTab (A : aA) (k n : Nat) (f : Nat → Nat → Int32) : aA := (A.1, fun a => if a = k then n else A.2.1 a, fun a => if a = k then f else A.2.2.1 a, A.2.2.2)
def aLins (A : aA) (k : Nat) (l : Nat → List Nat) : aA := (A.1, A.2.1, A.2.2.1, fun a => if a = k then l else A.2.2.2 a)
theorem aPut_tab (A : aA) (k i j : Nat) (x : Int32) : aPut A k i j x = aTab A k (aN A k) (fun a b => if a = i ∧ b = j then x else aT A k a b) := by
  unfold aPut aTab aN aT
  refine Prod.ext rfl (Prod.ext ?_ (Prod.ext ?_ rfl))
  · funext a
    show A.2.1 a = if a = k then A.2.1 k else A.2.1 a
    by_cases q : a = k
    · rw [if_pos q, q]
    · rw [if_neg q]
  · funext a b c
    show (if a = k ∧ b = i ∧ c = j then x else A.2.2.1 a b c) = (if a = k then (fun a b => if a = i ∧ b = j then x else A.2.2.1 k a b) else A.2.2.1 a) b c
    by_cases q : a = k
    · subst q
      rw [if_pos rfl]
      by_cases q2 : b = i ∧ c = j
      · rw [if_pos ⟨rfl, q2⟩, if_pos q2]
      · rw [if_neg (fun z => q2 z.2), if_neg q2]
    · rw [if_neg q, if_neg (fun z => q z.1)]
theorem aLine_lins (A : aA) (k i : Nat) (x : List Nat) : aLine A k i x = aLins A k (fun a => if a = i then x else aL A k a) := by
  unfold aLine aLins aL
  refine Prod.ext rfl (Prod.ext rfl (Prod.ext rfl ?_))
  funext a b
  show (if a = k ∧ b = i then x else A.2.2.2 a b) = (if a = k then (fun a => if a = i then x else A.2.2.2 k a) else A.2.2.2 a) b
  by_cases q : a = k
  · subst q
    rw [if_pos rfl]
    by_cases q2 : b = i
    · rw [if_pos ⟨rfl, q2⟩, if_pos q2]
    · rw [if_neg (fun z => q2 z.2), if_neg q2]
  · rw [if_neg q, if_neg (fun z => q z.1)]
section GETS
variable (A : aA) (k i j : Nat) (x : Int32) (y : List Nat)
theorem aT_put (a b c : Nat) : aT (aPut A k i j x) a b c = if a = k ∧ b = i ∧ c = j then x else aT A a b c := rfl
theorem aN_put : aN (aPut A k i j x) = aN A := rfl
theorem aL_put : aL (aPut A k i j x) = aL A := rfl
theorem aS_put : aS (aPut A k i j x) = aS A := rfl
theorem aT_line : aT (aLine A k i y) = aT A := rfl
theorem aN_line : aN (aLine A k i y) = aN A := rfl
theorem aS_line : aS (aLine A k i y) = aS A := rfl
theorem aL_line (a b : Nat) : aL (aLine A k i y) a b = if a = k ∧ b = i then y else aL A a b := rfl
theorem aT_sc : aT (aSc A k x) = aT A := rfl
theorem aN_sc : aN (aSc A k x) = aN A := rfl
theorem aL_sc : aL (aSc A k x) = aL A := rfl
theorem aS_sc (a : Nat) : aS (aSc A k x) a = if a = k then x else aS A a := rfl
end GETS
/-- the class's State, as its 17 cells hold it -/
def RepC (S : mM) (A : aA) : Prop := (S 0 7 = aS A 0 ∧ S 0 8 = aS A 1) ∧ (∀ k, k < 5 → TabRep (sB S (1 + 2 * k)) (aMx k) (aCo k) (aN A k) (aT A k)) ∧ LinRep (sB S 11) 4 8 (aL A 0) ∧ LinRep (sB S 14) 6 6 (aL A 1)
section REPC
variable {S : mM} {A : aA}
theorem RepC.g (h : RepC S A) : TabRep (sB S 1) 4 4 (aN A 0) (aT A 0) := h.2.1 0 (by decide)
theorem RepC.b (h : RepC S A) : TabRep (sB S 3) 6 2 (aN A 1) (aT A 1) := h.2.1 1 (by decide)
theorem RepC.d (h : RepC S A) : TabRep (sB S 5) 4 2 (aN A 2) (aT A 2) := h.2.1 2 (by decide)
theorem RepC.c (h : RepC S A) : TabRep (sB S 7) 4 4 (aN A 3) (aT A 3) := h.2.1 3 (by decide)
theorem RepC.v (h : RepC S A) : TabRep (sB S 9) 16 7 (aN A 4) (aT A 4) := h.2.1 4 (by decide)
theorem RepC.i (h : RepC S A) : LinRep (sB S 11) 4 8 (aL A 0) := h.2.2.1
theorem RepC.q (h : RepC S A) : LinRep (sB S 14) 6 6 (aL A 1) := h.2.2.2
theorem sB_at {S T : mM} {o n k : Nat} (h : k < n) : sB (wB S o n T) o k = T k := wB_at h
theorem sB_out {S T : mM} {o n o' k : Nat} (h : o' + k < o ∨ o + n ≤ o' + k) : sB (wB S o n T) o' k = sB S o' k := wB_out h
theorem RepC.tab (h : RepC S A) {k n : Nat} {T : mM} {f : Nat → Nat → Int32} (hk : k < 5) (hT : TabRep T (aMx k) (aCo k) n f) : RepC (wB S (1 + 2 * k) 2 T) (aTab A k n f) := by
  obtain ⟨⟨h1, h2⟩, h3, h4, h5⟩ := h
  refine ⟨⟨by rw [wB_out (by omega)]; exact h1, by rw [wB_out (by omega)]; exact h2⟩, fun a ha => ?_, h4.ext (sB_out (by omega)) (sB_out (by omega)) (sB_out (by omega)), h5.ext (sB_out (by omega)) (sB_out (by omega)) (sB_out (by omega))⟩
  by_cases q : a = k
  · subst q
    have e1 : aN (aTab A a n f) a = n := if_pos rfl
    have e2 : aT (aTab A a n f) a = f := if_pos rfl
    rw [e1, e2]
    exact hT.ext (sB_at (by decide)) (sB_at (by decide))
  · have e1 : aN (aTab A k n f) a = aN A a := if_neg q
    have e2 : aT (aTab A k n f) a = aT A a := if_neg q
    rw [e1, e2]
    exact (h3 a ha).ext (sB_out (by omega)) (sB_out (by omega))
theorem RepC.lin0 (h : RepC S A) {T : mM} {l : Nat → List Nat} (hT : LinRep T 4 8 l) : RepC (wB S 11 3 T) (aLins A 0 l) := by
  obtain ⟨⟨h1, h2⟩, h3, h4, h5⟩ := h
  refine ⟨⟨by rw [wB_out (by omega)]; exact h1, by rw [wB_out (by omega)]; exact h2⟩, fun a ha => (h3 a ha).ext (sB_out (by omega)) (sB_out (by omega)), ?_, ?_⟩
  · exact hT.ext (sB_at (by decide)) (sB_at (by decide)) (sB_at (by decide))
  · exact h5.ext (sB_out (by omega)) (sB_out (by omega)) (sB_out (by omega))
theorem RepC.lin1 (h : RepC S A) {T : mM} {l : Nat → List Nat} (hT : LinRep T 6 6 l) : RepC (wB S 14 3 T) (aLins A 1 l) := by
  obtain ⟨⟨h1, h2⟩, h3, h4, h5⟩ := h
  refine ⟨⟨by rw [wB_out (by omega)]; exact h1, by rw [wB_out (by omega)]; exact h2⟩, fun a ha => (h3 a ha).ext (sB_out (by omega)) (sB_out (by omega)), ?_, ?_⟩
  · exact h4.ext (sB_out (by omega)) (sB_out (by omega)) (sB_out (by omega))
  · exact hT.ext (sB_at (by decide)) (sB_at (by decide)) (sB_at (by decide))
theorem sB_0 {S : mM} {o i k : Nat} {x : Int32} (h : 0 < o) : sB (sto S 0 i x) o k = sB S o k := sto_k (by omega)
theorem RepC.flag (h : RepC S A) {j : Nat} (x : Int32) (hj : 8 < j) : RepC (sto S 0 j x) A := by
  obtain ⟨⟨h1, h2⟩, h3, h4, h5⟩ := h
  exact ⟨⟨by rw [sto_j (by omega)]; exact h1, by rw [sto_j (by omega)]; exact h2⟩, fun a ha => (h3 a ha).ext (sB_0 (by omega)) (sB_0 (by omega)), h4.ext (sB_0 (by omega)) (sB_0 (by omega)) (sB_0 (by omega)), h5.ext (sB_0 (by omega)) (sB_0 (by omega)) (sB_0 (by omega))⟩
theorem RepC.sc (h : RepC S A) {j : Nat} (x : Int32) (hj : j < 2) : RepC (sto S 0 (7 + j) x) (aSc A j x) := by
  obtain ⟨⟨h1, h2⟩, h3, h4, h5⟩ := h
  refine ⟨⟨?_, ?_⟩, fun a ha => (h3 a ha).ext (sB_0 (by omega)) (sB_0 (by omega)), h4.ext (sB_0 (by omega)) (sB_0 (by omega)) (sB_0 (by omega)), h5.ext (sB_0 (by omega)) (sB_0 (by omega)) (sB_0 (by omega))⟩
  · rw [aS_sc, sto_a]
    by_cases q : j = 0
    · rw [if_pos (by omega), if_pos q.symm]
    · rw [if_neg (by omega), if_neg (by omega)]
      exact h1
  · rw [aS_sc, sto_a]
    by_cases q : j = 1
    · rw [if_pos (by omega), if_pos q.symm]
    · rw [if_neg (by omega), if_neg (by omega)]
      exact h2
/-- a number of a table anew -/
theorem RepC.put (h : RepC S A) {k i j : Nat} (x : Int32) (hk : k < 5) (hi : i < aN A k) (hj : j < aCo k) : RepC (wB S (1 + 2 * k) 2 (sto (sB S (1 + 2 * k)) 1 (i * aCo k + j) x)) (aPut A k i j x) := by
  rw [aPut_tab]
  exact h.tab hk (tab_set (h.2.1 k hk) x hi hj)
end REPC
