/-! ===== no hour gives a depot more ===== -/
def Stk (A B : aA) : Prop := aN B = aN A ∧ ∀ d q, d < aN A 2 → aT A 2 d 1 = nI q → q < 2 ^ 20 → ∃ q', aT B 2 d 1 = nI q' ∧ q' ≤ q
theorem Stk.tr {A B E : aA} (h : Stk A B) (g : Stk B E) : Stk A E := ⟨g.1.trans h.1, fun d q hd e hq => by
  obtain ⟨q1, e1, l1⟩ := h.2 d q hd e hq
  obtain ⟨q2, e2, l2⟩ := g.2 d q1 (by rw [h.1]; exact hd) e1 (by omega)
  exact ⟨q2, e2, by omega⟩⟩
theorem Stk.eq {A B : aA} (hn : aN B = aN A) (ht : ∀ d, aT B 2 d 1 = aT A 2 d 1) : Stk A B := ⟨hn, fun d q _ e _ => ⟨q, by rw [ht]; exact e, Nat.le_refl _⟩⟩
theorem Stk.dep {A B : aA} (h : Stk A B) (g : Dep A) : Dep B := fun d hd => by
  rw [h.1] at hd
  obtain ⟨q, e, l⟩ := g d hd
  obtain ⟨q', e', l'⟩ := h.2 d q hd e (by omega)
  exact ⟨q', e', by omega⟩
section STOCK
variable {A : aA}
theorem Inv.stkFillV (h : Inv A) {d v : Nat} (f : Bool) (hd : d < aN A 2) (hv : v < aN A 4) : Stk A (fillV d (A, f) v).1 := by
  obtain ⟨s, u, t, q0, e0, _, _, e1, _, _, e2, t9, e3, l3⟩ := h.veh v hv
  refine ⟨rfl, fun a q ha e hq => ?_⟩
  show ∃ q', aT (aPut (aPut A 4 v 3 _) 2 d 1 (aT A 2 d 1 - mn (aT A 4 v 2 - aT A 4 v 3) (aT A 2 d 1))) 2 a 1 = nI q' ∧ q' ≤ q
  by_cases z : a = d
  · subst z
    rw [aT_eq, e, e2, e3, pk_sub l3, mn_n (by omega) (by omega), pk_sub (Nat.min_le_right _ _)]
    exact ⟨_, rfl, Nat.sub_le _ _⟩
  · rw [aT_ne (by omega), aT_ne (by omega)]
    exact ⟨q, e, Nat.le_refl _⟩
theorem Inv.stkFills {d : Nat} : ∀ (x : List Nat) (X : aA × Bool), Inv X.1 → d < aN X.1 2 → (∀ v, v ∈ x → v < aN X.1 4) → Stk X.1 (x.foldl (fillV d) X).1 := by
  intro x
  induction x with
  | nil => intro X _ _ _; exact Stk.eq rfl (fun _ => rfl)
  | cons v r ih =>
    intro X iv hd hv
    obtain ⟨B, f⟩ := X
    have hv0 := hv v List.mem_cons_self
    have s := (fillV_s d (B, f) v).1
    rw [List.foldl_cons]
    refine Stk.tr (iv.stkFillV f hd hv0) (ih (fillV d (B, f) v) (iv.okFillV f hd hv0) ?_ (fun u hu => ?_))
    · rw [s.1]
      exact hd
    · rw [s.1]
      exact hv u (List.mem_cons_of_mem _ hu)
theorem Inv.stkFillC (h : Inv A) (f : Bool) {c : Nat} (hc : c < aN A 3) : Stk A (fillC c (A, f)).1 := by
  unfold fillC
  cases e : rowF (aT A 2) (aT A 3 c 0) (aN A 2) with
  | none =>
    simp only [e]
    exact Stk.eq rfl (fun _ => rfl)
  | some d =>
    simp only [e]
    exact Inv.stkFills _ (A, f) h (rowF_some e).1 (fun v hv => h.vok hc hv)
def T2 (A B : aA) : Prop := ∀ d, aT B 2 d 1 = aT A 2 d 1
theorem T2.rf : T2 A A := fun _ => rfl
theorem T2.tr {B E : aA} (h : T2 A B) (g : T2 B E) : T2 A E := fun d => (g d).trans (h d)
theorem T2.put {B : aA} (h : T2 A B) {k i j : Nat} {x : Int32} (hk : k ≠ 2) : T2 A (aPut B k i j x) := fun d => by
  rw [aT_ne (Or.inl (Ne.symm hk))]
  exact h d
theorem T2.line {B : aA} (h : T2 A B) {k i : Nat} {y : List Nat} : T2 A (aLine B k i y) := h
theorem T2.leave {B : aA} (h : T2 A B) (c b i v : Nat) : T2 A (leaveV c b i v B) := ((h.line (k := 0) (i := c) (y := (aL B 0 c).eraseIdx i)).line (k := 1) (i := b) (y := aL B 1 b ++ [v])).put (by decide) |>.put (by decide)
theorem T2.okShedB {c b : Nat} {w : Int32} : ∀ (n i : Nat) (X : aA × Int32 × Bool), T2 X.1 (shedB c b w n i X).1 := by
  intro n
  induction n with
  | zero => intro i X; exact T2.rf
  | succ n ih =>
    intro i X
    unfold shedB
    by_cases q : shortV X.1 ((aL X.1 0 c).getD i 0) = true ∧ roomB X.1 b = true
    · rw [if_pos q]
      exact T2.tr (T2.leave T2.rf c b i _) (ih i _)
    · rw [if_neg q]
      exact ih (i + 1) X
theorem T2.fold {α : Type} (f : aA → α → aA) (hf : ∀ B a, T2 B (f B a)) : ∀ (x : List α) (B : aA), T2 B (x.foldl f B) := by
  intro x
  induction x with
  | nil => intro B; exact T2.rf
  | cons a r ih => intro B; rw [List.foldl_cons]; exact T2.tr (hf B a) (ih _)
theorem T2.okShedC {c : Nat} {w : Int32} (X : aA × Int32 × Bool) : T2 X.1 (shedC c w X).1 := by
  unfold shedC
  cases e : rowF (aT X.1 1) (aT X.1 3 c 0) (aN X.1 1) with
  | none => exact T2.rf
  | some b => exact T2.okShedB _ _ _
theorem T2.okBurnC (c : Nat) (B : aA) : T2 B (burnC c B) := T2.tr (T2.put T2.rf (by decide)) (T2.fold burnV (fun B v => T2.put (T2.put T2.rf (by decide)) (by decide)) _ _)
theorem T2.okEndC (c : Nat) (B : aA) : T2 B (endC c B) := T2.line (T2.fold endV (fun B v => T2.put (T2.put T2.rf (by decide)) (by decide)) _ _)
theorem T2.okGive (B : aA) (m v : Nat) : T2 B (giveF B m v) := T2.put (T2.put T2.rf (by decide)) (by decide)
theorem T2.okJoin {B E : aA} (h : T2 B E) (c b v : Nat) (r : List Nat) : T2 B (joinV c b v r E) := ((h.line (k := 1) (i := b) (y := r)).line (k := 0) (i := c) (y := aL E 0 c ++ [v])).put (by decide) |>.put (by decide)
theorem T2.okRescB {c b : Nat} : ∀ (n : Nat) (X : aA × Bool), T2 X.1 (rescB c b n X).1 := by
  intro n
  induction n with
  | zero => intro X; exact T2.rf
  | succ n ih =>
    intro X
    unfold rescB
    cases e : aL X.1 1 b with
    | nil => exact T2.rf
    | cons v r =>
      dsimp only
      by_cases q : (aL X.1 0 c).length < 8
      · rw [if_pos q]
        by_cases z : shortV (giveF X.1 (richF X.1 (aL X.1 0 c)) v) v = true
        · rw [if_pos z]
          exact T2.okGive _ _ _
        · rw [if_neg z]
          exact T2.tr (T2.okJoin (T2.okGive _ _ _) _ _ _ _) (ih _)
      · rw [if_neg q]
        exact T2.rf
theorem T2.okRescC (c : Nat) (B : aA) : T2 B (rescC c B) := by
  unfold rescC
  cases e : rowF (aT B 1) (aT B 3 c 0) (aN B 1) with
  | none => exact T2.rf
  | some b =>
    dsimp only
    by_cases q : (rescB c b (aL B 1 b).length (B, false)).2 = true
    · rw [if_pos q]
      exact T2.line (T2.okRescB _ (B, false))
    · rw [if_neg q]
      exact T2.okRescB _ (B, false)
theorem T2.okStepC {c : Nat} {w : Int32} : ∀ (n : Nat) (X : aA × Int32 × Bool), T2 X.1 (stepC c w n X).1 := by
  intro n
  induction n with
  | zero => intro X; exact T2.rf
  | succ n ih =>
    intro X
    unfold stepC
    by_cases q : shutAt X.1 (aT X.1 3 c 0 + nI 1) = true
    · rw [if_pos q]
      exact T2.put T2.rf (by decide)
    · rw [if_neg q]
      by_cases z : okC (shedC c w X).1 c = true
      · rw [if_pos z]
        by_cases y : aT (burnC c (shedC c w X).1) 3 c 0 = aS (burnC c (shedC c w X).1) 0
        · rw [if_pos y]
          exact T2.tr (T2.okShedC X) (T2.tr (T2.okBurnC c _) (T2.okEndC c _))
        · rw [if_neg y]
          exact T2.tr (T2.okShedC X) (T2.tr (T2.okBurnC c _) (T2.tr (T2.okRescC c _) (ih _)))
      · rw [if_neg z]
        exact T2.tr (T2.okShedC X) (T2.put T2.rf (by decide))
theorem Inv.stkDrive {c : Nat} {w : Int32} {X : aA × Int32 × Bool} (h : Inv X.1) (hc : c < aN X.1 3) : Stk X.1 (driveC c w X).1 := by
  have hs := (h.okDriveC (w := w) hc).2
  unfold driveC at hs ⊢
  by_cases q : 0 < aT X.1 3 c 1
  · rw [if_pos q]
    exact Stk.eq rfl (T2.put T2.rf (by decide))
  · rw [if_neg q] at hs ⊢
    have s1 := h.stkFillC X.2.2 hc
    refine Stk.tr s1 (Stk.eq ?_ (T2.okStepC _ _))
    rw [s1.1]
    exact hs.1
theorem Inv.stkHourB {w : Int32} : ∀ (n c : Nat) (X : aA × Int32 × Bool), Inv X.1 → n + c ≤ aN X.1 3 → Stk X.1 (hourB w n c X).1 := by
  intro n
  induction n with
  | zero => intro c X _ _; exact Stk.eq rfl (fun _ => rfl)
  | succ n ih =>
    intro c X iv hc
    unfold hourB
    by_cases q : actC X.1 c = true
    · rw [if_pos q]
      have hd := iv.okDriveC (w := w) (show c < aN X.1 3 by omega)
      exact Stk.tr (iv.stkDrive (by omega)) (ih (c + 1) _ hd.1 (by rw [hd.2.1]; omega))
    · rw [if_neg q]
      exact ih (c + 1) X iv (by omega)
theorem Inv.stkNxt {w : Int32} {X : aA × Int32} (h : Inv X.1) : Stk X.1 (nxt w X).1 :=
  Stk.tr (Inv.stkHourB (w := w) (aN X.1 3) 0 (X.1, X.2, false) h (Nat.le_refl _)) (Stk.eq rfl (fun _ => rfl))
theorem Inv.stkIter {w : Int32} : ∀ (n : Nat) (X : aA × Int32), Inv X.1 → Stk X.1 (iterN w n X).1 := by
  intro n
  induction n with
  | zero => intro X _; exact Stk.eq rfl (fun _ => rfl)
  | succ n ih =>
    intro X iv
    exact Stk.tr iv.stkNxt (ih (nxt w X) (iterN_ok (w := w) 1 X iv).1)
end STOCK
