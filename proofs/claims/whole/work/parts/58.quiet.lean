/-! ===== an hour in which nothing happened: so it stays ===== -/
/-- the same but for how long convoys have waited and stood, and the hours -/
def Sim (A B : aA) : Prop := aN B = aN A ∧ aL B = aL A ∧ aS B 0 = aS A 0 ∧ ∀ k i j, k ≠ 3 ∨ (j ≠ 2 ∧ j ≠ 3) → aT B k i j = aT A k i j
theorem Sim.rf {A : aA} : Sim A A := ⟨rfl, rfl, rfl, fun _ _ _ _ => rfl⟩
theorem Sim.tr {A B C : aA} (h : Sim A B) (g : Sim B C) : Sim A C := ⟨g.1.trans h.1, g.2.1.trans h.2.1, g.2.2.1.trans h.2.2.1, fun k i j q => (g.2.2.2 k i j q).trans (h.2.2.2 k i j q)⟩
theorem Sim.sy {A B : aA} (h : Sim A B) : Sim B A := ⟨h.1.symm, h.2.1.symm, h.2.2.1.symm, fun k i j q => (h.2.2.2 k i j q).symm⟩
theorem Sim.plus {A B : aA} (h : Sim A B) {c j : Nat} (hj : j = 2 ∨ j = 3) : Sim A (plusC B c j) := ⟨h.1, h.2.1, h.2.2.1, fun k i l q => (aT_ne (by omega)).trans (h.2.2.2 k i l q)⟩
theorem Sim.hrs {A B : aA} (h : Sim A B) (x : Int32) : Sim A (aSc B 1 x) := ⟨h.1, h.2.1, h.2.2.1, h.2.2.2⟩
theorem Sim.tab {A B : aA} (h : Sim A B) {k : Nat} (hk : k ≠ 3) : aT B k = aT A k := by
  funext i j
  exact h.2.2.2 k i j (Or.inl hk)
theorem Sim.short {A B : aA} (h : Sim A B) (v : Nat) : shortV B v = shortV A v := by
  unfold shortV
  rw [h.tab (k := 4) (by decide)]
theorem Sim.ok {A B : aA} (h : Sim A B) (c : Nat) : okC B c = okC A c := by
  unfold okC
  rw [h.2.1]
  congr 2
  funext v
  rw [h.short]
def fillN (A : aA) (c : Nat) : Prop := ∀ d, rowF (aT A 2) (aT A 3 c 0) (aN A 2) = some d → ∀ v, v ∈ aL A 0 c → ¬ 0 < mn (aT A 4 v 2 - aT A 4 v 3) (aT A 2 d 1)
def shedN (A : aA) (c : Nat) : Prop := ∀ b, rowF (aT A 1) (aT A 3 c 0) (aN A 1) = some b → ∀ v, v ∈ aL A 0 c → ¬ (shortV A v = true ∧ roomB A b = true)
def stuckAt (A : aA) (c : Nat) : Prop := ¬ 0 < aT A 3 c 1 ∧ fillN A c ∧ shedN A c ∧ okC A c = false
theorem Sim.stuck {A B : aA} (h : Sim A B) {c : Nat} (g : stuckAt A c) : stuckAt B c := by
  have e0 : aT B 3 c 0 = aT A 3 c 0 := h.2.2.2 3 c 0 (by omega)
  have e1 : aT B 3 c 1 = aT A 3 c 1 := h.2.2.2 3 c 1 (by omega)
  obtain ⟨g1, g2, g3, g4⟩ := g
  refine ⟨by rw [e1]; exact g1, fun d hd v hv => ?_, fun b hb v hv => ?_, by rw [h.ok]; exact g4⟩
  · rw [e0, h.tab (k := 2) (by decide), h.1] at hd
    rw [h.2.1] at hv
    rw [h.tab (k := 4) (by decide), h.tab (k := 2) (by decide)]
    exact g2 d hd v hv
  · rw [e0, h.tab (k := 1) (by decide), h.1] at hb
    rw [h.2.1] at hv
    have e : roomB B b = roomB A b := by
      unfold roomB
      rw [h.tab (k := 1) (by decide), h.2.1]
    rw [h.short, e]
    exact g3 b hb v hv
theorem Sim.act {A B : aA} (h : Sim A B) (c : Nat) : actC B c = actC A c := by
  unfold actC
  rw [h.2.1, h.2.2.1, h.2.2.2 3 c 0 (by omega)]
section QUIET
variable {A : aA}
theorem aPut_same (A : aA) (k i j : Nat) : aPut A k i j (aT A k i j) = A := by
  refine Prod.ext rfl (Prod.ext rfl (Prod.ext ?_ rfl))
  funext a b c
  show (if a = k ∧ b = i ∧ c = j then A.2.2.1 k i j else A.2.2.1 a b c) = A.2.2.1 a b c
  by_cases q : a = k ∧ b = i ∧ c = j
  · rw [if_pos q, q.1, q.2.1, q.2.2]
  · rw [if_neg q]
/-- what gives nothing changes nothing -/
theorem fillV_0 (iv : Inv A) {d v : Nat} (st : Bool) (hd : d < aN A 2) (hv : v < aN A 4) (h : ¬ 0 < mn (aT A 4 v 2 - aT A 4 v 3) (aT A 2 d 1)) : fillV d (A, st) v = (A, st) := by
  obtain ⟨s, u, t, q, h1, h2, h3, h4, h5, h6, h7, h8, h9, h10⟩ := iv.veh v hv
  obtain ⟨m, g1, g2⟩ := iv.depot d hd
  have e1 : mn (aT A 4 v 2 - aT A 4 v 3) (aT A 2 d 1) = nI (min (t - q) m) := by rw [h7, h9, g1, pk_sub h10, mn_n (by omega) (by omega)]
  have k1 := Nat.min_le_left (t - q) m
  rw [e1, P_gt0 (by omega)] at h
  have e2 : mn (aT A 4 v 2 - aT A 4 v 3) (aT A 2 d 1) = 0 := by rw [e1, show min (t - q) m = 0 by omega]; rfl
  unfold fillV
  dsimp only
  rw [e2, Int32.add_zero, Int32.sub_zero, aPut_same]
  have e3 : aT A 2 d 1 = aT (A, st).1 2 d 1 := rfl
  rw [aPut_same]
  cases st <;> rfl
theorem fills_q {d : Nat} : ∀ (x : List Nat) (st : Bool), Inv A → d < aN A 2 → (∀ v, v ∈ x → v < aN A 4) → (x.foldl (fillV d) (A, st)).2 = false → st = false ∧ ∀ v, v ∈ x → ¬ 0 < mn (aT A 4 v 2 - aT A 4 v 3) (aT A 2 d 1) := by
  have mono : ∀ (x : List Nat) (X : aA × Bool), (x.foldl (fillV d) X).2 = false → X.2 = false := by
    intro x
    induction x with
    | nil => intro X h; exact h
    | cons v r ih =>
      intro X h
      have := ih _ h
      have e : (fillV d X v).2 = (X.2 || decide (0 < mn (aT X.1 4 v 2 - aT X.1 4 v 3) (aT X.1 2 d 1))) := rfl
      rw [e] at this
      exact (Bool.or_eq_false_iff.mp this).1
  intro x
  induction x with
  | nil => intro st _ _ _ h; exact ⟨h, fun v hv => absurd hv List.not_mem_nil⟩
  | cons v r ih =>
    intro st iv hd hv h
    rw [List.foldl_cons] at h
    have h1 := mono r _ h
    have e : (fillV d (A, st) v).2 = (st || decide (0 < mn (aT A 4 v 2 - aT A 4 v 3) (aT A 2 d 1))) := rfl
    rw [e] at h1
    obtain ⟨h2, h3⟩ := Bool.or_eq_false_iff.mp h1
    have h4 := of_decide_eq_false h3
    rw [fillV_0 iv st hd (hv v List.mem_cons_self) h4] at h
    obtain ⟨k1, k2⟩ := ih st iv hd (fun u hu => hv u (List.mem_cons_of_mem _ hu)) h
    refine ⟨k1, fun u hu => ?_⟩
    rcases List.mem_cons.mp hu with rfl | hu
    · exact h4
    · exact k2 u hu
theorem fills_s {d : Nat} : ∀ (x : List Nat) (st : Bool), Inv A → d < aN A 2 → (∀ v, v ∈ x → v < aN A 4) → (∀ v, v ∈ x → ¬ 0 < mn (aT A 4 v 2 - aT A 4 v 3) (aT A 2 d 1)) → x.foldl (fillV d) (A, st) = (A, st) := by
  intro x
  induction x with
  | nil => intro st _ _ _ _; rfl
  | cons v r ih =>
    intro st iv hd hv h
    rw [List.foldl_cons, fillV_0 iv st hd (hv v List.mem_cons_self) (h v List.mem_cons_self)]
    exact ih st iv hd (fun u hu => hv u (List.mem_cons_of_mem _ hu)) (fun u hu => h u (List.mem_cons_of_mem _ hu))
theorem fill_s (iv : Inv A) (st : Bool) {c : Nat} (hc : c < aN A 3) (h : fillN A c) : fillC c (A, st) = (A, st) := by
  unfold fillC
  cases e : rowF (aT A 2) (aT A 3 c 0) (aN A 2) with
  | none => simp only [e]
  | some d =>
    simp only [e]
    exact fills_s (aL A 0 c) st iv (rowF_some e).1 (fun v hv => iv.vok hc hv) (h d e)
theorem fill_q (iv : Inv A) {st : Bool} {c : Nat} (hc : c < aN A 3) (h : (fillC c (A, st)).2 = false) : st = false ∧ fillN A c := by
  unfold fillC at h
  cases e : rowF (aT A 2) (aT A 3 c 0) (aN A 2) with
  | none =>
    simp only [e] at h
    exact ⟨h, fun d hd => by rw [e] at hd; cases hd⟩
  | some d =>
    simp only [e] at h
    obtain ⟨k1, k2⟩ := fills_q (aL A 0 c) st iv (rowF_some e).1 (fun v hv => iv.vok hc hv) h
    exact ⟨k1, fun d' hd' v hv => by rw [e] at hd'; cases hd'; exact k2 v hv⟩
theorem sheds_mono {c b : Nat} {w : Int32} : ∀ (n i : Nat) (X : aA × Int32 × Bool), (shedB c b w n i X).2.2 = false → X.2.2 = false := by
  intro n
  induction n with
  | zero => intro i X h; exact h
  | succ n ih =>
    intro i X h
    unfold shedB at h
    by_cases q : shortV X.1 ((aL X.1 0 c).getD i 0) = true ∧ roomB X.1 b = true
    · rw [if_pos q] at h
      exact absurd (ih _ _ h) (by simp)
    · rw [if_neg q] at h
      exact ih _ _ h
theorem sheds_q {c b : Nat} {w : Int32} : ∀ (n i : Nat) (X : aA × Int32 × Bool), n + i = (aL X.1 0 c).length → (shedB c b w n i X).2.2 = false → shedB c b w n i X = X ∧ ∀ v, v ∈ (aL X.1 0 c).drop i → ¬ (shortV X.1 v = true ∧ roomB X.1 b = true) := by
  intro n
  induction n with
  | zero =>
    intro i X hn h
    exact ⟨rfl, fun v hv => by rw [List.drop_eq_nil_of_le (by omega)] at hv; exact absurd hv List.not_mem_nil⟩
  | succ n ih =>
    intro i X hn h
    unfold shedB at h ⊢
    by_cases q : shortV X.1 ((aL X.1 0 c).getD i 0) = true ∧ roomB X.1 b = true
    · rw [if_pos q] at h
      exact absurd (sheds_mono _ _ _ h) (by simp)
    · rw [if_neg q] at h ⊢
      obtain ⟨k1, k2⟩ := ih (i + 1) X (by omega) h
      refine ⟨k1, fun v hv => ?_⟩
      rw [drop_get (by omega)] at hv
      rcases List.mem_cons.mp hv with e | hv
      · rw [e]
        exact q
      · exact k2 v hv
theorem sheds_s {c b : Nat} {w : Int32} : ∀ (n i : Nat) (X : aA × Int32 × Bool), n + i = (aL X.1 0 c).length → (∀ v, v ∈ aL X.1 0 c → ¬ (shortV X.1 v = true ∧ roomB X.1 b = true)) → shedB c b w n i X = X := by
  intro n
  induction n with
  | zero => intro i X _ _; rfl
  | succ n ih =>
    intro i X hn h
    unfold shedB
    rw [if_neg (h _ (getD_mem (by omega)))]
    exact ih (i + 1) X (by omega) h
theorem shed_s {c : Nat} {w fl : Int32} {st : Bool} (h : shedN A c) : shedC c w (A, fl, st) = (A, fl, st) := by
  unfold shedC
  cases e : rowF (aT A 1) (aT A 3 c 0) (aN A 1) with
  | none => simp only [e]
  | some b =>
    simp only [e]
    exact sheds_s _ 0 (A, fl, st) rfl (h b e)
theorem shed_q {c : Nat} {w fl : Int32} {st : Bool} (h : (shedC c w (A, fl, st)).2.2 = false) : st = false ∧ shedN A c := by
  unfold shedC at h
  cases e : rowF (aT A 1) (aT A 3 c 0) (aN A 1) with
  | none =>
    simp only [e] at h
    exact ⟨h, fun d hd => by rw [e] at hd; cases hd⟩
  | some b =>
    simp only [e] at h
    obtain ⟨k1, k2⟩ := sheds_q _ 0 (A, fl, st) rfl h
    refine ⟨sheds_mono _ _ _ h, fun d' hd' v hv => ?_⟩
    rw [e] at hd'
    cases hd'
    exact k2 v (by rw [List.drop_zero]; exact hv)
theorem step_q {c : Nat} {w : Int32} : ∀ (n : Nat) (A : aA) (fl : Int32) (st : Bool), (stepC c w n (A, fl, st)).2.2 = false → st = false ∧ (0 < n → shedN A c ∧ okC A c = false ∧ stepC c w n (A, fl, st) = (plusC A c 3, fl, false)) := by
  intro n
  induction n with
  | zero => intro A fl st h; exact ⟨h, fun z => absurd z (by decide)⟩
  | succ n ih =>
    intro A fl st h
    unfold stepC at h ⊢
    by_cases q1 : shutAt (A, fl, st).1 (aT (A, fl, st).1 3 c 0 + nI 1) = true
    · rw [if_pos q1] at h
      exact absurd h (by simp)
    · rw [if_neg q1] at h ⊢
      by_cases q2 : okC (shedC c w (A, fl, st)).1 c = true
      · rw [if_pos q2] at h
        by_cases q3 : aT (burnC c (shedC c w (A, fl, st)).1) 3 c 0 = aS (burnC c (shedC c w (A, fl, st)).1) 0
        · rw [if_pos q3] at h
          exact absurd h (by simp)
        · rw [if_neg q3] at h
          exact absurd (ih _ _ _ h).1 (by simp)
      · rw [if_neg q2] at h ⊢
        obtain ⟨k1, k2⟩ := shed_q (A := A) (fl := fl) (st := st) h
        refine ⟨k1, fun _ => ?_⟩
        rw [shed_s k2] at q2 ⊢
        have q2' : okC A c = false := by cases e : okC A c with | true => exact absurd e q2 | false => rfl
        exact ⟨k2, q2', by rw [k1]⟩
theorem drive_q {c : Nat} {w fl : Int32} {st : Bool} (iv : Inv A) (hc : c < aN A 3) (hne : aL A 0 c ≠ []) (h : (driveC c w (A, fl, st)).2.2 = false) : st = false ∧ stuckAt A c ∧ driveC c w (A, fl, st) = (plusC A c 3, fl, false) := by
  unfold driveC at h ⊢
  by_cases q : 0 < aT (A, fl, st).1 3 c 1
  · rw [if_pos q] at h
    exact absurd h (by simp)
  · rw [if_neg q] at h ⊢
    dsimp only at h ⊢
    obtain ⟨s1, -⟩ := step_q _ _ _ _ h
    obtain ⟨f1, f2⟩ := fill_q iv hc s1
    rw [fill_s iv st hc f2] at h ⊢
    obtain ⟨s, e1, e2, e3⟩ := slow_n iv hc
    dsimp only at h ⊢
    rw [e1, nI_clamp (by omega)] at h ⊢
    obtain ⟨-, g⟩ := step_q _ _ _ _ h
    obtain ⟨g1, g2, g3⟩ := g (e3 hne)
    exact ⟨f1, ⟨q, f2, g1, g2⟩, g3⟩
theorem drive_s {c : Nat} {w fl : Int32} {st : Bool} (iv : Inv A) (hc : c < aN A 3) (hne : aL A 0 c ≠ []) (h : stuckAt A c) : ∃ j st', (j = 2 ∨ j = 3) ∧ driveC c w (A, fl, st) = (plusC A c j, fl, st') := by
  obtain ⟨h1, h2, h3, h4⟩ := h
  unfold driveC
  rw [if_neg (show ¬ 0 < aT (A, fl, st).1 3 c 1 from h1)]
  dsimp only
  rw [fill_s iv st hc h2]
  obtain ⟨s, e1, e2, e3⟩ := slow_n iv hc
  dsimp only
  rw [e1, nI_clamp (by omega)]
  obtain ⟨n, rfl⟩ : ∃ n, s = n + 1 := ⟨s - 1, by have := e3 hne; omega⟩
  unfold stepC
  by_cases q1 : shutAt (A, fl, st).1 (aT (A, fl, st).1 3 c 0 + nI 1) = true
  · rw [if_pos q1]
    exact ⟨2, true, Or.inl rfl, rfl⟩
  · rw [if_neg q1, shed_s h3, if_neg (by rw [h4]; simp)]
    exact ⟨3, st, Or.inr rfl, rfl⟩
theorem act_ne {c : Nat} (h : actC A c = true) : aL A 0 c ≠ [] := by
  intro e
  unfold actC at h
  rw [e] at h
  exact absurd h (by simp)
theorem hour_q {w : Int32} : ∀ (n c : Nat) (A : aA) (fl : Int32) (st : Bool), Inv A → n + c ≤ aN A 3 → (hourB w n c (A, fl, st)).2.2 = false →
    st = false ∧ (∀ a, c ≤ a → a < c + n → actC A a = true → stuckAt A a) ∧ ∃ B, hourB w n c (A, fl, st) = (B, fl, false) ∧ Sim A B := by
  intro n
  induction n with
  | zero => intro c A fl st _ _ h; exact ⟨h, fun a h1 h2 => by omega, A, by rw [show st = false from h]; rfl, Sim.rf⟩
  | succ n ih =>
    intro c A fl st iv hn h
    have hB : hourB w (n + 1) c (A, fl, st) = hourB w n (c + 1) (if actC A c = true then driveC c w (A, fl, st) else (A, fl, st)) := rfl
    rw [hB] at h ⊢
    by_cases q : actC A c = true
    · rw [if_pos q] at h ⊢
      obtain ⟨k1, k2⟩ := Inv.okDriveC (c := c) (w := w) (X := (A, fl, st)) iv (by show c < aN A 3; omega)
      have hq : (driveC c w (A, fl, st)).2.2 = false := by
        have e : ((driveC c w (A, fl, st)).1, (driveC c w (A, fl, st)).2.1, (driveC c w (A, fl, st)).2.2) = driveC c w (A, fl, st) := rfl
        rw [← e] at h
        exact (ih (c + 1) _ _ _ k1 (by rw [k2.1]; show n + (c + 1) ≤ aN A 3; omega) h).1
      obtain ⟨d1, d2, d3⟩ := drive_q iv (by omega) (act_ne q) hq
      rw [d3] at h ⊢ k1
      have sm : Sim A (plusC A c 3) := Sim.rf.plus (Or.inr rfl)
      obtain ⟨g1, g2, B, g3, g4⟩ := ih (c + 1) _ _ _ k1 (by show n + (c + 1) ≤ aN A 3; omega) h
      refine ⟨d1, fun a h1 h2 h3 => ?_, B, g3, sm.tr g4⟩
      by_cases z : a = c
      · rw [z]
        exact d2
      · exact sm.sy.stuck (g2 a (by omega) (by omega) (by rw [sm.act]; exact h3))
    · rw [if_neg q] at h ⊢
      obtain ⟨g1, g2, B, g3, g4⟩ := ih (c + 1) A fl st iv (by omega) h
      refine ⟨g1, fun a h1 h2 h3 => ?_, B, g3, g4⟩
      by_cases z : a = c
      · rw [z] at h3
        exact absurd h3 q
      · exact g2 a (by omega) (by omega) h3
/-- nothing can happen any more -/
def Stuck (A : aA) : Prop := ∀ c, c < aN A 3 → actC A c = true → stuckAt A c
theorem Sim.Stuck {B : aA} (h : Sim A B) (g : Stuck A) : Stuck B := fun c hc ha => h.stuck (g c (by rw [← h.1]; exact hc) (by rw [← h.act]; exact ha))
theorem quiet {w fl : Int32} (iv : Inv A) (h : (hourA w (A, fl)).2.2 = false) : Stuck A ∧ Sim A (hourA w (A, fl)).1 ∧ (hourA w (A, fl)).2.1 = fl := by
  obtain ⟨-, g2, B, g3, g4⟩ := hour_q (aN A 3) 0 A fl false iv (by omega) h
  refine ⟨fun c hc ha => g2 c (Nat.zero_le _) (by omega) ha, ?_, ?_⟩
  · unfold hourA
    dsimp only
    rw [g3]
    exact g4.hrs _
  · unfold hourA
    dsimp only
    rw [g3]
theorem hour_s {w : Int32} : ∀ (n c : Nat) (A : aA) (fl : Int32) (st : Bool), Inv A → n + c ≤ aN A 3 → Stuck A → ∃ B st', hourB w n c (A, fl, st) = (B, fl, st') ∧ Sim A B := by
  intro n
  induction n with
  | zero => intro c A fl st _ _ _; exact ⟨A, st, rfl, Sim.rf⟩
  | succ n ih =>
    intro c A fl st iv hn h
    have hB : hourB w (n + 1) c (A, fl, st) = hourB w n (c + 1) (if actC A c = true then driveC c w (A, fl, st) else (A, fl, st)) := rfl
    rw [hB]
    by_cases q : actC A c = true
    · rw [if_pos q]
      obtain ⟨j, st', hj, e⟩ := drive_s (w := w) (fl := fl) (st := st) iv (by omega) (act_ne q) (h c (by omega) q)
      rw [e]
      have sm : Sim A (plusC A c j) := Sim.rf.plus hj
      obtain ⟨B, s2, g1, g2⟩ := ih (c + 1) (plusC A c j) fl st' (iv.put3 _ _ _) (by show n + (c + 1) ≤ aN A 3; omega) (sm.Stuck h)
      exact ⟨B, s2, g1, sm.tr g2⟩
    · rw [if_neg q]
      exact ih (c + 1) A fl st iv (by omega) h
theorem stuck_hour {w fl : Int32} (iv : Inv A) (h : Stuck A) : Sim A (hourA w (A, fl)).1 ∧ (hourA w (A, fl)).2.1 = fl := by
  obtain ⟨B, st', g1, g2⟩ := hour_s (w := w) (aN A 3) 0 A fl false iv (by omega) h
  refine ⟨?_, ?_⟩
  · unfold hourA
    dsimp only
    rw [g1]
    exact g2.hrs _
  · unfold hourA
    dsimp only
    rw [g1]
end QUIET
