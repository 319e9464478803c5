/-! ===== what holds of every road holds behind an hour ===== -/
theorem mn_n {a b : Nat} (ha : a < 2 ^ 31) (hb : b < 2 ^ 31) : mn (nI a) (nI b) = nI (min a b) := by
  unfold mn
  by_cases q : b < a
  · rw [if_pos (by rw [P_lt hb ha]; exact q), Nat.min_eq_right (by omega)]
  · rw [if_neg (by rw [P_lt hb ha]; exact q), Nat.min_eq_left (by omega)]
section INV2
variable {A : aA}
theorem Inv.vok (h : Inv A) {c v : Nat} (hc : c < aN A 3) (hv : v ∈ aL A 0 c) : v < aN A 4 := ((h.line0 c hc).2.2 v hv).1
theorem Inv.vok1 (h : Inv A) {b v : Nat} (hb : b < aN A 1) (hv : v ∈ aL A 1 b) : v < aN A 4 := ((h.line1 b hb).2.2 v hv).1
theorem Inv.okFillV (h : Inv A) {d v : Nat} (f : Bool) (hd : d < aN A 2) (hv : v < aN A 4) : Inv (fillV d (A, f) v).1 := by
  obtain ⟨s, u, t, q, h1, h2, h3, h4, h5, h6, h7, h8, h9, h10⟩ := h.veh v hv
  obtain ⟨m, g1, g2⟩ := h.depot d hd
  have e1 : mn (aT A 4 v 2 - aT A 4 v 3) (aT A 2 d 1) = nI (min (t - q) m) := by rw [h7, h9, g1, pk_sub h10, mn_n (by omega) (by omega)]
  show Inv (aPut (aPut A 4 v 3 (aT A 4 v 3 + mn (aT A 4 v 2 - aT A 4 v 3) (aT A 2 d 1))) 2 d 1 (aT A 2 d 1 - mn (aT A 4 v 2 - aT A 4 v 3) (aT A 2 d 1)))
  rw [e1]
  have k1 := Nat.min_le_left (t - q) m
  have k2 := Nat.min_le_right (t - q) m
  refine (h.lit h7 h8 (q := q + min (t - q) m) (by rw [h9, nI_add]) (by omega)).stock (q := m - min (t - q) m) (by rw [g1, pk_sub k2]) (by omega)
theorem fillV_s (d : Nat) (X : aA × Bool) (v : Nat) : Sam X.1 (fillV d X v).1 ∧ aL (fillV d X v).1 = aL X.1 := ⟨⟨rfl, rfl⟩, rfl⟩
theorem Inv.fills {d : Nat} : ∀ (x : List Nat) (X : aA × Bool), Inv X.1 → d < aN X.1 2 → (∀ v, v ∈ x → v < aN X.1 4) → Inv (x.foldl (fillV d) X).1 ∧ Sam X.1 (x.foldl (fillV d) X).1 ∧ aL (x.foldl (fillV d) X).1 = aL X.1 := by
  intro x
  induction x with
  | nil => intro X h _ _; exact ⟨h, Sam.rf, rfl⟩
  | cons v r ih =>
    intro X h hd hv
    have h1 := h.okFillV (d := d) X.2 hd (hv v List.mem_cons_self)
    obtain ⟨g1, g2⟩ := fillV_s d X v
    obtain ⟨k1, k2, k3⟩ := ih (fillV d X v) h1 (by rw [g1.1]; exact hd) (fun w hw => by rw [g1.1]; exact hv w (List.mem_cons_of_mem _ hw))
    exact ⟨k1, g1.tr k2, k3.trans g2⟩
theorem Inv.okFillC (h : Inv A) (f : Bool) {c : Nat} (hc : c < aN A 3) : Inv (fillC c (A, f)).1 ∧ Sam A (fillC c (A, f)).1 ∧ aL (fillC c (A, f)).1 = aL A := by
  unfold fillC
  cases e : rowF (aT A 2) (aT A 3 c 0) (aN A 2) with
  | none =>
    simp only [e]
    exact ⟨h, Sam.rf, trivial⟩
  | some d =>
    simp only [e]
    exact Inv.fills (aL A 0 c) (A, f) h (rowF_some e).1 (fun v hv => h.vok hc hv)
theorem shortV_n {v : Nat} {q u : Nat} (h1 : aT A 4 v 3 = nI q) (h2 : aT A 4 v 1 = nI u) (hq : q < 2 ^ 31) (hu : u < 2 ^ 31) : shortV A v = decide (q < u) := by
  unfold shortV
  rw [h1, h2]
  exact decide_eq_decide.mpr (nI_ltI hq hu)
theorem Inv.okBurnV (h : Inv A) {v : Nat} (hv : v < aN A 4) (hs : shortV A v = false) : Inv (burnV A v) := by
  obtain ⟨s, u, t, q, h1, h2, h3, h4, h5, h6, h7, h8, h9, h10⟩ := h.veh v hv
  rw [shortV_n h9 h4 (by omega) (by omega), decide_eq_false_iff_not] at hs
  unfold burnV
  refine (h.lit h7 h8 (q := q - u) (by rw [h9, h4, pk_sub (by omega)]) (by omega)).burnt _ _
theorem burnV_short {v w : Nat} (h : w ≠ v) : shortV (burnV A v) w = shortV A w := by
  unfold shortV burnV
  rw [aT_ne (by omega), aT_ne (by omega), aT_ne (by omega), aT_ne (by omega)]
theorem Inv.burns : ∀ (x : List Nat) (A : aA), Inv A → x.Nodup → (∀ v, v ∈ x → v < aN A 4 ∧ shortV A v = false) → Inv (x.foldl burnV A) ∧ Sam A (x.foldl burnV A) ∧ aL (x.foldl burnV A) = aL A := by
  intro x
  induction x with
  | nil => intro A h _ _; exact ⟨h, Sam.rf, rfl⟩
  | cons v r ih =>
    intro A h hn hv
    obtain ⟨n1, n2⟩ := List.nodup_cons.mp hn
    obtain ⟨a1, a2⟩ := hv v List.mem_cons_self
    obtain ⟨k1, k2, k3⟩ := ih (burnV A v) (h.okBurnV a1 a2) n2 (fun w hw => by
      obtain ⟨b1, b2⟩ := hv w (List.mem_cons_of_mem _ hw)
      exact ⟨b1, by rw [burnV_short (fun e => n1 (by rw [← e]; exact hw))]; exact b2⟩)
    exact ⟨k1, Sam.tr ⟨rfl, rfl⟩ k2, k3⟩
theorem okC_all {c : Nat} (h : okC A c = true) : aL A 0 c ≠ [] ∧ ∀ v, v ∈ aL A 0 c → shortV A v = false := by
  unfold okC at h
  rw [Bool.and_eq_true, List.all_eq_true] at h
  refine ⟨fun e => ?_, fun v hv => ?_⟩
  · rw [e] at h
    exact absurd h.1 (by decide)
  · have := h.2 v hv
    cases e : shortV A v with
    | false => rfl
    | true => rw [e] at this; exact absurd this (by decide)
theorem shortV_3 {c j v : Nat} {x : Int32} : shortV (aPut A 3 c j x) v = shortV A v := by
  unfold shortV
  rw [aT_ne (by omega), aT_ne (by omega)]
theorem Inv.okBurnC (h : Inv A) {c : Nat} (hc : c < aN A 3) (hk : okC A c = true) : Inv (burnC c A) ∧ Sam A (burnC c A) ∧ aL (burnC c A) = aL A := by
  obtain ⟨k1, k2⟩ := okC_all hk
  exact Inv.burns (aL A 0 c) _ (h.put3 c 0 _) (h.line0 c hc).2.1 (fun v hv => ⟨h.vok hc hv, by rw [shortV_3]; exact k2 v hv⟩)
theorem roomB_n (h : Inv A) {b : Nat} (hb : b < aN A 1) (hr : roomB A b = true) : (aL A 1 b).length < 6 := by
  obtain ⟨⟨p, h1, h2, h3⟩, -⟩ := h.bay b hb
  have h6 := (h.line1 b hb).1
  unfold roomB at hr
  rw [h1] at hr
  have := (nI_ltI (by omega) (by omega)).mp (of_decide_eq_true hr)
  omega
theorem Inv.okShedB {c b : Nat} {w : Int32} : ∀ (n i : Nat) (X : aA × Int32 × Bool), Inv X.1 → c < aN X.1 3 → b < aN X.1 1 → n + i = (aL X.1 0 c).length → Inv (shedB c b w n i X).1 ∧ Sam X.1 (shedB c b w n i X).1 := by
  intro n
  induction n with
  | zero => intro i X h _ _ _; exact ⟨h, Sam.rf⟩
  | succ n ih =>
    intro i X h hc hb hn
    unfold shedB
    by_cases q : shortV X.1 ((aL X.1 0 c).getD i 0) = true ∧ roomB X.1 b = true
    · rw [if_pos q]
      have h1 := h.leave hc hb (i := i) (by omega) (roomB_n h hb q.2)
      obtain ⟨k1, k2⟩ := ih i (leaveV c b i ((aL X.1 0 c).getD i 0) X.1, noteF c b ((aL X.1 0 c).getD i 0) w X.2.1, true) h1 hc hb (by
        show n + i = (aL (leaveV c b i _ X.1) 0 c).length
        rw [leaveV_0, if_pos rfl, List.length_eraseIdx, if_pos (by omega)]
        omega)
      exact ⟨k1, Sam.tr ⟨rfl, rfl⟩ k2⟩
    · rw [if_neg q]
      exact ih (i + 1) X h hc hb (by omega)
theorem Inv.okShedC {c : Nat} {w : Int32} {X : aA × Int32 × Bool} (h : Inv X.1) (hc : c < aN X.1 3) : Inv (shedC c w X).1 ∧ Sam X.1 (shedC c w X).1 := by
  unfold shedC
  cases e : rowF (aT X.1 1) (aT X.1 3 c 0) (aN X.1 1) with
  | none =>
    simp only [e]
    exact ⟨h, Sam.rf⟩
  | some b =>
    simp only [e]
    exact Inv.okShedB _ 0 X h hc (rowF_some e).1 (by omega)
theorem rich_mem : ∀ (x : List Nat) (v : Nat), x.foldl (fun m o => if aT A 4 m 3 < aT A 4 o 3 then o else m) v ∈ v :: x := by
  intro x
  induction x with
  | nil => intro v; exact List.mem_cons_self
  | cons o r ih =>
    intro v
    rw [List.foldl_cons]
    by_cases q : aT A 4 v 3 < aT A 4 o 3
    · rw [if_pos q]
      exact List.mem_cons_of_mem _ (ih o)
    · rw [if_neg q]
      rcases List.mem_cons.mp (ih v) with e | e
      · rw [e]; exact List.mem_cons_self
      · exact List.mem_cons_of_mem _ (List.mem_cons_of_mem _ e)
theorem richF_mem {x : List Nat} (h : x ≠ []) : richF A x ∈ x := by
  cases x with
  | nil => exact absurd rfl h
  | cons v r => exact rich_mem r v
theorem giftF_n (h : Inv A) {m v : Nat} (hm : m < aN A 4) (hv : v < aN A 4) : ∃ t q t' q' g, aT A 4 m 2 = nI t ∧ t ≤ 99 ∧ aT A 4 m 3 = nI q ∧ q ≤ t ∧ aT A 4 v 2 = nI t' ∧ t' ≤ 99 ∧ aT A 4 v 3 = nI q' ∧ q' ≤ t' ∧ giftF A m v = nI g ∧ g ≤ q ∧ g ≤ t' - q' := by
  obtain ⟨s, u, t, q, h1, h2, h3, h4, h5, h6, h7, h8, h9, h10⟩ := h.veh m hm
  obtain ⟨s', u', t', q', g1, g2, g3, g4, g5, g6, g7, g8, g9, g10⟩ := h.veh v hv
  refine ⟨t, q, t', q', min (min 10 (q / 2)) (t' - q'), h7, h8, h9, h10, g7, g8, g9, g10, ?_, ?_, Nat.min_le_right _ _⟩
  · unfold giftF
    rw [h9, g7, g9, pk_sub g10, pk_div (by omega) (by decide) (by decide), mn_n (by omega) (by omega), mn_n (by omega) (by omega)]
  · have := Nat.min_le_left (min 10 (q / 2)) (t' - q')
    have := Nat.min_le_right 10 (q / 2)
    omega
theorem Inv.okGiveF (h : Inv A) {m v : Nat} (hm : m < aN A 4) (hv : v < aN A 4) (hne : v ≠ m) : Inv (giveF A m v) := by
  obtain ⟨t, q, t', q', g, h1, h2, h3, h4, h5, h6, h7, h8, h9, h10, h11⟩ := giftF_n h hm hv
  unfold giveF
  rw [aT_ne (by omega), h9, h3, h7, pk_sub h10, nI_add]
  exact (h.lit (q := q - g) h1 h2 rfl (by omega)).lit (t := t') (q := q' + g) (by rw [aT_ne (by omega)]; exact h5) h6 rfl (by omega)
theorem giveF_s (A : aA) (m v : Nat) : Sam A (giveF A m v) ∧ aL (giveF A m v) = aL A := ⟨⟨rfl, rfl⟩, rfl⟩
theorem Inv.okRescB {c b : Nat} : ∀ (n : Nat) (X : aA × Bool), Inv X.1 → c < aN X.1 3 → b < aN X.1 1 → aL X.1 0 c ≠ [] → Inv (rescB c b n X).1 ∧ Sam X.1 (rescB c b n X).1 := by
  intro n
  induction n with
  | zero => intro X h _ _ _; exact ⟨h, Sam.rf⟩
  | succ n ih =>
    intro X h hc hb hne
    unfold rescB
    cases e : aL X.1 1 b with
    | nil => exact ⟨h, Sam.rf⟩
    | cons v r =>
      simp only [e]
      have hv : v ∈ aL X.1 1 b := by rw [e]; exact List.mem_cons_self
      by_cases q : (aL X.1 0 c).length < 8
      · rw [if_pos q]
        have hm := richF_mem (A := X.1) hne
        have h1 := h.okGiveF (h.vok hc hm) (h.vok1 hb hv) (fun z => h.apart hc hb hm (by rw [← z]; exact hv))
        by_cases q2 : shortV (giveF X.1 (richF X.1 (aL X.1 0 c)) v) v = true
        · rw [if_pos q2]
          exact ⟨h1, ⟨rfl, rfl⟩⟩
        · rw [if_neg q2]
          have h2 := h1.join (c := c) (b := b) (v := v) (r := r) hc hb e q
          obtain ⟨k1, k2⟩ := ih (joinV c b v r (giveF X.1 (richF X.1 (aL X.1 0 c)) v), true) h2 hc hb (by
            show aL (joinV c b v r _) 0 c ≠ []
            rw [joinV_0, if_pos rfl]
            simp)
          exact ⟨k1, Sam.tr ⟨rfl, rfl⟩ k2⟩
      · rw [if_neg q]
        exact ⟨h, Sam.rf⟩
theorem swap_perm : ∀ (k : Nat) (L : List Nat), k + 1 < L.length → List.Perm ((L.set (k + 1) (L.getD k 0)).set k (L.getD (k + 1) 0)) L := by
  intro k
  induction k with
  | zero =>
    intro L h
    match L, h with
    | a :: b :: r, _ => exact List.Perm.swap a b r
  | succ k ih =>
    intro L h
    match L, h with
    | a :: r, h =>
      have := ih r (by simpa using h)
      simpa using this.cons a
theorem bub_perm (p : Nat → Nat → Bool) : ∀ (k : Nat) (L : List Nat), k < L.length → List.Perm (bub p k L) L := by
  intro k
  induction k with
  | zero => intro L _; exact List.Perm.refl _
  | succ k ih =>
    intro L h
    unfold bub
    by_cases q : p (L.getD (k + 1) 0) (L.getD k 0) = true
    · rw [if_pos q]
      exact (ih _ (by rw [List.length_set, List.length_set]; omega)).trans (swap_perm k L h)
    · rw [if_neg q]
theorem ordL_perm (p : Nat → Nat → Bool) : ∀ (n i : Nat) (L : List Nat), n + i ≤ L.length → List.Perm (ordL p n i L) L := by
  intro n
  induction n with
  | zero => intro i L _; exact List.Perm.refl _
  | succ n ih =>
    intro i L h
    have h1 := bub_perm p i L (by omega)
    exact (ih (i + 1) _ (by rw [h1.length_eq]; omega)).trans h1
theorem Inv.okOrdC (h : Inv A) {c : Nat} (hc : c < aN A 3) : Inv (ordC c A) ∧ Sam A (ordC c A) := by
  by_cases q0 : aL A 0 c = []
  · have e : ordC c A = A := by
      unfold ordC
      rw [q0]
      refine Prod.ext rfl (Prod.ext rfl (Prod.ext rfl ?_))
      funext a b
      show (if a = 0 ∧ b = c then ordL (befV A) ([].length - 1) 1 [] else aL A a b) = aL A a b
      by_cases z : a = 0 ∧ b = c
      · rw [if_pos z, z.1, z.2, q0]
        rfl
      · rw [if_neg z]
    rw [e]
    exact ⟨h, Sam.rf⟩
  · have hl : 0 < (aL A 0 c).length := List.length_pos_iff.mpr q0
    have hp := ordL_perm (befV A) ((aL A 0 c).length - 1) 1 (aL A 0 c) (by omega)
    refine ⟨h.lines ⟨rfl, rfl⟩ (fun k a j _ => rfl) (fun c' hc' => ?_) (fun b' hb' => ?_) (fun c' hc' => ?_) (fun b' hb' => ?_), ⟨rfl, rfl⟩⟩
    · unfold ordC
      rw [aL_line, aT_line]
      by_cases q : 0 = 0 ∧ c' = c
      · rw [if_pos q, q.2]
        obtain ⟨k1, k2, k3⟩ := h.line0 c hc
        exact ⟨by rw [hp.length_eq]; exact k1, hp.nodup_iff.mpr k2, fun v hv => k3 v (hp.mem_iff.mp hv)⟩
      · rw [if_neg q]
        exact h.line0 c' hc'
    · unfold ordC
      rw [aL_line, aT_line, if_neg (by omega)]
      exact h.line1 b' hb'
    · unfold ordC
      rw [aL_line, if_neg (by omega)]
      exact h.none0 c' hc'
    · unfold ordC
      rw [aL_line, if_neg (by omega)]
      exact h.none1 b' hb'
theorem Inv.okRescC (h : Inv A) {c : Nat} (hc : c < aN A 3) (hne : aL A 0 c ≠ []) : Inv (rescC c A) ∧ Sam A (rescC c A) := by
  unfold rescC
  cases e : rowF (aT A 1) (aT A 3 c 0) (aN A 1) with
  | none =>
    simp only [e]
    exact ⟨h, Sam.rf⟩
  | some b =>
    simp only [e]
    obtain ⟨k1, k2⟩ := Inv.okRescB (c := c) (b := b) (aL A 1 b).length (A, false) h hc (rowF_some e).1 hne
    by_cases q : (rescB c b (aL A 1 b).length (A, false)).2 = true
    · rw [if_pos q]
      obtain ⟨g1, g2⟩ := k1.okOrdC (c := c) (by rw [k2.1]; exact hc)
      exact ⟨g1, k2.tr g2⟩
    · rw [if_neg q]
      exact ⟨k1, k2⟩
theorem Inv.okStepC {c : Nat} {w : Int32} : ∀ (n : Nat) (X : aA × Int32 × Bool), Inv X.1 → c < aN X.1 3 → Inv (stepC c w n X).1 ∧ Sam X.1 (stepC c w n X).1 := by
  intro n
  induction n with
  | zero => intro X h _; exact ⟨h, Sam.rf⟩
  | succ n ih =>
    intro X h hc
    unfold stepC
    by_cases q1 : shutAt X.1 (aT X.1 3 c 0 + nI 1) = true
    · rw [if_pos q1]
      exact ⟨h.put3 c 2 _, ⟨rfl, rfl⟩⟩
    · rw [if_neg q1]
      obtain ⟨k1, k2⟩ := Inv.okShedC (w := w) h hc
      have hc1 : c < aN (shedC c w X).1 3 := by rw [k2.1]; exact hc
      by_cases q2 : okC (shedC c w X).1 c = true
      · rw [if_pos q2]
        obtain ⟨g1, g2, g3⟩ := k1.okBurnC hc1 q2
        have hc2 : c < aN (burnC c (shedC c w X).1) 3 := by rw [g2.1]; exact hc1
        by_cases q3 : aT (burnC c (shedC c w X).1) 3 c 0 = aS (burnC c (shedC c w X).1) 0
        · rw [if_pos q3]
          obtain ⟨a1, a2⟩ := g1.arr hc2
          exact ⟨a1, k2.tr (g2.tr a2)⟩
        · rw [if_neg q3]
          obtain ⟨a1, a2⟩ := g1.okRescC hc2 (by rw [g3]; exact (okC_all q2).1)
          obtain ⟨b1, b2⟩ := ih (rescC c (burnC c (shedC c w X).1), (shedC c w X).2.1, true) a1 (by rw [a2.1]; exact hc2)
          exact ⟨b1, k2.tr (g2.tr (a2.tr b2))⟩
      · rw [if_neg q2]
        exact ⟨k1.put3 c 3 _, k2⟩
theorem Inv.okDriveC {c : Nat} {w : Int32} {X : aA × Int32 × Bool} (h : Inv X.1) (hc : c < aN X.1 3) : Inv (driveC c w X).1 ∧ Sam X.1 (driveC c w X).1 := by
  unfold driveC
  by_cases q : 0 < aT X.1 3 c 1
  · rw [if_pos q]
    exact ⟨h.put3 c 1 _, ⟨rfl, rfl⟩⟩
  · rw [if_neg q]
    obtain ⟨k1, k2, k3⟩ := h.okFillC X.2.2 hc
    obtain ⟨g1, g2⟩ := Inv.okStepC (c := c) (w := w) (slowF (fillC c (X.1, X.2.2)).1 (aL (fillC c (X.1, X.2.2)).1 0 c)).toNatClampNeg ((fillC c (X.1, X.2.2)).1, X.2.1, (fillC c (X.1, X.2.2)).2) k1 (by rw [k2.1]; exact hc)
    exact ⟨g1, k2.tr g2⟩
theorem Inv.okHourB {w : Int32} : ∀ (n c : Nat) (X : aA × Int32 × Bool), Inv X.1 → n + c ≤ aN X.1 3 → Inv (hourB w n c X).1 ∧ Sam X.1 (hourB w n c X).1 := by
  intro n
  induction n with
  | zero => intro c X h _; exact ⟨h, Sam.rf⟩
  | succ n ih =>
    intro c X h hn
    unfold hourB
    by_cases q : actC X.1 c = true
    · rw [if_pos q]
      obtain ⟨k1, k2⟩ := Inv.okDriveC (w := w) h (c := c) (by omega)
      obtain ⟨g1, g2⟩ := ih (c + 1) (driveC c w X) k1 (by rw [k2.1]; omega)
      exact ⟨g1, k2.tr g2⟩
    · rw [if_neg q]
      exact ih (c + 1) X h (by omega)
theorem Inv.okHourA {w : Int32} {X : aA × Int32} (h : Inv X.1) : Inv (hourA w X).1 ∧ aN (hourA w X).1 = aN X.1 ∧ aS (hourA w X).1 0 = aS X.1 0 := by
  obtain ⟨k1, k2⟩ := Inv.okHourB (w := w) (aN X.1 3) 0 (X.1, X.2, false) h (Nat.le_of_eq rfl)
  refine ⟨k1.sc1 _, k2.1, ?_⟩
  show aS (hourB w (aN X.1 3) 0 (X.1, X.2, false)).1 0 = _
  rw [k2.2]
end INV2
