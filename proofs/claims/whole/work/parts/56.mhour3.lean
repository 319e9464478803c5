/-! ===== the reference's hour is the hour, third part: within all its cells ===== -/
/-- the reference with a row in its cell b: what is asked, what is found -/
def MR (S : mM) (b : Nat) (A : aA) (w fl : Int32) : Prop := RepR (S b) A ∧ S 0 12 = w ∧ S 0 13 = fl
/-- what else stays: all cells but the row, and of the first all but what is found -/
def Mo (b : Nat) (S S' : mM) : Prop := (∀ a, a ≠ 0 → a ≠ b → S' a = S a) ∧ ∀ j, j ≠ 13 → S' 0 j = S 0 j
theorem Mo.rf {b : Nat} {S : mM} : Mo b S S := ⟨fun _ _ _ => rfl, fun _ _ => rfl⟩
theorem Mo.tr {b : Nat} {S T U : mM} (h : Mo b S T) (g : Mo b T U) : Mo b S U := ⟨fun a h0 h1 => (g.1 a h0 h1).trans (h.1 a h0 h1), fun j hj => (g.2 j hj).trans (h.2 j hj)⟩
theorem Mo.w {b q : Nat} {S T : mM} {x : Int32} (h : Mo b S T) (hb : b ≠ 0) : Mo b S (sto T b q x) := ⟨fun a h0 h1 => (sto_o h1).trans (h.1 a h0 h1), fun j hj => by rw [sto_o (Ne.symm hb)]; exact h.2 j hj⟩
theorem Mo.fnd {b : Nat} {S T : mM} {x : Int32} (h : Mo b S T) : Mo b S (sto T 0 13 x) := ⟨fun a h0 h1 => (sto_o h0).trans (h.1 a h0 h1), fun j hj => (sto_j hj).trans (h.2 j hj)⟩
theorem Mo.sub {b : Nat} {S T U : mM} (h : Mo b S T) (hb : b ≠ 0) : Mo b S (wB T b 1 U) :=
  ⟨fun a h0 h1 => (wB_out (by omega)).trans (h.1 a h0 h1), fun j hj => by rw [wB_out (by omega)]; exact h.2 j hj⟩
theorem MR.sub {b : Nat} {S U : mM} {A A' : aA} {w fl : Int32} (h : MR S b A w fl) (hb : b ≠ 0) (hU : RepR (U 0) A') : MR (wB S b 1 U) b A' w fl := by
  refine ⟨?_, by rw [wB_out (by omega)]; exact h.2.1, by rw [wB_out (by omega)]; exact h.2.2⟩
  rw [show wB S b 1 U b = U 0 from wB_at (β := b) (k := 0) (by decide)]
  exact hU
theorem MR.w {b q : Nat} {S : mM} {A A' : aA} {w fl x : Int32} (h : MR S b A w fl) (hb : b ≠ 0) (hU : RepR (upd (S b) q x) A') : MR (sto S b q x) b A' w fl := by
  refine ⟨by rw [sto_u]; exact hU, by rw [sto_o (Ne.symm hb)]; exact h.2.1, by rw [sto_o (Ne.symm hb)]; exact h.2.2⟩
section MH3
variable {S : mM} {A : aA} {b1 : Nat} {w fl : Int32}
theorem take_all {x : List Nat} {i : Nat} {p : Nat → Bool} (h : i < x.length) : (x.take (i + 1)).all p = ((x.take i).all p && p (x.getD i 0)) := by
  rw [List.take_succ_eq_append_getElem h, List.all_append, List.getD_eq_getElem?_getD, List.getElem?_eq_getElem h]
  simp
theorem m_shed_end {c : Nat} (h : RepR (S b1) A) (iv : Inv A) (hc : c < aN A 3) (can : Bool) (hcan : can = (aL A 0 c).all (fun v => !shortV A v)) :
    (if bI can = 0 then (gd (isZ (nI 0)) (some ((nI 0), S))) else (cr1 (pX7_sizeOf (nI c) (sB S b1)) fun v226 => if v226 ≤ 0 then (gd (isZ (nI 0)) (some ((nI 0), S))) else (gd (isZ (nI 1)) (some ((nI 1), S))))) = some (bI (okC A c), S) := by
  have h8 := (iv.line0 c hc).1
  have hs : RepR (sB S b1 0) A := h
  rw [bI_0, m_sizeOf hs hc, cr1_s, n_le0 (by omega), gd_p isZ_0, gd_p isZ_1]
  unfold okC
  rw [← hcan]
  cases can with
  | false =>
    rw [if_pos rfl, Bool.and_false]
    rfl
  | true =>
    rw [if_neg (by simp), Bool.and_true]
    cases e : aL A 0 c with
    | nil =>
      rw [if_pos (show ([] : List Nat).length = 0 from rfl)]
      rfl
    | cons v r =>
      rw [if_neg (by simp)]
      rfl
/-- no bay: nobody is left -/
theorem m_shed_none {c : Nat} : ∀ (n i k : Nat) (can : Bool), n + i = (aL A 0 c).length → n < k → RepR (S b1) A → Inv A → c < aN A 3 → can = ((aL A 0 c).take i).all (fun v => !shortV A v) →
    pX7_sheds_l18 b1 k (nI c) (-9) (nI i) (bI can) S = some (bI (okC A c), S) := by
  intro n
  induction n with
  | zero =>
    intro i k can hi hk h iv hc hcan
    obtain ⟨k, rfl⟩ : ∃ q, k = q + 1 := ⟨k - 1, by omega⟩
    have h8 := (iv.line0 c hc).1
    have hs : RepR (sB S b1 0) A := h
    show pX7_sheds_lb18 b1 (pX7_sheds_l18 b1 k) (nI c) (-9) (nI i) (bI can) S = _
    unfold pX7_sheds_lb18
    rw [m_sizeOf hs hc, cr1_s, n_le (by omega) (by omega), if_pos (by omega)]
    have := m_shed_end h iv hc can (by rw [hcan, List.take_of_length_le (by omega)])
    rw [m_sizeOf hs hc] at this
    exact this
  | succ n ih =>
    intro i k can hi hk h iv hc hcan
    obtain ⟨k, rfl⟩ : ∃ q, k = q + 1 := ⟨k - 1, by omega⟩
    have h8 := (iv.line0 c hc).1
    have hs : RepR (sB S b1 0) A := h
    have hv := iv.vok hc (getD_mem (x := aL A 0 c) (i := i) (by omega))
    have ht := take_all (x := aL A 0 c) (i := i) (p := fun v => !shortV A v) (by omega)
    show pX7_sheds_lb18 b1 (pX7_sheds_l18 b1 k) (nI c) (-9) (nI i) (bI can) S = _
    unfold pX7_sheds_lb18
    rw [m_sizeOf hs hc, cr1_s, n_le (by omega) (by omega), if_neg (by omega), m_who hs hc (by omega), cr1_s, if_pos rfl]
    unfold pX7_sheds_b64 pX7_sheds_b65
    generalize hvv : (aL A 0 c).getD i 0 = v at hv ht ⊢
    have fin : ∀ can', can' = (can && !shortV A v) → pX7_sheds_l18 b1 k (nI c) (-9) (nI (i + 1)) (bI can') S = some (bI (okC A c), S) := fun can' hcc =>
      ih (i + 1) k can' (by omega) (by omega) h iv hc (by rw [ht, ← hcan]; exact hcc)
    have e192 : pX7_sheds_b192 b1 (pX7_sheds_l18 b1 k) (nI c) (-9) (nI i) (bI can) (nI v) S = some (bI (okC A c), S) := by
      unfold pX7_sheds_b192
      rw [bI_0, m_short hs hv, cr1_s, bI_0, vl_e, vl_e, nI_add]
      cases can with
      | false =>
        rw [if_pos rfl]
        exact fin false rfl
      | true =>
        rw [if_neg (by simp)]
        cases e : shortV A v with
        | false =>
          rw [if_pos rfl]
          exact fin true (by rw [e]; rfl)
        | true =>
          rw [if_neg (by simp)]
          exact fin false (by rw [e]; rfl)
    rw [m_short hs hv, cr1_s, e192]
    by_cases q : bI (shortV A v) = 0
    · rw [if_pos q]
    · rw [if_neg q, if_pos (by decide)]
theorem m_shed_loop {c b : Nat} (hb1 : b1 ≠ 0) : ∀ (n i k : Nat) (S : mM) (A : aA) (fl : Int32) (can st : Bool), n + i = (aL A 0 c).length → n < k → MR S b1 A w fl → Inv A → c < aN A 3 → b < aN A 1 → can = ((aL A 0 c).take i).all (fun v => !shortV A v) →
    ∃ S', pX7_sheds_l18 b1 k (nI c) (nI b) (nI i) (bI can) S = some (bI (okC (shedB c b w n i (A, fl, st)).1 c), S') ∧ MR S' b1 (shedB c b w n i (A, fl, st)).1 w (shedB c b w n i (A, fl, st)).2.1 ∧ Mo b1 S S' := by
  intro n
  induction n with
  | zero =>
    intro i k S A fl can st hi hk h iv hc hb hcan
    obtain ⟨k, rfl⟩ : ∃ q, k = q + 1 := ⟨k - 1, by omega⟩
    have h8 := (iv.line0 c hc).1
    have hs : RepR (sB S b1 0) A := h.1
    refine ⟨S, ?_, h, Mo.rf⟩
    show pX7_sheds_lb18 b1 (pX7_sheds_l18 b1 k) (nI c) (nI b) (nI i) (bI can) S = some (bI (okC A c), S)
    unfold pX7_sheds_lb18
    rw [m_sizeOf hs hc, cr1_s, n_le (by omega) (by omega), if_pos (by omega)]
    have := m_shed_end h.1 iv hc can (by rw [hcan, List.take_of_length_le (by omega)])
    rw [m_sizeOf hs hc] at this
    exact this
  | succ n ih =>
    intro i k S A fl can st hi hk h iv hc hb hcan
    obtain ⟨k, rfl⟩ : ∃ q, k = q + 1 := ⟨k - 1, by omega⟩
    have h4 := cnt3 iv
    have h6 := cnt1 iv
    have h16 := cnt4 iv
    have h8 := (iv.line0 c hc).1
    have b6 := (iv.line1 b hb).1
    have hs : RepR (sB S b1 0) A := h.1
    have hv := iv.vok hc (getD_mem (x := aL A 0 c) (i := i) (by omega))
    have ht := take_all (x := aL A 0 c) (i := i) (p := fun v => !shortV A v) (by omega)
    have hsub : shedB c b w (n + 1) i (A, fl, st) = if shortV A ((aL A 0 c).getD i 0) = true ∧ roomB A b = true then shedB c b w n i (leaveV c b i ((aL A 0 c).getD i 0) A, noteF c b ((aL A 0 c).getD i 0) w fl, true) else shedB c b w n (i + 1) (A, fl, st) := rfl
    rw [hsub]
    show ∃ S', pX7_sheds_lb18 b1 (pX7_sheds_l18 b1 k) (nI c) (nI b) (nI i) (bI can) S = _ ∧ _
    unfold pX7_sheds_lb18
    rw [m_sizeOf hs hc, cr1_s, n_le (by omega) (by omega), if_neg (by omega), m_who hs hc (by omega), cr1_s, n_eqN (by omega), if_neg (by simp), bayAt_n, cr1_s, R_size1 h.1 hb, bayAt_n, cr1_s, R_ldB h.1 hb (by decide)]
    have iv2 : shortV A ((aL A 0 c).getD i 0) = true ∧ roomB A b = true → Inv (leaveV c b i ((aL A 0 c).getD i 0) A) := fun z => iv.leave hc hb (i := i) (by omega) (roomB_n iv hb z.2)
    generalize hvv : (aL A 0 c).getD i 0 = v at hv ht iv2 ⊢
    have e192 : ¬ (shortV A v = true ∧ roomB A b = true) → ∃ S', pX7_sheds_b192 b1 (pX7_sheds_l18 b1 k) (nI c) (nI b) (nI i) (bI can) (nI v) S = some (bI (okC (shedB c b w n (i + 1) (A, fl, st)).1 c), S') ∧ MR S' b1 (shedB c b w n (i + 1) (A, fl, st)).1 w (shedB c b w n (i + 1) (A, fl, st)).2.1 ∧ Mo b1 S S' := by
      intro _
      have fin : ∀ can', can' = (can && !shortV A v) → ∃ S', pX7_sheds_l18 b1 k (nI c) (nI b) (nI (i + 1)) (bI can') S = some (bI (okC (shedB c b w n (i + 1) (A, fl, st)).1 c), S') ∧ MR S' b1 (shedB c b w n (i + 1) (A, fl, st)).1 w (shedB c b w n (i + 1) (A, fl, st)).2.1 ∧ Mo b1 S S' := fun can' hcc =>
        ih (i + 1) k S A fl can' st (by omega) (by omega) h iv hc hb (by rw [ht, ← hcan]; exact hcc)
      unfold pX7_sheds_b192
      rw [bI_0, m_short hs hv, cr1_s, bI_0, vl_e, vl_e, nI_add]
      cases can with
      | false =>
        rw [if_pos rfl]
        exact fin false rfl
      | true =>
        rw [if_neg (by simp)]
        cases e : shortV A v with
        | false =>
          rw [if_pos rfl]
          exact fin true (by rw [e]; rfl)
        | true =>
          rw [if_neg (by simp)]
          exact fin false (by rw [e]; rfl)
    by_cases q1 : aT A 1 b 1 ≤ nI (aL A 1 b).length
    · have hr : roomB A b = false := decide_eq_false (Int32.not_lt.mpr q1)
      have hno : ¬ (shortV A v = true ∧ roomB A b = true) := fun z => by rw [hr] at z; exact absurd z.2 (by decide)
      rw [if_pos q1, if_neg hno]
      unfold pX7_sheds_b64 pX7_sheds_b65
      rw [m_short hs hv, cr1_s]
      by_cases q : bI (shortV A v) = 0
      · rw [if_pos q]
        exact e192 hno
      · rw [if_neg q, if_pos (by decide)]
        exact e192 hno
    · have hr : roomB A b = true := decide_eq_true (Int32.not_le.mp q1)
      rw [if_neg q1]
      unfold pX7_sheds_b65
      rw [m_short hs hv, cr1_s, bI_0]
      by_cases q : shortV A v = false
      · have hno : ¬ (shortV A v = true ∧ roomB A b = true) := fun z => by rw [q] at z; exact absurd z.1 (by decide)
        rw [if_pos q, if_neg hno]
        exact e192 hno
      · have q' : shortV A v = true := by cases e : shortV A v with | true => rfl | false => exact absurd e q
        rw [if_neg q, if_neg (by decide), if_pos ⟨q', hr⟩]
        have r6 := roomB_n iv hb hr
        have iv3 := iv2 ⟨q', hr⟩
        rw [bayAt_n, cr1_s, R_size1 h.1 hb, nI_add, bayAt_n, cr1_s, st_n (by omega) (by decide), cr1_s, ld_n (by omega) (by decide), sto_j (by omega)]
        have e4 : S b1 (24 + 9 * b + 2) = nI (aL A 1 b).length := (h.1.2.2.2.1 1 b (by decide) hb).2.1
        rw [e4, st_n (by omega) (by decide)]
        have r2 : MR (sto (sto S b1 (24 + 9 * b + (3 + (aL A 1 b).length)) (nI v)) b1 (24 + 9 * b + 2) (nI (aL A 1 b).length + nI 1)) b1 (aLine A 1 b (aL A 1 b ++ [v])) w fl := by
          refine ⟨?_, by rw [sto_o (Ne.symm hb1), sto_o (Ne.symm hb1)]; exact h.2.1, by rw [sto_o (Ne.symm hb1), sto_o (Ne.symm hb1)]; exact h.2.2⟩
          rw [sto_u, sto_u]
          exact h.1.push (k := 1) (i := b) v (by decide) hb r6
        have o2 : Mo b1 S (sto (sto S b1 (24 + 9 * b + (3 + (aL A 1 b).length)) (nI v)) b1 (24 + 9 * b + 2) (nI (aL A 1 b).length + nI 1)) := (Mo.rf.w hb1).w hb1
        generalize sto (sto S b1 (24 + 9 * b + (3 + (aL A 1 b).length)) (nI v)) b1 (24 + 9 * b + 2) (nI (aL A 1 b).length + nI 1) = S2 at r2 o2 ⊢
        rw [carAt_n, cr1_s, st_n (by omega) (by decide)]
        have r3 := r2.w (q := 138 + 7 * v + 4) (x := nI 1) hb1 (r2.1.put (k := 4) (i := v) (j := 4) (nI 1) (by decide) hv (by decide) (by decide))
        have o3 := o2.w (q := 138 + 7 * v + 4) (x := nI 1) hb1
        generalize sto S2 b1 (138 + 7 * v + 4) (nI 1) = S3 at r3 o3 ⊢
        rw [carAt_n, cr1_s, st_n (by omega) (by decide)]
        have r4 := r3.w (q := 138 + 7 * v + 5) (x := nI b) hb1 (r3.1.put (k := 4) (i := v) (j := 5) (nI b) (by decide) hv (by decide) (by decide))
        have o4 := o3.w (q := 138 + 7 * v + 5) (x := nI b) hb1
        generalize sto S3 b1 (138 + 7 * v + 5) (nI b) = S4 at r4 o4 ⊢
        have hs4 : RepR (sB S4 b1 0) (aPut (aPut (aLine A 1 b (aL A 1 b ++ [v])) 4 v 4 (nI 1)) 4 v 5 (nI b)) := r4.1
        have hL4 : aL (aPut (aPut (aLine A 1 b (aL A 1 b ++ [v])) 4 v 4 (nI 1)) 4 v 5 (nI b)) 0 c = aL A 0 c := by
          rw [aL_put, aL_put, aL_ne (by omega)]
        rw [convoyAt_n, cr1_s, m_sizeOf hs4 hc, cr1_s, hL4]
        obtain ⟨T, e5, o5, f5⟩ := R_drop (at' := 86 + 13 * c + 5) (i := i) (many := (aL A 0 c).length) (by omega) (by omega) (by omega) (sB S4 b1)
        rw [e5, cvs_s, convoyAt_n, cr1_s, ld_n (by omega) (by decide)]
        have eT : wB S4 b1 1 T b1 = T 0 := wB_at (β := b1) (k := 0) (by decide)
        rw [eT, f5, if_neg (by omega)]
        have e6 : sB S4 b1 0 (86 + 13 * c + 1) = nI (aL A 0 c).length := by
          have := (r4.1.2.2.2.1 0 c (by decide) hc).2.1
          rw [hL4] at this
          exact this
        rw [e6, st_n (by omega) (by decide)]
        have r5 : MR (sto (wB S4 b1 1 T) b1 (86 + 13 * c + 1) (nI (aL A 0 c).length - nI 1)) b1 (leaveV c b i v A) w fl := by
          refine ⟨?_, by rw [sto_o (Ne.symm hb1), wB_out (by omega)]; exact r4.2.1, by rw [sto_o (Ne.symm hb1), wB_out (by omega)]; exact r4.2.2⟩
          rw [sto_u, eT]
          have := r4.1.pull (k := 0) (i := c) (p := i) (r' := T 0) (by decide) hc (by rw [hL4]; omega) (fun q => by rw [hL4]; exact f5 q)
          rw [hL4] at this
          have eA : aLine (aPut (aPut (aLine A 1 b (aL A 1 b ++ [v])) 4 v 4 (nI 1)) 4 v 5 (nI b)) 0 c ((aL A 0 c).eraseIdx i) = leaveV c b i v A := by
            refine Prod.ext rfl (Prod.ext rfl (Prod.ext rfl ?_))
            funext x y
            show (if x = 0 ∧ y = c then _ else if x = 1 ∧ y = b then _ else _) = (if x = 1 ∧ y = b then _ else if x = 0 ∧ y = c then _ else _)
            by_cases z : x = 0 ∧ y = c
            · rw [if_pos z, if_neg (by omega), if_pos z]
            · rw [if_neg z, if_neg z]
          rw [eA] at this
          exact this
        have o5' : Mo b1 S (sto (wB S4 b1 1 T) b1 (86 + 13 * c + 1) (nI (aL A 0 c).length - nI 1)) := (o4.sub hb1).w hb1
        generalize sto (wB S4 b1 1 T) b1 (86 + 13 * c + 1) (nI (aL A 0 c).length - nI 1) = S5 at r5 o5' ⊢
        have hcan' : can = ((aL (leaveV c b i v A) 0 c).take i).all (fun u => !shortV (leaveV c b i v A) u) := by
          rw [leaveV_0, if_pos rfl, List.eraseIdx_eq_take_drop_succ, List.take_append_of_le_length (by rw [List.length_take]; omega), List.take_take, Nat.min_self, hcan]
          congr 1
          funext u
          congr 1
          unfold shortV
          rw [leaveV_T, leaveV_T, if_neg (by omega), if_neg (by omega), if_neg (by omega), if_neg (by omega)]
        have hlen' : n + i = (aL (leaveV c b i v A) 0 c).length := by rw [leaveV_0, if_pos rfl, List.length_eraseIdx, if_pos (by omega)]; omega
        have fin : ∀ fl', noteF c b v w fl = fl' → ∃ S', pX7_sheds_l18 b1 k (nI c) (nI b) (nI i) (bI can) (sto S5 0 13 fl') = some (bI (okC (shedB c b w n i (leaveV c b i v A, noteF c b v w fl, true)).1 c), S') ∧ MR S' b1 (shedB c b w n i (leaveV c b i v A, noteF c b v w fl, true)).1 w (shedB c b w n i (leaveV c b i v A, noteF c b v w fl, true)).2.1 ∧ Mo b1 S S' := by
          intro fl' hf
          rw [hf]
          have r7 : MR (sto S5 0 13 fl') b1 (leaveV c b i v A) w fl' := ⟨by rw [sto_o hb1]; exact r5.1, by rw [sto_j (by decide)]; exact r5.2.1, sto_i _ _ _ _⟩
          have o7 : Mo b1 S (sto S5 0 13 fl') := o5'.fnd
          obtain ⟨S', x1, x2, x3⟩ := ih i k (sto S5 0 13 fl') (leaveV c b i v A) fl' can true hlen' (by omega) r7 iv3 hc hb hcan'
          exact ⟨S', x1, x2, o7.tr x3⟩
        rw [gf_e, r5.2.1]
        by_cases q8 : nI c = w
        · rw [if_pos q8, gf_e, r5.2.2]
          by_cases q9 : fl = -9
          · rw [if_pos q9, pf_e]
            exact fin _ (by unfold noteF; rw [if_pos ⟨q8, q9⟩])
          · rw [if_neg q9, gf_e, r5.2.2, pf_e]
            exact fin _ (by unfold noteF; rw [if_neg (fun z => q9 z.2)])
        · rw [if_neg q8, gf_e, r5.2.2, pf_e]
          exact fin _ (by unfold noteF; rw [if_neg (fun z => q8 z.1)])
end MH3
