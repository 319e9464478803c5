/-! ===== the class's hour is the hour ===== -/
section CH
variable {S : mM} {A : aA} {w fl : Int32} {st : Bool}
theorem c_fill_loop {c d : Nat} : ∀ (m i k : Nat) (S : mM) (A : aA) (st : Bool), i + m = (aL A 0 c).length → m < k → CR S A w fl st → Inv A → c < aN A 3 → d < aN A 2 →
    ∃ S', pX4_fillUp_l26 k (nI c) (nI d) (nI i) S = some S' ∧ CR S' (((aL A 0 c).drop i).foldl (fillV d) (A, st)).1 w fl (((aL A 0 c).drop i).foldl (fillV d) (A, st)).2 := by
  intro m
  induction m with
  | zero =>
    intro i k S A st hi hk h iv hc hd
    obtain ⟨k, rfl⟩ : ∃ q, k = q + 1 := ⟨k - 1, by omega⟩
    have h4 := cnt3 iv
    have h8 := (iv.line0 c hc).1
    refine ⟨S, ?_, by rw [List.drop_eq_nil_of_le (by omega)]; exact h⟩
    show pX4_fillUp_lb26 (pX4_fillUp_l26 k) (nI c) (nI d) (nI i) S = _
    unfold pX4_fillUp_lb26
    rw [C_size0 h.1 (by omega), cr1_s, n_le (by omega) (by omega), if_pos (by omega)]
  | succ m ih =>
    intro i k S A st hi hk h iv hc hd
    obtain ⟨k, rfl⟩ : ∃ q, k = q + 1 := ⟨k - 1, by omega⟩
    have h4 := cnt3 iv
    have h8 := (iv.line0 c hc).1
    have hv := iv.vok hc (getD_mem (x := aL A 0 c) (i := i) (by omega))
    have hd4 : d < aN A 2 := hd
    rw [drop_get (x := aL A 0 c) (i := i) (by omega), List.foldl_cons]
    show ∃ S', pX4_fillUp_lb26 (pX4_fillUp_l26 k) (nI c) (nI d) (nI i) S = some S' ∧ _
    generalize hvv : (aL A 0 c).getD i 0 = v at hv
    unfold pX4_fillUp_lb26
    rw [C_size0 h.1 (by omega), cr1_s, n_le (by omega) (by omega), if_neg (by omega), C_get0 h.1 (by omega) (by omega), cr1_s, hvv, C_getV h.1 hv (by decide), cr1_s, C_getV h.1 hv (by decide), cr1_s, vl_e, C_getD h.1 hd (by decide), cr1_s, vl_e]
    generalize hg : (if aT A 2 d 1 < aT A 4 v 2 - aT A 4 v 3 then aT A 2 d 1 else aT A 4 v 2 - aT A 4 v 3) = g
    have hg' : mn (aT A 4 v 2 - aT A 4 v 3) (aT A 2 d 1) = g := hg
    obtain ⟨S1, e1, r1, z1⟩ := C_raise (ρ := mM) h.1 (k := 4) (o := 9) (n := 112) (i := v) (j := 3) g (by decide) rfl rfl hv (by decide)
    rw [e1]
    obtain ⟨S2, e2, r2, z2⟩ := C_raise (ρ := mM) r1 (k := 2) (o := 5) (n := 8) (i := d) (j := 1) (-g) (by decide) rfl rfl hd (by decide)
    rw [e2, gf_e]
    have hR : RepC S2 (fillV d (A, st) v).1 := by
      have eA : (fillV d (A, st) v).1 = aPut (aPut A 4 v 3 (aT A 4 v 3 + g)) 2 d 1 (aT (aPut A 4 v 3 (aT A 4 v 3 + g)) 2 d 1 + -g) := by
        unfold fillV
        simp only [hg']
        rw [aT_ne (by omega), Int32.sub_eq_add_neg]
      rw [eA]
      exact r2
    have z3 : S2 0 = S 0 := z2.trans z1
    have h2 := h.to hR z3
    have e9 : S2 0 9 = bI st := h2.2.1
    have eB : (fillV d (A, st) v).2 = (st || decide (0 < g)) := by
      unfold fillV
      simp only [hg']
    have fin : ∀ b : Bool, (fillV d (A, st) v).2 = b → ∃ S', pX4_fillUp_l26 k (nI c) (nI d) (nI (i + 1)) (sto S2 0 9 (bI b)) = some S' ∧ CR S' (((aL A 0 c).drop (i + 1)).foldl (fillV d) (fillV d (A, st) v)).1 w fl (((aL A 0 c).drop (i + 1)).foldl (fillV d) (fillV d (A, st) v)).2 := by
      intro b hb
      have := ih (i + 1) k (sto S2 0 9 (bI b)) (fillV d (A, st) v).1 b (by show i + 1 + m = (aL A 0 c).length; omega) (by omega) (h2.stir b) (iv.okFillV st hd hv) hc hd
      have e : ((fillV d (A, st) v).1, b) = fillV d (A, st) v := by rw [← hb]
      rw [e] at this
      exact this
    rw [e9, bI_0]
    cases st with
    | true =>
      rw [if_neg (by simp), pz_1, vl_e, nI_add]
      exact fin true (by rw [eB]; rfl)
    | false =>
      rw [if_pos rfl]
      by_cases q : g ≤ 0
      · rw [if_pos q, pz_0, vl_e, nI_add]
        exact fin false (by rw [eB, decide_eq_false (Int32.not_lt.mpr q)]; rfl)
      · rw [if_neg q, pz_1, vl_e, nI_add]
        exact fin true (by rw [eB, decide_eq_true (Int32.not_le.mp q)]; rfl)
theorem c_fill (h : CR S A w fl st) (iv : Inv A) {c : Nat} (hc : c < aN A 3) : ∃ S', pX4_fillUp (nI c) S = some S' ∧ CR S' (fillC c (A, st)).1 w fl (fillC c (A, st)).2 := by
  unfold pX4_fillUp fillC
  rw [C_getC h.1 hc (by decide), cr1_s, C_rowD h.1 iv, cr1_s, oI_N _ (rowF_lt iv (by decide) _)]
  cases e : rowF (aT A 2) (aT A 3 c 0) (aN A 2) with
  | none =>
    simp only [if_true, e]
    exact ⟨S, rfl, h⟩
  | some d =>
    rw [if_neg (by simp)]
    simp only [e]
    have h8 := (iv.line0 c hc).1
    have := c_fill_loop (d := d) (aL A 0 c).length 0 fuel S A st (by omega) (by unfold fuel; omega) h iv hc (rowF_some e).1
    rw [List.drop_zero] at this
    exact this
theorem c_move (h : RepC S A) {v : Nat} (x y : Int32) (hv : v < aN A 4) : ∃ S', pX4_moveTo (nI v) x y S = some S' ∧ RepC S' (aPut (aPut A 4 v 4 x) 4 v 5 y) ∧ S' 0 = S 0 := by
  unfold pX4_moveTo
  obtain ⟨S1, e1, r1, z1⟩ := C_put (ρ := mM) h (k := 4) (o := 9) (n := 112) (i := v) (j := 4) x (by decide) rfl rfl hv (by decide)
  rw [e1]
  obtain ⟨S2, e2, r2, z2⟩ := C_put (ρ := mM) r1 (k := 4) (o := 9) (n := 112) (i := v) (j := 5) y (by decide) rfl rfl hv (by decide)
  rw [e2]
  exact ⟨S2, rfl, r2, z2.trans z1⟩
theorem c_note (h : CR S A w fl st) {c b v : Nat} : ∃ S', pX4_noteLeft (nI c) (nI b) (nI v) S = some S' ∧ CR S' A w (noteF c b v w fl) true := by
  have h1 : CR (sto S 0 9 (nI 1)) A w fl true := h.stir true
  unfold pX4_noteLeft noteF
  rw [pz_1, gf_e, h1.2.2.1]
  by_cases q : nI c = w
  · rw [if_pos q, gf_e, h1.2.2.2]
    by_cases q2 : fl = -9
    · rw [if_pos q2, pf_e, if_pos ⟨q, q2⟩]
      refine ⟨_, rfl, h1.1.flag _ (by decide), ?_, ?_, sto_i _ _ _ _⟩
      · rw [sto_j (by decide)]
        exact h1.2.1
      · rw [sto_j (by decide)]
        exact h1.2.2.1
    · rw [if_neg q2, if_neg (fun z => q2 z.2)]
      exact ⟨_, rfl, h1⟩
  · rw [if_neg q, if_neg (fun z => q z.1)]
    exact ⟨_, rfl, h1⟩
/-- the loop that leaves stragglers: free is the room yet -/
theorem c_shed_loop {c b : Nat} : ∀ (n i j p k : Nat) (S : mM) (A : aA) (fl : Int32) (st : Bool), n + i = (aL A 0 c).length → n + j = (p : Nat) → n < k → p < 2 ^ 20 → CR S A w fl st → Inv A → c < aN A 3 → b < aN A 1 →
    ∃ S', pX4_leaveStragglers_l62 k (nI c) (nI b) (aT A 1 b 1 - nI (aL A 1 b).length) (nI p) (nI i) (nI j) S = some S' ∧ CR S' (shedB c b w n i (A, fl, st)).1 w (shedB c b w n i (A, fl, st)).2.1 (shedB c b w n i (A, fl, st)).2.2 := by
  intro n
  induction n with
  | zero =>
    intro i j p k S A fl st hi hj hk hp h iv hc hb
    obtain ⟨k, rfl⟩ : ∃ q, k = q + 1 := ⟨k - 1, by omega⟩
    refine ⟨S, ?_, h⟩
    show pX4_leaveStragglers_lb62 (pX4_leaveStragglers_l62 k) _ _ _ _ _ _ S = _
    unfold pX4_leaveStragglers_lb62
    rw [n_le (by omega) (by omega), if_pos (by omega)]
  | succ n ih =>
    intro i j p k S A fl st hi hj hk hp h iv hc hb
    obtain ⟨k, rfl⟩ : ∃ q, k = q + 1 := ⟨k - 1, by omega⟩
    have h4 := cnt3 iv
    have h6 := cnt1 iv
    have h8 := (iv.line0 c hc).1
    have b6 := (iv.line1 b hb).1
    obtain ⟨⟨pl, p1, p2, p3⟩, -⟩ := iv.bay b hb
    have hm := getD_mem (x := aL A 0 c) (i := i) (by omega)
    have hv := iv.vok hc hm
    show ∃ S', pX4_leaveStragglers_lb62 (pX4_leaveStragglers_l62 k) _ _ _ _ _ _ S = some S' ∧ _
    unfold pX4_leaveStragglers_lb62
    rw [n_le (by omega) (by omega), if_neg (by omega)]
    have hroom : (aT A 1 b 1 - nI (aL A 1 b).length ≤ 0) = (roomB A b = false) := by
      unfold roomB
      rw [p1, decide_eq_false_iff_not, P_lt (by omega) (by omega)]
      by_cases q : (aL A 1 b).length ≤ pl
      · rw [pk_sub q, P_le0 (by omega)]
        exact propext (by omega)
      · refine propext ⟨fun _ => by omega, fun _ => ?_⟩
        rw [Int32.le_iff_toInt_le, pk_sub_toInt (by omega) (by omega), show (0 : Int32).toInt = 0 from by decide]
        omega
    have hsub : shedB c b w (n + 1) i (A, fl, st) = if shortV A ((aL A 0 c).getD i 0) = true ∧ roomB A b = true then shedB c b w n i (leaveV c b i ((aL A 0 c).getD i 0) A, noteF c b ((aL A 0 c).getD i 0) w fl, true) else shedB c b w n (i + 1) (A, fl, st) := rfl
    by_cases q1 : roomB A b = false
    · rw [n_if hroom, if_pos q1]
      have hstop : ∀ n i, shedB c b w n i (A, fl, st) = (A, fl, st) := by
        intro n
        induction n with
        | zero => intro i; rfl
        | succ n ih =>
          intro i
          have : shedB c b w (n + 1) i (A, fl, st) = if shortV A ((aL A 0 c).getD i 0) = true ∧ roomB A b = true then shedB c b w n i (leaveV c b i ((aL A 0 c).getD i 0) A, noteF c b ((aL A 0 c).getD i 0) w fl, true) else shedB c b w n (i + 1) (A, fl, st) := rfl
          rw [this, if_neg (by rw [q1]; simp), ih]
      rw [hstop]
      exact ⟨S, rfl, h⟩
    · rw [n_if hroom, if_neg q1, C_get0 h.1 (by omega) (by omega), cr1_s]
      have q1' : roomB A b = true := by cases e : roomB A b with | true => rfl | false => exact absurd e q1
      rw [hsub]
      generalize hvv : (aL A 0 c).getD i 0 = v at hv hm
      rw [c_short h.1 hv, cr1_s, bI_0]
      by_cases q2 : shortV A v = false
      · rw [if_pos q2, vl_e, vl_e, nI_add, nI_add, if_neg (by rw [q2]; simp)]
        exact ih (i + 1) (j + 1) p k S A fl st (by omega) (by omega) (by omega) hp h iv hc hb
      · have q2' : shortV A v = true := by cases e : shortV A v with | true => rfl | false => exact absurd e q2
        rw [if_neg q2, if_pos ⟨q2', q1'⟩]
        have r6 := roomB_n iv hb q1'
        obtain ⟨S1, e1, r1, z1⟩ := C_rem0 (ρ := mM) h.1 (c := c) (p := i) (by omega) (by omega)
        rw [e1]
        obtain ⟨S2, e2, r2, z2⟩ := C_join1 (ρ := mM) r1 (c := b) v (by omega) (by rw [aL_ne (by omega)]; exact r6)
        rw [e2]
        obtain ⟨S3, e3, r3, z3⟩ := c_move r2 (v := v) (nI 1) (nI b) hv
        rw [e3, cr1_s]
        have r3' : RepC S3 (leaveV c b i v A) := by
          rw [aL_ne (by omega)] at r3
          exact r3
        obtain ⟨S4, e4, r4⟩ := c_note (h.to r3' (z3.trans (z2.trans z1))) (c := c) (b := b) (v := v)
        rw [e4, cr1_s, vl_e, vl_e, nI_add]
        have iv2 := iv.leave hc hb (i := i) (by omega) r6
        rw [hvv] at iv2
        have := ih i (j + 1) p k S4 (leaveV c b i v A) (noteF c b v w fl) true (by rw [leaveV_0, if_pos rfl, List.length_eraseIdx, if_pos (by omega)]; omega) (by omega) (by omega) hp r4 iv2 hc hb
        have e5 : aT A 1 b 1 - nI (aL A 1 b).length + -1 = aT (leaveV c b i v A) 1 b 1 - nI (aL (leaveV c b i v A) 1 b).length := by
          rw [leaveV_T, if_neg (by omega), if_neg (by omega), leaveV_1, if_pos rfl, List.length_append, List.length_singleton, ← nI_add]
          show _ = aT A 1 b 1 - (nI (aL A 1 b).length + 1)
          rw [Int32.sub_eq_add_neg, Int32.sub_eq_add_neg, Int32.neg_add, Int32.sub_eq_add_neg, Int32.add_assoc]
        rw [e5]
        exact this
theorem c_shed (h : CR S A w fl st) (iv : Inv A) {c : Nat} (hc : c < aN A 3) : ∃ S', pX4_leaveStragglers (nI c) S = some S' ∧ CR S' (shedC c w (A, fl, st)).1 w (shedC c w (A, fl, st)).2.1 (shedC c w (A, fl, st)).2.2 := by
  have h4 := cnt3 iv
  have h6 := cnt1 iv
  have h8 := (iv.line0 c hc).1
  unfold pX4_leaveStragglers shedC
  rw [C_getC h.1 hc (by decide), cr1_s, C_rowB h.1 iv, cr1_s, oI_N _ (rowF_lt iv (by decide) _)]
  cases e : rowF (aT A 1) (aT A 3 c 0) (aN A 1) with
  | none =>
    rw [if_pos rfl]
    refine ⟨S, ?_, h⟩
    unfold pX4_leaveStragglers_b45
    rw [C_size0 h.1 (by omega), cr1_s]
    show pX4_leaveStragglers_lb62 (pX4_leaveStragglers_l62 4999) _ _ _ _ _ _ S = _
    unfold pX4_leaveStragglers_lb62
    by_cases q : nI (aL A 0 c).length ≤ nI 0
    · rw [if_pos q]
    · rw [if_neg q, if_pos (by decide)]
  | some b =>
    rw [if_neg (by simp)]
    have hb := (rowF_some e).1
    show ∃ S', cr1 (pX5_get 12 (nI b) (nI 1) (sB S 3)) _ = some S' ∧ _
    rw [C_getB h.1 hb (by decide), cr1_s]
    show ∃ S', cr1 (pX2_size 6 36 (nI b) (sB S 14)) _ = some S' ∧ _
    rw [C_size1 h.1 (by omega), cr1_s]
    unfold pX4_leaveStragglers_b45
    rw [C_size0 h.1 (by omega), cr1_s]
    exact c_shed_loop (aL A 0 c).length 0 0 (aL A 0 c).length fuel S A fl st (by omega) (by omega) (by unfold fuel; omega) (by omega) h iv hc hb
theorem c_stands (h : CR S A w fl st) (iv : Inv A) {c : Nat} (hc : c < aN A 3) : ∃ S', pX4_stands (nI c) S = some (bI (!okC A c), S') ∧ CR S' (if okC A c = true then A else plusC A c 3) w fl st := by
  have h4 := cnt3 iv
  have h8 := (iv.line0 c hc).1
  have main : ∀ (m i k : Nat) (x : Bool), i + m = (aL A 0 c).length → m < k → ∃ S', pX4_stands_l19 k (nI c) (bI x) (nI i) S = some (bI (x || ((aL A 0 c).drop i).any (fun v => shortV A v)), S') ∧ CR S' (if (x || ((aL A 0 c).drop i).any (fun v => shortV A v)) = true then plusC A c 3 else A) w fl st := by
    intro m
    induction m with
    | zero =>
      intro i k x hi hk
      obtain ⟨k, rfl⟩ : ∃ q, k = q + 1 := ⟨k - 1, by omega⟩
      show ∃ S', pX4_stands_lb19 (pX4_stands_l19 k) (nI c) (bI x) (nI i) S = _ ∧ _
      unfold pX4_stands_lb19
      rw [C_size0 h.1 (by omega), cr1_s, n_le (by omega) (by omega), if_pos (by omega), List.drop_eq_nil_of_le (by omega), bI_0]
      cases x with
      | false =>
        rw [if_pos rfl]
        exact ⟨S, rfl, h⟩
      | true =>
        rw [if_neg (by simp)]
        obtain ⟨S1, e1, r1, z1⟩ := C_raise (ρ := Int32 × mM) h.1 (k := 3) (o := 7) (n := 16) (i := c) (j := 3) (nI 1) (by decide) rfl rfl hc (by decide)
        rw [e1]
        exact ⟨S1, rfl, h.to r1 z1⟩
    | succ m ih =>
      intro i k x hi hk
      obtain ⟨k, rfl⟩ : ∃ q, k = q + 1 := ⟨k - 1, by omega⟩
      show ∃ S', pX4_stands_lb19 (pX4_stands_l19 k) (nI c) (bI x) (nI i) S = _ ∧ _
      have hv := iv.vok hc (getD_mem (x := aL A 0 c) (i := i) (by omega))
      unfold pX4_stands_lb19
      rw [C_size0 h.1 (by omega), cr1_s, n_le (by omega) (by omega), if_neg (by omega), bI_0, drop_get (x := aL A 0 c) (i := i) (by omega), List.any_cons]
      cases x with
      | false =>
        rw [if_pos rfl, C_get0 h.1 (by omega) (by omega), cr1_s, c_short h.1 hv, cr1_s, bI_0]
        by_cases q : shortV A ((aL A 0 c).getD i 0) = false
        · rw [if_pos q, vl_e, nI_add, q]
          exact ih (i + 1) k false (by omega) (by omega)
        · have q' : shortV A ((aL A 0 c).getD i 0) = true := by cases e : shortV A ((aL A 0 c).getD i 0) with | true => rfl | false => exact absurd e q
          rw [if_neg q, vl_e, nI_add, q']
          exact ih (i + 1) k true (by omega) (by omega)
      | true =>
        rw [if_neg (by simp), vl_e, nI_add]
        exact ih (i + 1) k true (by omega) (by omega)
  have hok : okC A c = !((decide (aL A 0 c = [])) || (aL A 0 c).any (fun v => shortV A v)) := by
    unfold okC
    cases e : aL A 0 c with
    | nil => rfl
    | cons v r =>
      rw [List.all_eq_not_any_not]
      simp
  unfold pX4_stands
  rw [C_size0 h.1 (by omega), cr1_s, n_eq0 (by omega)]
  have hz : ((aL A 0 c).length = 0) = (aL A 0 c = []) := propext List.length_eq_zero_iff
  rw [n_if hz]
  by_cases q : aL A 0 c = []
  · rw [if_pos q]
    obtain ⟨S', e1, r1⟩ := main (aL A 0 c).length 0 fuel true (by omega) (by unfold fuel; omega)
    refine ⟨S', ?_, ?_⟩
    · rw [hok, decide_eq_true q]
      exact e1
    · rw [hok, decide_eq_true q]
      exact r1
  · rw [if_neg q]
    obtain ⟨S', e1, r1⟩ := main (aL A 0 c).length 0 fuel false (by omega) (by unfold fuel; omega)
    rw [List.drop_zero] at e1 r1
    refine ⟨S', ?_, ?_⟩
    · rw [hok, decide_eq_false q, Bool.not_not]
      exact e1
    · rw [hok, decide_eq_false q]
      cases e : (aL A 0 c).any (fun v => shortV A v) with
      | true => rw [e] at r1; exact r1
      | false => rw [e] at r1; exact r1
end CH
