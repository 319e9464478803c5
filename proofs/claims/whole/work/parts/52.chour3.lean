/-! ===== the class's hour is the hour, third part ===== -/
theorem remI_lt (a : Int32) {n : Nat} (h0 : 0 < n) (hn : n < 2 ^ 20) : -(n : Int) < (remI a (nI n)).toInt ∧ (remI a (nI n)).toInt < n := by
  have hb : (nI n).toInt = n := nI_toInt (by omega)
  have hne : nI n ≠ -1 := fun e => by
    rw [e] at hb
    have : (-1 : Int32).toInt = -1 := by decide
    omega
  have h1 := Int.tmod_lt_of_pos a.toInt (b := (n : Int)) (by omega)
  have h2 := Int.lt_tmod_of_pos a.toInt (b := (n : Int)) (by omega)
  have e : (remI a (nI n)).toInt = a.toInt.tmod n := by
    unfold remI
    rw [Int32.toInt_sub, Int32.toInt_mul, Int32.toInt_div_of_ne_right a (nI n) hne, hb, Int.sub_bmod_bmod, Int.mul_comm, ← Int.tmod_def]
    exact Int.bmod_eq_of_le (by omega) (by omega)
  rw [e]
  exact ⟨h2, h1⟩
theorem shut_n {x q p : Nat} (r : Int32) (hp : p ≤ 24) (hq : q < p) (h1 : -(p : Int) < r.toInt) (h2 : r.toInt < p) : ((if nI 0 < nI q - r then nI q - r else nI 0) = 0) = ¬ (r < nI q) := by
  have e : (nI q - r).toInt = q - r.toInt := by
    rw [Int32.toInt_sub, nI_toInt (by omega)]
    exact Int.bmod_eq_of_le (by omega) (by omega)
  have e1 : (nI 0 < nI q - r) = (r < nI q) := by
    rw [Int32.lt_iff_toInt_lt, Int32.lt_iff_toInt_lt, e, nI_toInt (by omega), nI_toInt (by omega)]
    exact propext (by omega)
  rw [n_if e1]
  by_cases z : r < nI q
  · rw [if_pos z]
    refine propext ⟨fun h => ?_, fun h => absurd z h⟩
    have h0 : (nI q - r).toInt = 0 := by rw [h]; decide
    rw [Int32.lt_iff_toInt_lt, nI_toInt (by omega)] at z
    omega
  · rw [if_neg z]
    exact propext ⟨fun _ => z, fun _ => rfl⟩
section CH3
variable {S : mM} {A : aA} {w fl : Int32} {st : Bool}
def clF (A : aA) (g : Nat) : Int32 := if nI 0 < aT A 0 g 2 - remI (aS A 1 + aT A 0 g 3) (aT A 0 g 1) then aT A 0 g 2 - remI (aS A 1 + aT A 0 g 3) (aT A 0 g 1) else nI 0
theorem clF_0 (iv : Inv A) {g : Nat} (hg : g < aN A 0) : (clF A g = 0) = (shutG A g = false) := by
  obtain ⟨p, q, h1, h2, h3, h4, h5⟩ := iv.gate g hg
  obtain ⟨r1, r2⟩ := remI_lt (aS A 1 + aT A 0 g 3) (n := p) (by omega) (by omega)
  unfold clF shutG
  rw [h4, h1, shut_n (x := 0) (p := p) _ h3 h5 r1 r2, decide_eq_false_iff_not]
theorem c_closed (h : RepC S A) (iv : Inv A) {g : Nat} (hg : g < aN A 0) : pX4_closedFor (nI g) S = some (clF A g) := by
  obtain ⟨p, q, h1, h2, h3, h4, h5⟩ := iv.gate g hg
  unfold pX4_closedFor
  rw [C_getG h hg (by decide), cr1_s, h1, n_gt0 (by omega), if_pos (by omega), gf_e, h.1.2, C_getG h hg (by decide), cr1_s]
  have hz : ¬ (nI p = 0) := by rw [P_eq0 (by omega)]; omega
  unfold nz
  rw [gd_p (decide_eq_true hz), vl_e, C_getG h hg (by decide), cr1_s, vl_e]
  unfold clF remI
  rw [h1]
theorem c_closedN (h : RepC S A) : pX4_closedFor (-9) S = some (nI 0) := by
  unfold pX4_closedFor
  rw [tab_out h.g _ (Or.inl (by decide)), cr1_s, if_neg (by decide)]
theorem c_wait (h : CR S A w fl st) (iv : Inv A) {c : Nat} (hc : c < aN A 3) : ∃ S', pX4_waitsAtGate (nI c) S = some (bI (shutAt A (aT A 3 c 0 + nI 1)), S') ∧ CR S' (if shutAt A (aT A 3 c 0 + nI 1) = true then plusC A c 2 else A) w fl (if shutAt A (aT A 3 c 0 + nI 1) = true then true else st) := by
  unfold pX4_waitsAtGate shutAt
  rw [C_getC h.1 hc (by decide), cr1_s, C_rowG h.1 iv, cr1_s]
  cases e : rowF (aT A 0) (aT A 3 c 0 + nI 1) (aN A 0) with
  | none =>
    show ∃ S', cr1 (pX4_closedFor (-9) S) _ = _ ∧ _
    rw [c_closedN h.1, cr1_s, if_pos (by decide), gd_p isZ_0]
    exact ⟨S, rfl, h⟩
  | some g =>
    have hg := (rowF_some e).1
    show ∃ S', cr1 (pX4_closedFor (nI g) S) _ = _ ∧ _
    rw [c_closed h.1 iv hg, cr1_s, n_if (clF_0 iv hg)]
    by_cases q : shutG A g = false
    · rw [if_pos q, gd_p isZ_0]
      show ∃ S', _ = some (bI (shutG A g), S') ∧ CR S' (if shutG A g = true then _ else _) w fl (if shutG A g = true then _ else _)
      rw [q]
      exact ⟨S, rfl, h⟩
    · have q' : shutG A g = true := by cases e : shutG A g with | true => rfl | false => exact absurd e q
      rw [if_neg q]
      show ∃ S', _ = some (bI (shutG A g), S') ∧ CR S' (if shutG A g = true then _ else _) w fl (if shutG A g = true then _ else _)
      rw [q', if_pos rfl, if_pos rfl]
      obtain ⟨S1, e1, r1, z1⟩ := C_raise (ρ := Int32 × mM) h.1 (k := 3) (o := 7) (n := 16) (i := c) (j := 2) (nI 1) (by decide) rfl rfl hc (by decide)
      rw [e1, pz_1, gd_p isZ_1]
      exact ⟨_, rfl, (h.to r1 z1).stir true⟩
theorem resc_stop {c b : Nat} (B : aA) (f : Bool) (hs : aL B 1 b = [] ∨ 8 ≤ (aL B 0 c).length) : ∀ n, rescB c b n (B, f) = (B, f) := by
  intro n
  cases n with
  | zero => rfl
  | succ n =>
    unfold rescB
    cases e : aL B 1 b with
    | nil => simp only [e]
    | cons v r =>
      rcases hs with hs | hs
      · rw [e] at hs
        cases hs
      · simp only [e]
        rw [if_neg (by omega)]
theorem c_resc_loop {c b bf : Nat} : ∀ (n i wt k : Nat) (S : mM) (A : aA) (f : Bool), n + i = wt → n + 1 < k → wt < 2 ^ 20 → bf < 2 ^ 20 → n = (aL A 1 b).length → CR S A w fl st → Inv A → c < aN A 3 → b < aN A 1 → aL A 0 c ≠ [] → (f = false ∧ (aL A 0 c).length = bf ∨ f = true ∧ bf < (aL A 0 c).length) →
    ∃ S', pX4_rescues_l42 k (nI c) (nI b) (nI wt) (nI bf) (nI 1) (nI i) S = some (bI (rescB c b n (A, f)).2, S') ∧ CR S' (rescB c b n (A, f)).1 w fl st := by
  intro n
  induction n with
  | zero =>
    intro i wt k S A f hi hk hw hbf hn h iv hc hb hne hf
    obtain ⟨k, rfl⟩ : ∃ q, k = q + 1 := ⟨k - 1, by omega⟩
    have h4 := cnt3 iv
    have h8 := (iv.line0 c hc).1
    show ∃ S', pX4_rescues_lb42 (pX4_rescues_l42 k) (nI c) (nI b) (nI wt) (nI bf) (nI 1) (nI i) S = some (bI f, S') ∧ CR S' A w fl st
    unfold pX4_rescues_lb42
    rw [n_le (by omega) (by omega), if_pos (by omega)]
    unfold pX4_rescues_b142
    rw [C_size0 h.1 (by omega), cr1_s, n_le (by omega) (by omega), gd_p isZ_0, gd_p isZ_1]
    rcases hf with ⟨rfl, hf⟩ | ⟨rfl, hf⟩
    · rw [if_pos (by omega)]
      exact ⟨S, rfl, h⟩
    · rw [if_neg (by omega)]
      exact ⟨S, rfl, h⟩
  | succ n ih =>
    intro i wt k S A f hi hk hw hbf hn h iv hc hb hne hf
    obtain ⟨k, rfl⟩ : ∃ q, k = q + 1 := ⟨k - 1, by omega⟩
    have h4 := cnt3 iv
    have h6 := cnt1 iv
    have h8 := (iv.line0 c hc).1
    have b6 := (iv.line1 b hb).1
    have hend : ∃ S', pX4_rescues_b142 (nI c) (nI bf) S = some (bI f, S') ∧ CR S' A w fl st := by
      unfold pX4_rescues_b142
      rw [C_size0 h.1 (by omega), cr1_s, n_le (by omega) (by omega), gd_p isZ_0, gd_p isZ_1]
      rcases hf with ⟨rfl, hf⟩ | ⟨rfl, hf⟩
      · rw [if_pos (by omega)]
        exact ⟨S, rfl, h⟩
      · rw [if_neg (by omega)]
        exact ⟨S, rfl, h⟩
    show ∃ S', pX4_rescues_lb42 (pX4_rescues_l42 k) (nI c) (nI b) (nI wt) (nI bf) (nI 1) (nI i) S = _ ∧ _
    unfold pX4_rescues_lb42
    rw [n_le (by omega) (by omega), if_neg (by omega), if_neg (by decide), C_size0 h.1 (by omega), cr1_s, n_le (by omega) (by omega)]
    by_cases q : 8 ≤ (aL A 0 c).length
    · rw [if_pos q, resc_stop A f (Or.inr q)]
      exact hend
    · rw [if_neg q]
      obtain ⟨v, r, hvr⟩ : ∃ v r, aL A 1 b = v :: r := by
        cases e : aL A 1 b with
        | nil => rw [e] at hn; cases hn
        | cons v r => exact ⟨v, r, rfl⟩
      have hvm : v ∈ aL A 1 b := by rw [hvr]; exact List.mem_cons_self
      have hv := iv.vok1 hb hvm
      have hm := richF_mem (A := A) hne
      have hmv := iv.vok hc hm
      have hne2 : v ≠ richF A (aL A 0 c) := fun z => iv.apart hc hb hm (by rw [← z]; exact hvm)
      rw [C_get1 h.1 (by omega) (by omega), cr1_s, hvr, show (v :: r).getD 0 0 = v from rfl, c_rich h.1 iv hc hne, cr1_s]
      obtain ⟨S1, e1, r1, z1⟩ := c_give h.1 hmv hv
      rw [e1, cr1_s, c_short r1 hv, cr1_s, bI_0]
      have hB : rescB c b (n + 1) (A, f) = if shortV (giveF A (richF A (aL A 0 c)) v) v = true then (giveF A (richF A (aL A 0 c)) v, f) else rescB c b n (joinV c b v r (giveF A (richF A (aL A 0 c)) v), true) := by
        show (match aL A 1 b with | [] => (A, f) | v :: r => if (aL A 0 c).length < 8 then (if shortV (giveF A (richF A (aL A 0 c)) v) v = true then (giveF A (richF A (aL A 0 c)) v, f) else rescB c b n (joinV c b v r (giveF A (richF A (aL A 0 c)) v), true)) else (A, f)) = _
        rw [hvr]
        show (if (aL A 0 c).length < 8 then _ else _) = _
        rw [if_pos (by omega)]
      rw [hB]
      generalize hGG : giveF A (richF A (aL A 0 c)) v = B at r1 ⊢
      have ivB : Inv B := by rw [← hGG]; exact iv.okGiveF hmv hv hne2
      have sB1 : Sam A B := by rw [← hGG]; exact ⟨rfl, rfl⟩
      have sB2 : aL B = aL A := by rw [← hGG]; rfl
      have h1 := h.to r1 z1
      by_cases q2 : shortV B v = false
      · rw [if_pos q2, if_neg (by rw [q2]; simp)]
        unfold pX4_rescues_b102
        rw [if_neg (by decide)]
        obtain ⟨S2, e2, r2, z2⟩ := C_rem1 (ρ := Int32 × mM) h1.1 (c := b) (p := 0) (by omega) (by rw [sB2]; omega)
        rw [e2]
        obtain ⟨S3, e3, r3, z3⟩ := C_join0 (ρ := Int32 × mM) r2 (c := c) v (by omega) (by rw [aL_ne (by omega), sB2]; omega)
        rw [e3]
        obtain ⟨S4, e4, r4, z4⟩ := c_move r3 (v := v) (nI 0) (nI c) (by show v < aN B 4; rw [sB1.1]; exact hv)
        rw [e4, cr1_s, vl_e, nI_add]
        rw [aL_ne (by omega), sB2, hvr, ← sB2] at r4
        have r4' : RepC S4 (joinV c b v r B) := r4
        have iv4 := ivB.join (c := c) (b := b) (v := v) (r := r) (by rw [sB1.1]; exact hc) (by rw [sB1.1]; exact hb) (by rw [sB2]; exact hvr) (by rw [sB2]; omega)
        have e0 : aL (joinV c b v r B) 0 c = aL A 0 c ++ [v] := by rw [joinV_0, if_pos rfl, sB2]
        have e9 : aL (joinV c b v r B) 1 b = r := by rw [joinV_1, if_pos rfl]
        exact ih (i + 1) wt k S4 (joinV c b v r B) true (by omega) (by omega) hw hbf (by rw [e9]; rw [hvr] at hn; simpa using hn) (h1.to r4' (z4.trans (z3.trans z2))) iv4 (by show c < aN B 3; rw [sB1.1]; exact hc) (by show b < aN B 1; rw [sB1.1]; exact hb) (by rw [e0]; simp) (Or.inr ⟨rfl, by
          rw [e0, List.length_append, List.length_singleton]
          rcases hf with ⟨-, hf⟩ | ⟨-, hf⟩ <;> omega⟩)
      · have q2' : shortV B v = true := by cases e : shortV B v with | true => rfl | false => exact absurd e q2
        rw [if_neg q2, if_pos q2']
        unfold pX4_rescues_b102
        rw [if_pos (by decide), vl_e, nI_add]
        obtain ⟨k, rfl⟩ : ∃ q, k = q + 1 := ⟨k - 1, by omega⟩
        show ∃ S', pX4_rescues_lb42 (pX4_rescues_l42 k) (nI c) (nI b) (nI wt) (nI bf) (nI 0) (nI (i + 1)) S1 = _ ∧ _
        unfold pX4_rescues_lb42
        have hend2 : ∃ S', pX4_rescues_b142 (nI c) (nI bf) S1 = some (bI f, S') ∧ CR S' B w fl st := by
          unfold pX4_rescues_b142
          rw [C_size0 h1.1 (by omega), cr1_s, sB2, n_le (by omega) (by omega), gd_p isZ_0, gd_p isZ_1]
          rcases hf with ⟨rfl, hf⟩ | ⟨rfl, hf⟩
          · rw [if_pos (by omega)]
            exact ⟨S1, rfl, h1⟩
          · rw [if_neg (by omega)]
            exact ⟨S1, rfl, h1⟩
        by_cases q3 : nI wt ≤ nI (i + 1)
        · rw [if_pos q3]
          exact hend2
        · rw [if_neg q3, if_pos (by decide)]
          exact hend2
/-- helping, and the order then: what the class does in two steps -/
theorem c_resc (h : CR S A w fl st) (iv : Inv A) {c : Nat} (hc : c < aN A 3) (hne : aL A 0 c ≠ []) : ∃ S' r, pX4_rescues (nI c) S = some (bI r, S') ∧
    ((r = false ∧ CR S' (rescC c A) w fl st) ∨ (r = true ∧ ∃ S'', pX4_putInOrder (nI c) S' = some S'' ∧ CR S'' (rescC c A) w fl st)) := by
  have h4 := cnt3 iv
  have h6 := cnt1 iv
  have h8 := (iv.line0 c hc).1
  unfold pX4_rescues rescC
  rw [C_getC h.1 hc (by decide), cr1_s, C_rowB h.1 iv, cr1_s]
  cases e : rowF (aT A 1) (aT A 3 c 0) (aN A 1) with
  | none =>
    show ∃ S' r, cr1 (pX2_size 6 36 (-9) (sB S 14)) _ = _ ∧ _
    rw [lin_size_out rfl (Or.inl (by decide)), cr1_s, C_size0 h.1 (by omega), cr1_s]
    refine ⟨S, false, ?_, Or.inl ⟨rfl, h⟩⟩
    show pX4_rescues_lb42 (pX4_rescues_l42 4999) (nI c) (-9) (nI 0) _ (nI 1) (nI 0) S = _
    unfold pX4_rescues_lb42
    rw [if_pos (by decide)]
    unfold pX4_rescues_b142
    rw [C_size0 h.1 (by omega), cr1_s, if_pos (Int32.le_refl _), gd_p isZ_0]
    rfl
  | some b =>
    have hb := (rowF_some e).1
    have b6 := (iv.line1 b hb).1
    show ∃ S' r, cr1 (pX2_size 6 36 (nI b) (sB S 14)) _ = _ ∧ _
    rw [C_size1 h.1 (by omega), cr1_s, C_size0 h.1 (by omega), cr1_s]
    obtain ⟨S1, e1, r1⟩ := c_resc_loop (c := c) (b := b) (bf := (aL A 0 c).length) (aL A 1 b).length 0 (aL A 1 b).length fuel S A false (by omega) (by unfold fuel; omega) (by omega) (by omega) rfl h iv hc hb hne (Or.inl ⟨rfl, rfl⟩)
    obtain ⟨i1, i2⟩ := Inv.okRescB (c := c) (b := b) (aL A 1 b).length (A, false) iv hc hb hne
    refine ⟨S1, (rescB c b (aL A 1 b).length (A, false)).2, e1, ?_⟩
    show (_ ∧ CR S1 (if (rescB c b (aL A 1 b).length (A, false)).2 = true then _ else _) w fl st) ∨ (_ ∧ ∃ S'', _ ∧ CR S'' (if (rescB c b (aL A 1 b).length (A, false)).2 = true then _ else _) w fl st)
    cases ej : (rescB c b (aL A 1 b).length (A, false)).2 with
    | false => exact Or.inl ⟨rfl, r1⟩
    | true =>
      refine Or.inr ⟨rfl, ?_⟩
      have hne2 : aL (rescB c b (aL A 1 b).length (A, false)).1 0 c ≠ [] := by
        intro z
        have : ∀ (n : Nat) (X : aA × Bool), aL X.1 0 c ≠ [] → aL (rescB c b n X).1 0 c ≠ [] := by
          intro n
          induction n with
          | zero => intro X hX; exact hX
          | succ n ih =>
            intro X hX
            unfold rescB
            cases e2 : aL X.1 1 b with
            | nil => simp only [e2]; exact hX
            | cons v r =>
              simp only [e2]
              by_cases q : (aL X.1 0 c).length < 8
              · rw [if_pos q]
                by_cases q2 : shortV (giveF X.1 (richF X.1 (aL X.1 0 c)) v) v = true
                · rw [if_pos q2]
                  exact hX
                · rw [if_neg q2]
                  refine ih _ ?_
                  show aL (joinV c b v r _) 0 c ≠ []
                  rw [joinV_0, if_pos rfl]
                  simp
              · rw [if_neg q]
                exact hX
        exact this _ _ hne z
      exact c_ord r1 i1 (by rw [i2.1]; exact hc) hne2
theorem c_step {c : Nat} : ∀ (n i s k : Nat) (S : mM) (A : aA) (fl : Int32) (st : Bool), n + i = s → n + 1 < k → s < 2 ^ 20 → CR S A w fl st → Inv A → c < aN A 3 → aT A 3 c 0 ≠ aS A 0 →
    ∃ S', pX4_drive_l41 k (nI c) (nI s) (nI i) S = some S' ∧ CR S' (stepC c w n (A, fl, st)).1 w (stepC c w n (A, fl, st)).2.1 (stepC c w n (A, fl, st)).2.2 := by
  intro n
  induction n with
  | zero =>
    intro i s k S A fl st hi hk hs h iv hc he
    obtain ⟨k, rfl⟩ : ∃ q, k = q + 1 := ⟨k - 1, by omega⟩
    refine ⟨S, ?_, h⟩
    show pX4_drive_lb41 (pX4_drive_l41 k) (nI c) (nI s) (nI i) S = _
    unfold pX4_drive_lb41
    rw [n_le (by omega) (by omega), if_pos (by omega)]
  | succ n ih =>
    intro i s k S A fl st hi hk hs h iv hc he
    obtain ⟨k, rfl⟩ : ∃ q, k = q + 1 := ⟨k - 1, by omega⟩
    show ∃ S', pX4_drive_lb41 (pX4_drive_l41 k) (nI c) (nI s) (nI i) S = _ ∧ _
    unfold pX4_drive_lb41
    rw [n_le (by omega) (by omega), if_neg (by omega), c_end h.1 hc, cr1_s, decide_eq_false he, if_pos (by decide)]
    obtain ⟨S1, e1, r1⟩ := c_wait h iv hc
    rw [e1, cw2_s, bI_0]
    unfold stepC
    by_cases q1 : shutAt A (aT A 3 c 0 + nI 1) = true
    · rw [if_neg (by rw [q1]; simp)]
      simp only [q1, if_true] at r1 ⊢
      exact ⟨S1, rfl, r1⟩
    · have q1' : shutAt A (aT A 3 c 0 + nI 1) = false := by cases e : shutAt A (aT A 3 c 0 + nI 1) with | true => exact absurd e q1 | false => rfl
      rw [if_pos q1']
      rw [if_neg q1, if_neg q1] at r1
      have hX : shutAt (A, fl, st).1 (aT (A, fl, st).1 3 c 0 + nI 1) = false := q1'
      rw [if_neg (by rw [hX]; simp)]
      obtain ⟨S2, e2, r2⟩ := c_shed r1 iv hc
      rw [e2, cr1_s]
      obtain ⟨k1, k2⟩ := Inv.okShedC (c := c) (w := w) (X := (A, fl, st)) iv hc
      generalize hY : shedC c w (A, fl, st) = Y at r2 k1 k2 ⊢
      have hc2 : c < aN Y.1 3 := by rw [k2.1]; exact hc
      obtain ⟨S3, e3, r3⟩ := c_stands r2 k1 hc2
      rw [e3, cw2_s, bI_0]
      by_cases q2 : okC Y.1 c = true
      · rw [if_pos (by rw [q2]; rfl), if_pos q2]
        rw [if_pos q2] at r3
        obtain ⟨S4, e4, r4⟩ := c_go r3 k1 hc2
        rw [e4, cr1_s]
        obtain ⟨g1, g2, g3⟩ := k1.okBurnC hc2 q2
        have hc3 : c < aN (burnC c Y.1) 3 := by rw [g2.1]; exact hc2
        by_cases q3 : aT (burnC c Y.1) 3 c 0 = aS (burnC c Y.1) 0
        · rw [if_pos q3]
          rw [if_pos q3] at r4
          obtain ⟨a1, a2⟩ := g1.arr hc3
          -- arrived: nobody to help here
          have hkm : aT (endC c (burnC c Y.1)) 3 c 0 = aS (endC c (burnC c Y.1)) 0 := by
            have e5 : aT (endC c (burnC c Y.1)) 3 c 0 = aT (burnC c Y.1) 3 c 0 := by
              unfold endC
              rw [aT_line, arrs_T, if_neg (by omega), if_neg (by omega)]
            rw [e5, a2.2, q3]
          have hno : rowF (aT (endC c (burnC c Y.1)) 1) (aT (endC c (burnC c Y.1)) 3 c 0) (aN (endC c (burnC c Y.1)) 1) = none := by
            cases e6 : rowF (aT (endC c (burnC c Y.1)) 1) (aT (endC c (burnC c Y.1)) 3 c 0) (aN (endC c (burnC c Y.1)) 1) with
            | none => rfl
            | some b =>
              obtain ⟨x1, x2⟩ := rowF_some e6
              exact absurd (x2.trans hkm) (a1.bay b x1).2
          have h4 := cnt3 a1
          have hc4 : c < aN (endC c (burnC c Y.1)) 3 := by rw [a2.1]; exact hc3
          have e7 : pX4_rescues (nI c) S4 = some (nI 0, S4) := by
            unfold pX4_rescues
            rw [C_getC r4.1 hc4 (by decide), cr1_s, C_rowB r4.1 a1, cr1_s, hno]
            show cr1 (pX2_size 6 36 (-9) (sB S4 14)) _ = _
            rw [lin_size_out rfl (Or.inl (by decide)), cr1_s, C_size0 r4.1 (by omega), cr1_s]
            show pX4_rescues_lb42 (pX4_rescues_l42 4999) (nI c) (-9) (nI 0) _ (nI 1) (nI 0) S4 = _
            unfold pX4_rescues_lb42
            rw [if_pos (by decide)]
            unfold pX4_rescues_b142
            rw [C_size0 r4.1 (by omega), cr1_s, if_pos (Int32.le_refl _), gd_p isZ_0]
          rw [e7, cw2_s, if_pos (by decide), vl_e, nI_add]
          obtain ⟨k, rfl⟩ : ∃ q, k = q + 1 := ⟨k - 1, by omega⟩
          refine ⟨S4, ?_, r4⟩
          show pX4_drive_lb41 (pX4_drive_l41 k) (nI c) (nI s) (nI (i + 1)) S4 = _
          unfold pX4_drive_lb41
          by_cases q9 : nI s ≤ nI (i + 1)
          · rw [if_pos q9]
          · rw [if_neg q9, c_end r4.1 hc4, cr1_s, decide_eq_true hkm, if_neg (by decide)]
        · rw [if_neg q3]
          rw [if_neg q3] at r4
          have hne : aL (burnC c Y.1) 0 c ≠ [] := by rw [g3]; exact (okC_all q2).1
          obtain ⟨S5, rr, e5, h5⟩ := c_resc r4 g1 hc3 hne
          obtain ⟨a1, a2⟩ := g1.okRescC hc3 hne
          have hend : aT (rescC c (burnC c Y.1)) 3 c 0 ≠ aS (rescC c (burnC c Y.1)) 0 := by
            have hT : ∀ B : aA, aT (rescC c B) 3 c 0 = aT B 3 c 0 := by
              intro B
              have hB : ∀ (b n : Nat) (X : aA × Bool), aT (rescB c b n X).1 3 c 0 = aT X.1 3 c 0 := by
                intro b n
                induction n with
                | zero => intro X; rfl
                | succ n ih =>
                  intro X
                  unfold rescB
                  cases e6 : aL X.1 1 b with
                  | nil => simp only [e6]
                  | cons v r =>
                    simp only [e6]
                    have eg : ∀ m, aT (giveF X.1 m v) 3 c 0 = aT X.1 3 c 0 := fun m => by
                      unfold giveF
                      rw [aT_ne (by omega), aT_ne (by omega)]
                    by_cases q : (aL X.1 0 c).length < 8
                    · rw [if_pos q]
                      by_cases q2 : shortV (giveF X.1 (richF X.1 (aL X.1 0 c)) v) v = true
                      · rw [if_pos q2]
                        exact eg _
                      · rw [if_neg q2, ih]
                        show aT (joinV c b v r _) 3 c 0 = _
                        rw [joinV_T, if_neg (by omega), if_neg (by omega), eg]
                    · rw [if_neg q]
              unfold rescC
              cases e6 : rowF (aT B 1) (aT B 3 c 0) (aN B 1) with
              | none => simp only [e6]
              | some b =>
                simp only [e6]
                by_cases q : (rescB c b (aL B 1 b).length (B, false)).2 = true
                · rw [if_pos q]
                  unfold ordC
                  rw [aT_line, hB]
                · rw [if_neg q, hB]
            rw [hT, a2.2]
            exact q3
          rw [e5, cw2_s, bI_0]
          rcases h5 with ⟨rfl, h5⟩ | ⟨rfl, S6, e6, h6⟩
          · rw [if_pos rfl, vl_e, nI_add]
            exact ih (i + 1) s k S5 _ _ _ (by omega) (by omega) hs h5 a1 (by rw [a2.1]; exact hc3) hend
          · rw [if_neg (by simp), e6, cr1_s, vl_e, nI_add]
            exact ih (i + 1) s k S6 _ _ _ (by omega) (by omega) hs h6 a1 (by rw [a2.1]; exact hc3) hend
      · have q2' : okC Y.1 c = false := by cases e : okC Y.1 c with | true => exact absurd e q2 | false => rfl
        rw [if_neg (by rw [q2']; decide), if_neg q2]
        rw [if_neg q2] at r3
        exact ⟨S3, rfl, r3⟩
theorem slow_n (iv : Inv A) {c : Nat} (hc : c < aN A 3) : ∃ s, slowF A (aL A 0 c) = nI s ∧ s ≤ 9 ∧ (aL A 0 c ≠ [] → 1 ≤ s) := by
  have main : ∀ (x : List Nat) (m : Nat), (∀ v, v ∈ x → v < aN A 4) → 1 ≤ m → m ≤ 9 → ∃ s, x.foldl (fun m w => mn m (aT A 4 w 0)) (nI m) = nI s ∧ s ≤ 9 ∧ 1 ≤ s := by
    intro x
    induction x with
    | nil => intro m _ h1 h2; exact ⟨m, rfl, h2, h1⟩
    | cons v r ih =>
      intro m hv h1 h2
      obtain ⟨s, u, t, q, a1, a2, a3, -⟩ := iv.veh v (hv v List.mem_cons_self)
      rw [List.foldl_cons, a1, mn_n (by omega) (by omega)]
      exact ih (min m s) (fun w hw => hv w (List.mem_cons_of_mem _ hw)) (by omega) (by omega)
  have hv : ∀ v, v ∈ aL A 0 c → v < aN A 4 := fun v h => iv.vok hc h
  cases e : aL A 0 c with
  | nil => exact ⟨0, rfl, by decide, fun h => absurd rfl h⟩
  | cons v r =>
    rw [e] at hv
    obtain ⟨s, u, t, q, a1, a2, a3, -⟩ := iv.veh v (hv v List.mem_cons_self)
    obtain ⟨s', b1, b2, b3⟩ := main r s (fun w hw => hv w (List.mem_cons_of_mem _ hw)) a2 a3
    refine ⟨s', ?_, b2, fun _ => b3⟩
    show r.foldl _ (aT A 4 v 0) = _
    rw [a1]
    exact b1
theorem fill_T3 (c : Nat) (X : aA × Bool) (i j : Nat) : aT (fillC c X).1 3 i j = aT X.1 3 i j := by
  have main : ∀ (d : Nat) (x : List Nat) (X : aA × Bool), aT (x.foldl (fillV d) X).1 3 i j = aT X.1 3 i j := by
    intro d x
    induction x with
    | nil => intro X; rfl
    | cons v r ih =>
      intro X
      rw [List.foldl_cons, ih]
      unfold fillV
      rw [aT_ne (by omega), aT_ne (by omega)]
  unfold fillC
  cases e : rowF (aT X.1 2) (aT X.1 3 c 0) (aN X.1 2) with
  | none => simp only [e]
  | some d =>
    simp only [e]
    exact main _ _ _
theorem c_drive (h : CR S A w fl st) (iv : Inv A) {c : Nat} (hc : c < aN A 3) (he : aT A 3 c 0 ≠ aS A 0) : ∃ S', pX4_drive (nI c) S = some S' ∧ CR S' (driveC c w (A, fl, st)).1 w (driveC c w (A, fl, st)).2.1 (driveC c w (A, fl, st)).2.2 := by
  unfold pX4_drive driveC
  rw [C_getC h.1 hc (by decide), cr1_s]
  by_cases q : aT A 3 c 1 ≤ 0
  · rw [if_pos q, if_neg (Int32.not_lt.mpr q)]
    obtain ⟨S1, e1, r1⟩ := c_fill h iv hc
    obtain ⟨k1, k2, k3⟩ := iv.okFillC st hc
    rw [e1, cr1_s]
    have eT : aT (fillC c (A, st)).1 3 c 0 = aT A 3 c 0 := fill_T3 _ _ _ _
    show ∃ S', cr1 (pX4_slowestSpeed (nI c) S1) _ = _ ∧ CR S' (stepC c w (slowF (fillC c (A, st)).1 (aL (fillC c (A, st)).1 0 c)).toNatClampNeg ((fillC c (A, st)).1, fl, (fillC c (A, st)).2)).1 w _ _
    generalize fillC c (A, st) = Y at r1 k1 k2 k3 eT ⊢
    have hc2 : c < aN Y.1 3 := by rw [k2.1]; exact hc
    obtain ⟨s, s1, s2, -⟩ := slow_n k1 hc2
    rw [c_slow r1.1 k1 hc2, cr1_s, s1, nI_clamp (by omega)]
    exact c_step s 0 s fuel S1 Y.1 fl Y.2 (by omega) (by unfold fuel; omega) (by omega) r1 k1 hc2 (by rw [eT, k2.2]; exact he)
  · rw [if_neg q, if_pos (Int32.not_le.mp q)]
    obtain ⟨S1, e1, r1, z1⟩ := C_raise (ρ := mM) h.1 (k := 3) (o := 7) (n := 16) (i := c) (j := 1) (-1) (by decide) rfl rfl hc (by decide)
    rw [e1, pz_1]
    refine ⟨_, rfl, ?_⟩
    have e2 : aT A 3 c 1 + -1 = aT A 3 c 1 - nI 1 := by rw [Int32.sub_eq_add_neg]; rfl
    rw [e2] at r1
    exact (h.to r1 z1).stir true
theorem c_hour_loop : ∀ (n c N k : Nat) (S : mM) (A : aA) (fl : Int32) (st : Bool), n + c = N → aN A 3 = N → n < k → CR S A w fl st → Inv A →
    ∃ S', pX4_letHourGoBy_l7 k (nI c) S = some S' ∧ CR S' (aSc (hourB w n c (A, fl, st)).1 1 (aS (hourB w n c (A, fl, st)).1 1 + nI 1)) w (hourB w n c (A, fl, st)).2.1 (hourB w n c (A, fl, st)).2.2 := by
  intro n
  induction n with
  | zero =>
    intro c N k S A fl st hn hN hk h iv
    obtain ⟨k, rfl⟩ : ∃ q, k = q + 1 := ⟨k - 1, by omega⟩
    have h4 := cnt3 iv
    show ∃ S', pX4_letHourGoBy_lb7 (pX4_letHourGoBy_l7 k) (nI c) S = some S' ∧ _
    unfold pX4_letHourGoBy_lb7
    rw [C_cntC h.1, cr1_s, n_le (by omega) (by omega), if_pos (by omega), gf_e, pf_e, h.1.1.2]
    refine ⟨_, rfl, h.1.sc (j := 1) _ (by decide), ?_, ?_, ?_⟩
    · rw [sto_j (by decide)]
      exact h.2.1
    · rw [sto_j (by decide)]
      exact h.2.2.1
    · rw [sto_j (by decide)]
      exact h.2.2.2
  | succ n ih =>
    intro c N k S A fl st hn hN hk h iv
    obtain ⟨k, rfl⟩ : ∃ q, k = q + 1 := ⟨k - 1, by omega⟩
    have h4 := cnt3 iv
    have hc : c < aN A 3 := by omega
    have h8 := (iv.line0 c hc).1
    show ∃ S', pX4_letHourGoBy_lb7 (pX4_letHourGoBy_l7 k) (nI c) S = some S' ∧ _
    have hB : hourB w (n + 1) c (A, fl, st) = hourB w n (c + 1) (if actC A c = true then driveC c w (A, fl, st) else (A, fl, st)) := rfl
    rw [hB]
    unfold pX4_letHourGoBy_lb7
    rw [C_cntC h.1, cr1_s, n_le (by omega) (by omega), if_neg (by omega), C_size0 h.1 (by omega), cr1_s, n_le0 (by omega)]
    by_cases q : aL A 0 c = []
    · have ha : actC A c = false := by unfold actC; rw [q]; rfl
      rw [if_pos (by rw [q]; rfl), vl_e, nI_add, if_neg (by rw [ha]; simp)]
      exact ih (c + 1) N k S A fl st (by omega) hN (by omega) h iv
    · rw [if_neg (fun z => q (List.length_eq_zero_iff.mp z)), c_end h.1 hc, cr1_s, bI_0]
      have ha : actC A c = decide (aT A 3 c 0 ≠ aS A 0) := by
        unfold actC
        cases e : aL A 0 c with
        | nil => exact absurd e q
        | cons v r => rfl
      rw [ha]
      by_cases q2 : aT A 3 c 0 = aS A 0
      · rw [if_neg (by rw [decide_eq_true q2]; simp), vl_e, nI_add, if_neg (by simp [q2])]
        exact ih (c + 1) N k S A fl st (by omega) hN (by omega) h iv
      · rw [if_pos (decide_eq_false q2), if_pos (decide_eq_true q2)]
        obtain ⟨S1, e1, r1⟩ := c_drive h iv hc q2
        obtain ⟨k1, k2⟩ := Inv.okDriveC (c := c) (w := w) (X := (A, fl, st)) iv hc
        rw [e1, cr1_s, vl_e, nI_add]
        generalize driveC c w (A, fl, st) = Y at r1 k1 k2 ⊢
        obtain ⟨A', fl', st'⟩ := Y
        have k3 : aN A' = aN A := k2.1
        exact ih (c + 1) N k S1 A' fl' st' (by omega) (by rw [k3]; exact hN) (by omega) r1 k1
theorem c_hour (h : CR S A w fl st) (iv : Inv A) : ∃ S', pX4_letHourGoBy S = some S' ∧ CR S' (hourA w (A, fl)).1 w (hourA w (A, fl)).2.1 (hourA w (A, fl)).2.2 := by
  unfold pX4_letHourGoBy
  rw [pz_0]
  have h4 := cnt3 iv
  exact c_hour_loop (aN A 3) 0 (aN A 3) fuel _ A fl false (by omega) rfl (by unfold fuel; omega) (h.stir false) iv
end CH3
