/-! ===== the reference's hour is the hour, fourth part ===== -/
section MH4
variable {S : mM} {A : aA} {b1 : Nat} {w fl : Int32}
theorem m_shed (h : MR S b1 A w fl) (hb1 : b1 ≠ 0) (iv : Inv A) (st : Bool) {c : Nat} (hc : c < aN A 3) : ∃ S', pX7_sheds b1 (nI c) S = some (bI (okC (shedC c w (A, fl, st)).1 c), S') ∧ MR S' b1 (shedC c w (A, fl, st)).1 w (shedC c w (A, fl, st)).2.1 ∧ Mo b1 S S' := by
  have h8 := (iv.line0 c hc).1
  have hs : RepR (sB S b1 0) A := h.1
  unfold pX7_sheds shedC
  rw [convoyAt_n, cr1_s, R_ldC0 h.1 hc, m_bayOn hs, cr1_s]
  cases e : rowF (aT A 1) (aT A 3 c 0) (aN A 1) with
  | none =>
    show ∃ S', pX7_sheds_l18 b1 fuel (nI c) (-9) (nI 0) (nI 1) S = some (bI (okC A c), S') ∧ MR S' b1 A w fl ∧ Mo b1 S S'
    exact ⟨S, m_shed_none (aL A 0 c).length 0 fuel true (by omega) (by unfold fuel; omega) h.1 iv hc rfl, h, Mo.rf⟩
  | some b =>
    show ∃ S', pX7_sheds_l18 b1 fuel (nI c) (nI b) (nI 0) (nI 1) S = some (bI (okC (shedB c b w (aL A 0 c).length 0 (A, fl, st)).1 c), S') ∧ MR S' b1 (shedB c b w (aL A 0 c).length 0 (A, fl, st)).1 w (shedB c b w (aL A 0 c).length 0 (A, fl, st)).2.1 ∧ Mo b1 S S'
    exact m_shed_loop hb1 (aL A 0 c).length 0 fuel S A fl true st (by omega) (by unfold fuel; omega) h iv hc (rowF_some e).1 rfl
theorem m_plus (h : MR S b1 A w fl) (hb1 : b1 ≠ 0) {c j : Nat} (hc : c < aN A 3) (hj : j < 4) (hj0 : 0 < j) : MR (sto S b1 (86 + 13 * c + (j + 1)) (aT A 3 c j + nI 1)) b1 (plusC A c j) w fl := by
  refine h.w hb1 ?_
  have := h.1.put (k := 3) (i := c) (j := j) (aT A 3 c j + nI 1) (by decide) hc hj (by omega)
  rw [show rix 3 c j = 86 + 13 * c + (j + 1) by show 86 + 13 * c + (if j = 0 then 0 else j + 1) = _; rw [if_neg (by omega)]] at this
  exact this
theorem resc_T3 (c b : Nat) : ∀ (n : Nat) (X : aA × Bool), aT (rescB c b n X).1 3 c 0 = aT X.1 3 c 0 := by
  intro n
  induction n with
  | zero => intro X; rfl
  | succ n ih =>
    intro X
    unfold rescB
    cases e6 : aL X.1 1 b with
    | nil => simp only [e6]
    | cons v r =>
      simp only [e6]
      have eg : ∀ m, aT (giveF X.1 m v) 3 c 0 = aT X.1 3 c 0 := fun m => by
        unfold giveF
        rw [aT_ne (by omega), aT_ne (by omega)]
      by_cases q : (aL X.1 0 c).length < 8
      · rw [if_pos q]
        by_cases q2 : shortV (giveF X.1 (richF X.1 (aL X.1 0 c)) v) v = true
        · rw [if_pos q2]
          exact eg _
        · rw [if_neg q2, ih]
          show aT (joinV c b v r _) 3 c 0 = _
          rw [joinV_T, if_neg (by omega), if_neg (by omega), eg]
      · rw [if_neg q]
theorem rescC_T3 (c : Nat) (B : aA) : aT (rescC c B) 3 c 0 = aT B 3 c 0 := by
  unfold rescC
  cases e6 : rowF (aT B 1) (aT B 3 c 0) (aN B 1) with
  | none => simp only [e6]
  | some b =>
    simp only [e6]
    by_cases q : (rescB c b (aL B 1 b).length (B, false)).2 = true
    · rw [if_pos q]
      unfold ordC
      rw [aT_line, resc_T3]
    · rw [if_neg q, resc_T3]
theorem m_step {c : Nat} (hb1 : b1 ≠ 0) : ∀ (n i s k : Nat) (S : mM) (A : aA) (fl : Int32) (st : Bool), n + i = s → n < k → s < 2 ^ 20 → MR S b1 A w fl → Inv A → c < aN A 3 →
    ∃ S', pX7_goConvoy_l36 b1 k (nI c) (nI s) (nI i) S = some S' ∧ MR S' b1 (stepC c w n (A, fl, st)).1 w (stepC c w n (A, fl, st)).2.1 ∧ Mo b1 S S' := by
  intro n
  induction n with
  | zero =>
    intro i s k S A fl st hi hk hs h iv hc
    obtain ⟨k, rfl⟩ : ∃ q, k = q + 1 := ⟨k - 1, by omega⟩
    refine ⟨S, ?_, h, Mo.rf⟩
    show pX7_goConvoy_lb36 b1 (pX7_goConvoy_l36 b1 k) (nI c) (nI s) (nI i) S = _
    unfold pX7_goConvoy_lb36
    rw [n_le (by omega) (by omega), if_pos (by omega)]
  | succ n ih =>
    intro i s k S A fl st hi hk hs h iv hc
    obtain ⟨k, rfl⟩ : ∃ q, k = q + 1 := ⟨k - 1, by omega⟩
    have h4 := cnt3 iv
    show ∃ S', pX7_goConvoy_lb36 b1 (pX7_goConvoy_l36 b1 k) (nI c) (nI s) (nI i) S = _ ∧ _
    have hsS : RepR (sB S b1 0) A := h.1
    have b85 : shutAt A (aT A 3 c 0 + nI 1) = false → ∃ S', pX7_goConvoy_b85 b1 (pX7_goConvoy_l36 b1 k) (nI c) (nI s) (nI i) S = some S' ∧ MR S' b1 (stepC c w (n + 1) (A, fl, st)).1 w (stepC c w (n + 1) (A, fl, st)).2.1 ∧ Mo b1 S S' := by
      intro q1
      unfold stepC
      rw [if_neg (show ¬ shutAt (A, fl, st).1 (aT (A, fl, st).1 3 c 0 + nI 1) = true by rw [show shutAt (A, fl, st).1 (aT (A, fl, st).1 3 c 0 + nI 1) = false from q1]; simp)]
      unfold pX7_goConvoy_b85
      obtain ⟨S1, e1, r1, o1⟩ := m_shed h hb1 iv st hc
      obtain ⟨k1, k2⟩ := Inv.okShedC (c := c) (w := w) (X := (A, fl, st)) iv hc
      rw [e1, cw2_s, bI_0]
      generalize shedC c w (A, fl, st) = Y at r1 k1 k2 ⊢
      have hc2 : c < aN Y.1 3 := by rw [k2.1]; exact hc
      by_cases q2 : okC Y.1 c = true
      · rw [if_neg (by rw [q2]; simp), if_pos q2]
        obtain ⟨T, e3, r3⟩ := m_burn (S := sB S1 b1) r1.1 k1 hc2
        rw [e3, cvs_s]
        have m3 := r1.sub hb1 r3
        have o3 := o1.sub hb1 (U := T)
        generalize wB S1 b1 1 T = S3 at m3 o3 ⊢
        obtain ⟨g1, g2, g3⟩ := k1.okBurnC hc2 q2
        have hc3 : c < aN (burnC c Y.1) 3 := by rw [g2.1]; exact hc2
        have hs3 : RepR (sB S3 b1 0) (burnC c Y.1) := m3.1
        rw [m_there hs3 hc3, cr1_s, bI_0]
        by_cases q3 : aT (burnC c Y.1) 3 c 0 = aS (burnC c Y.1) 0
        · rw [if_neg (by rw [decide_eq_true q3]; simp), if_pos q3]
          obtain ⟨T4, e4, r4⟩ := m_arrive (S := sB S3 b1) hs3 hc3 (g1.line0 c hc3).1 (cnt4 g1) (fun v hv => g1.vok hc3 hv)
          rw [e4, cvs_s]
          exact ⟨_, rfl, m3.sub hb1 r4, o3.sub hb1⟩
        · rw [if_pos (decide_eq_false q3), if_neg q3]
          have hne : aL (burnC c Y.1) 0 c ≠ [] := by rw [g3]; exact (okC_all q2).1
          obtain ⟨T4, e4, r4⟩ := m_resc (S := sB S3 b1) hs3 g1 hc3 hne
          obtain ⟨a1, a2⟩ := g1.okRescC hc3 hne
          rw [e4, cvs_s, vl_e, nI_add]
          obtain ⟨S', x1, x2, x3⟩ := ih (i + 1) s k (wB S3 b1 1 T4) (rescC c (burnC c Y.1)) Y.2.1 true (by omega) (by omega) hs (m3.sub hb1 r4) a1 (by rw [a2.1]; exact hc3)
          exact ⟨S', x1, x2, (o3.sub hb1).tr x3⟩
      · have q2' : okC Y.1 c = false := by cases e : okC Y.1 c with | true => exact absurd e q2 | false => rfl
        have h4' := cnt3 k1
        rw [if_pos q2', if_neg q2, convoyAt_n, cr1_s, R_ldC3 r1.1 hc2, st_n (by omega) (by decide)]
        exact ⟨_, rfl, m_plus (j := 3) r1 hb1 hc2 (by decide) (by decide), o1.w hb1⟩
    unfold pX7_goConvoy_lb36
    rw [n_le (by omega) (by omega), if_neg (by omega), convoyAt_n, cr1_s, R_ldC0 h.1 hc, m_gateOn hsS, cr1_s, oI_N _ (rowF_lt iv (by decide) _)]
    cases e : rowF (aT A 0) (aT A 3 c 0 + nI 1) (aN A 0) with
    | none =>
      rw [if_pos rfl]
      exact b85 (by unfold shutAt; rw [e])
    | some g =>
      rw [if_neg (by simp)]
      have hg := (rowF_some e).1
      have hsh : shutAt A (aT A 3 c 0 + nI 1) = shutG A g := by unfold shutAt; rw [e]
      show ∃ S', cr1 (pX7_isClosed (nI g) (sB S b1)) _ = _ ∧ _
      rw [m_closed hsS iv hg, cr1_s, bI_0]
      by_cases q : shutG A g = false
      · rw [if_pos q]
        exact b85 (by rw [hsh]; exact q)
      · have q' : shutG A g = true := by cases e : shutG A g with | true => rfl | false => exact absurd e q
        rw [if_neg q, convoyAt_n, cr1_s, R_ldC2 h.1 hc, st_n (by omega) (by decide)]
        unfold stepC
        rw [if_pos (show shutAt (A, fl, st).1 (aT (A, fl, st).1 3 c 0 + nI 1) = true from hsh.trans q')]
        exact ⟨_, rfl, m_plus (j := 2) h hb1 hc (by decide) (by decide), Mo.rf.w hb1⟩
theorem m_drive (h : MR S b1 A w fl) (hb1 : b1 ≠ 0) (iv : Inv A) (st : Bool) {c : Nat} (hc : c < aN A 3) : ∃ S', pX7_goConvoy b1 (nI c) S = some S' ∧ MR S' b1 (driveC c w (A, fl, st)).1 w (driveC c w (A, fl, st)).2.1 ∧ Mo b1 S S' := by
  have h4 := cnt3 iv
  unfold pX7_goConvoy driveC
  rw [convoyAt_n, cr1_s, R_ldC1 h.1 hc]
  by_cases q : aT A 3 c 1 ≤ 0
  · rw [if_pos q, if_neg (Int32.not_lt.mpr q)]
    obtain ⟨T, e1, r1⟩ := m_fill (S := sB S b1) h.1 iv st hc
    obtain ⟨k1, k2, k3⟩ := iv.okFillC st hc
    rw [e1, cvs_s]
    have m1 := h.sub hb1 r1
    have o1 := (Mo.rf (b := b1) (S := S)).sub hb1 (U := T)
    generalize wB S b1 1 T = S1 at m1 o1 ⊢
    show ∃ S', cr1 (pX7_slowest (nI c) (sB S1 b1)) _ = _ ∧ MR S' b1 (stepC c w (slowF (fillC c (A, st)).1 (aL (fillC c (A, st)).1 0 c)).toNatClampNeg ((fillC c (A, st)).1, fl, (fillC c (A, st)).2)).1 w _ ∧ _
    generalize fillC c (A, st) = Y at m1 k1 k2 k3 ⊢
    have hc2 : c < aN Y.1 3 := by rw [k2.1]; exact hc
    obtain ⟨s, s1, s2, -⟩ := slow_n k1 hc2
    have hs1 : RepR (sB S1 b1 0) Y.1 := m1.1
    rw [m_slow hs1 k1 hc2, cr1_s, s1, nI_clamp (by omega)]
    obtain ⟨S', x1, x2, x3⟩ := m_step (c := c) hb1 s 0 s fuel S1 Y.1 fl Y.2 (by omega) (by unfold fuel; omega) (by omega) m1 k1 hc2
    exact ⟨S', x1, x2, o1.tr x3⟩
  · rw [if_neg q, if_pos (Int32.not_le.mp q), cr1_s, R_ldC1 h.1 hc, st_n (by omega) (by decide)]
    refine ⟨_, rfl, h.w hb1 ?_, Mo.rf.w hb1⟩
    exact h.1.put (k := 3) (i := c) (j := 1) _ (by decide) hc (by decide) (by decide)
theorem RepR.sc1 {r : Nat → Int32} (h : RepR r A) (x : Int32) : RepR (upd r 1 x) (aSc A 1 x) := by
  obtain ⟨⟨g1, g2⟩, g3, g4, g5, g7⟩ := id h
  refine ⟨⟨by rw [upd_n (by omega)]; exact g1, upd_s _ _ _⟩, fun a ha => by rw [upd_n (by omega)]; exact g3 a ha, fun a c d ha hc hd => ?_, fun a c ha hc => ?_, by rw [upd_n (by omega)]; exact g7⟩
  · rw [upd_n (by have := rix_lt ha (R_lt h ha hc) hd; omega)]
    exact g4 a c d ha hc hd
  · obtain ⟨k1, k2, k3⟩ := g5 a c ha hc
    have hc' := R_lt h (lTb_lt ha) hc
    refine ⟨k1, ?_, fun j hj => ?_⟩
    · rw [upd_n (by have := lsz_lt ha hc'; omega)]
      exact k2
    · rw [upd_n (by have := lix_lt ha hc' (j := j) (by rw [aL_sc] at hj; omega); omega)]
      exact k3 j hj
theorem m_hour_loop (hb1 : b1 ≠ 0) : ∀ (n c N k : Nat) (S : mM) (A : aA) (fl : Int32) (st : Bool), n + c = N → aN A 3 = N → n < k → MR S b1 A w fl → Inv A →
    ∃ S', pX7_goHour_l2 b1 k (nI c) S = some S' ∧ MR S' b1 (aSc (hourB w n c (A, fl, st)).1 1 (aS (hourB w n c (A, fl, st)).1 1 + nI 1)) w (hourB w n c (A, fl, st)).2.1 ∧ Mo b1 S S' := by
  intro n
  induction n with
  | zero =>
    intro c N k S A fl st hn hN hk h iv
    obtain ⟨k, rfl⟩ : ∃ q, k = q + 1 := ⟨k - 1, by omega⟩
    have h4 := cnt3 iv
    show ∃ S', pX7_goHour_lb2 b1 (pX7_goHour_l2 b1 k) (nI c) S = some S' ∧ MR S' b1 (aSc A 1 (aS A 1 + nI 1)) w fl ∧ _
    unfold pX7_goHour_lb2
    rw [R_n3 h.1, n_le (by omega) (by omega), if_pos (by omega), R_ld1 h.1, st_n (by decide) (by decide)]
    exact ⟨_, rfl, h.w hb1 (h.1.sc1 _), Mo.rf.w hb1⟩
  | succ n ih =>
    intro c N k S A fl st hn hN hk h iv
    obtain ⟨k, rfl⟩ : ∃ q, k = q + 1 := ⟨k - 1, by omega⟩
    have h4 := cnt3 iv
    have hc : c < aN A 3 := by omega
    have h8 := (iv.line0 c hc).1
    have hs : RepR (sB S b1 0) A := h.1
    show ∃ S', pX7_goHour_lb2 b1 (pX7_goHour_l2 b1 k) (nI c) S = some S' ∧ _
    have hB : hourB w (n + 1) c (A, fl, st) = hourB w n (c + 1) (if actC A c = true then driveC c w (A, fl, st) else (A, fl, st)) := rfl
    rw [hB]
    unfold pX7_goHour_lb2
    rw [R_n3 h.1, n_le (by omega) (by omega), if_neg (by omega), m_sizeOf hs hc, cr1_s, n_le0 (by omega)]
    by_cases q : aL A 0 c = []
    · have ha : actC A c = false := by unfold actC; rw [q]; rfl
      rw [if_pos (by rw [q]; rfl), vl_e, nI_add, if_neg (by rw [ha]; simp)]
      exact ih (c + 1) N k S A fl st (by omega) hN (by omega) h iv
    · rw [if_neg (fun z => q (List.length_eq_zero_iff.mp z)), m_there hs hc, cr1_s, bI_0]
      have ha : actC A c = decide (aT A 3 c 0 ≠ aS A 0) := by
        unfold actC
        cases e : aL A 0 c with
        | nil => exact absurd e q
        | cons v r => rfl
      rw [ha]
      by_cases q2 : aT A 3 c 0 = aS A 0
      · rw [if_neg (by rw [decide_eq_true q2]; simp), vl_e, nI_add, if_neg (by simp [q2])]
        exact ih (c + 1) N k S A fl st (by omega) hN (by omega) h iv
      · rw [if_pos (decide_eq_false q2), if_pos (decide_eq_true q2)]
        obtain ⟨S1, e1, r1, o1⟩ := m_drive h hb1 iv st hc
        obtain ⟨k1, k2⟩ := Inv.okDriveC (c := c) (w := w) (X := (A, fl, st)) iv hc
        rw [e1, cr1_s, vl_e, nI_add]
        generalize driveC c w (A, fl, st) = Y at r1 k1 k2 ⊢
        obtain ⟨A', fl', st'⟩ := Y
        have k3 : aN A' = aN A := k2.1
        obtain ⟨S', x1, x2, x3⟩ := ih (c + 1) N k S1 A' fl' st' (by omega) (by rw [k3]; exact hN) (by omega) r1 k1
        exact ⟨S', x1, x2, o1.tr x3⟩
theorem m_hour (h : MR S b1 A w fl) (hb1 : b1 ≠ 0) (iv : Inv A) : ∃ S', pX7_goHour b1 S = some S' ∧ MR S' b1 (hourA w (A, fl)).1 w (hourA w (A, fl)).2.1 ∧ Mo b1 S S' := by
  unfold pX7_goHour
  have h4 := cnt3 iv
  exact m_hour_loop hb1 (aN A 3) 0 (aN A 3) fuel S A fl false (by omega) rfl (by unfold fuel; omega) h iv
end MH4
