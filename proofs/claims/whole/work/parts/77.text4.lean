/-! ===== the text: gates, bays, depots, vehicles ===== -/
theorem sB_sB {S : mM} {a b : Nat} : sB (sB S a) b = sB S (a + b) := by
  funext k
  show S (a + (b + k)) = S (a + b + k)
  rw [Nat.add_assoc]
theorem RepC.cells {S S' : mM} {A : aA} (h : RepC S A) (he : ∀ a, a < 17 → S' a = S a) : RepC S' A := by
  obtain ⟨⟨r1, r2⟩, r3, r4, r5⟩ := h
  exact ⟨⟨by rw [he 0 (by decide)]; exact r1, by rw [he 0 (by decide)]; exact r2⟩, fun k hk => (r3 k hk).ext (he _ (by omega)) (he _ (by omega)), r4.ext (he 11 (by decide)) (he 12 (by decide)) (he 13 (by decide)), r5.ext (he 14 (by decide)) (he 15 (by decide)) (he 16 (by decide))⟩
theorem StatC.cells {S S' : mM} (h : StatC S) (he : ∀ a, a < 17 → S' a = S a) : StatC S' := by
  obtain ⟨h1, h2, h3⟩ := h
  exact ⟨fun k hk => by rw [he _ (by omega)]; exact h1 k hk, by rw [he 11 (by decide)]; exact h2, by rw [he 14 (by decide)]; exact h3⟩
theorem c_len {S : mM} {A : aA} (h : RepC S A) : pX4_length S = some (aS A 0) := by
  unfold pX4_length
  rw [gf_e, h.1.1]
section PARTS
variable {S M : mM} {n p : Nat} {ch : Nat → Nat} {bad : Bool} {A : aA} {L : Nat}
theorem m_demand (h : TM M n ch p bad) (t : Bool) (hp : bad = false → t = false → 0 < p) : ∃ M', pX7_demand (bI t) M = some M' ∧ TM M' n ch (if bad = false ∧ t = false then p - 1 else p) (bad || !t) ∧ Mx M M' := by
  obtain ⟨h1, h2, h3, h4, h5, h6⟩ := id h
  unfold pX7_demand
  rw [gf_e, h4, bI_0]
  cases bad with
  | true =>
    rw [if_pos (by rfl), if_neg (fun z => absurd z.1 (by decide))]
    exact ⟨M, rfl, h, Mx.rf⟩
  | false =>
    rw [if_neg (by decide), bI_0]
    cases t with
    | true =>
      rw [if_neg (by decide), if_neg (by decide)]
      exact ⟨M, rfl, h, Mx.rf⟩
    | false =>
      have h0 := hp rfl rfl
      rw [if_pos rfl, if_pos ⟨rfl, rfl⟩, pz_0, gf_e, sto_j (by decide), h3, pf_e, pk_sub (by omega)]
      exact ⟨_, rfl, h.set true (by omega), (Mx.rf.w (Or.inr rfl)).w (Or.inl rfl)⟩
/-- a kilometer at which there is nothing of the kind yet -/
theorem km_pair {k b1 N : Nat} {a b a' b' : Int32} {Q : Nat → Prop} (hk : k < 3) (hb1 : b1 = 20 + (1 + 2 * k)) (hN : N = aMx k * aCo k) (hs : TC S n ch p bad) (hm : TM M n ch p bad) (rC : RepC (sB S 20) A) (iv : Inv A)
    (ha : bad = false → ∃ l m, a = nI l ∧ b = nI m ∧ a' = nI l ∧ b' = nI m ∧ l ≤ 99 ∧ m ≤ 99 ∧ ∀ x, l ≤ x → x ≤ m → Q x) :
    ∃ v w S' M1 M', pX1_kilometer b1 N a b S = some (v, S') ∧ pX7_two a' b' M = some (w, M1) ∧ Mx M M1 ∧ pX7_demand (bI (decide (rowF (aT A k) w (aN A k) = none))) M1 = some M' ∧ NumR S M S' M' n ch p bad v w (fun x => Q x ∧ rowF (aT A k) (nI x) (aN A k) = none) := by
  obtain ⟨v, w, S1, M1, e1, f1, p1, bad1, t1, u1, o1, x1, g1, z1⟩ := two_pair hs hm ha
  have r1 : RepC (sB S1 20) A := rC.cells (fun a ha => o1 (20 + a) (by omega))
  have er : pX5_rowAt N v (sB S1 b1) = some (oI (rowF (aT A k) v (aN A k))) := by
    rw [hb1, ← sB_sB]
    exact C_rowF r1 iv hk rfl hN v
  unfold pX1_kilometer
  rw [e1, cw2_s, gf_e, t1.2.2.2.2.2, bI_0]
  cases bad1 with
  | true =>
    obtain ⟨M', d1, d2, d3⟩ := m_demand u1 (decide (rowF (aT A k) w (aN A k) = none)) (fun z => absurd z (by decide))
    rw [if_neg (fun z => absurd z.1 (by decide))] at d2
    rw [if_neg (by decide)]
    exact ⟨v, w, S1, M1, M', rfl, f1, x1, d1, p1, true, t1, d2, o1, x1.tr d3, fun z => absurd z (by decide), z1⟩
  | false =>
    obtain ⟨y1, y2, rfl, x, y4, y5⟩ := g1 rfl
    obtain ⟨M', d1, d2, d3⟩ := m_demand u1 (decide (rowF (aT A k) v (aN A k) = none)) (fun _ _ => by omega)
    rw [if_pos rfl, er, cr1_s, oI_N _ (rowF_lt iv (by omega) v)]
    by_cases q : rowF (aT A k) v (aN A k) = none
    · rw [decide_eq_true q] at d1 d2
      rw [if_neg (by decide)] at d2
      rw [if_pos q]
      exact ⟨v, v, S1, M1, M', rfl, f1, x1, by rw [decide_eq_true q]; exact d1, p1, false, t1, d2, o1, x1.tr d3, fun _ => ⟨y1, y2, rfl, x, y4, y5, by rw [← y4]; exact q⟩, z1⟩
    · rw [decide_eq_false q] at d1 d2
      rw [if_pos ⟨rfl, rfl⟩] at d2
      rw [if_neg q, pz_1, gf_e, sto_j (by decide), t1.2.2.2.1, pf_e, pk_sub (by omega)]
      have hp1 := t1.2.2.2.2.1
      exact ⟨v, v, _, M1, M', rfl, f1, x1, by rw [decide_eq_false q]; exact d1, p1 - 1, true, (t1.flag true).at (by omega), d2, Oth.tr o1 Oth.rf.sto.sto, x1.tr d3, fun z => absurd z (by decide), fun z => absurd y1 (by rw [z]; decide)⟩
/-- what a part's reading does on both sides -/
def RdR (S M S' M' : mM) (n : Nat) (ch : Nat → Nat) (p : Nat) (bad : Bool) (L : Nat) : Prop :=
  ∃ p' bad' A', TC S' n ch p' bad' ∧ TM M' n ch p' bad' ∧ RepC (sB S' 20) A' ∧ RepR (M' 2) A' ∧ Inv A' ∧ aS A' 0 = nI L ∧ Dep A' ∧ (∀ a, a ≠ 1 → (a < 20 ∨ 37 ≤ a) → S' a = S a) ∧ (∀ a, a ≠ 0 → a ≠ 2 → M' a = M a) ∧ (∀ j, j ≠ 3 → j ≠ 4 → M' 0 j = M 0 j) ∧ (bad' = false → bad = false ∧ p < p') ∧ (bad = true → p' = p)
/-- a new thing behind what is read -/
theorem rd_new {S' M' T U : mM} {p' : Nat} {A' : aA} (hs : TC S' n ch p' false) (hm : TM M' n ch p' false) (o : Oth 1 S S') (x : Mx M M') (hT : RepC T A') (hU : RepR (U 0) A') (iv : Inv A') (hL : aS A' 0 = nI L) (hD : Dep A') (hb : bad = false) (hp : p < p') : RdR S M (wB S' 20 17 T) (wB M' 2 1 U) n ch p bad L := by
  have k1 : wB S' 20 17 T 1 = S' 1 := wB_out (by omega)
  have k2 : wB S' 20 17 T 2 = S' 2 := wB_out (by omega)
  have j0 : wB M' 2 1 U 0 = M' 0 := wB_out (by omega)
  have j1 : wB M' 2 1 U 1 = M' 1 := wB_out (by omega)
  have j2 : wB M' 2 1 U 2 = U 0 := wB_at (β := 2) (k := 0) (by decide)
  refine ⟨p', false, A', ?_, ?_, hT.cells (fun a ha => wB_at ha), by rw [j2]; exact hU, iv, hL, hD, fun a h1 h2 => (wB_out (by omega)).trans (o a h1), fun a h1 h2 => (wB_out (by omega)).trans (x.1 a h1), fun j h3 h4 => by rw [j0]; exact x.2 j h3 h4, fun _ => ⟨hb, hp⟩, fun z => absurd hb (by rw [z]; decide)⟩
  · obtain ⟨a1, a2, a3, a4, a5, a6⟩ := hs
    exact ⟨by rw [k1]; exact a1, a2, fun i hi => by rw [k2]; exact a3 i hi, by rw [k1]; exact a4, a5, by rw [k1]; exact a6⟩
  · obtain ⟨a1, a2, a3, a4, a5, a6⟩ := hm
    exact ⟨by rw [j0]; exact a1, fun i hi => by rw [j1]; exact a2 i hi, by rw [j0]; exact a3, by rw [j0]; exact a4, a5, a6⟩
theorem rd_bad {S' M' : mM} {p' : Nat} (hs : TC S' n ch p' true) (hm : TM M' n ch p' true) (o : Oth 1 S S') (x : Mx M M') (rC : RepC (sB S 20) A) (rM : RepR (M 2) A) (iv : Inv A) (hL : aS A 0 = nI L) (hD : Dep A) (hb : bad = true → p' = p) : RdR S M S' M' n ch p bad L :=
  ⟨p', true, A, hs, hm, rC.cells (fun a ha => o (20 + a) (by omega)), by rw [x.1 2 (by decide)]; exact rM, iv, hL, hD, fun a h1 _ => o a h1, fun a h1 _ => x.1 a h1, x.2, fun z => absurd z (by decide), hb⟩
theorem rowF_no {f : Nat → Nat → Int32} {x : Int32} : ∀ {m : Nat}, rowF f x m = none → ∀ i, i < m → f i 0 ≠ x := by
  intro m
  induction m with
  | zero => intro _ i hi; omega
  | succ m ih =>
    intro h i hi
    unfold rowF at h
    by_cases q : f m 0 = x
    · rw [if_pos q] at h
      cases h
    · rw [if_neg q] at h
      by_cases z : i = m
      · rw [z]
        exact q
      · exact ih h i (by omega)
theorem bay_pair {M0 : mM} {t : Int32} (ht : pX7_accept t M0 = some M) (hs : TC S n ch p bad) (hm : TM M n ch p bad) (rC : RepC (sB S 20) A) (rM : RepR (M 2) A) (iv : Inv A) (hL : aS A 0 = nI L) (hD : Dep A) (h1 : 10 ≤ L) (h2 : L ≤ 60) (hf : bad = false → aN A 1 < 6) :
    ∃ S' M', pX1_readBay S = some S' ∧ pX7_readBay_b17 t M0 = some M' ∧ RdR S M S' M' n ch p bad L := by
  unfold pX1_readBay pX7_readBay_b17
  rw [ht, cr1_s, R_ld0 rM, hL, c_len rC, hL, cr1_s, pk_sub (by omega)]
  obtain ⟨v, w, S1, M1, M2, e1, f1, x1, d1, p1, bad1, t1, u1, o1, y1, g1, z1⟩ := km_pair (k := 1) (b1 := 23) (N := 12) (a := nI 1) (b := nI (L - 1)) (a' := nI 1) (b' := nI (L - 1)) (Q := fun x => x ≤ L - 1) (by decide) rfl rfl hs hm rC iv (fun _ => ⟨1, L - 1, rfl, rfl, rfl, rfl, by decide, by omega, fun x _ h => h⟩)
  rw [e1, cw2_s, f1, cw2_s]
  have rM1 : RepR (sB M1 2 0) A := by
    show RepR (M1 2) A
    rw [x1.1 2 (by decide)]
    exact rM
  have eb : (if oI (rowF (aT A 1) w (aN A 1)) = -9 then pX7_readBay_b53 w (nI 1) M1 else pX7_readBay_b53 w (nI 0) M1) = pX7_readBay_b53 w (bI (decide (rowF (aT A 1) w (aN A 1) = none))) M1 := by
    rw [oI_N _ (rowF_lt iv (by decide) w)]
    by_cases q : rowF (aT A 1) w (aN A 1) = none
    · rw [if_pos q, decide_eq_true q]
      rfl
    · rw [if_neg q, decide_eq_false q]
      rfl
  rw [m_bayOn rM1, cr1_s, eb]
  unfold pX7_readBay_b53
  rw [d1, cr1_s]
  obtain ⟨v2, w2, S2, M3, e2, f2, p2, bad2, t2, u2, o2, y2, g2, z2⟩ := one_pair (a := nI 1) (b := nI 6) (a' := nI 1) (b' := nI 6) (Q := fun x => 1 ≤ x ∧ x ≤ 6) t1 u1 (fun _ => ⟨1, 6, rfl, rfl, rfl, rfl, by decide, by decide, fun x h h' => ⟨h, h'⟩⟩)
  rw [e2, cw2_s, f2, cw2_s, gf_e, gf_e, t2.2.2.2.2.2, u2.2.2.2.1, bI_0, bI_0]
  cases bad2 with
  | true =>
    rw [if_neg (by decide), if_pos (by rfl)]
    refine ⟨S2, M3, rfl, rfl, rd_bad t2 u2 (Oth.tr o1 o2) (y1.tr y2) rC rM iv hL hD (fun z => ?_)⟩
    rw [← z1 z]
    refine z2 ?_
    cases bad1 with
    | true => rfl
    | false => exact absurd (g1 rfl).1 (by rw [z]; decide)
  | false =>
    obtain ⟨a1, a2, rfl, x, a4, a5, a6⟩ := g2 rfl
    obtain ⟨b1, b2, rfl, y, b4, b5, b6⟩ := g1 a1
    rw [if_pos rfl, if_neg (by decide)]
    have hf' := hf b1
    have rC2 : RepC (sB S2 20) A := rC.cells (fun a ha => (Oth.tr o1 o2) (20 + a) (by omega))
    have rM2 : RepR (sB M3 2 0) A := by
      show RepR (M3 2) A
      rw [(y1.tr y2).1 2 (by decide)]
      exact rM
    obtain ⟨T, c1, c2, _⟩ := c_newBay rC2 hf' v v2
    obtain ⟨U, m1, m2, _⟩ := m_addBay rM2 iv hf' v v2
    rw [c1, cws_s, m1, cvs_s]
    refine ⟨_, _, rfl, rfl, rd_new t2 u2 (Oth.tr o1 o2) (y1.tr y2) c2 m2 (iv.new hf' (fun _ i hi => rowF_no b6 i hi |> fun z => by rw [b4]; exact z) (fun z => absurd z (by decide)) (fun _ => ⟨⟨x, a4, a5, a6⟩, ?_⟩) (fun z => absurd z (by decide)) (fun z => absurd z (by decide))) hL (hD.new (fun z => absurd z (by decide))) b1 (by omega)⟩
    show v ≠ aS A 0
    rw [b4, hL, Ne, P_eq (by omega) (by omega)]
    omega
theorem depot_pair {M0 : mM} {t : Int32} (ht : pX7_accept t M0 = some M) (hs : TC S n ch p bad) (hm : TM M n ch p bad) (rC : RepC (sB S 20) A) (rM : RepR (M 2) A) (iv : Inv A) (hL : aS A 0 = nI L) (hD : Dep A) (h1 : 10 ≤ L) (h2 : L ≤ 60) (hf : bad = false → aN A 2 < 4) :
    ∃ S' M', pX1_readDepot S = some S' ∧ pX7_readDepot_b16 t M0 = some M' ∧ RdR S M S' M' n ch p bad L := by
  unfold pX1_readDepot pX7_readDepot_b16
  rw [ht, cr1_s, R_ld0 rM, hL, c_len rC, hL, cr1_s]
  obtain ⟨v, w, S1, M1, M2, e1, f1, x1, d1, p1, bad1, t1, u1, o1, y1, g1, z1⟩ := km_pair (k := 2) (b1 := 25) (N := 8) (a := nI 0) (b := nI L) (a' := nI 0) (b' := nI L) (Q := fun x => x ≤ L) (by decide) rfl rfl hs hm rC iv (fun _ => ⟨0, L, rfl, rfl, rfl, rfl, by decide, by omega, fun x _ h => h⟩)
  rw [e1, cw2_s, f1, cw2_s]
  have rM1 : RepR (sB M1 2 0) A := by
    show RepR (M1 2) A
    rw [x1.1 2 (by decide)]
    exact rM
  have eb : (if oI (rowF (aT A 2) w (aN A 2)) = -9 then pX7_readDepot_b50 w (nI 1) M1 else pX7_readDepot_b50 w (nI 0) M1) = pX7_readDepot_b50 w (bI (decide (rowF (aT A 2) w (aN A 2) = none))) M1 := by
    rw [oI_N _ (rowF_lt iv (by decide) w)]
    by_cases q : rowF (aT A 2) w (aN A 2) = none
    · rw [if_pos q, decide_eq_true q]
      rfl
    · rw [if_neg q, decide_eq_false q]
      rfl
  rw [m_depotOn rM1, cr1_s, eb]
  unfold pX7_readDepot_b50
  rw [d1, cr1_s]
  obtain ⟨v2, w1, w2, S2, M3, M4, e2, f2, f3, p2, bad2, t2, u2, o2, y2, g2, z2⟩ := three_pair t1 u1
  rw [e2, cw2_s, f2, cw2_s, f3, cw2_s, vl_e, gf_e, gf_e, t2.2.2.2.2.2, u2.2.2.2.1, bI_0, bI_0]
  cases bad2 with
  | true =>
    rw [if_neg (by decide), if_pos (by rfl)]
    refine ⟨S2, M4, rfl, rfl, rd_bad t2 u2 (Oth.tr o1 o2) (y1.tr y2) rC rM iv hL hD (fun z => ?_)⟩
    rw [← z1 z]
    refine z2 ?_
    cases bad1 with
    | true => rfl
    | false => exact absurd (g1 rfl).1 (by rw [z]; decide)
  | false =>
    obtain ⟨a1, a2, a3, x, a4, a5⟩ := g2 rfl
    obtain ⟨b1, b2, rfl, y, b4, b5, b6⟩ := g1 a1
    rw [if_pos rfl, if_neg (by decide), ← a3]
    have hf' := hf b1
    have rC2 : RepC (sB S2 20) A := rC.cells (fun a ha => (Oth.tr o1 o2) (20 + a) (by omega))
    have rM2 : RepR (sB M4 2 0) A := by
      show RepR (M4 2) A
      rw [(y1.tr y2).1 2 (by decide)]
      exact rM
    obtain ⟨T, c1, c2, _⟩ := c_newDepot rC2 hf' v v2
    obtain ⟨U, m1, m2, _⟩ := m_addDepot rM2 hf' v v2
    rw [c1, cws_s, m1, cvs_s]
    have a5' : x ≤ 999 := a5
    exact ⟨_, _, rfl, rfl, rd_new t2 u2 (Oth.tr o1 o2) (y1.tr y2) c2 m2 (iv.new hf' (fun _ i hi => rowF_no b6 i hi |> fun z => by rw [b4]; exact z) (fun z => absurd z (by decide)) (fun z => absurd z (by decide)) (fun _ => ⟨x, a4, Nat.lt_of_le_of_lt a5' (by decide)⟩) (fun z => absurd z (by decide))) hL (hD.new (fun _ => ⟨x, a4, a5'⟩)) b1 (by omega)⟩
theorem gate_pair {M0 : mM} {t : Int32} (ht : pX7_accept t M0 = some M) (hs : TC S n ch p bad) (hm : TM M n ch p bad) (rC : RepC (sB S 20) A) (rM : RepR (M 2) A) (iv : Inv A) (hL : aS A 0 = nI L) (hD : Dep A) (h1 : 10 ≤ L) (h2 : L ≤ 60) (hf : bad = false → aN A 0 < 4) :
    ∃ S' M', pX1_readGate S = some S' ∧ pX7_readGate_b16 t M0 = some M' ∧ RdR S M S' M' n ch p bad L := by
  unfold pX1_readGate pX7_readGate_b16
  rw [ht, cr1_s, R_ld0 rM, hL, c_len rC, hL, cr1_s, pk_sub (by omega)]
  obtain ⟨v, w, S1, M1, M2, e1, f1, x1, d1, p1, bad1, t1, u1, o1, y1, g1, z1⟩ := km_pair (k := 0) (b1 := 21) (N := 16) (a := nI 1) (b := nI (L - 1)) (a' := nI 1) (b' := nI (L - 1)) (Q := fun x => x ≤ L - 1) (by decide) rfl rfl hs hm rC iv (fun _ => ⟨1, L - 1, rfl, rfl, rfl, rfl, by decide, by omega, fun x _ h => h⟩)
  rw [e1, cw2_s, f1, cw2_s]
  have rM1 : RepR (sB M1 2 0) A := by
    show RepR (M1 2) A
    rw [x1.1 2 (by decide)]
    exact rM
  have eb : (if oI (rowF (aT A 0) w (aN A 0)) = -9 then pX7_readGate_b52 w (nI 1) M1 else pX7_readGate_b52 w (nI 0) M1) = pX7_readGate_b52 w (bI (decide (rowF (aT A 0) w (aN A 0) = none))) M1 := by
    rw [oI_N _ (rowF_lt iv (by decide) w)]
    by_cases q : rowF (aT A 0) w (aN A 0) = none
    · rw [if_pos q, decide_eq_true q]
      rfl
    · rw [if_neg q, decide_eq_false q]
      rfl
  rw [m_gateOn rM1, cr1_s, eb]
  unfold pX7_readGate_b52
  rw [d1, cr1_s]
  obtain ⟨v2, w2, S2, M3, e2, f2, p2, bad2, t2, u2, o2, y2, g2, z2⟩ := two_pair (a := nI 2) (b := nI 24) (a' := nI 2) (b' := nI 24) (Q := fun x => 2 ≤ x ∧ x ≤ 24) t1 u1 (fun _ => ⟨2, 24, rfl, rfl, rfl, rfl, by decide, by decide, fun x h h' => ⟨h, h'⟩⟩)
  rw [e2, cw2_s, f2, cw2_s]
  have hq : bad2 = false → ∃ l m, nI 0 = nI l ∧ v2 - nI 1 = nI m ∧ nI 0 = nI l ∧ w2 - nI 1 = nI m ∧ l ≤ 99 ∧ m ≤ 99 ∧ ∀ x, l ≤ x → x ≤ m → (∃ per, v2 = nI per ∧ 2 ≤ per ∧ per ≤ 24 ∧ x < per) := fun z => by
    obtain ⟨_, _, rfl, x, a4, a5, a6⟩ := g2 z
    exact ⟨0, x - 1, rfl, by rw [a4, pk_sub (by omega)], rfl, by rw [a4, pk_sub (by omega)], by decide, by omega, fun y _ hy => ⟨x, a4, a5, a6, by omega⟩⟩
  obtain ⟨v3, w3, S3, M4, e3, f3, p3, bad3, t3, u3, o3, y3, g3, z3⟩ := two_pair (a := nI 0) (b := v2 - nI 1) (a' := nI 0) (b' := w2 - nI 1) t2 u2 hq
  rw [e3, cw2_s, f3, cw2_s]
  obtain ⟨v4, w4, S4, M5, e4, f4, p4, bad4, t4, u4, o4, y4, g4, z4⟩ := two_pair (a := nI 0) (b := v2 - nI 1) (a' := nI 0) (b' := w2 - nI 1) t3 u3 (fun z => hq (g3 z).1)
  rw [e4, cw2_s, f4, cw2_s, gf_e, gf_e, t4.2.2.2.2.2, u4.2.2.2.1, bI_0, bI_0]
  have oo := Oth.tr o1 (Oth.tr o2 (Oth.tr o3 o4))
  have yy := y1.tr (y2.tr (y3.tr y4))
  cases bad4 with
  | true =>
    rw [if_neg (by decide), if_pos (by rfl)]
    refine ⟨S4, M5, rfl, rfl, rd_bad t4 u4 oo yy rC rM iv hL hD (fun z => ?_)⟩
    have q1 : bad1 = true := by
      cases bad1 with
      | true => rfl
      | false => exact absurd (g1 rfl).1 (by rw [z]; decide)
    have q2 : bad2 = true := by
      cases bad2 with
      | true => rfl
      | false => exact absurd (g2 rfl).1 (by rw [q1]; decide)
    have q3 : bad3 = true := by
      cases bad3 with
      | true => rfl
      | false => exact absurd (g3 rfl).1 (by rw [q2]; decide)
    rw [z4 q3, z3 q2, z2 q1, z1 z]
  | false =>
    obtain ⟨c1, c2, rfl, x4, c4, c5⟩ := g4 rfl
    obtain ⟨r1, r2, rfl, x3, r4, per, r5, r6, r7, r8⟩ := g3 c1
    obtain ⟨a1, a2, rfl, x, a4, a5⟩ := g2 r1
    obtain ⟨b1, b2, rfl, y, b4, b5, b6⟩ := g1 a1
    rw [if_pos rfl, if_neg (by decide)]
    have hf' := hf b1
    have rC2 : RepC (sB S4 20) A := rC.cells (fun a ha => oo (20 + a) (by omega))
    have rM2 : RepR (sB M5 2 0) A := by
      show RepR (M5 2) A
      rw [yy.1 2 (by decide)]
      exact rM
    obtain ⟨T, k1, k2, _⟩ := c_newGate rC2 hf' v v2 v3 v4
    obtain ⟨U, m1, m2, _⟩ := m_addGate rM2 hf' v v2 v3 v4
    rw [k1, cws_s, m1, cvs_s]
    exact ⟨_, _, rfl, rfl, rd_new t4 u4 oo yy k2 m2 (iv.new hf' (fun _ i hi => rowF_no b6 i hi |> fun z => by rw [b4]; exact z) (fun _ => ⟨per, x3, r5, r6, r7, r4, r8⟩) (fun z => absurd z (by decide)) (fun z => absurd z (by decide)) (fun z => absurd z (by decide))) hL (hD.new (fun z => absurd z (by decide))) b1 (by omega)⟩
end PARTS
