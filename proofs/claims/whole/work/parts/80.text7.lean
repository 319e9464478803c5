/-! ===== the text: read to its end ===== -/
/-- what holds of every road that is kept -/
def okA (A : aA) : Prop := Inv A ∧ ∃ L, aS A 0 = nI L ∧ 10 ≤ L ∧ L ≤ 60 ∧ Dep A
section TEXTEND
variable {S M : mM} {n : Nat} {ch : Nat → Nat}
/-- what the reading of a text does on both sides -/
def RdT (S M S' M' : mM) (n : Nat) (ch : Nat → Nat) (r : Int32) : Prop :=
  ∃ p bad, TC S' n ch p bad ∧ TM M' n ch p bad ∧ StatC (sB S' 20) ∧ (∀ a, a ≠ 1 → (a < 20 ∨ 37 ≤ a) → S' a = S a) ∧ (∀ a, a ≠ 0 → a ≠ 2 → M' a = M a) ∧ (∀ j, j ≠ 3 → j ≠ 4 → M' 0 j = M 0 j) ∧ (r = -9 → ∃ A, RepC (sB S' 20) A ∧ RepR (M' 2) A ∧ okA A)
theorem c_b93 {p : Nat} {bad : Bool} (hs : TC S n ch p bad) : pX1_readInto_b93 S = some (if bad = true then nI p else -9, S) := by
  unfold pX1_readInto_b93
  rw [gf_e, hs.2.2.2.2.2, bI_0]
  cases bad with
  | true => rw [if_neg (by decide), gf_e, hs.2.2.2.1, if_pos rfl]
  | false => rw [if_pos rfl, if_neg (by decide)]
theorem m_b174 {p : Nat} {bad : Bool} (hm : TM M n ch p bad) : pX7_readText_b174 M = some (if bad = true then nI p else -9, M) := by
  unfold pX7_readText_b174
  rw [gf_e, hm.2.2.2.1, bI_0]
  cases bad with
  | true => rw [if_pos (by rfl), gf_e, hm.2.2.1, if_pos rfl]
  | false => rw [if_neg (by decide), if_neg (by decide)]
theorem text_loop {L : Nat} (h1 : 10 ≤ L) (h2 : L ≤ 60) : ∀ (m i k k' : Nat) (S M : mM) (p : Nat) (bad : Bool), i + m = 140 → m < k → m < k' → TC S n ch p bad → TM M n ch p bad → StatC (sB S 20) → (bad = false → i ≤ p ∧ ∃ A, RepC (sB S 20) A ∧ RepR (M 2) A ∧ Inv A ∧ aS A 0 = nI L ∧ Dep A) →
    ∃ S' M' r, pX1_readInto_l57 k (nI i) S = some (r, S') ∧ pX7_readText_l56 k' M = some (r, M') ∧ RdT S M S' M' n ch r := by
  intro m
  induction m with
  | zero =>
    intro i k k' S M p bad hi hk hk' hs hm st hg
    obtain ⟨k, rfl⟩ : ∃ z, k = z + 1 := ⟨k - 1, by omega⟩
    obtain ⟨k', rfl⟩ : ∃ z, k' = z + 1 := ⟨k' - 1, by omega⟩
    obtain rfl : i = 140 := by omega
    refine ⟨S, M, (if bad = true then nI p else -9), ?_, ?_, p, bad, hs, hm, st, fun _ _ _ => rfl, fun _ _ _ => rfl, fun _ _ _ => rfl, fun z => ?_⟩
    · rw [show pX1_readInto_l57 (k + 1) (nI 140) S = pX1_readInto_lb57 (pX1_readInto_l57 k) (nI 140) S from rfl]
      unfold pX1_readInto_lb57
      rw [if_pos (Int32.le_refl _), c_b93 hs]
    · rw [show pX7_readText_l56 (k' + 1) M = pX7_readText_lb56 (pX7_readText_l56 k') M from rfl]
      unfold pX7_readText_lb56
      rw [gf_e, hm.2.2.2.1, bI_0]
      cases bad with
      | true => rw [if_pos (by rfl), m_b174 hm]
      | false =>
        have hp := (hg rfl).1
        have hn := hs.2.1
        have hpn := hs.2.2.2.2.1
        rw [if_neg (by decide), gf_e, gf_e, hm.1, hm.2.2.1, n_le (by omega) (by omega), if_pos (by omega), m_b174 hm]
    · cases bad with
      | true =>
        have hn := hs.2.1
        have hpn := hs.2.2.2.2.1
        rw [if_pos rfl, P_eqN (by omega)] at z
        exact z.elim
      | false =>
        obtain ⟨_, A, r1, r2, r3, r4, rD⟩ := hg rfl
        exact ⟨A, r1, r2, r3, L, r4, h1, h2, rD⟩
  | succ m ih =>
    intro i k k' S M p bad hi hk hk' hs hm st hg
    obtain ⟨k, rfl⟩ : ∃ z, k = z + 1 := ⟨k - 1, by omega⟩
    obtain ⟨k', rfl⟩ : ∃ z, k' = z + 1 := ⟨k' - 1, by omega⟩
    have hn := hs.2.1
    have hpn := hs.2.2.2.2.1
    cases bad with
    | true =>
      refine ⟨S, M, nI p, ?_, ?_, p, true, hs, hm, st, fun _ _ _ => rfl, fun _ _ _ => rfl, fun _ _ _ => rfl, fun z => ?_⟩
      · rw [show pX1_readInto_l57 (k + 1) (nI i) S = pX1_readInto_lb57 (pX1_readInto_l57 k) (nI i) S from rfl]
        unfold pX1_readInto_lb57
        rw [n_le (by decide) (by omega), if_neg (by omega), gf_e, gf_e, hs.1, hs.2.2.2.1, n_le (by omega) (by omega), gf_e, hs.2.2.2.2.2, bI_0, c_b93 hs, if_pos rfl]
        by_cases q : n ≤ p
        · rw [if_pos q]
        · rw [if_neg q, if_neg (by decide)]
      · rw [show pX7_readText_l56 (k' + 1) M = pX7_readText_lb56 (pX7_readText_l56 k') M from rfl]
        unfold pX7_readText_lb56
        rw [gf_e, hm.2.2.2.1, bI_0, if_pos (by rfl), m_b174 hm, if_pos rfl]
      · rw [P_eqN (by omega)] at z
        exact z.elim
    | false =>
      obtain ⟨hp, A, r1, r2, r3, r4, rD⟩ := hg rfl
      rw [show pX1_readInto_l57 (k + 1) (nI i) S = pX1_readInto_lb57 (pX1_readInto_l57 k) (nI i) S from rfl, show pX7_readText_l56 (k' + 1) M = pX7_readText_lb56 (pX7_readText_l56 k') M from rfl]
      by_cases q : p < n
      · obtain ⟨S1, M1, e1, f1, p1, bad1, t1, u1, st1, c1, m1, m2, g1⟩ := part_pair (pX7_readText_l56 k') hs hm q r1 r2 r3 r4 rD h1 h2
        obtain ⟨S', M', r, e2, f2, p2, bad2, t2, u2, st2, c2, m3, m4, g2⟩ := ih (i + 1) k k' S1 M1 p1 bad1 (by omega) (by omega) (by omega) t1 u1 st1 (fun z => ⟨by have := (g1 z).1; omega, (g1 z).2⟩)
        refine ⟨S', M', r, ?_, f1.trans f2, p2, bad2, t2, u2, st2, fun a h3 h4 => (c2 a h3 h4).trans (c1 a h3 h4), fun a h3 h4 => (m3 a h3 h4).trans (m1 a h3 h4), fun j h3 h4 => (m4 j h3 h4).trans (m2 j h3 h4), g2⟩
        unfold pX1_readInto_lb57
        rw [n_le (by decide) (by omega), if_neg (by omega), gf_e, gf_e, hs.1, hs.2.2.2.1, n_le (by omega) (by omega), if_neg (by omega), gf_e, hs.2.2.2.2.2, bI_0, if_pos rfl, e1, cr1_s, vl_e, nI_add, e2]
      · refine ⟨S, M, -9, ?_, ?_, p, false, hs, hm, st, fun _ _ _ => rfl, fun _ _ _ => rfl, fun _ _ _ => rfl, fun _ => ⟨A, r1, r2, r3, L, r4, h1, h2, rD⟩⟩
        · unfold pX1_readInto_lb57
          rw [n_le (by decide) (by omega), gf_e, gf_e, hs.1, hs.2.2.2.1, n_le (by omega) (by omega), if_pos (show n ≤ p by omega), c_b93 hs]
          by_cases z : 140 ≤ i
          · rw [if_pos z, if_neg (by decide)]
          · rw [if_neg z, if_neg (by decide)]
        · unfold pX7_readText_lb56
          rw [gf_e, hm.2.2.2.1, bI_0, if_neg (by decide), gf_e, gf_e, hm.1, hm.2.2.1, n_le (by omega) (by omega), if_pos (by omega), m_b174 hm, if_neg (by decide)]
theorem m_zero : ∀ (m i k : Nat) (M : mM), i + m = 250 → m < k → ∃ M', pX7_readText_l12 k (nI i) M = pX7_readText_l12 1 (nI 250) M' ∧ (∀ a, a ≠ 2 → M' a = M a) ∧ ∀ q, M' 2 q = if i ≤ q ∧ q < 250 then nI 0 else M 2 q := by
  intro m
  induction m with
  | zero =>
    intro i k M hi hk
    obtain ⟨k, rfl⟩ : ∃ z, k = z + 1 := ⟨k - 1, by omega⟩
    obtain rfl : i = 250 := by omega
    refine ⟨M, ?_, fun _ _ => rfl, fun q => by rw [if_neg (by omega)]⟩
    rw [show pX7_readText_l12 (k + 1) (nI 250) M = pX7_readText_lb12 (pX7_readText_l12 k) (nI 250) M from rfl, show pX7_readText_l12 1 (nI 250) M = pX7_readText_lb12 (pX7_readText_l12 0) (nI 250) M from rfl]
    unfold pX7_readText_lb12
    rw [if_pos (Int32.le_refl _), if_pos (Int32.le_refl _)]
  | succ m ih =>
    intro i k M hi hk
    obtain ⟨k, rfl⟩ : ∃ z, k = z + 1 := ⟨k - 1, by omega⟩
    obtain ⟨M', e1, e2, e3⟩ := ih (i + 1) k (sto M 2 i (nI 0)) (by omega) (by omega)
    refine ⟨M', ?_, fun a ha => by rw [e2 a ha, sto_k ha], fun q => ?_⟩
    · rw [← e1, show pX7_readText_l12 (k + 1) (nI i) M = pX7_readText_lb12 (pX7_readText_l12 k) (nI i) M from rfl]
      unfold pX7_readText_lb12
      rw [n_le (by decide) (by omega), if_neg (by omega), st_n (by omega) (by decide), vl_e, nI_add]
    · rw [e3]
      by_cases z : i + 1 ≤ q ∧ q < 250
      · rw [if_pos z, if_pos (by omega)]
      · rw [if_neg z]
        by_cases y : q = i
        · subst y
          rw [sto_i, if_pos (by omega)]
        · rw [sto_j y, if_neg (by omega)]
/-- the whole text -/
theorem text_pair (hc : S 1 1 = nI n ∧ n ≤ 140 ∧ (∀ i, i < n → S 2 i = nI (ch i) ∧ ch i < 256) ∧ ∃ b, S 1 3 = bI b) (hm : M 0 2 = nI n ∧ (∀ i, i < n → M 1 i = nI (ch i) ∧ ch i < 256)) (sta : StatC (sB S 20)) :
    ∃ S' M' r, pX1_readInto S = some (r, S') ∧ pX7_readText M = some (r, M') ∧ RdT S M S' M' n ch r := by
  obtain ⟨a1, a2, a3, b, a4⟩ := hc
  have hs0 : TC (sto S 1 2 (nI 0)) n ch 0 b := ⟨by rw [sto_j (by decide)]; exact a1, a2, fun i hi => by rw [sto_k (by decide)]; exact a3 i hi, sto_i _ _ _ _, Nat.zero_le _, by rw [sto_j (by decide)]; exact a4⟩
  have o0 : Oth 1 S (sto S 1 2 (nI 0)) := Oth.rf.sto
  -- the class as far as the number
  have hC : ∃ S1, pX1_readInto S = pX1_readInto_b40 S1 ∧ Oth 1 S S1 ∧ TC S1 n ch (if 0 < n ∧ ch 0 = 87 then 1 else 0) (!decide (0 < n ∧ ch 0 = 87)) := by
    unfold pX1_readInto
    rw [pf_e, c_sign hs0, cr1_s]
    by_cases q : 0 < n ∧ ch 0 = 87
    · rw [if_pos q, decide_eq_true q, if_pos q.1, q.2, if_pos rfl]
      unfold pX1_readInto_b20
      rw [pz_0, gf_e, sto_i, if_pos (by decide), gf_e, sto_j (by decide), sto_i, pf_e, nI_add]
      exact ⟨_, rfl, o0.sto.sto, (hs0.flag false).at (by omega)⟩
    · have e : ∀ x y : Option (Int32 × mM), (if (if 0 < n then nI (ch 0) else -9) = nI 87 then x else y) = y := fun x y => by
        by_cases z : 0 < n
        · have hc0 := (a3 0 z).2
          rw [if_pos z, n_eq (by omega) (by decide), if_neg (fun w => q ⟨z, w⟩)]
        · rw [if_neg z, if_neg (by decide)]
      rw [e, if_neg q, decide_eq_false q]
      unfold pX1_readInto_b20
      rw [pz_1, gf_e, sto_i, if_neg (by decide)]
      exact ⟨_, rfl, o0.sto, hs0.flag true⟩
  obtain ⟨S1, c1, c2, c3⟩ := hC
  -- the reference
  have hM : ∃ M1, pX7_readText M = (cw2 (pX7_two (nI 10) (nI 60) M1) fun v52 S52 => st S52 2 250 (nI 0) v52 fun S55 => pX7_readText_l56 fuel S55) ∧ TM M1 n ch (if 0 < n ∧ ch 0 = 87 then 1 else 0) (!decide (0 < n ∧ ch 0 = 87)) ∧ (∀ a, a ≠ 0 → a ≠ 2 → M1 a = M a) ∧ (∀ j, j ≠ 3 → j ≠ 4 → M1 0 j = M 0 j) ∧ ∀ q, q < 250 → M1 2 q = nI 0 := by
    unfold pX7_readText
    rw [pf_e, pz_1]
    obtain ⟨M2, e1, e2, e3⟩ := m_zero 250 0 fuel (sto (sto M 0 3 (nI 0)) 0 4 (nI 1)) rfl (by decide)
    have hm0 : TM M2 n ch 0 false := ⟨by rw [e2 0 (by decide), sto_j (by decide), sto_j (by decide)]; exact hm.1, fun i hi => by rw [e2 1 (by decide), sto_k (by decide), sto_k (by decide)]; exact hm.2 i hi, by rw [e2 0 (by decide), sto_j (by decide), sto_i], by rw [e2 0 (by decide), sto_i]; rfl, a2, Nat.zero_le _⟩
    obtain ⟨M1, f1, f2, f3⟩ := m_accept hm0 (decide (0 < n ∧ ch 0 = 87)) (fun _ z => (of_decide_eq_true z).1)
    refine ⟨M1, ?_, ?_, fun a h3 h4 => by rw [f3.1 a h3, e2 a h4, sto_k h3, sto_k h3], fun j h3 h4 => by rw [f3.2 j h3 h4, e2 0 (by decide), sto_j h4, sto_j h3], fun q hq => by rw [f3.1 2 (by decide), e3, if_pos ⟨Nat.zero_le _, hq⟩]⟩
    · rw [e1, show pX7_readText_l12 1 (nI 250) M2 = pX7_readText_lb12 (pX7_readText_l12 0) (nI 250) M2 from rfl]
      unfold pX7_readText_lb12
      rw [if_pos (Int32.le_refl _), m_isNext hm0 (by decide), cr1_s, f1, cr1_s]
    · by_cases q : 0 < n ∧ ch 0 = 87
      · rw [decide_eq_true q, if_pos ⟨rfl, rfl⟩] at f2
        rw [decide_eq_true q, if_pos q]
        exact f2
      · rw [decide_eq_false q, if_neg (fun z => absurd z.2 (by decide))] at f2
        rw [decide_eq_false q, if_neg q]
        exact f2
  obtain ⟨M1, d1, d2, d3, d4, d5⟩ := hM
  obtain ⟨v, w, S2, M2, e1, f1, p2, bad2, t2, u2, o2, x2, g2, _⟩ := two_pair (a := nI 10) (b := nI 60) (a' := nI 10) (b' := nI 60) (Q := fun x => 10 ≤ x ∧ x ≤ 60) c3 d2 (fun _ => ⟨10, 60, rfl, rfl, rfl, rfl, by decide, by decide, fun x h h' => ⟨h, h'⟩⟩)
  have oo : Oth 1 S S2 := Oth.tr c2 o2
  have st2 : StatC (sB S2 20) := sta.cells (fun a ha => oo (20 + a) (by omega))
  obtain ⟨T, b1, b2, _⟩ := c_begin st2 v
  rw [c1, d1, f1, cw2_s, st_n (j := 0) (by decide) (by decide)]
  unfold pX1_readInto_b40
  rw [e1, cw2_s, b1, cvs_s]
  have k1 : wB S2 20 17 T 1 = S2 1 := wB_out (by omega)
  have k2 : wB S2 20 17 T 2 = S2 2 := wB_out (by omega)
  have rC : RepC (sB (wB S2 20 17 T) 20) (emA v) := b2.cells (fun a ha => wB_at ha)
  have tC : TC (wB S2 20 17 T) n ch p2 bad2 := by
    obtain ⟨h1, h2, h3, h4, h5, h6⟩ := t2
    exact ⟨by rw [k1]; exact h1, h2, fun i hi => by rw [k2]; exact h3 i hi, by rw [k1]; exact h4, h5, by rw [k1]; exact h6⟩
  have tM : TM (sto M2 2 0 w) n ch p2 bad2 := by
    obtain ⟨h1, h2, h3, h4, h5, h6⟩ := u2
    exact ⟨by rw [sto_k (by decide)]; exact h1, fun i hi => by rw [sto_k (by decide)]; exact h2 i hi, by rw [sto_k (by decide)]; exact h3, by rw [sto_k (by decide)]; exact h4, h5, h6⟩
  have fin : ∀ L, 10 ≤ L → L ≤ 60 → (bad2 = false → v = nI L ∧ w = nI L) → ∃ S' M' r, pX1_readInto_l57 fuel (nI 0) (wB S2 20 17 T) = some (r, S') ∧ pX7_readText_l56 fuel (sto M2 2 0 w) = some (r, M') ∧ RdT S M S' M' n ch r := fun L hL1 hL2 hv => by
    obtain ⟨S', M', r, y1, y2, p3, bad3, y3, y4, y5, y6, y7, y8, y9⟩ := text_loop (L := L) hL1 hL2 140 0 fuel fuel (wB S2 20 17 T) (sto M2 2 0 w) p2 bad2 rfl (by decide) (by decide) tC tM rC.stat (fun z => ⟨Nat.zero_le _, emA v, rC, emA_row (by rw [sto_i, (hv z).1, (hv z).2]) (fun q h3 h4 => by rw [sto_j (by omega), x2.1 2 (by decide)]; exact d5 q h4), emA_inv v, (hv z).1, emA_dep v⟩)
    exact ⟨S', M', r, y1, y2, p3, bad3, y3, y4, y5, fun a h3 h4 => (y6 a h3 h4).trans ((wB_out (by omega)).trans (oo a h3)), fun a h3 h4 => (y7 a h3 h4).trans ((sto_k h4 ▸ rfl : sto M2 2 0 w a = M2 a).trans ((x2.1 a h3).trans (d3 a h3 h4))), fun j h3 h4 => (y8 j h3 h4).trans ((by rw [sto_k (by decide)] : sto M2 2 0 w 0 j = M2 0 j).trans ((x2.2 j h3 h4).trans (d4 j h3 h4))), y9⟩
  cases bad2 with
  | true => exact fin 10 (by decide) (by decide) (fun z => absurd z (by decide))
  | false =>
    obtain ⟨_, _, y3, x, y4, y5⟩ := g2 rfl
    exact fin x y5.1 y5.2 (fun _ => ⟨y4, y3 ▸ y4⟩)
end TEXTEND
