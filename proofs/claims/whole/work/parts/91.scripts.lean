/-! ===== runScript, simulate ===== -/
theorem CR.put {S T : mM} {A : aA} {o : Nat} {w fl : Int32} {b : Bool} (h : CR T A w fl b) : CR (sB (wB S o 17 T) o) A w fl b := by
  have e : sB (wB S o 17 T) o 0 = T 0 := wB_at (by decide)
  exact ⟨h.1.cells (fun a ha => wB_at ha), by rw [e]; exact h.2.1, by rw [e]; exact h.2.2.1, by rw [e]; exact h.2.2.2⟩
theorem rnd (x : Int64) : ∃ n, n < 2 ^ 31 ∧ ((x.toUInt64 >>> (((nI 33).toInt64).toUInt64 &&& Int64.toUInt64 63)).toInt64).toInt32 = nI n := by
  have hb : (((nI 33).toInt64).toUInt64 &&& Int64.toUInt64 63) = 33 := by decide
  rw [hb]
  have hs : (x.toUInt64 >>> 33).toNat = x.toUInt64.toNat / 2 ^ 33 := by
    rw [UInt64.toNat_shiftRight, Nat.shiftRight_eq_div_pow]
    rfl
  have hx := x.toUInt64.toNat_lt
  refine ⟨(x.toUInt64 >>> 33).toNat, ?_, ?_⟩
  · rw [hs]
    omega
  · have e : (x.toUInt64 >>> 33).toInt64 = lN (x.toUInt64 >>> 33).toNat := by
      show _ = Int64.ofNat _
      rw [← UInt64.toInt64_ofNat', UInt64.ofNat_toNat]
    rw [e, lN_i]
section SCRIPTS
variable {C D C' D' : mM} {A : aA}
/-- frames of a trial that goes on -/
def Go (C D C' D' : mM) : Prop := (∀ a, a < 20 ∨ 37 ≤ a → C' a = C a) ∧ StatC (sB C' 20) ∧ Mo 4 D D'
theorem Go.tr {C2 D2 : mM} (h : Go C D C' D') (g : Go C' D' C2 D2) : Go C D C2 D2 := ⟨fun a ha => (g.1 a ha).trans (h.1 a ha), g.2.1, h.2.2.tr g.2.2⟩
theorem Go.try {C0 D0 C1 D1 : mM} (hC : ∀ a, a < 20 ∨ 37 ≤ a → C1 a = C0 a) (hD : ∀ a, a ≠ 4 → D1 a = D0 a) (g : Go C1 D1 C' D') : Try C0 D0 C' D' := ⟨fun a ha => (g.1 a ha).trans (hC a ha), g.2.1, fun a h0 h4 => (g.2.2.1 a h0 h4).trans (hD a h4), fun j hj => by rw [g.2.2.2 j hj, hD 0 (by decide)]⟩
theorem sim_loop {N : Nat} (hN : N < 2 ^ 20) (x5 x4 : Int32) : ∀ (m i k k' : Nat) (x : Int64) (C D : mM) (A : aA) (fl fl' : Int32) (st : Bool), i + m = N → m < k → m < k' → CR (sB C 20) A (-9) fl st → MR D 4 A (-9) fl' → Inv A → (∃ A0, RepR (D 3) A0 ∧ x4 = nI (cntN A0 (nI 2) (aN A0 4)) ∧ x5 = colSum (aT A0 4) 6 (aN A0 4)) →
    ∃ v C' D', pX6_simulate_l48 k (nI N) x4 x5 x (nI i) C = some (.inl v, C') ∧ pX7_simulate_l36 k' (nI N) x (nI i) D = some (v, D') ∧ Go C D C' D' := by
  intro m
  induction m with
  | zero =>
    intro i k k' x C D A fl fl' st hi hk hk' hc hm iv ⟨A0, h0, e4, e5⟩
    obtain ⟨k, rfl⟩ : ∃ z, k = z + 1 := ⟨k - 1, by omega⟩
    obtain ⟨k', rfl⟩ : ∃ z, k' = z + 1 := ⟨k' - 1, by omega⟩
    obtain rfl : i = N := by omega
    refine ⟨nI 10000 * (nI (cntN A (nI 2) (aN A 4)) - x4) + colSum (aT A 4) 6 (aN A 4) - x5, C, D, ?_, ?_, fun _ _ => rfl, hc.1.stat, Mo.rf⟩
    · show pX6_simulate_lb48 (pX6_simulate_l48 k) (nI i) x4 x5 x (nI i) C = _
      unfold pX6_simulate_lb48
      rw [if_pos (Int32.le_refl _), c_many hc.1 iv, cr1_s, vl_e, s29, c_sum hc.1 (k := 4) (o := 9) (n := 112) (j := 6) (by decide) rfl rfl (by decide), cr1_s]
    · show pX7_simulate_lb36 (pX7_simulate_l36 k') (nI i) x (nI i) D = _
      unfold pX7_simulate_lb36
      rw [if_pos (Int32.le_refl _), m_many (S := sB D 4) hm.1, cr1_s, m_many (S := sB D 3) h0, cr1_s, ld_n (j := 7) (by decide) (by decide), ld_n (j := 7) (by decide) (by decide), hm.1.2.2.2.2, h0.2.2.2.2, e4, e5]
  | succ m ih =>
    intro i k k' x C D A fl fl' st hi hk hk' hc hm iv ⟨A0, h0, e4, e5⟩
    obtain ⟨k, rfl⟩ : ∃ z, k = z + 1 := ⟨k - 1, by omega⟩
    obtain ⟨k', rfl⟩ : ∃ z, k' = z + 1 := ⟨k' - 1, by omega⟩
    obtain ⟨r, r1, r2⟩ := rnd (x * 6364136223846793005 + 1442695040888963407)
    obtain ⟨T, t1, t2⟩ := c_chance hc iv r1
    obtain ⟨M1, u1, u2, u3⟩ := m_chance hm iv r1
    obtain ⟨iv1, sm⟩ := chan_ok iv r
    have c1 : CR (sB (wB C 20 17 T) 20) (chanD (chanH A r) r) (-9) fl st := CR.put t2
    obtain ⟨T2, st', v1, v2, v3, v4, v5, v6⟩ := c_nxt c1 iv1
    obtain ⟨M2, w1, w2, w3, w4, w5⟩ := m_nxt u2 (by decide) iv1
    rw [nxt_i (w' := -9) (chanD (chanH A r) r) fl' fl] at w2
    have c2 : CR (sB (wB (wB C 20 17 T) 20 17 T2) 20) (nxt (-9) (chanD (chanH A r) r, fl)).1 (-9) (nxt (-9) (chanD (chanH A r) r, fl)).2 st' := CR.put v2
    have h0' : RepR (M2 3) A0 := by
      rw [w3.1 3 (by decide) (by decide), u3.1 3 (by decide) (by decide)]
      exact h0
    obtain ⟨v, C', D', y1, y2, y3⟩ := ih (i + 1) k k' (x * 6364136223846793005 + 1442695040888963407) _ M2 _ _ _ st' (by omega) (by omega) (by omega) c2 w2 v3 ⟨A0, h0', e4, e5⟩
    refine ⟨v, C', D', ?_, ?_, Go.tr ⟨fun a ha => by rw [wB_out (by omega), wB_out (by omega)], c2.1.stat, u3.tr w3⟩ y3⟩
    · show pX6_simulate_lb48 (pX6_simulate_l48 k) (nI N) x4 x5 x (nI i) C = _
      unfold pX6_simulate_lb48
      rw [n_le (by omega) (by omega), if_neg (by omega), vl_e, r2, t1, cvs_s, v1, cvs_s, vl_e, nI_add, y1]
    · show pX7_simulate_lb36 (pX7_simulate_l36 k') (nI N) x (nI i) D = _
      unfold pX7_simulate_lb36
      rw [n_le (by omega) (by omega), if_neg (by omega), vl_e, r2, u1, cr1_s, w1, cr1_s, vl_e, nI_add, y2]
theorem a_simulate (h : PI C D) (s : Int64) (x : Int32) : MP ["java/lang/IllegalArgumentException"] (pX6_simulate s x C) (pX7_simulate s x D) := by
  obtain ⟨⟨A, hA⟩, hT, hP, hH⟩ := id h
  obtain ⟨hb, hC, hM, ⟨iv, L, hL, hL1, hL2⟩, h12, hS⟩ := id hA
  by_cases hx : nI 1 ≤ x ∧ x ≤ nI 99
  · obtain ⟨p, p1, p2, rfl⟩ := rngN (by decide) (by decide) hx
    obtain ⟨C1, D1, e1, e2, e3, f1, f2, f3⟩ := try_both hA.three
    have r3 : RepR (D1 3) A := by
      rw [f3 3 (by decide), sto_k (by decide)]
      exact hM
    obtain ⟨v, C', D', y1, y2, y3⟩ := sim_loop (N := p) (by omega) (colSum (aT A 4) 6 (aN A 4)) (nI (cntN A (nI 2) (aN A 4))) p 0 fuel fuel s C1 D1 A (-9) _ true (by omega) (Nat.lt_of_le_of_lt p2 (by decide)) (Nat.lt_of_le_of_lt p2 (by decide)) e2 f2 iv ⟨A, r3, rfl, rfl⟩
    have tr := Go.try e3 f3 y3
    refine MP.ok (v := v) (C' := C') (D' := D') ?_ ?_ (h.try tr) (by rw [tr.2.2.2 0 (by decide), sto_i])
    · unfold pX6_simulate
      rw [rng_ok hx, bx_n, e1, cr1_s, c_many e2.1 iv, cr1_s, s29, c_sum e2.1 (k := 4) (o := 9) (n := 112) (j := 6) (by decide) rfl rfl (by decide), cr1_s, y1]
    · unfold pX7_simulate pX7_simulate_b18
      rw [inr_ok (by decide) (by decide) hx, cr1_s, if_neg (by decide), refused_0, cw2_s, if_pos (by decide), f1, cr1_s, y2]
  · refine MP.no h 0 (by decide) (b := nI 0) ?_ ?_
    · unfold pX6_simulate
      rw [rng_no hx, bx_e]
      rfl
    · unfold pX7_simulate pX7_simulate_b18
      rw [inr_no (by decide) (by decide) hx, cr1_s, if_pos (by decide), refused_n (by decide) (by decide), cw2_s, if_neg (by decide)]
/-! the script's groups -/
theorem pow_lt {N : Nat} (h : N ≤ 3) : 100000 ^ N ≤ 1000000000000000 := by
  rcases (by omega : N = 0 ∨ N = 1 ∨ N = 2 ∨ N = 3) with rfl | rfl | rfl | rfl <;> decide
theorem grp {b : Nat} (hb : b ≤ 3) : ∀ (m i k s : Nat), i + m = b → m < k → s < 2 ^ 63 → pX6_groupOf_l5 k (nI b) (lN s) (nI i) = some (nI (s / 100000 ^ m % 100000)) := by
  intro m
  induction m with
  | zero =>
    intro i k s hi hk hs
    obtain ⟨k, rfl⟩ : ∃ z, k = z + 1 := ⟨k - 1, by omega⟩
    obtain rfl : i = b := by omega
    show pX6_groupOf_lb5 (pX6_groupOf_l5 k) (nI i) (lN s) (nI i) = _
    unfold pX6_groupOf_lb5
    rw [if_pos (Int32.le_refl _), pk_lRem hs (by decide) (by decide), lN_i, Nat.pow_zero, Nat.div_one]
  | succ m ih =>
    intro i k s hi hk hs
    obtain ⟨k, rfl⟩ : ∃ z, k = z + 1 := ⟨k - 1, by omega⟩
    show pX6_groupOf_lb5 (pX6_groupOf_l5 k) (nI b) (lN s) (nI i) = _
    unfold pX6_groupOf_lb5
    rw [n_le (by omega) (by omega), if_neg (by omega), vl_e, vl_e, nI_add, pk_lDiv hs (by decide) (by decide), ih (i + 1) k (s / 100000) (by omega) (by omega) (Nat.lt_of_le_of_lt (Nat.div_le_self _ _) hs), Nat.div_div_eq_div_mul, Nat.pow_succ, Nat.mul_comm]
theorem ten {t : Nat} (ht : t ≤ 18) : ∀ (m i k : Nat), i + m = t → m < k → pX7_tenTo_l4 k (nI t) (lN (10 ^ i)) (nI i) = some (lN (10 ^ t)) := by
  intro m
  induction m with
  | zero =>
    intro i k hi hk
    obtain ⟨k, rfl⟩ : ∃ z, k = z + 1 := ⟨k - 1, by omega⟩
    obtain rfl : i = t := by omega
    show pX7_tenTo_lb4 (pX7_tenTo_l4 k) (nI i) (lN (10 ^ i)) (nI i) = _
    unfold pX7_tenTo_lb4
    rw [if_pos (Int32.le_refl _)]
  | succ m ih =>
    intro i k hi hk
    obtain ⟨k, rfl⟩ : ∃ z, k = z + 1 := ⟨k - 1, by omega⟩
    show pX7_tenTo_lb4 (pX7_tenTo_l4 k) (nI t) (lN (10 ^ i)) (nI i) = _
    unfold pX7_tenTo_lb4
    rw [n_le (by omega) (by omega), if_neg (by omega), vl_e, vl_e, nI_add, lN_mul, ← Nat.pow_succ, ih (i + 1) k (by omega) (by omega)]
theorem tenTo_n {b : Nat} (hb : b ≤ 3) : pX7_tenTo (nI (5 * b)) = some (lN (100000 ^ b)) := by
  unfold pX7_tenTo
  rw [show lN 1 = lN (10 ^ 0) from rfl, ten (t := 5 * b) (by omega) (5 * b) 0 fuel (by omega) (Nat.lt_of_le_of_lt (show 5 * b ≤ 15 by omega) (by decide)), Nat.pow_mul]
theorem run_loop {N s : Nat} (hN : N ≤ 3) (hs : s < 2 ^ 63) : ∀ (m i k k' : Nat) (C D : mM) (A : aA) (fl fl' : Int32) (st : Bool), i + m = N → m < k → m < k' → CR (sB C 20) A (-9) fl st → MR D 4 A (-9) fl' → Inv A →
    ∃ v C' D', pX6_runScript_l67 k (nI N) (lN s) (nI i) C = some (.inl v, C') ∧ pX7_runScript_l62 k' (nI N) (lN s) (nI i) D = some (v, D') ∧ Go C D C' D' := by
  intro m
  induction m with
  | zero =>
    intro i k k' C D A fl fl' st hi hk hk' hc hm iv
    obtain ⟨k, rfl⟩ : ∃ z, k = z + 1 := ⟨k - 1, by omega⟩
    obtain ⟨k', rfl⟩ : ∃ z, k' = z + 1 := ⟨k' - 1, by omega⟩
    obtain rfl : i = N := by omega
    refine ⟨-9, C, D, ?_, ?_, fun _ _ => rfl, hc.1.stat, Mo.rf⟩
    · show pX6_runScript_lb67 (pX6_runScript_l67 k) (nI i) (lN s) (nI i) C = _
      unfold pX6_runScript_lb67
      rw [if_pos (Int32.le_refl _)]
    · show pX7_runScript_lb62 (pX7_runScript_l62 k') (nI i) (lN s) (nI i) D = _
      unfold pX7_runScript_lb62
      rw [if_pos (Int32.le_refl _)]
  | succ m ih =>
    intro i k k' C D A fl fl' st hi hk hk' hc hm iv
    obtain ⟨k, rfl⟩ : ∃ z, k = z + 1 := ⟨k - 1, by omega⟩
    obtain ⟨k', rfl⟩ : ∃ z, k' = z + 1 := ⟨k' - 1, by omega⟩
    have hb : N - 1 - i ≤ 3 := by omega
    have hp := pow_lt hb
    have hp0 : 0 < 100000 ^ (N - 1 - i) := Nat.pow_pos (by decide)
    have hg : s / 100000 ^ (N - 1 - i) % 100000 < 100000 := Nat.mod_lt _ (by decide)
    obtain ⟨r, T, M', A', fl1, st1, fl2, o1, o2, o3, o4, o5, o6⟩ := obey hc hm iv hg
    have c2 : CR (sB (wB C 20 17 T) 20) A' (-9) fl1 st1 := CR.put o3
    have go : Go C D (wB C 20 17 T) M' := ⟨fun a ha => wB_out (by omega), c2.1.stat, o6⟩
    have hC : pX6_runScript_l67 (k + 1) (nI N) (lN s) (nI i) C = if r = false then some (.inl (nI i), wB C 20 17 T) else pX6_runScript_l67 k (nI N) (lN s) (nI (i + 1)) (wB C 20 17 T) := by
      show pX6_runScript_lb67 (pX6_runScript_l67 k) (nI N) (lN s) (nI i) C = _
      unfold pX6_runScript_lb67 pX6_groupOf
      rw [n_le (by omega) (by omega), if_neg (by omega), pk_sub (by omega), pk_sub (by omega), grp hb (N - 1 - i) 0 fuel s (by omega) (Nat.lt_of_le_of_lt hb (by decide)) hs, cr1_s, o1, cws_s, bI_0, vl_e, nI_add]
    have hM : pX7_runScript_l62 (k' + 1) (nI N) (lN s) (nI i) D = if r = false then some (nI i, M') else pX7_runScript_l62 k' (nI N) (lN s) (nI (i + 1)) M' := by
      show pX7_runScript_lb62 (pX7_runScript_l62 k') (nI N) (lN s) (nI i) D = _
      unfold pX7_runScript_lb62
      have hz : ¬ (lN (100000 ^ (N - 1 - i)) = 0) := by
        rw [show (0 : Int64) = lN 0 from rfl, pk_lEQ (by omega) (by decide)]
        omega
      rw [n_le (by omega) (by omega), if_neg (by omega), pk_sub (by omega), pk_sub (by omega), pk_mul, tenTo_n hb, cr1_s]
      unfold nzL
      rw [gd_p (decide_eq_true hz), pk_lDiv hs hp0 (by omega), pk_lRem (Nat.lt_of_le_of_lt (Nat.div_le_self _ _) hs) (by decide) (by decide), lN_i, o2, cw2_s, bI_0, vl_e, nI_add]
    rw [hC, hM]
    cases r with
    | false =>
      rw [if_pos rfl, if_pos rfl]
      exact ⟨nI i, _, M', rfl, rfl, go⟩
    | true =>
      rw [if_neg (by decide), if_neg (by decide)]
      obtain ⟨v, C', D', y1, y2, y3⟩ := ih (i + 1) k k' _ M' A' fl1 fl2 st1 (by omega) (by omega) (by omega) c2 o4 o5
      exact ⟨v, C', D', y1, y2, go.tr y3⟩
theorem above {N : Nat} (hN : N ≤ 3) (x : Int64) : ∀ (m i k : Nat), i + m = N → m < k → pX6_runScript_l12 k (nI N) x (lN (100000 ^ i)) (nI i) C = if x < lN 0 then pX6_runScript_b50 (nI N) x (nI 1) C else if x < lN (100000 ^ N) then pX6_runScript_b50 (nI N) x (nI 0) C else pX6_runScript_b50 (nI N) x (nI 1) C := by
  intro m
  induction m with
  | zero =>
    intro i k hi hk
    obtain ⟨k, rfl⟩ : ∃ z, k = z + 1 := ⟨k - 1, by omega⟩
    obtain rfl : i = N := by omega
    show pX6_runScript_lb12 (pX6_runScript_l12 k) (nI i) x (lN (100000 ^ i)) (nI i) C = _
    unfold pX6_runScript_lb12 pX6_runScript_b45
    rw [if_pos (Int32.le_refl _), n_if (propext (lg_cmp_lt x (lN 0))), n_if (propext (lg_cmp_lt x (lN (100000 ^ i))))]
  | succ m ih =>
    intro i k hi hk
    obtain ⟨k, rfl⟩ : ∃ z, k = z + 1 := ⟨k - 1, by omega⟩
    show pX6_runScript_lb12 (pX6_runScript_l12 k) (nI N) x (lN (100000 ^ i)) (nI i) C = _
    unfold pX6_runScript_lb12
    rw [n_le (by omega) (by omega), if_neg (by omega), vl_e, vl_e, nI_add, lN_mul, ← Nat.pow_succ, ih (i + 1) k (by omega) (by omega)]
theorem a_runScript (h : PI C D) (x : Int32) (y : Int64) : MP ["java/lang/IllegalArgumentException"] (pX6_runScript x y C) (pX7_runScript x y D) := by
  obtain ⟨⟨A, hA⟩, hT, hP, hH⟩ := id h
  obtain ⟨hb, hC, hM, ⟨iv, L, hL, hL1, hL2⟩, h12, hS⟩ := id hA
  have mno : ∀ a b, pX7_runScript_b46 a b D = some (nI 0, sto D 0 0 (nI 1)) := fun a b => by
    unfold pX7_runScript_b46 pX7_runScript_b47
    rw [refused_n (by decide) (by decide), cw2_s, if_neg (by decide)]
  by_cases hx : nI 1 ≤ x ∧ x ≤ nI 3
  · obtain ⟨p, p1, p2, rfl⟩ := rngN (by decide) (by decide) hx
    have hp := pow_lt p2
    have hp0 : 0 < 100000 ^ p := Nat.pow_pos (by decide)
    have ec : pX6_runScript (nI p) y C = if y < lN 0 then pX6_runScript_b50 (nI p) y (nI 1) C else if y < lN (100000 ^ p) then pX6_runScript_b50 (nI p) y (nI 0) C else pX6_runScript_b50 (nI p) y (nI 1) C := by
      unfold pX6_runScript
      rw [rng_ok hx, bx_n, show lN 1 = lN (100000 ^ 0) from rfl, above p2 y p 0 fuel (by omega) (Nat.lt_of_le_of_lt p2 (by decide))]
    have em : pX7_runScript (nI p) y D = if decide (lN 0 ≤ y ∧ y ≤ lN (100000 ^ p - 1)) = false then pX7_runScript_b46 (nI p) y D else pX7_runScript_b47 (nI p) y (nI 0) D := by
      unfold pX7_runScript pX7_runScript_b31
      rw [inr_ok (by decide) (by decide) hx, cr1_s, if_neg (by decide), if_neg (by decide), pk_mul, tenTo_n p2, cr1_s, in_64, cr1_s, lN_sub (by omega), bI_0]
    have cno : pX6_runScript_b50 (nI p) y (nI 1) C = some (.inr "java/lang/IllegalArgumentException", C) := by
      unfold pX6_runScript_b50
      rw [refA_1, bx_e]
    by_cases q : y < lN 0
    · rw [if_pos q, cno] at ec
      rw [decide_eq_false (fun z => absurd q (Int64.not_lt.mpr z.1)), if_pos rfl, mno] at em
      exact MP.no h 0 (by decide) (b := nI 0) ec em
    · obtain ⟨s, s1, rfl⟩ := pk_lOf q
      rw [if_neg q] at ec
      by_cases z : s < 100000 ^ p
      · rw [if_pos (Int64.not_le.mp (fun y => by rw [pk_lLE (by omega) s1] at y; omega))] at ec
        rw [decide_eq_true (⟨by rw [pk_lLE (by decide) s1]; omega, by rw [pk_lLE s1 (by omega)]; omega⟩ : lN 0 ≤ lN s ∧ lN s ≤ lN (100000 ^ p - 1)), if_neg (by decide)] at em
        obtain ⟨C1, D1, e1, e2, e3, f1, f2, f3⟩ := try_both hA.three
        obtain ⟨v, C', D', y1, y2, y3⟩ := run_loop p2 s1 p 0 fuel fuel C1 D1 A (-9) _ true (by omega) (Nat.lt_of_le_of_lt p2 (by decide)) (Nat.lt_of_le_of_lt p2 (by decide)) e2 f2 iv
        have tr := Go.try e3 f3 y3
        refine MP.ok (v := v) (C' := C') (D' := D') ?_ ?_ (h.try tr) (by rw [tr.2.2.2 0 (by decide), sto_i])
        · rw [ec]
          unfold pX6_runScript_b50
          rw [refA_0, bx_n, e1, cr1_s, y1]
        · rw [em]
          unfold pX7_runScript_b47
          rw [refused_0, cw2_s, if_pos (by decide), f1, cr1_s, y2]
      · rw [if_neg (Int64.not_lt.mpr (by rw [pk_lLE (by omega) s1]; omega)), cno] at ec
        rw [decide_eq_false (fun y => by have y2 := y.2; rw [pk_lLE s1 (by omega)] at y2; omega), if_pos rfl, mno] at em
        exact MP.no h 0 (by decide) (b := nI 0) ec em
  · refine MP.no h 0 (by decide) (b := nI 0) ?_ ?_
    · unfold pX6_runScript
      rw [rng_no hx, bx_e]
      rfl
    · unfold pX7_runScript
      rw [inr_no (by decide) (by decide) hx, cr1_s, if_pos (by decide), mno]
end SCRIPTS
