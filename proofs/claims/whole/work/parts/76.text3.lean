/-! ===== the text: both read the same numbers ===== -/
/-- what a number's reading does on both sides -/
def NumR (S M S' M' : mM) (n : Nat) (ch : Nat → Nat) (p : Nat) (bad : Bool) (v w : Int32) (Q : Nat → Prop) : Prop :=
  ∃ p' bad', TC S' n ch p' bad' ∧ TM M' n ch p' bad' ∧ Oth 1 S S' ∧ Mx M M' ∧ (bad' = false → bad = false ∧ p < p' ∧ v = w ∧ ∃ x, v = nI x ∧ Q x) ∧ (bad = true → p' = p)
section PAIR
variable {S M : mM} {n p : Nat} {ch : Nat → Nat} {bad : Bool} {a b a' b' : Int32} {Q : Nat → Prop}
theorem c_num_bad {dg m : Nat} (hdg : dg < 8) (hm : 1 + m = dg) (h : TC S n ch p true) (x y : Int32) : pX1_number (nI dg) x y S = some (nI 0, S) := by
  obtain ⟨k, hk⟩ := fuel_s
  rw [c_num hdg hm, hk, c_run_bad h]
theorem one_pair (hs : TC S n ch p bad) (hm : TM M n ch p bad) (ha : bad = false → ∃ l m, a = nI l ∧ b = nI m ∧ a' = nI l ∧ b' = nI m ∧ l ≤ 99 ∧ m ≤ 99 ∧ ∀ x, l ≤ x → x ≤ m → Q x) :
    ∃ v w S' M', pX1_number (nI 1) a b S = some (v, S') ∧ pX7_digit a' b' M = some (w, M') ∧ NumR S M S' M' n ch p bad v w Q := by
  cases bad with
  | true =>
    obtain ⟨M', e1, e2, e3⟩ := m_dig_bad hm a' b'
    exact ⟨_, _, S, M', c_num_bad (m := 0) (by decide) rfl hs _ _, e1, p, true, hs, e2, Oth.rf, e3, fun z => absurd z (by decide), fun _ => rfl⟩
  | false =>
    obtain ⟨l, m, rfl, rfl, rfl, rfl, hl, hmm, hQ⟩ := ha rfl
    obtain ⟨k, hk⟩ := fuel_s
    rw [c_num (m := 0) (by decide) rfl, hk, Nat.pow_zero]
    rcases c_run1 (dg := 1) (l := l) (m := m) (num := 0) (i := 0) (k := k + 2) hs rfl (by decide) (by omega) (by omega) (by decide) with ⟨d, S', c1, c2, c3, c4, c5, c6⟩ | ⟨S', c1, c4, c5, c6⟩
    · rcases m_dig (l := l) (m := m) hm (by omega) (by omega) with ⟨d', M', g1, g2, g3, g4, g5, g6⟩ | ⟨M', g1, g4, g5, g6⟩
      · rw [c1] at g1
        cases g1
        exact ⟨_, _, S', M', c4, g4, p + 1, false, c5, g5, c6, g6, fun _ => ⟨rfl, Nat.lt_succ_self _, by rw [Nat.zero_mul, Nat.zero_add], 0 * 10 + d, rfl, hQ _ c3 c2⟩, fun z => absurd z (by decide)⟩
      · exact absurd ⟨by omega, by omega⟩ (g1 d c1)
    · rcases m_dig (l := l) (m := m) hm (by omega) (by omega) with ⟨d', M', g1, g2, g3, g4, g5, g6⟩ | ⟨M', g1, g4, g5, g6⟩
      · exact absurd ⟨by omega, by omega⟩ (c1 d' g1)
      · exact ⟨_, _, S', M', c4, g4, p, true, c5, g5, c6, g6, fun z => absurd z (by decide), fun z => absurd z (by decide)⟩
theorem two_pair (hs : TC S n ch p bad) (hm : TM M n ch p bad) (ha : bad = false → ∃ l m, a = nI l ∧ b = nI m ∧ a' = nI l ∧ b' = nI m ∧ l ≤ 99 ∧ m ≤ 99 ∧ ∀ x, l ≤ x → x ≤ m → Q x) :
    ∃ v w S' M', pX1_number (nI 2) a b S = some (v, S') ∧ pX7_two a' b' M = some (w, M') ∧ NumR S M S' M' n ch p bad v w Q := by
  cases bad with
  | true =>
    obtain ⟨w, M', e1, e2, e3⟩ := m_two_bad hm a' b'
    exact ⟨_, _, S, M', c_num_bad (m := 1) (by decide) rfl hs _ _, e1, p, true, hs, e2, Oth.rf, e3, fun z => absurd z (by decide), fun _ => rfl⟩
  | false =>
    obtain ⟨l, m, rfl, rfl, rfl, rfl, hl, hmm, hQ⟩ := ha rfl
    obtain ⟨k, hk⟩ := fuel_s
    rw [c_num (m := 1) (by decide) rfl, hk, Nat.pow_one]
    rcases c_run2 (dg := 2) (l := l) (m := m) (num := 0) (i := 0) (k := k + 1) hs rfl (by decide) (by omega) (by omega) (by decide) with ⟨d, e, S', c1, c2, c3, c4, c5, c6, c7, c8, c9⟩ | ⟨d, v, S', c1, c2, c3, c4, c7, c8, c9⟩ | ⟨v, S', c1, c7, c8, c9⟩
    · rcases m_two (l := l) (m := m) hm (by omega) (by omega) with ⟨d', e', M', g1, g2, g3, g4, g5, g6, g7, g8, g9⟩ | ⟨d', w, M', g1, g2, g3, g4, g7, g8, g9⟩ | ⟨w, M', g1, g7, g8, g9⟩
      · rw [c1] at g1
        cases g1
        rw [c4] at g4
        cases g4
        exact ⟨_, _, S', M', c7, g7, p + 2, false, c8, g8, c9, g9, fun _ => ⟨rfl, by omega, by rw [show (0 * 10 + d) * 10 + e = 10 * d + e by omega], (0 * 10 + d) * 10 + e, rfl, hQ _ c6 c5⟩, fun z => absurd z (by decide)⟩
      · rw [c1] at g1
        cases g1
        exact absurd ⟨by omega, by omega⟩ (g4 e c4)
      · exact absurd ⟨by omega, by omega⟩ (g1 d c1)
    · rcases m_two (l := l) (m := m) hm (by omega) (by omega) with ⟨d', e', M', g1, g2, g3, g4, g5, g6, g7, g8, g9⟩ | ⟨d', w, M', g1, g2, g3, g4, g7, g8, g9⟩ | ⟨w, M', g1, g7, g8, g9⟩
      · rw [c1] at g1
        cases g1
        exact absurd ⟨by omega, by omega⟩ (c4 e' g4)
      · exact ⟨_, _, S', M', c7, g7, p + 1, true, c8, g8, c9, g9, fun z => absurd z (by decide), fun z => absurd z (by decide)⟩
      · exact absurd ⟨by omega, by omega⟩ (g1 d c1)
    · rcases m_two (l := l) (m := m) hm (by omega) (by omega) with ⟨d', e', M', g1, g2, g3, g4, g5, g6, g7, g8, g9⟩ | ⟨d', w, M', g1, g2, g3, g4, g7, g8, g9⟩ | ⟨w, M', g1, g7, g8, g9⟩
      · exact absurd ⟨by omega, by omega⟩ (c1 d' g1)
      · exact absurd ⟨by omega, by omega⟩ (c1 d' g1)
      · exact ⟨_, _, S', M', c7, g7, p, true, c8, g8, c9, g9, fun z => absurd z (by decide), fun z => absurd z (by decide)⟩
/-- three digits -/
theorem three_pair (hs : TC S n ch p bad) (hm : TM M n ch p bad) :
    ∃ v w1 w2 S' M1 M', pX1_number (nI 3) (nI 0) (nI 999) S = some (v, S') ∧ pX7_digit (nI 0) (nI 9) M = some (w1, M1) ∧ pX7_two (nI 0) (nI 99) M1 = some (w2, M') ∧ NumR S M S' M' n ch p bad v (nI 100 * w1 + w2) (fun x => x ≤ 999) := by
  cases bad with
  | true =>
    obtain ⟨M1, e1, e2, e3⟩ := m_dig_bad hm (nI 0) (nI 9)
    obtain ⟨w, M', f1, f2, f3⟩ := m_two_bad e2 (nI 0) (nI 99)
    exact ⟨_, _, _, S, M1, M', c_num_bad (m := 2) (by decide) rfl hs _ _, e1, f1, p, true, hs, f2, Oth.rf, e3.tr f3, fun z => absurd z (by decide), fun _ => rfl⟩
  | false =>
    obtain ⟨k, hk⟩ := fuel_s
    rw [c_num (m := 2) (by decide) rfl, hk, show 10 ^ 2 = 100 from rfl]
    rcases m_dig (l := 0) (m := 9) hm (by decide) (by decide) with ⟨d, M1, g1, g2, g3, g4, g5, g6⟩ | ⟨M1, g1, g4, g5, g6⟩
    · obtain ⟨S1, q1, q2, q3⟩ := c_dig_ok (dg := 3) (l := 0) (m := 999) (num := 0) (span := 100) (i := 0) (k := k + 3) hs (by decide) (by decide) (by decide) (by decide) (by decide) (by decide) (by decide) g1 (by omega) (by omega)
      rw [q1, show (100 : Nat) / 10 = 10 from rfl]
      have t0 : 0 * 10 + d = d := by omega
      rw [t0]
      rcases c_run2 (dg := 3) (l := 0) (m := 999) (num := d) (i := 0 + 1) (k := k) q2 rfl (by decide) (by decide) (by decide) (by omega) with ⟨d2, e, S', c1, c2, c3, c4, c5, c6, c7, c8, c9⟩ | ⟨d2, v, S', c1, c2, c3, c4, c7, c8, c9⟩ | ⟨v, S', c1, c7, c8, c9⟩
      · have d9 := (dgV_9 c1).1
        have e9 := (dgV_9 c4).1
        rcases m_two (l := 0) (m := 99) g5 (by decide) (by decide) with ⟨d', e', M', r1, r2, r3, r4, r5, r6, r7, r8, r9⟩ | ⟨d', w, M', r1, r2, r3, r4, r7, r8, r9⟩ | ⟨w, M', r1, r7, r8, r9⟩
        · rw [c1] at r1
          cases r1
          rw [c4] at r4
          cases r4
          exact ⟨_, _, _, S', M1, M', c7, g4, r7, p + 1 + 2, false, c8, r8, Oth.tr q3 c9, g6.tr r9, fun _ => ⟨rfl, by omega, by rw [pk_mul, nI_add, show (d * 10 + d2) * 10 + e = 100 * d + (10 * d2 + e) by omega], _, rfl, by omega⟩, fun z => absurd z (by decide)⟩
        · rw [c1] at r1
          cases r1
          exact absurd ⟨by omega, by omega⟩ (r4 e c4)
        · exact absurd ⟨by omega, by omega⟩ (r1 d2 c1)
      · have d9 := (dgV_9 c1).1
        rcases m_two (l := 0) (m := 99) g5 (by decide) (by decide) with ⟨d', e', M', r1, r2, r3, r4, r5, r6, r7, r8, r9⟩ | ⟨d', w, M', r1, r2, r3, r4, r7, r8, r9⟩ | ⟨w, M', r1, r7, r8, r9⟩
        · rw [c1] at r1
          cases r1
          have e9 := (dgV_9 r4).1
          exact absurd ⟨by omega, by omega⟩ (c4 e' r4)
        · exact ⟨_, _, _, S', M1, M', c7, g4, r7, p + 1 + 1, true, c8, r8, Oth.tr q3 c9, g6.tr r9, fun z => absurd z (by decide), fun z => absurd z (by decide)⟩
        · exact absurd ⟨by omega, by omega⟩ (r1 d2 c1)
      · rcases m_two (l := 0) (m := 99) g5 (by decide) (by decide) with ⟨d', e', M', r1, r2, r3, r4, r5, r6, r7, r8, r9⟩ | ⟨d', w, M', r1, r2, r3, r4, r7, r8, r9⟩ | ⟨w, M', r1, r7, r8, r9⟩
        · have e9 := (dgV_9 r1).1
          exact absurd ⟨by omega, by omega⟩ (c1 d' r1)
        · have e9 := (dgV_9 r1).1
          exact absurd ⟨by omega, by omega⟩ (c1 d' r1)
        · exact ⟨_, _, _, S', M1, M', c7, g4, r7, p + 1, true, c8, r8, Oth.tr q3 c9, g6.tr r9, fun z => absurd z (by decide), fun z => absurd z (by decide)⟩
    · obtain ⟨S1, q1, q2, q3⟩ := c_dig_no (dg := 3) (l := 0) (m := 999) (num := 0) (span := 100) (i := 0) (k := k + 3) hs (by decide) (by decide) (by decide) (by decide) (by decide) (by decide) (by decide) (fun d hd _ => g1 d hd ⟨by omega, (dgV_9 hd).1⟩)
      obtain ⟨w, M', f1, f2, f3⟩ := m_two_bad g5 (nI 0) (nI 99)
      exact ⟨_, _, _, S1, M1, M', by rw [q1, c_run_bad (k := k + 2) q2], g4, f1, p, true, q2, f2, q3, g6.tr f3, fun z => absurd z (by decide), fun z => absurd z (by decide)⟩
end PAIR
