/-! ===== chance ===== -/
def chanH (A : aA) (n : Nat) : aA := if n % 5 = 0 ∧ 0 < aN A 3 then aPut A 3 (n / 8 % aN A 3) 1 (nI (n / 64 % 6)) else A
def chanD (A : aA) (n : Nat) : aA := if n % 5 = 1 ∧ 0 < aN A 2 then aPut A 2 (n / 8 % aN A 2) 1 (mn (nI 999) (aT A 2 (n / 8 % aN A 2) 1 + nI (n / 64 % 30))) else A
section CHANCE
variable {S : mM} {A : aA} {w fl : Int32} {st : Bool}
theorem chan_ok (iv : Inv A) (n : Nat) : Inv (chanD (chanH A n) n) ∧ Sam A (chanD (chanH A n) n) := by
  have h1 : Inv (chanH A n) ∧ Sam A (chanH A n) := by
    unfold chanH
    by_cases q : n % 5 = 0 ∧ 0 < aN A 3
    · rw [if_pos q]
      exact ⟨iv.put3 _ _ _, rfl, rfl⟩
    · rw [if_neg q]
      exact ⟨iv, Sam.rf⟩
  obtain ⟨i1, s1⟩ := h1
  generalize chanH A n = B at i1 s1 ⊢
  unfold chanD
  by_cases q : n % 5 = 1 ∧ 0 < aN B 2
  · rw [if_pos q]
    obtain ⟨m, g1, g2⟩ := i1.depot (n / 8 % aN B 2) (Nat.mod_lt _ q.2)
    have h30 : n / 64 % 30 < 30 := Nat.mod_lt _ (by decide)
    refine ⟨i1.stock (q := min 999 (m + n / 64 % 30)) ?_ (by omega), s1⟩
    rw [g1, nI_add, mn_n (by decide) (by omega)]
  · rw [if_neg q]
    exact ⟨i1, s1⟩
theorem c_chance (h : CR S A w fl st) (iv : Inv A) {n : Nat} (hn : n < 2 ^ 31) : ∃ S', pX4_meetChance (nI n) S = some S' ∧ CR S' (chanD (chanH A n) n) w fl st := by
  have h3 := cnt3 iv
  have h2 : aN A 2 ≤ 4 := iv.cnt 2 (by decide)
  have hd8 : n / 8 < 2 ^ 31 := by omega
  have hd64 : n / 64 < 2 ^ 31 := by omega
  have b47 : ∀ (S : mM) (B : aA), CR S B w fl st → aN B = aN A → ∃ S', pX4_meetChance_b47 (nI n) (nI (aN A 2)) S = some S' ∧ CR S' (chanD B n) w fl st := by
    intro S B hB hN
    unfold pX4_meetChance_b47 chanD
    rw [pk_rem hn (by decide) (by decide), n_eq (by omega) (by decide), hN]
    by_cases q : n % 5 = 1
    · rw [if_pos q, n_le0 (by omega)]
      by_cases q2 : aN A 2 = 0
      · rw [if_pos q2, if_neg (by omega)]
        exact ⟨S, rfl, hB⟩
      · rw [if_neg q2, if_pos ⟨q, by omega⟩]
        have hlt : n / 8 % aN A 2 < aN A 2 := Nat.mod_lt _ (by omega)
        have hB2 : n / 8 % aN A 2 < aN B 2 := by rw [hN]; exact hlt
        have hz : ¬ (nI (aN A 2) = 0) := by rw [P_eq0 (by omega)]; exact q2
        unfold nz
        rw [gd_p (decide_eq_true hz), pk_div hn (by decide) (by decide), pk_rem hd8 (by omega) (by omega), vl_e, C_getD hB.1 hB2 (by decide), cr1_s, pk_div hn (by decide) (by decide), pk_rem hd64 (by decide) (by decide), vl_e]
        obtain ⟨S1, e1, r1, z1⟩ := C_put (ρ := mM) hB.1 (k := 2) (o := 5) (n := 8) (i := n / 8 % aN A 2) (j := 1) (if aT B 2 (n / 8 % aN A 2) 1 + nI (n / 64 % 30) < nI 999 then aT B 2 (n / 8 % aN A 2) 1 + nI (n / 64 % 30) else nI 999) (by decide) rfl rfl hB2 (by decide)
        rw [e1]
        exact ⟨S1, rfl, hB.to r1 z1⟩
    · rw [if_neg q, if_neg (fun z => q z.1)]
      exact ⟨S, rfl, hB⟩
  unfold pX4_meetChance
  rw [C_cntC h.1, cr1_s, C_cntD h.1, cr1_s, pk_rem hn (by decide) (by decide), n_eq0 (by omega)]
  by_cases q : n % 5 = 0
  · rw [if_pos q, n_le0 (by omega)]
    by_cases q2 : aN A 3 = 0
    · rw [if_pos q2, show chanH A n = A from if_neg (by omega)]
      exact b47 S A h rfl
    · have hlt : n / 8 % aN A 3 < aN A 3 := Nat.mod_lt _ (by omega)
      have hz : ¬ (nI (aN A 3) = 0) := by rw [P_eq0 (by omega)]; exact q2
      rw [if_neg q2, show chanH A n = aPut A 3 (n / 8 % aN A 3) 1 (nI (n / 64 % 6)) from if_pos ⟨q, by omega⟩]
      unfold nz
      rw [gd_p (decide_eq_true hz), pk_div hn (by decide) (by decide), pk_rem hd8 (by omega) (by omega), pk_div hn (by decide) (by decide), pk_rem hd64 (by decide) (by decide)]
      obtain ⟨S1, e1, r1, z1⟩ := C_put (ρ := mM) h.1 (k := 3) (o := 7) (n := 16) (i := n / 8 % aN A 3) (j := 1) (nI (n / 64 % 6)) (by decide) rfl rfl hlt (by decide)
      rw [e1]
      exact b47 S1 _ (h.to r1 z1) rfl
  · rw [if_neg q, show chanH A n = A from if_neg (fun z => q z.1)]
    exact b47 S A h rfl
end CHANCE
