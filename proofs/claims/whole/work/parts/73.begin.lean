/-! ===== an empty road ===== -/
def emA (L : Int32) : aA := (fun a => if a = 0 then L else nI 0, fun _ => 0, fun _ _ _ => nI 0, fun _ _ => [])
theorem emA_inv (L : Int32) : Inv (emA L) :=
  ⟨fun _ _ => Nat.zero_le _, fun _ _ _ _ hi => absurd hi (Nat.not_lt_zero _), fun _ hi => absurd hi (Nat.not_lt_zero _), fun _ hi => absurd hi (Nat.not_lt_zero _), fun _ hi => absurd hi (Nat.not_lt_zero _), fun _ hi => absurd hi (Nat.not_lt_zero _), fun _ hi => absurd hi (Nat.not_lt_zero _), fun _ hi => absurd hi (Nat.not_lt_zero _), fun _ _ => rfl, fun _ _ => rfl⟩
/-- no depot holds more than it may -/
def Dep (A : aA) : Prop := ∀ d, d < aN A 2 → ∃ q, aT A 2 d 1 = nI q ∧ q ≤ 999
theorem emA_dep (L : Int32) : Dep (emA L) := fun _ hd => absurd hd (Nat.not_lt_zero _)
theorem Dep.same {A B : aA} (h : Dep A) (hn : aN B 2 = aN A 2) (ht : ∀ d, aT B 2 d 1 = aT A 2 d 1) : Dep B := fun d hd => by
  rw [ht]
  exact h d (by rw [← hn]; exact hd)
theorem Dep.new {A : aA} {k : Nat} {v : Nat → Int32} (h : Dep A) (hv : k = 2 → ∃ q, v 1 = nI q ∧ q ≤ 999) : Dep (newT A k v) := fun d hd => by
  rw [newT_T]
  by_cases q : 2 = k ∧ d = aN A k
  · rw [if_pos q]
    exact hv q.1.symm
  · rw [if_neg q]
    refine h d ?_
    rw [newT_N] at hd
    by_cases z : 2 = k
    · subst z
      rw [if_pos rfl] at hd
      have : d ≠ aN A 2 := fun e => q ⟨rfl, e⟩
      omega
    · rw [if_neg z] at hd
      exact hd
theorem Dep.car {A : aA} {c : Nat} {a1 a2 a3 a4 : Int32} (h : Dep A) : Dep (newV A c a1 a2 a3 a4) :=
  h.new (k := 4) (v := nv [a1, a2, a3, a4, nI 0, nI c, nI 0]) (fun z => absurd z (by decide))
section BEGIN
variable {S : mM} {A : aA}
theorem emA_row {r : Nat → Int32} {L : Int32} (h0 : r 0 = L) (h : ∀ q, 0 < q → q < 250 → r q = nI 0) : RepR r (emA L) := by
  refine ⟨⟨h0, h 1 (by decide) (by decide)⟩, fun k hk => ⟨h _ (by omega) (by omega), Nat.zero_le _⟩, fun k i j _ hi _ => absurd hi (Nat.not_lt_zero _), fun k i _ hi => absurd hi (Nat.not_lt_zero _), ?_⟩
  rw [h 7 (by decide) (by decide)]
  rfl
theorem tab_clear {ρ : Type} {o n : Nat} {T : mM} (K : mM → Option ρ) : cvs T o 2 (pX5_emptyOut n (sB T o)) K = K (sto T o 3 (nI 0)) := by
  unfold pX5_emptyOut
  rw [pf_e, cvs_s, wB_sto (by decide), wB_self, Nat.add_zero]
theorem c_begin (hs : StatC S) (L : Int32) : ∃ S', pX4_begin L S = some S' ∧ RepC S' (emA L) ∧ ∀ j, 8 < j → S' 0 j = S 0 j := by
  obtain ⟨h1, h2, h3⟩ := hs
  unfold pX4_begin
  rw [pf_e, pf_e, tab_clear, tab_clear, tab_clear, tab_clear, tab_clear]
  have k0 : (sto (sto (sto (sto (sto (sto (sto S 0 7 L) 0 8 (nI 0)) 1 3 (nI 0)) 3 3 (nI 0)) 5 3 (nI 0)) 7 3 (nI 0)) 9 3 (nI 0)) 0 7 = L := by
    rw [sto_k (by decide), sto_k (by decide), sto_k (by decide), sto_k (by decide), sto_k (by decide), sto_j (by decide), sto_i]
  have k1 : (sto (sto (sto (sto (sto (sto (sto S 0 7 L) 0 8 (nI 0)) 1 3 (nI 0)) 3 3 (nI 0)) 5 3 (nI 0)) 7 3 (nI 0)) 9 3 (nI 0)) 0 8 = nI 0 := by
    rw [sto_k (by decide), sto_k (by decide), sto_k (by decide), sto_k (by decide), sto_k (by decide), sto_i]
  have kj : ∀ j, 8 < j → (sto (sto (sto (sto (sto (sto (sto S 0 7 L) 0 8 (nI 0)) 1 3 (nI 0)) 3 3 (nI 0)) 5 3 (nI 0)) 7 3 (nI 0)) 9 3 (nI 0)) 0 j = S 0 j := fun j hj => by
    rw [sto_k (by decide), sto_k (by decide), sto_k (by decide), sto_k (by decide), sto_k (by decide), sto_j (by omega), sto_j (by omega)]
  have kt : ∀ k, k < 5 → (sto (sto (sto (sto (sto (sto (sto S 0 7 L) 0 8 (nI 0)) 1 3 (nI 0)) 3 3 (nI 0)) 5 3 (nI 0)) 7 3 (nI 0)) 9 3 (nI 0)) (1 + 2 * k) 3 = nI 0 := fun k hk => by
    rcases k5 hk with rfl | rfl | rfl | rfl | rfl
    · rw [sto_k (by decide), sto_k (by decide), sto_k (by decide), sto_k (by decide)]
      exact sto_i _ _ _ _
    · rw [sto_k (by decide), sto_k (by decide), sto_k (by decide)]
      exact sto_i _ _ _ _
    · rw [sto_k (by decide), sto_k (by decide)]
      exact sto_i _ _ _ _
    · rw [sto_k (by decide)]
      exact sto_i _ _ _ _
    · exact sto_i _ _ _ _
  have km : ∀ k j, k < 5 → j < 2 → (sto (sto (sto (sto (sto (sto (sto S 0 7 L) 0 8 (nI 0)) 1 3 (nI 0)) 3 3 (nI 0)) 5 3 (nI 0)) 7 3 (nI 0)) 9 3 (nI 0)) (1 + 2 * k) j = S (1 + 2 * k) j := fun k j hk hj => by
    rw [sto_n (Or.inr (by omega)), sto_n (Or.inr (by omega)), sto_n (Or.inr (by omega)), sto_n (Or.inr (by omega)), sto_n (Or.inr (by omega)), sto_k (by omega), sto_k (by omega)]
  have kl : ∀ a, 10 < a → (sto (sto (sto (sto (sto (sto (sto S 0 7 L) 0 8 (nI 0)) 1 3 (nI 0)) 3 3 (nI 0)) 5 3 (nI 0)) 7 3 (nI 0)) 9 3 (nI 0)) a = S a := fun a ha => by
    rw [sto_k (by omega), sto_k (by omega), sto_k (by omega), sto_k (by omega), sto_k (by omega), sto_k (by omega), sto_k (by omega)]
  generalize sto (sto (sto (sto (sto (sto (sto S 0 7 L) 0 8 (nI 0)) 1 3 (nI 0)) 3 3 (nI 0)) 5 3 (nI 0)) 7 3 (nI 0)) 9 3 (nI 0) = T at k0 k1 kj kt km kl ⊢
  obtain ⟨U, u1, u2⟩ := lin_clear (T := sB T 11) (L := 4) (mo := 8) (n1 := 4) (n2 := 32) rfl (by decide) (by show T 11 0 = _; rw [kl 11 (by decide)]; exact h2)
  rw [u1, cvs_s]
  obtain ⟨V, v1, v2⟩ := lin_clear (T := sB (wB T 11 3 U) 14) (L := 6) (mo := 6) (n1 := 6) (n2 := 36) rfl (by decide) (by
    show wB T 11 3 U 14 0 = _
    rw [wB_out (by omega), kl 14 (by decide)]
    exact h3)
  rw [v1, cvs_s]
  have lo : ∀ a, a < 11 → wB (wB T 11 3 U) 14 3 V a = T a := fun a ha => by rw [wB_out (by omega), wB_out (by omega)]
  refine ⟨_, rfl, ⟨⟨by rw [lo 0 (by decide)]; exact k0, by rw [lo 0 (by decide)]; exact k1⟩, fun k hk => ?_, ?_, ?_⟩, fun j hj => by rw [lo 0 (by decide)]; exact kj j hj⟩
  · have e0 : sB (wB (wB T 11 3 U) 14 3 V) (1 + 2 * k) 0 = T (1 + 2 * k) := lo (1 + 2 * k) (by omega)
    refine ⟨?_, ?_, ?_, Nat.zero_le _, fun i j hi => absurd hi (Nat.not_lt_zero _)⟩
    · rw [e0, km k 0 hk (by decide)]
      exact (h1 k hk).1
    · rw [e0, km k 1 hk (by decide)]
      exact (h1 k hk).2
    · rw [e0]
      exact kt k hk
  · refine u2.ext ?_ ?_ ?_
    · show wB (wB T 11 3 U) 14 3 V (11 + 0) = _
      rw [wB_out (by omega), wB_at (by decide)]
    · show wB (wB T 11 3 U) 14 3 V (11 + 1) = _
      rw [wB_out (by omega), wB_at (by decide)]
    · show wB (wB T 11 3 U) 14 3 V (11 + 2) = _
      rw [wB_out (by omega), wB_at (by decide)]
  · refine v2.ext ?_ ?_ ?_
    · show wB (wB T 11 3 U) 14 3 V (14 + 0) = _
      rw [wB_at (by decide)]
    · show wB (wB T 11 3 U) 14 3 V (14 + 1) = _
      rw [wB_at (by decide)]
    · show wB (wB T 11 3 U) 14 3 V (14 + 2) = _
      rw [wB_at (by decide)]
end BEGIN
