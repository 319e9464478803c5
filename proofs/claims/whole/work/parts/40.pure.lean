/-! ===== programs computed: words, places, small numbers ===== -/
section PU
variable {ρ α : Type}
theorem cr1_s (a : α) (K : α → Option ρ) : cr1 (some a) K = K a := rfl
theorem cw2_s (a : α) (S1 : mM) (K : α → mM → Option ρ) : cw2 (some (a, S1)) K = K a S1 := rfl
theorem cws_s (S : mM) (o n' : Nat) (a : α) (T : mM) (K : α → mM → Option ρ) : cws S o n' (some (a, T)) K = K a (wB S o n' T) := rfl
theorem cvs_s (S : mM) (o n' : Nat) (T : mM) (K : mM → Option ρ) : cvs S o n' (some T) K = K (wB S o n' T) := rfl
theorem bx_n (t : String → Option ρ) (K : Option ρ) : bx (some none) t K = K := rfl
theorem bx_e (E : String) (t : String → Option ρ) (K : Option ρ) : bx (some (some E)) t K = t E := rfl
theorem bo_n (A : Option ρ) (K : Nat → Option ρ) : bo (some none) A K = A := rfl
theorem bo_s (k : Nat) (A : Option ρ) (K : Nat → Option ρ) : bo (some (some k)) A K = K k := rfl
theorem gd_t (k : Option ρ) : gd true k = k := rfl
theorem gd_p {b : Bool} (h : b = true) (k : Option ρ) : gd b k = k := by rw [h]; rfl
theorem gf_e (S : mM) (k j : Nat) (K : Int32 → Option ρ) : gf S k j K = K (S k j) := rfl
theorem pf_e (S : mM) (k j : Nat) (x : Int32) (K : mM → Option ρ) : pf S k j x K = K (sto S k j x) := rfl
theorem vl_e (x : α) (K : α → Option ρ) : vl x K = K x := rfl
theorem isZ_0 : isZ (nI 0) = true := by decide
theorem isZ_1 : isZ (nI 1) = true := by decide
theorem pz_0 (S : mM) (k j : Nat) (K : mM → Option ρ) : pz S k j (nI 0) K = K (sto S k j (nI 0)) := gd_p isZ_0 _
theorem pz_1 (S : mM) (k j : Nat) (K : mM → Option ρ) : pz S k j (nI 1) K = K (sto S k j (nI 1)) := gd_p isZ_1 _
theorem sto_a (S : mM) (k i : Nat) (x : Int32) (a j : Nat) : sto S k i x a j = if a = k ∧ j = i then x else S a j := by
  unfold sto u2 upd
  by_cases h : a = k
  · subst h
    by_cases h2 : j = i
    · simp [h2]
    · simp [h2]
  · simp [h]
theorem sto_i (S : mM) (k i : Nat) (x : Int32) : sto S k i x k i = x := by simp [sto_a]
theorem sto_k {S : mM} {k i a : Nat} {x : Int32} (h : a ≠ k) : sto S k i x a = S a := by
  funext j
  simp [sto_a, h]
theorem sto_j {S : mM} {k i j : Nat} {x : Int32} (h : j ≠ i) : sto S k i x k j = S k j := by simp [sto_a, h]
theorem sto_n {S : mM} {k i a j : Nat} {x : Int32} (h : a ≠ k ∨ j ≠ i) : sto S k i x a j = S a j := by
  rw [sto_a, if_neg]
  intro q
  rcases h with h | h
  · exact h q.1
  · exact h q.2
theorem inB_n {j N : Nat} (h : j < N) (hN : N < 2 ^ 31) : inB (nI j) N = true := decide_eq_true (vp_in_nI h hN)
theorem ld_n {S : mM} {k N j : Nat} {K : Int32 → Option ρ} (h : j < N) (hN : N < 2 ^ 31) : ld S k N (nI j) K = K (S k j) := by
  unfold ld
  rw [inB_n h hN, gd_t, nI_clamp (by omega)]
theorem st_n {S : mM} {k N j : Nat} {x : Int32} {K : mM → Option ρ} (h : j < N) (hN : N < 2 ^ 31) : st S k N (nI j) x K = K (sto S k j x) := by
  unfold st
  rw [inB_n h hN, gd_t, nI_clamp (by omega)]
theorem sB_e (S : mM) (o k : Nat) : sB S o k = S (o + k) := rfl
theorem wB_sto {S T : mM} {o n k i : Nat} {x : Int32} (h : k < n) : wB S o n (sto T k i x) = sto (wB S o n T) (o + k) i x := by
  funext a j
  rw [sto_a]
  unfold wB
  by_cases h1 : o ≤ a ∧ a < o + n
  · rw [if_pos h1, if_pos h1, sto_a]
    by_cases h2 : a - o = k ∧ j = i
    · rw [if_pos h2, if_pos ⟨by omega, h2.2⟩]
    · rw [if_neg h2, if_neg (fun q => h2 ⟨by omega, q.2⟩)]
  · rw [if_neg h1, if_neg (by omega), if_neg h1]
theorem sB_sto {S : mM} {o k i : Nat} {x : Int32} : sB (sto S (o + k) i x) o = sto (sB S o) k i x := by
  funext a j
  rw [sB_e, sto_a, sto_a, sB_e]
  by_cases h : a = k ∧ j = i
  · rw [if_pos h, if_pos ⟨by omega, h.2⟩]
  · rw [if_neg h, if_neg (fun q => h ⟨by omega, q.2⟩)]
end PU
