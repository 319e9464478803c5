/-! ===== tables and lines: what their programs compute ===== -/
theorem P_le {a b : Nat} (ha : a < 2 ^ 31) (hb : b < 2 ^ 31) : (nI a ≤ nI b) = (a ≤ b) := propext (nI_leI ha hb)
theorem P_lt {a b : Nat} (ha : a < 2 ^ 31) (hb : b < 2 ^ 31) : (nI a < nI b) = (a < b) := propext (nI_ltI ha hb)
theorem P_eq {a b : Nat} (ha : a < 2 ^ 31) (hb : b < 2 ^ 31) : (nI a = nI b) = (a = b) := propext (nI_eq ha hb)
theorem P_eq0 {a : Nat} (ha : a < 2 ^ 31) : (nI a = 0) = (a = 0) := by rw [← nI_0]; exact P_eq ha (by decide)
theorem P_lt0 {a : Nat} (ha : a < 2 ^ 31) : (nI a < 0) = False := eq_false (nI_pos ha)
theorem P_le0 {a : Nat} (ha : a < 2 ^ 31) : (nI a ≤ 0) = (a = 0) := by
  rw [← nI_0, P_le ha (by decide)]
  exact propext (by omega)
theorem P_gt0 {a : Nat} (ha : a < 2 ^ 31) : ((0 : Int32) < nI a) = (0 < a) := by
  rw [← nI_0, P_lt (by decide) ha]
theorem P_eqN {a : Nat} (ha : a < 2 ^ 31) : (nI a = -9) = False := by
  refine eq_false (fun h => ?_)
  have h1 := nI_toInt ha
  rw [h] at h1
  have : ((-9 : Int32)).toInt = -9 := by decide
  omega
section IFS
variable {α : Type} {x y : α}
theorem n_if {p q : Prop} [Decidable p] [Decidable q] (h : p = q) : (if p then x else y) = if q then x else y := by
  by_cases z : q
  · rw [if_pos z, if_pos (by rw [h]; exact z)]
  · rw [if_neg z, if_neg (by rw [h]; exact z)]
theorem n_le {a b : Nat} (ha : a < 2 ^ 31) (hb : b < 2 ^ 31) : (if nI a ≤ nI b then x else y) = if a ≤ b then x else y := n_if (P_le ha hb)
theorem n_lt {a b : Nat} (ha : a < 2 ^ 31) (hb : b < 2 ^ 31) : (if nI a < nI b then x else y) = if a < b then x else y := n_if (P_lt ha hb)
theorem n_eq {a b : Nat} (ha : a < 2 ^ 31) (hb : b < 2 ^ 31) : (if nI a = nI b then x else y) = if a = b then x else y := n_if (P_eq ha hb)
theorem n_eq0 {a : Nat} (ha : a < 2 ^ 31) : (if nI a = 0 then x else y) = if a = 0 then x else y := n_if (P_eq0 ha)
theorem n_lt0 {a : Nat} (ha : a < 2 ^ 31) : (if nI a < 0 then x else y) = if False then x else y := n_if (P_lt0 ha)
theorem n_le0 {a : Nat} (ha : a < 2 ^ 31) : (if nI a ≤ 0 then x else y) = if a = 0 then x else y := n_if (P_le0 ha)
theorem n_gt0 {a : Nat} (ha : a < 2 ^ 31) : (if (0 : Int32) < nI a then x else y) = if 0 < a then x else y := n_if (P_gt0 ha)
theorem n_eqN {a : Nat} (ha : a < 2 ^ 31) : (if nI a = -9 then x else y) = if False then x else y := n_if (P_eqN ha)
end IFS
theorem n_gl {i co j : Nat} : nI i * nI co + nI j = nI (i * co + j) := by rw [pk_mul, nI_add]
theorem cell_lt {i j mx co : Nat} (hi : i < mx) (hj : j < co) : i * co + j < mx * co := by
  have h1 : (i + 1) * co ≤ mx * co := Nat.mul_le_mul_right co hi
  rw [Nat.add_mul, Nat.one_mul] at h1
  omega
theorem cell_ne {i j a b co : Nat} (hj : j < co) (hb : b < co) (h : i ≠ a ∨ j ≠ b) : i * co + j ≠ a * co + b := by
  intro e
  have h1 : (i * co + j) / co = (a * co + b) / co := by rw [e]
  have h2 : (i * co + j) % co = (a * co + b) % co := by rw [e]
  have hc : 0 < co := by omega
  rw [Nat.mul_comm i, Nat.mul_comm a, Nat.mul_add_div hc, Nat.mul_add_div hc, Nat.div_eq_of_lt hj, Nat.div_eq_of_lt hb] at h1
  rw [Nat.mul_comm i, Nat.mul_comm a, Nat.mul_add_mod, Nat.mul_add_mod, Nat.mod_eq_of_lt hj, Nat.mod_eq_of_lt hb] at h2
  omega
/-- a table: at most mx rows of co numbers, cnt rows, which hold f -/
def TabRep (T : mM) (mx co cnt : Nat) (f : Nat → Nat → Int32) : Prop := T 0 0 = nI mx ∧ T 0 1 = nI co ∧ T 0 3 = nI cnt ∧ cnt ≤ mx ∧ ∀ i j, i < cnt → j < co → T 1 (i * co + j) = f i j
section TAB
variable {T : mM} {mx co cnt n : Nat} {f : Nat → Nat → Int32}
theorem tab_ix (h : TabRep T mx co cnt f) (hs : mx * co < 2 ^ 20) {i j : Nat} (hi : i < cnt) (hj : j < co) : i * co + j < mx * co ∧ mx < 2 ^ 20 ∧ co < 2 ^ 20 ∧ cnt < 2 ^ 20 := by
  have hm : cnt ≤ mx := h.2.2.2.1
  refine ⟨cell_lt (by omega) hj, ?_⟩
  have h0 : 0 < co := by omega
  have h1 : 0 < mx := by omega
  have h2 : mx * 1 ≤ mx * co := Nat.mul_le_mul_left mx h0
  have h3 : 1 * co ≤ mx * co := Nat.mul_le_mul_right co h1
  omega
theorem tab_get (h : TabRep T mx co cnt f) (hs : mx * co < 2 ^ 20) (hn : n = mx * co) {i j : Nat} (hi : i < cnt) (hj : j < co) : pX5_get n (nI i) (nI j) T = some (f i j) := by
  obtain ⟨k1, k2, k3, k4⟩ := tab_ix h hs hi hj
  subst hn
  obtain ⟨e0, e1, e3, hm, hf⟩ := h
  unfold pX5_get
  rw [gf_e, vl_e, e1, n_gl, n_lt0 (by omega), if_neg (by simp), gf_e, e3, n_le (by omega) (by omega), if_neg (by omega), n_lt0 (by omega), if_neg (by simp), gf_e, e1, n_le (by omega) (by omega), if_neg (by omega)]
  unfold pX5_get_b38
  rw [n_eq0 (by omega), if_neg (by omega), n_lt0 (by omega), if_neg (by simp), n_le (by omega) (by omega), if_neg (by omega), ld_n k1 (by omega), hf i j hi hj]
theorem tab_get_b37 (x : Int32) : pX5_get_b37 n T x = some (-9) := by
  unfold pX5_get_b37 pX5_get_b38
  rw [n_eq0 (by decide), if_pos rfl]
theorem tab_out (h : TabRep T mx co cnt f) {x : Int32} (y : Int32) (hx : x < 0 ∨ nI cnt ≤ x) : pX5_get n x y T = some (-9) := by
  obtain ⟨e0, e1, e3, hm, hf⟩ := h
  unfold pX5_get
  rw [gf_e, vl_e]
  by_cases h1 : x < 0
  · rw [if_pos h1, tab_get_b37]
  · rw [if_neg h1, gf_e, e3, if_pos (by rcases hx with q | q; exact absurd q h1; exact q), tab_get_b37]
theorem tab_set (h : TabRep T mx co cnt f) {i j : Nat} (x : Int32) (hi : i < cnt) (hj : j < co) : TabRep (sto T 1 (i * co + j) x) mx co cnt (fun a b => if a = i ∧ b = j then x else f a b) := by
  obtain ⟨e0, e1, e3, hm, hf⟩ := h
  refine ⟨by rw [sto_k (by decide)]; exact e0, by rw [sto_k (by decide)]; exact e1, by rw [sto_k (by decide)]; exact e3, hm, fun a b ha hb => ?_⟩
  by_cases q : a = i ∧ b = j
  · obtain ⟨rfl, rfl⟩ := q
    rw [sto_i]
    exact (if_pos ⟨rfl, rfl⟩).symm
  · rw [sto_j (cell_ne hb hj (by omega)), hf a b ha hb]
    exact (if_neg q).symm
theorem tab_put (h : TabRep T mx co cnt f) (hs : mx * co < 2 ^ 20) (hn : n = mx * co) {i j : Nat} (x : Int32) (hi : i < cnt) (hj : j < co) : pX5_put n (nI i) (nI j) x T = some (sto T 1 (i * co + j) x) := by
  obtain ⟨k1, k2, k3, k4⟩ := tab_ix h hs hi hj
  subst hn
  obtain ⟨e0, e1, e3, hm, hf⟩ := h
  unfold pX5_put
  rw [gf_e, vl_e, e1, n_gl, n_lt0 (by omega), if_neg (by simp), gf_e, e3, n_le (by omega) (by omega), if_neg (by omega), n_lt0 (by omega), if_neg (by simp), gf_e, e1, n_le (by omega) (by omega), if_neg (by omega)]
  unfold pX5_put_b39
  rw [n_eq0 (by omega), if_neg (by omega), n_lt0 (by omega), if_neg (by simp), n_le (by omega) (by omega), if_neg (by omega), st_n k1 (by omega)]
theorem tab_raise (h : TabRep T mx co cnt f) (hs : mx * co < 2 ^ 20) (hn : n = mx * co) {i j : Nat} (x : Int32) (hi : i < cnt) (hj : j < co) : pX5_raise n (nI i) (nI j) x T = some (sto T 1 (i * co + j) (f i j + x)) := by
  obtain ⟨k1, k2, k3, k4⟩ := tab_ix h hs hi hj
  subst hn
  obtain ⟨e0, e1, e3, hm, hf⟩ := h
  unfold pX5_raise
  rw [gf_e, vl_e, e1, n_gl, n_lt0 (by omega), if_neg (by simp), gf_e, e3, n_le (by omega) (by omega), if_neg (by omega), n_lt0 (by omega), if_neg (by simp), gf_e, e1, n_le (by omega) (by omega), if_neg (by omega)]
  unfold pX5_raise_b39
  rw [n_eq0 (by omega), if_neg (by omega), n_lt0 (by omega), if_neg (by simp), n_le (by omega) (by omega), if_neg (by omega), ld_n k1 (by omega), st_n k1 (by omega), hf i j hi hj]
theorem tab_count (h : TabRep T mx co cnt f) : pX5_count n T = some (nI cnt) := by
  unfold pX5_count
  rw [gf_e, h.2.2.1]
theorem tab_full (h : TabRep T mx co cnt f) (hs : mx < 2 ^ 20) : pX5_isFull n T = some (if cnt < mx then nI 0 else nI 1) := by
  have hm := h.2.2.2.1
  unfold pX5_isFull
  rw [gf_e, gf_e, h.1, h.2.2.1, n_lt (by omega) (by omega), gd_p isZ_0, gd_p isZ_1]
  by_cases q : cnt < mx
  · rw [if_pos q, if_pos q]
  · rw [if_neg q, if_neg q]
theorem tab_has (h : TabRep T mx co cnt f) (x : Int32) : pX5_has n x T = some (if x < 0 ∨ nI cnt ≤ x then nI 0 else nI 1) := by
  unfold pX5_has
  rw [gf_e, h.2.2.1, gd_p isZ_0, gd_p isZ_1]
  by_cases q : x < 0
  · rw [if_pos q, if_pos (Or.inl q)]
  · rw [if_neg q]
    by_cases q2 : nI cnt ≤ x
    · rw [if_pos q2, if_pos (Or.inr q2)]
    · rw [if_neg q2, if_neg (by rintro (z | z); exact q z; exact q2 z)]
/-- the first row from i on whose first number is x; none: -9 -/
theorem tab_rowAt_loop (h : TabRep T mx co cnt f) (hs : mx * co < 2 ^ 20) (hn : n = mx * co) (hc : 0 < co) (x : Int32) : ∀ (m i k : Nat), i + m = cnt → m < k →
    (∃ g, i ≤ g ∧ g < cnt ∧ f g 0 = x ∧ (∀ a, i ≤ a → a < g → f a 0 ≠ x) ∧ pX5_rowAt_l2 n T k x (nI i) = some (nI g)) ∨ ((∀ a, i ≤ a → a < cnt → f a 0 ≠ x) ∧ pX5_rowAt_l2 n T k x (nI i) = some (-9)) := by
  intro m
  have hb : cnt < 2 ^ 20 := by
    have hm : cnt ≤ mx := h.2.2.2.1
    have h2 : mx * 1 ≤ mx * co := Nat.mul_le_mul_left mx hc
    omega
  induction m with
  | zero =>
    intro i k hi hk
    obtain ⟨k, rfl⟩ : ∃ q, k = q + 1 := ⟨k - 1, by omega⟩
    refine Or.inr ⟨fun a h1 h2 => by omega, ?_⟩
    show pX5_rowAt_lb2 n (pX5_rowAt_l2 n T k) T x (nI i) = _
    unfold pX5_rowAt_lb2
    rw [gf_e, h.2.2.1, n_le (by omega) (by omega), if_pos (by omega)]
  | succ m ih =>
    intro i k hi hk
    obtain ⟨k, rfl⟩ : ∃ q, k = q + 1 := ⟨k - 1, by omega⟩
    have e : pX5_rowAt_l2 n T (k + 1) x (nI i) = if f i 0 = x then some (nI i) else pX5_rowAt_l2 n T k x (nI (i + 1)) := by
      show pX5_rowAt_lb2 n (pX5_rowAt_l2 n T k) T x (nI i) = _
      unfold pX5_rowAt_lb2
      rw [gf_e, h.2.2.1, n_le (by omega) (by omega), if_neg (by omega), tab_get h hs hn (by omega) hc, cr1_s, vl_e, nI_add]
    rw [e]
    by_cases q : f i 0 = x
    · rw [if_pos q]
      exact Or.inl ⟨i, Nat.le_refl _, by omega, q, fun a h1 h2 => by omega, rfl⟩
    · rw [if_neg q]
      rcases ih (i + 1) k (by omega) (by omega) with ⟨g, h1, h2, h3, h4, h5⟩ | ⟨h1, h2⟩
      · refine Or.inl ⟨g, by omega, h2, h3, fun a ha hg => ?_, h5⟩
        by_cases qa : a = i
        · rw [qa]; exact q
        · exact h4 a (by omega) hg
      · refine Or.inr ⟨fun a ha hg => ?_, h2⟩
        by_cases qa : a = i
        · rw [qa]; exact q
        · exact h1 a (by omega) hg
theorem tab_rowAt (h : TabRep T mx co cnt f) (hs : mx * co < 2 ^ 12) (hn : n = mx * co) (hc : 0 < co) (x : Int32) :
    (∃ g, g < cnt ∧ f g 0 = x ∧ (∀ a, a < g → f a 0 ≠ x) ∧ pX5_rowAt n x T = some (nI g)) ∨ ((∀ a, a < cnt → f a 0 ≠ x) ∧ pX5_rowAt n x T = some (-9)) := by
  have hb : cnt < 2 ^ 12 := by
    have hm : cnt ≤ mx := h.2.2.2.1
    have h2 : mx * 1 ≤ mx * co := Nat.mul_le_mul_left mx hc
    omega
  rcases tab_rowAt_loop h (by omega) hn hc x cnt 0 fuel (by omega) (by unfold fuel; omega) with ⟨g, h1, h2, h3, h4, h5⟩ | ⟨h1, h2⟩
  · exact Or.inl ⟨g, h2, h3, fun a ha => h4 a (Nat.zero_le _) ha, h5⟩
  · exact Or.inr ⟨fun a ha => h1 a (Nat.zero_le _) ha, h2⟩
/-- the sum of a column -/
def colSum (f : Nat → Nat → Int32) (j : Nat) : Nat → Int32
  | 0 => nI 0
  | k + 1 => colSum f j k + f k j
theorem tab_sum_loop (h : TabRep T mx co cnt f) (hs : mx * co < 2 ^ 20) (hn : n = mx * co) {j : Nat} (hj : j < co) : ∀ (m i k : Nat), i + m = cnt → m < k → pX5_sum_l4 n T k (nI j) (colSum f j i) (nI i) = some (colSum f j cnt) := by
  intro m
  have hb : cnt < 2 ^ 20 := by
    have hm : cnt ≤ mx := h.2.2.2.1
    have h2 : mx * 1 ≤ mx * co := Nat.mul_le_mul_left mx (by omega)
    omega
  induction m with
  | zero =>
    intro i k hi hk
    obtain ⟨k, rfl⟩ : ∃ q, k = q + 1 := ⟨k - 1, by omega⟩
    show pX5_sum_lb4 n (pX5_sum_l4 n T k) T (nI j) _ (nI i) = _
    unfold pX5_sum_lb4
    rw [gf_e, h.2.2.1, n_le (by omega) (by omega), if_pos (by omega), show i = cnt by omega]
  | succ m ih =>
    intro i k hi hk
    obtain ⟨k, rfl⟩ : ∃ q, k = q + 1 := ⟨k - 1, by omega⟩
    show pX5_sum_lb4 n (pX5_sum_l4 n T k) T (nI j) _ (nI i) = _
    unfold pX5_sum_lb4
    rw [gf_e, h.2.2.1, n_le (by omega) (by omega), if_neg (by omega), tab_get h hs hn (by omega) hj, cr1_s, vl_e, vl_e, nI_add]
    exact ih (i + 1) k (by omega) (by omega)
theorem tab_sum (h : TabRep T mx co cnt f) (hs : mx * co < 2 ^ 12) (hn : n = mx * co) {j : Nat} (hj : j < co) : pX5_sum n (nI j) T = some (colSum f j cnt) := by
  have hb : cnt < 2 ^ 12 := by
    have hm : cnt ≤ mx := h.2.2.2.1
    have h2 : mx * 1 ≤ mx * co := Nat.mul_le_mul_left mx (by omega)
    omega
  exact tab_sum_loop h (by omega) hn hj cnt 0 fuel (by omega) (by unfold fuel; omega)
end TAB
