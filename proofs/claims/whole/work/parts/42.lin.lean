/-! ===== adding a row; lines of vehicles ===== -/
theorem TabRep.ext {T T' : mM} {mx co cnt : Nat} {f : Nat → Nat → Int32} (h : TabRep T mx co cnt f) (h0 : T' 0 = T 0) (h1 : T' 1 = T 1) : TabRep T' mx co cnt f := by
  obtain ⟨e0, e1, e3, hm, hf⟩ := h
  exact ⟨by rw [h0]; exact e0, by rw [h0]; exact e1, by rw [h0]; exact e3, hm, fun i j hi hj => by rw [h1]; exact hf i j hi hj⟩
theorem TabRep.to {T : mM} {mx co cnt : Nat} {f g : Nat → Nat → Int32} (h : TabRep T mx co cnt f) (hg : ∀ i j, i < cnt → j < co → f i j = g i j) : TabRep T mx co cnt g :=
  ⟨h.1, h.2.1, h.2.2.1, h.2.2.2.1, fun i j hi hj => by rw [h.2.2.2.2 i j hi hj, hg i j hi hj]⟩
theorem wB_out {S T : mM} {o n a : Nat} (h : a < o ∨ o + n ≤ a) : wB S o n T a = S a := by
  unfold wB
  rw [if_neg (by omega)]
section ADD
variable {T : mM} {mx co cnt n : Nat} {f : Nat → Nat → Int32}
theorem tab_add_loop (hs : mx * co < 2 ^ 20) (hn : n = mx * co) (hc : 0 < co) : ∀ (m j k : Nat) (T : mM) (g : Nat → Nat → Int32), j + m = co → m < k → TabRep T mx co (cnt + 1) g → (∀ a b, a < cnt → b < co → g a b = f a b) → (∀ b, b < j → g cnt b = nI 0) →
    ∃ T', pX5_addRow_l26 n k (nI j) T = some (nI cnt, T') ∧ TabRep T' mx co (cnt + 1) (fun a b => if a = cnt then nI 0 else f a b) := by
  intro m
  induction m with
  | zero =>
    intro j k T g hj hk h hg h0
    obtain ⟨k, rfl⟩ : ∃ q, k = q + 1 := ⟨k - 1, by omega⟩
    have hm : cnt + 1 ≤ mx := h.2.2.2.1
    have h2 : mx * 1 ≤ mx * co := Nat.mul_le_mul_left mx hc
    have h3 : 1 * co ≤ mx * co := Nat.mul_le_mul_right co (by omega)
    refine ⟨T, ?_, h.to (fun a b ha hb => ?_)⟩
    · show pX5_addRow_lb26 n (pX5_addRow_l26 n k) (nI j) T = _
      unfold pX5_addRow_lb26
      rw [gf_e, h.2.1, n_le (by omega) (by omega), if_pos (by omega), gf_e, h.2.2.1, pk_sub (by omega)]
      rfl
    · by_cases q : a = cnt
      · rw [q, h0 b (by omega)]
        exact (if_pos rfl).symm
      · rw [hg a b (by omega) hb]
        exact (if_neg q).symm
  | succ m ih =>
    intro j k T g hj hk h hg h0
    obtain ⟨k, rfl⟩ : ∃ q, k = q + 1 := ⟨k - 1, by omega⟩
    have hm : cnt + 1 ≤ mx := h.2.2.2.1
    have h2 : mx * 1 ≤ mx * co := Nat.mul_le_mul_left mx hc
    have h3 : 1 * co ≤ mx * co := Nat.mul_le_mul_right co (by omega)
    have e : pX5_addRow_l26 n (k + 1) (nI j) T = pX5_addRow_l26 n k (nI (j + 1)) (sto T 1 (cnt * co + j) (nI 0)) := by
      show pX5_addRow_lb26 n (pX5_addRow_l26 n k) (nI j) T = _
      unfold pX5_addRow_lb26
      rw [gf_e, h.2.1, n_le (by omega) (by omega), if_neg (by omega), gf_e, h.2.2.1, pk_sub (by omega), show cnt + 1 - 1 = cnt by omega, tab_put h hs hn (nI 0) (by omega) (by omega), cr1_s, vl_e, nI_add]
    rw [e]
    refine ih (j + 1) k _ _ (by omega) (by omega) (tab_set h (nI 0) (by omega) (by omega)) (fun a b ha hb => ?_) (fun b hb => ?_)
    · show (if a = cnt ∧ b = j then nI 0 else g a b) = f a b
      rw [if_neg (by omega)]
      exact hg a b ha hb
    · show (if cnt = cnt ∧ b = j then nI 0 else g cnt b) = nI 0
      by_cases q : b = j
      · rw [if_pos ⟨rfl, q⟩]
      · rw [if_neg (fun z => q z.2)]
        exact h0 b (by omega)
theorem tab_addRow (h : TabRep T mx co cnt f) (hs : mx * co < 2 ^ 12) (hn : n = mx * co) (hc : 0 < co) (hlt : cnt < mx) :
    ∃ T', pX5_addRow n T = some (nI cnt, T') ∧ TabRep T' mx co (cnt + 1) (fun a b => if a = cnt then nI 0 else f a b) := by
  have h2 : mx * 1 ≤ mx * co := Nat.mul_le_mul_left mx hc
  have h3 : 1 * co ≤ mx * co := Nat.mul_le_mul_right co (by omega)
  obtain ⟨e0, e1, e3, hm, hf⟩ := id h
  have h' : TabRep (sto T 0 3 (nI (cnt + 1))) mx co (cnt + 1) (fun a b => T 1 (a * co + b)) := by
    refine ⟨by rw [sto_j (by decide)]; exact e0, by rw [sto_j (by decide)]; exact e1, sto_i _ _ _ _, by omega, fun a b ha hb => ?_⟩
    rw [sto_k (by decide)]
  obtain ⟨T', g1, g2⟩ := tab_add_loop (n := n) (f := f) (cnt := cnt) (by omega) hn hc co 0 fuel _ _ (by omega) (by unfold fuel; omega) h' (fun a b ha hb => hf a b ha hb) (fun b hb => absurd hb (Nat.not_lt_zero _))
  refine ⟨T', ?_, g2⟩
  unfold pX5_addRow
  rw [gf_e, gf_e, e0, e3, n_lt (by omega) (by omega), if_pos hlt, gf_e, e3, pf_e, nI_add]
  exact g1
end ADD
/-- L lines, of at most mo vehicles each -/
def LinRep (T : mM) (L mo : Nat) (l : Nat → List Nat) : Prop := T 0 0 = nI mo ∧ ∀ c, c < L → (l c).length ≤ mo ∧ T 1 c = nI (l c).length ∧ ∀ i, i < (l c).length → T 2 (c * mo + i) = nI ((l c).getD i 0)
theorem LinRep.ext {T T' : mM} {L mo : Nat} {l : Nat → List Nat} (h : LinRep T L mo l) (h0 : T' 0 = T 0) (h1 : T' 1 = T 1) (h2 : T' 2 = T 2) : LinRep T' L mo l := by
  refine ⟨by rw [h0]; exact h.1, fun c hc => ?_⟩
  rw [h1, h2]
  exact h.2 c hc
section LIN
variable {T : mM} {L mo n1 n2 : Nat} {l : Nat → List Nat}
theorem lin_size (h : LinRep T L mo l) (hn1 : n1 = L) (hL : L < 2 ^ 20) {c : Nat} (hc : c < L) : pX2_size n1 n2 (nI c) T = some (nI (l c).length) := by
  subst hn1
  obtain ⟨h1, h2, h3⟩ := h.2 c hc
  unfold pX2_size
  rw [n_lt0 (by omega), if_neg (by simp), n_le (by omega) (by omega), if_neg (by omega), ld_n hc (by omega), h2]
theorem lin_size_out (hn1 : n1 = L) {x : Int32} (hx : x < 0 ∨ nI L ≤ x) : pX2_size n1 n2 x T = some (nI 0) := by
  subst hn1
  unfold pX2_size
  by_cases q : x < 0
  · rw [if_pos q]
  · rw [if_neg q, if_pos (by rcases hx with z | z; exact absurd z q; exact z)]
theorem lin_ix (h : LinRep T L mo l) (hs : L * mo < 2 ^ 20) {c i : Nat} (hc : c < L) (hi : i < (l c).length) : c * mo + i < L * mo ∧ L < 2 ^ 20 ∧ mo < 2 ^ 20 ∧ i < mo ∧ (l c).length < 2 ^ 20 := by
  obtain ⟨h1, h2, h3⟩ := h.2 c hc
  have k1 : c * mo + i < L * mo := cell_lt hc (by omega)
  have k2 : L * 1 ≤ L * mo := Nat.mul_le_mul_left L (by omega)
  have k3 : 1 * mo ≤ L * mo := Nat.mul_le_mul_right mo (by omega)
  omega
theorem lin_get (h : LinRep T L mo l) (hs : L * mo < 2 ^ 20) (hn1 : n1 = L) (hn2 : n2 = L * mo) {c i : Nat} (hc : c < L) (hi : i < (l c).length) : pX2_get n1 n2 (nI c) (nI i) T = some (nI ((l c).getD i 0)) := by
  obtain ⟨k1, k2, k3, k4, k5⟩ := lin_ix h hs hc hi
  obtain ⟨h1, h2, h3⟩ := h.2 c hc
  subst hn1; subst hn2
  unfold pX2_get
  rw [gf_e, vl_e, h.1, n_gl, n_lt0 (by omega), if_neg (by simp), n_le (by omega) (by omega), if_neg (by omega), n_lt0 (by omega), if_neg (by simp), ld_n hc (by omega), h2, n_le (by omega) (by omega), if_neg (by omega)]
  unfold pX2_get_b41
  rw [n_eq0 (by omega), if_neg (by omega), n_lt0 (by omega), if_neg (by simp), n_le (by omega) (by omega), if_neg (by omega), ld_n k1 (by omega), h3 i hi]
theorem lin_get_out (h : LinRep T L mo l) (hL : L < 2 ^ 20) (hn1 : n1 = L) {c : Nat} {x : Int32} (hc : c < L) (hx : x < 0 ∨ nI (l c).length ≤ x) : pX2_get n1 n2 (nI c) x T = some (-9) := by
  obtain ⟨h1, h2, h3⟩ := h.2 c hc
  subst hn1
  have e : ∀ y, pX2_get_b40 n1 n2 T y = some (-9) := fun y => by
    unfold pX2_get_b40 pX2_get_b41
    rw [n_eq0 (by decide), if_pos rfl]
  unfold pX2_get
  rw [gf_e, vl_e, n_lt0 (by omega), if_neg (by simp), n_le (by omega) (by omega), if_neg (by omega)]
  by_cases q : x < 0
  · rw [if_pos q, e]
  · rw [if_neg q, ld_n hc (by omega), h2, if_pos (by rcases hx with z | z; exact absurd z q; exact z), e]
theorem lin_put (h : LinRep T L mo l) (hs : L * mo < 2 ^ 20) (hn1 : n1 = L) (hn2 : n2 = L * mo) {c i : Nat} (x : Int32) (hc : c < L) (hi : i < (l c).length) : pX2_put n1 n2 (nI c) (nI i) x T = some (sto T 2 (c * mo + i) x) := by
  obtain ⟨k1, k2, k3, k4, k5⟩ := lin_ix h hs hc hi
  obtain ⟨h1, h2, h3⟩ := h.2 c hc
  subst hn1; subst hn2
  unfold pX2_put
  rw [gf_e, vl_e, h.1, n_gl, n_lt0 (by omega), if_neg (by simp), n_le (by omega) (by omega), if_neg (by omega), n_lt0 (by omega), if_neg (by simp), ld_n hc (by omega), h2, n_le (by omega) (by omega), if_neg (by omega)]
  unfold pX2_put_b42
  rw [n_eq0 (by omega), if_neg (by omega), n_lt0 (by omega), if_neg (by simp), n_le (by omega) (by omega), if_neg (by omega), st_n k1 (by omega)]
/-- a line's vehicle anew -/
theorem lin_set (h : LinRep T L mo l) {c i : Nat} (v : Nat) (hc : c < L) (hi : i < (l c).length) : LinRep (sto T 2 (c * mo + i) (nI v)) L mo (fun a => if a = c then (l c).set i v else l a) := by
  refine ⟨by rw [sto_k (by decide)]; exact h.1, fun a ha => ?_⟩
  obtain ⟨h1, h2, h3⟩ := h.2 a ha
  obtain ⟨g1, g2, g3⟩ := h.2 c hc
  dsimp only
  by_cases q : a = c
  · subst q
    rw [if_pos rfl, List.length_set, sto_k (by decide)]
    refine ⟨h1, h2, fun j hj => ?_⟩
    by_cases q2 : j = i
    · subst q2
      rw [sto_i]
      simp [hj]
    · rw [sto_j (by omega), h3 j hj]
      congr 1
      rw [List.getD_eq_getElem?_getD, List.getD_eq_getElem?_getD, List.getElem?_set_ne (Ne.symm q2)]
  · rw [if_neg q, sto_k (by decide)]
    refine ⟨h1, h2, fun j hj => ?_⟩
    rw [sto_j (cell_ne (by omega) (by omega) (Or.inl q)), h3 j hj]
theorem lin_join (h : LinRep T L mo l) (hs : L * mo < 2 ^ 20) (hn1 : n1 = L) (hn2 : n2 = L * mo) {c : Nat} (v : Nat) (hc : c < L) (hi : (l c).length < mo) :
    ∃ T', pX2_join n1 n2 (nI c) (nI v) T = some T' ∧ LinRep T' L mo (fun a => if a = c then l c ++ [v] else l a) := by
  obtain ⟨h1, h2, h3⟩ := id (h.2 c hc)
  have k1 : c * mo + (l c).length < L * mo := cell_lt hc hi
  have k2 : L * 1 ≤ L * mo := Nat.mul_le_mul_left L (by omega)
  have k3 : 1 * mo ≤ L * mo := Nat.mul_le_mul_right mo (by omega)
  -- a longer line whose last vehicle is free yet
  have hj : LinRep (sto T 1 c (nI ((l c).length + 1))) L mo (fun a => if a = c then l c ++ [(T 2 (c * mo + (l c).length)).toBitVec.toNat] else l a) := by
    refine ⟨by rw [sto_k (by decide)]; exact h.1, fun a ha => ?_⟩
    obtain ⟨g1, g2, g3⟩ := h.2 a ha
    dsimp only
    by_cases q : a = c
    · subst q
      rw [if_pos rfl, List.length_append, List.length_singleton, sto_i, sto_k (by decide)]
      refine ⟨by omega, rfl, fun j hj => ?_⟩
      by_cases q2 : j < (l a).length
      · rw [h3 j q2, List.getD_eq_getElem?_getD (l := l a ++ _), List.getElem?_append_left q2, ← List.getD_eq_getElem?_getD]
      · rw [show j = (l a).length by omega, List.getD_eq_getElem?_getD (l := l a ++ _), List.getElem?_append_right (Nat.le_refl _), Nat.sub_self]
        show _ = nI (T 2 (a * mo + (l a).length)).toBitVec.toNat
        apply Int32.toBitVec_inj.mp
        show _ = BitVec.ofInt 32 (((T 2 (a * mo + (l a).length)).toBitVec.toNat : Int))
        simp
    · rw [if_neg q, sto_j q, sto_k (by decide)]
      exact ⟨g1, g2, g3⟩
  have e : pX2_join n1 n2 (nI c) (nI v) T = some (sto (sto T 1 c (nI ((l c).length + 1))) 2 (c * mo + (l c).length) (nI v)) := by
    have hp := lin_put hj hs hn1 hn2 (c := c) (i := (l c).length) (nI v) hc (by simp)
    subst hn1; subst hn2
    unfold pX2_join
    rw [n_lt0 (by omega), if_neg (by simp), n_le (by omega) (by omega), if_neg (by omega), ld_n hc (by omega), gf_e, h.1, h2, n_lt (by omega) (by omega), if_pos hi, ld_n hc (by omega), h2, nI_add, st_n hc (by omega), ld_n hc (by omega), sto_i, pk_sub (by omega), show (l c).length + 1 - 1 = (l c).length by omega, hp, cr1_s]
  refine ⟨_, e, ?_⟩
  have h9 := lin_set hj (c := c) (i := (l c).length) v hc (by simp)
  refine ⟨h9.1, fun a ha => ?_⟩
  have h8 := h9.2 a ha
  dsimp only
  by_cases q : a = c
  · subst q
    simpa using h8
  · simpa [q] using h8
theorem lin_empty (h : LinRep T L mo l) (hn1 : n1 = L) (hL : L < 2 ^ 20) {c : Nat} (hc : c < L) : pX2_emptyLine n1 n2 (nI c) T = some (sto T 1 c (nI 0)) ∧ LinRep (sto T 1 c (nI 0)) L mo (fun a => if a = c then [] else l a) := by
  subst hn1
  refine ⟨?_, by rw [sto_k (by decide)]; exact h.1, fun a ha => ?_⟩
  · unfold pX2_emptyLine
    rw [n_lt0 (by omega), if_neg (by simp), n_le (by omega) (by omega), if_neg (by omega), st_n hc (by omega)]
  · obtain ⟨g1, g2, g3⟩ := h.2 a ha
    dsimp only
    by_cases q : a = c
    · subst q
      rw [if_pos rfl, sto_i]
      exact ⟨Nat.zero_le _, rfl, fun i hi => absurd hi (Nat.not_lt_zero _)⟩
    · rw [if_neg q, sto_j q, sto_k (by decide)]
      exact ⟨g1, g2, g3⟩
end LIN
