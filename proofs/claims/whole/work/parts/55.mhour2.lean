/-! ===== the reference's hour is the hour, second part ===== -/
theorem lix_0 (k i j : Nat) : lix k i j = lix k i 0 + j := by
  unfold lix
  split <;> omega
section ML
variable {r r' : Nat → Int32} {A : aA}
/-- a line takes one more -/
theorem RepR.push (h : RepR r A) {k i : Nat} (v : Nat) (hk : k < 2) (hi : i < aN A (lTb k)) (hL : (aL A k i).length < lMx k) : RepR (upd (upd r (lix k i (aL A k i).length) (nI v)) (lsz k i) (nI (aL A k i).length + nI 1)) (aLine A k i (aL A k i ++ [v])) := by
  have hi' := R_lt h (lTb_lt hk) hi
  obtain ⟨g1, g2, g3⟩ := h.2.2.2.1 k i hk hi
  refine h.line hk hi (by rw [List.length_append, List.length_singleton]; omega) ?_ (fun j hj => ?_) (fun q _ h1 h2 => ?_)
  · rw [upd_s, nI_add, List.length_append, List.length_singleton]
  · rw [List.length_append, List.length_singleton] at hj
    have hne : lix k i j ≠ lsz k i := Ne.symm (lsz_lix hk hi' hk hi' (by omega))
    rw [upd_n hne]
    by_cases z : j = (aL A k i).length
    · subst z
      rw [upd_s, List.getD_eq_getElem?_getD, List.getElem?_append_right (Nat.le_refl _), Nat.sub_self]
      rfl
    · rw [upd_n (by rw [lix_0 k i j, lix_0 k i (aL A k i).length]; omega), g3 j (by omega), List.getD_eq_getElem?_getD (l := _ ++ _), List.getElem?_append_left (by omega), ← List.getD_eq_getElem?_getD]
  · rw [upd_n h1, upd_n (h2 _ hL)]
/-- a line loses one -/
theorem RepR.pull (h : RepR r A) {k i p : Nat} (hk : k < 2) (hi : i < aN A (lTb k)) (hp : p < (aL A k i).length)
    (hr : ∀ q, r' q = if lix k i 0 + p ≤ q ∧ q + 1 < lix k i 0 + (aL A k i).length then r (q + 1) else r q) : RepR (upd r' (lsz k i) (nI (aL A k i).length - nI 1)) (aLine A k i ((aL A k i).eraseIdx p)) := by
  have hi' := R_lt h (lTb_lt hk) hi
  obtain ⟨g1, g2, g3⟩ := h.2.2.2.1 k i hk hi
  refine h.line hk hi (by rw [List.length_eraseIdx, if_pos hp]; omega) ?_ (fun j hj => ?_) (fun q _ h1 h2 => ?_)
  · rw [upd_s, pk_sub (by omega), List.length_eraseIdx, if_pos hp]
  · rw [List.length_eraseIdx, if_pos hp] at hj
    have hne : lix k i j ≠ lsz k i := Ne.symm (lsz_lix hk hi' hk hi' (by omega))
    rw [upd_n hne, hr, List.getD_eq_getElem?_getD, List.getElem?_eraseIdx]
    by_cases z : j < p
    · rw [if_pos z, if_neg (by rw [lix_0 k i j]; omega), g3 j (by omega), List.getD_eq_getElem?_getD]
    · rw [if_neg z, if_pos (by rw [lix_0 k i j]; omega), show lix k i j + 1 = lix k i (j + 1) by rw [lix_0 k i j, lix_0 k i (j + 1)]; omega, g3 (j + 1) (by omega), List.getD_eq_getElem?_getD]
  · rw [upd_n h1, hr, if_neg]
    rintro ⟨z1, z2⟩
    exact h2 (q - lix k i 0) (by omega) (by rw [lix_0]; omega)
end ML
section MH2
variable {S : mM} {A : aA}
theorem m_give {c b m v : Nat} {r : List Nat} (h : RepR (S 0) A) (iv : Inv A) (hc : c < aN A 3) (hb : b < aN A 1) (hl : aL A 1 b = v :: r) (h8 : (aL A 0 c).length < 8) (hm : m < aN A 4) (hv : v < aN A 4) (hne : v ≠ m) :
    ∃ S', pX7_helps_b131 (nI c) (nI b) (nI v) (nI m) (giftF A m v) S = some (bI (!shortV (giveF A m v) v), S') ∧ RepR (S' 0) (if shortV (giveF A m v) v = true then giveF A m v else joinV c b v r (giveF A m v)) := by
  have h16 := cnt4 iv
  have h4 := cnt3 iv
  have h6 := cnt1 iv
  have b6 := (iv.line1 b hb).1
  unfold pX7_helps_b131
  rw [carAt_n, cr1_s, R_ldV h hm (by decide), st_n (by omega) (by decide)]
  have r1 : RepR (sto S 0 (138 + 7 * m + 3) (aT A 4 m 3 - giftF A m v) 0) (aPut A 4 m 3 (aT A 4 m 3 - giftF A m v)) := by
    rw [sto_u]
    exact h.put (k := 4) (i := m) (j := 3) _ (by decide) hm (by decide) (by decide)
  generalize sto S 0 (138 + 7 * m + 3) (aT A 4 m 3 - giftF A m v) = S1 at r1 ⊢
  rw [carAt_n, cr1_s, R_ldV r1 hv (by decide), st_n (by omega) (by decide)]
  have r2 : RepR (sto S1 0 (138 + 7 * v + 3) (aT (aPut A 4 m 3 (aT A 4 m 3 - giftF A m v)) 4 v 3 + giftF A m v) 0) (giveF A m v) := by
    rw [sto_u]
    exact r1.put (k := 4) (i := v) (j := 3) _ (by decide) hv (by decide) (by decide)
  generalize sto S1 0 (138 + 7 * v + 3) (aT (aPut A 4 m 3 (aT A 4 m 3 - giftF A m v)) 4 v 3 + giftF A m v) = S2 at r2 ⊢
  obtain ⟨⟨s1, s2⟩, s3⟩ := giveF_s A m v
  generalize giveF A m v = B at r2 s1 s2 s3 ⊢
  have hvB : v < aN B 4 := by rw [s1]; exact hv
  have hbB : b < aN B 1 := by rw [s1]; exact hb
  have hcB : c < aN B 3 := by rw [s1]; exact hc
  have hlB : aL B 1 b = v :: r := by rw [s3]; exact hl
  rw [m_short r2 hvB, cr1_s, bI_0]
  by_cases q : shortV B v = false
  · rw [if_pos q, bayAt_n, cr1_s, bayAt_n, cr1_s, R_size1 r2 hbB]
    have hlen : (aL B 1 b).length ≤ 6 := by rw [s3]; exact (iv.line1 b hb).1
    have hpos : 0 < (aL B 1 b).length := by rw [hlB]; exact Nat.succ_pos _
    obtain ⟨S3, e3, o3, f3⟩ := R_drop (at' := 24 + 9 * b + 3) (i := 0) (many := (aL B 1 b).length) (by omega) (by omega) hpos S2
    rw [e3, cr1_s, cr1_s, ld_n (by omega) (by decide), f3, if_neg (by omega)]
    have e4 : S2 0 (24 + 9 * b + 2) = nI (aL B 1 b).length := (r2.2.2.2.1 1 b (by decide) hbB).2.1
    rw [e4, st_n (by omega) (by decide)]
    have r4 : RepR (sto S3 0 (24 + 9 * b + 2) (nI (aL B 1 b).length - nI 1) 0) (aLine B 1 b r) := by
      rw [sto_u]
      have := r2.pull (k := 1) (i := b) (p := 0) (r' := S3 0) (by decide) hbB hpos (fun q => f3 q)
      rw [hlB] at this
      rw [hlB]
      exact this
    generalize sto S3 0 (24 + 9 * b + 2) (nI (aL B 1 b).length - nI 1) = S4 at r4 ⊢
    have hcD : c < aN (aLine B 1 b r) 3 := hcB
    have hLD : aL (aLine B 1 b r) 0 c = aL A 0 c := by rw [aL_ne (by omega), s3]
    rw [m_sizeOf r4 hcD, cr1_s, nI_add, convoyAt_n, cr1_s, hLD, st_n (by omega) (by decide), convoyAt_n, cr1_s, ld_n (by omega) (by decide), sto_j (by omega)]
    have e5 : S4 0 (86 + 13 * c + 1) = nI (aL A 0 c).length := by
      have := (r4.2.2.2.1 0 c (by decide) hcD).2.1
      rw [hLD] at this
      exact this
    rw [e5, st_n (by omega) (by decide)]
    have r5 : RepR (sto (sto S4 0 (86 + 13 * c + (5 + (aL A 0 c).length)) (nI v)) 0 (86 + 13 * c + 1) (nI (aL A 0 c).length + nI 1) 0) (aLine (aLine B 1 b r) 0 c (aL B 0 c ++ [v])) := by
      rw [sto_u, sto_u]
      have := r4.push (k := 0) (i := c) v (by decide) hcD (by rw [hLD]; exact h8)
      rw [hLD] at this
      rw [s3]
      exact this
    generalize sto (sto S4 0 (86 + 13 * c + (5 + (aL A 0 c).length)) (nI v)) 0 (86 + 13 * c + 1) (nI (aL A 0 c).length + nI 1) = S5 at r5 ⊢
    rw [carAt_n, cr1_s, st_n (by omega) (by decide)]
    have r6 : RepR (sto S5 0 (138 + 7 * v + 4) (nI 0) 0) (aPut (aLine (aLine B 1 b r) 0 c (aL B 0 c ++ [v])) 4 v 4 (nI 0)) := by
      rw [sto_u]
      exact r5.put (k := 4) (i := v) (j := 4) _ (by decide) hvB (by decide) (by decide)
    generalize sto S5 0 (138 + 7 * v + 4) (nI 0) = S6 at r6 ⊢
    rw [carAt_n, cr1_s, st_n (by omega) (by decide), gd_p isZ_1, q]
    refine ⟨_, rfl, ?_⟩
    rw [if_neg (by simp), sto_u]
    exact r6.put (k := 4) (i := v) (j := 5) _ (by decide) hvB (by decide) (by decide)
  · have q' : shortV B v = true := by cases e : shortV B v with | true => rfl | false => exact absurd e q
    rw [if_neg q, gd_p isZ_0, q', if_pos rfl]
    exact ⟨S2, rfl, r2⟩
theorem m_helps {c b v : Nat} {r : List Nat} (h : RepR (S 0) A) (iv : Inv A) (hc : c < aN A 3) (hb : b < aN A 1) (hl : aL A 1 b = v :: r) (hne : aL A 0 c ≠ []) (h8 : (aL A 0 c).length < 8) :
    ∃ S', pX7_helps (nI c) (nI b) S = some (bI (!shortV (giveF A (richF A (aL A 0 c)) v) v), S') ∧ RepR (S' 0) (if shortV (giveF A (richF A (aL A 0 c)) v) v = true then giveF A (richF A (aL A 0 c)) v else joinV c b v r (giveF A (richF A (aL A 0 c)) v)) := by
  have h16 := cnt4 iv
  have hvm : v ∈ aL A 1 b := by rw [hl]; exact List.mem_cons_self
  have hv := iv.vok1 hb hvm
  have hlen : 0 < (aL A 0 c).length := List.length_pos_iff.mpr hne
  have fin : ∀ m, m < aN A 4 → v ≠ m → ∃ S', (cr1 (pX7_carAt (nI m) (nI 3)) fun v76 => ld S 0 250 v76 fun v79 => vl (v79 / (nI 2)) fun v82 => if v82 ≤ (nI 10) then (pX7_helps_b98 (nI c) (nI b) (nI v) (nI m) v82 S) else (pX7_helps_b98 (nI c) (nI b) (nI v) (nI m) (nI 10) S)) = some (bI (!shortV (giveF A m v) v), S') ∧ RepR (S' 0) (if shortV (giveF A m v) v = true then giveF A m v else joinV c b v r (giveF A m v)) := by
    intro m hm hvne
    rw [carAt_n, cr1_s, R_ldV h hm (by decide), vl_e]
    have e1 : ∀ t, t = mn (nI 10) (aT A 4 m 3 / nI 2) → ∃ S', pX7_helps_b98 (nI c) (nI b) (nI v) (nI m) t S = some (bI (!shortV (giveF A m v) v), S') ∧ RepR (S' 0) (if shortV (giveF A m v) v = true then giveF A m v else joinV c b v r (giveF A m v)) := by
      intro t ht
      unfold pX7_helps_b98
      rw [carAt_n, cr1_s, R_ldV h hv (by decide), carAt_n, cr1_s, R_ldV h hv (by decide), vl_e]
      have hg : ∀ g, g = giftF A m v → ∃ S', pX7_helps_b131 (nI c) (nI b) (nI v) (nI m) g S = some (bI (!shortV (giveF A m v) v), S') ∧ RepR (S' 0) (if shortV (giveF A m v) v = true then giveF A m v else joinV c b v r (giveF A m v)) := by
        intro g hg
        rw [hg]
        exact m_give h iv hc hb hl h8 hm hv hvne
      by_cases q : t ≤ aT A 4 v 2 - aT A 4 v 3
      · rw [if_pos q]
        refine hg t ?_
        unfold giftF
        rw [← ht]
        show t = if _ < t then _ else t
        rw [if_neg (Int32.not_lt.mpr q)]
      · rw [if_neg q]
        refine hg _ ?_
        unfold giftF
        rw [← ht]
        show _ = if _ < t then _ else t
        rw [if_pos (Int32.not_le.mp q)]
    by_cases q : aT A 4 m 3 / nI 2 ≤ nI 10
    · rw [if_pos q]
      refine e1 _ ?_
      unfold mn
      by_cases q2 : aT A 4 m 3 / nI 2 < nI 10
      · rw [if_pos q2]
      · rw [if_neg q2]
        exact Int32.le_antisymm q (Int32.not_lt.mp q2)
    · rw [if_neg q]
      refine e1 _ ?_
      unfold mn
      rw [if_neg (fun z => q (Int32.le_of_lt z))]
  have main : ∀ (n i k m : Nat), i + n = (aL A 0 c).length → n < k → m < aN A 4 → v ≠ m → (∀ x, x ∈ aL A 0 c → v ≠ x) → ∃ S', pX7_helps_l19 k (nI c) (nI b) (nI v) (nI m) (nI i) S = some (bI (!shortV (giveF A (((aL A 0 c).drop i).foldl (fun m o => if aT A 4 m 3 < aT A 4 o 3 then o else m) m) v) v), S') ∧ RepR (S' 0) (if shortV (giveF A (((aL A 0 c).drop i).foldl (fun m o => if aT A 4 m 3 < aT A 4 o 3 then o else m) m) v) v = true then giveF A (((aL A 0 c).drop i).foldl (fun m o => if aT A 4 m 3 < aT A 4 o 3 then o else m) m) v else joinV c b v r (giveF A (((aL A 0 c).drop i).foldl (fun m o => if aT A 4 m 3 < aT A 4 o 3 then o else m) m) v)) := by
    intro n
    induction n with
    | zero =>
      intro i k m hi hk hm hvm hall
      obtain ⟨k, rfl⟩ : ∃ q, k = q + 1 := ⟨k - 1, by omega⟩
      show ∃ S', pX7_helps_lb19 (pX7_helps_l19 k) (nI c) (nI b) (nI v) (nI m) (nI i) S = _ ∧ _
      unfold pX7_helps_lb19
      rw [m_sizeOf h hc, cr1_s, n_le (by omega) (by omega), if_pos (by omega), List.drop_eq_nil_of_le (by omega)]
      exact fin m hm hvm
    | succ n ih =>
      intro i k m hi hk hm hvm hall
      obtain ⟨k, rfl⟩ : ∃ q, k = q + 1 := ⟨k - 1, by omega⟩
      have hom := getD_mem (x := aL A 0 c) (i := i) (by omega)
      have ho := iv.vok hc hom
      have hvo := hall _ hom
      rw [drop_get (x := aL A 0 c) (i := i) (by omega), List.foldl_cons]
      show ∃ S', pX7_helps_lb19 (pX7_helps_l19 k) (nI c) (nI b) (nI v) (nI m) (nI i) S = _ ∧ _
      unfold pX7_helps_lb19
      rw [m_sizeOf h hc, cr1_s, n_le (by omega) (by omega), if_neg (by omega), m_who h hc (by omega), cr1_s]
      generalize hoo : (aL A 0 c).getD i 0 = o at ho hvo ⊢
      rw [carAt_n, cr1_s, R_ldV h ho (by decide), carAt_n, cr1_s, R_ldV h hm (by decide)]
      by_cases q : aT A 4 o 3 ≤ aT A 4 m 3
      · rw [if_pos q, vl_e, nI_add, if_neg (Int32.not_lt.mpr q)]
        exact ih (i + 1) k m (by omega) (by omega) hm hvm hall
      · rw [if_neg q, vl_e, nI_add, if_pos (Int32.not_le.mp q)]
        exact ih (i + 1) k o (by omega) (by omega) ho hvo hall
  have hall : ∀ x, x ∈ aL A 0 c → v ≠ x := fun x hx e => iv.apart hc hb hx (by rw [← e]; exact hvm)
  unfold pX7_helps
  rw [bayAt_n, cr1_s, R_head h hb (by rw [hl]; exact Nat.succ_pos _), m_who h hc hlen, cr1_s, hl, show (v :: r).getD 0 0 = v from rfl]
  have hr0 : richF A (aL A 0 c) = ((aL A 0 c).drop 1).foldl (fun m o => if aT A 4 m 3 < aT A 4 o 3 then o else m) ((aL A 0 c).getD 0 0) := by
    cases e : aL A 0 c with
    | nil => exact absurd e hne
    | cons x xs => rfl
  rw [hr0]
  exact main ((aL A 0 c).length - 1) 1 fuel _ (by omega) (by unfold fuel; have := (iv.line0 c hc).1; omega) (iv.vok hc (getD_mem hlen)) (hall _ (getD_mem hlen)) hall
theorem m_resc_end (h : RepR (S 0) A) (iv : Inv A) {c : Nat} (hc : c < aN A 3) (hne : aL A 0 c ≠ []) (f : Bool) : ∃ S', pX7_rescue_b78 (nI c) (bI f) S = some S' ∧ RepR (S' 0) (if f = true then ordC c A else A) := by
  unfold pX7_rescue_b78
  rw [bI_0]
  cases f with
  | false =>
    rw [if_pos rfl]
    exact ⟨S, rfl, h⟩
  | true =>
    rw [if_neg (by simp), if_pos rfl]
    obtain ⟨S1, e1, r1⟩ := m_order h iv hc hne
    rw [e1, cr1_s]
    exact ⟨S1, rfl, r1⟩
theorem m_resc_loop {c b : Nat} : ∀ (n k : Nat) (S : mM) (A : aA) (f : Bool), n + 1 < k → n = (aL A 1 b).length → RepR (S 0) A → Inv A → c < aN A 3 → b < aN A 1 → aL A 0 c ≠ [] →
    ∃ S', pX7_rescue_l27 k (nI c) (nI b) (bI f) (nI 1) S = some S' ∧ RepR (S' 0) (if (rescB c b n (A, f)).2 = true then ordC c (rescB c b n (A, f)).1 else (rescB c b n (A, f)).1) := by
  intro n
  induction n with
  | zero =>
    intro k S A f hk hn h iv hc hb hne
    obtain ⟨k, rfl⟩ : ∃ q, k = q + 1 := ⟨k - 1, by omega⟩
    show ∃ S', pX7_rescue_lb27 (pX7_rescue_l27 k) (nI c) (nI b) (bI f) (nI 1) S = some S' ∧ RepR (S' 0) (if f = true then ordC c A else A)
    unfold pX7_rescue_lb27
    rw [if_neg (by decide), bayAt_n, cr1_s, R_size1 h hb, ← hn, if_pos (by decide)]
    exact m_resc_end h iv hc hne f
  | succ n ih =>
    intro k S A f hk hn h iv hc hb hne
    obtain ⟨k, rfl⟩ : ∃ q, k = q + 1 := ⟨k - 1, by omega⟩
    have h4 := cnt3 iv
    have h6 := cnt1 iv
    have h8 := (iv.line0 c hc).1
    have b6 := (iv.line1 b hb).1
    show ∃ S', pX7_rescue_lb27 (pX7_rescue_l27 k) (nI c) (nI b) (bI f) (nI 1) S = some S' ∧ _
    unfold pX7_rescue_lb27
    rw [if_neg (by decide), bayAt_n, cr1_s, R_size1 h hb, n_le0 (by omega), if_neg (by omega), m_sizeOf h hc, cr1_s, n_le (by omega) (by omega)]
    by_cases q : 8 ≤ (aL A 0 c).length
    · rw [if_pos q, resc_stop A f (Or.inr q)]
      exact m_resc_end h iv hc hne f
    · rw [if_neg q]
      obtain ⟨v, r, hvr⟩ : ∃ v r, aL A 1 b = v :: r := by
        cases e : aL A 1 b with
        | nil => rw [e] at hn; cases hn
        | cons v r => exact ⟨v, r, rfl⟩
      have hvm : v ∈ aL A 1 b := by rw [hvr]; exact List.mem_cons_self
      have hv := iv.vok1 hb hvm
      have hm := richF_mem (A := A) hne
      have hmv := iv.vok hc hm
      have hne2 : v ≠ richF A (aL A 0 c) := fun z => iv.apart hc hb hm (by rw [← z]; exact hvm)
      obtain ⟨S1, e1, r1⟩ := m_helps h iv hc hb hvr hne (by omega)
      rw [e1, cw2_s]
      have hB : rescB c b (n + 1) (A, f) = if shortV (giveF A (richF A (aL A 0 c)) v) v = true then (giveF A (richF A (aL A 0 c)) v, f) else rescB c b n (joinV c b v r (giveF A (richF A (aL A 0 c)) v), true) := by
        show (match aL A 1 b with | [] => (A, f) | v :: r => if (aL A 0 c).length < 8 then (if shortV (giveF A (richF A (aL A 0 c)) v) v = true then (giveF A (richF A (aL A 0 c)) v, f) else rescB c b n (joinV c b v r (giveF A (richF A (aL A 0 c)) v), true)) else (A, f)) = _
        rw [hvr]
        show (if (aL A 0 c).length < 8 then _ else _) = _
        rw [if_pos (by omega)]
      rw [hB]
      have ivB : Inv (giveF A (richF A (aL A 0 c)) v) := iv.okGiveF hmv hv hne2
      have sB1 : aN (giveF A (richF A (aL A 0 c)) v) = aN A := rfl
      have sB2 : aL (giveF A (richF A (aL A 0 c)) v) = aL A := rfl
      generalize giveF A (richF A (aL A 0 c)) v = B at r1 ivB sB1 sB2 ⊢
      by_cases q2 : shortV B v = true
      · rw [if_pos q2] at r1 ⊢
        rw [q2]
        have fin : ∃ S', pX7_rescue_l27 k (nI c) (nI b) (bI f) (nI 0) S1 = some S' ∧ RepR (S' 0) (if f = true then ordC c B else B) := by
          obtain ⟨k, rfl⟩ : ∃ q, k = q + 1 := ⟨k - 1, by omega⟩
          show ∃ S', pX7_rescue_lb27 (pX7_rescue_l27 k) (nI c) (nI b) (bI f) (nI 0) S1 = some S' ∧ _
          unfold pX7_rescue_lb27
          rw [if_pos (by decide)]
          exact m_resc_end r1 ivB (by rw [sB1]; exact hc) (by rw [sB2]; exact hne) f
        show ∃ S', (if bI f = 0 then (if bI (!true) = 0 then _ else _) else _) = some S' ∧ _
        rw [bI_0, if_pos (show bI (!true) = 0 by decide)]
        cases f with
        | false =>
          rw [if_pos rfl]
          exact fin
        | true =>
          rw [if_neg (by simp)]
          exact fin
      · have q2' : shortV B v = false := by cases e : shortV B v with | true => exact absurd e q2 | false => rfl
        rw [if_neg q2] at r1 ⊢
        rw [q2']
        have iv4 := ivB.join (c := c) (b := b) (v := v) (r := r) (by rw [sB1]; exact hc) (by rw [sB1]; exact hb) (by rw [sB2]; exact hvr) (by rw [sB2]; omega)
        have e0 : aL (joinV c b v r B) 0 c = aL A 0 c ++ [v] := by rw [joinV_0, if_pos rfl, sB2]
        have e9 : aL (joinV c b v r B) 1 b = r := by rw [joinV_1, if_pos rfl]
        have fin := ih k S1 (joinV c b v r B) true (by omega) (by rw [e9]; rw [hvr] at hn; simpa using hn) r1 iv4 (by show c < aN B 3; rw [sB1]; exact hc) (by show b < aN B 1; rw [sB1]; exact hb) (by rw [e0]; simp)
        show ∃ S', (if bI f = 0 then (if bI (!false) = 0 then _ else _) else _) = some S' ∧ _
        rw [bI_0, if_neg (show ¬ bI (!false) = 0 by decide)]
        cases f with
        | false =>
          rw [if_pos rfl]
          exact fin
        | true =>
          rw [if_neg (by simp)]
          exact fin
theorem m_resc (h : RepR (S 0) A) (iv : Inv A) {c : Nat} (hc : c < aN A 3) (hne : aL A 0 c ≠ []) : ∃ S', pX7_rescue (nI c) S = some S' ∧ RepR (S' 0) (rescC c A) := by
  unfold pX7_rescue rescC
  rw [convoyAt_n, cr1_s, R_ldC0 h hc, m_bayOn h, cr1_s, oI_N _ (rowF_lt iv (by decide) _)]
  cases e : rowF (aT A 1) (aT A 3 c 0) (aN A 1) with
  | none =>
    rw [if_pos rfl]
    refine ⟨S, ?_, h⟩
    show pX7_rescue_lb27 (pX7_rescue_l27 4999) (nI c) (-9) (nI 0) (nI 0) S = _
    unfold pX7_rescue_lb27
    rw [if_pos (by decide)]
    unfold pX7_rescue_b78
    rw [if_pos (by decide)]
  | some b =>
    rw [if_neg (by simp)]
    have hb := (rowF_some e).1
    have b6 := (iv.line1 b hb).1
    exact m_resc_loop (c := c) (b := b) (aL A 1 b).length fuel S A false (by unfold fuel; omega) rfl h iv hc hb hne
end MH2
