/-! ===== the class's State: its tables, its lines, its flags ===== -/
theorem aMx_lt {k : Nat} (hk : k < 5) : aMx k * aCo k < 2 ^ 12 ∧ 0 < aCo k := by
  rcases k5 hk with rfl | rfl | rfl | rfl | rfl <;> decide
def bI (b : Bool) : Int32 := if b = true then nI 1 else nI 0
section CLS
variable {ρ : Type} {S : mM} {A : aA}
theorem C_get (h : RepC S A) {k o n i j : Nat} (hk : k < 5) (ho : o = 1 + 2 * k) (hn : n = aMx k * aCo k) (hi : i < aN A k) (hj : j < aCo k) : pX5_get n (nI i) (nI j) (sB S o) = some (aT A k i j) := by
  subst ho
  exact tab_get (h.2.1 k hk) (Nat.lt_trans (aMx_lt hk).1 (by decide)) hn hi hj
theorem C_cnt (h : RepC S A) {k o n : Nat} (hk : k < 5) (ho : o = 1 + 2 * k) : pX5_count n (sB S o) = some (nI (aN A k)) := by
  subst ho
  exact tab_count (h.2.1 k hk)
theorem C_rowF (h : RepC S A) (iv : Inv A) {k o n : Nat} (hk : k < 3) (ho : o = 1 + 2 * k) (hn : n = aMx k * aCo k) (x : Int32) : pX5_rowAt n x (sB S o) = some (oI (rowF (aT A k) x (aN A k))) := by
  subst ho
  exact tab_rowF (h.2.1 k (by omega)) (aMx_lt (by omega)).1 hn (aMx_lt (by omega)).2 (iv.dist k hk) x
theorem C_getG (h : RepC S A) {i j : Nat} (hi : i < aN A 0) (hj : j < 4) : pX5_get 16 (nI i) (nI j) (sB S 1) = some (aT A 0 i j) := C_get h (k := 0) (by decide) rfl rfl hi hj
theorem C_cntG (h : RepC S A) {n : Nat} : pX5_count n (sB S 1) = some (nI (aN A 0)) := C_cnt h (k := 0) (by decide) rfl
theorem C_rowG (h : RepC S A) (iv : Inv A) (x : Int32) : pX5_rowAt 16 x (sB S 1) = some (oI (rowF (aT A 0) x (aN A 0))) := C_rowF h iv (k := 0) (by decide) rfl rfl x
theorem C_getB (h : RepC S A) {i j : Nat} (hi : i < aN A 1) (hj : j < 2) : pX5_get 12 (nI i) (nI j) (sB S 3) = some (aT A 1 i j) := C_get h (k := 1) (by decide) rfl rfl hi hj
theorem C_cntB (h : RepC S A) {n : Nat} : pX5_count n (sB S 3) = some (nI (aN A 1)) := C_cnt h (k := 1) (by decide) rfl
theorem C_rowB (h : RepC S A) (iv : Inv A) (x : Int32) : pX5_rowAt 12 x (sB S 3) = some (oI (rowF (aT A 1) x (aN A 1))) := C_rowF h iv (k := 1) (by decide) rfl rfl x
theorem C_getD (h : RepC S A) {i j : Nat} (hi : i < aN A 2) (hj : j < 2) : pX5_get 8 (nI i) (nI j) (sB S 5) = some (aT A 2 i j) := C_get h (k := 2) (by decide) rfl rfl hi hj
theorem C_cntD (h : RepC S A) {n : Nat} : pX5_count n (sB S 5) = some (nI (aN A 2)) := C_cnt h (k := 2) (by decide) rfl
theorem C_rowD (h : RepC S A) (iv : Inv A) (x : Int32) : pX5_rowAt 8 x (sB S 5) = some (oI (rowF (aT A 2) x (aN A 2))) := C_rowF h iv (k := 2) (by decide) rfl rfl x
theorem C_getC (h : RepC S A) {i j : Nat} (hi : i < aN A 3) (hj : j < 4) : pX5_get 16 (nI i) (nI j) (sB S 7) = some (aT A 3 i j) := C_get h (k := 3) (by decide) rfl rfl hi hj
theorem C_cntC (h : RepC S A) {n : Nat} : pX5_count n (sB S 7) = some (nI (aN A 3)) := C_cnt h (k := 3) (by decide) rfl
theorem C_getV (h : RepC S A) {i j : Nat} (hi : i < aN A 4) (hj : j < 7) : pX5_get 112 (nI i) (nI j) (sB S 9) = some (aT A 4 i j) := C_get h (k := 4) (by decide) rfl rfl hi hj
theorem C_cntV (h : RepC S A) {n : Nat} : pX5_count n (sB S 9) = some (nI (aN A 4)) := C_cnt h (k := 4) (by decide) rfl
theorem C_put (h : RepC S A) {k o n i j : Nat} (x : Int32) (hk : k < 5) (ho : o = 1 + 2 * k) (hn : n = aMx k * aCo k) (hi : i < aN A k) (hj : j < aCo k) :
    ∃ S', (∀ K : mM → Option ρ, cvs S o 2 (pX5_put n (nI i) (nI j) x (sB S o)) K = K S') ∧ RepC S' (aPut A k i j x) ∧ S' 0 = S 0 := by
  subst ho
  refine ⟨wB S (1 + 2 * k) 2 (sto (sB S (1 + 2 * k)) 1 (i * aCo k + j) x), fun K => ?_, h.put x hk hi hj, wB_out (by omega)⟩
  rw [tab_put (h.2.1 k hk) (Nat.lt_trans (aMx_lt hk).1 (by decide)) hn x hi hj, cvs_s]
theorem C_raise (h : RepC S A) {k o n i j : Nat} (x : Int32) (hk : k < 5) (ho : o = 1 + 2 * k) (hn : n = aMx k * aCo k) (hi : i < aN A k) (hj : j < aCo k) :
    ∃ S', (∀ K : mM → Option ρ, cvs S o 2 (pX5_raise n (nI i) (nI j) x (sB S o)) K = K S') ∧ RepC S' (aPut A k i j (aT A k i j + x)) ∧ S' 0 = S 0 := by
  subst ho
  refine ⟨wB S (1 + 2 * k) 2 (sto (sB S (1 + 2 * k)) 1 (i * aCo k + j) (aT A k i j + x)), fun K => ?_, h.put _ hk hi hj, wB_out (by omega)⟩
  rw [tab_raise (h.2.1 k hk) (Nat.lt_trans (aMx_lt hk).1 (by decide)) hn x hi hj, cvs_s]
theorem C_size0 (h : RepC S A) {c : Nat} (hc : c < 4) : pX2_size 4 32 (nI c) (sB S 11) = some (nI (aL A 0 c).length) := lin_size h.i rfl (by decide) hc
theorem C_size1 (h : RepC S A) {c : Nat} (hc : c < 6) : pX2_size 6 36 (nI c) (sB S 14) = some (nI (aL A 1 c).length) := lin_size h.q rfl (by decide) hc
theorem C_get0 (h : RepC S A) {c i : Nat} (hc : c < 4) (hi : i < (aL A 0 c).length) : pX2_get 4 32 (nI c) (nI i) (sB S 11) = some (nI ((aL A 0 c).getD i 0)) := lin_get h.i (by decide) rfl rfl hc hi
theorem C_get1 (h : RepC S A) {c i : Nat} (hc : c < 6) (hi : i < (aL A 1 c).length) : pX2_get 6 36 (nI c) (nI i) (sB S 14) = some (nI ((aL A 1 c).getD i 0)) := lin_get h.q (by decide) rfl rfl hc hi
theorem C_rem0 (h : RepC S A) {c p : Nat} (hc : c < 4) (hp : p < (aL A 0 c).length) : ∃ S', (∀ K : mM → Option ρ, cvs S 11 3 (pX2_remove 4 32 (nI c) (nI p) (sB S 11)) K = K S') ∧ RepC S' (aLine A 0 c ((aL A 0 c).eraseIdx p)) ∧ S' 0 = S 0 := by
  obtain ⟨T', h1, h2⟩ := lin_remove (n1 := 4) (n2 := 32) h.i (by decide) rfl rfl hc hp
  refine ⟨wB S 11 3 T', fun K => by rw [h1, cvs_s], ?_, wB_out (by omega)⟩
  rw [aLine_lins]
  exact h.lin0 h2
theorem C_rem1 (h : RepC S A) {c p : Nat} (hc : c < 6) (hp : p < (aL A 1 c).length) : ∃ S', (∀ K : mM → Option ρ, cvs S 14 3 (pX2_remove 6 36 (nI c) (nI p) (sB S 14)) K = K S') ∧ RepC S' (aLine A 1 c ((aL A 1 c).eraseIdx p)) ∧ S' 0 = S 0 := by
  obtain ⟨T', h1, h2⟩ := lin_remove (n1 := 6) (n2 := 36) h.q (by decide) rfl rfl hc hp
  refine ⟨wB S 14 3 T', fun K => by rw [h1, cvs_s], ?_, wB_out (by omega)⟩
  rw [aLine_lins]
  exact h.lin1 h2
theorem C_join0 (h : RepC S A) {c : Nat} (v : Nat) (hc : c < 4) (hp : (aL A 0 c).length < 8) : ∃ S', (∀ K : mM → Option ρ, cvs S 11 3 (pX2_join 4 32 (nI c) (nI v) (sB S 11)) K = K S') ∧ RepC S' (aLine A 0 c (aL A 0 c ++ [v])) ∧ S' 0 = S 0 := by
  obtain ⟨T', h1, h2⟩ := lin_join (n1 := 4) (n2 := 32) h.i (by decide) rfl rfl v hc hp
  refine ⟨wB S 11 3 T', fun K => by rw [h1, cvs_s], ?_, wB_out (by omega)⟩
  rw [aLine_lins]
  exact h.lin0 h2
theorem C_join1 (h : RepC S A) {c : Nat} (v : Nat) (hc : c < 6) (hp : (aL A 1 c).length < 6) : ∃ S', (∀ K : mM → Option ρ, cvs S 14 3 (pX2_join 6 36 (nI c) (nI v) (sB S 14)) K = K S') ∧ RepC S' (aLine A 1 c (aL A 1 c ++ [v])) ∧ S' 0 = S 0 := by
  obtain ⟨T', h1, h2⟩ := lin_join (n1 := 6) (n2 := 36) h.q (by decide) rfl rfl v hc hp
  refine ⟨wB S 14 3 T', fun K => by rw [h1, cvs_s], ?_, wB_out (by omega)⟩
  rw [aLine_lins]
  exact h.lin1 h2
theorem C_put0 (h : RepC S A) {c p : Nat} (v : Nat) (hc : c < 4) (hp : p < (aL A 0 c).length) : ∃ S', (∀ K : mM → Option ρ, cvs S 11 3 (pX2_put 4 32 (nI c) (nI p) (nI v) (sB S 11)) K = K S') ∧ RepC S' (aLine A 0 c ((aL A 0 c).set p v)) ∧ S' 0 = S 0 := by
  refine ⟨wB S 11 3 (sto (sB S 11) 2 (c * 8 + p) (nI v)), fun K => by rw [lin_put h.i (by decide) rfl rfl (nI v) hc hp, cvs_s], ?_, wB_out (by omega)⟩
  rw [aLine_lins]
  exact h.lin0 (lin_set h.i v hc hp)
theorem C_empty0 (h : RepC S A) {c : Nat} (hc : c < 4) : ∃ S', (∀ K : mM → Option ρ, cvs S 11 3 (pX2_emptyLine 4 32 (nI c) (sB S 11)) K = K S') ∧ RepC S' (aLine A 0 c []) ∧ S' 0 = S 0 := by
  obtain ⟨h1, h2⟩ := lin_empty (n1 := 4) (n2 := 32) h.i rfl (by decide) hc
  refine ⟨wB S 11 3 (sto (sB S 11) 1 c (nI 0)), fun K => by rw [h1, cvs_s], ?_, wB_out (by omega)⟩
  rw [aLine_lins]
  exact h.lin0 h2
/-- the flags: what a look ahead watches and has found, whether something happened -/
def CR (S : mM) (A : aA) (w fl : Int32) (st : Bool) : Prop := RepC S A ∧ S 0 9 = bI st ∧ S 0 10 = w ∧ S 0 11 = fl
theorem CR.to {S S' : mM} {A A' : aA} {w fl : Int32} {st : Bool} (h : CR S A w fl st) (hr : RepC S' A') (h0 : S' 0 = S 0) : CR S' A' w fl st := by
  refine ⟨hr, ?_⟩
  rw [h0]
  exact h.2
theorem CR.stir {w fl : Int32} {st : Bool} (h : CR S A w fl st) (b : Bool) : CR (sto S 0 9 (bI b)) A w fl b :=
  ⟨h.1.flag _ (by decide), sto_i _ _ _ _, by rw [sto_j (by decide)]; exact h.2.2.1, by rw [sto_j (by decide)]; exact h.2.2.2⟩
theorem bI_t : bI true = nI 1 := rfl
theorem bI_f : bI false = nI 0 := rfl
theorem bI_Z (b : Bool) : isZ (bI b) = true := by cases b <;> decide
theorem P_b0 (b : Bool) : (bI b = 0) = (b = false) := by cases b <;> exact propext (by decide)
theorem bI_0 {α : Type} {x y : α} (b : Bool) : (if bI b = 0 then x else y) = if b = false then x else y := n_if (P_b0 b)
theorem drop_get {x : List Nat} {i : Nat} (h : i < x.length) : x.drop i = x.getD i 0 :: x.drop (i + 1) := by
  rw [List.drop_eq_getElem_cons h, List.getD_eq_getElem?_getD, List.getElem?_eq_getElem h]
  rfl
theorem P_oN (x : Option Nat) (h : ∀ g, x = some g → g < 2 ^ 31) : (oI x = -9) = (x = none) := by
  cases x with
  | none => exact propext (by decide)
  | some g =>
    show (nI g = -9) = _
    rw [P_eqN (h g rfl)]
    exact propext (by simp)
theorem oI_N {α : Type} {y z : α} (x : Option Nat) (h : ∀ g, x = some g → g < 2 ^ 31) : (if oI x = -9 then y else z) = if x = none then y else z := n_if (P_oN x h)
theorem rowF_lt (iv : Inv A) {k : Nat} (hk : k < 5) (x : Int32) : ∀ g, rowF (aT A k) x (aN A k) = some g → g < 2 ^ 31 := fun g hg => by
  have h1 := (rowF_some hg).1
  have h2 := iv.cnt k hk
  have h3 : aMx k ≤ 16 := by rcases k5 hk with rfl | rfl | rfl | rfl | rfl <;> decide
  omega
theorem cnt3 (iv : Inv A) : aN A 3 ≤ 4 := iv.cnt 3 (by decide)
theorem cnt1 (iv : Inv A) : aN A 1 ≤ 6 := iv.cnt 1 (by decide)
theorem cnt4 (iv : Inv A) : aN A 4 ≤ 16 := iv.cnt 4 (by decide)
theorem c_short (h : RepC S A) {v : Nat} (hv : v < aN A 4) : pX4_hasTooLittle (nI v) S = some (bI (shortV A v)) := by
  unfold pX4_hasTooLittle
  rw [C_getV h hv (by decide), cr1_s, C_getV h hv (by decide), cr1_s, gd_p isZ_0, gd_p isZ_1]
  unfold shortV
  by_cases q : aT A 4 v 1 ≤ aT A 4 v 3
  · rw [if_pos q, decide_eq_false (Int32.not_lt.mpr q), bI_f]
  · rw [if_neg q, decide_eq_true (Int32.not_le.mp q), bI_t]
theorem c_end (h : RepC S A) {c : Nat} (hc : c < aN A 3) : pX4_isAtEnd (nI c) S = some (bI (decide (aT A 3 c 0 = aS A 0))) := by
  unfold pX4_isAtEnd
  rw [C_getC h hc (by decide), cr1_s, gf_e, h.1.1, gd_p isZ_0, gd_p isZ_1]
  by_cases q : aT A 3 c 0 = aS A 0
  · rw [if_pos q, decide_eq_true q, bI_t]
  · rw [if_neg q, decide_eq_false q, bI_f]
theorem c_slow (h : RepC S A) (iv : Inv A) {c : Nat} (hc : c < aN A 3) : pX4_slowestSpeed (nI c) S = some (slowF A (aL A 0 c)) := by
  have h4 := cnt3 iv
  have h8 := (iv.line0 c hc).1
  have main : ∀ (m i k : Nat) (x : Int32), i + m = (aL A 0 c).length → m < k → pX4_slowestSpeed_l4 S k (nI c) x (nI i) = some (if i = 0 then (if (aL A 0 c) = [] then x else slowF A (aL A 0 c)) else ((aL A 0 c).drop i).foldl (fun m w => mn m (aT A 4 w 0)) x) := by
    intro m
    induction m with
    | zero =>
      intro i k x hi hk
      obtain ⟨k, rfl⟩ : ∃ q, k = q + 1 := ⟨k - 1, by omega⟩
      show pX4_slowestSpeed_lb4 (pX4_slowestSpeed_l4 S k) S (nI c) x (nI i) = _
      unfold pX4_slowestSpeed_lb4
      rw [C_size0 h (by omega), cr1_s, n_le (by omega) (by omega), if_pos (by omega)]
      by_cases q : i = 0
      · rw [if_pos q, if_pos (List.length_eq_zero_iff.mp (by omega))]
      · rw [if_neg q, List.drop_eq_nil_of_le (by omega)]
        rfl
    | succ m ih =>
      intro i k x hi hk
      obtain ⟨k, rfl⟩ : ∃ q, k = q + 1 := ⟨k - 1, by omega⟩
      show pX4_slowestSpeed_lb4 (pX4_slowestSpeed_l4 S k) S (nI c) x (nI i) = _
      unfold pX4_slowestSpeed_lb4
      have hv := iv.vok hc (getD_mem (x := aL A 0 c) (i := i) (by omega))
      rw [C_size0 h (by omega), cr1_s, n_le (by omega) (by omega), if_neg (by omega), C_get0 h (by omega) (by omega), cr1_s, C_getV h hv (by decide), cr1_s, n_eq0 (by omega)]
      have hd := drop_get (x := aL A 0 c) (i := i) (by omega)
      by_cases q : i = 0
      · subst q
        rw [if_pos rfl, if_pos rfl, vl_e, nI_add, ih (0 + 1) k _ (by omega) (by omega), if_neg (by omega)]
        rw [List.drop_zero] at hd
        rw [if_neg (by rw [hd]; simp)]
        generalize hg : (aL A 0 c).getD 0 0 = v0 at hd ⊢
        rw [hd]
        rfl
      · rw [if_neg q, if_neg q, vl_e, vl_e, nI_add, ih (i + 1) k _ (by omega) (by omega), if_neg (by omega), hd, List.foldl_cons]
        rfl
  unfold pX4_slowestSpeed
  rw [main (aL A 0 c).length 0 fuel (nI 0) (by omega) (by unfold fuel; omega), if_pos rfl]
  by_cases q : aL A 0 c = []
  · rw [if_pos q, q]
    rfl
  · rw [if_neg q]
end CLS
