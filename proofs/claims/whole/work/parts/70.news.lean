/-! ===== new things ===== -/
/-- one more thing of a kind, with its numbers -/
def newT (A : aA) (k : Nat) (v : Nat → Int32) : aA := aTab A k (aN A k + 1) (fun a b => if a = aN A k then v b else aT A k a b)
theorem newT_N (A : aA) (k : Nat) (v : Nat → Int32) (a : Nat) : aN (newT A k v) a = if a = k then aN A k + 1 else aN A a := rfl
theorem newT_T (A : aA) (k : Nat) (v : Nat → Int32) (a i j : Nat) : aT (newT A k v) a i j = if a = k ∧ i = aN A k then v j else aT A a i j := by
  show (if a = k then (fun x y => if x = aN A k then v y else aT A k x y) else A.2.2.1 a) i j = _
  by_cases q : a = k
  · subst q
    rw [if_pos rfl]
    by_cases q2 : i = aN A a
    · rw [if_pos q2, if_pos ⟨rfl, q2⟩]
    · rw [if_neg q2, if_neg (fun z => q2 z.2)]
  · rw [if_neg q, if_neg (fun z => q z.1)]
    rfl
section NEWS
variable {ρ : Type} {S : mM} {A : aA}
theorem RepC.ext {B : aA} (h : RepC S A) (hS : aS B = aS A) (hN : aN B = aN A) (hL : aL B = aL A) (hT : ∀ k i j, k < 5 → i < aN A k → j < aCo k → aT A k i j = aT B k i j) : RepC S B := by
  obtain ⟨⟨r1, r2⟩, r3, r4, r5⟩ := h
  refine ⟨by rw [hS]; exact ⟨r1, r2⟩, fun k hk => ?_, by rw [hL]; exact r4, by rw [hL]; exact r5⟩
  rw [hN]
  exact (r3 k hk).to (fun i j hi hj => hT k i j hk hi hj)
theorem C_add (h : RepC S A) {k o n : Nat} (hk : k < 5) (ho : o = 1 + 2 * k) (hn : n = aMx k * aCo k) (hlt : aN A k < aMx k) :
    ∃ S', (∀ K : Int32 → mM → Option ρ, cws S o 2 (pX5_addRow n (sB S o)) K = K (nI (aN A k)) S') ∧ RepC S' (newT A k (fun _ => nI 0)) ∧ S' 0 = S 0 := by
  subst ho
  obtain ⟨T', e1, e2⟩ := tab_addRow (h.2.1 k hk) (aMx_lt hk).1 hn (aMx_lt hk).2 hlt
  exact ⟨wB S (1 + 2 * k) 2 T', fun K => by rw [e1, cws_s], h.tab hk e2, wB_out (by omega)⟩
theorem newT_put (A : aA) (k j : Nat) (v : Nat → Int32) (x : Int32) : aPut (newT A k v) k (aN A k) j x = newT A k (fun b => if b = j then x else v b) := by
  refine Prod.ext rfl (Prod.ext rfl (Prod.ext ?_ rfl))
  funext a b c
  show aT (aPut (newT A k v) k (aN A k) j x) a b c = aT (newT A k (fun b => if b = j then x else v b)) a b c
  rw [aT_put, newT_T, newT_T]
  by_cases q : a = k ∧ b = aN A k
  · rw [if_pos q, if_pos q]
    by_cases q2 : c = j
    · rw [if_pos ⟨q.1, q.2, q2⟩, if_pos q2]
    · rw [if_neg (fun z => q2 z.2.2), if_neg q2]
  · rw [if_neg q, if_neg q, if_neg (fun z => q ⟨z.1, z.2.1⟩)]
end NEWS
def nv (L : List Int32) (j : Nat) : Int32 := L.getD j (nI 0)
section NEWS2
variable {S : mM} {A : aA}
theorem C_putN {ρ : Type} {k : Nat} {v : Nat → Int32} (h : RepC S (newT A k v)) {o n j : Nat} (x : Int32) (hk : k < 5) (ho : o = 1 + 2 * k) (hn : n = aMx k * aCo k) (hj : j < aCo k) :
    ∃ S', (∀ K : mM → Option ρ, cvs S o 2 (pX5_put n (nI (aN A k)) (nI j) x (sB S o)) K = K S') ∧ RepC S' (newT A k (fun b => if b = j then x else v b)) ∧ S' 0 = S 0 := by
  have hi : aN A k < aN (newT A k v) k := by
    rw [newT_N, if_pos rfl]
    exact Nat.lt_succ_self _
  obtain ⟨S', e1, e2, e3⟩ := C_put (ρ := ρ) h (k := k) (o := o) (n := n) (i := aN A k) (j := j) x hk ho hn hi hj
  rw [newT_put] at e2
  exact ⟨S', e1, e2, e3⟩
theorem newT_ext {k : Nat} {v u : Nat → Int32} (h : RepC S (newT A k v)) (he : ∀ j, j < aCo k → v j = u j) : RepC S (newT A k u) := by
  refine h.ext rfl rfl rfl (fun k' i j hk hi hj => ?_)
  rw [newT_T, newT_T]
  by_cases q : k' = k ∧ i = aN A k
  · rw [if_pos q, if_pos q]
    exact he j (by rw [← q.1]; exact hj)
  · rw [if_neg q, if_neg q]
theorem c_newGate (h : RepC S A) (hlt : aN A 0 < 4) (a1 a2 a3 a4 : Int32) : ∃ S', pX4_newGate a1 a2 a3 a4 S = some (nI (aN A 0), S') ∧ RepC S' (newT A 0 (nv [a1, a2, a3, a4])) ∧ S' 0 = S 0 := by
  unfold pX4_newGate
  obtain ⟨S1, e1, r1, z1⟩ := C_add (ρ := Int32 × mM) h (k := 0) (o := 1) (n := 16) (by decide) rfl rfl hlt
  rw [e1]
  obtain ⟨S2, e2, r2, z2⟩ := C_putN (ρ := Int32 × mM) r1 (o := 1) (n := 16) (j := 0) a1 (by decide) rfl rfl (by decide)
  rw [e2]
  obtain ⟨S3, e3, r3, z3⟩ := C_putN (ρ := Int32 × mM) r2 (o := 1) (n := 16) (j := 1) a2 (by decide) rfl rfl (by decide)
  rw [e3]
  obtain ⟨S4, e4, r4, z4⟩ := C_putN (ρ := Int32 × mM) r3 (o := 1) (n := 16) (j := 2) a3 (by decide) rfl rfl (by decide)
  rw [e4]
  obtain ⟨S5, e5, r5, z5⟩ := C_putN (ρ := Int32 × mM) r4 (o := 1) (n := 16) (j := 3) a4 (by decide) rfl rfl (by decide)
  rw [e5]
  refine ⟨S5, rfl, (newT_ext r5 (fun j hj => ?_)), (z5.trans (z4.trans (z3.trans (z2.trans z1))))⟩
  have hj4 : j < 4 := hj
  rcases j with _ | _ | _ | _ | j
  · rfl
  · rfl
  · rfl
  · rfl
  · omega
theorem c_newBay (h : RepC S A) (hlt : aN A 1 < 6) (a1 a2 : Int32) : ∃ S', pX4_newBay a1 a2 S = some (nI (aN A 1), S') ∧ RepC S' (newT A 1 (nv [a1, a2])) ∧ S' 0 = S 0 := by
  unfold pX4_newBay
  obtain ⟨S1, e1, r1, z1⟩ := C_add (ρ := Int32 × mM) h (k := 1) (o := 3) (n := 12) (by decide) rfl rfl hlt
  rw [e1]
  obtain ⟨S2, e2, r2, z2⟩ := C_putN (ρ := Int32 × mM) r1 (o := 3) (n := 12) (j := 0) a1 (by decide) rfl rfl (by decide)
  rw [e2]
  obtain ⟨S3, e3, r3, z3⟩ := C_putN (ρ := Int32 × mM) r2 (o := 3) (n := 12) (j := 1) a2 (by decide) rfl rfl (by decide)
  rw [e3]
  refine ⟨S3, rfl, (newT_ext r3 (fun j hj => ?_)), (z3.trans (z2.trans z1))⟩
  have hj4 : j < 2 := hj
  rcases j with _ | _ | j
  · rfl
  · rfl
  · omega
theorem c_newDepot (h : RepC S A) (hlt : aN A 2 < 4) (a1 a2 : Int32) : ∃ S', pX4_newDepot a1 a2 S = some (nI (aN A 2), S') ∧ RepC S' (newT A 2 (nv [a1, a2])) ∧ S' 0 = S 0 := by
  unfold pX4_newDepot
  obtain ⟨S1, e1, r1, z1⟩ := C_add (ρ := Int32 × mM) h (k := 2) (o := 5) (n := 8) (by decide) rfl rfl hlt
  rw [e1]
  obtain ⟨S2, e2, r2, z2⟩ := C_putN (ρ := Int32 × mM) r1 (o := 5) (n := 8) (j := 0) a1 (by decide) rfl rfl (by decide)
  rw [e2]
  obtain ⟨S3, e3, r3, z3⟩ := C_putN (ρ := Int32 × mM) r2 (o := 5) (n := 8) (j := 1) a2 (by decide) rfl rfl (by decide)
  rw [e3]
  refine ⟨S3, rfl, (newT_ext r3 (fun j hj => ?_)), (z3.trans (z2.trans z1))⟩
  have hj4 : j < 2 := hj
  rcases j with _ | _ | j
  · rfl
  · rfl
  · omega
theorem c_newConvoy (h : RepC S A) (hlt : aN A 3 < 4) : ∃ S', pX4_newConvoy S = some (nI (aN A 3), S') ∧ RepC S' (newT A 3 (fun _ => nI 0)) ∧ S' 0 = S 0 := by
  unfold pX4_newConvoy
  obtain ⟨S1, e1, r1, z1⟩ := C_add (ρ := Int32 × mM) h (k := 3) (o := 7) (n := 16) (by decide) rfl rfl hlt
  rw [e1]
  exact ⟨S1, rfl, r1, z1⟩
/-- a new vehicle at the end of a convoy -/
def newV (A : aA) (c : Nat) (a1 a2 a3 a4 : Int32) : aA := aLine (newT A 4 (nv [a1, a2, a3, a4, nI 0, nI c, nI 0])) 0 c (aL A 0 c ++ [aN A 4])
theorem c_newVehicle (h : RepC S A) (hlt : aN A 4 < 16) {c : Nat} (hc : c < 4) (h8 : (aL A 0 c).length < 8) (a1 a2 a3 a4 : Int32) : ∃ S', pX4_newVehicle (nI c) a1 a2 a3 a4 S = some (nI (aN A 4), S') ∧ RepC S' (newV A c a1 a2 a3 a4) ∧ S' 0 = S 0 := by
  unfold pX4_newVehicle
  obtain ⟨S1, e1, r1, z1⟩ := C_add (ρ := Int32 × mM) h (k := 4) (o := 9) (n := 112) (by decide) rfl rfl hlt
  rw [e1]
  obtain ⟨S2, e2, r2, z2⟩ := C_putN (ρ := Int32 × mM) r1 (o := 9) (n := 112) (j := 0) a1 (by decide) rfl rfl (by decide)
  rw [e2]
  obtain ⟨S3, e3, r3, z3⟩ := C_putN (ρ := Int32 × mM) r2 (o := 9) (n := 112) (j := 1) a2 (by decide) rfl rfl (by decide)
  rw [e3]
  obtain ⟨S4, e4, r4, z4⟩ := C_putN (ρ := Int32 × mM) r3 (o := 9) (n := 112) (j := 2) a3 (by decide) rfl rfl (by decide)
  rw [e4]
  obtain ⟨S5, e5, r5, z5⟩ := C_putN (ρ := Int32 × mM) r4 (o := 9) (n := 112) (j := 3) a4 (by decide) rfl rfl (by decide)
  rw [e5]
  obtain ⟨S6, e6, r6, z6⟩ := C_putN (ρ := mM) r5 (o := 9) (n := 112) (j := 4) (nI 0) (by decide) rfl rfl (by decide)
  obtain ⟨S7, e7, r7, z7⟩ := C_putN (ρ := mM) r6 (o := 9) (n := 112) (j := 5) (nI c) (by decide) rfl rfl (by decide)
  have em : pX4_moveTo (nI (aN A 4)) (nI 0) (nI c) S5 = some S7 := by
    unfold pX4_moveTo
    rw [e6, e7]
  rw [em, cr1_s]
  have r8 : RepC S7 (newT A 4 (nv [a1, a2, a3, a4, nI 0, nI c, nI 0])) := newT_ext r7 (fun j hj => by
    have hj4 : j < 7 := hj
    rcases j with _ | _ | _ | _ | _ | _ | _ | j
    · rfl
    · rfl
    · rfl
    · rfl
    · rfl
    · rfl
    · rfl
    · omega)
  obtain ⟨S9, e9, r9, z9⟩ := C_join0 (ρ := Int32 × mM) r8 (c := c) (aN A 4) hc h8
  rw [e9]
  exact ⟨S9, rfl, r9, (z9.trans (z7.trans (z6.trans (z5.trans (z4.trans (z3.trans (z2.trans z1)))))))⟩
end NEWS2
