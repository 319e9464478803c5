/-! ===== what an hour does to the road, as functions of values ===== -/
/-- the last of the first n things whose first number is x -/
def rowF (f : Nat → Nat → Int32) (x : Int32) : Nat → Option Nat
  | 0 => none
  | n + 1 => if f n 0 = x then some n else rowF f x n
def oI : Option Nat → Int32
  | none => -9
  | some n => nI n
def mn (a b : Int32) : Int32 := if b < a then b else a
def shortV (A : aA) (v : Nat) : Bool := decide (aT A 4 v 3 < aT A 4 v 1)
/-- a vehicle fills up at a depot; whether something happened -/
def fillV (d : Nat) (X : aA × Bool) (v : Nat) : aA × Bool :=
  (aPut (aPut X.1 4 v 3 (aT X.1 4 v 3 + mn (aT X.1 4 v 2 - aT X.1 4 v 3) (aT X.1 2 d 1))) 2 d 1 (aT X.1 2 d 1 - mn (aT X.1 4 v 2 - aT X.1 4 v 3) (aT X.1 2 d 1)),
   X.2 || decide (0 < mn (aT X.1 4 v 2 - aT X.1 4 v 3) (aT X.1 2 d 1)))
def fillC (c : Nat) (X : aA × Bool) : aA × Bool :=
  match rowF (aT X.1 2) (aT X.1 3 c 0) (aN X.1 2) with
  | none => X
  | some d => (aL X.1 0 c).foldl (fillV d) X
def slowF (A : aA) : List Nat → Int32
  | [] => 0
  | v :: r => r.foldl (fun m w => mn m (aT A 4 w 0)) (aT A 4 v 0)
/-- for how many hours a gate is closed -/
def remI (a b : Int32) : Int32 := a - a / b * b
def shutG (A : aA) (g : Nat) : Bool := decide (remI (aS A 1 + aT A 0 g 3) (aT A 0 g 1) < aT A 0 g 2)
def shutAt (A : aA) (x : Int32) : Bool :=
  match rowF (aT A 0) x (aN A 0) with
  | none => false
  | some g => shutG A g
/-- a vehicle stays behind in a bay -/
def leaveV (c b i v : Nat) (A : aA) : aA :=
  aPut (aPut (aLine (aLine A 0 c ((aL A 0 c).eraseIdx i)) 1 b (aL A 1 b ++ [v])) 4 v 4 (nI 1)) 4 v 5 (nI b)
def noteF (c b v : Nat) (w fl : Int32) : Int32 := if nI c = w ∧ fl = -9 then nI 100 * nI b + nI v else fl
def roomB (A : aA) (b : Nat) : Bool := decide (nI (aL A 1 b).length < aT A 1 b 1)
def shedB (c b : Nat) (w : Int32) : Nat → Nat → aA × Int32 × Bool → aA × Int32 × Bool
  | 0, _, X => X
  | n + 1, i, X =>
    if shortV X.1 ((aL X.1 0 c).getD i 0) = true ∧ roomB X.1 b = true then shedB c b w n i (leaveV c b i ((aL X.1 0 c).getD i 0) X.1, noteF c b ((aL X.1 0 c).getD i 0) w X.2.1, true)
    else shedB c b w n (i + 1) X
def shedC (c : Nat) (w : Int32) (X : aA × Int32 × Bool) : aA × Int32 × Bool :=
  match rowF (aT X.1 1) (aT X.1 3 c 0) (aN X.1 1) with
  | none => X
  | some b => shedB c b w (aL X.1 0 c).length 0 X
def okC (A : aA) (c : Nat) : Bool := !(aL A 0 c).isEmpty && (aL A 0 c).all (fun v => !shortV A v)
def burnV (A : aA) (v : Nat) : aA := aPut (aPut A 4 v 3 (aT A 4 v 3 - aT A 4 v 1)) 4 v 6 (aT A 4 v 6 + aT A 4 v 1)
def burnC (c : Nat) (A : aA) : aA := (aL A 0 c).foldl burnV (aPut A 3 c 0 (aT A 3 c 0 + nI 1))
def endV (A : aA) (v : Nat) : aA := aPut (aPut A 4 v 4 (nI 2)) 4 v 5 (-9)
def endC (c : Nat) (A : aA) : aA := aLine ((aL A 0 c).foldl endV A) 0 c []
def richF (A : aA) : List Nat → Nat
  | [] => 0
  | v :: r => r.foldl (fun m o => if aT A 4 m 3 < aT A 4 o 3 then o else m) v
def giftF (A : aA) (m v : Nat) : Int32 := mn (mn (nI 10) (aT A 4 m 3 / nI 2)) (aT A 4 v 2 - aT A 4 v 3)
def giveF (A : aA) (m v : Nat) : aA :=
  aPut (aPut A 4 m 3 (aT A 4 m 3 - giftF A m v)) 4 v 3 (aT (aPut A 4 m 3 (aT A 4 m 3 - giftF A m v)) 4 v 3 + giftF A m v)
def joinV (c b v : Nat) (r : List Nat) (A : aA) : aA :=
  aPut (aPut (aLine (aLine A 1 b r) 0 c (aL A 0 c ++ [v])) 4 v 4 (nI 0)) 4 v 5 (nI c)
def rescB (c b : Nat) : Nat → aA × Bool → aA × Bool
  | 0, X => X
  | n + 1, X =>
    match aL X.1 1 b with
    | [] => X
    | v :: r =>
      if (aL X.1 0 c).length < 8 then
        if shortV (giveF X.1 (richF X.1 (aL X.1 0 c)) v) v = true then (giveF X.1 (richF X.1 (aL X.1 0 c)) v, X.2)
        else rescB c b n (joinV c b v r (giveF X.1 (richF X.1 (aL X.1 0 c)) v), true)
      else X
def befV (A : aA) (v w : Nat) : Bool := decide (aT A 4 v 0 < aT A 4 w 0 ∨ aT A 4 v 0 = aT A 4 w 0 ∧ v < w)
/-- the vehicle at place k goes ahead of those that it comes ahead of -/
def bub (p : Nat → Nat → Bool) : Nat → List Nat → List Nat
  | 0, L => L
  | k + 1, L => if p (L.getD (k + 1) 0) (L.getD k 0) = true then bub p k ((L.set (k + 1) (L.getD k 0)).set k (L.getD (k + 1) 0)) else L
def ordL (p : Nat → Nat → Bool) : Nat → Nat → List Nat → List Nat
  | 0, _, L => L
  | n + 1, i, L => ordL p n (i + 1) (bub p i L)
def ordC (c : Nat) (A : aA) : aA := aLine A 0 c (ordL (befV A) ((aL A 0 c).length - 1) 1 (aL A 0 c))
def rescC (c : Nat) (A : aA) : aA :=
  match rowF (aT A 1) (aT A 3 c 0) (aN A 1) with
  | none => A
  | some b => if (rescB c b (aL A 1 b).length (A, false)).2 = true then ordC c (rescB c b (aL A 1 b).length (A, false)).1 else (rescB c b (aL A 1 b).length (A, false)).1
def plusC (A : aA) (c j : Nat) : aA := aPut A 3 c j (aT A 3 c j + nI 1)
def stepC (c : Nat) (w : Int32) : Nat → aA × Int32 × Bool → aA × Int32 × Bool
  | 0, X => X
  | n + 1, X =>
    if shutAt X.1 (aT X.1 3 c 0 + nI 1) = true then (plusC X.1 c 2, X.2.1, true)
    else if okC (shedC c w X).1 c = true then
      if aT (burnC c (shedC c w X).1) 3 c 0 = aS (burnC c (shedC c w X).1) 0 then (endC c (burnC c (shedC c w X).1), (shedC c w X).2.1, true)
      else stepC c w n (rescC c (burnC c (shedC c w X).1), (shedC c w X).2.1, true)
    else (plusC (shedC c w X).1 c 3, (shedC c w X).2.1, (shedC c w X).2.2)
def driveC (c : Nat) (w : Int32) (X : aA × Int32 × Bool) : aA × Int32 × Bool :=
  if 0 < aT X.1 3 c 1 then (aPut X.1 3 c 1 (aT X.1 3 c 1 - nI 1), X.2.1, true)
  else stepC c w (slowF (fillC c (X.1, X.2.2)).1 (aL (fillC c (X.1, X.2.2)).1 0 c)).toNatClampNeg ((fillC c (X.1, X.2.2)).1, X.2.1, (fillC c (X.1, X.2.2)).2)
def actC (A : aA) (c : Nat) : Bool := !(aL A 0 c).isEmpty && decide (aT A 3 c 0 ≠ aS A 0)
def hourB (w : Int32) : Nat → Nat → aA × Int32 × Bool → aA × Int32 × Bool
  | 0, _, X => X
  | n + 1, c, X => hourB w n (c + 1) (if actC X.1 c = true then driveC c w X else X)
/-- an hour; whether something happened in it -/
def hourA (w : Int32) (X : aA × Int32) : aA × Int32 × Bool :=
  (aSc (hourB w (aN X.1 3) 0 (X.1, X.2, false)).1 1 (aS (hourB w (aN X.1 3) 0 (X.1, X.2, false)).1 1 + nI 1), (hourB w (aN X.1 3) 0 (X.1, X.2, false)).2)
/-- what holds of every road -/
def Inv (A : aA) : Prop :=
  (∀ k, k < 5 → aN A k ≤ aMx k) ∧
  (∀ k, k < 3 → ∀ i j, i < aN A k → j < aN A k → aT A k i 0 = aT A k j 0 → i = j) ∧
  (∀ i, i < aN A 0 → ∃ p q, aT A 0 i 1 = nI p ∧ 2 ≤ p ∧ p ≤ 24 ∧ aT A 0 i 2 = nI q ∧ q < p) ∧
  (∀ i, i < aN A 1 → (∃ p, aT A 1 i 1 = nI p ∧ 1 ≤ p ∧ p ≤ 6) ∧ aT A 1 i 0 ≠ aS A 0) ∧
  (∀ i, i < aN A 2 → ∃ q, aT A 2 i 1 = nI q ∧ q < 2 ^ 20) ∧
  (∀ v, v < aN A 4 → ∃ s u t q, aT A 4 v 0 = nI s ∧ 1 ≤ s ∧ s ≤ 9 ∧ aT A 4 v 1 = nI u ∧ 1 ≤ u ∧ u ≤ 4 ∧ aT A 4 v 2 = nI t ∧ t ≤ 99 ∧ aT A 4 v 3 = nI q ∧ q ≤ t) ∧
  (∀ c, c < aN A 3 → (aL A 0 c).length ≤ 8 ∧ (aL A 0 c).Nodup ∧ ∀ v, v ∈ aL A 0 c → v < aN A 4 ∧ aT A 4 v 4 = nI 0 ∧ aT A 4 v 5 = nI c) ∧
  (∀ b, b < aN A 1 → (aL A 1 b).length ≤ 6 ∧ (aL A 1 b).Nodup ∧ ∀ v, v ∈ aL A 1 b → v < aN A 4 ∧ aT A 4 v 4 = nI 1 ∧ aT A 4 v 5 = nI b) ∧
  (∀ c, aN A 3 ≤ c → aL A 0 c = []) ∧
  (∀ b, aN A 1 ≤ b → aL A 1 b = [])
theorem Inv.cnt {A : aA} (h : Inv A) : ∀ k, k < 5 → aN A k ≤ aMx k := h.1
theorem Inv.dist {A : aA} (h : Inv A) : ∀ k, k < 3 → ∀ i j, i < aN A k → j < aN A k → aT A k i 0 = aT A k j 0 → i = j := h.2.1
theorem Inv.gate {A : aA} (h : Inv A) : ∀ i, i < aN A 0 → ∃ p q, aT A 0 i 1 = nI p ∧ 2 ≤ p ∧ p ≤ 24 ∧ aT A 0 i 2 = nI q ∧ q < p := h.2.2.1
theorem Inv.bay {A : aA} (h : Inv A) : ∀ i, i < aN A 1 → (∃ p, aT A 1 i 1 = nI p ∧ 1 ≤ p ∧ p ≤ 6) ∧ aT A 1 i 0 ≠ aS A 0 := h.2.2.2.1
theorem Inv.depot {A : aA} (h : Inv A) : ∀ i, i < aN A 2 → ∃ q, aT A 2 i 1 = nI q ∧ q < 2 ^ 20 := h.2.2.2.2.1
theorem Inv.veh {A : aA} (h : Inv A) : ∀ v, v < aN A 4 → ∃ s u t q, aT A 4 v 0 = nI s ∧ 1 ≤ s ∧ s ≤ 9 ∧ aT A 4 v 1 = nI u ∧ 1 ≤ u ∧ u ≤ 4 ∧ aT A 4 v 2 = nI t ∧ t ≤ 99 ∧ aT A 4 v 3 = nI q ∧ q ≤ t := h.2.2.2.2.2.1
theorem Inv.line0 {A : aA} (h : Inv A) : ∀ c, c < aN A 3 → (aL A 0 c).length ≤ 8 ∧ (aL A 0 c).Nodup ∧ ∀ v, v ∈ aL A 0 c → v < aN A 4 ∧ aT A 4 v 4 = nI 0 ∧ aT A 4 v 5 = nI c := h.2.2.2.2.2.2.1
theorem Inv.line1 {A : aA} (h : Inv A) : ∀ b, b < aN A 1 → (aL A 1 b).length ≤ 6 ∧ (aL A 1 b).Nodup ∧ ∀ v, v ∈ aL A 1 b → v < aN A 4 ∧ aT A 4 v 4 = nI 1 ∧ aT A 4 v 5 = nI b := h.2.2.2.2.2.2.2.1
theorem Inv.none0 {A : aA} (h : Inv A) : ∀ c, aN A 3 ≤ c → aL A 0 c = [] := h.2.2.2.2.2.2.2.2.1
theorem Inv.none1 {A : aA} (h : Inv A) : ∀ b, aN A 1 ≤ b → aL A 1 b = [] := h.2.2.2.2.2.2.2.2.2
theorem rowF_some {f : Nat → Nat → Int32} {x : Int32} : ∀ {n g : Nat}, rowF f x n = some g → g < n ∧ f g 0 = x := by
  intro n
  induction n with
  | zero => intro g h; cases h
  | succ n ih =>
    intro g h
    unfold rowF at h
    by_cases q : f n 0 = x
    · rw [if_pos q] at h
      cases h
      exact ⟨Nat.lt_succ_self _, q⟩
    · rw [if_neg q] at h
      have := ih h
      exact ⟨by omega, this.2⟩
theorem rowF_none {f : Nat → Nat → Int32} {x : Int32} : ∀ {n : Nat}, (∀ a, a < n → f a 0 ≠ x) → rowF f x n = none := by
  intro n
  induction n with
  | zero => intro _; rfl
  | succ n ih =>
    intro h
    unfold rowF
    rw [if_neg (h n (by omega))]
    exact ih (fun a ha => h a (by omega))
theorem rowF_is {f : Nat → Nat → Int32} {x : Int32} : ∀ {n g : Nat}, (∀ i j, i < n → j < n → f i 0 = f j 0 → i = j) → g < n → f g 0 = x → rowF f x n = some g := by
  intro n
  induction n with
  | zero => intro g _ h; omega
  | succ n ih =>
    intro g hd hg he
    unfold rowF
    by_cases q : f n 0 = x
    · rw [if_pos q, hd n g (by omega) hg (q.trans he.symm)]
    · rw [if_neg q]
      have hg2 : g ≠ n := fun e => q (by rw [← e]; exact he)
      exact ih (fun i j hi hj => hd i j (by omega) (by omega)) (by omega) he
theorem tab_rowF {T : mM} {mx co cnt n : Nat} {f : Nat → Nat → Int32} (h : TabRep T mx co cnt f) (hs : mx * co < 2 ^ 12) (hn : n = mx * co) (hc : 0 < co) (hd : ∀ i j, i < cnt → j < cnt → f i 0 = f j 0 → i = j) (x : Int32) : pX5_rowAt n x T = some (oI (rowF f x cnt)) := by
  rcases tab_rowAt h hs hn hc x with ⟨g, h1, h2, h3, h4⟩ | ⟨h1, h2⟩
  · rw [h4, rowF_is hd h1 h2]
    rfl
  · rw [h2, rowF_none h1]
    rfl
