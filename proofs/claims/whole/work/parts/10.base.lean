/-! ===== a memory of numbers over cells whose shapes stay: worlds, regions, contracts ===== -/
/-- the numbers of all cells: a cell, a slot -/
abbrev mM : Type := Nat → Nat → Int32
/-- a cell's shape: what it holds, out of its numbers -/
abbrev mS : Type := (Nat → Int32) → va_E
/-- classes, addresses, shapes, how many cells, the first address of ours, array classes, strings -/
abbrev mG : Type := va_G × (Nat → Nat) × (Nat → mS) × Nat × Nat × (Nat → ClassId) × (Nat → Nat)
def gD (G : mG) : va_G := G.1
def gA (G : mG) : Nat → Nat := G.2.1
def gK (G : mG) : Nat → mS := G.2.2.1
def gN (G : mG) : Nat := G.2.2.2.1
def gZ (G : mG) : Nat := G.2.2.2.2.1
def gC (G : mG) : Nat → ClassId := G.2.2.2.2.2.1
def gS (G : mG) : Nat → Nat := G.2.2.2.2.2.2
def gT (G : mG) : List (ClassId × FieldType) := [(gC G 0, .int), (gC G 1, .boolean), (gC G 2, .char), (gC G 3, .object "WinterRoad$State"), (gC G 4, .long)]
def gW (G : mG) (M : mM) : va_W := (List.range (gN G)).map (fun k => (gA G k, gK G k (M k)))
theorem gW_at {G : mG} {M : mM} {k : Nat} (h : k < gN G) : (gW G M)[k]? = some (gA G k, gK G k (M k)) := by
  simp [gW, h]
theorem gW_len (G : mG) (M : mM) : (gW G M).length = gN G := by simp [gW]
theorem gW_some {G : mG} {M : mM} {k : Nat} {q : Nat × va_E} (h : (gW G M)[k]? = some q) : k < gN G ∧ q = (gA G k, gK G k (M k)) := by
  have hk : k < gN G := by
    have h1 := (List.getElem?_eq_some_iff.mp h).1
    rwa [gW_len] at h1
  rw [gW_at hk] at h
  exact ⟨hk, (Option.some.inj h).symm⟩
theorem gW_set {G : mG} {M M' : mM} {k : Nat} {x : va_E} (hk : k < gN G) (hx : gK G k (M' k) = x) (ho : ∀ j, j ≠ k → M' j = M j) : (gW G M).set k (gA G k, x) = gW G M' := by
  apply List.ext_getElem?
  intro i
  rw [List.getElem?_set]
  by_cases hi : k = i
  · subst hi
    rw [if_pos rfl, gW_len, if_pos hk, gW_at hk, hx]
  · rw [if_neg hi]
    by_cases h2 : i < gN G
    · rw [gW_at h2, gW_at h2, ho i (Ne.symm hi)]
    · rw [List.getElem?_eq_none (by rw [gW_len]; omega), List.getElem?_eq_none (by rw [gW_len]; omega)]
/-- the addresses are apart, and ours -/
def gOK (G : mG) : Prop := (∀ i j, i < gN G → j < gN G → gA G i = gA G j → i = j) ∧ ∀ k, k < gN G → gZ G ≤ gA G k
def mA (G : mG) : Nat → Prop := fun q => gZ G ≤ q
theorem gD_ok {G : mG} (h : gOK G) (M : mM) : va_D (mA G) (gW G M) := by
  refine ⟨fun i j p q hp hq he => ?_, fun k q hq => ?_⟩
  · obtain ⟨h1, rfl⟩ := gW_some hp
    obtain ⟨h2, rfl⟩ := gW_some hq
    exact h.1 i j h1 h2 he
  · obtain ⟨h1, rfl⟩ := gW_some hq
    exact h.2 k h1
/-- what else of the machine stays: links of nest mates; for what throws: texts, two statics, the words that are no good words -/
def mNw : List Cond := [.methodLinkNest RX1 114 yX6_isWithin RX6, .methodLinkNest RX4 112 yX6_isWithin RX6]
def mX (G : mG) (U : State) : Prop :=
  (va_Nw (.methodLinkNest RX1 114 yX6_isWithin RX6) U ∧ va_Nw (.methodLinkNest RX4 112 yX6_isWithin RX6) U) ∧
  (vk_R RX6 236 "there is no such thing" (gS G 0) U ∧ vk_R RX6 245 "there is no such save slot" (gS G 1) U ∧ vk_R RX6 249 "an argument is out of its range" (gS G 2) U ∧ vk_R RX6 254 "this is not possible now" (gS G 3) U) ∧
  (vx_Zq Bundle.tN "UNASSIGNED_STACK" Bundle.steD (mA G) U U.heap ∧ vx_Zq Bundle.tN "SUPPRESSED_SENTINEL" Bundle.listD (mA G) U U.heap) ∧
  (va_Nw (.castable "java/lang/IndexOutOfBoundsException" "java/lang/IndexOutOfBoundsException") U ∧ va_Nw (.castable "java/lang/IllegalArgumentException" "java/lang/IllegalArgumentException") U ∧ va_Nw (.castable "java/lang/IllegalStateException" "java/lang/IllegalStateException") U ∧ va_Nw (.declares (Bundle.initS "java/lang/RuntimeException")) U ∧ va_Nw (.declares (Bundle.initS "java/lang/Exception")) U ∧ va_Nw (.declares (Bundle.initS Bundle.tN)) U)
theorem mX.moved {G : mG} {s U : State} (hW : s.WarmedH U.vm) (hq : ∀ a : Nat, a < s.heap.size → ¬ mA G a → U.heap[a]? = s.heap[a]?) (h : mX G s) : mX G U := by
  obtain ⟨⟨a1, a2⟩, ⟨b1, b2, b3, b4⟩, ⟨c1, c2⟩, d1, d2, d3, d4, d5, d6⟩ := h
  exact ⟨⟨a1.warmM hW, a2.warmM hW⟩, ⟨b1.warm hW, b2.warm hW, b3.warm hW, b4.warm hW⟩, ⟨(c1.moved hW.alike).kept hq, (c2.moved hW.alike).kept hq⟩, d1.warmC hW, d2.warmC hW, d3.warmC hW, d4.warmD hW, d5.warmD hW, d6.warmD hW⟩
/-- what stays of the machine -/
def mE (G : mG) (U : State) : Prop := va_K (gD G) vwCl (gT G) U ∧ gZ G ≤ U.heap.size ∧ gOK G ∧ mX G U
theorem mE.moved {G : mG} {s U : State} (hW : s.WarmedH U.vm) (hz : s.heap.size ≤ U.heap.size) (hq : ∀ a : Nat, a < s.heap.size → ¬ mA G a → U.heap[a]? = s.heap[a]?) (h : mE G s) : mE G U :=
  ⟨h.1.moved hW.alike, Nat.le_trans h.2.1 hz, h.2.2.1, h.2.2.2.moved hW hq⟩
/-- the world in a walk -/
def mW (G : mG) (s : State) (M : mM) (H : Heap) (locs : List Loc) : Prop := va_P (gD G) vwCl (gW G M) H ∧ va_S (mA G) s.heap H locs
theorem mE.at {G : mG} {s U : State} {M : mM} {H : Heap} {locs : List Loc} (h : mE G s) (hw : mW G s M H locs) (hU : U.heap = H) (hW : s.WarmedH U.vm) : mE G U :=
  h.moved hW (by rw [hU]; exact hw.2.1) (fun a h1 h2 => by rw [hU]; exact hw.2.2.1 a h1 h2)
theorem mW.start {G : mG} {s : State} {M : mM} (h : va_P (gD G) vwCl (gW G M) s.heap) : mW G s M s.heap [] := ⟨h, va_S.rf⟩
/-! regions -/
def wB (M : mM) (β n : Nat) (S : mM) : mM := fun k => if β ≤ k ∧ k < β + n then S (k - β) else M k
def sB (S : mM) (o : Nat) : mM := fun k => S (o + k)
/-- one cell's numbers anew -/
def u2 (S : mM) (k : Nat) (f : Nat → Int32) : mM := fun a => if a = k then f else S a
theorem wB_at {M S : mM} {β n k : Nat} (h : k < n) : wB M β n S (β + k) = S k := by
  unfold wB
  rw [if_pos ⟨Nat.le_add_right _ _, Nat.add_lt_add_left h _⟩, Nat.add_sub_cancel_left]
theorem wB_sub {M S : mM} {β n o n' : Nat} (h : o + n' ≤ n) : wB (wB M β n S) (β + o) n' (sB S o) = wB M β n S := by
  funext k
  unfold wB sB
  by_cases h1 : β + o ≤ k ∧ k < β + o + n'
  · rw [if_pos h1, if_pos (by omega)]
    congr 1
    omega
  · rw [if_neg h1]
theorem wB_in {M S T : mM} {β n o n' : Nat} (h : o + n' ≤ n) : wB (wB M β n S) (β + o) n' T = wB M β n (wB S o n' T) := by
  funext k
  unfold wB
  by_cases h1 : β + o ≤ k ∧ k < β + o + n'
  · rw [if_pos h1, if_pos (by omega), if_pos (by omega)]
    congr 1
    omega
  · rw [if_neg h1]
    by_cases h2 : β ≤ k ∧ k < β + n
    · rw [if_pos h2, if_pos h2, if_neg (by omega)]
    · rw [if_neg h2, if_neg h2]
theorem wB_self {S : mM} {o n : Nat} : wB S o n (sB S o) = S := by
  funext k
  unfold wB sB
  by_cases h : o ≤ k ∧ k < o + n
  · rw [if_pos h]
    congr 1
    omega
  · rw [if_neg h]
/-! contracts -/
def mPc (G : mG) (av : List Value) (M : mM) : Array Value → State → Prop := va_Pc av (fun U => mE G U ∧ va_P (gD G) vwCl (gW G M) U.heap)
def mQ (G : mG) (r : Option Value) (M : mM) : Array Value → State → Outcome → State → Prop := fun _ st o t => (o = .returned r ∧ va_P (gD G) vwCl (gW G M) t.heap) ∧ va_F (mA G) st t
/-- a method that makes nothing and throws nothing: at the memory M it answers r, the memory is M' then -/
def MC (l : Launch) (G : mG) (y : MethodName) (ws : List Cond) (fr lo : Nat) (av : List Value) (M M' : mM) (r : Option Value) : Prop :=
  Met l y ws { frames := fr, cells := 0, slots := 0, locals := lo } (mPc G av M) (mQ G r M') 0 0 (mA G)
theorem mPc_blind (G : mG) (av : List Value) (M : mM) : FrameBlind (mPc G av M) := fun a U g mk q =>
  ⟨q.1, mE.moved (s := U) (State.WarmedH.refl U) (Nat.le_refl _) (fun _ _ _ => rfl) q.2.1, q.2.2⟩
/-- a callee's contract over a part of the caller's region -/
theorem mc_sub {l : Launch} {G : mG} {y : MethodName} {ws : List Cond} {fr lo : Nat} {av : List Value} {M S T : mM} {β n : Nat} {r : Option Value} (o n' : Nat) (ho : o + n' ≤ n) (h : MC l G y ws fr lo av (wB (wB M β n S) (β + o) n' (sB S o)) (wB (wB M β n S) (β + o) n' T) r) : MC l G y ws fr lo av (wB M β n S) (wB M β n (wB S o n' T)) r := by
  rw [wB_sub ho, wB_in ho] at h
  exact h
theorem mc_subR {l : Launch} {G : mG} {y : MethodName} {ws : List Cond} {fr lo : Nat} {av : List Value} {M S : mM} {β n : Nat} {r : Option Value} (o n' : Nat) (ho : o + n' ≤ n) (h : MC l G y ws fr lo av (wB (wB M β n S) (β + o) n' (sB S o)) (wB (wB M β n S) (β + o) n' (sB S o)) r) : MC l G y ws fr lo av (wB M β n S) (wB M β n S) r := by
  rw [wB_sub ho] at h
  exact h
/-! words of programs -/
def inB (i : Int32) (n : Nat) : Bool := decide (¬ (i < 0 ∨ n ≤ i.toNatClampNeg))
theorem inB_in {i : Int32} {n : Nat} (h : inB i n = true) : vp_in i n := of_decide_eq_true (p := ¬ (i < 0 ∨ n ≤ i.toNatClampNeg)) h
def isZ (v : Int32) : Bool := decide (v = 0 ∨ v = 1)
theorem isZ_n {v : Int32} (h : isZ v = true) : narrow .boolean (.int v) = .int v := by
  rcases (of_decide_eq_true h : v = 0 ∨ v = 1) with rfl | rfl <;> rfl
theorem isZ_f {v : Int32} (h : isZ v = true) : fits .boolean (.int v) = true := by
  rcases (of_decide_eq_true h : v = 0 ∨ v = 1) with rfl | rfl <;> rfl
/-- goes on if it is so -/
def gd {α : Type} (b : Bool) (k : Option α) : Option α := if b = true then k else none
theorem gd_some {α : Type} {b : Bool} {k : Option α} {z : α} (h : gd b k = some z) : b = true ∧ k = some z := by
  unfold gd at h
  by_cases hb : b = true
  · rw [if_pos hb] at h
    exact ⟨hb, h⟩
  · rw [if_neg hb] at h
    cases h
theorem bd_some {α δ : Type} {x : Option α} {k : α → Option δ} {z : δ} (h : x.bind k = some z) : ∃ a, x = some a ∧ k a = some z := by
  cases x with
  | none => cases h
  | some a => exact ⟨a, rfl, h⟩
theorem if_t {c : Prop} [Decidable c] {α : Type} {a b z : α} (hc : c) (h : ite c a b = z) : a = z := (if_pos hc).symm.trans h
theorem if_f {c : Prop} [Decidable c] {α : Type} {a b z : α} (hc : ¬ c) (h : ite c a b = z) : b = z := (if_neg hc).symm.trans h
/-- how often a loop goes round at most -/
def fuel : Nat := 5000
