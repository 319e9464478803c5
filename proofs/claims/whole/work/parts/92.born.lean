/-! ===== worlds that grow: what makes cells ===== -/
/-- the world G1 M1 goes on from the world G M, but for the cells E -/
def Up (E : Nat → Prop) (G : mG) (M : mM) (G1 : mG) (M1 : mM) : Prop := (gD G1 = gD G ∧ gZ G1 = gZ G ∧ gC G1 = gC G ∧ gS G1 = gS G) ∧ gN G ≤ gN G1 ∧ ∀ k, k < gN G → gA G1 k = gA G k ∧ (¬ E k → gK G1 k = gK G k ∧ M1 k = M k)
section BORN
variable {G G1 G2 : mG} {M M1 M2 : mM} {E F : Nat → Prop} {U : State}
theorem Up.rf : Up E G M G M := ⟨⟨rfl, rfl, rfl, rfl⟩, Nat.le_refl _, fun _ _ => ⟨rfl, fun _ => ⟨rfl, rfl⟩⟩⟩
theorem Up.tr (h : Up E G M G1 M1) (g : Up F G1 M1 G2 M2) (hE : ∀ k, k < gN G → F k → E k) : Up E G M G2 M2 := by
  obtain ⟨⟨a1, a2, a3, a4⟩, a5, a6⟩ := h
  obtain ⟨⟨b1, b2, b3, b4⟩, b5, b6⟩ := g
  refine ⟨⟨b1.trans a1, b2.trans a2, b3.trans a3, b4.trans a4⟩, Nat.le_trans a5 b5, fun k hk => ?_⟩
  obtain ⟨x1, x2⟩ := a6 k hk
  obtain ⟨y1, y2⟩ := b6 k (Nat.lt_of_lt_of_le hk a5)
  refine ⟨y1.trans x1, fun hn => ?_⟩
  obtain ⟨u1, u2⟩ := x2 hn
  obtain ⟨v1, v2⟩ := y2 (fun z => hn (hE k hk z))
  exact ⟨v1.trans u1, v2.trans u2⟩
theorem Up.sub (h : Up F G M G1 M1) (hE : ∀ k, k < gN G → F k → E k) : Up E G M G1 M1 := ⟨h.1, h.2.1, fun k hk => ⟨(h.2.2 k hk).1, fun hn => (h.2.2 k hk).2 (fun z => hn (hE k hk z))⟩⟩
theorem Up.a (h : Up E G M G1 M1) {k : Nat} (hk : k < gN G) : gA G1 k = gA G k := (h.2.2 k hk).1
theorem Up.k (h : Up E G M G1 M1) {k : Nat} (hk : k < gN G) (hn : ¬ E k) : gK G1 k = gK G k := ((h.2.2 k hk).2 hn).1
theorem Up.m (h : Up E G M G1 M1) {k : Nat} (hk : k < gN G) (hn : ¬ E k) : M1 k = M k := ((h.2.2 k hk).2 hn).2
theorem mE.up (h : mE G U) (u : Up E G M G1 M1) (ok : gOK G1) : mE G1 U := by
  obtain ⟨⟨e1, e2, e3, e4⟩, _, _⟩ := u
  unfold mE mX mA gT at h ⊢
  rw [e1, e2, e3, e4]
  exact ⟨h.1, h.2.1, ok, h.2.2.2⟩
theorem Up.zA (u : Up E G M G1 M1) : mA G1 = mA G := by
  unfold mA
  rw [u.1.2.1]
theorem gOK_of (h : va_D (mA G) (gW G M)) : gOK G := ⟨fun i j hi hj e => h.1 i j _ _ (gW_at hi) (gW_at hj) e, fun k hk => h.2 k _ (gW_at hk)⟩
theorem gW_push (hN : gN G1 = gN G + 1) (hk : ∀ k, k < gN G → gA G1 k = gA G k ∧ gK G1 k (M1 k) = gK G k (M k)) : gW G1 M1 = gW G M ++ [(gA G1 (gN G), gK G1 (gN G) (M1 (gN G)))] := by
  have e : (List.range (gN G)).map (fun k => (gA G1 k, gK G1 k (M1 k))) = (List.range (gN G)).map (fun k => (gA G k, gK G k (M k))) := List.map_congr_left (fun k h => by
    rw [List.mem_range] at h
    rw [(hk k h).1, (hk k h).2])
  show (List.range (gN G1)).map (fun k => (gA G1 k, gK G1 k (M1 k))) = _
  rw [hN, List.range_succ, List.map_append, e]
  rfl
theorem i_born {s : State} {H : Heap} {locs : List Loc} (hE : mE G s) {q : Nat} {x : va_E} (sh : mS) (f : Nat → Int32) (hsh : sh f = x) (hP : va_P (gD G) vwCl (gW G M ++ [(q, x)]) H) (hD : va_D (mA G) (gW G M ++ [(q, x)])) (hS : va_S (mA G) s.heap H locs) :
    ∃ G1 M1, Up (fun _ => False) G M G1 M1 ∧ gN G1 = gN G + 1 ∧ gK G1 (gN G) = sh ∧ M1 (gN G) = f ∧ mE G1 s ∧ mW G1 s M1 H locs ∧ gA G1 (gN G) = q := by
  obtain ⟨G1, hG1⟩ : ∃ G1 : mG, G1 = (gD G, (fun k => if k = gN G then q else gA G k), (fun k => if k = gN G then sh else gK G k), gN G + 1, gZ G, gC G, gS G) := ⟨_, rfl⟩
  have a1 : gA G1 (gN G) = q := by
    rw [hG1]
    exact if_pos rfl
  have a2 : ∀ k, k < gN G → gA G1 k = gA G k := fun k hk => by
    rw [hG1]
    exact if_neg (by omega)
  have k1 : gK G1 (gN G) = sh := by
    rw [hG1]
    exact if_pos rfl
  have k2 : ∀ k, k < gN G → gK G1 k = gK G k := fun k hk => by
    rw [hG1]
    exact if_neg (by omega)
  have eN : gN G1 = gN G + 1 := by
    rw [hG1]
    rfl
  have m1 : u2 M (gN G) f (gN G) = f := if_pos rfl
  have m2 : ∀ k, k < gN G → u2 M (gN G) f k = M k := fun k hk => if_neg (by omega)
  have e4 : gD G1 = gD G ∧ gZ G1 = gZ G ∧ gC G1 = gC G ∧ gS G1 = gS G := by
    rw [hG1]
    exact ⟨rfl, rfl, rfl, rfl⟩
  have u : Up (fun _ => False) G M G1 (u2 M (gN G) f) := ⟨e4, by rw [eN]; exact Nat.le_succ _, fun k hk => ⟨a2 k hk, fun _ => ⟨k2 k hk, m2 k hk⟩⟩⟩
  have eW : gW G1 (u2 M (gN G) f) = gW G M ++ [(q, x)] := by
    rw [gW_push eN (fun k hk => ⟨a2 k hk, by rw [k2 k hk, m2 k hk]⟩), a1, k1, m1, hsh]
  have ok : gOK G1 := gOK_of (M := u2 M (gN G) f) (by rw [eW, u.zA]; exact hD)
  exact ⟨G1, u2 M (gN G) f, u, eN, k1, m1, hE.up u ok, ⟨by rw [eW, e4.1]; exact hP, by rw [u.zA]; exact hS⟩, a1⟩
/-- a cell's content anew -/
theorem i_set {s : State} {H : Heap} {locs : List Loc} (hE : mE G s) {n : Nat} (hn : n < gN G) {x : va_E} (sh : mS) (f : Nat → Int32) (hsh : sh f = x) (hP : va_P (gD G) vwCl ((gW G M).set n (gA G n, x)) H) (hS : va_S (mA G) s.heap H locs) :
    ∃ G1 M1, Up (fun k => k = n) G M G1 M1 ∧ gN G1 = gN G ∧ gK G1 n = sh ∧ M1 n = f ∧ mE G1 s ∧ mW G1 s M1 H locs := by
  obtain ⟨G1, hG1⟩ : ∃ G1 : mG, G1 = (gD G, gA G, (fun k => if k = n then sh else gK G k), gN G, gZ G, gC G, gS G) := ⟨_, rfl⟩
  have a2 : gA G1 = gA G := by
    rw [hG1]
    rfl
  have k1 : gK G1 n = sh := by
    rw [hG1]
    exact if_pos rfl
  have k2 : ∀ k, k ≠ n → gK G1 k = gK G k := fun k hk => by
    rw [hG1]
    exact if_neg hk
  have eN : gN G1 = gN G := by
    rw [hG1]
    rfl
  have m1 : u2 M n f n = f := if_pos rfl
  have m2 : ∀ k, k ≠ n → u2 M n f k = M k := fun k hk => if_neg hk
  have e4 : gD G1 = gD G ∧ gZ G1 = gZ G ∧ gC G1 = gC G ∧ gS G1 = gS G := by
    rw [hG1]
    exact ⟨rfl, rfl, rfl, rfl⟩
  have u : Up (fun k => k = n) G M G1 (u2 M n f) := ⟨e4, by rw [eN]; exact Nat.le_refl _, fun k hk => ⟨congrFun a2 k, fun hne => ⟨k2 k hne, m2 k hne⟩⟩⟩
  have eW : gW G1 (u2 M n f) = (gW G M).set n (gA G n, x) := by
    apply List.ext_getElem?
    intro i
    rw [List.getElem?_set]
    by_cases hi : n = i
    · subst hi
      rw [if_pos rfl, gW_len, if_pos hn, gW_at (by rw [eN]; exact hn), k1, m1, hsh, a2]
    · rw [if_neg hi]
      by_cases h2 : i < gN G
      · rw [gW_at (by rw [eN]; exact h2), gW_at h2, k2 i (Ne.symm hi), m2 i (Ne.symm hi), a2]
      · rw [List.getElem?_eq_none (by rw [gW_len, eN]; omega), List.getElem?_eq_none (by rw [gW_len]; omega)]
  have ok : gOK G1 := by
    obtain ⟨o1, o2⟩ := hE.2.2.1
    refine ⟨fun i j hi hj e => o1 i j (by rw [← eN]; exact hi) (by rw [← eN]; exact hj) (by rw [← a2]; exact e), fun k hk => ?_⟩
    rw [e4.2.1, a2]
    exact o2 k (by rw [← eN]; exact hk)
  exact ⟨G1, u2 M n f, u, eN, k1, m1, hE.up u ok, ⟨by rw [eW, e4.1]; exact hP, by rw [u.zA]; exact hS⟩⟩
end BORN
/-! contracts of what makes cells -/
/-- what else the constructors need of the machine -/
def iO (U : State) : Prop := va_AO "WinterRoad$State" U ∧ va_Nw (.methodLinkNest RX3 25 yX4_init RX6) U ∧ va_Nw (.methodLinkNest RX6 9 yX1_init RX6) U ∧ va_Nw (.methodLinkNest RX6 18 yX4_init RX6) U ∧ va_Nw (.methodLinkNest RX6 28 yX0_init RX6) U
theorem iO.moved {s U : State} (hW : s.WarmedH U.vm) (h : iO s) : iO U := ⟨h.1.moved hW.alike, h.2.1.warmM hW, h.2.2.1.warmM hW, h.2.2.2.1.warmM hW, h.2.2.2.2.warmM hW⟩
def iPc (G : mG) (av : List Value) (M : mM) : Array Value → State → Prop := va_Pc av (fun U => mE G U ∧ iO U ∧ va_P (gD G) vwCl (gW G M) U.heap)
abbrev iQ (G : mG) (M : mM) (n : Nat) (P : mG → mM → Prop) : Array Value → State → Outcome → State → Prop := va_Qv (fun u : mG × mM => (Up (fun k => k = n) G M u.1 u.2 ∧ gOK u.1) ∧ P u.1 u.2) (fun u t => va_P (gD u.1) vwCl (gW u.1 u.2) t.heap) (mA G)
/-- a method that makes cells: the world goes on, the cell n may change, P holds of what comes -/
def MI (l : Launch) (G : mG) (y : MethodName) (ws : List Cond) (fr lo mc ms : Nat) (av : List Value) (M : mM) (n : Nat) (P : mG → mM → Prop) : Prop :=
  Met l y ws { frames := fr, cells := mc, slots := ms, locals := lo } (iPc G av M) (iQ G M n P) mc ms (mA G)
theorem iPc_blind (G : mG) (av : List Value) (M : mM) : FrameBlind (iPc G av M) := fun a U g mk q =>
  ⟨q.1, mE.moved (s := U) (State.WarmedH.refl U) (Nat.le_refl _) (fun _ _ _ => rfl) q.2.1, iO.moved (s := U) (U := U.calling g mk a) (State.WarmedH.refl U) q.2.2.1, q.2.2.2⟩
section IROWS
variable {p : Program} {l : Launch} {e : Env} {R : Room} {s : State} {m : MethodId} {args : Array Value} {below : List Frame} {meth : Method} {c : Code} {H : Heap} {locs : List Loc} {cells slots : Nat} {Q : State → Prop}
variable {cc : ByteArray} {pc : Nat} {ls : Array Slot} {rest : List Value} {G : mG} {M : mM}
theorem i_new {own C : String} {T : u_T} {N ci index : Nat} {Ts : List Cond} {fs : List Value} (hx : p.tables.exec = Jvm.exec) (hb : c.code = cc) (hts : ∀ w ∈ Ts, w.before args s = true) (hin : ∀ w ∈ u_ws C T N, w ∈ Ts) (ty : Nat → FieldType) (hty : ∀ k, k < N → parseFieldDescriptor (T k).2.2.1 = some (ty k)) (hown : s.vm.findClass own = some m.cls) (hcl : (Cond.classLink own index C).before args s = true) (hinst : (Cond.instantiable C N).before args s = true) (hini : (Cond.initialized C).before args s = true)
    (hE : mE G s) (hw : mW G s M H locs) (hc : vwCl[ci]? = some (C, T, N)) (sh : mS) (hsh : sh (fun _ => 0) = .inr (ci, fs)) (hfs : ∀ j, j < N → defaultValue (ty j) = vp_V fs j) (hcells : cells + 1 ≤ R.cells) (hslots : slots + N ≤ R.slots) (hdg : decode cc pc = .ok (.new index, 3))
    (kk : ∀ (G1 : mG) (M1 : mM) (H1 : Heap), Up (fun _ => False) G M G1 M1 → gN G1 = gN G + 1 → gK G1 (gN G) = sh → M1 (gN G) = (fun _ => 0) → mE G1 s → mW G1 s M1 H1 locs → W p l e R s m args below meth c H1 locs (cells + 1) (slots + N) Q (F0 m (pc + 3) ls (.ref (gA G1 (gN G)) :: rest))) : W p l e R s m args below meth c H locs cells slots Q (F0 m pc ls rest) := by
  refine va_new hx hb hts hin ty hty hown hcl hinst hini hE.1 hw.1 (gD_ok hE.2.2.1 M) hw.2 (fun q h => Nat.le_trans hE.2.1 h) hc hfs hcells hslots hdg (fun q H1 hP hD hS => ?_)
  obtain ⟨G1, M1, b1, b2, b3, b4, b5, b6, rfl⟩ := i_born hE sh (fun _ => 0) hsh hP hD hS
  exact kk G1 M1 H1 b1 b2 b3 b4 b5 b6
theorem i_newa {atype : ArrayType} {ty : FieldType} {a0 : vp_A} {n : Int32} {N' : Nat} {cA0 : ClassId} (t0 : Nat) (hx : p.tables.exec = Jvm.exec) (hb : c.code = cc) (harr : (Cond.arrayClass (newarray.typeOf atype)).before args s = true) (hty : newarray.typeOf atype = ty) (hra : ∀ c' : ClassId, va_RA s c' ty → s.vm.findClass ("[" ++ ty.toString) = some c') (hT : (gT G)[t0]? = some (cA0, ty))
    (hE : mE G s) (hw : mW G s M H locs) (sh : mS) (hsh : sh (fun _ => 0) = .inl (cA0, a0)) (ha : ∀ cA : ClassId, vp_cell cA a0 = arrV cA N' (fun _ => defaultValue ty)) (hn : ¬ n < 0) (hN : n.toNatClampNeg = N') (hbytes : N' * componentBytes ty ≤ 536870912) (hcells : cells + 1 ≤ R.cells) (hslots : slots + N' ≤ R.slots) (hdg : decode cc pc = .ok (.newarray atype, 2))
    (kk : ∀ (G1 : mG) (M1 : mM) (H1 : Heap), Up (fun _ => False) G M G1 M1 → gN G1 = gN G + 1 → gK G1 (gN G) = sh → M1 (gN G) = (fun _ => 0) → mE G1 s → mW G1 s M1 H1 locs → W p l e R s m args below meth c H1 locs (cells + 1) (slots + N') Q (F0 m (pc + 2) ls (.ref (gA G1 (gN G)) :: rest))) : W p l e R s m args below meth c H locs cells slots Q (F0 m pc ls (.int n :: rest)) := by
  refine va_newa (atype := atype) hx hb harr hty hE.1 hw.1 (gD_ok hE.2.2.1 M) hw.2 (fun q h => Nat.le_trans hE.2.1 h) ha hn hN hbytes hcells hslots hdg (fun q cA H1 hK hP hD hS => ?_)
  have h1 := hra _ (hK.2 5 (cA, ty) rfl).2
  have h2 := hra _ (hE.1.2 t0 _ hT).2
  have hcA : cA = cA0 := Option.some.inj (h1.symm.trans h2)
  rw [hcA] at hP hD
  obtain ⟨G1, M1, b1, b2, b3, b4, b5, b6, rfl⟩ := i_born hE sh (fun _ => 0) hsh hP hD hS
  exact kk G1 M1 H1 b1 b2 b3 b4 b5 b6
theorem i_newq {own C : String} {index : Nat} {n : Int32} {N' : Nat} {cA0 : ClassId} (t0 : Nat) (hx : p.tables.exec = Jvm.exec) (hb : c.code = cc) (hown : s.vm.findClass own = some m.cls) (hclink : (Cond.classLink own index C).before args s = true) (hover : va_AO C s) (hT : (gT G)[t0]? = some (cA0, .object C))
    (hE : mE G s) (hw : mW G s M H locs) (sh : mS) (hsh : sh (fun _ => 0) = .inl (cA0, N', .inr (.inr (.inr (.inr (fun _ => none)))))) (hn : ¬ n < 0) (hN : n.toNatClampNeg = N') (hbytes : N' * 4 ≤ 536870912) (hcells : cells + 1 ≤ R.cells) (hslots : slots + N' ≤ R.slots) (hdg : decode cc pc = .ok (.anewarray index, 3))
    (kk : ∀ (G1 : mG) (M1 : mM) (H1 : Heap), Up (fun _ => False) G M G1 M1 → gN G1 = gN G + 1 → gK G1 (gN G) = sh → M1 (gN G) = (fun _ => 0) → mE G1 s → mW G1 s M1 H1 locs → W p l e R s m args below meth c H1 locs (cells + 1) (slots + N') Q (F0 m (pc + 3) ls (.ref (gA G1 (gN G)) :: rest))) : W p l e R s m args below meth c H locs cells slots Q (F0 m pc ls (.int n :: rest)) := by
  refine va_newq hx hb hown hclink hover hE.1 hw.1 (gD_ok hE.2.2.1 M) hw.2 (fun q h => Nat.le_trans hE.2.1 h) hn hN hbytes hcells hslots hdg (fun q cA H1 hK hP hD hS => ?_)
  obtain ⟨_, _, _, _, _, h1⟩ := (hK.2 5 (cA, .object C) rfl).2
  obtain ⟨_, _, _, _, _, h2⟩ := (hE.1.2 t0 _ hT).2
  have hcA : cA = cA0 := Option.some.inj (h1.symm.trans h2)
  rw [hcA] at hP hD
  obtain ⟨G1, M1, b1, b2, b3, b4, b5, b6, rfl⟩ := i_born hE sh (fun _ => 0) hsh hP hD hS
  exact kk G1 M1 H1 b1 b2 b3 b4 b5 b6
/-- a field of the object at the place q0, final -/
theorem i_putF {own ref C : String} {T : u_T} {N ci index aq : Nat} {Ts : List Cond} {fs : List Value} {v : Value} {ty : FieldType} (q0 : Nat) (sh : mS) (f' : Nat → Int32) (hea : gA G q0 = aq) (hx : p.tables.exec = Jvm.exec) (hb : c.code = cc) (hts : ∀ w ∈ Ts, w.before args s = true) (hin : ∀ w ∈ u_ws C T N, w ∈ Ts) (ty0 : Nat → FieldType) (hty : ∀ k, k < N → parseFieldDescriptor (T k).2.2.1 = some (ty0 k)) (hnm : ∀ a, a < N → ∀ b, b < N → a ≠ b → (T a).2.1 ≠ (T b).2.1) (hown : s.vm.findClass own = some m.cls)
    (hE : mE G s) (hw : mW G s M H locs) (hq : q0 < gN G) (he : gK G q0 (M q0) = .inr (ci, fs)) (hc : vwCl[ci]? = some (C, T, N)) (k : Nat) (hk : k < N) (hlink : (Cond.fieldLink own index ref (T k).2.1 (T k).2.2.1).before args s = true) (href : (T k).1 = ref) (hfin : (T k).2.2.2 = true) (hin2 : meth.name = "<init>") (hdecl : (T k).1 = own) (hd : parseFieldDescriptor (T k).2.2.1 = some ty) (hn : narrow ty v = v) (hfit : fits ty v = true) (hl : k < fs.length) (hsh : sh f' = .inr (ci, fs.set k v)) (hdg : decode cc pc = .ok (.putfield index, 3))
    (kk : ∀ (G1 : mG) (M1 : mM) (H1 : Heap) (locs1 : List Loc), Up (fun k => k = q0) G M G1 M1 → gN G1 = gN G → gK G1 q0 = sh → M1 q0 = f' → mE G1 s → mW G1 s M1 H1 locs1 → W p l e R s m args below meth c H1 locs1 cells slots Q (F0 m (pc + 3) ls rest)) : W p l e R s m args below meth c H locs cells slots Q (F0 m pc ls (v :: .ref aq :: rest)) := by
  subst hea
  subst href
  refine va_putF hx hb hts hin ty0 hty hnm hown hE.1 hw.1 (gD_ok hE.2.2.1 M) hw.2 q0 (by rw [gW_at hq, he]) hc k hk hlink (fun _ h9 => h9) hfin hin2 hdecl hd hn hfit hl hdg (fun H1 locs1 hP hD hS => ?_)
  obtain ⟨G1, M1, b1, b2, b3, b4, b5, b6⟩ := i_set hE hq sh f' hsh hP hS
  exact kk G1 M1 H1 locs1 b1 b2 b3 b4 b5 b6
/-- a reference into an array of references -/
theorem i_astq {t0 qk ci n aq ak : Nat} {cA : ClassId} {r : vw_C} {vs : List Value} {g : Nat → Option Nat} {i : Int32} (q0 : Nat) (sh : mS) (hea : gA G q0 = aq) (hek : gA G qk = ak) (hx : p.tables.exec = Jvm.exec) (hb : c.code = cc) (hE : mE G s) (hw : mW G s M H locs) (hq : q0 < gN G) (hqk : qk < gN G) (ha : gK G q0 (M q0) = .inl (cA, n, .inr (.inr (.inr (.inr g))))) (ht : (gT G)[t0]? = some (cA, .object r.1)) (hv : gK G qk (M qk) = .inr (ci, vs)) (hc : vwCl[ci]? = some r) (hin : vp_in i n) (hdg : decode cc pc = .ok (.aastore, 1))
    (hsh : sh (M q0) = .inl (cA, n, .inr (.inr (.inr (.inr (va_up g i.toNatClampNeg (some (gA G qk))))))))
    (kk : ∀ (G1 : mG) (M1 : mM) (H1 : Heap) (locs1 : List Loc), Up (fun k => k = q0) G M G1 M1 → gN G1 = gN G → gK G1 q0 = sh → M1 q0 = M q0 → mE G1 s → mW G1 s M1 H1 locs1 → W p l e R s m args below meth c H1 locs1 cells slots Q (F0 m (pc + 1) ls rest)) : W p l e R s m args below meth c H locs cells slots Q (F0 m pc ls (.ref ak :: .int i :: .ref aq :: rest)) := by
  subst hea
  subst hek
  refine va_astq hx hb hE.1 hw.1 (gD_ok hE.2.2.1 M) hw.2 q0 t0 qk ci (by rw [gW_at hq, ha]) ht (by rw [gW_at hqk, hv]) hc hin hdg (fun H1 locs1 hP hD hS => ?_)
  obtain ⟨G1, M1, b1, b2, b3, b4, b5, b6⟩ := i_set hE hq sh (M q0) hsh hP hS
  exact kk G1 M1 H1 locs1 b1 b2 b3 b4 b5 b6
/-- a call of what makes cells -/
theorem i_call {own : String} {index na nL maxL fr lo mc ms n b : Nat} {y : MethodName} {bytes : ByteArray} {ws Ts : List Cond} {As st0 : List Value} {P : mG → mM → Prop} {lv : List (Nat × Value)}
    (hx : p.tables.exec = Jvm.exec) (hb : c.code = cc) (hml : c.maxLocals = nL) (hown : s.vm.findClass own = some m.cls) (hts : ∀ w ∈ Ts, w.before args s = true) (hE : mE G s) (hO : iO s) (hw : mW G s M H locs) (hl : lv_has ls nL lv)
    (hM : MI l G y ws fr lo mc ms (.ref b :: As) M n P) (cw : CallB R s args own index y bytes maxL none ws { frames := fr, cells := mc, slots := ms, locals := lo } mc ms na ∧ y.name = "<init>" ∧ (Cond.instanceMethod y).before args s = true) (hn : As.length = na) (hst : st0 = As.reverse ++ .ref b :: rest) (hW : (rest.map fun v => v.category).sum ≤ 8) (hdg : decode cc pc = .ok (.invokespecial index, 3)) (hf : cells + mc ≤ R.cells ∧ slots + ms ≤ R.slots)
    (kk : ∀ (G1 : mG) (M1 : mM) (H1 : Heap) (locs1 : List Loc), Up (fun k => k = n) G M G1 M1 → P G1 M1 → mE G1 s → mW G1 s M1 H1 locs1 → W p l e R s m args below meth c H1 locs1 (cells + mc) (slots + ms) Q (F0 m (pc + 3) ls rest)) : W p l e R s m args below meth c H locs cells slots Q (F0 m pc ls st0) := by
  refine va_callv (A0 := mA G) (A1 := mA G) (va_runI (g := F0 m pc ls st0) ⟨hx, hb, hml, hown, hts⟩ hM cw ⟨iPc_blind G _ _, fun U hU hW => ⟨rfl, hE.at hw hU hW, hO.moved hW, by rw [hU]; exact hw.1⟩⟩ rfl hn hl.1 hst (lv_room hW) hdg hf) hw.2 (fun q _ h => h) (fun q h => h) (fun u t H1 locs1 ht hvm hu hB hz hk hS => ?_)
  obtain ⟨⟨hu1, hu2⟩, hu3⟩ := hu
  rw [ht] at hB
  exact kk u.1 u.2 H1 locs1 hu1 hu3 (hE.up hu1 hu2) ⟨hB, by rw [hu1.zA]; exact hS⟩
theorem i_callN {own host : String} {index na nL maxL fr lo mc ms n b : Nat} {y : MethodName} {bytes : ByteArray} {ws Ts : List Cond} {As st0 : List Value} {P : mG → mM → Prop} {lv : List (Nat × Value)}
    (hx : p.tables.exec = Jvm.exec) (hb : c.code = cc) (hml : c.maxLocals = nL) (hown : s.vm.findClass own = some m.cls) (hts : ∀ w ∈ Ts, w.before args s = true) (hE : mE G s) (hO : iO s) (hw : mW G s M H locs) (hl : lv_has ls nL lv)
    (hM : MI l G y ws fr lo mc ms (.ref b :: As) M n P) (cw : va_CN R s args own index y host bytes maxL none ws { frames := fr, cells := mc, slots := ms, locals := lo } mc ms na ∧ y.name = "<init>" ∧ (Cond.instanceMethod y).before args s = true) (hn : As.length = na) (hst : st0 = As.reverse ++ .ref b :: rest) (hW : (rest.map fun v => v.category).sum ≤ 8) (hdg : decode cc pc = .ok (.invokespecial index, 3)) (hf : cells + mc ≤ R.cells ∧ slots + ms ≤ R.slots)
    (kk : ∀ (G1 : mG) (M1 : mM) (H1 : Heap) (locs1 : List Loc), Up (fun k => k = n) G M G1 M1 → P G1 M1 → mE G1 s → mW G1 s M1 H1 locs1 → W p l e R s m args below meth c H1 locs1 (cells + mc) (slots + ms) Q (F0 m (pc + 3) ls rest)) : W p l e R s m args below meth c H locs cells slots Q (F0 m pc ls st0) := by
  refine va_callv (A0 := mA G) (A1 := mA G) (va_runIN (g := F0 m pc ls st0) ⟨hx, hb, hml, hown, hts⟩ hM cw ⟨iPc_blind G _ _, fun U hU hW => ⟨rfl, hE.at hw hU hW, hO.moved hW, by rw [hU]; exact hw.1⟩⟩ rfl hn hl.1 hst (lv_room hW) hdg hf) hw.2 (fun q _ h => h) (fun q h => h) (fun u t H1 locs1 ht hvm hu hB hz hk hS => ?_)
  obtain ⟨⟨hu1, hu2⟩, hu3⟩ := hu
  rw [ht] at hB
  exact kk u.1 u.2 H1 locs1 hu1 hu3 (hE.up hu1 hu2) ⟨hB, by rw [hu1.zA]; exact hS⟩
abbrev iZ (below : List Frame) (G : mG) (M : mM) (n : Nat) (P : mG → mM → Prop) (mc ms : Nat) (args : Array Value) (s : State) : State → Prop := MQ below (iQ G M n P) args s mc ms (mA G)
theorem i_vret {G1 : mG} {M1 : mM} {n mc ms : Nat} {P : mG → mM → Prop} (hx : p.tables.exec = Jvm.exec) (hb : c.code = cc) (hr : meth.sig.returnType = none) (hlocks : meth.locks = false) (hu : Up (fun k => k = n) G M G1 M1) (hE : mE G1 s) (hw : mW G1 s M1 H locs) (hP : P G1 M1) (hdg : decode cc pc = .ok (.return_, 1)) (hc : cells ≤ mc) (hs : slots ≤ ms) : W p l e R s m args below meth c H locs cells slots (iZ below G M n P mc ms args s) (F0 m pc ls []) := by
  refine W.widen (k := mc) (n := ms) hc hs ?_
  have hS := hw.2
  rw [hu.zA] at hS
  exact W.vret hx hb hr (fun t ht _ => ⟨⟨(G1, M1), rfl, ⟨⟨hu, hE.2.2.1⟩, hP⟩, by show va_P (gD G1) vwCl (gW G1 M1) t.heap; rw [ht]; exact hw.1⟩, hS.F ht⟩) hS.2.2 hdg hlocks
theorem mi_of {y : MethodName} {ws ws' : List Cond} {fr lo mc ms maxL n : Nat} {av : List Value} {P : mG → mM → Prop} (hy : plainName y.cls = true) (hw : ws = Cond.code y cc maxL none :: ws') (hlen : (lg_sl av).length ≤ maxL)
    (body : ∀ (p : Program) (e : Env) (s : State) (m : MethodId) (args : Array Value) (below : List Frame) (meth : Method) (c : Code) (H : Heap) (ls : Array Slot), p.tables.exec = Jvm.exec → c.code = cc → meth.sig.returnType = none → (∀ w ∈ ws, w.before args s = true) → s.vm.findClass y.cls = some m.cls → c.maxLocals = maxL → meth.locks = false → meth.name = y.name → mE G s → iO s → mW G s M H [] → lv_has ls maxL (lv_args 0 av) →
      W p l e { frames := fr, cells := mc, slots := ms, locals := lo } s m args below meth c H [] 0 0 (iZ below G M n P mc ms args s) (F0 m 0 ls [])) : MI l G y ws fr lo mc ms av M n P := by
  refine Met.ofW (cc := cc) (maxL := maxL) (ret := none) hy hw ?_
  intro p e s m args below meth c s₁ B hml hv
  obtain ⟨rfl, hE, hO, hP⟩ := hv
  rw [lg_entry_eq]
  exact body p e s m _ below meth c s.heap _ B.exec B.bytes B.returns (atoms_spec (ws := ws) B.pre) (findClass_of_methodNamed B.named) hml B.notSynchronized (name_of_methodNamed B.named B.method).1 hE hO (mW.start hP) (lv_entry av hlen)
/-- a field of the object at the place q0, not final -/
theorem i_put {own ref C : String} {T : u_T} {N ci index aq : Nat} {Ts : List Cond} {fs : List Value} {v : Value} {ty : FieldType} (q0 : Nat) (sh : mS) (f' : Nat → Int32) (hea : gA G q0 = aq) (hx : p.tables.exec = Jvm.exec) (hb : c.code = cc) (hts : ∀ w ∈ Ts, w.before args s = true) (hin : ∀ w ∈ u_ws C T N, w ∈ Ts) (ty0 : Nat → FieldType) (hty : ∀ k, k < N → parseFieldDescriptor (T k).2.2.1 = some (ty0 k)) (hnm : ∀ a, a < N → ∀ b, b < N → a ≠ b → (T a).2.1 ≠ (T b).2.1) (hown : s.vm.findClass own = some m.cls)
    (hE : mE G s) (hw : mW G s M H locs) (hq : q0 < gN G) (he : gK G q0 (M q0) = .inr (ci, fs)) (hc : vwCl[ci]? = some (C, T, N)) (k : Nat) (hk : k < N) (hlink : (Cond.fieldLink own index ref (T k).2.1 (T k).2.2.1).before args s = true) (href : (T k).1 = ref) (hfin : (T k).2.2.2 = false) (hd : parseFieldDescriptor (T k).2.2.1 = some ty) (hn : narrow ty v = v) (hfit : fits ty v = true) (hl : k < fs.length) (hsh : sh f' = .inr (ci, fs.set k v)) (hdg : decode cc pc = .ok (.putfield index, 3))
    (kk : ∀ (G1 : mG) (M1 : mM) (H1 : Heap) (locs1 : List Loc), Up (fun k => k = q0) G M G1 M1 → gN G1 = gN G → gK G1 q0 = sh → M1 q0 = f' → mE G1 s → mW G1 s M1 H1 locs1 → W p l e R s m args below meth c H1 locs1 cells slots Q (F0 m (pc + 3) ls rest)) : W p l e R s m args below meth c H locs cells slots Q (F0 m pc ls (v :: .ref aq :: rest)) := by
  subst hea
  subst href
  refine va_put hx hb hts hin ty0 hty hnm hown hE.1 hw.1 (gD_ok hE.2.2.1 M) hw.2 q0 (by rw [gW_at hq, he]) hc k hk hlink (fun _ h9 => h9) hfin hd hn hfit hl hdg (fun H1 locs1 hP hD hS => ?_)
  obtain ⟨G1, M1, b1, b2, b3, b4, b5, b6⟩ := i_set hE hq sh f' hsh hP hS
  exact kk G1 M1 H1 locs1 b1 b2 b3 b4 b5 b6
theorem arrV_to (cI : ClassId) (N : Nat) {f g : Nat → Value} (h : ∀ j, j < N → f j = g j) : arrV cI N f = arrV cI N g := by
  unfold arrV
  congr 2
  funext j
  exact h j.val j.isLt
/-- references behind an array's end say nothing -/
theorem i_shape {q0 n : Nat} {cA : ClassId} {g g' : Nat → Option Nat} (sh : mS) (hE : mE G s) (hw : mW G s M H locs) (hq : q0 < gN G) (ha : gK G q0 (M q0) = .inl (cA, n, .inr (.inr (.inr (.inr g))))) (hg : ∀ j, j < n → g j = g' j) (hsh : sh (M q0) = .inl (cA, n, .inr (.inr (.inr (.inr g'))))) :
    ∃ G1 M1, Up (fun k => k = q0) G M G1 M1 ∧ gN G1 = gN G ∧ gK G1 q0 = sh ∧ M1 q0 = M q0 ∧ mE G1 s ∧ mW G1 s M1 H locs := by
  refine i_set hE hq sh (M q0) hsh (fun k q hk => ?_) hw.2
  rw [List.getElem?_set] at hk
  by_cases hi : q0 = k
  · subst hi
    rw [if_pos rfl, gW_len, if_pos hq] at hk
    cases hk
    have h1 := hw.1 q0 _ (gW_at hq)
    rw [ha] at h1
    have h2 : H[gA G q0]? = some (vp_cell cA (n, .inr (.inr (.inr (.inr g))))) := h1
    show H[gA G q0]? = some (vp_cell cA (n, .inr (.inr (.inr (.inr g')))))
    rw [h2, vp_cell_q, vp_cell_q, arrV_to cA n (fun j hj => by rw [hg j hj])]
  · rw [if_neg hi] at hk
    exact hw.1 k q hk
/-! what is made stays as it is -/
theorem isTab.up {E : Nat → Prop} {G1 : mG} {M1 : mM} {a N : Nat} (h : isTab G a N) (u : Up E G M G1 M1) (ha : a + 2 ≤ gN G) (hn : ∀ k, k < 2 → ¬ E (a + k)) : isTab G1 a N := by
  refine ⟨?_, ?_⟩
  · rw [u.k (by omega) (hn 0 (by decide)), h.1]
    unfold sX5
    rw [u.a (by omega)]
  · rw [u.k (by omega) (hn 1 (by decide)), h.2]
    unfold aI
    rw [u.1.2.2.1]
theorem isLin.up {E : Nat → Prop} {G1 : mG} {M1 : mM} {a n1 n2 : Nat} (h : isLin G a n1 n2) (u : Up E G M G1 M1) (ha : a + 3 ≤ gN G) (hn : ∀ k, k < 3 → ¬ E (a + k)) : isLin G1 a n1 n2 := by
  refine ⟨?_, ?_, ?_⟩
  · rw [u.k (by omega) (hn 0 (by decide)), h.1]
    unfold sX2
    rw [u.a (by omega), u.a (by omega)]
  · rw [u.k (by omega) (hn 1 (by decide)), h.2.1]
    unfold aI
    rw [u.1.2.2.1]
  · rw [u.k (by omega) (hn 2 (by decide)), h.2.2]
    unfold aI
    rw [u.1.2.2.1]
theorem isSt.up {E : Nat → Prop} {G1 : mG} {M1 : mM} {a : Nat} (h : isSt G a) (u : Up E G M G1 M1) (ha : a + 17 ≤ gN G) (hn : ∀ k, k < 17 → ¬ E (a + k)) : isSt G1 a := by
  obtain ⟨h0, h1, h3, h5, h7, h9, h11, h14⟩ := h
  have t : ∀ o N, o + 2 ≤ 17 → isTab G (a + o) N → isTab G1 (a + o) N := fun o N ho ht => ht.up u (by omega) (fun k hk => by rw [Nat.add_assoc]; exact hn _ (by omega))
  have t' : ∀ o x y, o + 3 ≤ 17 → isLin G (a + o) x y → isLin G1 (a + o) x y := fun o x y ho ht => ht.up u (by omega) (fun k hk => by rw [Nat.add_assoc]; exact hn _ (by omega))
  refine ⟨?_, t 1 _ (by decide) h1, t 3 _ (by decide) h3, t 5 _ (by decide) h5, t 7 _ (by decide) h7, t 9 _ (by decide) h9, t' 11 _ _ (by decide) h11, t' 14 _ _ (by decide) h14⟩
  rw [u.k (by omega) (hn 0 (by decide)), h0]
  unfold sX4
  rw [u.a (by omega), u.a (by omega), u.a (by omega), u.a (by omega), u.a (by omega), u.a (by omega), u.a (by omega)]
/-- a State as its constructor leaves it -/
def newSt (G : mG) (M : mM) (a : Nat) : Prop := isSt G a ∧ StatC (sB M a) ∧ M a 9 = 0
theorem newSt.up {E : Nat → Prop} {G1 : mG} {M1 : mM} {a : Nat} (h : newSt G M a) (u : Up E G M G1 M1) (ha : a + 17 ≤ gN G) (hn : ∀ k, k < 17 → ¬ E (a + k)) : newSt G1 M1 a :=
  ⟨h.1.up u ha hn, h.2.1.cells (fun k hk => u.m (by omega) (hn k hk)), by rw [show M1 a = M a from u.m (k := a) (by omega) (hn 0 (by decide))]; exact h.2.2⟩
end IROWS
