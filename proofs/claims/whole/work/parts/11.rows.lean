/-! ===== rows over regions ===== -/
section MR
variable {p : Program} {l : Launch} {e : Env} {R : Room} {s : State} {m : MethodId} {args : Array Value} {below : List Frame} {meth : Method} {c : Code} {H : Heap} {locs : List Loc} {cells slots : Nat} {Q : State → Prop}
variable {cc : ByteArray} {pc : Nat} {ls : Array Slot} {rest : List Value} {G : mG} {M S : mM} {β n : Nat}
theorem wB_u2 {k : Nat} {f : Nat → Int32} (hk : k < n) : ∀ a, a ≠ β + k → wB M β n (u2 S k f) a = wB M β n S a := by
  intro a ha
  unfold wB u2
  by_cases h : β ≤ a ∧ a < β + n
  · rw [if_pos h, if_pos h, if_neg (by omega)]
  · rw [if_neg h, if_neg h]
theorem u2_at {k : Nat} {f : Nat → Int32} : u2 S k f k = f := if_pos rfl
theorem gW_u2 {k : Nat} {f : Nat → Int32} {x : va_E} (hn : β + n ≤ gN G) (hk : k < n) (hx : gK G (β + k) f = x) : (gW G (wB M β n S)).set (β + k) (gA G (β + k), x) = gW G (wB M β n (u2 S k f)) :=
  gW_set (by omega) (by rw [wB_at hk, u2_at]; exact hx) (wB_u2 hk)
theorem gW_r {k : Nat} {x : va_E} (hn : β + n ≤ gN G) (hk : k < n) (he : gK G (β + k) (S k) = x) : (gW G (wB M β n S))[β + k]? = some (gA G (β + k), x) := by
  rw [gW_at (by omega), wB_at hk, he]
theorem r_get (hx : p.tables.exec = Jvm.exec) (hb : c.code = cc) {own C : String} {T : u_T} {N ci index : Nat} {Ts : List Cond} {fs : List Value} {v : Value} (hts : ∀ w ∈ Ts, w.before args s = true) (hin : ∀ w ∈ u_ws C T N, w ∈ Ts) (hown : s.vm.findClass own = some m.cls) (hE : mE G s) (hw : mW G s (wB M β n S) H locs) (hn : β + n ≤ gN G) (k : Nat) (hk : k < n) (he : gK G (β + k) (S k) = .inr (ci, fs)) (hc : vwCl[ci]? = some (C, T, N)) (j : Nat) (hj : j < N) (hlink : (Cond.fieldLink own index (T j).1 (T j).2.1 (T j).2.2.1).before args s = true) (hv : fs[j]? = some v) (hdg : decode cc pc = .ok (.getfield index, 3))
    (kk : W p l e R s m args below meth c H locs cells slots Q (F0 m (pc + 3) ls (v :: rest))) : W p l e R s m args below meth c H locs cells slots Q (F0 m pc ls (.ref (gA G (β + k)) :: rest)) :=
  va_get hx hb hts hin hown hE.1 hw.1 (β + k) (gW_r hn hk he) hc j hj hlink (fun _ h => h) hv hdg kk
theorem r_put (hx : p.tables.exec = Jvm.exec) (hb : c.code = cc) {own C : String} {T : u_T} {N ci index : Nat} {Ts : List Cond} {fs : List Value} {v : Value} (f' : Nat → Int32) (hts : ∀ w ∈ Ts, w.before args s = true) (hin : ∀ w ∈ u_ws C T N, w ∈ Ts) (ty0 : Nat → FieldType) (hty : ∀ k, k < N → parseFieldDescriptor (T k).2.2.1 = some (ty0 k)) (hnm : ∀ a, a < N → ∀ b, b < N → a ≠ b → (T a).2.1 ≠ (T b).2.1) (hown : s.vm.findClass own = some m.cls) (hE : mE G s) (hw : mW G s (wB M β n S) H locs) (hn : β + n ≤ gN G) (k : Nat) (hk : k < n) (he : gK G (β + k) (S k) = .inr (ci, fs)) (hc : vwCl[ci]? = some (C, T, N)) (j : Nat) (hj : j < N) (hlink : (Cond.fieldLink own index (T j).1 (T j).2.1 (T j).2.2.1).before args s = true) (hfin : (T j).2.2.2 = false) {ty : FieldType} (hd : parseFieldDescriptor (T j).2.2.1 = some ty) (hnar : narrow ty v = v) (hfit : fits ty v = true) (hl : j < fs.length) (he' : gK G (β + k) f' = .inr (ci, fs.set j v)) (hdg : decode cc pc = .ok (.putfield index, 3))
    (kk : ∀ (H1 : Heap) (locs1 : List Loc), mW G s (wB M β n (u2 S k f')) H1 locs1 → W p l e R s m args below meth c H1 locs1 cells slots Q (F0 m (pc + 3) ls rest)) : W p l e R s m args below meth c H locs cells slots Q (F0 m pc ls (v :: .ref (gA G (β + k)) :: rest)) :=
  va_put hx hb hts hin ty0 hty hnm hown hE.1 hw.1 (gD_ok hE.2.2.1 _) hw.2 (β + k) (gW_r hn hk he) hc j hj hlink (fun _ h => h) hfin hd hnar hfit hl hdg
    (fun H1 locs1 hP _ hS => kk H1 locs1 ⟨by rw [gW_u2 hn hk he'] at hP; exact hP, hS⟩)
theorem r_iald (hx : p.tables.exec = Jvm.exec) (hb : c.code = cc) (hE : mE G s) (hw : mW G s (wB M β n S) H locs) (hn : β + n ≤ gN G) (k : Nat) (hk : k < n) {N : Nat} (he : gK G (β + k) (S k) = .inl (gC G 0, N, .inl (S k))) {i : Int32} (hi : inB i N = true) (hdg : decode cc pc = .ok (.iaload, 1))
    (kk : W p l e R s m args below meth c H locs cells slots Q (F0 m (pc + 1) ls (.int (S k i.toNatClampNeg) :: rest))) : W p l e R s m args below meth c H locs cells slots Q (F0 m pc ls (.int i :: .ref (gA G (β + k)) :: rest)) :=
  va_iald hx hb hE.1 hw.1 (β + k) 0 (gW_r hn hk he) rfl (inB_in hi) hdg kk
theorem r_zald (hx : p.tables.exec = Jvm.exec) (hb : c.code = cc) (hE : mE G s) (hw : mW G s (wB M β n S) H locs) (hn : β + n ≤ gN G) (k : Nat) (hk : k < n) {N : Nat} (he : gK G (β + k) (S k) = .inl (gC G 1, N, .inl (S k))) {i : Int32} (hi : inB i N = true) (hdg : decode cc pc = .ok (.baload, 1))
    (kk : W p l e R s m args below meth c H locs cells slots Q (F0 m (pc + 1) ls (.int (S k i.toNatClampNeg) :: rest))) : W p l e R s m args below meth c H locs cells slots Q (F0 m pc ls (.int i :: .ref (gA G (β + k)) :: rest)) :=
  va_zald hx hb hE.1 hw.1 (β + k) 1 (gW_r hn hk he) rfl (inB_in hi) hdg kk
theorem r_cald (hx : p.tables.exec = Jvm.exec) (hb : c.code = cc) (hE : mE G s) (hw : mW G s (wB M β n S) H locs) (hn : β + n ≤ gN G) (k : Nat) (hk : k < n) {N : Nat} (he : gK G (β + k) (S k) = .inl (gC G 2, N, .inl (S k))) {i : Int32} (hi : inB i N = true) (hdg : decode cc pc = .ok (.caload, 1))
    (kk : W p l e R s m args below meth c H locs cells slots Q (F0 m (pc + 1) ls (.int (S k i.toNatClampNeg) :: rest))) : W p l e R s m args below meth c H locs cells slots Q (F0 m pc ls (.int i :: .ref (gA G (β + k)) :: rest)) :=
  va_cald hx hb hE.1 hw.1 (β + k) 2 (gW_r hn hk he) rfl (inB_in hi) hdg kk
theorem r_aald (hx : p.tables.exec = Jvm.exec) (hb : c.code = cc) (hE : mE G s) (hw : mW G s (wB M β n S) H locs) (hn : β + n ≤ gN G) (k : Nat) (hk : k < n) {N : Nat} {g : Nat → Option Nat} (he : gK G (β + k) (S k) = .inl (gC G 3, N, .inr (.inr (.inr (.inr g))))) {i : Int32} (hi : inB i N = true) (hdg : decode cc pc = .ok (.aaload, 1))
    (kk : W p l e R s m args below meth c H locs cells slots Q (F0 m (pc + 1) ls (va_rf (g i.toNatClampNeg) :: rest))) : W p l e R s m args below meth c H locs cells slots Q (F0 m pc ls (.int i :: .ref (gA G (β + k)) :: rest)) :=
  va_aldq hx hb hE.1 hw.1 (β + k) 3 (gW_r hn hk he) rfl (inB_in hi) hdg kk
theorem r_alen (hx : p.tables.exec = Jvm.exec) (hb : c.code = cc) (hE : mE G s) (hw : mW G s (wB M β n S) H locs) (hn : β + n ≤ gN G) (k t0 : Nat) (hk : k < n) {x : vp_A} {cA : ClassId} {ty : FieldType} (he : gK G (β + k) (S k) = .inl (cA, x)) (ht : (gT G)[t0]? = some (cA, ty)) {v : Int32} (hv : Int32.ofNat x.1 = v) (hdg : decode cc pc = .ok (.arraylength, 1))
    (kk : W p l e R s m args below meth c H locs cells slots Q (F0 m (pc + 1) ls (.int v :: rest))) : W p l e R s m args below meth c H locs cells slots Q (F0 m pc ls (.ref (gA G (β + k)) :: rest)) :=
  va_alen hx hb hE.1 hw.1 (β + k) t0 (gW_r hn hk he) ht hv hdg kk
theorem r_iast (hx : p.tables.exec = Jvm.exec) (hb : c.code = cc) (hE : mE G s) (hw : mW G s (wB M β n S) H locs) (hn : β + n ≤ gN G) (k : Nat) (hk : k < n) {N : Nat} (he : ∀ f, gK G (β + k) f = .inl (gC G 0, N, .inl f)) {i x : Int32} (hi : inB i N = true) (hdg : decode cc pc = .ok (.iastore, 1))
    (kk : ∀ (H1 : Heap) (locs1 : List Loc), mW G s (wB M β n (u2 S k (upd (S k) i.toNatClampNeg x))) H1 locs1 → W p l e R s m args below meth c H1 locs1 cells slots Q (F0 m (pc + 1) ls rest)) : W p l e R s m args below meth c H locs cells slots Q (F0 m pc ls (.int x :: .int i :: .ref (gA G (β + k)) :: rest)) :=
  va_iast hx hb hE.1 hw.1 (gD_ok hE.2.2.1 _) hw.2 (β + k) 0 (gW_r hn hk (he _)) rfl (inB_in hi) hdg (fun H1 locs1 hP _ hS => kk H1 locs1 ⟨by rw [gW_u2 hn hk (he _)] at hP; exact hP, hS⟩)
theorem r_zast (hx : p.tables.exec = Jvm.exec) (hb : c.code = cc) (hE : mE G s) (hw : mW G s (wB M β n S) H locs) (hn : β + n ≤ gN G) (k : Nat) (hk : k < n) {N : Nat} (he : ∀ f, gK G (β + k) f = .inl (gC G 1, N, .inl f)) {i x : Int32} (hi : inB i N = true) (hdg : decode cc pc = .ok (.bastore, 1))
    (kk : ∀ (H1 : Heap) (locs1 : List Loc), mW G s (wB M β n (u2 S k (upd (S k) i.toNatClampNeg (vp_nar .boolean x)))) H1 locs1 → W p l e R s m args below meth c H1 locs1 cells slots Q (F0 m (pc + 1) ls rest)) : W p l e R s m args below meth c H locs cells slots Q (F0 m pc ls (.int x :: .int i :: .ref (gA G (β + k)) :: rest)) :=
  va_zast hx hb hE.1 hw.1 (gD_ok hE.2.2.1 _) hw.2 (β + k) 1 (gW_r hn hk (he _)) rfl (inB_in hi) hdg (fun H1 locs1 hP _ hS => kk H1 locs1 ⟨by rw [gW_u2 hn hk (he _)] at hP; exact hP, hS⟩)
theorem r_cast (hx : p.tables.exec = Jvm.exec) (hb : c.code = cc) (hE : mE G s) (hw : mW G s (wB M β n S) H locs) (hn : β + n ≤ gN G) (k : Nat) (hk : k < n) {N : Nat} (he : ∀ f, gK G (β + k) f = .inl (gC G 2, N, .inl f)) {i x : Int32} (hi : inB i N = true) (hdg : decode cc pc = .ok (.castore, 1))
    (kk : ∀ (H1 : Heap) (locs1 : List Loc), mW G s (wB M β n (u2 S k (upd (S k) i.toNatClampNeg (vp_nar .char x)))) H1 locs1 → W p l e R s m args below meth c H1 locs1 cells slots Q (F0 m (pc + 1) ls rest)) : W p l e R s m args below meth c H locs cells slots Q (F0 m pc ls (.int x :: .int i :: .ref (gA G (β + k)) :: rest)) :=
  va_cast hx hb hE.1 hw.1 (gD_ok hE.2.2.1 _) hw.2 (β + k) 2 (gW_r hn hk (he _)) rfl (inB_in hi) hdg (fun H1 locs1 hP _ hS => kk H1 locs1 ⟨by rw [gW_u2 hn hk (he _)] at hP; exact hP, hS⟩)
/-- may so many be copied? -/
def acB (sp dp k : Int32) (n0 n1 : Nat) : Bool := decide (¬ sp < 0 ∧ ¬ dp < 0 ∧ ¬ k < 0 ∧ sp.toNatClampNeg + k.toNatClampNeg ≤ n0 ∧ dp.toNatClampNeg + k.toNatClampNeg ≤ n1)
theorem r_copyi (hx : p.tables.exec = Jvm.exec) (hb : c.code = cc) {nL : Nat} {lv : List (Nat × Value)} (hml : c.maxLocals = nL) (hl : lv_has ls nL lv) {own : String} {index : Nat} (hown : s.vm.findClass own = some m.cls) (hlink : (Cond.methodLink own index arraycopyName).before args s = true) (hnat : (Cond.native arraycopyName).before args s = true) (hstat : (Cond.static arraycopyName).before args s = true) (hini : (Cond.initialized "java/lang/System").before args s = true)
    (hE : mE G s) (hw : mW G s (wB M β n S) H locs) (hn : β + n ≤ gN G) (k0 k1 : Nat) (hk0 : k0 < n) (hk1 : k1 < n) {n0 n1 : Nat} (he0 : ∀ f, gK G (β + k0) f = .inl (gC G 0, n0, .inl f)) (he1 : ∀ f, gK G (β + k1) f = .inl (gC G 0, n1, .inl f)) {sp dp k : Int32} (hg : acB sp dp k n0 n1 = true)
    (hframes : 1 ≤ R.frames) (hlocals : (rest.map fun v => v.category).sum + (nativeFrameWords "java/lang/System" "arraycopy" 5 + 11) ≤ R.locals) (hdg : decode cc pc = .ok (.invokestatic index, 3))
    (kk : ∀ (H1 : Heap) (locs1 : List Loc), mW G s (wB M β n (u2 S k1 (va_cpy (S k0) (S k1) sp.toNatClampNeg dp.toNatClampNeg k.toNatClampNeg))) H1 locs1 → W p l e R s m args below meth c H1 locs1 cells slots Q (F0 m (pc + 3) ls rest)) : W p l e R s m args below meth c H locs cells slots Q (F0 m pc ls (.int k :: .int dp :: .ref (gA G (β + k1)) :: .int sp :: .ref (gA G (β + k0)) :: rest)) := by
  obtain ⟨h1, h2, h3, h4, h5⟩ := (of_decide_eq_true hg : ¬ sp < 0 ∧ ¬ dp < 0 ∧ ¬ k < 0 ∧ sp.toNatClampNeg + k.toNatClampNeg ≤ n0 ∧ dp.toNatClampNeg + k.toNatClampNeg ≤ n1)
  exact va_copyi (ty := .int) hx hb (hml.trans hl.1.symm) hown hlink hnat hstat hini hE.1 hw.1 (gD_ok hE.2.2.1 _) hw.2 (β + k0) (β + k1) 0 0 (gW_r hn hk0 (he0 _)) (gW_r hn hk1 (he1 _)) rfl rfl rfl h1 h2 h3 h4 h5 (fun _ _ => rfl) hframes hlocals hdg
    (fun H1 locs1 hP _ hS => kk H1 locs1 ⟨by rw [gW_u2 hn hk1 (he1 _)] at hP; exact hP, hS⟩)
/-! calls -/
theorem mS_call {s st₀ t : State} {H : Heap} {locs L : List Loc} {h' : Heap} (hS : va_S (mA G) s.heap H locs) (h0 : st₀.heap = H) (e1 : h' = t.heap) (hF : va_F (mA G) st₀ t) (hL : ∀ q ∈ L, mA G q.base) : va_S (mA G) s.heap h' (locs ++ L) := by
  obtain ⟨hz, hk⟩ := hF
  rw [h0] at hz hk
  exact ⟨Nat.le_trans hS.1 (by rw [e1]; exact hz), fun q h1 h2 => by rw [e1, hk q (Nat.lt_of_lt_of_le h1 hS.1) h2]; exact hS.2.1 q h1 h2, fun q hq => by
    rcases List.mem_append.mp hq with h | h
    · exact hS.2.2 q h
    · exact hL q h⟩
theorem r_fin {M1 M2 : mM} {rv : Option Value} {a : Array Value} {st0 : List Value} (hr : va_Run p l e R s m args below meth c H locs cells slots 0 0 (F0 m pc ls st0) rest (mQ G rv M2 a) (mA G)) (hw : mW G s M1 H locs)
    {st1 : List Value} (hs1 : rv.toList ++ rest = st1) (kk : ∀ (H1 : Heap) (locs1 : List Loc), mW G s M2 H1 locs1 → W p l e R s m args below meth c H1 locs1 cells slots Q (F0 m (pc + 3) ls st1)) : W p l e R s m args below meth c H locs cells slots Q (F0 m pc ls st0) := by
  subst hs1
  intro T hT X
  obtain ⟨v, st₀, t, T', L, h0, X', hL, e1, e2, ⟨⟨ho, hP⟩, hF⟩, st⟩ := hr T hT X
  cases ho
  obtain ⟨t2, a1, b1⟩ := kk T'.heap (locs ++ L) ⟨by rw [e1]; exact hP, mS_call hw.2 h0 e1 hF hL⟩ T' rfl X'
  exact ⟨t2, st t2 a1, b1⟩
theorem r_callV {own C : String} {index na nL maxL fr lo b ci : Nat} {y : MethodName} {bytes : ByteArray} {ret : Option FieldType} {ws Ts : List Cond} {As st0 fs : List Value} {M1 M2 : mM} {rv : Option Value} {lv : List (Nat × Value)} {q : vw_C}
    (hx : p.tables.exec = Jvm.exec) (hb : c.code = cc) (hml : c.maxLocals = nL) (hown : s.vm.findClass own = some m.cls) (hts : ∀ w ∈ Ts, w.before args s = true) (hE : mE G s) (hw : mW G s M1 H locs) (hl : lv_has ls nL lv)
    (hM : MC l G y ws fr lo (.ref (gA G b) :: As) M1 M2 rv) (cw : CallW R s args own C index y bytes maxL ret ws { frames := fr, cells := 0, slots := 0, locals := lo } 0 0 na) (hbN : b < gN G) (he : gK G b (M1 b) = .inr (ci, fs)) (hc : vwCl[ci]? = some q) (hq : q.1 = C) (hn : As.length = na) (hst : st0 = As.reverse ++ .ref (gA G b) :: rest) (hW : (rest.map fun v => v.category).sum ≤ 8) (hdg : decode cc pc = .ok (.invokevirtual index, 3)) (hf : cells ≤ R.cells ∧ slots ≤ R.slots) {st1 : List Value} (hs1 : rv.toList ++ rest = st1)
    (kk : ∀ (H1 : Heap) (locs1 : List Loc), mW G s M2 H1 locs1 → W p l e R s m args below meth c H1 locs1 cells slots Q (F0 m (pc + 3) ls st1)) : W p l e R s m args below meth c H locs cells slots Q (F0 m pc ls st0) := by
  subst hq
  exact r_fin (va_runV (g := F0 m pc ls st0) ⟨hx, hb, hml, hown, hts⟩ hM cw ⟨mPc_blind G _ _, va_recv hE.1 hw.1 hc (by rw [gW_at hbN, he]), fun U hU hW => ⟨rfl, hE.at hw hU hW, by rw [hU]; exact hw.1⟩⟩ rfl hn hl.1 hst (lv_room hW) hdg hf) hw hs1 kk
theorem r_callS {own : String} {index na nL maxL fr lo : Nat} {y : MethodName} {bytes : ByteArray} {ret : Option FieldType} {ws Ts : List Cond} {As st0 : List Value} {M1 M2 : mM} {rv : Option Value} {lv : List (Nat × Value)}
    (hx : p.tables.exec = Jvm.exec) (hb : c.code = cc) (hml : c.maxLocals = nL) (hown : s.vm.findClass own = some m.cls) (hts : ∀ w ∈ Ts, w.before args s = true) (hE : mE G s) (hw : mW G s M1 H locs) (hl : lv_has ls nL lv)
    (hM : MC l G y ws fr lo As M1 M2 rv) (cw : CallB R s args own index y bytes maxL ret ws { frames := fr, cells := 0, slots := 0, locals := lo } 0 0 na ∧ (Cond.static y).before args s = true) (hn : As.length = na) (hst : st0 = As.reverse ++ rest) (hW : (rest.map fun v => v.category).sum ≤ 8) (hdg : decode cc pc = .ok (.invokestatic index, 3)) (hf : cells ≤ R.cells ∧ slots ≤ R.slots) {st1 : List Value} (hs1 : rv.toList ++ rest = st1)
    (kk : ∀ (H1 : Heap) (locs1 : List Loc), mW G s M2 H1 locs1 → W p l e R s m args below meth c H1 locs1 cells slots Q (F0 m (pc + 3) ls st1)) : W p l e R s m args below meth c H locs cells slots Q (F0 m pc ls st0) :=
  r_fin (va_runS (g := F0 m pc ls st0) ⟨hx, hb, hml, hown, hts⟩ hM cw ⟨mPc_blind G _ _, fun U hU hW => ⟨rfl, hE.at hw hU hW, by rw [hU]; exact hw.1⟩⟩ rfl hn hl.1 hst (lv_room hW) hdg hf) hw hs1 kk
theorem r_callSN {own host : String} {index na nL maxL fr lo : Nat} {y : MethodName} {bytes : ByteArray} {ret : Option FieldType} {ws Ts : List Cond} {As st0 : List Value} {M1 M2 : mM} {rv : Option Value} {lv : List (Nat × Value)}
    (hx : p.tables.exec = Jvm.exec) (hb : c.code = cc) (hml : c.maxLocals = nL) (hown : s.vm.findClass own = some m.cls) (hts : ∀ w ∈ Ts, w.before args s = true) (hE : mE G s) (hw : mW G s M1 H locs) (hl : lv_has ls nL lv)
    (hM : MC l G y ws fr lo As M1 M2 rv) (cw : va_CN R s args own index y host bytes maxL ret ws { frames := fr, cells := 0, slots := 0, locals := lo } 0 0 na ∧ (Cond.static y).before args s = true ∧ True) (hn : As.length = na) (hst : st0 = As.reverse ++ rest) (hW : (rest.map fun v => v.category).sum ≤ 8) (hdg : decode cc pc = .ok (.invokestatic index, 3)) (hf : cells ≤ R.cells ∧ slots ≤ R.slots) {st1 : List Value} (hs1 : rv.toList ++ rest = st1)
    (kk : ∀ (H1 : Heap) (locs1 : List Loc), mW G s M2 H1 locs1 → W p l e R s m args below meth c H1 locs1 cells slots Q (F0 m (pc + 3) ls st1)) : W p l e R s m args below meth c H locs cells slots Q (F0 m pc ls st0) :=
  r_fin (va_runSN (g := F0 m pc ls st0) ⟨hx, hb, hml, hown, hts⟩ hM cw ⟨mPc_blind G _ _, fun U hU hW => ⟨rfl, hE.at hw hU hW, by rw [hU]; exact hw.1⟩⟩ rfl hn hl.1 hst (lv_room hW) hdg hf) hw hs1 kk
/-! ends -/
/-- what a walk comes to -/
abbrev mZ (below : List Frame) (G : mG) (r : Option Value) (M : mM) (args : Array Value) (s : State) : State → Prop := MQ below (mQ G r M) args s 0 0 (mA G)
theorem r_iret {M1 : mM} {v : Int32} (hx : p.tables.exec = Jvm.exec) (hb : c.code = cc) (hr : meth.sig.returnType = some .int) (hlocks : meth.locks = false) (hw : mW G s M1 H locs) (hdg : decode cc pc = .ok (.ireturn, 1)) : W p l e R s m args below meth c H locs 0 0 (mZ below G (some (.int v)) M1 args s) (F0 m pc ls [.int v]) :=
  W.iret hx hb hr (fun t ht _ => ⟨⟨rfl, by rw [ht]; exact hw.1⟩, hw.2.F ht⟩) hw.2.2.2 hdg hlocks
theorem r_zret {M1 : mM} {v : Int32} (hx : p.tables.exec = Jvm.exec) (hb : c.code = cc) (hr : meth.sig.returnType = some .boolean) (hlocks : meth.locks = false) (hz : narrow .boolean (.int v) = .int v) (hw : mW G s M1 H locs) (hdg : decode cc pc = .ok (.ireturn, 1)) : W p l e R s m args below meth c H locs 0 0 (mZ below G (some (.int v)) M1 args s) (F0 m pc ls [.int v]) :=
  W.zret hx hb hr hz (fun t ht _ => ⟨⟨rfl, by rw [ht]; exact hw.1⟩, hw.2.F ht⟩) hw.2.2.2 hdg hlocks
theorem r_vret {M1 : mM} (hx : p.tables.exec = Jvm.exec) (hb : c.code = cc) (hr : meth.sig.returnType = none) (hlocks : meth.locks = false) (hw : mW G s M1 H locs) (hdg : decode cc pc = .ok (.return_, 1)) : W p l e R s m args below meth c H locs 0 0 (mZ below G none M1 args s) (F0 m pc ls []) :=
  W.vret hx hb hr (fun t ht _ => ⟨⟨rfl, by rw [ht]; exact hw.1⟩, hw.2.F ht⟩) hw.2.2.2 hdg hlocks
theorem r_lret {M1 : mM} {v : Int64} (hx : p.tables.exec = Jvm.exec) (hb : c.code = cc) (hr : meth.sig.returnType = some .long) (hlocks : meth.locks = false) (hw : mW G s M1 H locs) (hdg : decode cc pc = .ok (.lreturn, 1)) : W p l e R s m args below meth c H locs 0 0 (mZ below G (some (.long v)) M1 args s) (F0 m pc ls [.long v]) :=
  W.lret hx hb hr (fun t ht _ => ⟨⟨rfl, by rw [ht]; exact hw.1⟩, hw.2.F ht⟩) hw.2.2.2 hdg hlocks
theorem r_aret {M1 : mM} {o : Option Nat} {nm : String} (hx : p.tables.exec = Jvm.exec) (hb : c.code = cc) (hr : meth.sig.returnType = some (.object nm)) (hlocks : meth.locks = false) (hw : mW G s M1 H locs) (hdg : decode cc pc = .ok (.areturn, 1)) : W p l e R s m args below meth c H locs 0 0 (mZ below G (some (va_rf o)) M1 args s) (F0 m pc ls [va_rf o]) :=
  W.aret hx hb hr (Or.inl ⟨_, rfl⟩) (va_rf_or o) (fun t ht _ => ⟨⟨rfl, by rw [ht]; exact hw.1⟩, hw.2.F ht⟩) hw.2.2.2 hdg hlocks
/-- a contract out of a walk from the entry -/
theorem mc_of {l : Launch} {G : mG} {y : MethodName} {ws ws' : List Cond} {fr lo maxL : Nat} {cc : ByteArray} {ret : Option FieldType} {av : List Value} {M M' : mM} {r : Option Value} (hy : plainName y.cls = true) (hw : ws = Cond.code y cc maxL ret :: ws') (hlen : (lg_sl av).length ≤ maxL)
    (body : ∀ (p : Program) (e : Env) (s : State) (m : MethodId) (args : Array Value) (below : List Frame) (meth : Method) (c : Code) (H : Heap) (ls : Array Slot), p.tables.exec = Jvm.exec → c.code = cc → meth.sig.returnType = ret → (∀ w ∈ ws, w.before args s = true) → s.vm.findClass y.cls = some m.cls → c.maxLocals = maxL → meth.locks = false → mE G s → mW G s M H [] → lv_has ls maxL (lv_args 0 av) →
      W p l e { frames := fr, cells := 0, slots := 0, locals := lo } s m args below meth c H [] 0 0 (mZ below G r M' args s) (F0 m 0 ls [])) : MC l G y ws fr lo av M M' r := by
  refine Met.ofW (cc := cc) (maxL := maxL) (ret := ret) hy hw ?_
  intro p e s m args below meth c s₁ B hml hv
  obtain ⟨rfl, hE, hP⟩ := hv
  rw [lg_entry_eq]
  exact body p e s m _ below meth c s.heap _ B.exec B.bytes B.returns (atoms_spec (ws := ws) B.pre) (findClass_of_methodNamed B.named) hml B.notSynchronized hE (mW.start hP) (lv_entry av hlen)
/-! branches along a program -/
section BR
variable {x y : Int32} {off : Int} {tgt : Nat} {α : Type} {A B z : α}
theorem b_eq (hx : p.tables.exec = Jvm.exec) (hb : c.code = cc) (hdg : decode cc pc = .ok (.ifCond .eq off, 3)) (ht : (pc : Int) + off = (tgt : Int)) (h : (if x = 0 then A else B) = z) (kt : A = z → W p l e R s m args below meth c H locs cells slots Q (F0 m tgt ls rest)) (kf : B = z → W p l e R s m args below meth c H locs cells slots Q (F0 m (pc + 3) ls rest)) : W p l e R s m args below meth c H locs cells slots Q (F0 m pc ls (.int x :: rest)) :=
  lv_if_eq hx hb hdg ht (fun q => kt (if_t q h)) (fun q => kf (if_f q h))
theorem b_ne (hx : p.tables.exec = Jvm.exec) (hb : c.code = cc) (hdg : decode cc pc = .ok (.ifCond .ne off, 3)) (ht : (pc : Int) + off = (tgt : Int)) (h : (if x = 0 then A else B) = z) (kt : B = z → W p l e R s m args below meth c H locs cells slots Q (F0 m tgt ls rest)) (kf : A = z → W p l e R s m args below meth c H locs cells slots Q (F0 m (pc + 3) ls rest)) : W p l e R s m args below meth c H locs cells slots Q (F0 m pc ls (.int x :: rest)) :=
  lv_if_ne hx hb hdg ht (fun q => kt (if_f q h)) (fun q => kf (if_t q h))
theorem b_lt (hx : p.tables.exec = Jvm.exec) (hb : c.code = cc) (hdg : decode cc pc = .ok (.ifCond .lt off, 3)) (ht : (pc : Int) + off = (tgt : Int)) (h : (if x < 0 then A else B) = z) (kt : A = z → W p l e R s m args below meth c H locs cells slots Q (F0 m tgt ls rest)) (kf : B = z → W p l e R s m args below meth c H locs cells slots Q (F0 m (pc + 3) ls rest)) : W p l e R s m args below meth c H locs cells slots Q (F0 m pc ls (.int x :: rest)) :=
  lv_if_lt hx hb hdg ht (fun q => kt (if_t q h)) (fun q => kf (if_f q h))
theorem b_ge (hx : p.tables.exec = Jvm.exec) (hb : c.code = cc) (hdg : decode cc pc = .ok (.ifCond .ge off, 3)) (ht : (pc : Int) + off = (tgt : Int)) (h : (if 0 ≤ x then A else B) = z) (kt : A = z → W p l e R s m args below meth c H locs cells slots Q (F0 m tgt ls rest)) (kf : B = z → W p l e R s m args below meth c H locs cells slots Q (F0 m (pc + 3) ls rest)) : W p l e R s m args below meth c H locs cells slots Q (F0 m pc ls (.int x :: rest)) :=
  lv_if_ge hx hb hdg ht (fun q => kt (if_t q h)) (fun q => kf (if_f q h))
theorem b_gt (hx : p.tables.exec = Jvm.exec) (hb : c.code = cc) (hdg : decode cc pc = .ok (.ifCond .gt off, 3)) (ht : (pc : Int) + off = (tgt : Int)) (h : (if 0 < x then A else B) = z) (kt : A = z → W p l e R s m args below meth c H locs cells slots Q (F0 m tgt ls rest)) (kf : B = z → W p l e R s m args below meth c H locs cells slots Q (F0 m (pc + 3) ls rest)) : W p l e R s m args below meth c H locs cells slots Q (F0 m pc ls (.int x :: rest)) :=
  lv_if_gt hx hb hdg ht (fun q => kt (if_t q h)) (fun q => kf (if_f q h))
theorem b_le (hx : p.tables.exec = Jvm.exec) (hb : c.code = cc) (hdg : decode cc pc = .ok (.ifCond .le off, 3)) (ht : (pc : Int) + off = (tgt : Int)) (h : (if x ≤ 0 then A else B) = z) (kt : A = z → W p l e R s m args below meth c H locs cells slots Q (F0 m tgt ls rest)) (kf : B = z → W p l e R s m args below meth c H locs cells slots Q (F0 m (pc + 3) ls rest)) : W p l e R s m args below meth c H locs cells slots Q (F0 m pc ls (.int x :: rest)) :=
  lv_if_le hx hb hdg ht (fun q => kt (if_t q h)) (fun q => kf (if_f q h))
theorem bi_eq (hx : p.tables.exec = Jvm.exec) (hb : c.code = cc) (hdg : decode cc pc = .ok (.if_icmp .eq off, 3)) (ht : (pc : Int) + off = (tgt : Int)) (h : (if x = y then A else B) = z) (kt : A = z → W p l e R s m args below meth c H locs cells slots Q (F0 m tgt ls rest)) (kf : B = z → W p l e R s m args below meth c H locs cells slots Q (F0 m (pc + 3) ls rest)) : W p l e R s m args below meth c H locs cells slots Q (F0 m pc ls (.int y :: .int x :: rest)) :=
  lv_icmp_eq hx hb hdg ht (fun q => kt (if_t q h)) (fun q => kf (if_f q h))
theorem bi_ne (hx : p.tables.exec = Jvm.exec) (hb : c.code = cc) (hdg : decode cc pc = .ok (.if_icmp .ne off, 3)) (ht : (pc : Int) + off = (tgt : Int)) (h : (if x = y then A else B) = z) (kt : B = z → W p l e R s m args below meth c H locs cells slots Q (F0 m tgt ls rest)) (kf : A = z → W p l e R s m args below meth c H locs cells slots Q (F0 m (pc + 3) ls rest)) : W p l e R s m args below meth c H locs cells slots Q (F0 m pc ls (.int y :: .int x :: rest)) :=
  lv_icmp_ne hx hb hdg ht (fun q => kt (if_f q h)) (fun q => kf (if_t q h))
theorem bi_lt (hx : p.tables.exec = Jvm.exec) (hb : c.code = cc) (hdg : decode cc pc = .ok (.if_icmp .lt off, 3)) (ht : (pc : Int) + off = (tgt : Int)) (h : (if x < y then A else B) = z) (kt : A = z → W p l e R s m args below meth c H locs cells slots Q (F0 m tgt ls rest)) (kf : B = z → W p l e R s m args below meth c H locs cells slots Q (F0 m (pc + 3) ls rest)) : W p l e R s m args below meth c H locs cells slots Q (F0 m pc ls (.int y :: .int x :: rest)) :=
  lv_icmp_lt hx hb hdg ht (fun q => kt (if_t q h)) (fun q => kf (if_f q h))
theorem bi_ge (hx : p.tables.exec = Jvm.exec) (hb : c.code = cc) (hdg : decode cc pc = .ok (.if_icmp .ge off, 3)) (ht : (pc : Int) + off = (tgt : Int)) (h : (if y ≤ x then A else B) = z) (kt : A = z → W p l e R s m args below meth c H locs cells slots Q (F0 m tgt ls rest)) (kf : B = z → W p l e R s m args below meth c H locs cells slots Q (F0 m (pc + 3) ls rest)) : W p l e R s m args below meth c H locs cells slots Q (F0 m pc ls (.int y :: .int x :: rest)) :=
  lv_icmp_ge hx hb hdg ht (fun q => kt (if_t q h)) (fun q => kf (if_f q h))
theorem bi_gt (hx : p.tables.exec = Jvm.exec) (hb : c.code = cc) (hdg : decode cc pc = .ok (.if_icmp .gt off, 3)) (ht : (pc : Int) + off = (tgt : Int)) (h : (if y < x then A else B) = z) (kt : A = z → W p l e R s m args below meth c H locs cells slots Q (F0 m tgt ls rest)) (kf : B = z → W p l e R s m args below meth c H locs cells slots Q (F0 m (pc + 3) ls rest)) : W p l e R s m args below meth c H locs cells slots Q (F0 m pc ls (.int y :: .int x :: rest)) :=
  lv_icmp_gt hx hb hdg ht (fun q => kt (if_t q h)) (fun q => kf (if_f q h))
theorem bi_le (hx : p.tables.exec = Jvm.exec) (hb : c.code = cc) (hdg : decode cc pc = .ok (.if_icmp .le off, 3)) (ht : (pc : Int) + off = (tgt : Int)) (h : (if x ≤ y then A else B) = z) (kt : A = z → W p l e R s m args below meth c H locs cells slots Q (F0 m tgt ls rest)) (kf : B = z → W p l e R s m args below meth c H locs cells slots Q (F0 m (pc + 3) ls rest)) : W p l e R s m args below meth c H locs cells slots Q (F0 m pc ls (.int y :: .int x :: rest)) :=
  lv_icmp_le hx hb hdg ht (fun q => kt (if_t q h)) (fun q => kf (if_f q h))
end BR
end MR
/-! programs: words that go on with a value or a memory -/
section PW
variable {ρ : Type}
/-- a cell's slot anew -/
def sto (S : mM) (k i : Nat) (x : Int32) : mM := u2 S k (upd (S k) i x)
/-- a field's number -/
def gf (S : mM) (k j : Nat) (K : Int32 → Option ρ) : Option ρ := K (S k j)
def pf (S : mM) (k j : Nat) (x : Int32) (K : mM → Option ρ) : Option ρ := K (sto S k j x)
/-- a field of true and false -/
def pz (S : mM) (k j : Nat) (x : Int32) (K : mM → Option ρ) : Option ρ := gd (isZ x) (K (sto S k j x))
/-- a place of an array of N numbers -/
def ld (S : mM) (k N : Nat) (i : Int32) (K : Int32 → Option ρ) : Option ρ := gd (inB i N) (K (S k i.toNatClampNeg))
def st (S : mM) (k N : Nat) (i x : Int32) (K : mM → Option ρ) : Option ρ := gd (inB i N) (K (sto S k i.toNatClampNeg x))
/-- System.arraycopy -/
def ac (S : mM) (k0 n0 k1 n1 : Nat) (sp dp k : Int32) (K : mM → Option ρ) : Option ρ := gd (acB sp dp k n0 n1) (K (u2 S k1 (va_cpy (S k0) (S k1) sp.toNatClampNeg dp.toNatClampNeg k.toNatClampNeg)))
/-- a value by a name -/
def vl {α : Type} (x : α) (K : α → Option ρ) : Option ρ := K x
def nz (y : Int32) (k : Option ρ) : Option ρ := gd (decide (¬ y = 0)) k
def nzL (y : Int64) (k : Option ρ) : Option ρ := gd (decide (¬ y = 0)) k
theorem nz_some {y : Int32} {k : Option ρ} {z : ρ} (h : nz y k = some z) : ¬ y = 0 ∧ k = some z := ⟨of_decide_eq_true (gd_some h).1, (gd_some h).2⟩
theorem nzL_some {y : Int64} {k : Option ρ} {z : ρ} (h : nzL y k = some z) : ¬ y = 0 ∧ k = some z := ⟨of_decide_eq_true (gd_some h).1, (gd_some h).2⟩
/-- a call that reads; that answers and leaves a memory; within the same cells, or within some of them -/
def cr1 {α : Type} (x : Option α) (K : α → Option ρ) : Option ρ := x.bind K
def cw2 {α : Type} (x : Option (α × mM)) (K : α → mM → Option ρ) : Option ρ := x.bind (fun q => K q.1 q.2)
def cws {α : Type} (S : mM) (o n' : Nat) (x : Option (α × mM)) (K : α → mM → Option ρ) : Option ρ := x.bind (fun q => K q.1 (wB S o n' q.2))
def cvs (S : mM) (o n' : Nat) (x : Option mM) (K : mM → Option ρ) : Option ρ := x.bind (fun q => K (wB S o n' q))
theorem cr1_some {α : Type} {x : Option α} {K : α → Option ρ} {z : ρ} (h : cr1 x K = some z) : ∃ a, x = some a ∧ K a = some z := bd_some h
theorem cw2_some {α : Type} {x : Option (α × mM)} {K : α → mM → Option ρ} {z : ρ} (h : cw2 x K = some z) : ∃ a S1, x = some (a, S1) ∧ K a S1 = some z := by
  obtain ⟨⟨a, S1⟩, h1, h2⟩ := bd_some h
  exact ⟨a, S1, h1, h2⟩
theorem cws_some {α : Type} {S : mM} {o n' : Nat} {x : Option (α × mM)} {K : α → mM → Option ρ} {z : ρ} (h : cws S o n' x K = some z) : ∃ a S1, x = some (a, S1) ∧ K a (wB S o n' S1) = some z := by
  obtain ⟨⟨a, S1⟩, h1, h2⟩ := bd_some h
  exact ⟨a, S1, h1, h2⟩
theorem cvs_some {S : mM} {o n' : Nat} {x : Option mM} {K : mM → Option ρ} {z : ρ} (h : cvs S o n' x K = some z) : ∃ S1, x = some S1 ∧ K (wB S o n' S1) = some z := bd_some h
/-- an answer that may be null -/
def bo (x : Option (Option Nat)) (A : Option ρ) (K : Nat → Option ρ) : Option ρ := x.bind (fun q => q.elim A K)
theorem bo_some {x : Option (Option Nat)} {A : Option ρ} {K : Nat → Option ρ} {z : ρ} (h : bo x A K = some z) : (x = some none ∧ A = some z) ∨ ∃ k, x = some (some k) ∧ K k = some z := by
  obtain ⟨q, h1, h2⟩ := bd_some h
  cases q with
  | none => exact Or.inl ⟨h1, h2⟩
  | some k => exact Or.inr ⟨k, h1, h2⟩
end PW
section MP
variable {p : Program} {l : Launch} {e : Env} {R : Room} {s : State} {m : MethodId} {args : Array Value} {below : List Frame} {meth : Method} {c : Code} {H : Heap} {locs : List Loc} {cells slots : Nat} {Q : State → Prop}
variable {cc : ByteArray} {pc : Nat} {ls : Array Slot} {rest : List Value} {G : mG} {M S : mM} {β n : Nat} {ρ : Type} {z : ρ}
theorem p_get {own C : String} {T : u_T} {N ci index : Nat} {Ts : List Cond} {fs : List Value} {K : Int32 → Option ρ} (hx : p.tables.exec = Jvm.exec) (hb : c.code = cc) (hts : ∀ w ∈ Ts, w.before args s = true) (hin : ∀ w ∈ u_ws C T N, w ∈ Ts) (hown : s.vm.findClass own = some m.cls) (hE : mE G s) (hw : mW G s (wB M β n S) H locs) (hn : β + n ≤ gN G) (k : Nat) (hk : k < n) (he : gK G (β + k) (S k) = .inr (ci, fs)) (hc : vwCl[ci]? = some (C, T, N)) (j : Nat) (hj : j < N) (hlink : (Cond.fieldLink own index (T j).1 (T j).2.1 (T j).2.2.1).before args s = true) (hv : fs[j]? = some (.int (S k j))) (hdg : decode cc pc = .ok (.getfield index, 3)) (h : gf S k j K = some z)
    (kk : ∀ x : Int32, K x = some z → W p l e R s m args below meth c H locs cells slots Q (F0 m (pc + 3) ls (.int x :: rest))) : W p l e R s m args below meth c H locs cells slots Q (F0 m pc ls (.ref (gA G (β + k)) :: rest)) :=
  r_get hx hb hts hin hown hE hw hn k hk he hc j hj hlink hv hdg (kk _ h)
theorem p_put {own C : String} {T : u_T} {N ci index : Nat} {Ts : List Cond} {fs : List Value} {x : Int32} {K : mM → Option ρ} (hx : p.tables.exec = Jvm.exec) (hb : c.code = cc) (hts : ∀ w ∈ Ts, w.before args s = true) (hin : ∀ w ∈ u_ws C T N, w ∈ Ts) (ty0 : Nat → FieldType) (hty : ∀ k, k < N → parseFieldDescriptor (T k).2.2.1 = some (ty0 k)) (hnm : ∀ a, a < N → ∀ b, b < N → a ≠ b → (T a).2.1 ≠ (T b).2.1) (hown : s.vm.findClass own = some m.cls) (hE : mE G s) (hw : mW G s (wB M β n S) H locs) (hn : β + n ≤ gN G) (k : Nat) (hk : k < n) (he : gK G (β + k) (S k) = .inr (ci, fs)) (hc : vwCl[ci]? = some (C, T, N)) (j : Nat) (hj : j < N) (hlink : (Cond.fieldLink own index (T j).1 (T j).2.1 (T j).2.2.1).before args s = true) (hfin : (T j).2.2.2 = false) (hd : parseFieldDescriptor (T j).2.2.1 = some .int) (hl : j < fs.length) (he' : gK G (β + k) (upd (S k) j x) = .inr (ci, fs.set j (.int x))) (hdg : decode cc pc = .ok (.putfield index, 3)) (h : pf S k j x K = some z)
    (kk : ∀ (S1 : mM), K S1 = some z → ∀ (H1 : Heap) (locs1 : List Loc), mW G s (wB M β n S1) H1 locs1 → W p l e R s m args below meth c H1 locs1 cells slots Q (F0 m (pc + 3) ls rest)) : W p l e R s m args below meth c H locs cells slots Q (F0 m pc ls (.int x :: .ref (gA G (β + k)) :: rest)) :=
  r_put hx hb (upd (S k) j x) hts hin ty0 hty hnm hown hE hw hn k hk he hc j hj hlink hfin hd rfl rfl hl he' hdg (kk _ h)
theorem p_putz {own C : String} {T : u_T} {N ci index : Nat} {Ts : List Cond} {fs : List Value} {x : Int32} {K : mM → Option ρ} (hx : p.tables.exec = Jvm.exec) (hb : c.code = cc) (hts : ∀ w ∈ Ts, w.before args s = true) (hin : ∀ w ∈ u_ws C T N, w ∈ Ts) (ty0 : Nat → FieldType) (hty : ∀ k, k < N → parseFieldDescriptor (T k).2.2.1 = some (ty0 k)) (hnm : ∀ a, a < N → ∀ b, b < N → a ≠ b → (T a).2.1 ≠ (T b).2.1) (hown : s.vm.findClass own = some m.cls) (hE : mE G s) (hw : mW G s (wB M β n S) H locs) (hn : β + n ≤ gN G) (k : Nat) (hk : k < n) (he : gK G (β + k) (S k) = .inr (ci, fs)) (hc : vwCl[ci]? = some (C, T, N)) (j : Nat) (hj : j < N) (hlink : (Cond.fieldLink own index (T j).1 (T j).2.1 (T j).2.2.1).before args s = true) (hfin : (T j).2.2.2 = false) (hd : parseFieldDescriptor (T j).2.2.1 = some .boolean) (hl : j < fs.length) (he' : gK G (β + k) (upd (S k) j x) = .inr (ci, fs.set j (.int x))) (hdg : decode cc pc = .ok (.putfield index, 3)) (h : pz S k j x K = some z)
    (kk : ∀ (S1 : mM), K S1 = some z → ∀ (H1 : Heap) (locs1 : List Loc), mW G s (wB M β n S1) H1 locs1 → W p l e R s m args below meth c H1 locs1 cells slots Q (F0 m (pc + 3) ls rest)) : W p l e R s m args below meth c H locs cells slots Q (F0 m pc ls (.int x :: .ref (gA G (β + k)) :: rest)) := by
  obtain ⟨hz, h⟩ := gd_some h
  exact r_put hx hb (upd (S k) j x) hts hin ty0 hty hnm hown hE hw hn k hk he hc j hj hlink hfin hd (isZ_n hz) (isZ_f hz) hl he' hdg (kk _ h)
theorem p_iald {N : Nat} {i : Int32} {K : Int32 → Option ρ} (hx : p.tables.exec = Jvm.exec) (hb : c.code = cc) (hE : mE G s) (hw : mW G s (wB M β n S) H locs) (hn : β + n ≤ gN G) (k : Nat) (hk : k < n) (he : ∀ f, gK G (β + k) f = .inl (gC G 0, N, .inl f)) (hdg : decode cc pc = .ok (.iaload, 1)) (h : ld S k N i K = some z)
    (kk : ∀ x : Int32, K x = some z → W p l e R s m args below meth c H locs cells slots Q (F0 m (pc + 1) ls (.int x :: rest))) : W p l e R s m args below meth c H locs cells slots Q (F0 m pc ls (.int i :: .ref (gA G (β + k)) :: rest)) := by
  obtain ⟨hi, h⟩ := gd_some h
  exact r_iald hx hb hE hw hn k hk (he _) hi hdg (kk _ h)
theorem p_zald {N : Nat} {i : Int32} {K : Int32 → Option ρ} (hx : p.tables.exec = Jvm.exec) (hb : c.code = cc) (hE : mE G s) (hw : mW G s (wB M β n S) H locs) (hn : β + n ≤ gN G) (k : Nat) (hk : k < n) (he : ∀ f, gK G (β + k) f = .inl (gC G 1, N, .inl f)) (hdg : decode cc pc = .ok (.baload, 1)) (h : ld S k N i K = some z)
    (kk : ∀ x : Int32, K x = some z → W p l e R s m args below meth c H locs cells slots Q (F0 m (pc + 1) ls (.int x :: rest))) : W p l e R s m args below meth c H locs cells slots Q (F0 m pc ls (.int i :: .ref (gA G (β + k)) :: rest)) := by
  obtain ⟨hi, h⟩ := gd_some h
  exact r_zald hx hb hE hw hn k hk (he _) hi hdg (kk _ h)
theorem p_cald {N : Nat} {i : Int32} {K : Int32 → Option ρ} (hx : p.tables.exec = Jvm.exec) (hb : c.code = cc) (hE : mE G s) (hw : mW G s (wB M β n S) H locs) (hn : β + n ≤ gN G) (k : Nat) (hk : k < n) (he : ∀ f, gK G (β + k) f = .inl (gC G 2, N, .inl f)) (hdg : decode cc pc = .ok (.caload, 1)) (h : ld S k N i K = some z)
    (kk : ∀ x : Int32, K x = some z → W p l e R s m args below meth c H locs cells slots Q (F0 m (pc + 1) ls (.int x :: rest))) : W p l e R s m args below meth c H locs cells slots Q (F0 m pc ls (.int i :: .ref (gA G (β + k)) :: rest)) := by
  obtain ⟨hi, h⟩ := gd_some h
  exact r_cald hx hb hE hw hn k hk (he _) hi hdg (kk _ h)
theorem p_iast {N : Nat} {i x : Int32} {K : mM → Option ρ} (hx : p.tables.exec = Jvm.exec) (hb : c.code = cc) (hE : mE G s) (hw : mW G s (wB M β n S) H locs) (hn : β + n ≤ gN G) (k : Nat) (hk : k < n) (he : ∀ f, gK G (β + k) f = .inl (gC G 0, N, .inl f)) (hdg : decode cc pc = .ok (.iastore, 1)) (h : st S k N i x K = some z)
    (kk : ∀ (S1 : mM), K S1 = some z → ∀ (H1 : Heap) (locs1 : List Loc), mW G s (wB M β n S1) H1 locs1 → W p l e R s m args below meth c H1 locs1 cells slots Q (F0 m (pc + 1) ls rest)) : W p l e R s m args below meth c H locs cells slots Q (F0 m pc ls (.int x :: .int i :: .ref (gA G (β + k)) :: rest)) := by
  obtain ⟨hi, h⟩ := gd_some h
  exact r_iast hx hb hE hw hn k hk he hi hdg (kk _ h)
theorem p_zast {N : Nat} {i x : Int32} {K : mM → Option ρ} (hx : p.tables.exec = Jvm.exec) (hb : c.code = cc) (hE : mE G s) (hw : mW G s (wB M β n S) H locs) (hn : β + n ≤ gN G) (k : Nat) (hk : k < n) (he : ∀ f, gK G (β + k) f = .inl (gC G 1, N, .inl f)) (hdg : decode cc pc = .ok (.bastore, 1)) (h : st S k N i (vp_nar .boolean x) K = some z)
    (kk : ∀ (S1 : mM), K S1 = some z → ∀ (H1 : Heap) (locs1 : List Loc), mW G s (wB M β n S1) H1 locs1 → W p l e R s m args below meth c H1 locs1 cells slots Q (F0 m (pc + 1) ls rest)) : W p l e R s m args below meth c H locs cells slots Q (F0 m pc ls (.int x :: .int i :: .ref (gA G (β + k)) :: rest)) := by
  obtain ⟨hi, h⟩ := gd_some h
  exact r_zast hx hb hE hw hn k hk he hi hdg (kk _ h)
theorem p_cast {N : Nat} {i x : Int32} {K : mM → Option ρ} (hx : p.tables.exec = Jvm.exec) (hb : c.code = cc) (hE : mE G s) (hw : mW G s (wB M β n S) H locs) (hn : β + n ≤ gN G) (k : Nat) (hk : k < n) (he : ∀ f, gK G (β + k) f = .inl (gC G 2, N, .inl f)) (hdg : decode cc pc = .ok (.castore, 1)) (h : st S k N i (vp_nar .char x) K = some z)
    (kk : ∀ (S1 : mM), K S1 = some z → ∀ (H1 : Heap) (locs1 : List Loc), mW G s (wB M β n S1) H1 locs1 → W p l e R s m args below meth c H1 locs1 cells slots Q (F0 m (pc + 1) ls rest)) : W p l e R s m args below meth c H locs cells slots Q (F0 m pc ls (.int x :: .int i :: .ref (gA G (β + k)) :: rest)) := by
  obtain ⟨hi, h⟩ := gd_some h
  exact r_cast hx hb hE hw hn k hk he hi hdg (kk _ h)
theorem p_copy {nL : Nat} {lv : List (Nat × Value)} {own : String} {index n0 n1 : Nat} {sp dp k : Int32} {K : mM → Option ρ} (hx : p.tables.exec = Jvm.exec) (hb : c.code = cc) (hml : c.maxLocals = nL) (hl : lv_has ls nL lv) (hown : s.vm.findClass own = some m.cls) (hlink : (Cond.methodLink own index arraycopyName).before args s = true) (hnat : (Cond.native arraycopyName).before args s = true) (hstat : (Cond.static arraycopyName).before args s = true) (hini : (Cond.initialized "java/lang/System").before args s = true)
    (hE : mE G s) (hw : mW G s (wB M β n S) H locs) (hn : β + n ≤ gN G) (k0 k1 : Nat) (hk0 : k0 < n) (hk1 : k1 < n) (he0 : ∀ f, gK G (β + k0) f = .inl (gC G 0, n0, .inl f)) (he1 : ∀ f, gK G (β + k1) f = .inl (gC G 0, n1, .inl f))
    (hframes : 1 ≤ R.frames) (hlocals : (rest.map fun v => v.category).sum + (nativeFrameWords "java/lang/System" "arraycopy" 5 + 11) ≤ R.locals) (hdg : decode cc pc = .ok (.invokestatic index, 3)) (h : ac S k0 n0 k1 n1 sp dp k K = some z)
    (kk : ∀ (S1 : mM), K S1 = some z → ∀ (H1 : Heap) (locs1 : List Loc), mW G s (wB M β n S1) H1 locs1 → W p l e R s m args below meth c H1 locs1 cells slots Q (F0 m (pc + 3) ls rest)) : W p l e R s m args below meth c H locs cells slots Q (F0 m pc ls (.int k :: .int dp :: .ref (gA G (β + k1)) :: .int sp :: .ref (gA G (β + k0)) :: rest)) := by
  obtain ⟨hg, h⟩ := gd_some h
  exact r_copyi hx hb hml hl hown hlink hnat hstat hini hE hw hn k0 k1 hk0 hk1 he0 he1 hg hframes hlocals hdg (kk _ h)
/-- the top of the stack by a name -/
theorem p_topi {x : Int32} {K : Int32 → Option ρ} (h : vl x K = some z) (kk : ∀ y : Int32, K y = some z → W p l e R s m args below meth c H locs cells slots Q (F0 m pc ls (.int y :: rest))) : W p l e R s m args below meth c H locs cells slots Q (F0 m pc ls (.int x :: rest)) := kk x h
theorem p_topl {x : Int64} {K : Int64 → Option ρ} (h : vl x K = some z) (kk : ∀ y : Int64, K y = some z → W p l e R s m args below meth c H locs cells slots Q (F0 m pc ls (.long y :: rest))) : W p l e R s m args below meth c H locs cells slots Q (F0 m pc ls (.long x :: rest)) := kk x h
theorem p_iinc {i nL : Nat} (k : Nat) {d : Int} {x w : Int32} {lv : List (Nat × Value)} {K : Int32 → Option ρ} (lv' : Int32 → List (Nat × Value)) (hx : p.tables.exec = Jvm.exec) (hb : c.code = cc) (hdg : decode cc pc = .ok (.iinc i d, 3)) (hl : lv_has ls nL lv) (hk : lv[k]? = some (i, .int x)) (hn : i < nL) (hw' : Int32.ofInt d = w) (h : vl (x + w) K = some z) (hlv : ∀ y : Int32, (i, Value.int y) :: lv.filter (fun q => !(q.1 == i) && !(q.1 + 1 == i && q.2.category == 2)) = lv' y)
    (kk : ∀ y : Int32, K y = some z → ∀ ls' : Array Slot, lv_has ls' nL (lv' y) → W p l e R s m args below meth c H locs cells slots Q (F0 m (pc + 3) ls' rest)) : W p l e R s m args below meth c H locs cells slots Q (F0 m pc ls rest) :=
  lv_iinc hx hb hdg hl hk (by rw [hw']) hn (hlv _) (kk _ h)
theorem e_i {M1 : mM} {v r : Int32} (hx : p.tables.exec = Jvm.exec) (hb : c.code = cc) (hr : meth.sig.returnType = some .int) (hlocks : meth.locks = false) (hw : mW G s M1 H locs) (hdg : decode cc pc = .ok (.ireturn, 1)) (h : some v = some r) : W p l e R s m args below meth c H locs 0 0 (mZ below G (some (.int r)) M1 args s) (F0 m pc ls [.int v]) := by
  cases h
  exact r_iret hx hb hr hlocks hw hdg
theorem e_z {M1 : mM} {v r : Int32} (hx : p.tables.exec = Jvm.exec) (hb : c.code = cc) (hr : meth.sig.returnType = some .boolean) (hlocks : meth.locks = false) (hw : mW G s M1 H locs) (hdg : decode cc pc = .ok (.ireturn, 1)) (h : gd (isZ v) (some v) = some r) : W p l e R s m args below meth c H locs 0 0 (mZ below G (some (.int r)) M1 args s) (F0 m pc ls [.int v]) := by
  obtain ⟨hz, h⟩ := gd_some h
  cases h
  exact r_zret hx hb hr hlocks (isZ_n hz) hw hdg
theorem e_l {M1 : mM} {v r : Int64} (hx : p.tables.exec = Jvm.exec) (hb : c.code = cc) (hr : meth.sig.returnType = some .long) (hlocks : meth.locks = false) (hw : mW G s M1 H locs) (hdg : decode cc pc = .ok (.lreturn, 1)) (h : some v = some r) : W p l e R s m args below meth c H locs 0 0 (mZ below G (some (.long r)) M1 args s) (F0 m pc ls [.long v]) := by
  cases h
  exact r_lret hx hb hr hlocks hw hdg
theorem e_iw {v r : Int32} {S' : mM} (hx : p.tables.exec = Jvm.exec) (hb : c.code = cc) (hr : meth.sig.returnType = some .int) (hlocks : meth.locks = false) (hw : mW G s (wB M β n S) H locs) (hdg : decode cc pc = .ok (.ireturn, 1)) (h : some (v, S) = some (r, S')) : W p l e R s m args below meth c H locs 0 0 (mZ below G (some (.int r)) (wB M β n S') args s) (F0 m pc ls [.int v]) := by
  cases h
  exact r_iret hx hb hr hlocks hw hdg
theorem e_zw {v r : Int32} {S' : mM} (hx : p.tables.exec = Jvm.exec) (hb : c.code = cc) (hr : meth.sig.returnType = some .boolean) (hlocks : meth.locks = false) (hw : mW G s (wB M β n S) H locs) (hdg : decode cc pc = .ok (.ireturn, 1)) (h : gd (isZ v) (some (v, S)) = some (r, S')) : W p l e R s m args below meth c H locs 0 0 (mZ below G (some (.int r)) (wB M β n S') args s) (F0 m pc ls [.int v]) := by
  obtain ⟨hz, h⟩ := gd_some h
  cases h
  exact r_zret hx hb hr hlocks (isZ_n hz) hw hdg
theorem e_vw {S' : mM} (hx : p.tables.exec = Jvm.exec) (hb : c.code = cc) (hr : meth.sig.returnType = none) (hlocks : meth.locks = false) (hw : mW G s (wB M β n S) H locs) (hdg : decode cc pc = .ok (.return_, 1)) (h : some S = some S') : W p l e R s m args below meth c H locs 0 0 (mZ below G none (wB M β n S') args s) (F0 m pc ls []) := by
  cases h
  exact r_vret hx hb hr hlocks hw hdg
/-- a reference or null, by its place in the region -/
def vo (G : mG) (β : Nat) (o : Option Nat) : Value := va_rf (o.map (fun k => gA G (β + k)))
theorem e_n {M1 : mM} {r : Option Nat} {nm : String} (hx : p.tables.exec = Jvm.exec) (hb : c.code = cc) (hr : meth.sig.returnType = some (.object nm)) (hlocks : meth.locks = false) (hw : mW G s M1 H locs) (hdg : decode cc pc = .ok (.areturn, 1)) (h : some none = some r) : W p l e R s m args below meth c H locs 0 0 (mZ below G (some (vo G β r)) M1 args s) (F0 m pc ls [.null]) := by
  cases h
  exact r_aret (o := none) hx hb hr hlocks hw hdg
theorem e_o {M1 : mM} {r : Option Nat} {k : Nat} {nm : String} (hx : p.tables.exec = Jvm.exec) (hb : c.code = cc) (hr : meth.sig.returnType = some (.object nm)) (hlocks : meth.locks = false) (hw : mW G s M1 H locs) (hdg : decode cc pc = .ok (.areturn, 1)) (h : some (some k) = some r) : W p l e R s m args below meth c H locs 0 0 (mZ below G (some (vo G β r)) M1 args s) (F0 m pc ls [.ref (gA G (β + k))]) := by
  cases h
  exact r_aret (o := some (gA G (β + k))) hx hb hr hlocks hw hdg
end MP
