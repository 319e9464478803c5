/-! ===== methods that throw: contracts and rows ===== -/
/-- at the memory M the method throws E, the memory is M' then -/
def mXC (G : mG) (E : String) (M : mM) : String → State → State → Prop := fun E' st t => E' = E ∧ va_P (gD G) vwCl (gW G M) t.heap ∧ va_F (mA G) st t
def MX (l : Launch) (G : mG) (y : MethodName) (ws : List Cond) (fr lo : Nat) (av : List Value) (M M' : mM) (E : String) : Prop :=
  vx_Met l y ws { frames := fr, cells := 1, slots := 6, locals := lo } (mPc G av M) (fun _ _ _ _ => False) (mXC G E M') 1 6 (mA G)
abbrev mY (below : List Frame) (G : mG) (E : String) (M : mM) (args : Array Value) (s : State) : State → Prop := vx_MQ below (fun _ _ _ _ => False) (mXC G E M) args s 1 6 (mA G)
theorem mx_sub {l : Launch} {G : mG} {y : MethodName} {ws : List Cond} {fr lo : Nat} {av : List Value} {M S T : mM} {β n : Nat} {E : String} (o n' : Nat) (ho : o + n' ≤ n) (h : MX l G y ws fr lo av (wB (wB M β n S) (β + o) n' (sB S o)) (wB (wB M β n S) (β + o) n' T) E) : MX l G y ws fr lo av (wB M β n S) (wB M β n (wB S o n' T)) E := by
  rw [wB_sub ho, wB_in ho] at h
  exact h
theorem mx_subR {l : Launch} {G : mG} {y : MethodName} {ws : List Cond} {fr lo : Nat} {av : List Value} {M S : mM} {β n : Nat} {E : String} (o n' : Nat) (ho : o + n' ≤ n) (h : MX l G y ws fr lo av (wB (wB M β n S) (β + o) n' (sB S o)) (wB (wB M β n S) (β + o) n' (sB S o)) E) : MX l G y ws fr lo av (wB M β n S) (wB M β n S) E := by
  rw [wB_sub ho] at h
  exact h
section MT
variable {p : Program} {l : Launch} {e : Env} {R : Room} {s : State} {m : MethodId} {args : Array Value} {below : List Frame} {meth : Method} {c : Code} {H : Heap} {locs : List Loc} {cells slots : Nat} {Q : State → Prop}
variable {cc : ByteArray} {pc : Nat} {ls : Array Slot} {rest : List Value} {G : mG}
theorem mx_of {y : MethodName} {ws ws' : List Cond} {fr lo maxL : Nat} {ret : Option FieldType} {av : List Value} {M M' : mM} {E : String} (hy : plainName y.cls = true) (hw : ws = Cond.code y cc maxL ret :: ws') (hlen : (lg_sl av).length ≤ maxL)
    (body : ∀ (p : Program) (e : Env) (s : State) (m : MethodId) (args : Array Value) (below : List Frame) (meth : Method) (c : Code) (H : Heap) (ls : Array Slot), p.tables.exec = Jvm.exec → c.code = cc → meth.sig.returnType = ret → (∀ w ∈ ws, w.before args s = true) → s.vm.findClass y.cls = some m.cls → c.maxLocals = maxL → meth.locks = false → (∀ x ∈ c.exceptionTable.toList, False) → mE G s → mW G s M H [] → s.heap = H → lv_has ls maxL (lv_args 0 av) →
      W p l e { frames := fr, cells := 1, slots := 6, locals := lo } s m args below meth c H [] 0 0 (mY below G E M' args s) (F0 m 0 ls [])) : MX l G y ws fr lo av M M' E := by
  refine vx_ofW (cc := cc) (maxL := maxL) (ret := ret) hy hw ?_
  intro p e s m args below meth c s₁ B hml hout hv
  obtain ⟨rfl, hE, hP⟩ := hv
  rw [lg_entry_eq]
  exact body p e s m _ below meth c s.heap _ B.exec B.bytes B.returns (atoms_spec (ws := ws) B.pre) (findClass_of_methodNamed B.named) hml B.notSynchronized hout hE (mW.start hP) rfl (lv_entry av hlen)
/-- behind a call that throws, nothing here takes it -/
theorem x_fin {M1 M2 : mM} {E : String} {a : Array Value} {st0 : List Value} (hr : vx_Run p l e R s m args below meth c H locs 0 0 1 6 (F0 m pc ls st0) rest (fun _ _ _ => False) (mXC G E M2) (mA G)) (hw : mW G s M1 H locs) (hout : ∀ x ∈ c.exceptionTable.toList, False) (hlocks : meth.locks = false) :
    W p l e R s m args below meth c H locs 0 0 (mY below G E M2 args s) (F0 m pc ls st0) := by
  intro T hT X
  rcases hr T hT X with ⟨v, st₀, t, T', L, h0, X', hL, e1, e2, hF, st⟩ | ⟨q, st₀, t, T', L, E', ce, h0, X', hL, e1, e2, ⟨hE, hP, hF⟩, hce, hcv, hcl, st⟩
  · exact absurd hF (fun h => h)
  · subst hE
    have hS := mS_call hw.2 h0 e1 hF hL
    obtain ⟨t2, a1, b1⟩ := vx_out (H := T'.heap) (Qc := fun _ _ _ _ => False) (XC := mXC G E' M2) (free := mA G) (mc := 1) (ms := 6) (pc := pc) (ls := ls) (rest := rest) (q := q) (E := E') (ce := ce) (fun x hx => (hout x hx).elim) hlocks (by rw [e1]; exact hce) hcv hcl
      (fun t9 ht9 _ => ⟨rfl, by rw [ht9, e1]; exact hP, hS.F ht9⟩) hS.2.2 (Nat.le_refl _) (Nat.le_refl _) T' rfl X'
    exact ⟨t2, st.trans a1, b1⟩
theorem x_callS {own : String} {index na nL maxL fr lo : Nat} {y : MethodName} {bytes : ByteArray} {ret : Option FieldType} {ws Ts : List Cond} {As st0 : List Value} {M1 M2 : mM} {E : String} {lv : List (Nat × Value)}
    (hx : p.tables.exec = Jvm.exec) (hb : c.code = cc) (hml : c.maxLocals = nL) (hown : s.vm.findClass own = some m.cls) (hts : ∀ w ∈ Ts, w.before args s = true) (hE : mE G s) (hw : mW G s M1 H locs) (hl : lv_has ls nL lv)
    (hM : MX l G y ws fr lo As M1 M2 E) (cw : CallB R s args own index y bytes maxL ret ws { frames := fr, cells := 1, slots := 6, locals := lo } 1 6 na ∧ (Cond.static y).before args s = true) (hn : As.length = na) (hst : st0 = As.reverse ++ rest) (hW : (rest.map fun v => v.category).sum ≤ 8) (hdg : decode cc pc = .ok (.invokestatic index, 3)) (hf : 0 + 1 ≤ R.cells ∧ 0 + 6 ≤ R.slots) (hout : ∀ x ∈ c.exceptionTable.toList, False) (hlocks : meth.locks = false) :
    W p l e R s m args below meth c H locs 0 0 (mY below G E M2 args s) (F0 m pc ls st0) :=
  x_fin (a := As.toArray) (vx_runS (g := F0 m pc ls st0) ⟨hx, hb, hml, hown, hts⟩ hM cw ⟨mPc_blind G _ _, fun U hU hW => ⟨rfl, hE.at hw hU hW, by rw [hU]; exact hw.1⟩⟩ rfl hn hl.1 hst (lv_room hW) hdg hf) hw hout hlocks
theorem x_callV {own C : String} {index na nL maxL fr lo b ci : Nat} {y : MethodName} {bytes : ByteArray} {ret : Option FieldType} {ws Ts : List Cond} {As st0 fs : List Value} {M1 M2 : mM} {E : String} {lv : List (Nat × Value)} {q : vw_C}
    (hx : p.tables.exec = Jvm.exec) (hb : c.code = cc) (hml : c.maxLocals = nL) (hown : s.vm.findClass own = some m.cls) (hts : ∀ w ∈ Ts, w.before args s = true) (hE : mE G s) (hw : mW G s M1 H locs) (hl : lv_has ls nL lv)
    (hM : MX l G y ws fr lo (.ref (gA G b) :: As) M1 M2 E) (cw : CallW R s args own C index y bytes maxL ret ws { frames := fr, cells := 1, slots := 6, locals := lo } 1 6 na) (hbN : b < gN G) (he : gK G b (M1 b) = .inr (ci, fs)) (hc : vwCl[ci]? = some q) (hq : q.1 = C) (hn : As.length = na) (hst : st0 = As.reverse ++ .ref (gA G b) :: rest) (hW : (rest.map fun v => v.category).sum ≤ 8) (hdg : decode cc pc = .ok (.invokevirtual index, 3)) (hf : 0 + 1 ≤ R.cells ∧ 0 + 6 ≤ R.slots) (hout : ∀ x ∈ c.exceptionTable.toList, False) (hlocks : meth.locks = false) :
    W p l e R s m args below meth c H locs 0 0 (mY below G E M2 args s) (F0 m pc ls st0) := by
  subst hq
  exact x_fin (a := (.ref (gA G b) :: As).toArray) (vx_runV (g := F0 m pc ls st0) ⟨hx, hb, hml, hown, hts⟩ hM cw ⟨mPc_blind G _ _, va_recv hE.1 hw.1 hc (by rw [gW_at hbN, he]), fun U hU hW => ⟨rfl, hE.at hw hU hW, by rw [hU]; exact hw.1⟩⟩ rfl hn hl.1 hst (lv_room hW) hdg hf) hw hout hlocks
/-- 'throw new E("text")': the words that are no good words are of three classes -/
theorem x_throw {M1 : mM} {nL : Nat} {lv : List (Nat × Value)} {own cls text : String} {names : List String} {ik is ic sa : Nat} {B : List Cond} (hx : p.tables.exec = Jvm.exec) (hb : c.code = cc) (hfl : l.stackTraces = false)
    (hml : c.maxLocals = nL) (hl : lv_has ls nL lv) (hown : s.vm.findClass own = some m.cls) (hcls : Bundle.fit cls = true) (hnames : ∀ n ∈ names, Bundle.fit n = true)
    (hk : (Cond.classLink own ik cls).before args s = true) (hini : (Cond.initialized cls).before args s = true) (hstr : vk_R own is text sa s)
    (hg1 : ∀ w ∈ (vx_atS own ic cls names).filter goodWord, w.before args s = true) (hg2 : ∀ w ∈ (vx_atS own ic cls names).filter (fun w => !goodWord w), w ∈ B) (hg3 : ∀ w ∈ B, w.before args s = true)
    (hgood : ∀ w ∈ Cond.classLink own ik cls :: Cond.initialized cls :: vx_atS own ic cls names, vx_ot w = true)
    (hE : mE G s) (hw : mW G s M1 H locs)
    (d0 : decode cc pc = .ok (.new ik, 3)) (d3 : decode cc (pc + 3) = .ok (.dup, 1)) (d4 : decode cc (pc + 4) = .ok (.ldc is, 2)) (d6 : decode cc (pc + 6) = .ok (.invokespecial ic, 3)) (d9 : decode cc (pc + 9) = .ok (.athrow, 1))
    (hout : ∀ x ∈ c.exceptionTable.toList, False) (hRframes : names.length + 3 < R.frames) (hRlocals : (rest.map fun v => v.category).sum + (13 * (names.length + 1) + 43) ≤ R.locals) (hRcells : 0 + 1 ≤ R.cells) (hRslots : 0 + 6 ≤ R.slots) (hlocks : meth.locks = false) :
    W p l e R s m args below meth c H locs 0 0 (mY below G cls M1 args s) (F0 m pc ls rest) :=
  vx_throwS (A := mA G) hx hb hfl hown hcls hnames hk hini hstr (vx_hat hg1 hg2 hg3) hgood hE.2.2.2.2.2.1.1 hE.2.2.2.2.2.1.2 hw.2 (hl.1.trans hml.symm) d0 d3 d4 d6 d9 (fun x hx => (hout x hx).elim) hRframes hRlocals hRcells hRslots hlocks
    (fun t _ hz hq => ⟨rfl, hw.1.kept (fun k q hk => hq q.1 ((hw.1 k q hk).lt)), Nat.le_trans hw.2.1 hz, fun q h1 h2 => (hq q (Nat.lt_of_lt_of_le h1 hw.2.1)).trans (hw.2.2.1 q h1 h2)⟩) hw.2.2.2 (Nat.le_refl _) (Nat.le_refl _)
/-- a call that returns nothing or throws -/
def bx {ρ : Type} (x : Option (Option String)) (t : String → Option ρ) (K : Option ρ) : Option ρ := x.bind (fun q => q.elim K t)
theorem bx_some {ρ : Type} {x : Option (Option String)} {t : String → Option ρ} {K : Option ρ} {z : ρ} (h : bx x t K = some z) : (x = some none ∧ K = some z) ∨ ∃ E, x = some (some E) ∧ t E = some z := by
  obtain ⟨q, h1, h2⟩ := bd_some h
  cases q with
  | none => exact Or.inl ⟨h1, h2⟩
  | some k => exact Or.inr ⟨k, h1, h2⟩
end MT
/-- the words of a throw that are no good words -/
def exB (cls : String) : List Cond := [.castable cls cls, .declares (Bundle.initS "java/lang/RuntimeException"), .declares (Bundle.initS "java/lang/Exception"), .declares (Bundle.initS Bundle.tN)]
theorem ex238_b : ∀ w ∈ (vx_atS RX6 238 "java/lang/IndexOutOfBoundsException" ["java/lang/RuntimeException", "java/lang/Exception"]).filter (fun w => !goodWord w), w ∈ exB "java/lang/IndexOutOfBoundsException" := by decide +kernel
theorem ex238_o : ∀ w ∈ Cond.classLink RX6 234 "java/lang/IndexOutOfBoundsException" :: Cond.initialized "java/lang/IndexOutOfBoundsException" :: vx_atS RX6 238 "java/lang/IndexOutOfBoundsException" ["java/lang/RuntimeException", "java/lang/Exception"], vx_ot w = true := by decide +kernel
theorem ex251_b : ∀ w ∈ (vx_atS RX6 251 "java/lang/IllegalArgumentException" ["java/lang/RuntimeException", "java/lang/Exception"]).filter (fun w => !goodWord w), w ∈ exB "java/lang/IllegalArgumentException" := by decide +kernel
theorem ex251_o : ∀ w ∈ Cond.classLink RX6 247 "java/lang/IllegalArgumentException" :: Cond.initialized "java/lang/IllegalArgumentException" :: vx_atS RX6 251 "java/lang/IllegalArgumentException" ["java/lang/RuntimeException", "java/lang/Exception"], vx_ot w = true := by decide +kernel
theorem ex256_b : ∀ w ∈ (vx_atS RX6 256 "java/lang/IllegalStateException" ["java/lang/RuntimeException", "java/lang/Exception"]).filter (fun w => !goodWord w), w ∈ exB "java/lang/IllegalStateException" := by decide +kernel
theorem ex256_o : ∀ w ∈ Cond.classLink RX6 252 "java/lang/IllegalStateException" :: Cond.initialized "java/lang/IllegalStateException" :: vx_atS RX6 256 "java/lang/IllegalStateException" ["java/lang/RuntimeException", "java/lang/Exception"], vx_ot w = true := by decide +kernel
