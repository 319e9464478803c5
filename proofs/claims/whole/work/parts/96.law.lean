/-! ===== the law's world; contracts of its own calls ===== -/
/-- WinterRoad's cells, then the reference's, then the answer's place -/
def lM (C D : mM) (f : Nat → Int32) : mM := fun k => if k < 316 then C k else if k < 324 then D (k - 316) else if k = 324 then f else fun _ => 0
def aJ (G : mG) : mS := fun f => .inl (gC G 4, 1, .inr (.inl (fun j => (f j).toInt64)))
theorem lM_C {C D C' : mM} {f : Nat → Int32} : wB (lM C D f) 0 316 C' = lM C' D f := by
  funext k
  unfold wB lM
  by_cases h : k < 316
  · simp only [if_pos h, if_pos (show 0 ≤ k ∧ k < 0 + 316 by omega), Nat.sub_zero]
  · simp only [if_neg h, if_neg (show ¬ (0 ≤ k ∧ k < 0 + 316) by omega)]
theorem lM_D {C D D' : mM} {f : Nat → Int32} : wB (lM C D f) 316 8 D' = lM C D' f := by
  funext k
  unfold wB lM
  by_cases h : k < 316
  · simp only [if_pos h, if_neg (show ¬ (316 ≤ k ∧ k < 316 + 8) by omega)]
  · by_cases h2 : k < 324
    · simp only [if_neg h, if_pos h2, if_pos (show 316 ≤ k ∧ k < 316 + 8 by omega)]
    · simp only [if_neg h, if_neg h2, if_neg (show ¬ (316 ≤ k ∧ k < 316 + 8) by omega)]
theorem lM_o {C D : mM} {f : Nat → Int32} : lM C D f 324 = f := by
  unfold lM
  rw [if_neg (by decide), if_neg (by decide), if_pos rfl]
theorem lM_n {C D : mM} {f g : Nat → Int32} {j : Nat} (h : j ≠ 324) : lM C D g j = lM C D f j := by
  unfold lM
  simp only [if_neg h]
def lNc (U : State) : Prop := va_Nc "java/lang/IllegalArgumentException" "java/lang/IndexOutOfBoundsException" U ∧ va_Nc "java/lang/IllegalStateException" "java/lang/IndexOutOfBoundsException" U ∧ va_Nc "java/lang/IllegalStateException" "java/lang/IllegalArgumentException" U
theorem lNc_mv {s U : State} (hW : s.WarmedH U.vm) (h : lNc s) : lNc U := ⟨h.1.moved hW.alike, h.2.1.moved hW.alike, h.2.2.moved hW.alike⟩
def lPc (G : mG) (av : List Value) (M : mM) : Array Value → State → Prop := va_Pc av (fun U => mE G U ∧ lNc U ∧ va_P (gD G) vwCl (gW G M) U.heap)
theorem lPc_blind (G : mG) (av : List Value) (M : mM) : FrameBlind (lPc G av M) := fun a U g mk q =>
  ⟨q.1, mE.moved (s := U) (State.WarmedH.refl U) (Nat.le_refl _) (fun _ _ _ => rfl) q.2.1, lNc_mv (s := U) (U := U.calling g mk a) (State.WarmedH.refl U) q.2.2.1, q.2.2.2⟩
/-- a method of the law: it answers k -/
def ML (l : Launch) (G : mG) (y : MethodName) (ws : List Cond) (av : List Value) (M M' : mM) (k : Int32) : Prop :=
  Met l y ws { frames := 9, cells := 1, slots := 6, locals := 240 } (lPc G av M) (mQ G (some (.int k)) M') 1 6 (mA G)
/-- its words -/
def wy (y : MethodName) (cc : ByteArray) (n : Nat) (r : Option FieldType) (hh : List (Nat × Nat × Nat × Nat)) : List Cond := Cond.codeWith y cc n r hh :: zT
theorem wy_in {y : MethodName} {cc : ByteArray} {n : Nat} {r : Option FieldType} {hh : List (Nat × Nat × Nat × Nat)} {w : Cond} (h : w ∈ zT) : w ∈ wy y cc n r hh := List.mem_cons_of_mem _ h
theorem yG {y : MethodName} {cc : ByteArray} {n : Nat} {r : Option FieldType} {hh : List (Nat × Nat × Nat × Nat)} {w : Cond} (h : w ∈ zT) : w ∈ wy y cc n r hh ∧ ((w.onTables && w.keeps) = true ∨ ∃ ty, w = .arrayClass ty) := ⟨wy_in h, good_of_word (List.mem_filter.mp h).2⟩
theorem tG {w : Cond} (h : w ∈ zT) : w ∈ zT ∧ ((w.onTables && w.keeps) = true ∨ ∃ ty, w = .arrayClass ty) := ⟨h, good_of_word (List.mem_filter.mp h).2⟩
theorem yV {y0 : MethodName} {c0 : ByteArray} {n0 : Nat} {r0 : Option FieldType} {h0 : List (Nat × Nat × Nat × Nat)} {own : String} {idx : Nat} {C : String} {y : MethodName} {cc : ByteArray} {n : Nat} {r : Option FieldType} (h : ZV own idx C y cc n r) : GoodIn (wy y0 c0 n0 r0 h0) (wsV own idx C y (wz y cc n r)) := by
  obtain ⟨h1, h2, h3, h4, h5⟩ := h
  intro w hw
  rcases List.mem_append.mp hw with hw | hw
  · rcases List.mem_cons.mp hw with rfl | hw
    · exact yG h1
    rcases List.mem_cons.mp hw with rfl | hw
    · exact yG h2
    rcases List.mem_cons.mp hw with rfl | hw
    · exact yG h3
    rcases List.mem_cons.mp hw with rfl | hw
    · exact yG h4
    cases hw
  · rcases List.mem_cons.mp hw with rfl | hw
    · exact yG h5
    · exact yG hw
theorem tV {own : String} {idx : Nat} {C : String} {y : MethodName} {cc : ByteArray} {n : Nat} {r : Option FieldType} (h : ZV own idx C y cc n r) : GoodIn zT (wsV own idx C y (wz y cc n r)) := by
  obtain ⟨h1, h2, h3, h4, h5⟩ := h
  intro w hw
  rcases List.mem_append.mp hw with hw | hw
  · rcases List.mem_cons.mp hw with rfl | hw
    · exact tG h1
    rcases List.mem_cons.mp hw with rfl | hw
    · exact tG h2
    rcases List.mem_cons.mp hw with rfl | hw
    · exact tG h3
    rcases List.mem_cons.mp hw with rfl | hw
    · exact tG h4
    cases hw
  · rcases List.mem_cons.mp hw with rfl | hw
    · exact tG h5
    · exact tG hw
/-- a static call's words, of a method with a table -/
def ZW (own : String) (idx : Nat) (y : MethodName) (cc : ByteArray) (n : Nat) (r : Option FieldType) (hh : List (Nat × Nat × Nat × Nat)) : Prop := Cond.methodLink own idx y ∈ zT ∧ Cond.static y ∈ zT ∧ Cond.initialized y.cls ∈ zT ∧ Cond.codeWith y cc n r hh ∈ zT
theorem tW {own : String} {idx : Nat} {y : MethodName} {cc : ByteArray} {n : Nat} {r : Option FieldType} {hh : List (Nat × Nat × Nat × Nat)} (h : ZW own idx y cc n r hh) : GoodIn zT (va_wsS own idx y (wy y cc n r hh)) := by
  obtain ⟨h1, h2, h3, h5⟩ := h
  intro w hw
  rcases List.mem_append.mp hw with hw | hw
  · rcases List.mem_cons.mp hw with rfl | hw
    · exact tG h1
    rcases List.mem_cons.mp hw with rfl | hw
    · exact tG h2
    rcases List.mem_cons.mp hw with rfl | hw
    · exact tG h3
    cases hw
  · rcases List.mem_cons.mp hw with rfl | hw
    · exact tG h5
    · exact tG hw
section LAWROWS
variable {p : Program} {l : Launch} {e : Env} {R : Room} {s : State} {m : MethodId} {args : Array Value} {below : List Frame} {meth : Method} {c : Code} {H : Heap} {locs : List Loc} {cells slots : Nat} {Q : State → Prop}
variable {cc : ByteArray} {pc : Nat} {ls : Array Slot} {rest : List Value} {G : mG} {C D : mM} {f : Nat → Int32}
theorem l_last (hx : p.tables.exec = Jvm.exec) (hb : c.code = cc) (hE : mE G s) (hw : mW G s (lM C D f) H locs) (hN : gN G = 325) (hk : gK G 324 = aJ G) {r : Int32} (hdg : decode cc pc = .ok (.lastore, 1))
    (kk : ∀ (H1 : Heap) (locs1 : List Loc), mW G s (lM C D (upd f 0 r)) H1 locs1 → W p l e R s m args below meth c H1 locs1 cells slots Q (F0 m (pc + 1) ls rest)) : W p l e R s m args below meth c H locs cells slots Q (F0 m pc ls (.long r.toInt64 :: .int (nI 0) :: .ref (gA G 324) :: rest)) := by
  refine va_last hx hb hE.1 hw.1 (gD_ok hE.2.2.1 _) hw.2 324 4 (f := fun j => (f j).toInt64) (by rw [gW_at (by omega), hk, lM_o]; rfl) rfl (inB_in (n := 1) (by decide)) hdg (fun H1 locs1 hP _ hS => kk H1 locs1 ⟨?_, hS⟩)
  rw [gW_set (M' := lM C D (upd f 0 r)) (by omega) ?_ (fun j hj => lM_n hj)] at hP
  · exact hP
  · rw [hk, lM_o]
    unfold aJ
    congr 5
    funext j
    rw [nI_clamp (by decide)]
    unfold vp_updL
    by_cases h : j = 0
    · rw [h, upd_s, if_pos rfl]
    · rw [upd_n h, if_neg h]
theorem l_lald (hx : p.tables.exec = Jvm.exec) (hb : c.code = cc) (hE : mE G s) (hw : mW G s (lM C D f) H locs) (hN : gN G = 325) (hk : gK G 324 = aJ G) (hdg : decode cc pc = .ok (.laload, 1))
    (kk : W p l e R s m args below meth c H locs cells slots Q (F0 m (pc + 1) ls (.long (f 0).toInt64 :: rest))) : W p l e R s m args below meth c H locs cells slots Q (F0 m pc ls (.int (nI 0) :: .ref (gA G 324) :: rest)) := by
  refine va_lald hx hb hE.1 hw.1 324 4 (f := fun j => (f j).toInt64) (by rw [gW_at (by omega), hk, lM_o]; rfl) rfl (inB_in (n := 1) (by decide)) hdg ?_
  rw [nI_clamp (by decide)]
  exact kk
abbrev lZ (below : List Frame) (G : mG) (k : Int32) (M : mM) (args : Array Value) (s : State) : State → Prop := MQ below (mQ G (some (.int k)) M) args s 1 6 (mA G)
theorem l_ret {M1 : mM} {k : Int32} (hx : p.tables.exec = Jvm.exec) (hb : c.code = cc) (hr : meth.sig.returnType = some .int) (hlocks : meth.locks = false) (hw : mW G s M1 H locs) (hdg : decode cc pc = .ok (.ireturn, 1)) (hc : cells ≤ 1) (hs : slots ≤ 6) : W p l e R s m args below meth c H locs cells slots (lZ below G k M1 args s) (F0 m pc ls [.int k]) := by
  refine W.widen (k := 1) (n := 6) hc hs ?_
  exact W.iret hx hb hr (fun t ht _ => ⟨⟨rfl, by rw [ht]; exact hw.1⟩, hw.2.F ht⟩) hw.2.2.2 hdg hlocks
theorem l_of {y : MethodName} {maxL : Nat} {hh : List (Nat × Nat × Nat × Nat)} {av : List Value} {M M' : mM} {k : Int32} (hy : plainName y.cls = true) (hlen : (lg_sl av).length ≤ maxL)
    (body : ∀ (p : Program) (e : Env) (s : State) (m : MethodId) (args : Array Value) (below : List Frame) (meth : Method) (c : Code) (H : Heap) (ls : Array Slot), p.tables.exec = Jvm.exec → c.code = cc → meth.sig.returnType = some .int → (∀ w ∈ wy y cc maxL (some .int) hh, w.before args s = true) → s.vm.findClass y.cls = some m.cls → c.maxLocals = maxL → meth.locks = false → c.exceptionTable.toList = tableOf hh → mE G s → lNc s → mW G s M H [] → lv_has ls maxL (lv_args 0 av) →
      W p l e { frames := 9, cells := 1, slots := 6, locals := 240 } s m args below meth c H [] 0 0 (lZ below G k M' args s) (F0 m 0 ls [])) : ML l G y (wy y cc maxL (some .int) hh) av M M' k := by
  refine va_MetW (cc := cc) (maxL := maxL) (ret := some .int) (hh := hh) hy rfl ?_
  intro p e s m args below meth c s₁ B hml hv
  obtain ⟨rfl, hE, hN, hP⟩ := hv
  have hts := atoms_spec (ws := wy y cc maxL (some .int) hh) B.pre
  rw [lg_entry_eq]
  exact body p e s m _ below meth c s.heap _ B.exec B.bytes B.returns hts (findClass_of_methodNamed B.named) hml B.notSynchronized (vx_table (x := y) B (hts _ List.mem_cons_self)) hE hN (mW.start hP) (lv_entry av hlen)
/-- a call that throws, caught here -/
theorem l_callX {own CL : String} {index na nL maxL fr lo b ci : Nat} {y : MethodName} {bytes : ByteArray} {ret : Option FieldType} {ws Ts : List Cond} {As st0 fs : List Value} {M1 M2 : mM} {E : String} {lv : List (Nat × Value)} {q : vw_C}
    (hx : p.tables.exec = Jvm.exec) (hb : c.code = cc) (hml : c.maxLocals = nL) (hown : s.vm.findClass own = some m.cls) (hts : ∀ w ∈ Ts, w.before args s = true) (hE : mE G s) (hw : mW G s M1 H locs) (hl : lv_has ls nL lv)
    (hM : MX l G y ws fr lo (.ref (gA G b) :: As) M1 M2 E) (cw : CallW R s args own CL index y bytes maxL ret ws { frames := fr, cells := 1, slots := 6, locals := lo } 1 6 na) (hbN : b < gN G) (he : gK G b (M1 b) = .inr (ci, fs)) (hc : vwCl[ci]? = some q) (hq : q.1 = CL) (hn : As.length = na) (hst : st0 = As.reverse ++ .ref (gA G b) :: rest) (hW : (rest.map fun v => v.category).sum ≤ 8) (hdg : decode cc pc = .ok (.invokevirtual index, 3)) (hf : cells + 1 ≤ R.cells ∧ slots + 6 ≤ R.slots)
    (pre : List ExceptionTableEntry) (x : ExceptionTableEntry) (suf : List ExceptionTableEntry) (hsplit : c.exceptionTable.toList = pre ++ x :: suf) (hpass : ∀ z ∈ pre, covers z pc = false ∨ (z.catchType ≠ 0 ∧ ∃ nm : String, (Cond.classLink own z.catchType nm).before args s = true ∧ va_Nc E nm s)) (hcov : covers x pc = true) (h0 : x.catchType ≠ 0)
    (hlink : (Cond.classLink own x.catchType E).before args s = true) (hcast : (Cond.castable E E).before args s = true)
    (kk : ∀ (q : Addr) (H1 : Heap) (locs1 : List Loc), mW G s M2 H1 locs1 → W p l e R s m args below meth c H1 locs1 (cells + 1) (slots + 6) Q (F0 m x.handlerPc ls [.ref q])) : W p l e R s m args below meth c H locs cells slots Q (F0 m pc ls st0) := by
  subst hq
  have hr : vx_Run p l e R s m args below meth c H locs cells slots 1 6 (F0 m pc ls st0) rest (fun _ _ _ => False) (mXC G E M2) (mA G) := vx_runV (g := F0 m pc ls st0) ⟨hx, hb, hml, hown, hts⟩ hM cw ⟨mPc_blind G _ _, va_recv hE.1 hw.1 hc (by rw [gW_at hbN, he]), fun U hU hW => ⟨rfl, hE.at hw hU hW, by rw [hU]; exact hw.1⟩⟩ rfl hn hl.1 hst (lv_room hW) hdg hf
  intro T hT X
  rcases hr T hT X with ⟨v, st₀, t, T', L, h0', X', hL, e1, e2, hF, st⟩ | ⟨q, st₀, t, T', L, E', ce, h0', X', hL, e1, e2, ⟨hE', hP, hF⟩, hce, hcv, hcl, st⟩
  · exact absurd hF (fun h => h)
  · subst hE'
    have hS := mS_call hw.2 h0' e1 hF hL
    obtain ⟨t2, a1, b1⟩ := vx_catch (H := T'.heap) (rest := rest) (ls := ls) hown pre x suf hsplit hpass hcov h0 hlink hcast (by rw [e1]; exact hce) hcv hcl (kk q T'.heap (locs ++ L) ⟨by rw [e1]; exact hP, hS⟩) T' rfl X'
    exact ⟨t2, st.trans a1, b1⟩
/-- the law calls a method of its own -/
theorem l_callS {own : String} {index na nL maxL : Nat} {y : MethodName} {bytes : ByteArray} {hh : List (Nat × Nat × Nat × Nat)} {Ts : List Cond} {As st0 : List Value} {M1 M2 : mM} {k : Int32} {lv : List (Nat × Value)}
    (hx : p.tables.exec = Jvm.exec) (hb : c.code = cc) (hml : c.maxLocals = nL) (hown : s.vm.findClass own = some m.cls) (hts : ∀ w ∈ Ts, w.before args s = true) (hE : mE G s) (hNc : lNc s) (hw : mW G s M1 H locs) (hl : lv_has ls nL lv)
    (hM : ML l G y (wy y bytes maxL (some .int) hh) As M1 M2 k) (cw : vx_CSW R s args own index y bytes maxL (some .int) hh (wy y bytes maxL (some .int) hh) { frames := 9, cells := 1, slots := 6, locals := 240 } 1 6 na) (hn : As.length = na) (hst : st0 = As.reverse ++ rest) (hW : (rest.map fun v => v.category).sum ≤ 8) (hdg : decode cc pc = .ok (.invokestatic index, 3)) (hf : cells + 1 ≤ R.cells ∧ slots + 6 ≤ R.slots)
    (kk : ∀ (H1 : Heap) (locs1 : List Loc), mW G s M2 H1 locs1 → W p l e R s m args below meth c H1 locs1 (cells + 1) (slots + 6) Q (F0 m (pc + 3) ls (.int k :: rest))) : W p l e R s m args below meth c H locs cells slots Q (F0 m pc ls st0) := by
  have hr : va_Run p l e R s m args below meth c H locs cells slots 1 6 (F0 m pc ls st0) rest (mQ G (some (.int k)) M2 As.toArray) (mA G) := vx_runSW (g := F0 m pc ls st0) ⟨hx, hb, hml, hown, hts⟩ hM cw ⟨lPc_blind G _ _, fun U hU hW => ⟨rfl, hE.at hw hU hW, lNc_mv hW hNc, by rw [hU]; exact hw.1⟩⟩ rfl hn hl.1 hst (lv_room hW) hdg hf
  intro T hT X
  obtain ⟨v, st₀, t, T', L, h0, X', hL, e1, e2, ⟨⟨ho, hP⟩, hF⟩, st⟩ := hr T hT X
  cases ho
  obtain ⟨t2, a1, b1⟩ := kk T'.heap (locs ++ L) ⟨by rw [e1]; exact hP, mS_call hw.2 h0 e1 hF hL⟩ T' rfl X'
  exact ⟨t2, st t2 a1, b1⟩
end LAWROWS
