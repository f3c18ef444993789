section XC
variable {p : Program} {l : Launch} {e : Env} {R : Room} {s : State} {m : MethodId} {args : Array Value} {below : List Frame} {meth : Method} {c : Code} {H : Heap} {locs : List Loc} {cells slots : Nat} {Q : State → Prop}
/-- a call that may throw, seen from its caller -/
def xk_Run (p : Program) (l : Launch) (e : Env) (R : Room) (s : State) (m : MethodId) (args : Array Value) (below : List Frame) (meth : Method) (c : Code) (H : Heap) (locs : List Loc) (cells slots : Nat) (g : JFrame) (rest : List Value) (Qa : State → Outcome → State → Prop) (free : Addr → Prop) : Prop :=
  ∀ T : State, T.heap = H → Stand p l e R s m args below meth c T locs cells slots → ∃ (o : Outcome) (st0 t T' : State) (L : List Loc), st0.heap = H ∧ Stand p l e R s m args below meth c T' (locs ++ L) (cells + xk_n o 0 1) (slots + xk_n o 0 6) ∧
    T'.heap = t.heap ∧ T'.vm = t.vm ∧ (∀ q ∈ L, free q.base) ∧ Qa st0 o t ∧ ∀ target, Steps p.tables e below (xk_aft T' { g with stack := rest } 3 o) target → Steps p.tables e below (T.setTop g) target
def xk_sig (y : MethodName) (s : State) (n : Nat) : Prop := ∀ (mk : MethodId) (methM : Method), s.methodNamed? y = some mk → s.vm.method? mk = some methM → methM.sig.parameters.length = n
theorem xk_runV {cc : ByteArray} {nL n index : Nat} {Ts : List Cond} {own C : String} {y : MethodName} {Pc : Array Value → State → Prop} {Qc : Array Value → State → Outcome → State → Prop} {free : Addr → Prop} {b : Addr} {As rest : List Value} {g : JFrame}
    (S : CallFix p m c cc nL s args Ts own) (hK : xk_Back l R p e below s args y 3 8 Pc Qc free) (hlink : (Cond.methodLink own index y).before args s = true) (hin : (Cond.instanceMethod y).before args s = true) (hse : (Cond.selects C y y).before args s = true) (hsig : xk_sig y s n)
    (hy : y.cls ≠ "java/lang/invoke/MethodHandle" ∧ y.cls ≠ "java/lang/invoke/VarHandle") (hp : PreV s H C b Pc As)
    (hg : g.method = m) (hn : As.length = n) (hsize : g.locals.size = nL) (hstack : g.stack = As.reverse ++ .ref b :: rest) (hW : 2 * g.monitorRoom + (rest.map fun v => v.category).sum ≤ 8) (hdg : decode cc g.pc = .ok (.invokevirtual index, 3)) (hf : cells + 1 ≤ R.cells ∧ slots + 6 ≤ R.slots) :
    xk_Run p l e R s m args below meth c H locs cells slots g rest (Qc (Value.ref b :: As).toArray) free := by
  obtain ⟨hx, hb, hml, ho, -⟩ := S
  obtain ⟨-, ⟨cellB, hcB, hoB, hclB⟩, hPc⟩ := hp
  intro T hT X
  obtain ⟨mk, methM, hnamed, hmethM, hstM, habM⟩ := Cond.instanceMethod_spec hin
  obtain ⟨c2, r2, m2, q1, q2, q3, q4, kP, hkP, hkPi⟩ := Cond.selects_spec hse
  cases hclB.symm.trans q1
  cases (State.methodFound?_of_named hnamed hy).symm.trans q2
  cases hnamed.symm.trans q3
  have hselP : selectMethod e.platform s.vm cellB.cls mk = .method mk := by rw [Launch.admits_selectMethod X.admits]; exact q4
  obtain ⟨vm₁, X₁, hstep₁⟩ := X.invokevirtual hx ho hlink hnamed hmethM hstM hkP hkPi hy (a := b) (cell := cellB) (by rw [hT]; exact hcB)
    (fun z h => by rw [h] at hoB; cases hoB) hselP hmethM habM hkP hkPi (g := g) hg (argsL := As) (rest := rest) (hn.trans (hsig mk methM hnamed hmethM).symm) hstack (by rw [hb]; exact hdg)
  obtain ⟨o, t, T', L, X', e1, e2, hL, hq, hsteps⟩ := hK m meth c (T.setVm vm₁) locs cells slots { g with stack := rest } (.invokevirtual index) mk (Value.ref b :: As).toArray X₁ hg (hsize.trans hml.symm) (by rw [hb]; exact hdg) hW (X₁.named hnamed) hf.1 hf.2 (hPc _ hT X₁.warmed)
  exact ⟨o, (T.setVm vm₁).calling { g with stack := rest } mk (Value.ref b :: As).toArray, t, T', L, hT, X', e1, e2, hL, hq, fun target h => hstep₁ _ fun acts => by rw [doInvoke_state]; exact hsteps.trans h⟩
theorem xk_runS {cc : ByteArray} {nL n index : Nat} {Ts : List Cond} {own : String} {y : MethodName} {Pc : Array Value → State → Prop} {Qc : Array Value → State → Outcome → State → Prop} {free : Addr → Prop} {As rest : List Value} {g : JFrame}
    (S : CallFix p m c cc nL s args Ts own) (hK : xk_Back l R p e below s args y 3 8 Pc Qc free) (hlink : (Cond.methodLink own index y).before args s = true) (hst : (Cond.static y).before args s = true) (hini : (Cond.initialized y.cls).before args s = true) (hna : ∃ mk methM, s.methodNamed? y = some mk ∧ s.vm.method? mk = some methM) (hsig : xk_sig y s n)
    (hy : y.cls ≠ "java/lang/invoke/MethodHandle" ∧ y.cls ≠ "java/lang/invoke/VarHandle") (hp : PreS s H Pc As)
    (hg : g.method = m) (hn : As.length = n) (hsize : g.locals.size = nL) (hstack : g.stack = As.reverse ++ rest) (hW : 2 * g.monitorRoom + (rest.map fun v => v.category).sum ≤ 8) (hdg : decode cc g.pc = .ok (.invokestatic index, 3)) (hf : cells + 1 ≤ R.cells ∧ slots + 6 ≤ R.slots) :
    xk_Run p l e R s m args below meth c H locs cells slots g rest (Qc As.toArray) free := by
  obtain ⟨hx, hb, hml, ho, -⟩ := S
  intro T hT X
  obtain ⟨mk, methM, hnamed, hmethM⟩ := hna
  have hstatic : methM.isStatic = true := Cond.static_spec hnamed hmethM hst
  obtain ⟨kP, hkP, -⟩ := className_of_methodNamed hnamed
  have hinitP : kP.init = .initialized := Cond.initialized_spec (findClass_of_methodNamed hnamed) hkP hini
  obtain ⟨vm₁, X₁, hstep₁⟩ := X.invokestatic hx ho hlink hnamed hmethM hstatic hkP hinitP hy (g := g) hg (argsL := As) (rest := rest) (hn.trans (hsig mk methM hnamed hmethM).symm) hstack (by rw [hb]; exact hdg)
  obtain ⟨o, t, T', L, X', e1, e2, hL, hq, hsteps⟩ := hK m meth c (T.setVm vm₁) locs cells slots { g with stack := rest } (.invokestatic index) mk As.toArray X₁ hg (hsize.trans hml.symm) (by rw [hb]; exact hdg) hW (X₁.named hnamed) hf.1 hf.2 (hp.2 _ hT X₁.warmed)
  exact ⟨o, (T.setVm vm₁).calling { g with stack := rest } mk As.toArray, t, T', L, hT, X', e1, e2, hL, hq, fun target h => hstep₁ _ fun acts => by rw [doInvoke_state]; exact hsteps.trans h⟩
/-- the end of a method that may throw -/
def xk_MQ (below : List Frame) (Qc : Array Value → State → Outcome → State → Prop) (a : Array Value) (s : State) (free : Addr → Prop) : State → Prop := fun t =>
  ∃ o, t.status = .running ∧ Ended t below o ∧ Qc a s o t ∧ ∃ L, xk_End s t L (xk_n o 0 1) (xk_n o 0 6) ∧ ∀ q ∈ L, free q.base
theorem xk_mono {Q1 Q2 : State → Prop} {g : JFrame} (h : ∀ t, Q1 t → Q2 t) (k : W p l e R s m args below meth c H locs cells slots Q1 g) : W p l e R s m args below meth c H locs cells slots Q2 g := by
  intro T hT X
  obtain ⟨t, a, b⟩ := k T hT X
  exact ⟨t, a, h t b⟩
theorem xk_ret {Qc : Array Value → State → Outcome → State → Prop} {free : Addr → Prop} {g : JFrame} (k : W p l e R s m args below meth c H locs cells slots (MQ below Qc args s 0 0 free) g) : W p l e R s m args below meth c H locs cells slots (xk_MQ below Qc args s free) g := by
  refine xk_mono (fun t h => ?_) k
  obtain ⟨o, h1, h2, h3, L, ⟨⟨v, rfl⟩, h4, h5⟩, h6⟩ := h
  exact ⟨_, h1, h2, h3, L, ⟨h4, h5⟩, h6⟩
end XC
section XM
variable {l : Launch}
theorem xk_ofW {y : MethodName} {ws ws' : List Cond} {rm : Room} {Pc : Array Value → State → Prop} {Qc : Array Value → State → Outcome → State → Prop} {free : Addr → Prop} {cc : ByteArray} {maxL : Nat} {ret : Option FieldType}
    (hy : plainName y.cls = true) (hw : ws = Cond.code y cc maxL ret :: ws')
    (body : ∀ p e s m args below meth c s₁, BodyLoose p l y (headSpec ws rm) cc maxL ret e s m args below meth c s₁ → c.maxLocals = maxL → c.exceptionTable.isEmpty = true → Pc args s →
      W p l e (headSpec ws rm).room s m args below meth c s.heap [] 0 0 (xk_MQ below Qc args s free) (entryFrame m args maxL)) : xk_Met l y ws rm Pc Qc free := by
  refine MetFree.of_bodyS (code := cc) (maxLocals := maxL) (ret := ret) hy ?_ ?_
  · intro args s m h hn
    obtain ⟨meth, c, h1, h2, h3, h4, h5, h6, -, -⟩ := Cond.code_spec hn (atoms_spec (ws := ws) h _ (by rw [hw]; exact List.mem_cons_self))
    exact ⟨meth, c, h1, h2, h3, h4, h5, h6⟩
  · intro p e s m args below meth c s₁ B hml hP _
    have hh0 : s₁.heap = s.heap := by rw [B.state]; rfl
    have hne : c.exceptionTable.isEmpty = true := B.noHandlers (atoms_spec (ws := ws) B.pre _ (by rw [hw]; exact List.mem_cons_self))
    obtain ⟨t, a1, o, b1, b2, b3⟩ := body p e s m args below meth c s₁ B hml hne hP s₁ hh0 (Stand.of_body B)
    exact ⟨t, o, a1, b1, b2, ⟨b3.1, b3.2⟩⟩
theorem xk_ofWH {y : MethodName} {ws ws' : List Cond} {rm : Room} {Pc : Array Value → State → Prop} {Qc : Array Value → State → Outcome → State → Prop} {free : Addr → Prop} {cc : ByteArray} {maxL : Nat} {ret : Option FieldType} {hh : List (Nat × Nat × Nat × Nat)}
    (hy : plainName y.cls = true) (hw : ws = Cond.codeWith y cc maxL ret hh :: ws')
    (body : ∀ p e s m args below meth c s₁, BodyLoose p l y (headSpec ws rm) cc maxL ret e s m args below meth c s₁ → c.maxLocals = maxL → c.exceptionTable.toList.map (fun h => (h.startPc, h.endPc, h.handlerPc, h.catchType)) = hh → Pc args s →
      W p l e (headSpec ws rm).room s m args below meth c s.heap [] 0 0 (xk_MQ below Qc args s free) (entryFrame m args maxL)) : xk_Met l y ws rm Pc Qc free := by
  refine MetFree.of_bodyS (code := cc) (maxLocals := maxL) (ret := ret) hy ?_ ?_
  · intro args s m h hn
    obtain ⟨m9, meth, c, hn9, h1, h2, h3, h4, -, h5, h6, -⟩ := Cond.codeWith_spec (atoms_spec (ws := ws) h _ (by rw [hw]; exact List.mem_cons_self))
    cases hn.symm.trans hn9
    exact ⟨meth, c, h1, h2, h3, h4, h5, h6⟩
  · intro p e s m args below meth c s₁ B hml hP _
    have hh0 : s₁.heap = s.heap := by rw [B.state]; rfl
    obtain ⟨m9, meth9, c9, hn9, h1, h2, -, -, he9, -⟩ := Cond.codeWith_spec (atoms_spec (ws := ws) B.pre _ (by rw [hw]; exact List.mem_cons_self))
    cases B.named.symm.trans hn9
    cases B.method.symm.trans h1
    cases (Stand.of_body B).code.symm.trans h2
    obtain ⟨t, a1, o, b1, b2, b3⟩ := body p e s m args below meth c s₁ B hml he9 hP s₁ hh0 (Stand.of_body B)
    exact ⟨t, o, a1, b1, b2, ⟨b3.1, b3.2⟩⟩
end XM
/-- which exception: a number for its class -/
def xk_E : Nat → String
  | 0 => "java/lang/IllegalArgumentException"
  | 1 => "java/lang/UnsupportedOperationException"
  | 2 => "java/lang/IllegalStateException"
  | _ => "java/util/NoSuchElementException"
abbrev xk_St : Type := (Nat → Int32) × (Nat → Int64) × (Nat → Nat → Int32) × (Nat → Nat → Int64)
def xk_A (ads : List Nat) (sz : Nat) : Nat → Prop := fun q => q ∈ ads ∨ sz ≤ q
/-- how a call ended: with an answer, or with an exception of a class -/
def xk_out (r : Option Value ⊕ Nat) (o : Outcome) (t : State) : Prop := match r with
  | .inl v => o = .returned v
  | .inr k => ∃ (x : Addr) (cell : Cell), o = .threw x ∧ t.heap[x]? = some cell ∧ cell.vm.isStatics = false ∧ t.vm.findClass (xk_E k) = some cell.cls
def xk_ok (wd : xk_St → va_W) (ads : List Nat) : Prop := (∀ u, (wd u).map (fun q => q.1) = ads) ∧ ads.Nodup
theorem xk_ok.D {wd : xk_St → va_W} {ads : List Nat} (h : xk_ok wd ads) {A : Nat → Prop} (hA : ∀ q ∈ ads, A q) (u : xk_St) : va_D A (wd u) := by
  refine ⟨fun i j x y hx hy e => ?_, fun k q hq => hA _ ?_⟩
  · have h1 : ads[i]? = some x.1 := by rw [← h.1 u, List.getElem?_map, hx]; rfl
    have h2 : ads[j]? = some y.1 := by rw [← h.1 u, List.getElem?_map, hy]; rfl
    rw [← e] at h2
    have hi := (List.getElem?_eq_some_iff.mp h1).1
    exact (List.getElem?_inj hi h.2).mp (h1.trans h2.symm)
  · rw [← h.1 u]
    exact List.mem_map.mpr ⟨q, List.mem_of_getElem? hq, rfl⟩
/-- a contract's start: the arguments, the world u, the classes, and what is carried of the statics (F) -/
def xk_Pc (D : va_G) (cl : List vw_C) (tys : List (ClassId × FieldType)) (wd : xk_St → va_W) (ads : List Nat) (F : (Nat → Prop) → State → Heap → Prop) (sz : Nat) (av : List Value) (u : xk_St) : Array Value → State → Prop := fun v U =>
  v = av.toArray ∧ U.heap.size = sz ∧ va_P D cl (wd u) U.heap ∧ va_K D cl tys U ∧ F (xk_A ads sz) U U.heap
/-- a contract's end: how it ended, and the world u' -/
def xk_Qc (D : va_G) (cl : List vw_C) (wd : xk_St → va_W) (ads : List Nat) (r : Option Value ⊕ Nat) (u' : xk_St) : Array Value → State → Outcome → State → Prop := fun _ st o t =>
  xk_out r o t ∧ va_P D cl (wd u') t.heap ∧ va_F (xk_A ads st.heap.size) st t
section XG
variable {p : Program} {l : Launch} {e : Env} {R : Room} {s : State} {m : MethodId} {args : Array Value} {below : List Frame} {meth : Method} {c : Code} {H : Heap} {locs : List Loc} {cells slots : Nat} {Q : State → Prop}
variable {pc : Nat} {ls : Array Slot} {rest st0 : List Value} {a : Array Value} {D : va_G} {cl : List vw_C} {wd : xk_St → va_W} {ads : List Nat} {u' : xk_St}
theorem xk_S {H1 : Heap} {L : List Loc} {st t : State} (h0 : st.heap = H) (hS : va_S (xk_A ads s.heap.size) s.heap H locs) (hF : va_F (xk_A ads st.heap.size) st t) (hL : ∀ q ∈ L, xk_A ads H.size q.base) (h1 : t.heap = H1) : va_S (xk_A ads s.heap.size) s.heap H1 (locs ++ L) := by
  obtain ⟨f1, f2⟩ := hF
  rw [h0, h1] at f1 f2
  have up : ∀ q, xk_A ads H.size q → xk_A ads s.heap.size q := fun q h => h.imp id (fun z => Nat.le_trans hS.1 z)
  refine ⟨Nat.le_trans hS.1 f1, fun q g1 g2 => ?_, fun q hq => ?_⟩
  · rw [f2 q (Nat.lt_of_lt_of_le g1 hS.1) (fun z => g2 (up q z))]
    exact hS.2.1 q g1 g2
  · rcases List.mem_append.mp hq with h | h
    · exact hS.2.2 q h
    · exact up _ (hL q h)
/-- the call returned -/
theorem xk_goes {v : Option Value} (hr : xk_Run p l e R s m args below meth c H locs cells slots (F0 m pc ls st0) rest (xk_Qc D cl wd ads (.inl v) u' a) (xk_A ads H.size)) (hS : va_S (xk_A ads s.heap.size) s.heap H locs)
    (kk : ∀ (H1 : Heap) (locs1 : List Loc), va_P D cl (wd u') H1 → va_S (xk_A ads s.heap.size) s.heap H1 locs1 → W p l e R s m args below meth c H1 locs1 cells slots Q (F0 m (pc + 3) ls (v.toList ++ rest))) : W p l e R s m args below meth c H locs cells slots Q (F0 m pc ls st0) := by
  intro T hT X
  obtain ⟨o, st1, t, T', L, h0, X', e1, e2, hL, ⟨ho, hP, hF⟩, st⟩ := hr T hT X
  have ho : o = .returned v := ho
  subst ho
  obtain ⟨t2, a1, b1⟩ := kk t.heap (locs ++ L) hP (xk_S h0 hS hF hL rfl) T' e1 X'
  exact ⟨t2, st t2 a1, b1⟩
/-- the call threw, and this method has no handler: it throws too -/
theorem xk_up {k : Nat} (hr : xk_Run p l e R s m args below meth c H locs 0 0 (F0 m pc ls st0) rest (xk_Qc D cl wd ads (.inr k) u' a) (xk_A ads H.size)) (hS : va_S (xk_A ads s.heap.size) s.heap H locs) (hne : c.exceptionTable.isEmpty = true) (hlocks : meth.locks = false) :
    W p l e R s m args below meth c H locs 0 0 (xk_MQ below (xk_Qc D cl wd ads (.inr k) u') args s (xk_A ads s.heap.size)) (F0 m pc ls st0) := by
  intro T hT X
  obtain ⟨o, st1, t, T', L, h0, X', e1, e2, hL, ⟨⟨x, cell, rfl, q1, q2, q3⟩, hP, hF⟩, st⟩ := hr T hT X
  have hS1 := xk_S h0 hS hF hL rfl
  have hout : ∀ x ∈ c.exceptionTable.toList, covers x (F0 m pc ls rest).pc = false := fun x hx => by
    have := Array.isEmpty_iff.mp hne
    rw [this] at hx; cases hx
  obtain ⟨w1, w2, w3, w4, w5⟩ := X'.leaveThrown x (g := F0 m pc ls rest) rfl rfl rfl hout hlocks
  refine ⟨_, st _ w1, .threw x, w2, w3, ⟨⟨x, cell, rfl, by show T'.heap[x]? = _; rw [e1]; exact q1, q2, by show T'.vm.findClass _ = _; rw [e2]; exact q3⟩, by show va_P D cl (wd u') T'.heap; rw [e1]; exact hP, hS1.F e1⟩, locs ++ L, ⟨w4, ?_⟩, hS1.2.2⟩
  simpa [xk_n] using w5
end XG
