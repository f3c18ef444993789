section XF
variable {e : Env} {f : JFrame} {a : Addr}
/-- the search for a handler, from the state s, ends with h, and leaves the tables vm' -/
def xk_Fn (e : Env) (s : State) (f : JFrame) (a : Addr) (es : List ExceptionTableEntry) (h : Handler) (vm' : Vm) : Prop := ∀ (Q : Handler → Pre) (E : CtlPost) (d : Bool) (acts : List Action), wp (findHandler.go f a es) Q E e d acts s ↔ Q h d acts (s.setVm vm')
/-- an entry that covers, its class cold or warm -/
theorem xk_go {s : State} {Q : Handler → Pre} {E : CtlPost} {d : Bool} {acts : List Action} {x : ExceptionTableEntry} {t : List ExceptionTableEntry} {cC : ClassId} {cell : Cell} (hx : covers x f.pc = true) (h0 : x.catchType ≠ 0) (hl : s.vm.ClassLinks e.platform f.method.cls x.catchType cC) (hcell : s.heap[a]? = some cell) (hobj : ∀ k, cell.vm ≠ .statics k) (hk : ∃ k, s.vm.classes[cell.cls]? = some k) (hc : ∃ k, s.vm.classes[cC]? = some k) :
    wp (findHandler.go f a (x :: t)) Q E e d acts s ↔ if s.vm.assignable cell.cls cC = true then Q (.found x.handlerPc) d acts (s.setVm (s.vm.noted f.method.cls x.catchType (.cls cC))) else wp (findHandler.go f a t) Q E e d acts (s.setVm (s.vm.noted f.method.cls x.catchType (.cls cC))) := by
  simp only [covers] at hx
  obtain ⟨ha, ht⟩ := (resolveClass_links e.toSetting hl).op (op := VmOp.resolveClass f.method.cls x.catchType) rfl
  have hal : s.vm.Alike (s.vm.noted f.method.cls x.catchType (.cls cC)) := (Vm.Alike.refl s.vm).noted _ _ _
  obtain ⟨k1, hk1⟩ := hk
  obtain ⟨k2, hk2⟩ := hc
  obtain ⟨k1', hk1', -⟩ := hal.2.2 _ _ hk1
  obtain ⟨k2', hk2', -⟩ := hal.2.2 _ _ hk2
  have hasg : (s.vm.noted f.method.cls x.catchType (.cls cC)).assignable cell.cls cC = s.vm.assignable cell.cls cC := by rw [hal.assignable]
  by_cases hfit : s.vm.assignable cell.cls cC = true
  · rw [hfit] at hasg
    simp [findHandler.go, hx, h0, ha, ht, hcell, hobj, hk1', hk2', hasg, hfit, VmOp.dirties, VmOp.acts]
  · have hf : s.vm.assignable cell.cls cC = false := by simpa using hfit
    rw [hf] at hasg
    simp [findHandler.go, hx, h0, ha, ht, hcell, hobj, hk1', hk2', hasg, hf, VmOp.dirties, VmOp.acts]
theorem xk_stepTo {s : State} {r : List Frame} {pc : Nat} {vm' : Vm} {meth : Method} {code : Code} (hm : s.vm.method? f.method = some meth) (hc : meth.code = some code) (hfind : xk_Fn e s f a code.exceptionTable.toList (.found pc) vm') :
    (stepThrowing e s a (.java f :: r)).Is ((s.setVm vm').setFrames (.java { f with pc := pc, stack := [.ref a] } :: r)) [] := by
  simp only [stepThrowing, searchFrame, vmDo]
  generalize hr : Sem.go _ e false [] s = res
  obtain ⟨as, rfl, ha⟩ := Sem.eq_ok_of hr (a := Handler.found pc) (s' := s.setVm vm') (acts' := []) (by simp [W.findHandler_eq hm hc, hfind _ _ _ _])
  exact ⟨rfl, ha⟩
theorem xk_caught {tb : Tables} {s target : State} {g : JFrame} {c : Code} {below : List Frame} {meth : Method} (h : At s g.method c below) (hm : s.vm.method? g.method = some meth) (hc : meth.code = some c) {pc : Nat} {vm' : Vm}
    (hfind : xk_Fn e ((s.setTop g).pushFrame (.throwing a)) g a c.exceptionTable.toList (.found pc) vm') (hrest : Steps tb e below ((s.setVm vm').setTop { g with pc := pc, stack := [.ref a] }) target) :
    Steps tb e below ((s.setTop g).pushFrame (.throwing a)) target := by
  obtain ⟨hgo, hw⟩ := h.throwing a
  refine Steps.head hgo hw ?_
  rw [stepThread_throwing (frames_entered h.top _), (xk_stepTo (s := (s.setTop g).pushFrame (.throwing a)) (meth := meth) (code := c) (by rw [Stand.throwing_vm]; exact hm) hc hfind).1]
  obtain ⟨g₀, hg⟩ := Option.isSome_iff_exists.mp h.top
  obtain ⟨r, hr⟩ := State.topJava?_eq_some.mp hg
  have hr' : (s.setVm vm').frames = .java g₀ :: r := hr
  rw [State.setTop_of_frames _ hr'] at hrest
  have key : ∀ (u : State) (F G : List Frame), ((u.setFrames F).setVm vm').setFrames G = (u.setVm vm').setFrames G := by
    intro u F G
    have h1 : (u.setFrames F).setVm vm' = (u.setVm vm').setFrames F := rfl
    rw [h1, State.setFrames_setFrames]
  rw [hr, List.tail_cons, State.pushFrame, key, State.setTop_of_frames _ hr, key]
  exact hrest
/-- an entry that this exception passes -/
def xk_pass (s : State) (args : Array Value) (own E : String) (pc : Nat) (y : ExceptionTableEntry) : Prop := covers y pc = false ∨ (covers y pc = true ∧ y.catchType ≠ 0 ∧ ∃ nm, (Cond.classLink own y.catchType nm).before args s = true ∧ va_Nc E nm s)
theorem xk_search {s : State} {args : Array Value} {own E : String} (hpl : e.platform.magicAccessors = ({} : Platform).magicAccessors) (hown : s.vm.findClass own = some f.method.cls) {cell : Cell} (hobj : cell.vm.isStatics = false) (hE : s.vm.findClass E = some cell.cls) (z : ExceptionTableEntry) (post : List ExceptionTableEntry) (hz : covers z f.pc = true) (hz0 : z.catchType ≠ 0) {nm : String} (hzl : (Cond.classLink own z.catchType nm).before args s = true) (hzc : va_Nw (.castable E nm) s) :
    ∀ (pre : List ExceptionTableEntry), (∀ y ∈ pre, xk_pass s args own E f.pc y) → ∀ (T : State), s.WarmedH T.vm → T.heap[a]? = some cell → ∃ vm', s.WarmedH vm' ∧ xk_Fn e T f a (pre ++ z :: post) (.found z.handlerPc) vm' := by
  have hst : ∀ k, cell.vm ≠ .statics k := VmData.ne_statics_of hobj
  have warm : ∀ (T : State), s.WarmedH T.vm → ∀ {i : Nat} {n : String}, (Cond.classLink own i n).before args s = true → ∃ cC, s.vm.findClass n = some cC ∧ T.vm.ClassLinks e.platform f.method.cls i cC ∧ s.WarmedH (T.vm.noted f.method.cls i (.cls cC)) ∧ (∃ k, T.vm.classes[cC]? = some k) ∧ (∃ k, T.vm.classes[cell.cls]? = some k) := by
    intro T hW i n hl
    obtain ⟨cC, hc', hcl⟩ := Cond.classLink_spec hown hl e.platform hpl
    obtain ⟨dk, _, _, kt, hd, _, _, _, _, hkt, _, hopen⟩ := hcl.here
    obtain ⟨k1, hk1⟩ := Vm.classAt_of_findClass hE
    obtain ⟨k1', hk1', -⟩ := hW.alike.2.2 _ _ hk1
    obtain ⟨k2', hk2', -⟩ := hW.alike.2.2 _ _ hkt
    exact ⟨cC, hc', hW.classLinks hcl, hW.noted hd hopen (State.rightAt_cls hcl), ⟨k2', hk2'⟩, ⟨k1', hk1'⟩⟩
  intro pre
  induction pre with
  | nil =>
    intro _ T hW hcell
    obtain ⟨cC, hc', hcl, hW', hk2, hk1⟩ := warm T hW hzl
    refine ⟨_, hW', fun Q E' d acts => ?_⟩
    obtain ⟨c3, c4, w1, w2, w3⟩ := Cond.castable_spec (va_Nw.use (A := #[]) rfl hzc)
    cases hE.symm.trans w1
    cases hc'.symm.trans w2
    rw [List.nil_append, xk_go hz hz0 hcl hcell hst hk1 hk2, if_pos (by rw [hW.alike.assignable]; exact w3)]
  | cons y ys ih =>
    intro hp T hW hcell
    rcases hp y List.mem_cons_self with h1 | ⟨h1, h2, n, h3, h4⟩
    · obtain ⟨vm', hW', hF⟩ := ih (fun q hq => hp q (List.mem_cons_of_mem _ hq)) T hW hcell
      refine ⟨vm', hW', fun Q E' d acts => ?_⟩
      rw [List.cons_append, W.findHandler_go_skip h1]
      exact hF Q E' d acts
    · obtain ⟨cC, hc', hcl, hW', hk2, hk1⟩ := warm T hW h3
      obtain ⟨vm', hW'', hF⟩ := ih (fun q hq => hp q (List.mem_cons_of_mem _ hq)) (T.setVm (T.vm.noted f.method.cls y.catchType (.cls cC))) hW' hcell
      refine ⟨vm', hW'', fun Q E' d acts => ?_⟩
      obtain ⟨c3, c4, w1, w2, w3⟩ := h4
      cases hE.symm.trans w1
      cases hc'.symm.trans w2
      rw [List.cons_append, xk_go h1 h2 hcl hcell hst hk1 hk2, if_neg (by rw [hW.alike.assignable, w3]; decide)]
      exact hF Q E' d acts
end XF
section XH
variable {p : Program} {l : Launch} {e : Env} {R : Room} {s : State} {m : MethodId} {args : Array Value} {below : List Frame} {meth : Method} {c : Code} {H : Heap} {locs : List Loc} {cells slots : Nat} {Q : State → Prop}
variable {pc : Nat} {ls : Array Slot} {rest st0 : List Value} {a : Array Value} {D : va_G} {cl : List vw_C} {wd : xk_St → va_W} {ads : List Nat} {u' : xk_St}
/-- the call threw, and a handler of this method catches it -/
theorem xk_catch {k : Nat} {own : String} (hr : xk_Run p l e R s m args below meth c H locs cells slots (F0 m pc ls st0) rest (xk_Qc D cl wd ads (.inr k) u' a) (xk_A ads H.size)) (hS : va_S (xk_A ads s.heap.size) s.heap H locs) (hown : s.vm.findClass own = some m.cls)
    (pre : List ExceptionTableEntry) (z : ExceptionTableEntry) (post : List ExceptionTableEntry) (hsp : c.exceptionTable.toList = pre ++ z :: post) (hp : ∀ y ∈ pre, xk_pass s args own (xk_E k) pc y) (hz : covers z pc = true) (hz0 : z.catchType ≠ 0) {nm : String} (hzl : (Cond.classLink own z.catchType nm).before args s = true) (hzc : va_Nw (.castable (xk_E k) nm) s)
    (kk : ∀ (x : Nat) (H1 : Heap) (locs1 : List Loc), va_P D cl (wd u') H1 → va_S (xk_A ads s.heap.size) s.heap H1 locs1 → W p l e R s m args below meth c H1 locs1 (cells + 1) (slots + 6) Q (F0 m z.handlerPc ls [.ref x])) : W p l e R s m args below meth c H locs cells slots Q (F0 m pc ls st0) := by
  intro T hT X
  obtain ⟨o, st1, t, T', L, h0, X', e1, e2, hL, ⟨⟨x, cell, rfl, q1, q2, q3⟩, hP, hF⟩, st⟩ := hr T hT X
  have hpl : e.platform.magicAccessors = ({} : Platform).magicAccessors := by rw [X.admits.platform]
  have hE : s.vm.findClass (xk_E k) = some cell.cls := by rw [← X'.warmed.alike.findClass, e2]; exact q3
  obtain ⟨vm', hW', hFn⟩ := xk_search (e := e) (f := F0 m pc ls rest) (a := x) hpl hown q2 hE z post hz hz0 hzl hzc pre hp ((T'.setTop (F0 m pc ls rest)).pushFrame (.throwing x)) (by rw [Stand.throwing_vm]; exact X'.warmed) (by rw [Stand.throwing_heap, e1]; exact q1)
  rw [← hsp] at hFn
  obtain ⟨t2, a1, b1⟩ := kk x t.heap (locs ++ L) hP (xk_S h0 hS hF hL rfl) (T'.setVm vm') e1 (X'.noted hW')
  exact ⟨t2, st t2 (xk_caught X'.here X'.method' X'.code hFn a1), b1⟩
end XH
