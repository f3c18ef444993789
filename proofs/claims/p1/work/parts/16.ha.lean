noncomputable def xs_cat {α β : Type} (o : Option ((α ⊕ Nat) × xk_St)) (g : Nat → xk_St → Option β) (f : α → xk_St → Option β) : Option β := match o with
  | none => none
  | some (.inl r, u) => f r u
  | some (.inr k, u) => g k u
theorem xp_cat {α β : Type} {o : Option ((α ⊕ Nat) × xk_St)} {g : Nat → xk_St → Option β} {f : α → xk_St → Option β} {v : β} (h : xs_cat o g f = some v) : (∃ r u, o = some (.inl r, u) ∧ f r u = some v) ∨ ∃ k u, o = some (.inr k, u) ∧ g k u = some v := by
  match o, h with
  | some (.inl r, u), h => exact Or.inl ⟨r, u, rfl, h⟩
  | some (.inr k, u), h => exact Or.inr ⟨k, u, rfl, h⟩
theorem xk_tab {es : List ExceptionTableEntry} {hh : List (Nat × Nat × Nat × Nat)} (h : es.map (fun h => (h.startPc, h.endPc, h.handlerPc, h.catchType)) = hh) : es = hh.map (fun q => ⟨q.1, q.2.1, q.2.2.1, q.2.2.2⟩) := by
  rw [← h, List.map_map]
  conv => lhs; rw [← List.map_id es]
  rfl
section XHN
variable {l : Launch} {D : va_G} {cl : List vw_C} {tys : List (ClassId × FieldType)} {wd : xk_St → va_W} {ads : List Nat} {u u' : xk_St} {cc : ByteArray} {nL : Nat} {ret : Option FieldType} {y : MethodName} {rm : Room} {av : List Value} {r : Option Value ⊕ Nat} {hh : List (Nat × Nat × Nat × Nat)}
/-- a contract of a method with handlers -/
theorem xh_con (hy : plainName y.cls = true) (htr : l.stackTraces = false) (hok : xk_ok wd ads) (hn : (lg_sl av).length ≤ nL)
    (body : ∀ (p : Program) (e : Env) (s : State) (m : MethodId) (below : List Frame) (meth : Method) (c : Code) (ls : Array Slot), xk_C D cl tys wd ads y.cls cc nL ret p e s m av.toArray meth c → c.exceptionTable.toList = hh.map (fun q => ⟨q.1, q.2.1, q.2.2.1, q.2.2.2⟩) → lv_has ls nL (lv_args 0 av) → va_P D cl (wd u) s.heap →
      W p l e rm s m av.toArray below meth c s.heap [] 0 0 (MQ below (xk_Qc D cl wd ads r u') av.toArray s 1 6 (xk_A ads s.heap.size)) (F0 m 0 ls [])) :
    ∀ sz, Met l y (Cond.codeWith y cc nL ret hh :: xk_gd) rm (xk_Pc D cl tys wd ads xk_F sz av u) (xk_Qc D cl wd ads r u') 1 6 (xk_A ads sz) := by
  intro sz
  refine va_MetW (cc := cc) (maxL := nL) (ret := ret) (hh := hh) hy rfl ?_
  intro p e s m args below meth c s₁ B hml hv
  obtain ⟨rfl, hsz, hP, hK, hF⟩ := hv
  subst hsz
  have hts := atoms_spec (ws := Cond.codeWith y cc nL ret hh :: xk_gd) B.pre
  obtain ⟨m9, meth9, c9, hn9, h1, h2, -, -, he9, -⟩ := Cond.codeWith_spec (hts _ List.mem_cons_self)
  cases B.named.symm.trans hn9
  cases B.method.symm.trans h1
  cases (Stand.of_body B).code.symm.trans h2
  have hst : e.platform.stackTraces = false := by rw [(Stand.of_body B).admits.platform]; exact htr
  have hl := lv_entry av (n := nL) hn
  rw [lg_entry_eq]
  generalize (lg_sl av ++ List.replicate (nL - (lg_sl av).length) Slot.unset).toArray = ls at hl ⊢
  exact body p e s m below meth c ls ⟨⟨B.exec, B.bytes, hml, findClass_of_methodNamed B.named, fun w hw => hts w (List.mem_cons_of_mem _ hw)⟩, hK, hok, hF, hst, B.returns, B.notSynchronized, u, hP⟩ (xk_tab he9) hl hP
end XHN
section XHR
variable {p : Program} {l : Launch} {e : Env} {R : Room} {s : State} {m : MethodId} {args : Array Value} {below : List Frame} {meth : Method} {c : Code} {H : Heap} {locs : List Loc} {cells slots : Nat}
variable {pc nL : Nat} {ls : Array Slot} {D : va_G} {cl : List vw_C} {tys : List (ClassId × FieldType)} {wd : xk_St → va_W} {ads : List Nat} {u : xk_St} {own : String} {cc : ByteArray}
theorem xh_iret (C : xk_C D cl tys wd ads own cc nL (some .int) p e s m args meth c) (hP : va_P D cl (wd u) H) (hS : va_S (xk_A ads s.heap.size) s.heap H locs) (h1 : cells ≤ 1) (h2 : slots ≤ 6) {v : Int32} (hdg : decode cc pc = .ok (.ireturn, 1)) : W p l e R s m args below meth c H locs cells slots (MQ below (xk_Qc D cl wd ads (.inl (some (.int v))) u) args s 1 6 (xk_A ads s.heap.size)) (F0 m pc ls [.int v]) :=
  W.widen h1 h2 (W.iret C.1.1 C.1.2.1 C.2.2.2.2.2.1 (fun t ht _ => xr_fin C hP hS t ht) hS.2.2 hdg C.2.2.2.2.2.2.1)
/-- an entry of the table that this exception passes, and the one that takes it -/
theorem xh_pass {k a b h ct nk : Nat} (C : xk_C D cl tys wd ads own cc nL (some .int) p e s m args meth c) (hc : covers ⟨a, b, h, ct⟩ pc = true) (h0 : ct ≠ 0) (hw : Cond.classLink own ct (xk_E nk) ∈ xk_gd) (hn : va_Nc (xk_E k) (xk_E nk) s) : xk_pass s args own (xk_E k) pc ⟨a, b, h, ct⟩ := Or.inr ⟨hc, h0, xk_E nk, C.1.2.2.2.2 _ hw, hn⟩
theorem xh_skip {k a b h ct : Nat} (hc : covers ⟨a, b, h, ct⟩ pc = false) : xk_pass s args own (xk_E k) pc ⟨a, b, h, ct⟩ := Or.inl hc
end XHR
