/-- state words: int fields, long fields, arrays of ints, arrays of longs -/
def xs_I (u : xk_St) (k : Nat) (x : Int32) : xk_St := (va_up u.1 k x, u.2)
def xs_J (u : xk_St) (k : Nat) (x : Int64) : xk_St := (u.1, va_up u.2.1 k x, u.2.2)
def xs_A (u : xk_St) (k i : Nat) (x : Int32) : xk_St := (u.1, u.2.1, va_up u.2.2.1 k (upd (u.2.2.1 k) i x), u.2.2.2)
def xs_B (u : xk_St) (k i : Nat) (x : Int64) : xk_St := (u.1, u.2.1, u.2.2.1, va_up u.2.2.2 k (vp_updL (u.2.2.2 k) i x))
def xs_AA (u : xk_St) (k : Nat) (f : Nat → Int32) : xk_St := (u.1, u.2.1, va_up u.2.2.1 k f, u.2.2.2)
def xs_BB (u : xk_St) (k : Nat) (f : Nat → Int64) : xk_St := (u.1, u.2.1, u.2.2.1, va_up u.2.2.2 k f)
abbrev xg_I (u : xk_St) (k : Nat) : Int32 := u.1 k
abbrev xg_J (u : xk_St) (k : Nat) : Int64 := u.2.1 k
abbrev xg_A (u : xk_St) (k : Nat) : Nat → Int32 := u.2.2.1 k
abbrev xg_B (u : xk_St) (k : Nat) : Nat → Int64 := u.2.2.2 k
def xs_let {α β : Type} (a : α) (f : α → β) : β := f a
def xs_seq {α β : Type} (o : Option (α × xk_St)) (f : α → xk_St → Option β) : Option β := match o with
  | none => none
  | some q => f q.1 q.2
def xs_try {α β : Type} (o : Option ((α ⊕ Nat) × xk_St)) (f : α → xk_St → Option ((β ⊕ Nat) × xk_St)) : Option ((β ⊕ Nat) × xk_St) := match o with
  | none => none
  | some (.inl r, u) => f r u
  | some (.inr k, u) => some (.inr k, u)
theorem xp_let {α β : Type} {a : α} {f : α → Option β} {v : β} (h : xs_let a f = some v) : ∃ x, x = a ∧ f x = some v := ⟨a, rfl, h⟩
theorem xp_t {α : Type} {c : Prop} {i : Decidable c} {a b : Option α} {v : α} (hc : c) (h : @ite _ c i a b = some v) : a = some v := by rw [if_pos hc] at h; exact h
theorem xp_f {α : Type} {c : Prop} {i : Decidable c} {a b : Option α} {v : α} (hc : ¬ c) (h : @ite _ c i a b = some v) : b = some v := by rw [if_neg hc] at h; exact h
theorem xp_g {α : Type} {c : Prop} {i : Decidable c} {b : Option α} {v : α} (h : @ite _ c i none b = some v) : ¬ c ∧ b = some v := by
  by_cases hc : c
  · rw [if_pos hc] at h; cases h
  · rw [if_neg hc] at h; exact ⟨hc, h⟩
theorem xp_p {α : Type} {c : Prop} {i : Decidable c} {b : Option α} {v : α} (h : @ite _ c i b none = some v) : c ∧ b = some v := by
  by_cases hc : c
  · rw [if_pos hc] at h; exact ⟨hc, h⟩
  · rw [if_neg hc] at h; cases h
theorem xp_seq {α β : Type} {o : Option (α × xk_St)} {f : α → xk_St → Option β} {v : β} (h : xs_seq o f = some v) : ∃ r u, o = some (r, u) ∧ f r u = some v := by
  cases o with
  | none => cases h
  | some q => exact ⟨q.1, q.2, rfl, h⟩
theorem xp_try {α β : Type} {o : Option ((α ⊕ Nat) × xk_St)} {f : α → xk_St → Option ((β ⊕ Nat) × xk_St)} {v : (β ⊕ Nat) × xk_St} (h : xs_try o f = some v) : (∃ r u, o = some (.inl r, u) ∧ f r u = some v) ∨ ∃ k u, o = some (.inr k, u) ∧ v = (.inr k, u) := by
  match o, h with
  | some (.inl r, u), h => exact Or.inl ⟨r, u, rfl, h⟩
  | some (.inr k, u), h => exact Or.inr ⟨k, u, rfl, (Option.some.inj h).symm⟩
/-- a method's result as a call's end -/
def xo_i (r : Int32 ⊕ Nat) : Option Value ⊕ Nat := match r with
  | .inl x => .inl (some (.int x))
  | .inr k => .inr k
def xo_l (r : Int64 ⊕ Nat) : Option Value ⊕ Nat := match r with
  | .inl x => .inl (some (.long x))
  | .inr k => .inr k
def xo_v (r : Unit ⊕ Nat) : Option Value ⊕ Nat := match r with
  | .inl _ => .inl none
  | .inr k => .inr k
theorem xk_pay {args : Array Value} {s : State} (hts : ∀ w ∈ xk_gd, w.before args s = true) : ∀ w ∈ xk_gd, ∀ (a' : Array Value) (U : State), s.WarmedH U.vm → w.before a' U = true := fun w hw _ _ hW => word_at hW (good_of_word (List.mem_filter.mp hw).2) (hts w hw)
theorem xk_in {w : Cond} (h : w ∈ lw_tbl) (g : goodWord w = true) : w ∈ xk_gd := List.mem_filter.mpr ⟨h, g⟩
theorem xk_it {w : Cond} (i : Nat) (h : tables_1[i]? = some w) (g : goodWord w = true) : w ∈ xk_gd := xk_in (List.mem_append_right _ (List.mem_of_getElem? h)) g
theorem xk_ip {w : Cond} (i : Nat) (h : (k2_sels lw_privs)[i]? = some w) (g : goodWord w = true) : w ∈ xk_gd := xk_in (List.mem_append_left _ (List.mem_of_getElem? h)) g
theorem xk_c1 {w : Cond} (i : Nat) (h : tables_1_1[i]? = some w) (g : goodWord w = true) : w ∈ xk_gd := xk_in (List.mem_append_right _ (xm_1 i h)) g
theorem xk_c2 {w : Cond} (i : Nat) (h : tables_1_2[i]? = some w) (g : goodWord w = true) : w ∈ xk_gd := xk_in (List.mem_append_right _ (xm_2 i h)) g
theorem xk_c3 {w : Cond} (i : Nat) (h : tables_1_3[i]? = some w) (g : goodWord w = true) : w ∈ xk_gd := xk_in (List.mem_append_right _ (xm_3 i h)) g
theorem xk_c4 {w : Cond} (i : Nat) (h : tables_1_4[i]? = some w) (g : goodWord w = true) : w ∈ xk_gd := xk_in (List.mem_append_right _ (xm_4 i h)) g
theorem xk_c5 {w : Cond} (i : Nat) (h : tables_1_5[i]? = some w) (g : goodWord w = true) : w ∈ xk_gd := xk_in (List.mem_append_right _ (xm_5 i h)) g
theorem xk_c6 {w : Cond} (i : Nat) (h : tables_1_6[i]? = some w) (g : goodWord w = true) : w ∈ xk_gd := xk_in (List.mem_append_right _ (xm_6 i h)) g
theorem xk_c7 {w : Cond} (i : Nat) (h : tables_1_7[i]? = some w) (g : goodWord w = true) : w ∈ xk_gd := xk_in (List.mem_append_right _ (xm_7 i h)) g
theorem xk_c8 {w : Cond} (i : Nat) (h : tables_1_8[i]? = some w) (g : goodWord w = true) : w ∈ xk_gd := xk_in (List.mem_append_right _ (xm_8 i h)) g
theorem xk_c9 {w : Cond} (i : Nat) (h : tables_1_9[i]? = some w) (g : goodWord w = true) : w ∈ xk_gd := xk_in (List.mem_append_right _ (xm_9 i h)) g
theorem xk_c10 {w : Cond} (i : Nat) (h : tables_1_10[i]? = some w) (g : goodWord w = true) : w ∈ xk_gd := xk_in (List.mem_append_right _ (xm_10 i h)) g
theorem xk_c11 {w : Cond} (i : Nat) (h : tables_1_11[i]? = some w) (g : goodWord w = true) : w ∈ xk_gd := xk_in (List.mem_append_right _ (xm_11 i h)) g
/-- what stands at a method's entry -/
def xk_C (D : va_G) (cl : List vw_C) (tys : List (ClassId × FieldType)) (wd : xk_St → va_W) (ads : List Nat) (own : String) (cc : ByteArray) (nL : Nat) (ret : Option FieldType) (p : Program) (e : Env) (s : State) (m : MethodId) (args : Array Value) (meth : Method) (c : Code) : Prop :=
  CallFix p m c cc nL s args xk_gd own ∧ va_K D cl tys s ∧ xk_ok wd ads ∧ xk_F (xk_A ads s.heap.size) s s.heap ∧ e.platform.stackTraces = false ∧ meth.sig.returnType = ret ∧ meth.locks = false ∧ ∃ u0, va_P D cl (wd u0) s.heap
/-- the words that a call of an instance method needs -/
def xk_wV (own : String) (index : Nat) (y : MethodName) (bytes : ByteArray) (maxL : Nat) (ret : Option FieldType) (n : Nat) : Prop :=
  Cond.methodLink own index y ∈ xk_gd ∧ Cond.instanceMethod y ∈ xk_gd ∧ Cond.selects y.cls y y ∈ xk_gd ∧ Cond.code y bytes maxL ret ∈ xk_gd ∧ Cond.initialized y.cls ∈ xk_gd ∧ (y.cls ≠ "java/lang/invoke/MethodHandle" ∧ y.cls ≠ "java/lang/invoke/VarHandle") ∧ (parseMethodDescriptor y.desc).map (fun d => d.parameters.length) = some n
def xk_wS (own : String) (index : Nat) (y : MethodName) (bytes : ByteArray) (maxL : Nat) (ret : Option FieldType) (n : Nat) : Prop :=
  Cond.methodLink own index y ∈ xk_gd ∧ Cond.static y ∈ xk_gd ∧ Cond.code y bytes maxL ret ∈ xk_gd ∧ Cond.initialized y.cls ∈ xk_gd ∧ (y.cls ≠ "java/lang/invoke/MethodHandle" ∧ y.cls ≠ "java/lang/invoke/VarHandle") ∧ (parseMethodDescriptor y.desc).map (fun d => d.parameters.length) = some n
theorem xk_sigOf {args : Array Value} {s : State} {y : MethodName} {bytes : ByteArray} {maxL n : Nat} {ret : Option FieldType} (h : (Cond.code y bytes maxL ret).before args s = true) (hd : (parseMethodDescriptor y.desc).map (fun d => d.parameters.length) = some n) : xk_sig y s n := by
  intro mk methM hn hm
  obtain ⟨meth', c', h1, -, -, -, -, -, -, hsig⟩ := Cond.code_spec hn h
  cases hm.symm.trans h1
  rw [hsig] at hd
  exact Option.some.inj hd
theorem xk_blind {D : va_G} {cl : List vw_C} {tys : List (ClassId × FieldType)} {wd : xk_St → va_W} {ads : List Nat} {sz : Nat} {av : List Value} {u : xk_St} : FrameBlind (xk_Pc D cl tys wd ads xk_F sz av u) := by
  intro a U g mk ⟨h1, h2, h3, h4, h5⟩
  exact ⟨h1, h2, h3, va_K.moved (u := U) (U := U.calling g mk a) (Vm.Alike.refl U.vm) h4, h5.same rfl⟩
section XR
variable {p : Program} {l : Launch} {e : Env} {R : Room} {s : State} {m : MethodId} {args : Array Value} {below : List Frame} {meth : Method} {c : Code} {H : Heap} {locs : List Loc} {cells slots : Nat} {Q : State → Prop}
variable {pc nL : Nat} {ls : Array Slot} {rest st0 : List Value} {D : va_G} {cl : List vw_C} {tys : List (ClassId × FieldType)} {wd : xk_St → va_W} {ads : List Nat} {u u' : xk_St} {own : String} {cc : ByteArray} {ret : Option FieldType}
theorem xr_fin (C : xk_C D cl tys wd ads own cc nL ret p e s m args meth c) (hP : va_P D cl (wd u) H) (hS : va_S (xk_A ads s.heap.size) s.heap H locs) {v : Option Value} (t : State) (ht : t.heap = H) : xk_Qc D cl wd ads (.inl v) u args s (.returned v) t := ⟨rfl, by rw [ht]; exact hP, hS.F ht⟩
theorem xr_iret (C : xk_C D cl tys wd ads own cc nL (some .int) p e s m args meth c) (hP : va_P D cl (wd u) H) (hS : va_S (xk_A ads s.heap.size) s.heap H locs) {v : Int32} (hdg : decode cc pc = .ok (.ireturn, 1)) : W p l e R s m args below meth c H locs 0 0 (xk_MQ below (xk_Qc D cl wd ads (.inl (some (.int v))) u) args s (xk_A ads s.heap.size)) (F0 m pc ls [.int v]) :=
  xk_ret (W.iret C.1.1 C.1.2.1 C.2.2.2.2.2.1 (fun t ht _ => xr_fin C hP hS t ht) hS.2.2 hdg C.2.2.2.2.2.2.1)
theorem xr_zret (C : xk_C D cl tys wd ads own cc nL (some .boolean) p e s m args meth c) (hP : va_P D cl (wd u) H) (hS : va_S (xk_A ads s.heap.size) s.heap H locs) {v : Int32} (hv : v = 0 ∨ v = 1) (hdg : decode cc pc = .ok (.ireturn, 1)) : W p l e R s m args below meth c H locs 0 0 (xk_MQ below (xk_Qc D cl wd ads (.inl (some (.int v))) u) args s (xk_A ads s.heap.size)) (F0 m pc ls [.int v]) :=
  xk_ret (W.zret C.1.1 C.1.2.1 C.2.2.2.2.2.1 (by rcases hv with rfl | rfl <;> rfl) (fun t ht _ => xr_fin C hP hS t ht) hS.2.2 hdg C.2.2.2.2.2.2.1)
theorem xr_lret (C : xk_C D cl tys wd ads own cc nL (some .long) p e s m args meth c) (hP : va_P D cl (wd u) H) (hS : va_S (xk_A ads s.heap.size) s.heap H locs) {v : Int64} (hdg : decode cc pc = .ok (.lreturn, 1)) : W p l e R s m args below meth c H locs 0 0 (xk_MQ below (xk_Qc D cl wd ads (.inl (some (.long v))) u) args s (xk_A ads s.heap.size)) (F0 m pc ls [.long v]) :=
  xk_ret (W.lret C.1.1 C.1.2.1 C.2.2.2.2.2.1 (fun t ht _ => xr_fin C hP hS t ht) hS.2.2 hdg C.2.2.2.2.2.2.1)
theorem xr_vret (C : xk_C D cl tys wd ads own cc nL none p e s m args meth c) (hP : va_P D cl (wd u) H) (hS : va_S (xk_A ads s.heap.size) s.heap H locs) (hdg : decode cc pc = .ok (.return_, 1)) : W p l e R s m args below meth c H locs 0 0 (xk_MQ below (xk_Qc D cl wd ads (.inl none) u) args s (xk_A ads s.heap.size)) (F0 m pc ls []) :=
  xk_ret (W.vret C.1.1 C.1.2.1 C.2.2.2.2.2.1 (fun t ht _ => xr_fin C hP hS t ht) hS.2.2 hdg C.2.2.2.2.2.2.1)
theorem xr_nami {x y : Int32} (e1 : y = x) (k : W p l e R s m args below meth c H locs cells slots Q (F0 m pc ls (.int y :: rest))) : W p l e R s m args below meth c H locs cells slots Q (F0 m pc ls (.int x :: rest)) := e1 ▸ k
theorem xr_naml {x y : Int64} (e1 : y = x) (k : W p l e R s m args below meth c H locs cells slots Q (F0 m pc ls (.long y :: rest))) : W p l e R s m args below meth c H locs cells slots Q (F0 m pc ls (.long x :: rest)) := e1 ▸ k
/-- what a callee finds at its start -/
theorem xr_start (C : xk_C D cl tys wd ads own cc nL ret p e s m args meth c) (hP : va_P D cl (wd u) H) (hS : va_S (xk_A ads s.heap.size) s.heap H locs) (av : List Value) (U : State) (hU : U.heap = H) (hW : s.WarmedH U.vm) : xk_Pc D cl tys wd ads xk_F H.size av u av.toArray U :=
  ⟨rfl, by rw [hU], by rw [hU]; exact hP, va_K.moved hW.alike C.2.1, by rw [hU]; exact xk_F.go C.2.2.2.1 hW hS.2.1 (fun q h2 => h2.imp id (fun z => Nat.le_trans hS.1 z))⟩
theorem xr_back {y : MethodName} {bytes : ByteArray} {maxL : Nat} {rt : Option FieldType} {rm : Room} {av : List Value} {r : Option Value ⊕ Nat} (C : xk_C D cl tys wd ads own cc nL ret p e s m args meth c)
    (hC : ∀ sz, xk_Met l y (Cond.code y bytes maxL rt :: xk_gd) rm (xk_Pc D cl tys wd ads xk_F sz av u) (xk_Qc D cl wd ads r u') (xk_A ads sz)) (hcd : Cond.code y bytes maxL rt ∈ xk_gd) (hin : Cond.initialized y.cls ∈ xk_gd)
    (hR : rm.cells = 1 ∧ rm.slots = 6 ∧ rm.frames + 1 ≤ R.frames ∧ 8 + (maxL + 11) + rm.locals ≤ R.locals) : xk_Back l R p e below s args y 3 8 (xk_Pc D cl tys wd ads xk_F H.size av u) (xk_Qc D cl wd ads r u') (xk_A ads H.size) := by
  have hts := C.1.2.2.2.2
  refine xk_back (maxL := maxL) (hC H.size) xk_blind hR.1 hR.2.1 hR.2.2.1 hR.2.2.2 (fun w hw a' U hW => ?_) (fun U mk hW hn => ?_) (fun a' U hW => xk_pay hts _ hin a' U hW)
  · rcases List.mem_cons.mp hw with rfl | hw
    · exact xk_pay hts _ hcd a' U hW
    · exact xk_pay hts w hw a' U hW
  · obtain ⟨meth, c, h1, h2, -, h4, -⟩ := Cond.code_spec hn (xk_pay hts _ hcd #[] U hW)
    exact ⟨meth, c, h1, h2, h4⟩
/-- a call of an instance method -/
theorem xr_V {y : MethodName} {bytes : ByteArray} {maxL n index : Nat} {rt : Option FieldType} {rm : Room} {b : Nat} {As : List Value} {r : Option Value ⊕ Nat} {T : u_T} {N : Nat} {fs : List Value} (C : xk_C D cl tys wd ads own cc nL ret p e s m args meth c) (hP : va_P D cl (wd u) H) (hS : va_S (xk_A ads s.heap.size) s.heap H locs)
    (hC : ∀ sz, xk_Met l y (Cond.code y bytes maxL rt :: xk_gd) rm (xk_Pc D cl tys wd ads xk_F sz (.ref b :: As) u) (xk_Qc D cl wd ads r u') (xk_A ads sz)) (hw : xk_wV own index y bytes maxL rt n) (q0 ci : Nat) (he : (wd u)[q0]? = some (b, .inr (ci, fs))) (hc : cl[ci]? = some (y.cls, T, N))
    (hR : rm.cells = 1 ∧ rm.slots = 6 ∧ rm.frames + 1 ≤ R.frames ∧ 8 + (maxL + 11) + rm.locals ≤ R.locals) (hf : cells + 1 ≤ R.cells ∧ slots + 6 ≤ R.slots) (hl : ls.size = nL) (hst : st0 = As.reverse ++ .ref b :: rest) (hn : As.length = n) (hr8 : (rest.map fun v => v.category).sum ≤ 8) (hdg : decode cc pc = .ok (.invokevirtual index, 3)) :
    xk_Run p l e R s m args below meth c H locs cells slots (F0 m pc ls st0) rest (xk_Qc D cl wd ads r u' (Value.ref b :: As).toArray) (xk_A ads H.size) := by
  have hts := C.1.2.2.2.2
  obtain ⟨w1, w2, w3, w4, w5, w6, w7⟩ := hw
  exact xk_runV C.1 (xr_back C hC w4 w5 hR) (hts _ w1) (hts _ w2) (hts _ w3) (xk_sigOf (hts _ w4) w7) w6 ⟨xk_blind, va_recv C.2.1 hP hc he, fun U hU hW => xr_start C hP hS _ U hU hW⟩ rfl hn hl hst (lv_room hr8) hdg hf
/-- a call of a static method -/
theorem xr_S {y : MethodName} {bytes : ByteArray} {maxL n index : Nat} {rt : Option FieldType} {rm : Room} {As : List Value} {r : Option Value ⊕ Nat} (C : xk_C D cl tys wd ads own cc nL ret p e s m args meth c) (hP : va_P D cl (wd u) H) (hS : va_S (xk_A ads s.heap.size) s.heap H locs)
    (hC : ∀ sz, xk_Met l y (Cond.code y bytes maxL rt :: xk_gd) rm (xk_Pc D cl tys wd ads xk_F sz As u) (xk_Qc D cl wd ads r u') (xk_A ads sz)) (hw : xk_wS own index y bytes maxL rt n)
    (hR : rm.cells = 1 ∧ rm.slots = 6 ∧ rm.frames + 1 ≤ R.frames ∧ 8 + (maxL + 11) + rm.locals ≤ R.locals) (hf : cells + 1 ≤ R.cells ∧ slots + 6 ≤ R.slots) (hl : ls.size = nL) (hst : st0 = As.reverse ++ rest) (hn : As.length = n) (hr8 : (rest.map fun v => v.category).sum ≤ 8) (hdg : decode cc pc = .ok (.invokestatic index, 3)) :
    xk_Run p l e R s m args below meth c H locs cells slots (F0 m pc ls st0) rest (xk_Qc D cl wd ads r u' As.toArray) (xk_A ads H.size) := by
  have hts := C.1.2.2.2.2
  obtain ⟨w1, w2, w4, w5, w6, w7⟩ := hw
  refine xk_runS C.1 (xr_back C hC w4 w5 hR) (hts _ w1) (hts _ w2) (hts _ w5) ?_ (xk_sigOf (hts _ w4) w7) w6 ⟨xk_blind, fun U hU hW => xr_start C hP hS _ U hU hW⟩ rfl hn hl hst (lv_room hr8) hdg hf
  obtain ⟨mk, hnm⟩ := Cond.code_named (hts _ w4)
  obtain ⟨meth', c', h1, -⟩ := Cond.code_spec hnm (hts _ w4)
  exact ⟨mk, meth', hnm, h1⟩
/-- the words that a throw needs -/
def xk_wT (own : String) (i ic k : Nat) : Prop := Cond.classLink own i (xk_E k) ∈ xk_gd ∧ Cond.instantiable (xk_E k) 6 ∈ xk_gd ∧ Cond.initialized (xk_E k) ∈ xk_gd ∧ Bundle.fit (xk_E k) = true ∧ ∀ a ∈ Bundle.ownAtoms0 own ic (xk_E k) ["java/lang/RuntimeException", "java/lang/Exception"], a ∈ xk_gd ∨ (a ∈ lw_tbl ∧ xk_dc a = true) ∨ xk_st a = true
theorem xk_stOf {A : Nat → Prop} {w : Cond} (hF : xk_F A s s.heap) (h : xk_st w = true) : w.before args s = true := by
  simp only [xk_st, Bool.or_eq_true, beq_iff_eq] at h
  rcases h with ((rfl | rfl) | rfl) | rfl
  · exact hF.2.1.lays
  · exact hF.2.2.1.lays
  · exact hF.2.1.isRef
  · exact hF.2.2.1.isRef
theorem xk_dcOf {A : Nat → Prop} {w : Cond} (hF : xk_F A s s.heap) (hm : w ∈ lw_tbl) (h : xk_dc w = true) : w.before args s = true := by
  have h1 := hF.1 w hm h
  cases w <;> first | (simp [xk_dc] at h; done) | exact va_Nw.use rfl h1
set_option maxHeartbeats 1000000 in
/-- throw new E() -/
theorem xr_throw {i ic k : Nat} (C : xk_C D cl tys wd ads own cc nL ret p e s m args meth c) (hP : va_P D cl (wd u) H) (hS : va_S (xk_A ads s.heap.size) s.heap H locs) (hne : c.exceptionTable.isEmpty = true) (hw : xk_wT own i ic k) (hl : ls.size = nL)
    (hR : 1 ≤ R.cells ∧ 6 ≤ R.slots ∧ 5 < R.frames ∧ (rest.map fun v => v.category).sum + 90 ≤ R.locals)
    (d0 : decode cc pc = .ok (.new i, 3)) (d1 : decode cc (pc + 3) = .ok (.dup, 1)) (d2 : decode cc (pc + 4) = .ok (.invokespecial ic, 3)) (d3 : decode cc (pc + 7) = .ok (.athrow, 1)) :
    W p l e R s m args below meth c H locs 0 0 (xk_MQ below (xk_Qc D cl wd ads (.inr k) u) args s (xk_A ads s.heap.size)) (F0 m pc ls rest) := by
  obtain ⟨⟨hx, hb, hml, hown, hts⟩, hK, hok, hF, htr, hret, hlocks, u0, hP0⟩ := C
  obtain ⟨w1, w2, w3, w4, w5⟩ := hw
  have hat : ∀ a ∈ Bundle.ownAtoms0 own ic (xk_E k) ["java/lang/RuntimeException", "java/lang/Exception"], a.before args s = true := fun a ha => by
    rcases w5 a ha with h | ⟨h, h'⟩ | h
    · exact hts a h
    · exact xk_dcOf hF h h'
    · exact xk_stOf hF h
  have hlocs : ∀ x ∈ locs, ∀ cell, s.heap[x.base]? = some cell → cell.vm.isStatics = false := fun x hx cell hc => by
    rcases hS.2.2 x hx with h | h
    · rw [← hok.1 u0] at h
      obtain ⟨q, hq, e1⟩ := List.mem_map.mp h
      obtain ⟨k, hk⟩ := List.getElem?_of_mem hq
      have h2 := hP0 k q hk
      unfold va_at at h2
      split at h2
      · rename_i z hz
        rw [e1, hc] at h2
        cases h2
        unfold vp_cell
        split <;> rfl
      · rename_i z hz
        obtain ⟨z1, z2, cell2, z3, z4, z5, z6⟩ := h2
        rw [e1, hc] at z3
        cases z3
        rw [z5]; rfl
    · exact absurd (Array.getElem?_eq_some_iff.mp hc).1 (Nat.not_lt.mpr h)
  refine W.newc hx hb hown (hts _ w1) (hts _ w2) (hts _ w3) rfl d0 (by omega) (by omega) (fun cC kC h1 h2 h3 h4 => ?_)
  refine W.eq (g2 := F0 m (pc + 3) ls (.ref H.size :: rest)) rfl ?_
  refine lv_dup hx hb d1 rfl ?_
  intro T hT X
  have hcell : T.heap[H.size]? = some (freshCell cC kC) := by rw [hT]; simp
  obtain ⟨vm', cell', k1, k2, X', st⟩ := xk_ctor X hx htr hown w4 (by decide) hat hlocs h1 h2 hcell hS.1 (g := F0 m (pc + 3 + 1) ls (.ref H.size :: .ref H.size :: rest)) rfl (by rw [hml]; exact hl) (rest := rest) rfl (by rw [hb]; exact d2) (by show 2 + 3 < _; omega) (by have h9 := hR.2.2.2; simp only [List.map_cons, List.sum_cons, List.length_cons, List.length_nil]; show 2 * 0 + (1 + (rest.map fun v => v.category).sum) + _ ≤ _; omega)
  have hout : ∀ x ∈ c.exceptionTable.toList, covers x (pc + 3 + 1 + 3) = false := fun x hx => by
    have := Array.isEmpty_iff.mp hne
    rw [this] at hx; cases hx
  obtain ⟨z1, z2, z3, z4, z5⟩ := X'.athrowLeaves hx (g := { (F0 m (pc + 3 + 1) ls (.ref H.size :: .ref H.size :: rest)) with stack := .ref H.size :: rest, pc := pc + 3 + 1 + 3 }) rfl rfl rfl hout (a := H.size) (rest := rest) rfl (by rw [hb]; exact d3) hlocks
  have hhp : ((T.setVm vm').setCell H.size cell').heap = (H.push (freshCell cC kC)).setIfInBounds H.size cell' := by rw [← hT]; rfl
  have hold : ∀ q : Nat, q < H.size → ((H.push (freshCell cC kC)).setIfInBounds H.size cell')[q]? = H[q]? := fun q hq => by
    rw [Array.getElem?_setIfInBounds, if_neg (by omega), Array.getElem?_push, if_neg (by omega)]
  refine ⟨_, st _ z1, .threw H.size, z2, z3, ⟨⟨H.size, cell', rfl, ?_, by rw [k2]; rfl, ?_⟩, ?_, ?_, ?_⟩, locs, ⟨z4, ?_⟩, hS.2.2⟩
  · show ((T.setVm vm').setCell H.size cell').heap[H.size]? = some cell'
    rw [hhp]; simp
  · show vm'.findClass (xk_E k) = some cell'.cls
    have hwm : s.WarmedH vm' := X'.warmed
    rw [k1, hwm.alike.findClass]; exact h1
  · show va_P D cl (wd u) ((T.setVm vm').setCell H.size cell').heap
    rw [hhp]
    exact hP.kept (fun k x hx => hold x.1 ((hP k x hx).lt))
  · show s.heap.size ≤ ((T.setVm vm').setCell H.size cell').heap.size
    rw [hhp]; simp; exact Nat.le_trans hS.1 (Nat.le_succ _)
  · intro q g1 g2
    show ((T.setVm vm').setCell H.size cell').heap[q]? = s.heap[q]?
    rw [hhp, hold q (Nat.lt_of_lt_of_le g1 hS.1)]
    exact hS.2.1 q g1 g2
  · simpa [xk_n] using z5
end XR
section XN
variable {l : Launch} {D : va_G} {cl : List vw_C} {tys : List (ClassId × FieldType)} {wd : xk_St → va_W} {ads : List Nat} {u u' : xk_St} {cc : ByteArray} {nL : Nat} {ret : Option FieldType} {y : MethodName} {rm : Room} {av : List Value} {r : Option Value ⊕ Nat}
/-- a contract out of a walk from the first instruction -/
theorem xk_con (hy : plainName y.cls = true) (htr : l.stackTraces = false) (hok : xk_ok wd ads) (hn : (lg_sl av).length ≤ nL)
    (body : ∀ (p : Program) (e : Env) (s : State) (m : MethodId) (below : List Frame) (meth : Method) (c : Code) (ls : Array Slot), xk_C D cl tys wd ads y.cls cc nL ret p e s m av.toArray meth c → c.exceptionTable.isEmpty = true → lv_has ls nL (lv_args 0 av) → va_P D cl (wd u) s.heap →
      W p l e rm s m av.toArray below meth c s.heap [] 0 0 (xk_MQ below (xk_Qc D cl wd ads r u') av.toArray s (xk_A ads s.heap.size)) (F0 m 0 ls [])) :
    ∀ sz, xk_Met l y (Cond.code y cc nL ret :: xk_gd) rm (xk_Pc D cl tys wd ads xk_F sz av u) (xk_Qc D cl wd ads r u') (xk_A ads sz) := by
  intro sz
  refine xk_ofW (cc := cc) (maxL := nL) (ret := ret) hy rfl ?_
  intro p e s m args below meth c s₁ B hml hne hv
  obtain ⟨rfl, hsz, hP, hK, hF⟩ := hv
  subst hsz
  have hts := atoms_spec (ws := Cond.code y cc nL ret :: xk_gd) B.pre
  have hst : e.platform.stackTraces = false := by rw [(Stand.of_body B).admits.platform]; exact htr
  have hl := lv_entry av (n := nL) hn
  rw [lg_entry_eq]
  generalize (lg_sl av ++ List.replicate (nL - (lg_sl av).length) Slot.unset).toArray = ls at hl ⊢
  exact body p e s m below meth c ls ⟨⟨B.exec, B.bytes, hml, findClass_of_methodNamed B.named, fun w hw => hts w (List.mem_cons_of_mem _ hw)⟩, hK, hok, hF, hst, B.returns, B.notSynchronized, u, hP⟩ hne hl hP
end XN
section XW
variable {p : Program} {l : Launch} {e : Env} {R : Room} {s : State} {m : MethodId} {args : Array Value} {below : List Frame} {meth : Method} {c : Code} {H : Heap} {locs : List Loc} {cells slots : Nat} {Q : State → Prop}
variable {pc : Nat} {ls : Array Slot} {rest st0 : List Value} {a : Array Value} {D : va_G} {cl : List vw_C} {wd : xk_St → va_W} {ads : List Nat} {u' : xk_St} {cc : ByteArray}
theorem xk_goesI {v : Int32} (hr : xk_Run p l e R s m args below meth c H locs cells slots (F0 m pc ls st0) rest (xk_Qc D cl wd ads (.inl (some (.int v))) u' a) (xk_A ads H.size)) (hS : va_S (xk_A ads s.heap.size) s.heap H locs)
    (kk : ∀ (H1 : Heap) (locs1 : List Loc), va_P D cl (wd u') H1 → va_S (xk_A ads s.heap.size) s.heap H1 locs1 → W p l e R s m args below meth c H1 locs1 cells slots Q (F0 m (pc + 3) ls (.int v :: rest))) : W p l e R s m args below meth c H locs cells slots Q (F0 m pc ls st0) := xk_goes hr hS kk
theorem xk_goesL {v : Int64} (hr : xk_Run p l e R s m args below meth c H locs cells slots (F0 m pc ls st0) rest (xk_Qc D cl wd ads (.inl (some (.long v))) u' a) (xk_A ads H.size)) (hS : va_S (xk_A ads s.heap.size) s.heap H locs)
    (kk : ∀ (H1 : Heap) (locs1 : List Loc), va_P D cl (wd u') H1 → va_S (xk_A ads s.heap.size) s.heap H1 locs1 → W p l e R s m args below meth c H1 locs1 cells slots Q (F0 m (pc + 3) ls (.long v :: rest))) : W p l e R s m args below meth c H locs cells slots Q (F0 m pc ls st0) := xk_goes hr hS kk
theorem xk_goesV (hr : xk_Run p l e R s m args below meth c H locs cells slots (F0 m pc ls st0) rest (xk_Qc D cl wd ads (.inl none) u' a) (xk_A ads H.size)) (hS : va_S (xk_A ads s.heap.size) s.heap H locs)
    (kk : ∀ (H1 : Heap) (locs1 : List Loc), va_P D cl (wd u') H1 → va_S (xk_A ads s.heap.size) s.heap H1 locs1 → W p l e R s m args below meth c H1 locs1 cells slots Q (F0 m (pc + 3) ls rest)) : W p l e R s m args below meth c H locs cells slots Q (F0 m pc ls st0) := xk_goes hr hS kk
/-- lcmp and the branch behind it -/
theorem xr_lc_eq (hx : p.tables.exec = Jvm.exec) (hb : c.code = cc) {x y : Int64} {off : Int} {tgt : Nat} (d0 : decode cc pc = .ok (.lcmp, 1)) (d1 : decode cc (pc + 1) = .ok (.ifCond .eq off, 3)) (ht : ((pc + 1 : Nat) : Int) + off = (tgt : Int)) (kt : x = y → W p l e R s m args below meth c H locs cells slots Q (F0 m tgt ls rest)) (kf : ¬ x = y → W p l e R s m args below meth c H locs cells slots Q (F0 m (pc + 4) ls rest)) : W p l e R s m args below meth c H locs cells slots Q (F0 m pc ls (.long y :: .long x :: rest)) :=
  W.lcmp hx hb d0 (lv_if_eq hx hb d1 ht (fun h => kt ((lg_cmp_eq x y).mp h)) (fun h => kf (fun z => h ((lg_cmp_eq x y).mpr z))))
theorem xr_lc_ne (hx : p.tables.exec = Jvm.exec) (hb : c.code = cc) {x y : Int64} {off : Int} {tgt : Nat} (d0 : decode cc pc = .ok (.lcmp, 1)) (d1 : decode cc (pc + 1) = .ok (.ifCond .ne off, 3)) (ht : ((pc + 1 : Nat) : Int) + off = (tgt : Int)) (kt : ¬ x = y → W p l e R s m args below meth c H locs cells slots Q (F0 m tgt ls rest)) (kf : x = y → W p l e R s m args below meth c H locs cells slots Q (F0 m (pc + 4) ls rest)) : W p l e R s m args below meth c H locs cells slots Q (F0 m pc ls (.long y :: .long x :: rest)) :=
  W.lcmp hx hb d0 (lv_if_ne hx hb d1 ht (fun h => kt (fun z => h ((lg_cmp_eq x y).mpr z))) (fun h => kf ((lg_cmp_eq x y).mp h)))
theorem xr_lc_lt (hx : p.tables.exec = Jvm.exec) (hb : c.code = cc) {x y : Int64} {off : Int} {tgt : Nat} (d0 : decode cc pc = .ok (.lcmp, 1)) (d1 : decode cc (pc + 1) = .ok (.ifCond .lt off, 3)) (ht : ((pc + 1 : Nat) : Int) + off = (tgt : Int)) (kt : x < y → W p l e R s m args below meth c H locs cells slots Q (F0 m tgt ls rest)) (kf : ¬ x < y → W p l e R s m args below meth c H locs cells slots Q (F0 m (pc + 4) ls rest)) : W p l e R s m args below meth c H locs cells slots Q (F0 m pc ls (.long y :: .long x :: rest)) :=
  W.lcmp hx hb d0 (lv_if_lt hx hb d1 ht (fun h => kt ((lg_cmp_lt x y).mp h)) (fun h => kf (fun z => h ((lg_cmp_lt x y).mpr z))))
theorem xr_lc_ge (hx : p.tables.exec = Jvm.exec) (hb : c.code = cc) {x y : Int64} {off : Int} {tgt : Nat} (d0 : decode cc pc = .ok (.lcmp, 1)) (d1 : decode cc (pc + 1) = .ok (.ifCond .ge off, 3)) (ht : ((pc + 1 : Nat) : Int) + off = (tgt : Int)) (kt : y ≤ x → W p l e R s m args below meth c H locs cells slots Q (F0 m tgt ls rest)) (kf : ¬ y ≤ x → W p l e R s m args below meth c H locs cells slots Q (F0 m (pc + 4) ls rest)) : W p l e R s m args below meth c H locs cells slots Q (F0 m pc ls (.long y :: .long x :: rest)) :=
  W.lcmp hx hb d0 (lv_if_ge hx hb d1 ht (fun h => kt ((lg_cmp_ge x y).mp h)) (fun h => kf (fun z => h ((lg_cmp_ge x y).mpr z))))
theorem xr_lc_gt (hx : p.tables.exec = Jvm.exec) (hb : c.code = cc) {x y : Int64} {off : Int} {tgt : Nat} (d0 : decode cc pc = .ok (.lcmp, 1)) (d1 : decode cc (pc + 1) = .ok (.ifCond .gt off, 3)) (ht : ((pc + 1 : Nat) : Int) + off = (tgt : Int)) (kt : y < x → W p l e R s m args below meth c H locs cells slots Q (F0 m tgt ls rest)) (kf : ¬ y < x → W p l e R s m args below meth c H locs cells slots Q (F0 m (pc + 4) ls rest)) : W p l e R s m args below meth c H locs cells slots Q (F0 m pc ls (.long y :: .long x :: rest)) :=
  W.lcmp hx hb d0 (lv_if_gt hx hb d1 ht (fun h => kt ((lg_cmp_gt x y).mp h)) (fun h => kf (fun z => h ((lg_cmp_gt x y).mpr z))))
theorem xr_lc_le (hx : p.tables.exec = Jvm.exec) (hb : c.code = cc) {x y : Int64} {off : Int} {tgt : Nat} (d0 : decode cc pc = .ok (.lcmp, 1)) (d1 : decode cc (pc + 1) = .ok (.ifCond .le off, 3)) (ht : ((pc + 1 : Nat) : Int) + off = (tgt : Int)) (kt : x ≤ y → W p l e R s m args below meth c H locs cells slots Q (F0 m tgt ls rest)) (kf : ¬ x ≤ y → W p l e R s m args below meth c H locs cells slots Q (F0 m (pc + 4) ls rest)) : W p l e R s m args below meth c H locs cells slots Q (F0 m pc ls (.long y :: .long x :: rest)) :=
  W.lcmp hx hb d0 (lv_if_le hx hb d1 ht (fun h => kt ((lg_cmp_le x y).mp h)) (fun h => kf (fun z => h ((lg_cmp_le x y).mpr z))))
end XW
noncomputable def xs_if {α : Type} (P : Prop) (o : Option α) : Option α := @ite _ P (Classical.propDecidable P) o none
theorem xp_if {α : Type} {P : Prop} {o : Option α} {v : α} (h : xs_if P o = some v) : P ∧ o = some v := xp_p h
theorem xk_atoms {own : String} {ic : Nat} {E : String} (h : (Bundle.ownAtoms0 own ic E ["java/lang/RuntimeException", "java/lang/Exception"]).all (fun a => (decide (a ∈ lw_tbl) && (goodWord a || xk_dc a)) || xk_st a) = true) : ∀ a ∈ Bundle.ownAtoms0 own ic E ["java/lang/RuntimeException", "java/lang/Exception"], a ∈ xk_gd ∨ (a ∈ lw_tbl ∧ xk_dc a = true) ∨ xk_st a = true := by
  intro a ha
  have h1 := List.all_eq_true.mp h a ha
  simp only [Bool.or_eq_true, Bool.and_eq_true, decide_eq_true_eq] at h1
  rcases h1 with ⟨h1, h2 | h2⟩ | h1
  · exact Or.inl (xk_in h1 h2)
  · exact Or.inr (Or.inl ⟨h1, h2⟩)
  · exact Or.inr (Or.inr h1)
theorem xp_r {α β : Type} {a r : α} {b v : β} (h : some (a, b) = some (r, v)) : r = a ∧ v = b := by
  have h1 := Option.some.inj h
  exact ⟨(congrArg Prod.fst h1).symm, (congrArg Prod.snd h1).symm⟩
theorem xp_q {α β : Type} {a r : α} {b v : β} (h : (r, v) = (a, b)) : r = a ∧ v = b := ⟨congrArg Prod.fst h, congrArg Prod.snd h⟩
