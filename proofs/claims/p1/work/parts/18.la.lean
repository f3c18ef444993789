section XLW
variable {p : Program} {l : Launch} {e : Env} {R : Room} {s : State} {m : MethodId} {args : Array Value} {below : List Frame} {meth : Method} {c : Code} {H : Heap} {locs : List Loc} {cells slots : Nat} {Q : State → Prop}
variable {pc nL : Nat} {ls : Array Slot} {rest st0 : List Value} {D : va_G} {cl : List vw_C} {tys : List (ClassId × FieldType)} {wd : xk_St → va_W} {ads : List Nat} {u u' : xk_St} {own : String} {cc : ByteArray}
/-- what stands in the law, once the worlds are made -/
def xl_C (D : va_G) (cl : List vw_C) (tys : List (ClassId × FieldType)) (own : String) (cc : ByteArray) (nL : Nat) (p : Program) (s : State) (m : MethodId) (args : Array Value) (c : Code) : Prop :=
  CallFix p m c cc nL s args xk_gd own ∧ va_K D cl tys s ∧ xk_F (fun q => s.heap.size ≤ q) s s.heap
theorem xw_start (C : xl_C D cl tys own cc nL p s m args c) (hP : va_P D cl (wd u) H) (hS : va_S (fun q => s.heap.size ≤ q) s.heap H locs) (hads : ∀ q ∈ ads, s.heap.size ≤ q) (av : List Value) (U : State) (hU : U.heap = H) (hW : s.WarmedH U.vm) : xk_Pc D cl tys wd ads xk_F H.size av u av.toArray U :=
  ⟨rfl, by rw [hU], by rw [hU]; exact hP, va_K.moved hW.alike C.2.1, by rw [hU]; exact xk_F.go C.2.2 hW hS.2.1 (fun q h2 => h2.elim (hads q) (fun z => Nat.le_trans hS.1 z))⟩
theorem xw_S0 {L : List Loc} {st t : State} (h0 : st.heap = H) (hS : va_S (fun q => s.heap.size ≤ q) s.heap H locs) (hads : ∀ q ∈ ads, s.heap.size ≤ q) (hF : va_F (xk_A ads st.heap.size) st t) (hL : ∀ q ∈ L, xk_A ads H.size q.base) : va_S (fun q => s.heap.size ≤ q) s.heap t.heap (locs ++ L) ∧ ∀ q : Nat, q < H.size → q ∉ ads → t.heap[q]? = H[q]? := by
  obtain ⟨f1, f2⟩ := hF
  rw [h0] at f1 f2
  have up : ∀ q, xk_A ads H.size q → s.heap.size ≤ q := fun q h => h.elim (hads q) (fun z => Nat.le_trans hS.1 z)
  refine ⟨⟨Nat.le_trans hS.1 f1, fun q g1 g2 => ?_, fun q hq => ?_⟩, fun q h1 h2 => f2 q h1 (fun z => z.elim h2 (fun z => absurd h1 (Nat.not_lt.mpr z)))⟩
  · rw [f2 q (Nat.lt_of_lt_of_le g1 hS.1) (fun z => g2 (up q z))]
    exact hS.2.1 q g1 g2
  · rcases List.mem_append.mp hq with h | h
    · exact hS.2.2 q h
    · exact up _ (hL q h)
/-- a call of the reference's -/
theorem xw_V {y : MethodName} {bytes : ByteArray} {maxL n index : Nat} {rt : Option FieldType} {rm : Room} {b : Nat} {As : List Value} {v : Option Value} {T : u_T} {N : Nat} {fs : List Value} (C : xl_C D cl tys own cc nL p s m args c) (hP : va_P D cl (wd u) H) (hS : va_S (fun q => s.heap.size ≤ q) s.heap H locs) (hads : ∀ q ∈ ads, s.heap.size ≤ q)
    (hC : ∀ sz, xk_Met l y (Cond.code y bytes maxL rt :: xk_gd) rm (xk_Pc D cl tys wd ads xk_F sz (.ref b :: As) u) (xk_Qc D cl wd ads (.inl v) u') (xk_A ads sz)) (hw : xk_wV own index y bytes maxL rt n) (q0 ci : Nat) (he : (wd u)[q0]? = some (b, .inr (ci, fs))) (hc : cl[ci]? = some (y.cls, T, N))
    (hR : rm.cells = 1 ∧ rm.slots = 6 ∧ rm.frames + 1 ≤ R.frames ∧ 8 + (maxL + 11) + rm.locals ≤ R.locals) (hf : cells + 1 ≤ R.cells ∧ slots + 6 ≤ R.slots) (hl : ls.size = nL) (hst : st0 = As.reverse ++ .ref b :: rest) (hn : As.length = n) (hr8 : (rest.map fun v => v.category).sum ≤ 8) (hdg : decode cc pc = .ok (.invokevirtual index, 3))
    (kk : ∀ (H1 : Heap) (locs1 : List Loc), va_P D cl (wd u') H1 → va_S (fun q => s.heap.size ≤ q) s.heap H1 locs1 → (∀ q : Nat, q < H.size → q ∉ ads → H1[q]? = H[q]?) → W p l e R s m args below meth c H1 locs1 cells slots Q (F0 m (pc + 3) ls (v.toList ++ rest))) : W p l e R s m args below meth c H locs cells slots Q (F0 m pc ls st0) := by
  have hts := C.1.2.2.2.2
  obtain ⟨w1, w2, w3, w4, w5, w6, w7⟩ := hw
  have hB : xk_Back l R p e below s args y 3 8 (xk_Pc D cl tys wd ads xk_F H.size (.ref b :: As) u) (xk_Qc D cl wd ads (.inl v) u') (xk_A ads H.size) := by
    refine xk_back (maxL := maxL) (hC H.size) xk_blind hR.1 hR.2.1 hR.2.2.1 hR.2.2.2 (fun w hw a' U hW => ?_) (fun U mk hW hn => ?_) (fun a' U hW => xk_pay hts _ w5 a' U hW)
    · rcases List.mem_cons.mp hw with rfl | hw
      · exact xk_pay hts _ w4 a' U hW
      · exact xk_pay hts w hw a' U hW
    · obtain ⟨meth, c, h1, h2, -, h4, -⟩ := Cond.code_spec hn (xk_pay hts _ w4 #[] U hW)
      exact ⟨meth, c, h1, h2, h4⟩
  have hr := xk_runV (H := H) (locs := locs) (cells := cells) (slots := slots) (meth := meth) (g := F0 m pc ls st0) C.1 hB (hts _ w1) (hts _ w2) (hts _ w3) (xk_sigOf (hts _ w4) w7) w6 ⟨xk_blind, va_recv C.2.1 hP hc he, fun U hU hW => xw_start C hP hS hads _ U hU hW⟩ rfl hn hl hst (lv_room hr8) hdg hf
  intro T0 hT X
  obtain ⟨o, st1, t, T', L, h0, X', e1, e2, hL, ⟨ho, hP1, hF1⟩, st⟩ := hr T0 hT X
  have ho : o = .returned v := ho
  subst ho
  obtain ⟨z1, z2⟩ := xw_S0 h0 hS hads hF1 hL
  obtain ⟨t2, a1, b1⟩ := kk t.heap (locs ++ L) hP1 z1 z2 T' e1 X'
  exact ⟨t2, st t2 a1, b1⟩
def xl_wS (own : String) (index : Nat) (y : MethodName) (bytes : ByteArray) (maxL : Nat) (ret : Option FieldType) (hh : List (Nat × Nat × Nat × Nat)) (n : Nat) : Prop :=
  Cond.methodLink own index y ∈ xk_gd ∧ Cond.static y ∈ xk_gd ∧ Cond.codeWith y bytes maxL ret hh ∈ xk_gd ∧ Cond.initialized y.cls ∈ xk_gd ∧ (y.cls ≠ "java/lang/invoke/MethodHandle" ∧ y.cls ≠ "java/lang/invoke/VarHandle") ∧ (parseMethodDescriptor y.desc).map (fun d => d.parameters.length) = some n
def xl_wV (own : String) (index : Nat) (y : MethodName) (bytes : ByteArray) (maxL : Nat) (ret : Option FieldType) (hh : List (Nat × Nat × Nat × Nat)) (n : Nat) : Prop :=
  Cond.methodLink own index y ∈ xk_gd ∧ Cond.instanceMethod y ∈ xk_gd ∧ Cond.selects y.cls y y ∈ xk_gd ∧ Cond.codeWith y bytes maxL ret hh ∈ xk_gd ∧ Cond.initialized y.cls ∈ xk_gd ∧ (y.cls ≠ "java/lang/invoke/MethodHandle" ∧ y.cls ≠ "java/lang/invoke/VarHandle") ∧ (parseMethodDescriptor y.desc).map (fun d => d.parameters.length) = some n
theorem xl_back {y : MethodName} {bytes : ByteArray} {maxL : Nat} {rt : Option FieldType} {hh : List (Nat × Nat × Nat × Nat)} {rm : Room} {av : List Value} {r : Option Value ⊕ Nat} (C : xl_C D cl tys own cc nL p s m args c) (hC : ∀ sz, Met l y (Cond.codeWith y bytes maxL rt hh :: xk_gd) rm (xk_Pc D cl tys wd ads xk_F sz av u) (xk_Qc D cl wd ads r u') 1 6 (xk_A ads sz)) (w4 : Cond.codeWith y bytes maxL rt hh ∈ xk_gd) (w5 : Cond.initialized y.cls ∈ xk_gd)
    (hR : rm.cells = 1 ∧ rm.slots = 6 ∧ rm.frames + 1 ≤ R.frames ∧ 8 + (maxL + 11) + rm.locals ≤ R.locals) : Back l R p e below s args y 3 8 (PreOf R 1 6 (xk_Pc D cl tys wd ads xk_F H.size av u)) (PostOf (xk_Qc D cl wd ads r u') 1 6 (xk_A ads H.size)) := by
  have hts := C.1.2.2.2.2
  refine va_backW (hh := hh) (bytes := bytes) (maxL := maxL) (ret := rt) (hC H.size) xk_blind hR.1 hR.2.1 hR.2.2.1 hR.2.2.2 (fun w hw a' U hW => ?_) List.mem_cons_self (fun a' U hW => xk_pay hts _ w5 a' U hW)
  rcases List.mem_cons.mp hw with rfl | hw
  · exact xk_pay hts _ w4 a' U hW
  · exact xk_pay hts w hw a' U hW
/-- a call of one of the law's own seven -/
theorem xw_S {y : MethodName} {bytes : ByteArray} {maxL n index : Nat} {rt : Option FieldType} {hh : List (Nat × Nat × Nat × Nat)} {rm : Room} {As : List Value} {v : Option Value} (C : xl_C D cl tys own cc nL p s m args c) (hP : va_P D cl (wd u) H) (hS : va_S (fun q => s.heap.size ≤ q) s.heap H locs) (hads : ∀ q ∈ ads, s.heap.size ≤ q)
    (hC : ∀ sz, Met l y (Cond.codeWith y bytes maxL rt hh :: xk_gd) rm (xk_Pc D cl tys wd ads xk_F sz As u) (xk_Qc D cl wd ads (.inl v) u') 1 6 (xk_A ads sz)) (hw : xl_wS own index y bytes maxL rt hh n)
    (hR : rm.cells = 1 ∧ rm.slots = 6 ∧ rm.frames + 1 ≤ R.frames ∧ 8 + (maxL + 11) + rm.locals ≤ R.locals) (hf : cells + 1 ≤ R.cells ∧ slots + 6 ≤ R.slots) (hl : ls.size = nL) (hst : st0 = As.reverse ++ rest) (hn : As.length = n) (hr8 : (rest.map fun v => v.category).sum ≤ 8) (hdg : decode cc pc = .ok (.invokestatic index, 3))
    (kk : ∀ (H1 : Heap) (locs1 : List Loc), va_P D cl (wd u') H1 → va_S (fun q => s.heap.size ≤ q) s.heap H1 locs1 → (∀ q : Nat, q < H.size → q ∉ ads → H1[q]? = H[q]?) → W p l e R s m args below meth c H1 locs1 (cells + 1) (slots + 6) Q (F0 m (pc + 3) ls (v.toList ++ rest))) : W p l e R s m args below meth c H locs cells slots Q (F0 m pc ls st0) := by
  have hts := C.1.2.2.2.2
  obtain ⟨w1, w2, w4, w5, w6, w7⟩ := hw
  have hB := xl_back (H := H) (R := R) (below := below) (e := e) C hC w4 w5 hR
  obtain ⟨hx, hb, hml, ho, -⟩ := C.1
  intro T hT X
  obtain ⟨mk, methM, cM, hnamed, hmethM, -, -, -, -, -, -, hsigM⟩ := Cond.codeWith_spec (hts _ w4)
  have hlen : methM.sig.parameters.length = n := by
    rw [hsigM] at w7
    exact Option.some.inj w7
  have hstatic : methM.isStatic = true := Cond.static_spec hnamed hmethM (hts _ w2)
  obtain ⟨kP, hkP, -⟩ := className_of_methodNamed hnamed
  have hinitP : kP.init = .initialized := Cond.initialized_spec (findClass_of_methodNamed hnamed) hkP (hts _ w5)
  obtain ⟨vm₁, X₁, hstep₁⟩ := X.invokestatic hx ho (hts _ w1) hnamed hmethM hstatic hkP hinitP w6 (g := F0 m pc ls st0) rfl (argsL := As) (rest := rest) (hn.trans hlen.symm) hst (by rw [hb]; exact hdg)
  obtain ⟨v1, ⟨T', l2, c2, s2⟩, X', ⟨g', mk', t, L, e1, e2, hq, h1, hL, h2, h3⟩, hsteps⟩ := hB m meth c ⟨T.setVm vm₁, locs, cells, slots⟩ (F0 m pc ls rest) (.invokestatic index) mk As.toArray X₁ rfl (hl.trans hml.symm) (by rw [hb]; exact hdg) (lv_room hr8) (X₁.named hnamed) ⟨hf.1, hf.2, xw_start C hP hS hads _ _ hT X₁.warmed⟩
  dsimp only [Pt.U, Pt.locs, Pt.cells, Pt.slots] at X' e1 e2 h1 h2 h3 hsteps
  subst h1; subst h2; subst h3
  obtain ⟨ho1, hP1, hF1⟩ := hq
  have ho1 : Outcome.returned v1 = .returned v := ho1
  cases ho1
  obtain ⟨z1, z2⟩ := xw_S0 (st := (T.setVm vm₁).calling g' mk' As.toArray) hT hS hads hF1 hL
  obtain ⟨t2, a1, b1⟩ := kk t.heap (locs ++ L) hP1 z1 z2 T' e1 X'
  exact ⟨t2, hstep₁ _ fun acts => by rw [doInvoke_state]; exact hsteps.trans a1, b1⟩
/-- load's call -/
theorem xw_L {y : MethodName} {bytes : ByteArray} {maxL n index : Nat} {rt : Option FieldType} {hh : List (Nat × Nat × Nat × Nat)} {rm : Room} {b : Nat} {As : List Value} {v : Option Value} {T0 : u_T} {N : Nat} {fs : List Value} (C : xl_C D cl tys own cc nL p s m args c) (hP : va_P D cl (wd u) H) (hS : va_S (fun q => s.heap.size ≤ q) s.heap H locs) (hads : ∀ q ∈ ads, s.heap.size ≤ q)
    (hC : ∀ sz, Met l y (Cond.codeWith y bytes maxL rt hh :: xk_gd) rm (xk_Pc D cl tys wd ads xk_F sz (.ref b :: As) u) (xk_Qc D cl wd ads (.inl v) u') 1 6 (xk_A ads sz)) (hw : xl_wV own index y bytes maxL rt hh n) (q0 ci : Nat) (he : (wd u)[q0]? = some (b, .inr (ci, fs))) (hc : cl[ci]? = some (y.cls, T0, N))
    (hR : rm.cells = 1 ∧ rm.slots = 6 ∧ rm.frames + 1 ≤ R.frames ∧ 8 + (maxL + 11) + rm.locals ≤ R.locals) (hf : cells + 1 ≤ R.cells ∧ slots + 6 ≤ R.slots) (hl : ls.size = nL) (hst : st0 = As.reverse ++ .ref b :: rest) (hn : As.length = n) (hr8 : (rest.map fun v => v.category).sum ≤ 8) (hdg : decode cc pc = .ok (.invokevirtual index, 3))
    (kk : ∀ (H1 : Heap) (locs1 : List Loc), va_P D cl (wd u') H1 → va_S (fun q => s.heap.size ≤ q) s.heap H1 locs1 → (∀ q : Nat, q < H.size → q ∉ ads → H1[q]? = H[q]?) → W p l e R s m args below meth c H1 locs1 (cells + 1) (slots + 6) Q (F0 m (pc + 3) ls (v.toList ++ rest))) : W p l e R s m args below meth c H locs cells slots Q (F0 m pc ls st0) := by
  have hts := C.1.2.2.2.2
  obtain ⟨w1, w2, w3, w4, w5, w6, w7⟩ := hw
  have hB := xl_back (H := H) (R := R) (below := below) (e := e) C hC w4 w5 hR
  obtain ⟨cellB, hcB, hoB, hclB⟩ := va_recv C.2.1 hP hc he
  obtain ⟨hx, hb, hml, ho, -⟩ := C.1
  intro T hT X
  obtain ⟨mk, methM, hnamed, hmethM, hstM, habM⟩ := Cond.instanceMethod_spec (hts _ w2)
  obtain ⟨mk9, methM9, cM, hn9, hm9, -, -, -, -, -, -, hsigM⟩ := Cond.codeWith_spec (hts _ w4)
  cases hnamed.symm.trans hn9
  cases hmethM.symm.trans hm9
  have hlen : methM.sig.parameters.length = n := by
    rw [hsigM] at w7
    exact Option.some.inj w7
  obtain ⟨c2, r2, m2, q1, q2, q3, q4, kP, hkP, hkPi⟩ := Cond.selects_spec (hts _ w3)
  cases hclB.symm.trans q1
  cases (State.methodFound?_of_named hnamed w6).symm.trans q2
  cases hnamed.symm.trans q3
  have hselP : selectMethod e.platform s.vm cellB.cls mk = .method mk := by rw [Launch.admits_selectMethod X.admits]; exact q4
  obtain ⟨vm₁, X₁, hstep₁⟩ := X.invokevirtual hx ho (hts _ w1) hnamed hmethM hstM hkP hkPi w6 (a := b) (cell := cellB) (by rw [hT]; exact hcB)
    (fun z h => by rw [h] at hoB; cases hoB) hselP hmethM habM hkP hkPi (g := F0 m pc ls st0) rfl (argsL := As) (rest := rest) (hn.trans hlen.symm) hst (by rw [hb]; exact hdg)
  obtain ⟨v1, ⟨T', l2, c2, s2⟩, X', ⟨g', mk', t, L, e1, e2, hq, h1, hL, h2, h3⟩, hsteps⟩ := hB m meth c ⟨T.setVm vm₁, locs, cells, slots⟩ (F0 m pc ls rest) (.invokevirtual index) mk (Value.ref b :: As).toArray X₁ rfl (hl.trans hml.symm) (by rw [hb]; exact hdg) (lv_room hr8) (X₁.named hnamed) ⟨hf.1, hf.2, xw_start C hP hS hads _ _ hT X₁.warmed⟩
  dsimp only [Pt.U, Pt.locs, Pt.cells, Pt.slots] at X' e1 e2 h1 h2 h3 hsteps
  subst h1; subst h2; subst h3
  obtain ⟨ho1, hP1, hF1⟩ := hq
  have ho1 : Outcome.returned v1 = .returned v := ho1
  cases ho1
  obtain ⟨z1, z2⟩ := xw_S0 (st := (T.setVm vm₁).calling g' mk' (Value.ref b :: As).toArray) hT hS hads hF1 hL
  obtain ⟨t2, a1, b1⟩ := kk t.heap (locs ++ L) hP1 z1 z2 T' e1 X'
  exact ⟨t2, hstep₁ _ fun acts => by rw [doInvoke_state]; exact hsteps.trans a1, b1⟩
end XLW
theorem xw_keep {D : va_G} {cl : List vw_C} {ws : va_W} {ads : List Nat} {H H1 : Heap} (hP : va_P D cl ws H) (hd : ∀ q ∈ ws.map (fun q => q.1), q ∉ ads) (hk : ∀ q : Nat, q < H.size → q ∉ ads → H1[q]? = H[q]?) : va_P D cl ws H1 :=
  hP.kept (fun k x hx => hk x.1 ((hP k x hx).lt) (hd x.1 (List.mem_map.mpr ⟨x, List.mem_of_getElem? hx, rfl⟩)))
