abbrev rm_Model_checkObjects : Room := { frames := 6, cells := 1, slots := 6, locals := 115 }
noncomputable def jb_Model_checkObjects_200 (fu : Nat) (s0 : Int32) (u : xk_St) : Option (Unit × xk_St) :=
  (xs_seq (fm_Model_push s0 u) fun _ u16 => some ((()), u16))
noncomputable def jb_Model_checkObjects_197 (fu : Nat) (s0 : Int32) (s1 : Int32) (u : xk_St) : Option (Unit × xk_St) :=
  (xs_seq (fm_Model_reference s1 s0 u) fun a14 u15 => jb_Model_checkObjects_200 fu a14 u15)
noncomputable def jb_Model_checkObjects_156 (fu : Nat) (s0 : Int32) (u : xk_St) : Option (Unit × xk_St) :=
  (if s0 = 0 ∨ s0 = 1 then ( xs_let (xs_I u 7 s0) fun u11 => xs_seq (fm_Model_takeReference u11) fun a12 u13 => if (22 : Int32) ≤ (u13.1 9) then (if (u13.1 9) = (23 : Int32) then (jb_Model_checkObjects_197 fu (1 : Int32) ((u13.2.1 0).toInt32) u13) else (jb_Model_checkObjects_197 fu (0 : Int32) ((u13.2.1 0).toInt32) u13)) else (jb_Model_checkObjects_200 fu (1 : Int32) u13)  ) else none)
noncomputable def jb_Model_checkObjects_98 (fu : Nat) (s0 : Int32) (u : xk_St) : Option (Unit × xk_St) :=
  (if s0 = 0 ∨ s0 = 1 then ( xs_let (xs_I u 7 s0) fun u22 => xs_seq (fm_Model_push (1 : Int32) u22) fun _ u23 => some ((()), u23)  ) else none)
noncomputable def jb_Model_checkObjects_93 (fu : Nat) (u : xk_St) : Option (Unit × xk_St) :=
  jb_Model_checkObjects_98 fu (1 : Int32) u
noncomputable def jb_Model_checkObjects_97 (fu : Nat) (u : xk_St) : Option (Unit × xk_St) :=
  jb_Model_checkObjects_98 fu (0 : Int32) u
noncomputable def jb_Model_checkObjects_60 (fu : Nat) (s0 : Int32) (u : xk_St) : Option (Unit × xk_St) :=
  if (u.1 7) = (0 : Int32) then (if s0 = (400 : Int32) then (jb_Model_checkObjects_97 fu u) else (if s0 < (2 : Int32) then (jb_Model_checkObjects_93 fu u) else ((if (s0 - (2 : Int32)) < 0 ∨ 64 ≤ (s0 - (2 : Int32)).toNatClampNeg then none else if (u.2.2.1 4 (s0 - (2 : Int32)).toNatClampNeg) = (2 : Int32) then (jb_Model_checkObjects_97 fu u) else (jb_Model_checkObjects_93 fu u))))) else (jb_Model_checkObjects_93 fu u)
noncomputable def fm_Model_checkObjects (fu : Nat) (u : xk_St) : Option (Unit × xk_St) :=
  if (6 : Int32) ≤ (u.1 9) then (if (9 : Int32) ≤ (u.1 9) then (if (u.1 9) = (15 : Int32) then ((xs_seq (fm_Model_takeReference u) fun a18 u19 => if a18 = (0 : Int32) then (jb_Model_checkObjects_60 fu (400 : Int32) u19) else ((xs_seq (fm_Model_targetOf a18 u19) fun a20 u21 => jb_Model_checkObjects_60 fu a20 u21)))) else (if (17 : Int32) ≤ (u.1 9) then (if (24 : Int32) ≤ (u.1 9) then (if (u.1 9) = (28 : Int32) then ((xs_seq (fm_Model_take (1 : Int32) u) fun _ u5 => xs_seq (fm_Model_reference (1 : Int32) (0 : Int32) u5) fun a6 u7 => xs_seq (fm_Model_push a6 u7) fun _ u8 => some ((()), u8))) else ((xs_seq (fm_Model_reference (1 : Int32) (1 : Int32) u) fun a1 u2 => xs_seq (fm_Model_take a1 u2) fun _ u3 => xs_seq (fm_Model_push (1 : Int32) u3) fun _ u4 => some ((()), u4)))) else ((xs_seq (fm_Model_isObjectType ((u.2.1 0).toInt32) (u.1 12) u) fun a9 u10 => if a9 = (0 : Int32) then (jb_Model_checkObjects_156 fu (1 : Int32) u10) else (jb_Model_checkObjects_156 fu (0 : Int32) u10)))) else ((xs_seq (fm_Model_checkArray u) fun _ u17 => some ((()), u17))))) else ((xs_seq (fm_Model_checkNewArray fu u) fun _ u24 => some ((()), u24)))) else ((xs_seq (fm_Model_checkStructure fu u) fun _ u25 => some ((()), u25)))
set_option maxHeartbeats 4000000 in
set_option maxRecDepth 100000 in
theorem wj_Model_checkObjects_200 {p : Program} {l : Launch} {e : Env} {s : State} {m : MethodId} {args : Array Value} {below : List Frame} {meth : Method} {c : Code} {D : va_G} {ad : Nat → Nat} {ca : Nat → ClassId} {ads : List Nat} {fu : Nat} (htr : l.stackTraces = false) (C : xk_C D kx_cl (kx_ty ca) (kw_m ad ca) ads "ModuleHouseModel" prog_14_method_93_code 3 none p e s m args meth c) (hne : c.exceptionTable.isEmpty = true) {u' : xk_St} {r : Unit} {s0 : Int32} {u : xk_St} {H : Heap} {locs : List Loc} {ls : Array Slot} (h : jb_Model_checkObjects_200 fu  s0 u = some (r, u')) (hP : va_P D kx_cl (kw_m ad ca u) H) (hS : va_S (xk_A ads s.heap.size) s.heap H locs) (hl : lv_has ls 3 []) : W p l e rm_Model_checkObjects s m args below meth c H locs 0 0 (xk_MQ below (xk_Qc D kx_cl (kw_m ad ca) ads (xo_v (.inl r)) u') args s (xk_A ads s.heap.size)) (F0 m 200 ls [.int s0, .ref (ad 0)]) := by
  have hx := C.1.1
  have hb := C.1.2.1
  have hok := C.2.2.1
  unfold jb_Model_checkObjects_200 at h
  obtain ⟨rx, u16, hq, h⟩ := xp_seq h
  refine xk_goesV (xr_V (As := [.int s0]) (rest := []) C hP hS (ct_Model_push htr hok hq) kq_Model_507 0 11 rfl rfl ⟨rfl, rfl, Nat.le_of_ble_eq_true rfl, Nat.le_of_ble_eq_true rfl⟩ ⟨Nat.le_of_ble_eq_true rfl, Nat.le_of_ble_eq_true rfl⟩ hl.1 rfl rfl (Nat.le_of_ble_eq_true rfl) dd_Model_checkObjects_200) hS (fun H locs hP hS => ?_)
  clear hq
  refine lv_goto (tgt := 246) hx hb dd_Model_checkObjects_203 (by decide) ?_
  obtain ⟨rfl, rfl⟩ := xp_r h
  exact xr_vret C hP hS dd_Model_checkObjects_246
set_option maxHeartbeats 4000000 in
set_option maxRecDepth 100000 in
theorem wj_Model_checkObjects_197 {p : Program} {l : Launch} {e : Env} {s : State} {m : MethodId} {args : Array Value} {below : List Frame} {meth : Method} {c : Code} {D : va_G} {ad : Nat → Nat} {ca : Nat → ClassId} {ads : List Nat} {fu : Nat} (htr : l.stackTraces = false) (C : xk_C D kx_cl (kx_ty ca) (kw_m ad ca) ads "ModuleHouseModel" prog_14_method_93_code 3 none p e s m args meth c) (hne : c.exceptionTable.isEmpty = true) {u' : xk_St} {r : Unit} {s0 : Int32} {s1 : Int32} {u : xk_St} {H : Heap} {locs : List Loc} {ls : Array Slot} (h : jb_Model_checkObjects_197 fu  s0 s1 u = some (r, u')) (hP : va_P D kx_cl (kw_m ad ca u) H) (hS : va_S (xk_A ads s.heap.size) s.heap H locs) (hl : lv_has ls 3 []) : W p l e rm_Model_checkObjects s m args below meth c H locs 0 0 (xk_MQ below (xk_Qc D kx_cl (kw_m ad ca) ads (xo_v (.inl r)) u') args s (xk_A ads s.heap.size)) (F0 m 197 ls [.int s0, .int s1, .ref (ad 0)]) := by
  have hx := C.1.1
  have hb := C.1.2.1
  have hok := C.2.2.1
  unfold jb_Model_checkObjects_197 at h
  obtain ⟨a14, u15, hq, h⟩ := xp_seq h
  refine xk_goesI (xr_S (As := [.int s1, .int s0]) (rest := [.ref (ad 0)]) C hP hS (ct_Model_reference htr hok hq) kq_Model_203 ⟨rfl, rfl, Nat.le_of_ble_eq_true rfl, Nat.le_of_ble_eq_true rfl⟩ ⟨Nat.le_of_ble_eq_true rfl, Nat.le_of_ble_eq_true rfl⟩ hl.1 rfl rfl (Nat.le_of_ble_eq_true rfl) dd_Model_checkObjects_197) hS (fun H locs hP hS => ?_)
  clear hq
  exact wj_Model_checkObjects_200 htr C hne h hP hS (lv_sub hl [] rfl)
set_option maxHeartbeats 4000000 in
set_option maxRecDepth 100000 in
theorem wj_Model_checkObjects_156 {p : Program} {l : Launch} {e : Env} {s : State} {m : MethodId} {args : Array Value} {below : List Frame} {meth : Method} {c : Code} {D : va_G} {ad : Nat → Nat} {ca : Nat → ClassId} {ads : List Nat} {fu : Nat} (htr : l.stackTraces = false) (C : xk_C D kx_cl (kx_ty ca) (kw_m ad ca) ads "ModuleHouseModel" prog_14_method_93_code 3 none p e s m args meth c) (hne : c.exceptionTable.isEmpty = true) {u' : xk_St} {r : Unit} {s0 : Int32} {u : xk_St} {H : Heap} {locs : List Loc} {ls : Array Slot} (h : jb_Model_checkObjects_156 fu  s0 u = some (r, u')) (hP : va_P D kx_cl (kw_m ad ca u) H) (hS : va_S (xk_A ads s.heap.size) s.heap H locs) (hl : lv_has ls 3 [(0, .ref (ad 0))]) : W p l e rm_Model_checkObjects s m args below meth c H locs 0 0 (xk_MQ below (xk_Qc D kx_cl (kw_m ad ca) ads (xo_v (.inl r)) u') args s (xk_A ads s.heap.size)) (F0 m 156 ls [.int s0, .ref (ad 0)]) := by
  have hx := C.1.1
  have hb := C.1.2.1
  have hok := C.2.2.1
  unfold jb_Model_checkObjects_156 at h
  obtain ⟨hz, h⟩ := xp_p h
  refine pf_m_Model_0_wrong C hP hS hz dd_Model_checkObjects_156 (fun H locs hP hS => ?_)
  obtain ⟨u11, eu11, h⟩ := xp_let h
  rw [← eu11] at hP
  refine lv_aload_n hx hb dd_Model_checkObjects_159 rfl (lv_at hl 0 rfl) ?_
  obtain ⟨a12, u13, hq, h⟩ := xp_seq h
  refine xk_goesI (xr_V (As := []) (rest := []) C hP hS (ct_Model_takeReference htr hok hq) kq_Model_621 0 11 rfl rfl ⟨rfl, rfl, Nat.le_of_ble_eq_true rfl, Nat.le_of_ble_eq_true rfl⟩ ⟨Nat.le_of_ble_eq_true rfl, Nat.le_of_ble_eq_true rfl⟩ hl.1 rfl rfl (Nat.le_of_ble_eq_true rfl) dd_Model_checkObjects_160) hS (fun H locs hP hS => ?_)
  clear hq
  refine lv_istore_n (lv' := [(1, .int a12), (0, .ref (ad 0))]) hx hb dd_Model_checkObjects_163 rfl hl (by decide) rfl (fun ls hl => ?_)
  refine lv_aload_n hx hb dd_Model_checkObjects_164 rfl (lv_at hl 1 rfl) ?_
  refine lv_aload_n hx hb dd_Model_checkObjects_165 rfl (lv_at hl 1 rfl) ?_
  refine gf_m_Model_0_sub C hP dd_Model_checkObjects_166 ?_
  refine lv_bipush (v := 22) hx hb dd_Model_checkObjects_169 (by decide) ?_
  refine lv_icmp_ge (tgt := 178) hx hb dd_Model_checkObjects_171 (by decide) (fun hc => ?_) (fun hc => ?_)
  · have h := xp_t hc h
    refine lv_aload_n hx hb dd_Model_checkObjects_178 rfl (lv_at hl 1 rfl) ?_
    refine gf_m_Model_0_x C hP dd_Model_checkObjects_179 ?_
    refine lv_l2i hx hb dd_Model_checkObjects_182 rfl ?_
    refine lv_aload_n hx hb dd_Model_checkObjects_183 rfl (lv_at hl 1 rfl) ?_
    refine gf_m_Model_0_sub C hP dd_Model_checkObjects_184 ?_
    refine lv_bipush (v := 23) hx hb dd_Model_checkObjects_187 (by decide) ?_
    refine lv_icmp_ne (tgt := 196) hx hb dd_Model_checkObjects_189 (by decide) (fun hc => ?_) (fun hc => ?_)
    · have h := xp_f hc h
      refine lv_iconst (v := 0) hx hb dd_Model_checkObjects_196 (by decide) ?_
      exact wj_Model_checkObjects_197 htr C hne h hP hS (lv_sub hl [] rfl)
    · have h := xp_t hc h
      refine lv_iconst (v := 1) hx hb dd_Model_checkObjects_192 (by decide) ?_
      refine lv_goto (tgt := 197) hx hb dd_Model_checkObjects_193 (by decide) ?_
      exact wj_Model_checkObjects_197 htr C hne h hP hS (lv_sub hl [] rfl)
  · have h := xp_f hc h
    refine lv_iconst (v := 1) hx hb dd_Model_checkObjects_174 (by decide) ?_
    refine lv_goto (tgt := 200) hx hb dd_Model_checkObjects_175 (by decide) ?_
    exact wj_Model_checkObjects_200 htr C hne h hP hS (lv_sub hl [] rfl)
set_option maxHeartbeats 4000000 in
set_option maxRecDepth 100000 in
theorem wj_Model_checkObjects_98 {p : Program} {l : Launch} {e : Env} {s : State} {m : MethodId} {args : Array Value} {below : List Frame} {meth : Method} {c : Code} {D : va_G} {ad : Nat → Nat} {ca : Nat → ClassId} {ads : List Nat} {fu : Nat} (htr : l.stackTraces = false) (C : xk_C D kx_cl (kx_ty ca) (kw_m ad ca) ads "ModuleHouseModel" prog_14_method_93_code 3 none p e s m args meth c) (hne : c.exceptionTable.isEmpty = true) {u' : xk_St} {r : Unit} {s0 : Int32} {u : xk_St} {H : Heap} {locs : List Loc} {ls : Array Slot} (h : jb_Model_checkObjects_98 fu  s0 u = some (r, u')) (hP : va_P D kx_cl (kw_m ad ca u) H) (hS : va_S (xk_A ads s.heap.size) s.heap H locs) (hl : lv_has ls 3 [(0, .ref (ad 0))]) : W p l e rm_Model_checkObjects s m args below meth c H locs 0 0 (xk_MQ below (xk_Qc D kx_cl (kw_m ad ca) ads (xo_v (.inl r)) u') args s (xk_A ads s.heap.size)) (F0 m 98 ls [.int s0, .ref (ad 0)]) := by
  have hx := C.1.1
  have hb := C.1.2.1
  have hok := C.2.2.1
  unfold jb_Model_checkObjects_98 at h
  obtain ⟨hz, h⟩ := xp_p h
  refine pf_m_Model_0_wrong C hP hS hz dd_Model_checkObjects_98 (fun H locs hP hS => ?_)
  obtain ⟨u22, eu22, h⟩ := xp_let h
  rw [← eu22] at hP
  refine lv_aload_n hx hb dd_Model_checkObjects_101 rfl (lv_at hl 0 rfl) ?_
  refine lv_iconst (v := 1) hx hb dd_Model_checkObjects_102 (by decide) ?_
  obtain ⟨rx, u23, hq, h⟩ := xp_seq h
  refine xk_goesV (xr_V (As := [.int (1 : Int32)]) (rest := []) C hP hS (ct_Model_push htr hok hq) kq_Model_507 0 11 rfl rfl ⟨rfl, rfl, Nat.le_of_ble_eq_true rfl, Nat.le_of_ble_eq_true rfl⟩ ⟨Nat.le_of_ble_eq_true rfl, Nat.le_of_ble_eq_true rfl⟩ hl.1 rfl rfl (Nat.le_of_ble_eq_true rfl) dd_Model_checkObjects_103) hS (fun H locs hP hS => ?_)
  clear hq
  refine lv_goto (tgt := 246) hx hb dd_Model_checkObjects_106 (by decide) ?_
  obtain ⟨rfl, rfl⟩ := xp_r h
  exact xr_vret C hP hS dd_Model_checkObjects_246
set_option maxHeartbeats 4000000 in
set_option maxRecDepth 100000 in
theorem wj_Model_checkObjects_93 {p : Program} {l : Launch} {e : Env} {s : State} {m : MethodId} {args : Array Value} {below : List Frame} {meth : Method} {c : Code} {D : va_G} {ad : Nat → Nat} {ca : Nat → ClassId} {ads : List Nat} {fu : Nat} (htr : l.stackTraces = false) (C : xk_C D kx_cl (kx_ty ca) (kw_m ad ca) ads "ModuleHouseModel" prog_14_method_93_code 3 none p e s m args meth c) (hne : c.exceptionTable.isEmpty = true) {u' : xk_St} {r : Unit} {u : xk_St} {H : Heap} {locs : List Loc} {ls : Array Slot} (h : jb_Model_checkObjects_93 fu   u = some (r, u')) (hP : va_P D kx_cl (kw_m ad ca u) H) (hS : va_S (xk_A ads s.heap.size) s.heap H locs) (hl : lv_has ls 3 [(0, .ref (ad 0))]) : W p l e rm_Model_checkObjects s m args below meth c H locs 0 0 (xk_MQ below (xk_Qc D kx_cl (kw_m ad ca) ads (xo_v (.inl r)) u') args s (xk_A ads s.heap.size)) (F0 m 93 ls [.ref (ad 0)]) := by
  have hx := C.1.1
  have hb := C.1.2.1
  have hok := C.2.2.1
  unfold jb_Model_checkObjects_93 at h
  refine lv_iconst (v := 1) hx hb dd_Model_checkObjects_93 (by decide) ?_
  refine lv_goto (tgt := 98) hx hb dd_Model_checkObjects_94 (by decide) ?_
  exact wj_Model_checkObjects_98 htr C hne h hP hS (lv_sub hl [0] rfl)
set_option maxHeartbeats 4000000 in
set_option maxRecDepth 100000 in
theorem wj_Model_checkObjects_97 {p : Program} {l : Launch} {e : Env} {s : State} {m : MethodId} {args : Array Value} {below : List Frame} {meth : Method} {c : Code} {D : va_G} {ad : Nat → Nat} {ca : Nat → ClassId} {ads : List Nat} {fu : Nat} (htr : l.stackTraces = false) (C : xk_C D kx_cl (kx_ty ca) (kw_m ad ca) ads "ModuleHouseModel" prog_14_method_93_code 3 none p e s m args meth c) (hne : c.exceptionTable.isEmpty = true) {u' : xk_St} {r : Unit} {u : xk_St} {H : Heap} {locs : List Loc} {ls : Array Slot} (h : jb_Model_checkObjects_97 fu   u = some (r, u')) (hP : va_P D kx_cl (kw_m ad ca u) H) (hS : va_S (xk_A ads s.heap.size) s.heap H locs) (hl : lv_has ls 3 [(0, .ref (ad 0))]) : W p l e rm_Model_checkObjects s m args below meth c H locs 0 0 (xk_MQ below (xk_Qc D kx_cl (kw_m ad ca) ads (xo_v (.inl r)) u') args s (xk_A ads s.heap.size)) (F0 m 97 ls [.ref (ad 0)]) := by
  have hx := C.1.1
  have hb := C.1.2.1
  have hok := C.2.2.1
  unfold jb_Model_checkObjects_97 at h
  refine lv_iconst (v := 0) hx hb dd_Model_checkObjects_97 (by decide) ?_
  exact wj_Model_checkObjects_98 htr C hne h hP hS (lv_sub hl [0] rfl)
set_option maxHeartbeats 4000000 in
set_option maxRecDepth 100000 in
theorem wj_Model_checkObjects_60 {p : Program} {l : Launch} {e : Env} {s : State} {m : MethodId} {args : Array Value} {below : List Frame} {meth : Method} {c : Code} {D : va_G} {ad : Nat → Nat} {ca : Nat → ClassId} {ads : List Nat} {fu : Nat} (htr : l.stackTraces = false) (C : xk_C D kx_cl (kx_ty ca) (kw_m ad ca) ads "ModuleHouseModel" prog_14_method_93_code 3 none p e s m args meth c) (hne : c.exceptionTable.isEmpty = true) {u' : xk_St} {r : Unit} {s0 : Int32} {u : xk_St} {H : Heap} {locs : List Loc} {ls : Array Slot} (h : jb_Model_checkObjects_60 fu  s0 u = some (r, u')) (hP : va_P D kx_cl (kw_m ad ca u) H) (hS : va_S (xk_A ads s.heap.size) s.heap H locs) (hl : lv_has ls 3 [(0, .ref (ad 0))]) : W p l e rm_Model_checkObjects s m args below meth c H locs 0 0 (xk_MQ below (xk_Qc D kx_cl (kw_m ad ca) ads (xo_v (.inl r)) u') args s (xk_A ads s.heap.size)) (F0 m 60 ls [.int s0]) := by
  have hx := C.1.1
  have hb := C.1.2.1
  have hok := C.2.2.1
  unfold jb_Model_checkObjects_60 at h
  refine lv_istore_n (lv' := [(2, .int s0), (0, .ref (ad 0))]) hx hb dd_Model_checkObjects_60 rfl hl (by decide) rfl (fun ls hl => ?_)
  refine lv_aload_n hx hb dd_Model_checkObjects_61 rfl (lv_at hl 1 rfl) ?_
  refine lv_aload_n hx hb dd_Model_checkObjects_62 rfl (lv_at hl 1 rfl) ?_
  refine gf_m_Model_0_wrong C hP dd_Model_checkObjects_63 ?_
  refine lv_if_ne (tgt := 93) hx hb dd_Model_checkObjects_66 (by decide) (fun hc => ?_) (fun hc => ?_)
  · have h := xp_f hc h
    exact wj_Model_checkObjects_93 htr C hne h hP hS (lv_sub hl [1] rfl)
  · have h := xp_t hc h
    refine lv_iload_n hx hb dd_Model_checkObjects_69 rfl (lv_at hl 0 rfl) ?_
    refine lv_sipush (v := 400) hx hb dd_Model_checkObjects_70 (by decide) ?_
    refine lv_icmp_eq (tgt := 97) hx hb dd_Model_checkObjects_73 (by decide) (fun hc => ?_) (fun hc => ?_)
    · have h := xp_t hc h
      exact wj_Model_checkObjects_97 htr C hne h hP hS (lv_sub hl [1] rfl)
    · have h := xp_f hc h
      refine lv_iload_n hx hb dd_Model_checkObjects_76 rfl (lv_at hl 0 rfl) ?_
      refine lv_iconst (v := 2) hx hb dd_Model_checkObjects_77 (by decide) ?_
      refine lv_icmp_lt (tgt := 93) hx hb dd_Model_checkObjects_78 (by decide) (fun hc => ?_) (fun hc => ?_)
      · have h := xp_t hc h
        exact wj_Model_checkObjects_93 htr C hne h hP hS (lv_sub hl [1] rfl)
      · have h := xp_f hc h
        refine lv_aload_n hx hb dd_Model_checkObjects_81 rfl (lv_at hl 1 rfl) ?_
        refine gf_m_Model_0_kinds C hP dd_Model_checkObjects_82 ?_
        refine lv_iload_n hx hb dd_Model_checkObjects_85 rfl (lv_at hl 0 rfl) ?_
        refine lv_iconst (v := 2) hx hb dd_Model_checkObjects_86 (by decide) ?_
        refine lv_isub hx hb dd_Model_checkObjects_87 ?_
        obtain ⟨hi, h⟩ := xp_g h
        refine al_m_6 C hP hi dd_Model_checkObjects_88 ?_
        refine lv_iconst (v := 2) hx hb dd_Model_checkObjects_89 (by decide) ?_
        refine lv_icmp_eq (tgt := 97) hx hb dd_Model_checkObjects_90 (by decide) (fun hc => ?_) (fun hc => ?_)
        · have h := xp_t hc h
          exact wj_Model_checkObjects_97 htr C hne h hP hS (lv_sub hl [1] rfl)
        · have h := xp_f hc h
          exact wj_Model_checkObjects_93 htr C hne h hP hS (lv_sub hl [1] rfl)
set_option maxHeartbeats 4000000 in
set_option maxRecDepth 100000 in
theorem ct_Model_checkObjects {l : Launch} {D : va_G} {ad : Nat → Nat} {ca : Nat → ClassId} {ads : List Nat} (htr : l.stackTraces = false) (hok : xk_ok (kw_m ad ca) ads) {fu : Nat} {u u' : xk_St} {r : Unit} (h : fm_Model_checkObjects fu u = some (r, u')) :
    ∀ sz, xk_Met l ⟨"ModuleHouseModel", "checkObjects", "()V"⟩ (Cond.code ⟨"ModuleHouseModel", "checkObjects", "()V"⟩ prog_14_method_93_code 3 none :: xk_gd) rm_Model_checkObjects (xk_Pc D kx_cl (kx_ty ca) (kw_m ad ca) ads xk_F sz [.ref (ad 0)] u) (xk_Qc D kx_cl (kw_m ad ca) ads (xo_v (.inl r)) u') (xk_A ads sz) := by
  unfold fm_Model_checkObjects at h
  refine xk_con (by decide) htr hok (Nat.le_of_ble_eq_true rfl) (fun p e s m below meth c ls C hne hl hP => ?_)
  have hx := C.1.1
  have hb := C.1.2.1
  have hS : va_S (xk_A ads s.heap.size) s.heap s.heap [] := va_S.rf
  have hl : lv_has ls 3 [(0, .ref (ad 0))] := hl
  refine lv_aload_n hx hb dd_Model_checkObjects_0 rfl (lv_at hl 0 rfl) ?_
  refine gf_m_Model_0_sub C hP dd_Model_checkObjects_1 ?_
  refine lv_bipush (v := 6) hx hb dd_Model_checkObjects_4 (by decide) ?_
  refine lv_icmp_ge (tgt := 16) hx hb dd_Model_checkObjects_6 (by decide) (fun hc => ?_) (fun hc => ?_)
  · have h := xp_t hc h
    refine lv_aload_n hx hb dd_Model_checkObjects_16 rfl (lv_at hl 0 rfl) ?_
    refine gf_m_Model_0_sub C hP dd_Model_checkObjects_17 ?_
    refine lv_bipush (v := 9) hx hb dd_Model_checkObjects_20 (by decide) ?_
    refine lv_icmp_ge (tgt := 32) hx hb dd_Model_checkObjects_22 (by decide) (fun hc => ?_) (fun hc => ?_)
    · have h := xp_t hc h
      refine lv_aload_n hx hb dd_Model_checkObjects_32 rfl (lv_at hl 0 rfl) ?_
      refine gf_m_Model_0_sub C hP dd_Model_checkObjects_33 ?_
      refine lv_bipush (v := 15) hx hb dd_Model_checkObjects_36 (by decide) ?_
      refine lv_icmp_ne (tgt := 109) hx hb dd_Model_checkObjects_38 (by decide) (fun hc => ?_) (fun hc => ?_)
      · have h := xp_f hc h
        refine lv_aload_n hx hb dd_Model_checkObjects_109 rfl (lv_at hl 0 rfl) ?_
        refine gf_m_Model_0_sub C hP dd_Model_checkObjects_110 ?_
        refine lv_bipush (v := 17) hx hb dd_Model_checkObjects_113 (by decide) ?_
        refine lv_icmp_ge (tgt := 125) hx hb dd_Model_checkObjects_115 (by decide) (fun hc => ?_) (fun hc => ?_)
        · have h := xp_t hc h
          refine lv_aload_n hx hb dd_Model_checkObjects_125 rfl (lv_at hl 0 rfl) ?_
          refine gf_m_Model_0_sub C hP dd_Model_checkObjects_126 ?_
          refine lv_bipush (v := 24) hx hb dd_Model_checkObjects_129 (by decide) ?_
          refine lv_icmp_ge (tgt := 206) hx hb dd_Model_checkObjects_131 (by decide) (fun hc => ?_) (fun hc => ?_)
          · have h := xp_t hc h
            refine lv_aload_n hx hb dd_Model_checkObjects_206 rfl (lv_at hl 0 rfl) ?_
            refine gf_m_Model_0_sub C hP dd_Model_checkObjects_207 ?_
            refine lv_bipush (v := 28) hx hb dd_Model_checkObjects_210 (by decide) ?_
            refine lv_icmp_ne (tgt := 232) hx hb dd_Model_checkObjects_212 (by decide) (fun hc => ?_) (fun hc => ?_)
            · have h := xp_f hc h
              refine lv_aload_n hx hb dd_Model_checkObjects_232 rfl (lv_at hl 0 rfl) ?_
              refine lv_iconst (v := 1) hx hb dd_Model_checkObjects_233 (by decide) ?_
              refine lv_iconst (v := 1) hx hb dd_Model_checkObjects_234 (by decide) ?_
              obtain ⟨a1, u2, hq, h⟩ := xp_seq h
              refine xk_goesI (xr_S (As := [.int (1 : Int32), .int (1 : Int32)]) (rest := [.ref (ad 0)]) C hP hS (ct_Model_reference htr hok hq) kq_Model_203 ⟨rfl, rfl, Nat.le_of_ble_eq_true rfl, Nat.le_of_ble_eq_true rfl⟩ ⟨Nat.le_of_ble_eq_true rfl, Nat.le_of_ble_eq_true rfl⟩ hl.1 rfl rfl (Nat.le_of_ble_eq_true rfl) dd_Model_checkObjects_235) hS (fun H locs hP hS => ?_)
              clear hq
              obtain ⟨rx, u3, hq, h⟩ := xp_seq h
              refine xk_goesV (xr_V (As := [.int a1]) (rest := []) C hP hS (ct_Model_take htr hok hq) kq_Model_504 0 11 rfl rfl ⟨rfl, rfl, Nat.le_of_ble_eq_true rfl, Nat.le_of_ble_eq_true rfl⟩ ⟨Nat.le_of_ble_eq_true rfl, Nat.le_of_ble_eq_true rfl⟩ hl.1 rfl rfl (Nat.le_of_ble_eq_true rfl) dd_Model_checkObjects_238) hS (fun H locs hP hS => ?_)
              clear hq
              refine lv_aload_n hx hb dd_Model_checkObjects_241 rfl (lv_at hl 0 rfl) ?_
              refine lv_iconst (v := 1) hx hb dd_Model_checkObjects_242 (by decide) ?_
              obtain ⟨rx, u4, hq, h⟩ := xp_seq h
              refine xk_goesV (xr_V (As := [.int (1 : Int32)]) (rest := []) C hP hS (ct_Model_push htr hok hq) kq_Model_507 0 11 rfl rfl ⟨rfl, rfl, Nat.le_of_ble_eq_true rfl, Nat.le_of_ble_eq_true rfl⟩ ⟨Nat.le_of_ble_eq_true rfl, Nat.le_of_ble_eq_true rfl⟩ hl.1 rfl rfl (Nat.le_of_ble_eq_true rfl) dd_Model_checkObjects_243) hS (fun H locs hP hS => ?_)
              clear hq
              obtain ⟨rfl, rfl⟩ := xp_r h
              exact xr_vret C hP hS dd_Model_checkObjects_246
            · have h := xp_t hc h
              refine lv_aload_n hx hb dd_Model_checkObjects_215 rfl (lv_at hl 0 rfl) ?_
              refine lv_iconst (v := 1) hx hb dd_Model_checkObjects_216 (by decide) ?_
              obtain ⟨rx, u5, hq, h⟩ := xp_seq h
              refine xk_goesV (xr_V (As := [.int (1 : Int32)]) (rest := []) C hP hS (ct_Model_take htr hok hq) kq_Model_504 0 11 rfl rfl ⟨rfl, rfl, Nat.le_of_ble_eq_true rfl, Nat.le_of_ble_eq_true rfl⟩ ⟨Nat.le_of_ble_eq_true rfl, Nat.le_of_ble_eq_true rfl⟩ hl.1 rfl rfl (Nat.le_of_ble_eq_true rfl) dd_Model_checkObjects_217) hS (fun H locs hP hS => ?_)
              clear hq
              refine lv_aload_n hx hb dd_Model_checkObjects_220 rfl (lv_at hl 0 rfl) ?_
              refine lv_iconst (v := 1) hx hb dd_Model_checkObjects_221 (by decide) ?_
              refine lv_iconst (v := 0) hx hb dd_Model_checkObjects_222 (by decide) ?_
              obtain ⟨a6, u7, hq, h⟩ := xp_seq h
              refine xk_goesI (xr_S (As := [.int (1 : Int32), .int (0 : Int32)]) (rest := [.ref (ad 0)]) C hP hS (ct_Model_reference htr hok hq) kq_Model_203 ⟨rfl, rfl, Nat.le_of_ble_eq_true rfl, Nat.le_of_ble_eq_true rfl⟩ ⟨Nat.le_of_ble_eq_true rfl, Nat.le_of_ble_eq_true rfl⟩ hl.1 rfl rfl (Nat.le_of_ble_eq_true rfl) dd_Model_checkObjects_223) hS (fun H locs hP hS => ?_)
              clear hq
              obtain ⟨rx, u8, hq, h⟩ := xp_seq h
              refine xk_goesV (xr_V (As := [.int a6]) (rest := []) C hP hS (ct_Model_push htr hok hq) kq_Model_507 0 11 rfl rfl ⟨rfl, rfl, Nat.le_of_ble_eq_true rfl, Nat.le_of_ble_eq_true rfl⟩ ⟨Nat.le_of_ble_eq_true rfl, Nat.le_of_ble_eq_true rfl⟩ hl.1 rfl rfl (Nat.le_of_ble_eq_true rfl) dd_Model_checkObjects_226) hS (fun H locs hP hS => ?_)
              clear hq
              refine lv_goto (tgt := 246) hx hb dd_Model_checkObjects_229 (by decide) ?_
              obtain ⟨rfl, rfl⟩ := xp_r h
              exact xr_vret C hP hS dd_Model_checkObjects_246
          · have h := xp_f hc h
            refine lv_aload_n hx hb dd_Model_checkObjects_134 rfl (lv_at hl 0 rfl) ?_
            refine lv_aload_n hx hb dd_Model_checkObjects_135 rfl (lv_at hl 0 rfl) ?_
            refine lv_aload_n hx hb dd_Model_checkObjects_136 rfl (lv_at hl 0 rfl) ?_
            refine gf_m_Model_0_x C hP dd_Model_checkObjects_137 ?_
            refine lv_l2i hx hb dd_Model_checkObjects_140 rfl ?_
            refine lv_aload_n hx hb dd_Model_checkObjects_141 rfl (lv_at hl 0 rfl) ?_
            refine gf_m_Model_0_types C hP dd_Model_checkObjects_142 ?_
            obtain ⟨a9, u10, hq, h⟩ := xp_seq h
            refine xk_goesI (xr_V (As := [.int ((u.2.1 0).toInt32), .int (u.1 12)]) (rest := [.ref (ad 0)]) C hP hS (ct_Model_isObjectType htr hok hq) kq_Model_390 0 11 rfl rfl ⟨rfl, rfl, Nat.le_of_ble_eq_true rfl, Nat.le_of_ble_eq_true rfl⟩ ⟨Nat.le_of_ble_eq_true rfl, Nat.le_of_ble_eq_true rfl⟩ hl.1 rfl rfl (Nat.le_of_ble_eq_true rfl) dd_Model_checkObjects_145) hS (fun H locs hP hS => ?_)
            clear hq
            refine lv_if_ne (tgt := 155) hx hb dd_Model_checkObjects_148 (by decide) (fun hc => ?_) (fun hc => ?_)
            · have h := xp_f hc h
              refine lv_iconst (v := 0) hx hb dd_Model_checkObjects_155 (by decide) ?_
              exact wj_Model_checkObjects_156 htr C hne h hP hS (lv_sub hl [0] rfl)
            · have h := xp_t hc h
              refine lv_iconst (v := 1) hx hb dd_Model_checkObjects_151 (by decide) ?_
              refine lv_goto (tgt := 156) hx hb dd_Model_checkObjects_152 (by decide) ?_
              exact wj_Model_checkObjects_156 htr C hne h hP hS (lv_sub hl [0] rfl)
        · have h := xp_f hc h
          refine lv_aload_n hx hb dd_Model_checkObjects_118 rfl (lv_at hl 0 rfl) ?_
          obtain ⟨rx, u17, hq, h⟩ := xp_seq h
          refine xk_goesV (xr_V (As := []) (rest := []) C hP hS (ct_Model_checkArray htr hok hq) kq_Model_633 0 11 rfl rfl ⟨rfl, rfl, Nat.le_of_ble_eq_true rfl, Nat.le_of_ble_eq_true rfl⟩ ⟨Nat.le_of_ble_eq_true rfl, Nat.le_of_ble_eq_true rfl⟩ hl.1 rfl rfl (Nat.le_of_ble_eq_true rfl) dd_Model_checkObjects_119) hS (fun H locs hP hS => ?_)
          clear hq
          refine lv_goto (tgt := 246) hx hb dd_Model_checkObjects_122 (by decide) ?_
          obtain ⟨rfl, rfl⟩ := xp_r h
          exact xr_vret C hP hS dd_Model_checkObjects_246
      · have h := xp_t hc h
        refine lv_aload_n hx hb dd_Model_checkObjects_41 rfl (lv_at hl 0 rfl) ?_
        obtain ⟨a18, u19, hq, h⟩ := xp_seq h
        refine xk_goesI (xr_V (As := []) (rest := []) C hP hS (ct_Model_takeReference htr hok hq) kq_Model_621 0 11 rfl rfl ⟨rfl, rfl, Nat.le_of_ble_eq_true rfl, Nat.le_of_ble_eq_true rfl⟩ ⟨Nat.le_of_ble_eq_true rfl, Nat.le_of_ble_eq_true rfl⟩ hl.1 rfl rfl (Nat.le_of_ble_eq_true rfl) dd_Model_checkObjects_42) hS (fun H locs hP hS => ?_)
        clear hq
        refine lv_istore_n (lv' := [(1, .int a18), (0, .ref (ad 0))]) hx hb dd_Model_checkObjects_45 rfl hl (by decide) rfl (fun ls hl => ?_)
        refine lv_iload_n hx hb dd_Model_checkObjects_46 rfl (lv_at hl 0 rfl) ?_
        refine lv_if_ne (tgt := 56) hx hb dd_Model_checkObjects_47 (by decide) (fun hc => ?_) (fun hc => ?_)
        · have h := xp_f hc h
          refine lv_iload_n hx hb dd_Model_checkObjects_56 rfl (lv_at hl 0 rfl) ?_
          obtain ⟨a20, u21, hq, h⟩ := xp_seq h
          refine xk_goesI (xr_S (As := [.int a18]) (rest := []) C hP hS (ct_Model_targetOf htr hok hq) kq_Model_387 ⟨rfl, rfl, Nat.le_of_ble_eq_true rfl, Nat.le_of_ble_eq_true rfl⟩ ⟨Nat.le_of_ble_eq_true rfl, Nat.le_of_ble_eq_true rfl⟩ hl.1 rfl rfl (Nat.le_of_ble_eq_true rfl) dd_Model_checkObjects_57) hS (fun H locs hP hS => ?_)
          clear hq
          exact wj_Model_checkObjects_60 htr C hne h hP hS (lv_sub hl [1] rfl)
        · have h := xp_t hc h
          refine lv_sipush (v := 400) hx hb dd_Model_checkObjects_50 (by decide) ?_
          refine lv_goto (tgt := 60) hx hb dd_Model_checkObjects_53 (by decide) ?_
          exact wj_Model_checkObjects_60 htr C hne h hP hS (lv_sub hl [1] rfl)
    · have h := xp_f hc h
      refine lv_aload_n hx hb dd_Model_checkObjects_25 rfl (lv_at hl 0 rfl) ?_
      obtain ⟨rx, u24, hq, h⟩ := xp_seq h
      refine xk_goesV (xr_V (As := []) (rest := []) C hP hS (ct_Model_checkNewArray htr hok hq) kq_Model_630 0 11 rfl rfl ⟨rfl, rfl, Nat.le_of_ble_eq_true rfl, Nat.le_of_ble_eq_true rfl⟩ ⟨Nat.le_of_ble_eq_true rfl, Nat.le_of_ble_eq_true rfl⟩ hl.1 rfl rfl (Nat.le_of_ble_eq_true rfl) dd_Model_checkObjects_26) hS (fun H locs hP hS => ?_)
      clear hq
      refine lv_goto (tgt := 246) hx hb dd_Model_checkObjects_29 (by decide) ?_
      obtain ⟨rfl, rfl⟩ := xp_r h
      exact xr_vret C hP hS dd_Model_checkObjects_246
  · have h := xp_f hc h
    refine lv_aload_n hx hb dd_Model_checkObjects_9 rfl (lv_at hl 0 rfl) ?_
    obtain ⟨rx, u25, hq, h⟩ := xp_seq h
    refine xk_goesV (xr_V (As := []) (rest := []) C hP hS (ct_Model_checkStructure htr hok hq) kq_Model_627 0 11 rfl rfl ⟨rfl, rfl, Nat.le_of_ble_eq_true rfl, Nat.le_of_ble_eq_true rfl⟩ ⟨Nat.le_of_ble_eq_true rfl, Nat.le_of_ble_eq_true rfl⟩ hl.1 rfl rfl (Nat.le_of_ble_eq_true rfl) dd_Model_checkObjects_10) hS (fun H locs hP hS => ?_)
    clear hq
    refine lv_goto (tgt := 246) hx hb dd_Model_checkObjects_13 (by decide) ?_
    obtain ⟨rfl, rfl⟩ := xp_r h
    exact xr_vret C hP hS dd_Model_checkObjects_246
abbrev rm_Model_out : Room := { frames := 1, cells := 1, slots := 6, locals := 0 }
noncomputable def fm_Model_out (x0 : Int64) (u : xk_St) : Option (Int32 × xk_St) :=
  if x0 < ((u.1 22).toInt64) then (some ((((u.1 22) - (1 : Int32)) - (x0.toInt32)), u)) else ((xs_let (xs_I u 7 (1 : Int32)) fun u1 => some ((-1 : Int32), u1)))
set_option maxHeartbeats 4000000 in
set_option maxRecDepth 100000 in
theorem ct_Model_out {l : Launch} {D : va_G} {ad : Nat → Nat} {ca : Nat → ClassId} {ads : List Nat} (htr : l.stackTraces = false) (hok : xk_ok (kw_m ad ca) ads) {x0 : Int64} {u u' : xk_St} {r : Int32} (h : fm_Model_out x0 u = some (r, u')) :
    ∀ sz, xk_Met l ⟨"ModuleHouseModel", "out", "(J)I"⟩ (Cond.code ⟨"ModuleHouseModel", "out", "(J)I"⟩ prog_14_method_69_code 3 (some .int) :: xk_gd) rm_Model_out (xk_Pc D kx_cl (kx_ty ca) (kw_m ad ca) ads xk_F sz [.ref (ad 0), .long x0] u) (xk_Qc D kx_cl (kw_m ad ca) ads (xo_i (.inl r)) u') (xk_A ads sz) := by
  unfold fm_Model_out at h
  refine xk_con (by decide) htr hok (Nat.le_of_ble_eq_true rfl) (fun p e s m below meth c ls C hne hl hP => ?_)
  have hx := C.1.1
  have hb := C.1.2.1
  have hS : va_S (xk_A ads s.heap.size) s.heap s.heap [] := va_S.rf
  have hl : lv_has ls 3 [(0, .ref (ad 0)), (1, .long x0)] := hl
  refine lv_lload_n hx hb dd_Model_out_0 rfl (lv_at hl 1 rfl) ?_
  refine lv_aload_n hx hb dd_Model_out_1 rfl (lv_at hl 0 rfl) ?_
  refine gf_m_Model_0_blocks C hP dd_Model_out_2 ?_
  refine lv_i2l hx hb dd_Model_out_5 rfl ?_
  refine xr_lc_lt (tgt := 17) hx hb dd_Model_out_6 dd_Model_out_7 (by decide) (fun hc => ?_) (fun hc => ?_)
  · have h := xp_t hc h
    refine lv_aload_n hx hb dd_Model_out_17 rfl (lv_at hl 0 rfl) ?_
    refine gf_m_Model_0_blocks C hP dd_Model_out_18 ?_
    refine lv_iconst (v := 1) hx hb dd_Model_out_21 (by decide) ?_
    refine lv_isub hx hb dd_Model_out_22 ?_
    refine lv_lload_n hx hb dd_Model_out_23 rfl (lv_at hl 1 rfl) ?_
    refine lv_l2i hx hb dd_Model_out_24 rfl ?_
    refine lv_isub hx hb dd_Model_out_25 ?_
    obtain ⟨rfl, rfl⟩ := xp_r h
    exact xr_iret C hP hS dd_Model_out_26
  · have h := xp_f hc h
    refine lv_aload_n hx hb dd_Model_out_10 rfl (lv_at hl 0 rfl) ?_
    refine lv_iconst (v := 1) hx hb dd_Model_out_11 (by decide) ?_
    refine pf_m_Model_0_wrong C hP hS (by decide) dd_Model_out_12 (fun H locs hP hS => ?_)
    obtain ⟨u1, eu1, h⟩ := xp_let h
    rw [← eu1] at hP
    refine lv_iconst (v := (-1)) hx hb dd_Model_out_15 (by decide) ?_
    obtain ⟨rfl, rfl⟩ := xp_r h
    exact xr_iret C hP hS dd_Model_out_16
abbrev rm_Model_leadsToResults : Room := { frames := 1, cells := 1, slots := 6, locals := 0 }
noncomputable def fm_Model_leadsToResults (x0 : Int32) (u : xk_St) : Option (Int32 × xk_St) :=
  (if x0 < 0 ∨ 101 ≤ x0.toNatClampNeg then none else if (u.2.2.1 24 x0.toNatClampNeg) = (3 : Int32) then (some ((0 : Int32), u)) else (some ((1 : Int32), u)))
set_option maxHeartbeats 4000000 in
set_option maxRecDepth 100000 in
theorem ct_Model_leadsToResults {l : Launch} {D : va_G} {ad : Nat → Nat} {ca : Nat → ClassId} {ads : List Nat} (htr : l.stackTraces = false) (hok : xk_ok (kw_m ad ca) ads) {x0 : Int32} {u u' : xk_St} {r : Int32} (h : fm_Model_leadsToResults x0 u = some (r, u')) :
    ∀ sz, xk_Met l ⟨"ModuleHouseModel", "leadsToResults", "(I)Z"⟩ (Cond.code ⟨"ModuleHouseModel", "leadsToResults", "(I)Z"⟩ prog_14_method_70_code 2 (some .boolean) :: xk_gd) rm_Model_leadsToResults (xk_Pc D kx_cl (kx_ty ca) (kw_m ad ca) ads xk_F sz [.ref (ad 0), .int x0] u) (xk_Qc D kx_cl (kw_m ad ca) ads (xo_i (.inl r)) u') (xk_A ads sz) := by
  unfold fm_Model_leadsToResults at h
  refine xk_con (by decide) htr hok (Nat.le_of_ble_eq_true rfl) (fun p e s m below meth c ls C hne hl hP => ?_)
  have hx := C.1.1
  have hb := C.1.2.1
  have hS : va_S (xk_A ads s.heap.size) s.heap s.heap [] := va_S.rf
  have hl : lv_has ls 2 [(0, .ref (ad 0)), (1, .int x0)] := hl
  refine lv_aload_n hx hb dd_Model_leadsToResults_0 rfl (lv_at hl 0 rfl) ?_
  refine gf_m_Model_0_blockOp C hP dd_Model_leadsToResults_1 ?_
  refine lv_iload_n hx hb dd_Model_leadsToResults_4 rfl (lv_at hl 1 rfl) ?_
  obtain ⟨hi, h⟩ := xp_g h
  refine al_m_26 C hP hi dd_Model_leadsToResults_5 ?_
  refine lv_iconst (v := 3) hx hb dd_Model_leadsToResults_6 (by decide) ?_
  refine lv_icmp_eq (tgt := 14) hx hb dd_Model_leadsToResults_7 (by decide) (fun hc => ?_) (fun hc => ?_)
  · have h := xp_t hc h
    refine lv_iconst (v := 0) hx hb dd_Model_leadsToResults_14 (by decide) ?_
    obtain ⟨rfl, rfl⟩ := xp_r h
    exact xr_zret C hP hS (by decide) dd_Model_leadsToResults_15
  · have h := xp_f hc h
    refine lv_iconst (v := 1) hx hb dd_Model_leadsToResults_10 (by decide) ?_
    refine lv_goto (tgt := 15) hx hb dd_Model_leadsToResults_11 (by decide) ?_
    obtain ⟨rfl, rfl⟩ := xp_r h
    exact xr_zret C hP hS (by decide) dd_Model_leadsToResults_15
abbrev rm_Model_countOf : Room := { frames := 1, cells := 1, slots := 6, locals := 0 }
noncomputable def fm_Model_countOf (x0 : Int64) (x1 : Int32) (u : xk_St) : Option (Int32 × xk_St) :=
  if (0 : Int64) ≤ x0 then (if x1 = (0 : Int32) then ((if (x0.toInt32) < 0 ∨ 64 ≤ (x0.toInt32).toNatClampNeg then none else some ((u.2.2.1 5 (x0.toInt32).toNatClampNeg), u))) else ((if (x0.toInt32) < 0 ∨ 64 ≤ (x0.toInt32).toNatClampNeg then none else some ((u.2.2.1 6 (x0.toInt32).toNatClampNeg), u)))) else (if x1 = (0 : Int32) then (some ((0 : Int32), u)) else (if (-1 : Int64) ≤ x0 then (some ((0 : Int32), u)) else (some ((1 : Int32), u))))
set_option maxHeartbeats 4000000 in
set_option maxRecDepth 100000 in
theorem ct_Model_countOf {l : Launch} {D : va_G} {ad : Nat → Nat} {ca : Nat → ClassId} {ads : List Nat} (htr : l.stackTraces = false) (hok : xk_ok (kw_m ad ca) ads) {x0 : Int64} {x1 : Int32} {u u' : xk_St} {r : Int32} (h : fm_Model_countOf x0 x1 u = some (r, u')) :
    ∀ sz, xk_Met l ⟨"ModuleHouseModel", "countOf", "(JZ)I"⟩ (Cond.code ⟨"ModuleHouseModel", "countOf", "(JZ)I"⟩ prog_14_method_63_code 4 (some .int) :: xk_gd) rm_Model_countOf (xk_Pc D kx_cl (kx_ty ca) (kw_m ad ca) ads xk_F sz [.ref (ad 0), .long x0, .int x1] u) (xk_Qc D kx_cl (kw_m ad ca) ads (xo_i (.inl r)) u') (xk_A ads sz) := by
  unfold fm_Model_countOf at h
  refine xk_con (by decide) htr hok (Nat.le_of_ble_eq_true rfl) (fun p e s m below meth c ls C hne hl hP => ?_)
  have hx := C.1.1
  have hb := C.1.2.1
  have hS : va_S (xk_A ads s.heap.size) s.heap s.heap [] := va_S.rf
  have hl : lv_has ls 4 [(0, .ref (ad 0)), (1, .long x0), (3, .int x1)] := hl
  refine lv_lload_n hx hb dd_Model_countOf_0 rfl (lv_at hl 1 rfl) ?_
  refine lv_lconst (v := 0) hx hb dd_Model_countOf_1 (by decide) ?_
  refine xr_lc_ge (tgt := 24) hx hb dd_Model_countOf_2 dd_Model_countOf_3 (by decide) (fun hc => ?_) (fun hc => ?_)
  · have h := xp_t hc h
    refine lv_iload_n hx hb dd_Model_countOf_24 rfl (lv_at hl 2 rfl) ?_
    refine lv_if_eq (tgt := 38) hx hb dd_Model_countOf_25 (by decide) (fun hc => ?_) (fun hc => ?_)
    · have h := xp_t hc h
      refine lv_aload_n hx hb dd_Model_countOf_38 rfl (lv_at hl 0 rfl) ?_
      refine gf_m_Model_0_partMany C hP dd_Model_countOf_39 ?_
      refine lv_lload_n hx hb dd_Model_countOf_42 rfl (lv_at hl 1 rfl) ?_
      refine lv_l2i hx hb dd_Model_countOf_43 rfl ?_
      obtain ⟨hi, h⟩ := xp_g h
      refine al_m_7 C hP hi dd_Model_countOf_44 ?_
      obtain ⟨rfl, rfl⟩ := xp_r h
      exact xr_iret C hP hS dd_Model_countOf_45
    · have h := xp_f hc h
      refine lv_aload_n hx hb dd_Model_countOf_28 rfl (lv_at hl 0 rfl) ?_
      refine gf_m_Model_0_resultTypes C hP dd_Model_countOf_29 ?_
      refine lv_lload_n hx hb dd_Model_countOf_32 rfl (lv_at hl 1 rfl) ?_
      refine lv_l2i hx hb dd_Model_countOf_33 rfl ?_
      obtain ⟨hi, h⟩ := xp_g h
      refine al_m_8 C hP hi dd_Model_countOf_34 ?_
      refine lv_goto (tgt := 45) hx hb dd_Model_countOf_35 (by decide) ?_
      obtain ⟨rfl, rfl⟩ := xp_r h
      exact xr_iret C hP hS dd_Model_countOf_45
  · have h := xp_f hc h
    refine lv_iload_n hx hb dd_Model_countOf_6 rfl (lv_at hl 2 rfl) ?_
    refine lv_if_eq (tgt := 22) hx hb dd_Model_countOf_7 (by decide) (fun hc => ?_) (fun hc => ?_)
    · have h := xp_t hc h
      refine lv_iconst (v := 0) hx hb dd_Model_countOf_22 (by decide) ?_
      obtain ⟨rfl, rfl⟩ := xp_r h
      exact xr_iret C hP hS dd_Model_countOf_23
    · have h := xp_f hc h
      refine lv_lload_n hx hb dd_Model_countOf_10 rfl (lv_at hl 1 rfl) ?_
      refine lv_ldc2 (v := (-1)) hx hb C.1.2.2.2.1 (C.1.2.2.2.2 _ (xk_c9 (w := Jvm.Cond.constantLong "ModuleHouseModel" 184 (-1)) 138 rfl rfl)) dd_Model_countOf_11 ?_
      refine xr_lc_ge (tgt := 22) hx hb dd_Model_countOf_14 dd_Model_countOf_15 (by decide) (fun hc => ?_) (fun hc => ?_)
      · have h := xp_t hc h
        refine lv_iconst (v := 0) hx hb dd_Model_countOf_22 (by decide) ?_
        obtain ⟨rfl, rfl⟩ := xp_r h
        exact xr_iret C hP hS dd_Model_countOf_23
      · have h := xp_f hc h
        refine lv_iconst (v := 1) hx hb dd_Model_countOf_18 (by decide) ?_
        refine lv_goto (tgt := 23) hx hb dd_Model_countOf_19 (by decide) ?_
        obtain ⟨rfl, rfl⟩ := xp_r h
        exact xr_iret C hP hS dd_Model_countOf_23
abbrev rm_Model_typeOf : Room := { frames := 1, cells := 1, slots := 6, locals := 0 }
noncomputable def fm_Model_typeOf (x0 : Int64) (x1 : Int32) (x2 : Int32) (u : xk_St) : Option (Int32 × xk_St) :=
  if (0 : Int64) ≤ x0 then (if x1 = (0 : Int32) then ((if ((((32 : Int32) * (x0.toInt32)) + (0 : Int32)) + x2) < 0 ∨ 2048 ≤ ((((32 : Int32) * (x0.toInt32)) + (0 : Int32)) + x2).toNatClampNeg then none else some ((u.2.2.1 7 ((((32 : Int32) * (x0.toInt32)) + (0 : Int32)) + x2).toNatClampNeg), u))) else ((if ((((32 : Int32) * (x0.toInt32)) + (16 : Int32)) + x2) < 0 ∨ 2048 ≤ ((((32 : Int32) * (x0.toInt32)) + (16 : Int32)) + x2).toNatClampNeg then none else some ((u.2.2.1 7 ((((32 : Int32) * (x0.toInt32)) + (16 : Int32)) + x2).toNatClampNeg), u)))) else (some ((((-2 : Int64) - x0).toInt32), u))
set_option maxHeartbeats 4000000 in
set_option maxRecDepth 100000 in
theorem ct_Model_typeOf {l : Launch} {D : va_G} {ad : Nat → Nat} {ca : Nat → ClassId} {ads : List Nat} (htr : l.stackTraces = false) (hok : xk_ok (kw_m ad ca) ads) {x0 : Int64} {x1 : Int32} {x2 : Int32} {u u' : xk_St} {r : Int32} (h : fm_Model_typeOf x0 x1 x2 u = some (r, u')) :
    ∀ sz, xk_Met l ⟨"ModuleHouseModel", "typeOf", "(JZI)I"⟩ (Cond.code ⟨"ModuleHouseModel", "typeOf", "(JZI)I"⟩ prog_14_method_64_code 5 (some .int) :: xk_gd) rm_Model_typeOf (xk_Pc D kx_cl (kx_ty ca) (kw_m ad ca) ads xk_F sz [.ref (ad 0), .long x0, .int x1, .int x2] u) (xk_Qc D kx_cl (kw_m ad ca) ads (xo_i (.inl r)) u') (xk_A ads sz) := by
  unfold fm_Model_typeOf at h
  refine xk_con (by decide) htr hok (Nat.le_of_ble_eq_true rfl) (fun p e s m below meth c ls C hne hl hP => ?_)
  have hx := C.1.1
  have hb := C.1.2.1
  have hS : va_S (xk_A ads s.heap.size) s.heap s.heap [] := va_S.rf
  have hl : lv_has ls 5 [(0, .ref (ad 0)), (1, .long x0), (3, .int x1), (4, .int x2)] := hl
  refine lv_lload_n hx hb dd_Model_typeOf_0 rfl (lv_at hl 1 rfl) ?_
  refine lv_lconst (v := 0) hx hb dd_Model_typeOf_1 (by decide) ?_
  refine xr_lc_ge (tgt := 13) hx hb dd_Model_typeOf_2 dd_Model_typeOf_3 (by decide) (fun hc => ?_) (fun hc => ?_)
  · have h := xp_t hc h
    refine lv_aload_n hx hb dd_Model_typeOf_13 rfl (lv_at hl 0 rfl) ?_
    refine gf_m_Model_0_parts C hP dd_Model_typeOf_14 ?_
    refine lv_bipush (v := 32) hx hb dd_Model_typeOf_17 (by decide) ?_
    refine lv_lload_n hx hb dd_Model_typeOf_19 rfl (lv_at hl 1 rfl) ?_
    refine lv_l2i hx hb dd_Model_typeOf_20 rfl ?_
    refine lv_imul hx hb dd_Model_typeOf_21 ?_
    refine lv_iload_n hx hb dd_Model_typeOf_22 rfl (lv_at hl 2 rfl) ?_
    refine lv_if_eq (tgt := 31) hx hb dd_Model_typeOf_23 (by decide) (fun hc => ?_) (fun hc => ?_)
    · have h := xp_t hc h
      refine lv_iconst (v := 0) hx hb dd_Model_typeOf_31 (by decide) ?_
      refine lv_iadd hx hb dd_Model_typeOf_32 ?_
      refine lv_iload hx hb dd_Model_typeOf_33 (lv_at hl 3 rfl) ?_
      refine lv_iadd hx hb dd_Model_typeOf_35 ?_
      obtain ⟨hi, h⟩ := xp_g h
      refine al_m_9 C hP hi dd_Model_typeOf_36 ?_
      obtain ⟨rfl, rfl⟩ := xp_r h
      exact xr_iret C hP hS dd_Model_typeOf_37
    · have h := xp_f hc h
      refine lv_bipush (v := 16) hx hb dd_Model_typeOf_26 (by decide) ?_
      refine lv_goto (tgt := 32) hx hb dd_Model_typeOf_28 (by decide) ?_
      refine lv_iadd hx hb dd_Model_typeOf_32 ?_
      refine lv_iload hx hb dd_Model_typeOf_33 (lv_at hl 3 rfl) ?_
      refine lv_iadd hx hb dd_Model_typeOf_35 ?_
      obtain ⟨hi, h⟩ := xp_g h
      refine al_m_9 C hP hi dd_Model_typeOf_36 ?_
      obtain ⟨rfl, rfl⟩ := xp_r h
      exact xr_iret C hP hS dd_Model_typeOf_37
  · have h := xp_f hc h
    refine lv_ldc2 (v := (-2)) hx hb C.1.2.2.2.1 (C.1.2.2.2.2 _ (xk_c9 (w := Jvm.Cond.constantLong "ModuleHouseModel" 213 (-2)) 206 rfl rfl)) dd_Model_typeOf_6 ?_
    refine lv_lload_n hx hb dd_Model_typeOf_9 rfl (lv_at hl 1 rfl) ?_
    refine lv_lsub hx hb dd_Model_typeOf_10 ?_
    refine lv_l2i hx hb dd_Model_typeOf_11 rfl ?_
    obtain ⟨rfl, rfl⟩ := xp_r h
    exact xr_iret C hP hS dd_Model_typeOf_12
abbrev rm_Model_notNull : Room := { frames := 2, cells := 1, slots := 6, locals := 21 }
noncomputable def fm_Model_notNull (x0 : Int32) (u : xk_St) : Option (Int32 × xk_St) :=
  if x0 = (0 : Int32) then ((xs_seq (fm_Model_reference (400 : Int32) (0 : Int32) u) fun a1 u2 => some (a1, u2))) else (some ((x0 &&& (-2 : Int32)), u))
set_option maxHeartbeats 4000000 in
set_option maxRecDepth 100000 in
theorem ct_Model_notNull {l : Launch} {D : va_G} {ad : Nat → Nat} {ca : Nat → ClassId} {ads : List Nat} (htr : l.stackTraces = false) (hok : xk_ok (kw_m ad ca) ads) {x0 : Int32} {u u' : xk_St} {r : Int32} (h : fm_Model_notNull x0 u = some (r, u')) :
    ∀ sz, xk_Met l ⟨"ModuleHouseModel", "notNull", "(I)I"⟩ (Cond.code ⟨"ModuleHouseModel", "notNull", "(I)I"⟩ prog_14_method_62_code 1 (some .int) :: xk_gd) rm_Model_notNull (xk_Pc D kx_cl (kx_ty ca) (kw_m ad ca) ads xk_F sz [.int x0] u) (xk_Qc D kx_cl (kw_m ad ca) ads (xo_i (.inl r)) u') (xk_A ads sz) := by
  unfold fm_Model_notNull at h
  refine xk_con (by decide) htr hok (Nat.le_of_ble_eq_true rfl) (fun p e s m below meth c ls C hne hl hP => ?_)
  have hx := C.1.1
  have hb := C.1.2.1
  have hS : va_S (xk_A ads s.heap.size) s.heap s.heap [] := va_S.rf
  have hl : lv_has ls 1 [(0, .int x0)] := hl
  refine lv_iload_n hx hb dd_Model_notNull_0 rfl (lv_at hl 0 rfl) ?_
  refine lv_if_ne (tgt := 14) hx hb dd_Model_notNull_1 (by decide) (fun hc => ?_) (fun hc => ?_)
  · have h := xp_f hc h
    refine lv_iload_n hx hb dd_Model_notNull_14 rfl (lv_at hl 0 rfl) ?_
    refine lv_bipush (v := (-2)) hx hb dd_Model_notNull_15 (by decide) ?_
    refine lv_iand hx hb dd_Model_notNull_17 ?_
    obtain ⟨rfl, rfl⟩ := xp_r h
    exact xr_iret C hP hS dd_Model_notNull_18
  · have h := xp_t hc h
    refine lv_sipush (v := 400) hx hb dd_Model_notNull_4 (by decide) ?_
    refine lv_iconst (v := 0) hx hb dd_Model_notNull_7 (by decide) ?_
    obtain ⟨a1, u2, hq, h⟩ := xp_seq h
    refine xk_goesI (xr_S (As := [.int (400 : Int32), .int (0 : Int32)]) (rest := []) C hP hS (ct_Model_reference htr hok hq) kq_Model_203 ⟨rfl, rfl, Nat.le_of_ble_eq_true rfl, Nat.le_of_ble_eq_true rfl⟩ ⟨Nat.le_of_ble_eq_true rfl, Nat.le_of_ble_eq_true rfl⟩ hl.1 rfl rfl (Nat.le_of_ble_eq_true rfl) dd_Model_notNull_8) hS (fun H locs hP hS => ?_)
    clear hq
    refine lv_goto (tgt := 18) hx hb dd_Model_notNull_11 (by decide) ?_
    obtain ⟨rfl, rfl⟩ := xp_r h
    exact xr_iret C hP hS dd_Model_notNull_18
abbrev rm_Model_takeAll : Room := { frames := 4, cells := 1, slots := 6, locals := 65 }
noncomputable def jb_Model_takeAll_10 (fu : Nat) : Nat → Int64 → Int32 → Int32 → xk_St → Option (Unit × xk_St)
  | 0 => fun _ _ _ _ => none
  | n + 1 => fun b1 b3 b4 u =>
    xs_let (jb_Model_takeAll_10 fu  n) fun k10 =>
    if b4 < (0 : Int32) then (some ((()), u)) else ((xs_seq (fm_Model_typeOf b1 b3 b4 u) fun a4 u5 => xs_seq (fm_Model_take a4 u5) fun _ u6 => xs_let (b4 + (-1 : Int32)) fun a7 => k10 b1 b3 a7 u6))
noncomputable def fm_Model_takeAll (fu : Nat) (x0 : Int64) (x1 : Int32) (u : xk_St) : Option (Unit × xk_St) :=
  (xs_seq (fm_Model_countOf x0 x1 u) fun a1 u2 => xs_let (a1 - (1 : Int32)) fun a3 => jb_Model_takeAll_10 fu fu x0 x1 a3 u2)
set_option maxHeartbeats 4000000 in
set_option maxRecDepth 100000 in
theorem wj_Model_takeAll_10 {p : Program} {l : Launch} {e : Env} {s : State} {m : MethodId} {args : Array Value} {below : List Frame} {meth : Method} {c : Code} {D : va_G} {ad : Nat → Nat} {ca : Nat → ClassId} {ads : List Nat} {fu : Nat} (htr : l.stackTraces = false) (C : xk_C D kx_cl (kx_ty ca) (kw_m ad ca) ads "ModuleHouseModel" prog_14_method_65_code 5 none p e s m args meth c) (hne : c.exceptionTable.isEmpty = true) {u' : xk_St} {r : Unit} : ∀ {n : Nat} {b1 : Int64} {b3 : Int32} {b4 : Int32} {u : xk_St} {H : Heap} {locs : List Loc} {ls : Array Slot} (h : jb_Model_takeAll_10 fu  n b1 b3 b4 u = some (r, u')) (hP : va_P D kx_cl (kw_m ad ca u) H) (hS : va_S (xk_A ads s.heap.size) s.heap H locs) (hl : lv_has ls 5 [(0, .ref (ad 0)), (1, .long b1), (3, .int b3), (4, .int b4)]), W p l e rm_Model_takeAll s m args below meth c H locs 0 0 (xk_MQ below (xk_Qc D kx_cl (kw_m ad ca) ads (xo_v (.inl r)) u') args s (xk_A ads s.heap.size)) (F0 m 10 ls []) := by
  intro n
  have hx := C.1.1
  have hb := C.1.2.1
  have hok := C.2.2.1
  induction n with
  | zero =>
    intro _ _ _ u H locs ls h
    have h : none = some (r, u') := h
    cases h
  | succ n ih =>
    intro b1 b3 b4 u H locs ls h hP hS hl
    unfold jb_Model_takeAll_10 at h
    obtain ⟨k10, ek10, h⟩ := xp_let h
    have hk10 : ∀ (c0 : Int64) (c1 : Int32) (c2 : Int32) (u : xk_St) (H : Heap) (locs : List Loc) (ls : Array Slot), k10 c0 c1 c2 u = some (r, u') → va_P D kx_cl (kw_m ad ca u) H → va_S (xk_A ads s.heap.size) s.heap H locs → lv_has ls 5 [(0, .ref (ad 0)), (1, .long c0), (3, .int c1), (4, .int c2)] → W p l e rm_Model_takeAll s m args below meth c H locs 0 0 (xk_MQ below (xk_Qc D kx_cl (kw_m ad ca) ads (xo_v (.inl r)) u') args s (xk_A ads s.heap.size)) (F0 m 10 ls []) := by
      intro c0 c1 c2 u H locs ls h hP hS hl
      subst ek10
      exact ih h hP hS hl
    clear ih ek10
    refine lv_iload hx hb dd_Model_takeAll_10 (lv_at hl 3 rfl) ?_
    refine lv_if_lt (tgt := 33) hx hb dd_Model_takeAll_12 (by decide) (fun hc => ?_) (fun hc => ?_)
    · have h := xp_t hc h
      obtain ⟨rfl, rfl⟩ := xp_r h
      exact xr_vret C hP hS dd_Model_takeAll_33
    · have h := xp_f hc h
      refine lv_aload_n hx hb dd_Model_takeAll_15 rfl (lv_at hl 0 rfl) ?_
      refine lv_aload_n hx hb dd_Model_takeAll_16 rfl (lv_at hl 0 rfl) ?_
      refine lv_lload_n hx hb dd_Model_takeAll_17 rfl (lv_at hl 1 rfl) ?_
      refine lv_iload_n hx hb dd_Model_takeAll_18 rfl (lv_at hl 2 rfl) ?_
      refine lv_iload hx hb dd_Model_takeAll_19 (lv_at hl 3 rfl) ?_
      obtain ⟨a4, u5, hq, h⟩ := xp_seq h
      refine xk_goesI (xr_V (As := [.long b1, .int b3, .int b4]) (rest := [.ref (ad 0)]) C hP hS (ct_Model_typeOf htr hok hq) kq_Model_500 0 11 rfl rfl ⟨rfl, rfl, Nat.le_of_ble_eq_true rfl, Nat.le_of_ble_eq_true rfl⟩ ⟨Nat.le_of_ble_eq_true rfl, Nat.le_of_ble_eq_true rfl⟩ hl.1 rfl rfl (Nat.le_of_ble_eq_true rfl) dd_Model_takeAll_21) hS (fun H locs hP hS => ?_)
      clear hq
      obtain ⟨rx, u6, hq, h⟩ := xp_seq h
      refine xk_goesV (xr_V (As := [.int a4]) (rest := []) C hP hS (ct_Model_take htr hok hq) kq_Model_504 0 11 rfl rfl ⟨rfl, rfl, Nat.le_of_ble_eq_true rfl, Nat.le_of_ble_eq_true rfl⟩ ⟨Nat.le_of_ble_eq_true rfl, Nat.le_of_ble_eq_true rfl⟩ hl.1 rfl rfl (Nat.le_of_ble_eq_true rfl) dd_Model_takeAll_24) hS (fun H locs hP hS => ?_)
      clear hq
      obtain ⟨a7, ea7, h⟩ := xp_let h
      refine lv_iinc (v := a7) (lv' := [(4, .int a7), (0, .ref (ad 0)), (1, .long b1), (3, .int b3)]) hx hb dd_Model_takeAll_27 hl (k := 3) rfl (by rw [ea7]; first | rfl | decide) (by decide) rfl (fun ls hl => ?_)
      refine lv_goto (tgt := 10) hx hb dd_Model_takeAll_30 (by decide) ?_
      exact hk10 b1 b3 a7 u6 _ _ _ h hP hS (lv_sub hl [1, 2, 3, 0] rfl)
set_option maxHeartbeats 4000000 in
set_option maxRecDepth 100000 in
theorem ct_Model_takeAll {l : Launch} {D : va_G} {ad : Nat → Nat} {ca : Nat → ClassId} {ads : List Nat} (htr : l.stackTraces = false) (hok : xk_ok (kw_m ad ca) ads) {fu : Nat} {x0 : Int64} {x1 : Int32} {u u' : xk_St} {r : Unit} (h : fm_Model_takeAll fu x0 x1 u = some (r, u')) :
    ∀ sz, xk_Met l ⟨"ModuleHouseModel", "takeAll", "(JZ)V"⟩ (Cond.code ⟨"ModuleHouseModel", "takeAll", "(JZ)V"⟩ prog_14_method_65_code 5 none :: xk_gd) rm_Model_takeAll (xk_Pc D kx_cl (kx_ty ca) (kw_m ad ca) ads xk_F sz [.ref (ad 0), .long x0, .int x1] u) (xk_Qc D kx_cl (kw_m ad ca) ads (xo_v (.inl r)) u') (xk_A ads sz) := by
  unfold fm_Model_takeAll at h
  refine xk_con (by decide) htr hok (Nat.le_of_ble_eq_true rfl) (fun p e s m below meth c ls C hne hl hP => ?_)
  have hx := C.1.1
  have hb := C.1.2.1
  have hS : va_S (xk_A ads s.heap.size) s.heap s.heap [] := va_S.rf
  have hl : lv_has ls 5 [(0, .ref (ad 0)), (1, .long x0), (3, .int x1)] := hl
  refine lv_aload_n hx hb dd_Model_takeAll_0 rfl (lv_at hl 0 rfl) ?_
  refine lv_lload_n hx hb dd_Model_takeAll_1 rfl (lv_at hl 1 rfl) ?_
  refine lv_iload_n hx hb dd_Model_takeAll_2 rfl (lv_at hl 2 rfl) ?_
  obtain ⟨a1, u2, hq, h⟩ := xp_seq h
  refine xk_goesI (xr_V (As := [.long x0, .int x1]) (rest := []) C hP hS (ct_Model_countOf htr hok hq) kq_Model_496 0 11 rfl rfl ⟨rfl, rfl, Nat.le_of_ble_eq_true rfl, Nat.le_of_ble_eq_true rfl⟩ ⟨Nat.le_of_ble_eq_true rfl, Nat.le_of_ble_eq_true rfl⟩ hl.1 rfl rfl (Nat.le_of_ble_eq_true rfl) dd_Model_takeAll_3) hS (fun H locs hP hS => ?_)
  clear hq
  refine lv_iconst (v := 1) hx hb dd_Model_takeAll_6 (by decide) ?_
  refine lv_isub hx hb dd_Model_takeAll_7 ?_
  obtain ⟨a3, ea3, h⟩ := xp_let h
  refine xr_nami ea3 ?_
  refine lv_istore (lv' := [(4, .int a3), (0, .ref (ad 0)), (1, .long x0), (3, .int x1)]) hx hb dd_Model_takeAll_8 hl (by decide) rfl (fun ls hl => ?_)
  exact wj_Model_takeAll_10 htr C hne h hP hS (lv_sub hl [1, 2, 3, 0] rfl)
abbrev rm_Model_takeEnd : Room := { frames := 5, cells := 1, slots := 6, locals := 89 }
noncomputable def fm_Model_takeEnd (fu : Nat) (x0 : Int32) (u : xk_St) : Option (Unit × xk_St) :=
  (if x0 < 0 ∨ 101 ≤ x0.toNatClampNeg then none else xs_seq (fm_Model_leadsToResults x0 u) fun a1 u2 => xs_seq (fm_Model_takeAll fu (u.2.2.2 1 x0.toNatClampNeg) a1 u2) fun _ u3 => some ((()), u3))
set_option maxHeartbeats 4000000 in
set_option maxRecDepth 100000 in
theorem ct_Model_takeEnd {l : Launch} {D : va_G} {ad : Nat → Nat} {ca : Nat → ClassId} {ads : List Nat} (htr : l.stackTraces = false) (hok : xk_ok (kw_m ad ca) ads) {fu : Nat} {x0 : Int32} {u u' : xk_St} {r : Unit} (h : fm_Model_takeEnd fu x0 u = some (r, u')) :
    ∀ sz, xk_Met l ⟨"ModuleHouseModel", "takeEnd", "(I)V"⟩ (Cond.code ⟨"ModuleHouseModel", "takeEnd", "(I)V"⟩ prog_14_method_71_code 2 none :: xk_gd) rm_Model_takeEnd (xk_Pc D kx_cl (kx_ty ca) (kw_m ad ca) ads xk_F sz [.ref (ad 0), .int x0] u) (xk_Qc D kx_cl (kw_m ad ca) ads (xo_v (.inl r)) u') (xk_A ads sz) := by
  unfold fm_Model_takeEnd at h
  refine xk_con (by decide) htr hok (Nat.le_of_ble_eq_true rfl) (fun p e s m below meth c ls C hne hl hP => ?_)
  have hx := C.1.1
  have hb := C.1.2.1
  have hS : va_S (xk_A ads s.heap.size) s.heap s.heap [] := va_S.rf
  have hl : lv_has ls 2 [(0, .ref (ad 0)), (1, .int x0)] := hl
  refine lv_aload_n hx hb dd_Model_takeEnd_0 rfl (lv_at hl 0 rfl) ?_
  refine lv_aload_n hx hb dd_Model_takeEnd_1 rfl (lv_at hl 0 rfl) ?_
  refine gf_m_Model_0_blockType C hP dd_Model_takeEnd_2 ?_
  refine lv_iload_n hx hb dd_Model_takeEnd_5 rfl (lv_at hl 1 rfl) ?_
  obtain ⟨hi, h⟩ := xp_g h
  refine al_m_27 C hP hi dd_Model_takeEnd_6 ?_
  refine lv_aload_n hx hb dd_Model_takeEnd_7 rfl (lv_at hl 0 rfl) ?_
  refine lv_iload_n hx hb dd_Model_takeEnd_8 rfl (lv_at hl 1 rfl) ?_
  obtain ⟨a1, u2, hq, h⟩ := xp_seq h
  refine xk_goesI (xr_V (As := [.int x0]) (rest := [.long (u.2.2.2 1 x0.toNatClampNeg), .ref (ad 0)]) C hP hS (ct_Model_leadsToResults htr hok hq) kq_Model_513 0 11 rfl rfl ⟨rfl, rfl, Nat.le_of_ble_eq_true rfl, Nat.le_of_ble_eq_true rfl⟩ ⟨Nat.le_of_ble_eq_true rfl, Nat.le_of_ble_eq_true rfl⟩ hl.1 rfl rfl (Nat.le_of_ble_eq_true rfl) dd_Model_takeEnd_9) hS (fun H locs hP hS => ?_)
  clear hq
  obtain ⟨rx, u3, hq, h⟩ := xp_seq h
  refine xk_goesV (xr_V (As := [.long (u.2.2.2 1 x0.toNatClampNeg), .int a1]) (rest := []) C hP hS (ct_Model_takeAll htr hok hq) kq_Model_516 0 11 rfl rfl ⟨rfl, rfl, Nat.le_of_ble_eq_true rfl, Nat.le_of_ble_eq_true rfl⟩ ⟨Nat.le_of_ble_eq_true rfl, Nat.le_of_ble_eq_true rfl⟩ hl.1 rfl rfl (Nat.le_of_ble_eq_true rfl) dd_Model_takeEnd_12) hS (fun H locs hP hS => ?_)
  clear hq
  obtain ⟨rfl, rfl⟩ := xp_r h
  exact xr_vret C hP hS dd_Model_takeEnd_15
abbrev rm_Model_bring : Room := { frames := 2, cells := 1, slots := 6, locals := 24 }
noncomputable def jb_Model_bring_3 (fu : Nat) : Nat → Int64 → Int32 → Int32 → xk_St → Option (Unit × xk_St)
  | 0 => fun _ _ _ _ => none
  | n + 1 => fun b1 b3 b4 u =>
    xs_let (jb_Model_bring_3 fu  n) fun k3 =>
    (xs_seq (fm_Model_countOf b1 b3 u) fun a1 u2 => if a1 ≤ b4 then (some ((()), u2)) else ((xs_seq (fm_Model_typeOf b1 b3 b4 u2) fun a3 u4 => xs_seq (fm_Model_push a3 u4) fun _ u5 => xs_let (b4 + (1 : Int32)) fun a6 => k3 b1 b3 a6 u5)))
noncomputable def fm_Model_bring (fu : Nat) (x0 : Int64) (x1 : Int32) (u : xk_St) : Option (Unit × xk_St) :=
  jb_Model_bring_3 fu fu x0 x1 (0 : Int32) u
set_option maxHeartbeats 4000000 in
set_option maxRecDepth 100000 in
theorem wj_Model_bring_3 {p : Program} {l : Launch} {e : Env} {s : State} {m : MethodId} {args : Array Value} {below : List Frame} {meth : Method} {c : Code} {D : va_G} {ad : Nat → Nat} {ca : Nat → ClassId} {ads : List Nat} {fu : Nat} (htr : l.stackTraces = false) (C : xk_C D kx_cl (kx_ty ca) (kw_m ad ca) ads "ModuleHouseModel" prog_14_method_66_code 5 none p e s m args meth c) (hne : c.exceptionTable.isEmpty = true) {u' : xk_St} {r : Unit} : ∀ {n : Nat} {b1 : Int64} {b3 : Int32} {b4 : Int32} {u : xk_St} {H : Heap} {locs : List Loc} {ls : Array Slot} (h : jb_Model_bring_3 fu  n b1 b3 b4 u = some (r, u')) (hP : va_P D kx_cl (kw_m ad ca u) H) (hS : va_S (xk_A ads s.heap.size) s.heap H locs) (hl : lv_has ls 5 [(0, .ref (ad 0)), (1, .long b1), (3, .int b3), (4, .int b4)]), W p l e rm_Model_bring s m args below meth c H locs 0 0 (xk_MQ below (xk_Qc D kx_cl (kw_m ad ca) ads (xo_v (.inl r)) u') args s (xk_A ads s.heap.size)) (F0 m 3 ls []) := by
  intro n
  have hx := C.1.1
  have hb := C.1.2.1
  have hok := C.2.2.1
  induction n with
  | zero =>
    intro _ _ _ u H locs ls h
    have h : none = some (r, u') := h
    cases h
  | succ n ih =>
    intro b1 b3 b4 u H locs ls h hP hS hl
    unfold jb_Model_bring_3 at h
    obtain ⟨k3, ek3, h⟩ := xp_let h
    have hk3 : ∀ (c0 : Int64) (c1 : Int32) (c2 : Int32) (u : xk_St) (H : Heap) (locs : List Loc) (ls : Array Slot), k3 c0 c1 c2 u = some (r, u') → va_P D kx_cl (kw_m ad ca u) H → va_S (xk_A ads s.heap.size) s.heap H locs → lv_has ls 5 [(0, .ref (ad 0)), (1, .long c0), (3, .int c1), (4, .int c2)] → W p l e rm_Model_bring s m args below meth c H locs 0 0 (xk_MQ below (xk_Qc D kx_cl (kw_m ad ca) ads (xo_v (.inl r)) u') args s (xk_A ads s.heap.size)) (F0 m 3 ls []) := by
      intro c0 c1 c2 u H locs ls h hP hS hl
      subst ek3
      exact ih h hP hS hl
    clear ih ek3
    refine lv_iload hx hb dd_Model_bring_3 (lv_at hl 3 rfl) ?_
    refine lv_aload_n hx hb dd_Model_bring_5 rfl (lv_at hl 0 rfl) ?_
    refine lv_lload_n hx hb dd_Model_bring_6 rfl (lv_at hl 1 rfl) ?_
    refine lv_iload_n hx hb dd_Model_bring_7 rfl (lv_at hl 2 rfl) ?_
    obtain ⟨a1, u2, hq, h⟩ := xp_seq h
    refine xk_goesI (xr_V (As := [.long b1, .int b3]) (rest := [.int b4]) C hP hS (ct_Model_countOf htr hok hq) kq_Model_496 0 11 rfl rfl ⟨rfl, rfl, Nat.le_of_ble_eq_true rfl, Nat.le_of_ble_eq_true rfl⟩ ⟨Nat.le_of_ble_eq_true rfl, Nat.le_of_ble_eq_true rfl⟩ hl.1 rfl rfl (Nat.le_of_ble_eq_true rfl) dd_Model_bring_8) hS (fun H locs hP hS => ?_)
    clear hq
    refine lv_icmp_ge (tgt := 32) hx hb dd_Model_bring_11 (by decide) (fun hc => ?_) (fun hc => ?_)
    · have h := xp_t hc h
      obtain ⟨rfl, rfl⟩ := xp_r h
      exact xr_vret C hP hS dd_Model_bring_32
    · have h := xp_f hc h
      refine lv_aload_n hx hb dd_Model_bring_14 rfl (lv_at hl 0 rfl) ?_
      refine lv_aload_n hx hb dd_Model_bring_15 rfl (lv_at hl 0 rfl) ?_
      refine lv_lload_n hx hb dd_Model_bring_16 rfl (lv_at hl 1 rfl) ?_
      refine lv_iload_n hx hb dd_Model_bring_17 rfl (lv_at hl 2 rfl) ?_
      refine lv_iload hx hb dd_Model_bring_18 (lv_at hl 3 rfl) ?_
      obtain ⟨a3, u4, hq, h⟩ := xp_seq h
      refine xk_goesI (xr_V (As := [.long b1, .int b3, .int b4]) (rest := [.ref (ad 0)]) C hP hS (ct_Model_typeOf htr hok hq) kq_Model_500 0 11 rfl rfl ⟨rfl, rfl, Nat.le_of_ble_eq_true rfl, Nat.le_of_ble_eq_true rfl⟩ ⟨Nat.le_of_ble_eq_true rfl, Nat.le_of_ble_eq_true rfl⟩ hl.1 rfl rfl (Nat.le_of_ble_eq_true rfl) dd_Model_bring_20) hS (fun H locs hP hS => ?_)
      clear hq
      obtain ⟨rx, u5, hq, h⟩ := xp_seq h
      refine xk_goesV (xr_V (As := [.int a3]) (rest := []) C hP hS (ct_Model_push htr hok hq) kq_Model_507 0 11 rfl rfl ⟨rfl, rfl, Nat.le_of_ble_eq_true rfl, Nat.le_of_ble_eq_true rfl⟩ ⟨Nat.le_of_ble_eq_true rfl, Nat.le_of_ble_eq_true rfl⟩ hl.1 rfl rfl (Nat.le_of_ble_eq_true rfl) dd_Model_bring_23) hS (fun H locs hP hS => ?_)
      clear hq
      obtain ⟨a6, ea6, h⟩ := xp_let h
      refine lv_iinc (v := a6) (lv' := [(4, .int a6), (0, .ref (ad 0)), (1, .long b1), (3, .int b3)]) hx hb dd_Model_bring_26 hl (k := 3) rfl (by rw [ea6]; first | rfl | decide) (by decide) rfl (fun ls hl => ?_)
      refine lv_goto (tgt := 3) hx hb dd_Model_bring_29 (by decide) ?_
      exact hk3 b1 b3 a6 u5 _ _ _ h hP hS (lv_sub hl [1, 2, 3, 0] rfl)
set_option maxHeartbeats 4000000 in
set_option maxRecDepth 100000 in
theorem ct_Model_bring {l : Launch} {D : va_G} {ad : Nat → Nat} {ca : Nat → ClassId} {ads : List Nat} (htr : l.stackTraces = false) (hok : xk_ok (kw_m ad ca) ads) {fu : Nat} {x0 : Int64} {x1 : Int32} {u u' : xk_St} {r : Unit} (h : fm_Model_bring fu x0 x1 u = some (r, u')) :
    ∀ sz, xk_Met l ⟨"ModuleHouseModel", "bring", "(JZ)V"⟩ (Cond.code ⟨"ModuleHouseModel", "bring", "(JZ)V"⟩ prog_14_method_66_code 5 none :: xk_gd) rm_Model_bring (xk_Pc D kx_cl (kx_ty ca) (kw_m ad ca) ads xk_F sz [.ref (ad 0), .long x0, .int x1] u) (xk_Qc D kx_cl (kw_m ad ca) ads (xo_v (.inl r)) u') (xk_A ads sz) := by
  unfold fm_Model_bring at h
  refine xk_con (by decide) htr hok (Nat.le_of_ble_eq_true rfl) (fun p e s m below meth c ls C hne hl hP => ?_)
  have hx := C.1.1
  have hb := C.1.2.1
  have hS : va_S (xk_A ads s.heap.size) s.heap s.heap [] := va_S.rf
  have hl : lv_has ls 5 [(0, .ref (ad 0)), (1, .long x0), (3, .int x1)] := hl
  refine lv_iconst (v := 0) hx hb dd_Model_bring_0 (by decide) ?_
  refine lv_istore (lv' := [(4, .int (0 : Int32)), (0, .ref (ad 0)), (1, .long x0), (3, .int x1)]) hx hb dd_Model_bring_1 hl (by decide) rfl (fun ls hl => ?_)
  exact wj_Model_bring_3 htr C hne h hP hS (lv_sub hl [1, 2, 3, 0] rfl)
abbrev rm_Model_bringEnd : Room := { frames := 3, cells := 1, slots := 6, locals := 48 }
noncomputable def fm_Model_bringEnd (fu : Nat) (x0 : Int32) (u : xk_St) : Option (Unit × xk_St) :=
  (if x0 < 0 ∨ 101 ≤ x0.toNatClampNeg then none else xs_seq (fm_Model_leadsToResults x0 u) fun a1 u2 => xs_seq (fm_Model_bring fu (u.2.2.2 1 x0.toNatClampNeg) a1 u2) fun _ u3 => some ((()), u3))
set_option maxHeartbeats 4000000 in
set_option maxRecDepth 100000 in
theorem ct_Model_bringEnd {l : Launch} {D : va_G} {ad : Nat → Nat} {ca : Nat → ClassId} {ads : List Nat} (htr : l.stackTraces = false) (hok : xk_ok (kw_m ad ca) ads) {fu : Nat} {x0 : Int32} {u u' : xk_St} {r : Unit} (h : fm_Model_bringEnd fu x0 u = some (r, u')) :
    ∀ sz, xk_Met l ⟨"ModuleHouseModel", "bringEnd", "(I)V"⟩ (Cond.code ⟨"ModuleHouseModel", "bringEnd", "(I)V"⟩ prog_14_method_72_code 2 none :: xk_gd) rm_Model_bringEnd (xk_Pc D kx_cl (kx_ty ca) (kw_m ad ca) ads xk_F sz [.ref (ad 0), .int x0] u) (xk_Qc D kx_cl (kw_m ad ca) ads (xo_v (.inl r)) u') (xk_A ads sz) := by
  unfold fm_Model_bringEnd at h
  refine xk_con (by decide) htr hok (Nat.le_of_ble_eq_true rfl) (fun p e s m below meth c ls C hne hl hP => ?_)
  have hx := C.1.1
  have hb := C.1.2.1
  have hS : va_S (xk_A ads s.heap.size) s.heap s.heap [] := va_S.rf
  have hl : lv_has ls 2 [(0, .ref (ad 0)), (1, .int x0)] := hl
  refine lv_aload_n hx hb dd_Model_bringEnd_0 rfl (lv_at hl 0 rfl) ?_
  refine lv_aload_n hx hb dd_Model_bringEnd_1 rfl (lv_at hl 0 rfl) ?_
  refine gf_m_Model_0_blockType C hP dd_Model_bringEnd_2 ?_
  refine lv_iload_n hx hb dd_Model_bringEnd_5 rfl (lv_at hl 1 rfl) ?_
  obtain ⟨hi, h⟩ := xp_g h
  refine al_m_27 C hP hi dd_Model_bringEnd_6 ?_
  refine lv_aload_n hx hb dd_Model_bringEnd_7 rfl (lv_at hl 0 rfl) ?_
  refine lv_iload_n hx hb dd_Model_bringEnd_8 rfl (lv_at hl 1 rfl) ?_
  obtain ⟨a1, u2, hq, h⟩ := xp_seq h
  refine xk_goesI (xr_V (As := [.int x0]) (rest := [.long (u.2.2.2 1 x0.toNatClampNeg), .ref (ad 0)]) C hP hS (ct_Model_leadsToResults htr hok hq) kq_Model_513 0 11 rfl rfl ⟨rfl, rfl, Nat.le_of_ble_eq_true rfl, Nat.le_of_ble_eq_true rfl⟩ ⟨Nat.le_of_ble_eq_true rfl, Nat.le_of_ble_eq_true rfl⟩ hl.1 rfl rfl (Nat.le_of_ble_eq_true rfl) dd_Model_bringEnd_9) hS (fun H locs hP hS => ?_)
  clear hq
  obtain ⟨rx, u3, hq, h⟩ := xp_seq h
  refine xk_goesV (xr_V (As := [.long (u.2.2.2 1 x0.toNatClampNeg), .int a1]) (rest := []) C hP hS (ct_Model_bring htr hok hq) kq_Model_520 0 11 rfl rfl ⟨rfl, rfl, Nat.le_of_ble_eq_true rfl, Nat.le_of_ble_eq_true rfl⟩ ⟨Nat.le_of_ble_eq_true rfl, Nat.le_of_ble_eq_true rfl⟩ hl.1 rfl rfl (Nat.le_of_ble_eq_true rfl) dd_Model_bringEnd_12) hS (fun H locs hP hS => ?_)
  clear hq
  obtain ⟨rfl, rfl⟩ := xp_r h
  exact xr_vret C hP hS dd_Model_bringEnd_15
abbrev rm_Model_checkReferences : Room := { frames := 6, cells := 1, slots := 6, locals := 110 }
noncomputable def jb_Model_checkReferences_89 (fu : Nat) (u : xk_St) : Option (Unit × xk_St) :=
  (xs_seq (fm_Model_push (1 : Int32) u) fun _ u3 => some ((()), u3))
noncomputable def jb_Model_checkReferences_74 (fu : Nat) (u : xk_St) : Option (Unit × xk_St) :=
  if (u.1 8) = (211 : Int32) then ((xs_seq (fm_Model_takeReference u) fun a4 u5 => jb_Model_checkReferences_89 fu u5)) else (jb_Model_checkReferences_89 fu u)
noncomputable def jb_Model_checkReferences_263 (fu : Nat) : Nat → Int64 → Int32 → Int32 → Int32 → xk_St → Option (Unit × xk_St)
  | 0 => fun _ _ _ _ _ => none
  | n + 1 => fun b3 b5 b6 b7 u =>
    xs_let (jb_Model_checkReferences_263 fu  n) fun k263 =>
    if (b6 - (1 : Int32)) ≤ b7 then (some ((()), u)) else (if (u.1 7) = (0 : Int32) then ((xs_seq (fm_Model_typeOf b3 b5 b7 u) fun a15 u16 => xs_seq (fm_Model_push a15 u16) fun _ u17 => xs_let (b7 + (1 : Int32)) fun a18 => k263 b3 b5 b6 a18 u17)) else (some ((()), u)))
noncomputable def jb_Model_checkReferences_260 (fu : Nat) (b3 : Int64) (b5 : Int32) (b6 : Int32) (u : xk_St) : Option (Unit × xk_St) :=
  jb_Model_checkReferences_263 fu fu b3 b5 b6 (0 : Int32) u
noncomputable def jb_Model_checkReferences_229 (fu : Nat) : Nat → Int64 → Int32 → Int32 → Int32 → xk_St → Option (Unit × xk_St)
  | 0 => fun _ _ _ _ _ => none
  | n + 1 => fun b3 b5 b6 b7 u =>
    xs_let (jb_Model_checkReferences_229 fu  n) fun k229 =>
    if b7 < (0 : Int32) then (jb_Model_checkReferences_260 fu b3 b5 b6 u) else (if (u.1 7) = (0 : Int32) then ((xs_seq (fm_Model_typeOf b3 b5 b7 u) fun a19 u20 => xs_seq (fm_Model_take a19 u20) fun _ u21 => xs_let (b7 + (-1 : Int32)) fun a22 => k229 b3 b5 b6 a22 u21)) else (jb_Model_checkReferences_260 fu b3 b5 b6 u))
noncomputable def jb_Model_checkReferences_220 (fu : Nat) (b3 : Int64) (b5 : Int32) (b6 : Int32) (s0 : Int32) (u : xk_St) : Option (Unit × xk_St) :=
  (if s0 = 0 ∨ s0 = 1 then ( xs_let (xs_I u 7 s0) fun u13 => xs_let (b6 - (2 : Int32)) fun a14 => jb_Model_checkReferences_229 fu fu b3 b5 b6 a14 u13  ) else none)
noncomputable def jb_Model_checkReferences_215 (fu : Nat) (b3 : Int64) (b5 : Int32) (b6 : Int32) (u : xk_St) : Option (Unit × xk_St) :=
  jb_Model_checkReferences_220 fu b3 b5 b6 (1 : Int32) u
noncomputable def jb_Model_checkReferences_32 (fu : Nat) (s0 : Int32) (u : xk_St) : Option (Unit × xk_St) :=
  (if s0 = 0 ∨ s0 = 1 then ( xs_let (xs_I u 7 s0) fun u39 => xs_seq (fm_Model_reference ((u39.2.1 0).toInt32) (1 : Int32) u39) fun a40 u41 => xs_seq (fm_Model_push a40 u41) fun _ u42 => some ((()), u42)  ) else none)
noncomputable def fm_Model_checkReferences (fu : Nat) (u : xk_St) : Option (Unit × xk_St) :=
  if (u.1 8) = (208 : Int32) then ((xs_seq (fm_Model_isObjectType ((u.2.1 0).toInt32) (u.1 12) u) fun a37 u38 => if a37 = (0 : Int32) then (jb_Model_checkReferences_32 fu (1 : Int32) u38) else (jb_Model_checkReferences_32 fu (0 : Int32) u38))) else ((xs_seq (fm_Model_takeReference u) fun a1 u2 => if (u2.1 8) = (209 : Int32) then (jb_Model_checkReferences_74 fu u2) else (if (u2.1 8) = (211 : Int32) then (jb_Model_checkReferences_74 fu u2) else (if (u2.1 8) = (212 : Int32) then ((xs_seq (fm_Model_notNull a1 u2) fun a34 u35 => xs_seq (fm_Model_push a34 u35) fun _ u36 => some ((()), u36))) else ((xs_seq (fm_Model_out (u2.2.1 0) u2) fun a6 u7 => if (0 : Int32) ≤ a6 then (if (u7.1 8) = (213 : Int32) then ((xs_seq (fm_Model_takeEnd fu a6 u7) fun _ u29 => xs_seq (fm_Model_bringEnd fu a6 u29) fun _ u30 => xs_seq (fm_Model_notNull a1 u30) fun a31 u32 => xs_seq (fm_Model_push a31 u32) fun _ u33 => some ((()), u33))) else ((if a6 < 0 ∨ 101 ≤ a6.toNatClampNeg then none else xs_let (u7.2.2.2 1 a6.toNatClampNeg) fun a8 => xs_seq (fm_Model_leadsToResults a6 u7) fun a9 u10 => xs_seq (fm_Model_countOf a8 a9 u10) fun a11 u12 => if (u12.1 7) = (0 : Int32) then (if a11 = (0 : Int32) then (jb_Model_checkReferences_215 fu a8 a9 a11 u12) else ((xs_seq (fm_Model_notNull a1 u12) fun a23 u24 => xs_seq (fm_Model_typeOf a8 a9 (a11 - (1 : Int32)) u24) fun a25 u26 => xs_seq (fm_Model_fits a23 a25 u26) fun a27 u28 => if a27 = (0 : Int32) then (jb_Model_checkReferences_215 fu a8 a9 a11 u28) else (jb_Model_checkReferences_220 fu a8 a9 a11 (0 : Int32) u28)))) else (jb_Model_checkReferences_215 fu a8 a9 a11 u12)))) else (some ((()), u7))))))))
set_option maxHeartbeats 4000000 in
set_option maxRecDepth 100000 in
theorem wj_Model_checkReferences_89 {p : Program} {l : Launch} {e : Env} {s : State} {m : MethodId} {args : Array Value} {below : List Frame} {meth : Method} {c : Code} {D : va_G} {ad : Nat → Nat} {ca : Nat → ClassId} {ads : List Nat} {fu : Nat} (htr : l.stackTraces = false) (C : xk_C D kx_cl (kx_ty ca) (kw_m ad ca) ads "ModuleHouseModel" prog_14_method_89_code 8 none p e s m args meth c) (hne : c.exceptionTable.isEmpty = true) {u' : xk_St} {r : Unit} {u : xk_St} {H : Heap} {locs : List Loc} {ls : Array Slot} (h : jb_Model_checkReferences_89 fu   u = some (r, u')) (hP : va_P D kx_cl (kw_m ad ca u) H) (hS : va_S (xk_A ads s.heap.size) s.heap H locs) (hl : lv_has ls 8 [(0, .ref (ad 0))]) : W p l e rm_Model_checkReferences s m args below meth c H locs 0 0 (xk_MQ below (xk_Qc D kx_cl (kw_m ad ca) ads (xo_v (.inl r)) u') args s (xk_A ads s.heap.size)) (F0 m 89 ls []) := by
  have hx := C.1.1
  have hb := C.1.2.1
  have hok := C.2.2.1
  unfold jb_Model_checkReferences_89 at h
  refine lv_aload_n hx hb dd_Model_checkReferences_89 rfl (lv_at hl 0 rfl) ?_
  refine lv_iconst (v := 1) hx hb dd_Model_checkReferences_90 (by decide) ?_
  obtain ⟨rx, u3, hq, h⟩ := xp_seq h
  refine xk_goesV (xr_V (As := [.int (1 : Int32)]) (rest := []) C hP hS (ct_Model_push htr hok hq) kq_Model_507 0 11 rfl rfl ⟨rfl, rfl, Nat.le_of_ble_eq_true rfl, Nat.le_of_ble_eq_true rfl⟩ ⟨Nat.le_of_ble_eq_true rfl, Nat.le_of_ble_eq_true rfl⟩ hl.1 rfl rfl (Nat.le_of_ble_eq_true rfl) dd_Model_checkReferences_91) hS (fun H locs hP hS => ?_)
  clear hq
  obtain ⟨rfl, rfl⟩ := xp_r h
  exact xr_vret C hP hS dd_Model_checkReferences_94
set_option maxHeartbeats 4000000 in
set_option maxRecDepth 100000 in
theorem wj_Model_checkReferences_74 {p : Program} {l : Launch} {e : Env} {s : State} {m : MethodId} {args : Array Value} {below : List Frame} {meth : Method} {c : Code} {D : va_G} {ad : Nat → Nat} {ca : Nat → ClassId} {ads : List Nat} {fu : Nat} (htr : l.stackTraces = false) (C : xk_C D kx_cl (kx_ty ca) (kw_m ad ca) ads "ModuleHouseModel" prog_14_method_89_code 8 none p e s m args meth c) (hne : c.exceptionTable.isEmpty = true) {u' : xk_St} {r : Unit} {u : xk_St} {H : Heap} {locs : List Loc} {ls : Array Slot} (h : jb_Model_checkReferences_74 fu   u = some (r, u')) (hP : va_P D kx_cl (kw_m ad ca u) H) (hS : va_S (xk_A ads s.heap.size) s.heap H locs) (hl : lv_has ls 8 [(0, .ref (ad 0))]) : W p l e rm_Model_checkReferences s m args below meth c H locs 0 0 (xk_MQ below (xk_Qc D kx_cl (kw_m ad ca) ads (xo_v (.inl r)) u') args s (xk_A ads s.heap.size)) (F0 m 74 ls []) := by
  have hx := C.1.1
  have hb := C.1.2.1
  have hok := C.2.2.1
  unfold jb_Model_checkReferences_74 at h
  refine lv_aload_n hx hb dd_Model_checkReferences_74 rfl (lv_at hl 0 rfl) ?_
  refine gf_m_Model_0_op C hP dd_Model_checkReferences_75 ?_
  refine lv_sipush (v := 211) hx hb dd_Model_checkReferences_78 (by decide) ?_
  refine lv_icmp_ne (tgt := 89) hx hb dd_Model_checkReferences_81 (by decide) (fun hc => ?_) (fun hc => ?_)
  · have h := xp_f hc h
    exact wj_Model_checkReferences_89 htr C hne h hP hS (lv_sub hl [0] rfl)
  · have h := xp_t hc h
    refine lv_aload_n hx hb dd_Model_checkReferences_84 rfl (lv_at hl 0 rfl) ?_
    obtain ⟨a4, u5, hq, h⟩ := xp_seq h
    refine xk_goesI (xr_V (As := []) (rest := []) C hP hS (ct_Model_takeReference htr hok hq) kq_Model_621 0 11 rfl rfl ⟨rfl, rfl, Nat.le_of_ble_eq_true rfl, Nat.le_of_ble_eq_true rfl⟩ ⟨Nat.le_of_ble_eq_true rfl, Nat.le_of_ble_eq_true rfl⟩ hl.1 rfl rfl (Nat.le_of_ble_eq_true rfl) dd_Model_checkReferences_85) hS (fun H locs hP hS => ?_)
    clear hq
    refine lv_istore_n (lv' := [(1, .int a4), (0, .ref (ad 0))]) hx hb dd_Model_checkReferences_88 rfl hl (by decide) rfl (fun ls hl => ?_)
    exact wj_Model_checkReferences_89 htr C hne h hP hS (lv_sub hl [1] rfl)
set_option maxHeartbeats 4000000 in
set_option maxRecDepth 100000 in
theorem wj_Model_checkReferences_263 {p : Program} {l : Launch} {e : Env} {s : State} {m : MethodId} {args : Array Value} {below : List Frame} {meth : Method} {c : Code} {D : va_G} {ad : Nat → Nat} {ca : Nat → ClassId} {ads : List Nat} {fu : Nat} (htr : l.stackTraces = false) (C : xk_C D kx_cl (kx_ty ca) (kw_m ad ca) ads "ModuleHouseModel" prog_14_method_89_code 8 none p e s m args meth c) (hne : c.exceptionTable.isEmpty = true) {u' : xk_St} {r : Unit} : ∀ {n : Nat} {b3 : Int64} {b5 : Int32} {b6 : Int32} {b7 : Int32} {u : xk_St} {H : Heap} {locs : List Loc} {ls : Array Slot} (h : jb_Model_checkReferences_263 fu  n b3 b5 b6 b7 u = some (r, u')) (hP : va_P D kx_cl (kw_m ad ca u) H) (hS : va_S (xk_A ads s.heap.size) s.heap H locs) (hl : lv_has ls 8 [(0, .ref (ad 0)), (3, .long b3), (5, .int b5), (6, .int b6), (7, .int b7)]), W p l e rm_Model_checkReferences s m args below meth c H locs 0 0 (xk_MQ below (xk_Qc D kx_cl (kw_m ad ca) ads (xo_v (.inl r)) u') args s (xk_A ads s.heap.size)) (F0 m 263 ls []) := by
  intro n
  have hx := C.1.1
  have hb := C.1.2.1
  have hok := C.2.2.1
  induction n with
  | zero =>
    intro _ _ _ _ u H locs ls h
    have h : none = some (r, u') := h
    cases h
  | succ n ih =>
    intro b3 b5 b6 b7 u H locs ls h hP hS hl
    unfold jb_Model_checkReferences_263 at h
    obtain ⟨k263, ek263, h⟩ := xp_let h
    have hk263 : ∀ (c0 : Int64) (c1 : Int32) (c2 : Int32) (c3 : Int32) (u : xk_St) (H : Heap) (locs : List Loc) (ls : Array Slot), k263 c0 c1 c2 c3 u = some (r, u') → va_P D kx_cl (kw_m ad ca u) H → va_S (xk_A ads s.heap.size) s.heap H locs → lv_has ls 8 [(0, .ref (ad 0)), (3, .long c0), (5, .int c1), (6, .int c2), (7, .int c3)] → W p l e rm_Model_checkReferences s m args below meth c H locs 0 0 (xk_MQ below (xk_Qc D kx_cl (kw_m ad ca) ads (xo_v (.inl r)) u') args s (xk_A ads s.heap.size)) (F0 m 263 ls []) := by
      intro c0 c1 c2 c3 u H locs ls h hP hS hl
      subst ek263
      exact ih h hP hS hl
    clear ih ek263
    refine lv_iload hx hb dd_Model_checkReferences_263 (lv_at hl 4 rfl) ?_
    refine lv_iload hx hb dd_Model_checkReferences_265 (lv_at hl 3 rfl) ?_
    refine lv_iconst (v := 1) hx hb dd_Model_checkReferences_267 (by decide) ?_
    refine lv_isub hx hb dd_Model_checkReferences_268 ?_
    refine lv_icmp_ge (tgt := 298) hx hb dd_Model_checkReferences_269 (by decide) (fun hc => ?_) (fun hc => ?_)
    · have h := xp_t hc h
      obtain ⟨rfl, rfl⟩ := xp_r h
      exact xr_vret C hP hS dd_Model_checkReferences_298
    · have h := xp_f hc h
      refine lv_aload_n hx hb dd_Model_checkReferences_272 rfl (lv_at hl 0 rfl) ?_
      refine gf_m_Model_0_wrong C hP dd_Model_checkReferences_273 ?_
      refine lv_if_ne (tgt := 298) hx hb dd_Model_checkReferences_276 (by decide) (fun hc => ?_) (fun hc => ?_)
      · have h := xp_f hc h
        obtain ⟨rfl, rfl⟩ := xp_r h
        exact xr_vret C hP hS dd_Model_checkReferences_298
      · have h := xp_t hc h
        refine lv_aload_n hx hb dd_Model_checkReferences_279 rfl (lv_at hl 0 rfl) ?_
        refine lv_aload_n hx hb dd_Model_checkReferences_280 rfl (lv_at hl 0 rfl) ?_
        refine lv_lload_n hx hb dd_Model_checkReferences_281 rfl (lv_at hl 1 rfl) ?_
        refine lv_iload hx hb dd_Model_checkReferences_282 (lv_at hl 2 rfl) ?_
        refine lv_iload hx hb dd_Model_checkReferences_284 (lv_at hl 4 rfl) ?_
        obtain ⟨a15, u16, hq, h⟩ := xp_seq h
        refine xk_goesI (xr_V (As := [.long b3, .int b5, .int b7]) (rest := [.ref (ad 0)]) C hP hS (ct_Model_typeOf htr hok hq) kq_Model_500 0 11 rfl rfl ⟨rfl, rfl, Nat.le_of_ble_eq_true rfl, Nat.le_of_ble_eq_true rfl⟩ ⟨Nat.le_of_ble_eq_true rfl, Nat.le_of_ble_eq_true rfl⟩ hl.1 rfl rfl (Nat.le_of_ble_eq_true rfl) dd_Model_checkReferences_286) hS (fun H locs hP hS => ?_)
        clear hq
        obtain ⟨rx, u17, hq, h⟩ := xp_seq h
        refine xk_goesV (xr_V (As := [.int a15]) (rest := []) C hP hS (ct_Model_push htr hok hq) kq_Model_507 0 11 rfl rfl ⟨rfl, rfl, Nat.le_of_ble_eq_true rfl, Nat.le_of_ble_eq_true rfl⟩ ⟨Nat.le_of_ble_eq_true rfl, Nat.le_of_ble_eq_true rfl⟩ hl.1 rfl rfl (Nat.le_of_ble_eq_true rfl) dd_Model_checkReferences_289) hS (fun H locs hP hS => ?_)
        clear hq
        obtain ⟨a18, ea18, h⟩ := xp_let h
        refine lv_iinc (v := a18) (lv' := [(7, .int a18), (0, .ref (ad 0)), (3, .long b3), (5, .int b5), (6, .int b6)]) hx hb dd_Model_checkReferences_292 hl (k := 4) rfl (by rw [ea18]; first | rfl | decide) (by decide) rfl (fun ls hl => ?_)
        refine lv_goto (tgt := 263) hx hb dd_Model_checkReferences_295 (by decide) ?_
        exact hk263 b3 b5 b6 a18 u17 _ _ _ h hP hS (lv_sub hl [1, 2, 3, 4, 0] rfl)
set_option maxHeartbeats 4000000 in
set_option maxRecDepth 100000 in
theorem wj_Model_checkReferences_260 {p : Program} {l : Launch} {e : Env} {s : State} {m : MethodId} {args : Array Value} {below : List Frame} {meth : Method} {c : Code} {D : va_G} {ad : Nat → Nat} {ca : Nat → ClassId} {ads : List Nat} {fu : Nat} (htr : l.stackTraces = false) (C : xk_C D kx_cl (kx_ty ca) (kw_m ad ca) ads "ModuleHouseModel" prog_14_method_89_code 8 none p e s m args meth c) (hne : c.exceptionTable.isEmpty = true) {u' : xk_St} {r : Unit} {b3 : Int64} {b5 : Int32} {b6 : Int32} {u : xk_St} {H : Heap} {locs : List Loc} {ls : Array Slot} (h : jb_Model_checkReferences_260 fu  b3 b5 b6 u = some (r, u')) (hP : va_P D kx_cl (kw_m ad ca u) H) (hS : va_S (xk_A ads s.heap.size) s.heap H locs) (hl : lv_has ls 8 [(0, .ref (ad 0)), (3, .long b3), (5, .int b5), (6, .int b6)]) : W p l e rm_Model_checkReferences s m args below meth c H locs 0 0 (xk_MQ below (xk_Qc D kx_cl (kw_m ad ca) ads (xo_v (.inl r)) u') args s (xk_A ads s.heap.size)) (F0 m 260 ls []) := by
  have hx := C.1.1
  have hb := C.1.2.1
  have hok := C.2.2.1
  unfold jb_Model_checkReferences_260 at h
  refine lv_iconst (v := 0) hx hb dd_Model_checkReferences_260 (by decide) ?_
  refine lv_istore (lv' := [(7, .int (0 : Int32)), (0, .ref (ad 0)), (3, .long b3), (5, .int b5), (6, .int b6)]) hx hb dd_Model_checkReferences_261 hl (by decide) rfl (fun ls hl => ?_)
  exact wj_Model_checkReferences_263 htr C hne h hP hS (lv_sub hl [1, 2, 3, 4, 0] rfl)
set_option maxHeartbeats 4000000 in
set_option maxRecDepth 100000 in
theorem wj_Model_checkReferences_229 {p : Program} {l : Launch} {e : Env} {s : State} {m : MethodId} {args : Array Value} {below : List Frame} {meth : Method} {c : Code} {D : va_G} {ad : Nat → Nat} {ca : Nat → ClassId} {ads : List Nat} {fu : Nat} (htr : l.stackTraces = false) (C : xk_C D kx_cl (kx_ty ca) (kw_m ad ca) ads "ModuleHouseModel" prog_14_method_89_code 8 none p e s m args meth c) (hne : c.exceptionTable.isEmpty = true) {u' : xk_St} {r : Unit} : ∀ {n : Nat} {b3 : Int64} {b5 : Int32} {b6 : Int32} {b7 : Int32} {u : xk_St} {H : Heap} {locs : List Loc} {ls : Array Slot} (h : jb_Model_checkReferences_229 fu  n b3 b5 b6 b7 u = some (r, u')) (hP : va_P D kx_cl (kw_m ad ca u) H) (hS : va_S (xk_A ads s.heap.size) s.heap H locs) (hl : lv_has ls 8 [(0, .ref (ad 0)), (3, .long b3), (5, .int b5), (6, .int b6), (7, .int b7)]), W p l e rm_Model_checkReferences s m args below meth c H locs 0 0 (xk_MQ below (xk_Qc D kx_cl (kw_m ad ca) ads (xo_v (.inl r)) u') args s (xk_A ads s.heap.size)) (F0 m 229 ls []) := by
  intro n
  have hx := C.1.1
  have hb := C.1.2.1
  have hok := C.2.2.1
  induction n with
  | zero =>
    intro _ _ _ _ u H locs ls h
    have h : none = some (r, u') := h
    cases h
  | succ n ih =>
    intro b3 b5 b6 b7 u H locs ls h hP hS hl
    unfold jb_Model_checkReferences_229 at h
    obtain ⟨k229, ek229, h⟩ := xp_let h
    have hk229 : ∀ (c0 : Int64) (c1 : Int32) (c2 : Int32) (c3 : Int32) (u : xk_St) (H : Heap) (locs : List Loc) (ls : Array Slot), k229 c0 c1 c2 c3 u = some (r, u') → va_P D kx_cl (kw_m ad ca u) H → va_S (xk_A ads s.heap.size) s.heap H locs → lv_has ls 8 [(0, .ref (ad 0)), (3, .long c0), (5, .int c1), (6, .int c2), (7, .int c3)] → W p l e rm_Model_checkReferences s m args below meth c H locs 0 0 (xk_MQ below (xk_Qc D kx_cl (kw_m ad ca) ads (xo_v (.inl r)) u') args s (xk_A ads s.heap.size)) (F0 m 229 ls []) := by
      intro c0 c1 c2 c3 u H locs ls h hP hS hl
      subst ek229
      exact ih h hP hS hl
    clear ih ek229
    refine lv_iload hx hb dd_Model_checkReferences_229 (lv_at hl 4 rfl) ?_
    refine lv_if_lt (tgt := 260) hx hb dd_Model_checkReferences_231 (by decide) (fun hc => ?_) (fun hc => ?_)
    · have h := xp_t hc h
      exact wj_Model_checkReferences_260 htr C hne h hP hS (lv_sub hl [0, 1, 2, 3] rfl)
    · have h := xp_f hc h
      refine lv_aload_n hx hb dd_Model_checkReferences_234 rfl (lv_at hl 0 rfl) ?_
      refine gf_m_Model_0_wrong C hP dd_Model_checkReferences_235 ?_
      refine lv_if_ne (tgt := 260) hx hb dd_Model_checkReferences_238 (by decide) (fun hc => ?_) (fun hc => ?_)
      · have h := xp_f hc h
        exact wj_Model_checkReferences_260 htr C hne h hP hS (lv_sub hl [0, 1, 2, 3] rfl)
      · have h := xp_t hc h
        refine lv_aload_n hx hb dd_Model_checkReferences_241 rfl (lv_at hl 0 rfl) ?_
        refine lv_aload_n hx hb dd_Model_checkReferences_242 rfl (lv_at hl 0 rfl) ?_
        refine lv_lload_n hx hb dd_Model_checkReferences_243 rfl (lv_at hl 1 rfl) ?_
        refine lv_iload hx hb dd_Model_checkReferences_244 (lv_at hl 2 rfl) ?_
        refine lv_iload hx hb dd_Model_checkReferences_246 (lv_at hl 4 rfl) ?_
        obtain ⟨a19, u20, hq, h⟩ := xp_seq h
        refine xk_goesI (xr_V (As := [.long b3, .int b5, .int b7]) (rest := [.ref (ad 0)]) C hP hS (ct_Model_typeOf htr hok hq) kq_Model_500 0 11 rfl rfl ⟨rfl, rfl, Nat.le_of_ble_eq_true rfl, Nat.le_of_ble_eq_true rfl⟩ ⟨Nat.le_of_ble_eq_true rfl, Nat.le_of_ble_eq_true rfl⟩ hl.1 rfl rfl (Nat.le_of_ble_eq_true rfl) dd_Model_checkReferences_248) hS (fun H locs hP hS => ?_)
        clear hq
        obtain ⟨rx, u21, hq, h⟩ := xp_seq h
        refine xk_goesV (xr_V (As := [.int a19]) (rest := []) C hP hS (ct_Model_take htr hok hq) kq_Model_504 0 11 rfl rfl ⟨rfl, rfl, Nat.le_of_ble_eq_true rfl, Nat.le_of_ble_eq_true rfl⟩ ⟨Nat.le_of_ble_eq_true rfl, Nat.le_of_ble_eq_true rfl⟩ hl.1 rfl rfl (Nat.le_of_ble_eq_true rfl) dd_Model_checkReferences_251) hS (fun H locs hP hS => ?_)
        clear hq
        obtain ⟨a22, ea22, h⟩ := xp_let h
        refine lv_iinc (v := a22) (lv' := [(7, .int a22), (0, .ref (ad 0)), (3, .long b3), (5, .int b5), (6, .int b6)]) hx hb dd_Model_checkReferences_254 hl (k := 4) rfl (by rw [ea22]; first | rfl | decide) (by decide) rfl (fun ls hl => ?_)
        refine lv_goto (tgt := 229) hx hb dd_Model_checkReferences_257 (by decide) ?_
        exact hk229 b3 b5 b6 a22 u21 _ _ _ h hP hS (lv_sub hl [1, 2, 3, 4, 0] rfl)
set_option maxHeartbeats 4000000 in
set_option maxRecDepth 100000 in
theorem wj_Model_checkReferences_220 {p : Program} {l : Launch} {e : Env} {s : State} {m : MethodId} {args : Array Value} {below : List Frame} {meth : Method} {c : Code} {D : va_G} {ad : Nat → Nat} {ca : Nat → ClassId} {ads : List Nat} {fu : Nat} (htr : l.stackTraces = false) (C : xk_C D kx_cl (kx_ty ca) (kw_m ad ca) ads "ModuleHouseModel" prog_14_method_89_code 8 none p e s m args meth c) (hne : c.exceptionTable.isEmpty = true) {u' : xk_St} {r : Unit} {b3 : Int64} {b5 : Int32} {b6 : Int32} {s0 : Int32} {u : xk_St} {H : Heap} {locs : List Loc} {ls : Array Slot} (h : jb_Model_checkReferences_220 fu  b3 b5 b6 s0 u = some (r, u')) (hP : va_P D kx_cl (kw_m ad ca u) H) (hS : va_S (xk_A ads s.heap.size) s.heap H locs) (hl : lv_has ls 8 [(0, .ref (ad 0)), (3, .long b3), (5, .int b5), (6, .int b6)]) : W p l e rm_Model_checkReferences s m args below meth c H locs 0 0 (xk_MQ below (xk_Qc D kx_cl (kw_m ad ca) ads (xo_v (.inl r)) u') args s (xk_A ads s.heap.size)) (F0 m 220 ls [.int s0, .ref (ad 0)]) := by
  have hx := C.1.1
  have hb := C.1.2.1
  have hok := C.2.2.1
  unfold jb_Model_checkReferences_220 at h
  obtain ⟨hz, h⟩ := xp_p h
  refine pf_m_Model_0_wrong C hP hS hz dd_Model_checkReferences_220 (fun H locs hP hS => ?_)
  obtain ⟨u13, eu13, h⟩ := xp_let h
  rw [← eu13] at hP
  refine lv_iload hx hb dd_Model_checkReferences_223 (lv_at hl 3 rfl) ?_
  refine lv_iconst (v := 2) hx hb dd_Model_checkReferences_225 (by decide) ?_
  refine lv_isub hx hb dd_Model_checkReferences_226 ?_
  obtain ⟨a14, ea14, h⟩ := xp_let h
  refine xr_nami ea14 ?_
  refine lv_istore (lv' := [(7, .int a14), (0, .ref (ad 0)), (3, .long b3), (5, .int b5), (6, .int b6)]) hx hb dd_Model_checkReferences_227 hl (by decide) rfl (fun ls hl => ?_)
  exact wj_Model_checkReferences_229 htr C hne h hP hS (lv_sub hl [1, 2, 3, 4, 0] rfl)
set_option maxHeartbeats 4000000 in
set_option maxRecDepth 100000 in
theorem wj_Model_checkReferences_215 {p : Program} {l : Launch} {e : Env} {s : State} {m : MethodId} {args : Array Value} {below : List Frame} {meth : Method} {c : Code} {D : va_G} {ad : Nat → Nat} {ca : Nat → ClassId} {ads : List Nat} {fu : Nat} (htr : l.stackTraces = false) (C : xk_C D kx_cl (kx_ty ca) (kw_m ad ca) ads "ModuleHouseModel" prog_14_method_89_code 8 none p e s m args meth c) (hne : c.exceptionTable.isEmpty = true) {u' : xk_St} {r : Unit} {b3 : Int64} {b5 : Int32} {b6 : Int32} {u : xk_St} {H : Heap} {locs : List Loc} {ls : Array Slot} (h : jb_Model_checkReferences_215 fu  b3 b5 b6 u = some (r, u')) (hP : va_P D kx_cl (kw_m ad ca u) H) (hS : va_S (xk_A ads s.heap.size) s.heap H locs) (hl : lv_has ls 8 [(0, .ref (ad 0)), (3, .long b3), (5, .int b5), (6, .int b6)]) : W p l e rm_Model_checkReferences s m args below meth c H locs 0 0 (xk_MQ below (xk_Qc D kx_cl (kw_m ad ca) ads (xo_v (.inl r)) u') args s (xk_A ads s.heap.size)) (F0 m 215 ls [.ref (ad 0)]) := by
  have hx := C.1.1
  have hb := C.1.2.1
  have hok := C.2.2.1
  unfold jb_Model_checkReferences_215 at h
  refine lv_iconst (v := 1) hx hb dd_Model_checkReferences_215 (by decide) ?_
  refine lv_goto (tgt := 220) hx hb dd_Model_checkReferences_216 (by decide) ?_
  exact wj_Model_checkReferences_220 htr C hne h hP hS (lv_sub hl [0, 1, 2, 3] rfl)
set_option maxHeartbeats 4000000 in
set_option maxRecDepth 100000 in
theorem wj_Model_checkReferences_32 {p : Program} {l : Launch} {e : Env} {s : State} {m : MethodId} {args : Array Value} {below : List Frame} {meth : Method} {c : Code} {D : va_G} {ad : Nat → Nat} {ca : Nat → ClassId} {ads : List Nat} {fu : Nat} (htr : l.stackTraces = false) (C : xk_C D kx_cl (kx_ty ca) (kw_m ad ca) ads "ModuleHouseModel" prog_14_method_89_code 8 none p e s m args meth c) (hne : c.exceptionTable.isEmpty = true) {u' : xk_St} {r : Unit} {s0 : Int32} {u : xk_St} {H : Heap} {locs : List Loc} {ls : Array Slot} (h : jb_Model_checkReferences_32 fu  s0 u = some (r, u')) (hP : va_P D kx_cl (kw_m ad ca u) H) (hS : va_S (xk_A ads s.heap.size) s.heap H locs) (hl : lv_has ls 8 [(0, .ref (ad 0))]) : W p l e rm_Model_checkReferences s m args below meth c H locs 0 0 (xk_MQ below (xk_Qc D kx_cl (kw_m ad ca) ads (xo_v (.inl r)) u') args s (xk_A ads s.heap.size)) (F0 m 32 ls [.int s0, .ref (ad 0)]) := by
  have hx := C.1.1
  have hb := C.1.2.1
  have hok := C.2.2.1
  unfold jb_Model_checkReferences_32 at h
  obtain ⟨hz, h⟩ := xp_p h
  refine pf_m_Model_0_wrong C hP hS hz dd_Model_checkReferences_32 (fun H locs hP hS => ?_)
  obtain ⟨u39, eu39, h⟩ := xp_let h
  rw [← eu39] at hP
  refine lv_aload_n hx hb dd_Model_checkReferences_35 rfl (lv_at hl 0 rfl) ?_
  refine lv_aload_n hx hb dd_Model_checkReferences_36 rfl (lv_at hl 0 rfl) ?_
  refine gf_m_Model_0_x C hP dd_Model_checkReferences_37 ?_
  refine lv_l2i hx hb dd_Model_checkReferences_40 rfl ?_
  refine lv_iconst (v := 1) hx hb dd_Model_checkReferences_41 (by decide) ?_
  obtain ⟨a40, u41, hq, h⟩ := xp_seq h
  refine xk_goesI (xr_S (As := [.int ((u39.2.1 0).toInt32), .int (1 : Int32)]) (rest := [.ref (ad 0)]) C hP hS (ct_Model_reference htr hok hq) kq_Model_203 ⟨rfl, rfl, Nat.le_of_ble_eq_true rfl, Nat.le_of_ble_eq_true rfl⟩ ⟨Nat.le_of_ble_eq_true rfl, Nat.le_of_ble_eq_true rfl⟩ hl.1 rfl rfl (Nat.le_of_ble_eq_true rfl) dd_Model_checkReferences_42) hS (fun H locs hP hS => ?_)
  clear hq
  obtain ⟨rx, u42, hq, h⟩ := xp_seq h
  refine xk_goesV (xr_V (As := [.int a40]) (rest := []) C hP hS (ct_Model_push htr hok hq) kq_Model_507 0 11 rfl rfl ⟨rfl, rfl, Nat.le_of_ble_eq_true rfl, Nat.le_of_ble_eq_true rfl⟩ ⟨Nat.le_of_ble_eq_true rfl, Nat.le_of_ble_eq_true rfl⟩ hl.1 rfl rfl (Nat.le_of_ble_eq_true rfl) dd_Model_checkReferences_45) hS (fun H locs hP hS => ?_)
  clear hq
  obtain ⟨rfl, rfl⟩ := xp_r h
  exact xr_vret C hP hS dd_Model_checkReferences_48
set_option maxHeartbeats 4000000 in
set_option maxRecDepth 100000 in
theorem ct_Model_checkReferences {l : Launch} {D : va_G} {ad : Nat → Nat} {ca : Nat → ClassId} {ads : List Nat} (htr : l.stackTraces = false) (hok : xk_ok (kw_m ad ca) ads) {fu : Nat} {u u' : xk_St} {r : Unit} (h : fm_Model_checkReferences fu u = some (r, u')) :
    ∀ sz, xk_Met l ⟨"ModuleHouseModel", "checkReferences", "()V"⟩ (Cond.code ⟨"ModuleHouseModel", "checkReferences", "()V"⟩ prog_14_method_89_code 8 none :: xk_gd) rm_Model_checkReferences (xk_Pc D kx_cl (kx_ty ca) (kw_m ad ca) ads xk_F sz [.ref (ad 0)] u) (xk_Qc D kx_cl (kw_m ad ca) ads (xo_v (.inl r)) u') (xk_A ads sz) := by
  unfold fm_Model_checkReferences at h
  refine xk_con (by decide) htr hok (Nat.le_of_ble_eq_true rfl) (fun p e s m below meth c ls C hne hl hP => ?_)
  have hx := C.1.1
  have hb := C.1.2.1
  have hS : va_S (xk_A ads s.heap.size) s.heap s.heap [] := va_S.rf
  have hl : lv_has ls 8 [(0, .ref (ad 0))] := hl
  refine lv_aload_n hx hb dd_Model_checkReferences_0 rfl (lv_at hl 0 rfl) ?_
  refine gf_m_Model_0_op C hP dd_Model_checkReferences_1 ?_
  refine lv_sipush (v := 208) hx hb dd_Model_checkReferences_4 (by decide) ?_
  refine lv_icmp_ne (tgt := 49) hx hb dd_Model_checkReferences_7 (by decide) (fun hc => ?_) (fun hc => ?_)
  · have h := xp_f hc h
    refine lv_aload_n hx hb dd_Model_checkReferences_49 rfl (lv_at hl 0 rfl) ?_
    obtain ⟨a1, u2, hq, h⟩ := xp_seq h
    refine xk_goesI (xr_V (As := []) (rest := []) C hP hS (ct_Model_takeReference htr hok hq) kq_Model_621 0 11 rfl rfl ⟨rfl, rfl, Nat.le_of_ble_eq_true rfl, Nat.le_of_ble_eq_true rfl⟩ ⟨Nat.le_of_ble_eq_true rfl, Nat.le_of_ble_eq_true rfl⟩ hl.1 rfl rfl (Nat.le_of_ble_eq_true rfl) dd_Model_checkReferences_50) hS (fun H locs hP hS => ?_)
    clear hq
    refine lv_istore_n (lv' := [(1, .int a1), (0, .ref (ad 0))]) hx hb dd_Model_checkReferences_53 rfl hl (by decide) rfl (fun ls hl => ?_)
    refine lv_aload_n hx hb dd_Model_checkReferences_54 rfl (lv_at hl 1 rfl) ?_
    refine gf_m_Model_0_op C hP dd_Model_checkReferences_55 ?_
    refine lv_sipush (v := 209) hx hb dd_Model_checkReferences_58 (by decide) ?_
    refine lv_icmp_eq (tgt := 74) hx hb dd_Model_checkReferences_61 (by decide) (fun hc => ?_) (fun hc => ?_)
    · have h := xp_t hc h
      exact wj_Model_checkReferences_74 htr C hne h hP hS (lv_sub hl [1] rfl)
    · have h := xp_f hc h
      refine lv_aload_n hx hb dd_Model_checkReferences_64 rfl (lv_at hl 1 rfl) ?_
      refine gf_m_Model_0_op C hP dd_Model_checkReferences_65 ?_
      refine lv_sipush (v := 211) hx hb dd_Model_checkReferences_68 (by decide) ?_
      refine lv_icmp_ne (tgt := 95) hx hb dd_Model_checkReferences_71 (by decide) (fun hc => ?_) (fun hc => ?_)
      · have h := xp_f hc h
        refine lv_aload_n hx hb dd_Model_checkReferences_95 rfl (lv_at hl 1 rfl) ?_
        refine gf_m_Model_0_op C hP dd_Model_checkReferences_96 ?_
        refine lv_sipush (v := 212) hx hb dd_Model_checkReferences_99 (by decide) ?_
        refine lv_icmp_ne (tgt := 114) hx hb dd_Model_checkReferences_102 (by decide) (fun hc => ?_) (fun hc => ?_)
        · have h := xp_f hc h
          refine lv_aload_n hx hb dd_Model_checkReferences_114 rfl (lv_at hl 1 rfl) ?_
          refine lv_aload_n hx hb dd_Model_checkReferences_115 rfl (lv_at hl 1 rfl) ?_
          refine gf_m_Model_0_x C hP dd_Model_checkReferences_116 ?_
          obtain ⟨a6, u7, hq, h⟩ := xp_seq h
          refine xk_goesI (xr_V (As := [.long (u2.2.1 0)]) (rest := []) C hP hS (ct_Model_out htr hok hq) kq_Model_554 0 11 rfl rfl ⟨rfl, rfl, Nat.le_of_ble_eq_true rfl, Nat.le_of_ble_eq_true rfl⟩ ⟨Nat.le_of_ble_eq_true rfl, Nat.le_of_ble_eq_true rfl⟩ hl.1 rfl rfl (Nat.le_of_ble_eq_true rfl) dd_Model_checkReferences_119) hS (fun H locs hP hS => ?_)
          clear hq
          refine lv_istore_n (lv' := [(2, .int a6), (1, .int a1), (0, .ref (ad 0))]) hx hb dd_Model_checkReferences_122 rfl hl (by decide) rfl (fun ls hl => ?_)
          refine lv_iload_n hx hb dd_Model_checkReferences_123 rfl (lv_at hl 0 rfl) ?_
          refine lv_if_ge (tgt := 128) hx hb dd_Model_checkReferences_124 (by decide) (fun hc => ?_) (fun hc => ?_)
          · have h := xp_t hc h
            refine lv_aload_n hx hb dd_Model_checkReferences_128 rfl (lv_at hl 2 rfl) ?_
            refine gf_m_Model_0_op C hP dd_Model_checkReferences_129 ?_
            refine lv_sipush (v := 213) hx hb dd_Model_checkReferences_132 (by decide) ?_
            refine lv_icmp_ne (tgt := 157) hx hb dd_Model_checkReferences_135 (by decide) (fun hc => ?_) (fun hc => ?_)
            · have h := xp_f hc h
              refine lv_aload_n hx hb dd_Model_checkReferences_157 rfl (lv_at hl 2 rfl) ?_
              refine gf_m_Model_0_blockType C hP dd_Model_checkReferences_158 ?_
              refine lv_iload_n hx hb dd_Model_checkReferences_161 rfl (lv_at hl 0 rfl) ?_
              obtain ⟨hi, h⟩ := xp_g h
              refine al_m_27 C hP hi dd_Model_checkReferences_162 ?_
              obtain ⟨a8, ea8, h⟩ := xp_let h
              refine xr_naml ea8 ?_
              refine lv_lstore_n (lv' := [(3, .long a8), (2, .int a6), (1, .int a1), (0, .ref (ad 0))]) hx hb dd_Model_checkReferences_163 rfl hl (by decide) rfl (fun ls hl => ?_)
              refine lv_aload_n hx hb dd_Model_checkReferences_164 rfl (lv_at hl 3 rfl) ?_
              refine lv_iload_n hx hb dd_Model_checkReferences_165 rfl (lv_at hl 1 rfl) ?_
              obtain ⟨a9, u10, hq, h⟩ := xp_seq h
              refine xk_goesI (xr_V (As := [.int a6]) (rest := []) C hP hS (ct_Model_leadsToResults htr hok hq) kq_Model_513 0 11 rfl rfl ⟨rfl, rfl, Nat.le_of_ble_eq_true rfl, Nat.le_of_ble_eq_true rfl⟩ ⟨Nat.le_of_ble_eq_true rfl, Nat.le_of_ble_eq_true rfl⟩ hl.1 rfl rfl (Nat.le_of_ble_eq_true rfl) dd_Model_checkReferences_166) hS (fun H locs hP hS => ?_)
              clear hq
              refine lv_istore (lv' := [(5, .int a9), (3, .long a8), (2, .int a6), (1, .int a1), (0, .ref (ad 0))]) hx hb dd_Model_checkReferences_169 hl (by decide) rfl (fun ls hl => ?_)
              refine lv_aload_n hx hb dd_Model_checkReferences_171 rfl (lv_at hl 4 rfl) ?_
              refine lv_lload_n hx hb dd_Model_checkReferences_172 rfl (lv_at hl 1 rfl) ?_
              refine lv_iload hx hb dd_Model_checkReferences_173 (lv_at hl 0 rfl) ?_
              obtain ⟨a11, u12, hq, h⟩ := xp_seq h
              refine xk_goesI (xr_V (As := [.long a8, .int a9]) (rest := []) C hP hS (ct_Model_countOf htr hok hq) kq_Model_496 0 11 rfl rfl ⟨rfl, rfl, Nat.le_of_ble_eq_true rfl, Nat.le_of_ble_eq_true rfl⟩ ⟨Nat.le_of_ble_eq_true rfl, Nat.le_of_ble_eq_true rfl⟩ hl.1 rfl rfl (Nat.le_of_ble_eq_true rfl) dd_Model_checkReferences_175) hS (fun H locs hP hS => ?_)
              clear hq
              refine lv_istore (lv' := [(6, .int a11), (5, .int a9), (3, .long a8), (2, .int a6), (1, .int a1), (0, .ref (ad 0))]) hx hb dd_Model_checkReferences_178 hl (by decide) rfl (fun ls hl => ?_)
              refine lv_aload_n hx hb dd_Model_checkReferences_180 rfl (lv_at hl 5 rfl) ?_
              refine lv_aload_n hx hb dd_Model_checkReferences_181 rfl (lv_at hl 5 rfl) ?_
              refine gf_m_Model_0_wrong C hP dd_Model_checkReferences_182 ?_
              refine lv_if_ne (tgt := 215) hx hb dd_Model_checkReferences_185 (by decide) (fun hc => ?_) (fun hc => ?_)
              · have h := xp_f hc h
                exact wj_Model_checkReferences_215 htr C hne h hP hS (lv_sub hl [5, 2, 1, 0] rfl)
              · have h := xp_t hc h
                refine lv_iload hx hb dd_Model_checkReferences_188 (lv_at hl 0 rfl) ?_
                refine lv_if_eq (tgt := 215) hx hb dd_Model_checkReferences_190 (by decide) (fun hc => ?_) (fun hc => ?_)
                · have h := xp_t hc h
                  exact wj_Model_checkReferences_215 htr C hne h hP hS (lv_sub hl [5, 2, 1, 0] rfl)
                · have h := xp_f hc h
                  refine lv_aload_n hx hb dd_Model_checkReferences_193 rfl (lv_at hl 5 rfl) ?_
                  refine lv_iload_n hx hb dd_Model_checkReferences_194 rfl (lv_at hl 4 rfl) ?_
                  obtain ⟨a23, u24, hq, h⟩ := xp_seq h
                  refine xk_goesI (xr_S (As := [.int a1]) (rest := [.ref (ad 0), .ref (ad 0)]) C hP hS (ct_Model_notNull htr hok hq) kq_Model_624 ⟨rfl, rfl, Nat.le_of_ble_eq_true rfl, Nat.le_of_ble_eq_true rfl⟩ ⟨Nat.le_of_ble_eq_true rfl, Nat.le_of_ble_eq_true rfl⟩ hl.1 rfl rfl (Nat.le_of_ble_eq_true rfl) dd_Model_checkReferences_195) hS (fun H locs hP hS => ?_)
                  clear hq
                  refine lv_aload_n hx hb dd_Model_checkReferences_198 rfl (lv_at hl 5 rfl) ?_
                  refine lv_lload_n hx hb dd_Model_checkReferences_199 rfl (lv_at hl 2 rfl) ?_
                  refine lv_iload hx hb dd_Model_checkReferences_200 (lv_at hl 1 rfl) ?_
                  refine lv_iload hx hb dd_Model_checkReferences_202 (lv_at hl 0 rfl) ?_
                  refine lv_iconst (v := 1) hx hb dd_Model_checkReferences_204 (by decide) ?_
                  refine lv_isub hx hb dd_Model_checkReferences_205 ?_
                  obtain ⟨a25, u26, hq, h⟩ := xp_seq h
                  refine xk_goesI (xr_V (As := [.long a8, .int a9, .int (a11 - (1 : Int32))]) (rest := [.int a23, .ref (ad 0), .ref (ad 0)]) C hP hS (ct_Model_typeOf htr hok hq) kq_Model_500 0 11 rfl rfl ⟨rfl, rfl, Nat.le_of_ble_eq_true rfl, Nat.le_of_ble_eq_true rfl⟩ ⟨Nat.le_of_ble_eq_true rfl, Nat.le_of_ble_eq_true rfl⟩ hl.1 rfl rfl (Nat.le_of_ble_eq_true rfl) dd_Model_checkReferences_206) hS (fun H locs hP hS => ?_)
                  clear hq
                  obtain ⟨a27, u28, hq, h⟩ := xp_seq h
                  refine xk_goesI (xr_V (As := [.int a23, .int a25]) (rest := [.ref (ad 0)]) C hP hS (ct_Model_fits htr hok hq) kq_Model_469 0 11 rfl rfl ⟨rfl, rfl, Nat.le_of_ble_eq_true rfl, Nat.le_of_ble_eq_true rfl⟩ ⟨Nat.le_of_ble_eq_true rfl, Nat.le_of_ble_eq_true rfl⟩ hl.1 rfl rfl (Nat.le_of_ble_eq_true rfl) dd_Model_checkReferences_209) hS (fun H locs hP hS => ?_)
                  clear hq
                  refine lv_if_ne (tgt := 219) hx hb dd_Model_checkReferences_212 (by decide) (fun hc => ?_) (fun hc => ?_)
                  · have h := xp_f hc h
                    refine lv_iconst (v := 0) hx hb dd_Model_checkReferences_219 (by decide) ?_
                    exact wj_Model_checkReferences_220 htr C hne h hP hS (lv_sub hl [5, 2, 1, 0] rfl)
                  · have h := xp_t hc h
                    exact wj_Model_checkReferences_215 htr C hne h hP hS (lv_sub hl [5, 2, 1, 0] rfl)
            · have h := xp_t hc h
              refine lv_aload_n hx hb dd_Model_checkReferences_138 rfl (lv_at hl 2 rfl) ?_
              refine lv_iload_n hx hb dd_Model_checkReferences_139 rfl (lv_at hl 0 rfl) ?_
              obtain ⟨rx, u29, hq, h⟩ := xp_seq h
              refine xk_goesV (xr_V (As := [.int a6]) (rest := []) C hP hS (ct_Model_takeEnd htr hok hq) kq_Model_562 0 11 rfl rfl ⟨rfl, rfl, Nat.le_of_ble_eq_true rfl, Nat.le_of_ble_eq_true rfl⟩ ⟨Nat.le_of_ble_eq_true rfl, Nat.le_of_ble_eq_true rfl⟩ hl.1 rfl rfl (Nat.le_of_ble_eq_true rfl) dd_Model_checkReferences_140) hS (fun H locs hP hS => ?_)
              clear hq
              refine lv_aload_n hx hb dd_Model_checkReferences_143 rfl (lv_at hl 2 rfl) ?_
              refine lv_iload_n hx hb dd_Model_checkReferences_144 rfl (lv_at hl 0 rfl) ?_
              obtain ⟨rx, u30, hq, h⟩ := xp_seq h
              refine xk_goesV (xr_V (As := [.int a6]) (rest := []) C hP hS (ct_Model_bringEnd htr hok hq) kq_Model_577 0 11 rfl rfl ⟨rfl, rfl, Nat.le_of_ble_eq_true rfl, Nat.le_of_ble_eq_true rfl⟩ ⟨Nat.le_of_ble_eq_true rfl, Nat.le_of_ble_eq_true rfl⟩ hl.1 rfl rfl (Nat.le_of_ble_eq_true rfl) dd_Model_checkReferences_145) hS (fun H locs hP hS => ?_)
              clear hq
              refine lv_aload_n hx hb dd_Model_checkReferences_148 rfl (lv_at hl 2 rfl) ?_
              refine lv_iload_n hx hb dd_Model_checkReferences_149 rfl (lv_at hl 1 rfl) ?_
              obtain ⟨a31, u32, hq, h⟩ := xp_seq h
              refine xk_goesI (xr_S (As := [.int a1]) (rest := [.ref (ad 0)]) C hP hS (ct_Model_notNull htr hok hq) kq_Model_624 ⟨rfl, rfl, Nat.le_of_ble_eq_true rfl, Nat.le_of_ble_eq_true rfl⟩ ⟨Nat.le_of_ble_eq_true rfl, Nat.le_of_ble_eq_true rfl⟩ hl.1 rfl rfl (Nat.le_of_ble_eq_true rfl) dd_Model_checkReferences_150) hS (fun H locs hP hS => ?_)
              clear hq
              obtain ⟨rx, u33, hq, h⟩ := xp_seq h
              refine xk_goesV (xr_V (As := [.int a31]) (rest := []) C hP hS (ct_Model_push htr hok hq) kq_Model_507 0 11 rfl rfl ⟨rfl, rfl, Nat.le_of_ble_eq_true rfl, Nat.le_of_ble_eq_true rfl⟩ ⟨Nat.le_of_ble_eq_true rfl, Nat.le_of_ble_eq_true rfl⟩ hl.1 rfl rfl (Nat.le_of_ble_eq_true rfl) dd_Model_checkReferences_153) hS (fun H locs hP hS => ?_)
              clear hq
              obtain ⟨rfl, rfl⟩ := xp_r h
              exact xr_vret C hP hS dd_Model_checkReferences_156
          · have h := xp_f hc h
            obtain ⟨rfl, rfl⟩ := xp_r h
            exact xr_vret C hP hS dd_Model_checkReferences_127
        · have h := xp_t hc h
          refine lv_aload_n hx hb dd_Model_checkReferences_105 rfl (lv_at hl 1 rfl) ?_
          refine lv_iload_n hx hb dd_Model_checkReferences_106 rfl (lv_at hl 0 rfl) ?_
          obtain ⟨a34, u35, hq, h⟩ := xp_seq h
          refine xk_goesI (xr_S (As := [.int a1]) (rest := [.ref (ad 0)]) C hP hS (ct_Model_notNull htr hok hq) kq_Model_624 ⟨rfl, rfl, Nat.le_of_ble_eq_true rfl, Nat.le_of_ble_eq_true rfl⟩ ⟨Nat.le_of_ble_eq_true rfl, Nat.le_of_ble_eq_true rfl⟩ hl.1 rfl rfl (Nat.le_of_ble_eq_true rfl) dd_Model_checkReferences_107) hS (fun H locs hP hS => ?_)
          clear hq
          obtain ⟨rx, u36, hq, h⟩ := xp_seq h
          refine xk_goesV (xr_V (As := [.int a34]) (rest := []) C hP hS (ct_Model_push htr hok hq) kq_Model_507 0 11 rfl rfl ⟨rfl, rfl, Nat.le_of_ble_eq_true rfl, Nat.le_of_ble_eq_true rfl⟩ ⟨Nat.le_of_ble_eq_true rfl, Nat.le_of_ble_eq_true rfl⟩ hl.1 rfl rfl (Nat.le_of_ble_eq_true rfl) dd_Model_checkReferences_110) hS (fun H locs hP hS => ?_)
          clear hq
          obtain ⟨rfl, rfl⟩ := xp_r h
          exact xr_vret C hP hS dd_Model_checkReferences_113
      · have h := xp_t hc h
        exact wj_Model_checkReferences_74 htr C hne h hP hS (lv_sub hl [1] rfl)
  · have h := xp_t hc h
    refine lv_aload_n hx hb dd_Model_checkReferences_10 rfl (lv_at hl 0 rfl) ?_
    refine lv_aload_n hx hb dd_Model_checkReferences_11 rfl (lv_at hl 0 rfl) ?_
    refine lv_aload_n hx hb dd_Model_checkReferences_12 rfl (lv_at hl 0 rfl) ?_
    refine gf_m_Model_0_x C hP dd_Model_checkReferences_13 ?_
    refine lv_l2i hx hb dd_Model_checkReferences_16 rfl ?_
    refine lv_aload_n hx hb dd_Model_checkReferences_17 rfl (lv_at hl 0 rfl) ?_
    refine gf_m_Model_0_types C hP dd_Model_checkReferences_18 ?_
    obtain ⟨a37, u38, hq, h⟩ := xp_seq h
    refine xk_goesI (xr_V (As := [.int ((u.2.1 0).toInt32), .int (u.1 12)]) (rest := [.ref (ad 0)]) C hP hS (ct_Model_isObjectType htr hok hq) kq_Model_390 0 11 rfl rfl ⟨rfl, rfl, Nat.le_of_ble_eq_true rfl, Nat.le_of_ble_eq_true rfl⟩ ⟨Nat.le_of_ble_eq_true rfl, Nat.le_of_ble_eq_true rfl⟩ hl.1 rfl rfl (Nat.le_of_ble_eq_true rfl) dd_Model_checkReferences_21) hS (fun H locs hP hS => ?_)
    clear hq
    refine lv_if_ne (tgt := 31) hx hb dd_Model_checkReferences_24 (by decide) (fun hc => ?_) (fun hc => ?_)
    · have h := xp_f hc h
      refine lv_iconst (v := 0) hx hb dd_Model_checkReferences_31 (by decide) ?_
      exact wj_Model_checkReferences_32 htr C hne h hP hS (lv_sub hl [0] rfl)
    · have h := xp_t hc h
      refine lv_iconst (v := 1) hx hb dd_Model_checkReferences_27 (by decide) ?_
      refine lv_goto (tgt := 32) hx hb dd_Model_checkReferences_28 (by decide) ?_
      exact wj_Model_checkReferences_32 htr C hne h hP hS (lv_sub hl [0] rfl)
