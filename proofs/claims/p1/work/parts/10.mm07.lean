abbrev rm_Model_checkNumbers : Room := { frames := 4, cells := 1, slots := 6, locals := 65 }
noncomputable def jb_Model_checkNumbers_33 (s0 : Int32) (u : xk_St) : Option (Unit × xk_St) :=
  (xs_seq (fm_Model_push s0 u) fun _ u1 => some ((()), u1))
noncomputable def jb_Model_checkNumbers_18 (u : xk_St) : Option (Unit × xk_St) :=
  if (u.1 8) = (65 : Int32) then (jb_Model_checkNumbers_33 (1 : Int32) u) else (jb_Model_checkNumbers_33 (2 : Int32) u)
noncomputable def jb_Model_checkNumbers_278 (s0 : Int32) (u : xk_St) : Option (Unit × xk_St) :=
  (xs_seq (fm_Model_push s0 u) fun _ u9 => some ((()), u9))
noncomputable def jb_Model_checkNumbers_268 (b3 : Int32) (u : xk_St) : Option (Unit × xk_St) :=
  if b3 = (0 : Int32) then (jb_Model_checkNumbers_278 (1 : Int32) u) else (jb_Model_checkNumbers_278 (2 : Int32) u)
noncomputable def jb_Model_checkNumbers_265 (b3 : Int32) (s0 : Int32) (u : xk_St) : Option (Unit × xk_St) :=
  (xs_seq (fm_Model_take s0 u) fun _ u10 => jb_Model_checkNumbers_268 b3 u10)
noncomputable def jb_Model_checkNumbers_248 (b1 : Int32) (b2 : Int32) (b3 : Int32) (s0 : Int32) (u : xk_St) : Option (Unit × xk_St) :=
  (xs_seq (fm_Model_take s0 u) fun _ u8 => if b2 = (0 : Int32) then (jb_Model_checkNumbers_268 b3 u8) else (if b1 = (0 : Int32) then (jb_Model_checkNumbers_265 b3 (1 : Int32) u8) else (jb_Model_checkNumbers_265 b3 (2 : Int32) u8)))
noncomputable def jb_Model_checkNumbers_237 (b1 : Int32) (b2 : Int32) (s0 : Int32) (u : xk_St) : Option (Unit × xk_St) :=
  if b1 = (0 : Int32) then (jb_Model_checkNumbers_248 b1 b2 s0 (1 : Int32) u) else (jb_Model_checkNumbers_248 b1 b2 s0 (2 : Int32) u)
noncomputable def jb_Model_checkNumbers_232 (b1 : Int32) (b2 : Int32) (u : xk_St) : Option (Unit × xk_St) :=
  jb_Model_checkNumbers_237 b1 b2 (1 : Int32) u
noncomputable def jb_Model_checkNumbers_177 (b1 : Int32) (s0 : Int32) (u : xk_St) : Option (Unit × xk_St) :=
  (xs_seq (fm_Model_in ((u.1 8).toInt64) (121 : Int64) (138 : Int64) u) fun a6 u7 => if a6 = (0 : Int32) then (if (u7.1 8) = (172 : Int32) then (jb_Model_checkNumbers_232 b1 s0 u7) else (if (u7.1 8) = (173 : Int32) then (jb_Model_checkNumbers_232 b1 s0 u7) else ((xs_seq (fm_Model_in ((u7.1 8).toInt64) (194 : Int64) (196 : Int64) u7) fun a11 u12 => if a11 = (0 : Int32) then (jb_Model_checkNumbers_237 b1 s0 (0 : Int32) u12) else (jb_Model_checkNumbers_232 b1 s0 u12))))) else (jb_Model_checkNumbers_232 b1 s0 u7))
noncomputable def jb_Model_checkNumbers_172 (b1 : Int32) (u : xk_St) : Option (Unit × xk_St) :=
  jb_Model_checkNumbers_177 b1 (1 : Int32) u
noncomputable def jb_Model_checkNumbers_103 (s0 : Int32) (u : xk_St) : Option (Unit × xk_St) :=
  (xs_seq (fm_Model_in ((u.1 8).toInt64) (70 : Int64) (79 : Int64) u) fun a4 u5 => if a4 = (0 : Int32) then ((xs_seq (fm_Model_in ((u5.1 8).toInt64) (81 : Int64) (90 : Int64) u5) fun a13 u14 => if a13 = (0 : Int32) then ((xs_seq (fm_Model_in ((u14.1 8).toInt64) (106 : Int64) (120 : Int64) u14) fun a15 u16 => if a15 = (0 : Int32) then ((xs_seq (fm_Model_in ((u16.1 8).toInt64) (124 : Int64) (138 : Int64) u16) fun a17 u18 => if a17 = (0 : Int32) then (jb_Model_checkNumbers_177 s0 (0 : Int32) u18) else (jb_Model_checkNumbers_172 s0 u18))) else (jb_Model_checkNumbers_172 s0 u16))) else (jb_Model_checkNumbers_172 s0 u14))) else (jb_Model_checkNumbers_172 s0 u5))
noncomputable def jb_Model_checkNumbers_98 (u : xk_St) : Option (Unit × xk_St) :=
  jb_Model_checkNumbers_103 (1 : Int32) u
noncomputable def fm_Model_checkNumbers (u : xk_St) : Option (Unit × xk_St) :=
  if (u.1 8) = (65 : Int32) then (jb_Model_checkNumbers_18 u) else (if (u.1 8) = (66 : Int32) then (jb_Model_checkNumbers_18 u) else ((xs_seq (fm_Model_in ((u.1 8).toInt64) (80 : Int64) (90 : Int64) u) fun a2 u3 => if a2 = (0 : Int32) then ((xs_seq (fm_Model_in ((u3.1 8).toInt64) (121 : Int64) (138 : Int64) u3) fun a19 u20 => if a19 = (0 : Int32) then (if (u20.1 8) = (167 : Int32) then (jb_Model_checkNumbers_98 u20) else ((xs_seq (fm_Model_in ((u20.1 8).toInt64) (194 : Int64) (196 : Int64) u20) fun a21 u22 => if a21 = (0 : Int32) then (jb_Model_checkNumbers_103 (0 : Int32) u22) else (jb_Model_checkNumbers_98 u22)))) else (jb_Model_checkNumbers_98 u20))) else (jb_Model_checkNumbers_98 u3))))
set_option maxHeartbeats 4000000 in
set_option maxRecDepth 100000 in
theorem wj_Model_checkNumbers_33 {p : Program} {l : Launch} {e : Env} {s : State} {m : MethodId} {args : Array Value} {below : List Frame} {meth : Method} {c : Code} {D : va_G} {ad : Nat → Nat} {ca : Nat → ClassId} {ads : List Nat} (htr : l.stackTraces = false) (C : xk_C D kx_cl (kx_ty ca) (kw_m ad ca) ads "ModuleHouseModel" prog_14_method_88_code 4 none p e s m args meth c) (hne : c.exceptionTable.isEmpty = true) {u' : xk_St} {r : Unit} {s0 : Int32} {u : xk_St} {H : Heap} {locs : List Loc} {ls : Array Slot} (h : jb_Model_checkNumbers_33  s0 u = some (r, u')) (hP : va_P D kx_cl (kw_m ad ca u) H) (hS : va_S (xk_A ads s.heap.size) s.heap H locs) (hl : lv_has ls 4 []) : W p l e rm_Model_checkNumbers s m args below meth c H locs 0 0 (xk_MQ below (xk_Qc D kx_cl (kw_m ad ca) ads (xo_v (.inl r)) u') args s (xk_A ads s.heap.size)) (F0 m 33 ls [.int s0, .ref (ad 0)]) := by
  have hx := C.1.1
  have hb := C.1.2.1
  have hok := C.2.2.1
  unfold jb_Model_checkNumbers_33 at h
  obtain ⟨rx, u1, hq, h⟩ := xp_seq h
  refine xk_goesV (xr_V (As := [.int s0]) (rest := []) C hP hS (ct_Model_push htr hok hq) kq_Model_507 0 11 rfl rfl ⟨rfl, rfl, Nat.le_of_ble_eq_true rfl, Nat.le_of_ble_eq_true rfl⟩ ⟨Nat.le_of_ble_eq_true rfl, Nat.le_of_ble_eq_true rfl⟩ hl.1 rfl rfl (Nat.le_of_ble_eq_true rfl) dd_Model_checkNumbers_33) hS (fun H locs hP hS => ?_)
  clear hq
  obtain ⟨rfl, rfl⟩ := xp_r h
  exact xr_vret C hP hS dd_Model_checkNumbers_36
set_option maxHeartbeats 4000000 in
set_option maxRecDepth 100000 in
theorem wj_Model_checkNumbers_18 {p : Program} {l : Launch} {e : Env} {s : State} {m : MethodId} {args : Array Value} {below : List Frame} {meth : Method} {c : Code} {D : va_G} {ad : Nat → Nat} {ca : Nat → ClassId} {ads : List Nat} (htr : l.stackTraces = false) (C : xk_C D kx_cl (kx_ty ca) (kw_m ad ca) ads "ModuleHouseModel" prog_14_method_88_code 4 none p e s m args meth c) (hne : c.exceptionTable.isEmpty = true) {u' : xk_St} {r : Unit} {u : xk_St} {H : Heap} {locs : List Loc} {ls : Array Slot} (h : jb_Model_checkNumbers_18   u = some (r, u')) (hP : va_P D kx_cl (kw_m ad ca u) H) (hS : va_S (xk_A ads s.heap.size) s.heap H locs) (hl : lv_has ls 4 [(0, .ref (ad 0))]) : W p l e rm_Model_checkNumbers s m args below meth c H locs 0 0 (xk_MQ below (xk_Qc D kx_cl (kw_m ad ca) ads (xo_v (.inl r)) u') args s (xk_A ads s.heap.size)) (F0 m 18 ls []) := by
  have hx := C.1.1
  have hb := C.1.2.1
  have hok := C.2.2.1
  unfold jb_Model_checkNumbers_18 at h
  refine lv_aload_n hx hb dd_Model_checkNumbers_18 rfl (lv_at hl 0 rfl) ?_
  refine lv_aload_n hx hb dd_Model_checkNumbers_19 rfl (lv_at hl 0 rfl) ?_
  refine gf_m_Model_0_op C hP dd_Model_checkNumbers_20 ?_
  refine lv_bipush (v := 65) hx hb dd_Model_checkNumbers_23 (by decide) ?_
  refine lv_icmp_ne (tgt := 32) hx hb dd_Model_checkNumbers_25 (by decide) (fun hc => ?_) (fun hc => ?_)
  · have h := xp_f hc h
    refine lv_iconst (v := 2) hx hb dd_Model_checkNumbers_32 (by decide) ?_
    exact wj_Model_checkNumbers_33 htr C hne h hP hS (lv_sub hl [] rfl)
  · have h := xp_t hc h
    refine lv_iconst (v := 1) hx hb dd_Model_checkNumbers_28 (by decide) ?_
    refine lv_goto (tgt := 33) hx hb dd_Model_checkNumbers_29 (by decide) ?_
    exact wj_Model_checkNumbers_33 htr C hne h hP hS (lv_sub hl [] rfl)
set_option maxHeartbeats 4000000 in
set_option maxRecDepth 100000 in
theorem wj_Model_checkNumbers_278 {p : Program} {l : Launch} {e : Env} {s : State} {m : MethodId} {args : Array Value} {below : List Frame} {meth : Method} {c : Code} {D : va_G} {ad : Nat → Nat} {ca : Nat → ClassId} {ads : List Nat} (htr : l.stackTraces = false) (C : xk_C D kx_cl (kx_ty ca) (kw_m ad ca) ads "ModuleHouseModel" prog_14_method_88_code 4 none p e s m args meth c) (hne : c.exceptionTable.isEmpty = true) {u' : xk_St} {r : Unit} {s0 : Int32} {u : xk_St} {H : Heap} {locs : List Loc} {ls : Array Slot} (h : jb_Model_checkNumbers_278  s0 u = some (r, u')) (hP : va_P D kx_cl (kw_m ad ca u) H) (hS : va_S (xk_A ads s.heap.size) s.heap H locs) (hl : lv_has ls 4 []) : W p l e rm_Model_checkNumbers s m args below meth c H locs 0 0 (xk_MQ below (xk_Qc D kx_cl (kw_m ad ca) ads (xo_v (.inl r)) u') args s (xk_A ads s.heap.size)) (F0 m 278 ls [.int s0, .ref (ad 0)]) := by
  have hx := C.1.1
  have hb := C.1.2.1
  have hok := C.2.2.1
  unfold jb_Model_checkNumbers_278 at h
  obtain ⟨rx, u9, hq, h⟩ := xp_seq h
  refine xk_goesV (xr_V (As := [.int s0]) (rest := []) C hP hS (ct_Model_push htr hok hq) kq_Model_507 0 11 rfl rfl ⟨rfl, rfl, Nat.le_of_ble_eq_true rfl, Nat.le_of_ble_eq_true rfl⟩ ⟨Nat.le_of_ble_eq_true rfl, Nat.le_of_ble_eq_true rfl⟩ hl.1 rfl rfl (Nat.le_of_ble_eq_true rfl) dd_Model_checkNumbers_278) hS (fun H locs hP hS => ?_)
  clear hq
  obtain ⟨rfl, rfl⟩ := xp_r h
  exact xr_vret C hP hS dd_Model_checkNumbers_281
set_option maxHeartbeats 4000000 in
set_option maxRecDepth 100000 in
theorem wj_Model_checkNumbers_268 {p : Program} {l : Launch} {e : Env} {s : State} {m : MethodId} {args : Array Value} {below : List Frame} {meth : Method} {c : Code} {D : va_G} {ad : Nat → Nat} {ca : Nat → ClassId} {ads : List Nat} (htr : l.stackTraces = false) (C : xk_C D kx_cl (kx_ty ca) (kw_m ad ca) ads "ModuleHouseModel" prog_14_method_88_code 4 none p e s m args meth c) (hne : c.exceptionTable.isEmpty = true) {u' : xk_St} {r : Unit} {b3 : Int32} {u : xk_St} {H : Heap} {locs : List Loc} {ls : Array Slot} (h : jb_Model_checkNumbers_268  b3 u = some (r, u')) (hP : va_P D kx_cl (kw_m ad ca u) H) (hS : va_S (xk_A ads s.heap.size) s.heap H locs) (hl : lv_has ls 4 [(0, .ref (ad 0)), (3, .int b3)]) : W p l e rm_Model_checkNumbers s m args below meth c H locs 0 0 (xk_MQ below (xk_Qc D kx_cl (kw_m ad ca) ads (xo_v (.inl r)) u') args s (xk_A ads s.heap.size)) (F0 m 268 ls []) := by
  have hx := C.1.1
  have hb := C.1.2.1
  have hok := C.2.2.1
  unfold jb_Model_checkNumbers_268 at h
  refine lv_aload_n hx hb dd_Model_checkNumbers_268 rfl (lv_at hl 0 rfl) ?_
  refine lv_iload_n hx hb dd_Model_checkNumbers_269 rfl (lv_at hl 1 rfl) ?_
  refine lv_if_eq (tgt := 277) hx hb dd_Model_checkNumbers_270 (by decide) (fun hc => ?_) (fun hc => ?_)
  · have h := xp_t hc h
    refine lv_iconst (v := 1) hx hb dd_Model_checkNumbers_277 (by decide) ?_
    exact wj_Model_checkNumbers_278 htr C hne h hP hS (lv_sub hl [] rfl)
  · have h := xp_f hc h
    refine lv_iconst (v := 2) hx hb dd_Model_checkNumbers_273 (by decide) ?_
    refine lv_goto (tgt := 278) hx hb dd_Model_checkNumbers_274 (by decide) ?_
    exact wj_Model_checkNumbers_278 htr C hne h hP hS (lv_sub hl [] rfl)
set_option maxHeartbeats 4000000 in
set_option maxRecDepth 100000 in
theorem wj_Model_checkNumbers_265 {p : Program} {l : Launch} {e : Env} {s : State} {m : MethodId} {args : Array Value} {below : List Frame} {meth : Method} {c : Code} {D : va_G} {ad : Nat → Nat} {ca : Nat → ClassId} {ads : List Nat} (htr : l.stackTraces = false) (C : xk_C D kx_cl (kx_ty ca) (kw_m ad ca) ads "ModuleHouseModel" prog_14_method_88_code 4 none p e s m args meth c) (hne : c.exceptionTable.isEmpty = true) {u' : xk_St} {r : Unit} {b3 : Int32} {s0 : Int32} {u : xk_St} {H : Heap} {locs : List Loc} {ls : Array Slot} (h : jb_Model_checkNumbers_265  b3 s0 u = some (r, u')) (hP : va_P D kx_cl (kw_m ad ca u) H) (hS : va_S (xk_A ads s.heap.size) s.heap H locs) (hl : lv_has ls 4 [(0, .ref (ad 0)), (3, .int b3)]) : W p l e rm_Model_checkNumbers s m args below meth c H locs 0 0 (xk_MQ below (xk_Qc D kx_cl (kw_m ad ca) ads (xo_v (.inl r)) u') args s (xk_A ads s.heap.size)) (F0 m 265 ls [.int s0, .ref (ad 0)]) := by
  have hx := C.1.1
  have hb := C.1.2.1
  have hok := C.2.2.1
  unfold jb_Model_checkNumbers_265 at h
  obtain ⟨rx, u10, hq, h⟩ := xp_seq h
  refine xk_goesV (xr_V (As := [.int s0]) (rest := []) C hP hS (ct_Model_take htr hok hq) kq_Model_504 0 11 rfl rfl ⟨rfl, rfl, Nat.le_of_ble_eq_true rfl, Nat.le_of_ble_eq_true rfl⟩ ⟨Nat.le_of_ble_eq_true rfl, Nat.le_of_ble_eq_true rfl⟩ hl.1 rfl rfl (Nat.le_of_ble_eq_true rfl) dd_Model_checkNumbers_265) hS (fun H locs hP hS => ?_)
  clear hq
  exact wj_Model_checkNumbers_268 htr C hne h hP hS (lv_sub hl [0, 1] rfl)
set_option maxHeartbeats 4000000 in
set_option maxRecDepth 100000 in
theorem wj_Model_checkNumbers_248 {p : Program} {l : Launch} {e : Env} {s : State} {m : MethodId} {args : Array Value} {below : List Frame} {meth : Method} {c : Code} {D : va_G} {ad : Nat → Nat} {ca : Nat → ClassId} {ads : List Nat} (htr : l.stackTraces = false) (C : xk_C D kx_cl (kx_ty ca) (kw_m ad ca) ads "ModuleHouseModel" prog_14_method_88_code 4 none p e s m args meth c) (hne : c.exceptionTable.isEmpty = true) {u' : xk_St} {r : Unit} {b1 : Int32} {b2 : Int32} {b3 : Int32} {s0 : Int32} {u : xk_St} {H : Heap} {locs : List Loc} {ls : Array Slot} (h : jb_Model_checkNumbers_248  b1 b2 b3 s0 u = some (r, u')) (hP : va_P D kx_cl (kw_m ad ca u) H) (hS : va_S (xk_A ads s.heap.size) s.heap H locs) (hl : lv_has ls 4 [(0, .ref (ad 0)), (1, .int b1), (2, .int b2), (3, .int b3)]) : W p l e rm_Model_checkNumbers s m args below meth c H locs 0 0 (xk_MQ below (xk_Qc D kx_cl (kw_m ad ca) ads (xo_v (.inl r)) u') args s (xk_A ads s.heap.size)) (F0 m 248 ls [.int s0, .ref (ad 0)]) := by
  have hx := C.1.1
  have hb := C.1.2.1
  have hok := C.2.2.1
  unfold jb_Model_checkNumbers_248 at h
  obtain ⟨rx, u8, hq, h⟩ := xp_seq h
  refine xk_goesV (xr_V (As := [.int s0]) (rest := []) C hP hS (ct_Model_take htr hok hq) kq_Model_504 0 11 rfl rfl ⟨rfl, rfl, Nat.le_of_ble_eq_true rfl, Nat.le_of_ble_eq_true rfl⟩ ⟨Nat.le_of_ble_eq_true rfl, Nat.le_of_ble_eq_true rfl⟩ hl.1 rfl rfl (Nat.le_of_ble_eq_true rfl) dd_Model_checkNumbers_248) hS (fun H locs hP hS => ?_)
  clear hq
  refine lv_iload_n hx hb dd_Model_checkNumbers_251 rfl (lv_at hl 2 rfl) ?_
  refine lv_if_eq (tgt := 268) hx hb dd_Model_checkNumbers_252 (by decide) (fun hc => ?_) (fun hc => ?_)
  · have h := xp_t hc h
    exact wj_Model_checkNumbers_268 htr C hne h hP hS (lv_sub hl [0, 3] rfl)
  · have h := xp_f hc h
    refine lv_aload_n hx hb dd_Model_checkNumbers_255 rfl (lv_at hl 0 rfl) ?_
    refine lv_iload_n hx hb dd_Model_checkNumbers_256 rfl (lv_at hl 1 rfl) ?_
    refine lv_if_eq (tgt := 264) hx hb dd_Model_checkNumbers_257 (by decide) (fun hc => ?_) (fun hc => ?_)
    · have h := xp_t hc h
      refine lv_iconst (v := 1) hx hb dd_Model_checkNumbers_264 (by decide) ?_
      exact wj_Model_checkNumbers_265 htr C hne h hP hS (lv_sub hl [0, 3] rfl)
    · have h := xp_f hc h
      refine lv_iconst (v := 2) hx hb dd_Model_checkNumbers_260 (by decide) ?_
      refine lv_goto (tgt := 265) hx hb dd_Model_checkNumbers_261 (by decide) ?_
      exact wj_Model_checkNumbers_265 htr C hne h hP hS (lv_sub hl [0, 3] rfl)
set_option maxHeartbeats 4000000 in
set_option maxRecDepth 100000 in
theorem wj_Model_checkNumbers_237 {p : Program} {l : Launch} {e : Env} {s : State} {m : MethodId} {args : Array Value} {below : List Frame} {meth : Method} {c : Code} {D : va_G} {ad : Nat → Nat} {ca : Nat → ClassId} {ads : List Nat} (htr : l.stackTraces = false) (C : xk_C D kx_cl (kx_ty ca) (kw_m ad ca) ads "ModuleHouseModel" prog_14_method_88_code 4 none p e s m args meth c) (hne : c.exceptionTable.isEmpty = true) {u' : xk_St} {r : Unit} {b1 : Int32} {b2 : Int32} {s0 : Int32} {u : xk_St} {H : Heap} {locs : List Loc} {ls : Array Slot} (h : jb_Model_checkNumbers_237  b1 b2 s0 u = some (r, u')) (hP : va_P D kx_cl (kw_m ad ca u) H) (hS : va_S (xk_A ads s.heap.size) s.heap H locs) (hl : lv_has ls 4 [(0, .ref (ad 0)), (1, .int b1), (2, .int b2)]) : W p l e rm_Model_checkNumbers s m args below meth c H locs 0 0 (xk_MQ below (xk_Qc D kx_cl (kw_m ad ca) ads (xo_v (.inl r)) u') args s (xk_A ads s.heap.size)) (F0 m 237 ls [.int s0]) := by
  have hx := C.1.1
  have hb := C.1.2.1
  have hok := C.2.2.1
  unfold jb_Model_checkNumbers_237 at h
  refine lv_istore_n (lv' := [(3, .int s0), (0, .ref (ad 0)), (1, .int b1), (2, .int b2)]) hx hb dd_Model_checkNumbers_237 rfl hl (by decide) rfl (fun ls hl => ?_)
  refine lv_aload_n hx hb dd_Model_checkNumbers_238 rfl (lv_at hl 1 rfl) ?_
  refine lv_iload_n hx hb dd_Model_checkNumbers_239 rfl (lv_at hl 2 rfl) ?_
  refine lv_if_eq (tgt := 247) hx hb dd_Model_checkNumbers_240 (by decide) (fun hc => ?_) (fun hc => ?_)
  · have h := xp_t hc h
    refine lv_iconst (v := 1) hx hb dd_Model_checkNumbers_247 (by decide) ?_
    exact wj_Model_checkNumbers_248 htr C hne h hP hS (lv_sub hl [1, 2, 3, 0] rfl)
  · have h := xp_f hc h
    refine lv_iconst (v := 2) hx hb dd_Model_checkNumbers_243 (by decide) ?_
    refine lv_goto (tgt := 248) hx hb dd_Model_checkNumbers_244 (by decide) ?_
    exact wj_Model_checkNumbers_248 htr C hne h hP hS (lv_sub hl [1, 2, 3, 0] rfl)
set_option maxHeartbeats 4000000 in
set_option maxRecDepth 100000 in
theorem wj_Model_checkNumbers_232 {p : Program} {l : Launch} {e : Env} {s : State} {m : MethodId} {args : Array Value} {below : List Frame} {meth : Method} {c : Code} {D : va_G} {ad : Nat → Nat} {ca : Nat → ClassId} {ads : List Nat} (htr : l.stackTraces = false) (C : xk_C D kx_cl (kx_ty ca) (kw_m ad ca) ads "ModuleHouseModel" prog_14_method_88_code 4 none p e s m args meth c) (hne : c.exceptionTable.isEmpty = true) {u' : xk_St} {r : Unit} {b1 : Int32} {b2 : Int32} {u : xk_St} {H : Heap} {locs : List Loc} {ls : Array Slot} (h : jb_Model_checkNumbers_232  b1 b2 u = some (r, u')) (hP : va_P D kx_cl (kw_m ad ca u) H) (hS : va_S (xk_A ads s.heap.size) s.heap H locs) (hl : lv_has ls 4 [(0, .ref (ad 0)), (1, .int b1), (2, .int b2)]) : W p l e rm_Model_checkNumbers s m args below meth c H locs 0 0 (xk_MQ below (xk_Qc D kx_cl (kw_m ad ca) ads (xo_v (.inl r)) u') args s (xk_A ads s.heap.size)) (F0 m 232 ls []) := by
  have hx := C.1.1
  have hb := C.1.2.1
  have hok := C.2.2.1
  unfold jb_Model_checkNumbers_232 at h
  refine lv_iconst (v := 1) hx hb dd_Model_checkNumbers_232 (by decide) ?_
  refine lv_goto (tgt := 237) hx hb dd_Model_checkNumbers_233 (by decide) ?_
  exact wj_Model_checkNumbers_237 htr C hne h hP hS (lv_sub hl [0, 1, 2] rfl)
set_option maxHeartbeats 4000000 in
set_option maxRecDepth 100000 in
theorem wj_Model_checkNumbers_177 {p : Program} {l : Launch} {e : Env} {s : State} {m : MethodId} {args : Array Value} {below : List Frame} {meth : Method} {c : Code} {D : va_G} {ad : Nat → Nat} {ca : Nat → ClassId} {ads : List Nat} (htr : l.stackTraces = false) (C : xk_C D kx_cl (kx_ty ca) (kw_m ad ca) ads "ModuleHouseModel" prog_14_method_88_code 4 none p e s m args meth c) (hne : c.exceptionTable.isEmpty = true) {u' : xk_St} {r : Unit} {b1 : Int32} {s0 : Int32} {u : xk_St} {H : Heap} {locs : List Loc} {ls : Array Slot} (h : jb_Model_checkNumbers_177  b1 s0 u = some (r, u')) (hP : va_P D kx_cl (kw_m ad ca u) H) (hS : va_S (xk_A ads s.heap.size) s.heap H locs) (hl : lv_has ls 4 [(0, .ref (ad 0)), (1, .int b1)]) : W p l e rm_Model_checkNumbers s m args below meth c H locs 0 0 (xk_MQ below (xk_Qc D kx_cl (kw_m ad ca) ads (xo_v (.inl r)) u') args s (xk_A ads s.heap.size)) (F0 m 177 ls [.int s0]) := by
  have hx := C.1.1
  have hb := C.1.2.1
  have hok := C.2.2.1
  unfold jb_Model_checkNumbers_177 at h
  refine lv_istore_n (lv' := [(2, .int s0), (0, .ref (ad 0)), (1, .int b1)]) hx hb dd_Model_checkNumbers_177 rfl hl (by decide) rfl (fun ls hl => ?_)
  refine lv_aload_n hx hb dd_Model_checkNumbers_178 rfl (lv_at hl 1 rfl) ?_
  refine gf_m_Model_0_op C hP dd_Model_checkNumbers_179 ?_
  refine lv_i2l hx hb dd_Model_checkNumbers_182 rfl ?_
  refine lv_ldc2 (v := 121) hx hb C.1.2.2.2.1 (C.1.2.2.2.2 _ (xk_c10 (w := Jvm.Cond.constantLong "ModuleHouseModel" 605 121) 203 rfl rfl)) dd_Model_checkNumbers_183 ?_
  refine lv_ldc2 (v := 138) hx hb C.1.2.2.2.1 (C.1.2.2.2.2 _ (xk_c9 (w := Jvm.Cond.constantLong "ModuleHouseModel" 261 138) 238 rfl rfl)) dd_Model_checkNumbers_186 ?_
  obtain ⟨a6, u7, hq, h⟩ := xp_seq h
  refine xk_goesI (xr_S (As := [.long ((u.1 8).toInt64), .long (121 : Int64), .long (138 : Int64)]) (rest := []) C hP hS (ct_Model_in htr hok hq) kq_Model_219 ⟨rfl, rfl, Nat.le_of_ble_eq_true rfl, Nat.le_of_ble_eq_true rfl⟩ ⟨Nat.le_of_ble_eq_true rfl, Nat.le_of_ble_eq_true rfl⟩ hl.1 rfl rfl (Nat.le_of_ble_eq_true rfl) dd_Model_checkNumbers_189) hS (fun H locs hP hS => ?_)
  clear hq
  refine lv_if_ne (tgt := 232) hx hb dd_Model_checkNumbers_192 (by decide) (fun hc => ?_) (fun hc => ?_)
  · have h := xp_f hc h
    exact wj_Model_checkNumbers_232 htr C hne h hP hS (lv_sub hl [1, 2, 0] rfl)
  · have h := xp_t hc h
    refine lv_aload_n hx hb dd_Model_checkNumbers_195 rfl (lv_at hl 1 rfl) ?_
    refine gf_m_Model_0_op C hP dd_Model_checkNumbers_196 ?_
    refine lv_sipush (v := 172) hx hb dd_Model_checkNumbers_199 (by decide) ?_
    refine lv_icmp_eq (tgt := 232) hx hb dd_Model_checkNumbers_202 (by decide) (fun hc => ?_) (fun hc => ?_)
    · have h := xp_t hc h
      exact wj_Model_checkNumbers_232 htr C hne h hP hS (lv_sub hl [1, 2, 0] rfl)
    · have h := xp_f hc h
      refine lv_aload_n hx hb dd_Model_checkNumbers_205 rfl (lv_at hl 1 rfl) ?_
      refine gf_m_Model_0_op C hP dd_Model_checkNumbers_206 ?_
      refine lv_sipush (v := 173) hx hb dd_Model_checkNumbers_209 (by decide) ?_
      refine lv_icmp_eq (tgt := 232) hx hb dd_Model_checkNumbers_212 (by decide) (fun hc => ?_) (fun hc => ?_)
      · have h := xp_t hc h
        exact wj_Model_checkNumbers_232 htr C hne h hP hS (lv_sub hl [1, 2, 0] rfl)
      · have h := xp_f hc h
        refine lv_aload_n hx hb dd_Model_checkNumbers_215 rfl (lv_at hl 1 rfl) ?_
        refine gf_m_Model_0_op C hP dd_Model_checkNumbers_216 ?_
        refine lv_i2l hx hb dd_Model_checkNumbers_219 rfl ?_
        refine lv_ldc2 (v := 194) hx hb C.1.2.2.2.1 (C.1.2.2.2.2 _ (xk_c10 (w := Jvm.Cond.constantLong "ModuleHouseModel" 607 194) 204 rfl rfl)) dd_Model_checkNumbers_220 ?_
        refine lv_ldc2 (v := 196) hx hb C.1.2.2.2.1 (C.1.2.2.2.2 _ (xk_c10 (w := Jvm.Cond.constantLong "ModuleHouseModel" 265 196) 0 rfl rfl)) dd_Model_checkNumbers_223 ?_
        obtain ⟨a11, u12, hq, h⟩ := xp_seq h
        refine xk_goesI (xr_S (As := [.long ((u7.1 8).toInt64), .long (194 : Int64), .long (196 : Int64)]) (rest := []) C hP hS (ct_Model_in htr hok hq) kq_Model_219 ⟨rfl, rfl, Nat.le_of_ble_eq_true rfl, Nat.le_of_ble_eq_true rfl⟩ ⟨Nat.le_of_ble_eq_true rfl, Nat.le_of_ble_eq_true rfl⟩ hl.1 rfl rfl (Nat.le_of_ble_eq_true rfl) dd_Model_checkNumbers_226) hS (fun H locs hP hS => ?_)
        clear hq
        refine lv_if_eq (tgt := 236) hx hb dd_Model_checkNumbers_229 (by decide) (fun hc => ?_) (fun hc => ?_)
        · have h := xp_t hc h
          refine lv_iconst (v := 0) hx hb dd_Model_checkNumbers_236 (by decide) ?_
          exact wj_Model_checkNumbers_237 htr C hne h hP hS (lv_sub hl [1, 2, 0] rfl)
        · have h := xp_f hc h
          exact wj_Model_checkNumbers_232 htr C hne h hP hS (lv_sub hl [1, 2, 0] rfl)
set_option maxHeartbeats 4000000 in
set_option maxRecDepth 100000 in
theorem wj_Model_checkNumbers_172 {p : Program} {l : Launch} {e : Env} {s : State} {m : MethodId} {args : Array Value} {below : List Frame} {meth : Method} {c : Code} {D : va_G} {ad : Nat → Nat} {ca : Nat → ClassId} {ads : List Nat} (htr : l.stackTraces = false) (C : xk_C D kx_cl (kx_ty ca) (kw_m ad ca) ads "ModuleHouseModel" prog_14_method_88_code 4 none p e s m args meth c) (hne : c.exceptionTable.isEmpty = true) {u' : xk_St} {r : Unit} {b1 : Int32} {u : xk_St} {H : Heap} {locs : List Loc} {ls : Array Slot} (h : jb_Model_checkNumbers_172  b1 u = some (r, u')) (hP : va_P D kx_cl (kw_m ad ca u) H) (hS : va_S (xk_A ads s.heap.size) s.heap H locs) (hl : lv_has ls 4 [(0, .ref (ad 0)), (1, .int b1)]) : W p l e rm_Model_checkNumbers s m args below meth c H locs 0 0 (xk_MQ below (xk_Qc D kx_cl (kw_m ad ca) ads (xo_v (.inl r)) u') args s (xk_A ads s.heap.size)) (F0 m 172 ls []) := by
  have hx := C.1.1
  have hb := C.1.2.1
  have hok := C.2.2.1
  unfold jb_Model_checkNumbers_172 at h
  refine lv_iconst (v := 1) hx hb dd_Model_checkNumbers_172 (by decide) ?_
  refine lv_goto (tgt := 177) hx hb dd_Model_checkNumbers_173 (by decide) ?_
  exact wj_Model_checkNumbers_177 htr C hne h hP hS (lv_sub hl [0, 1] rfl)
set_option maxHeartbeats 4000000 in
set_option maxRecDepth 100000 in
theorem wj_Model_checkNumbers_103 {p : Program} {l : Launch} {e : Env} {s : State} {m : MethodId} {args : Array Value} {below : List Frame} {meth : Method} {c : Code} {D : va_G} {ad : Nat → Nat} {ca : Nat → ClassId} {ads : List Nat} (htr : l.stackTraces = false) (C : xk_C D kx_cl (kx_ty ca) (kw_m ad ca) ads "ModuleHouseModel" prog_14_method_88_code 4 none p e s m args meth c) (hne : c.exceptionTable.isEmpty = true) {u' : xk_St} {r : Unit} {s0 : Int32} {u : xk_St} {H : Heap} {locs : List Loc} {ls : Array Slot} (h : jb_Model_checkNumbers_103  s0 u = some (r, u')) (hP : va_P D kx_cl (kw_m ad ca u) H) (hS : va_S (xk_A ads s.heap.size) s.heap H locs) (hl : lv_has ls 4 [(0, .ref (ad 0))]) : W p l e rm_Model_checkNumbers s m args below meth c H locs 0 0 (xk_MQ below (xk_Qc D kx_cl (kw_m ad ca) ads (xo_v (.inl r)) u') args s (xk_A ads s.heap.size)) (F0 m 103 ls [.int s0]) := by
  have hx := C.1.1
  have hb := C.1.2.1
  have hok := C.2.2.1
  unfold jb_Model_checkNumbers_103 at h
  refine lv_istore_n (lv' := [(1, .int s0), (0, .ref (ad 0))]) hx hb dd_Model_checkNumbers_103 rfl hl (by decide) rfl (fun ls hl => ?_)
  refine lv_aload_n hx hb dd_Model_checkNumbers_104 rfl (lv_at hl 1 rfl) ?_
  refine gf_m_Model_0_op C hP dd_Model_checkNumbers_105 ?_
  refine lv_i2l hx hb dd_Model_checkNumbers_108 rfl ?_
  refine lv_ldc2 (v := 70) hx hb C.1.2.2.2.1 (C.1.2.2.2.2 _ (xk_c10 (w := Jvm.Cond.constantLong "ModuleHouseModel" 609 70) 205 rfl rfl)) dd_Model_checkNumbers_109 ?_
  refine lv_ldc2 (v := 79) hx hb C.1.2.2.2.1 (C.1.2.2.2.2 _ (xk_c10 (w := Jvm.Cond.constantLong "ModuleHouseModel" 611 79) 206 rfl rfl)) dd_Model_checkNumbers_112 ?_
  obtain ⟨a4, u5, hq, h⟩ := xp_seq h
  refine xk_goesI (xr_S (As := [.long ((u.1 8).toInt64), .long (70 : Int64), .long (79 : Int64)]) (rest := []) C hP hS (ct_Model_in htr hok hq) kq_Model_219 ⟨rfl, rfl, Nat.le_of_ble_eq_true rfl, Nat.le_of_ble_eq_true rfl⟩ ⟨Nat.le_of_ble_eq_true rfl, Nat.le_of_ble_eq_true rfl⟩ hl.1 rfl rfl (Nat.le_of_ble_eq_true rfl) dd_Model_checkNumbers_115) hS (fun H locs hP hS => ?_)
  clear hq
  refine lv_if_ne (tgt := 172) hx hb dd_Model_checkNumbers_118 (by decide) (fun hc => ?_) (fun hc => ?_)
  · have h := xp_f hc h
    exact wj_Model_checkNumbers_172 htr C hne h hP hS (lv_sub hl [1, 0] rfl)
  · have h := xp_t hc h
    refine lv_aload_n hx hb dd_Model_checkNumbers_121 rfl (lv_at hl 1 rfl) ?_
    refine gf_m_Model_0_op C hP dd_Model_checkNumbers_122 ?_
    refine lv_i2l hx hb dd_Model_checkNumbers_125 rfl ?_
    refine lv_ldc2 (v := 81) hx hb C.1.2.2.2.1 (C.1.2.2.2.2 _ (xk_c10 (w := Jvm.Cond.constantLong "ModuleHouseModel" 613 81) 207 rfl rfl)) dd_Model_checkNumbers_126 ?_
    refine lv_ldc2 (v := 90) hx hb C.1.2.2.2.1 (C.1.2.2.2.2 _ (xk_c9 (w := Jvm.Cond.constantLong "ModuleHouseModel" 257 90) 236 rfl rfl)) dd_Model_checkNumbers_129 ?_
    obtain ⟨a13, u14, hq, h⟩ := xp_seq h
    refine xk_goesI (xr_S (As := [.long ((u5.1 8).toInt64), .long (81 : Int64), .long (90 : Int64)]) (rest := []) C hP hS (ct_Model_in htr hok hq) kq_Model_219 ⟨rfl, rfl, Nat.le_of_ble_eq_true rfl, Nat.le_of_ble_eq_true rfl⟩ ⟨Nat.le_of_ble_eq_true rfl, Nat.le_of_ble_eq_true rfl⟩ hl.1 rfl rfl (Nat.le_of_ble_eq_true rfl) dd_Model_checkNumbers_132) hS (fun H locs hP hS => ?_)
    clear hq
    refine lv_if_ne (tgt := 172) hx hb dd_Model_checkNumbers_135 (by decide) (fun hc => ?_) (fun hc => ?_)
    · have h := xp_f hc h
      exact wj_Model_checkNumbers_172 htr C hne h hP hS (lv_sub hl [1, 0] rfl)
    · have h := xp_t hc h
      refine lv_aload_n hx hb dd_Model_checkNumbers_138 rfl (lv_at hl 1 rfl) ?_
      refine gf_m_Model_0_op C hP dd_Model_checkNumbers_139 ?_
      refine lv_i2l hx hb dd_Model_checkNumbers_142 rfl ?_
      refine lv_ldc2 (v := 106) hx hb C.1.2.2.2.1 (C.1.2.2.2.2 _ (xk_c10 (w := Jvm.Cond.constantLong "ModuleHouseModel" 615 106) 208 rfl rfl)) dd_Model_checkNumbers_143 ?_
      refine lv_ldc2 (v := 120) hx hb C.1.2.2.2.1 (C.1.2.2.2.2 _ (xk_c10 (w := Jvm.Cond.constantLong "ModuleHouseModel" 617 120) 209 rfl rfl)) dd_Model_checkNumbers_146 ?_
      obtain ⟨a15, u16, hq, h⟩ := xp_seq h
      refine xk_goesI (xr_S (As := [.long ((u14.1 8).toInt64), .long (106 : Int64), .long (120 : Int64)]) (rest := []) C hP hS (ct_Model_in htr hok hq) kq_Model_219 ⟨rfl, rfl, Nat.le_of_ble_eq_true rfl, Nat.le_of_ble_eq_true rfl⟩ ⟨Nat.le_of_ble_eq_true rfl, Nat.le_of_ble_eq_true rfl⟩ hl.1 rfl rfl (Nat.le_of_ble_eq_true rfl) dd_Model_checkNumbers_149) hS (fun H locs hP hS => ?_)
      clear hq
      refine lv_if_ne (tgt := 172) hx hb dd_Model_checkNumbers_152 (by decide) (fun hc => ?_) (fun hc => ?_)
      · have h := xp_f hc h
        exact wj_Model_checkNumbers_172 htr C hne h hP hS (lv_sub hl [1, 0] rfl)
      · have h := xp_t hc h
        refine lv_aload_n hx hb dd_Model_checkNumbers_155 rfl (lv_at hl 1 rfl) ?_
        refine gf_m_Model_0_op C hP dd_Model_checkNumbers_156 ?_
        refine lv_i2l hx hb dd_Model_checkNumbers_159 rfl ?_
        refine lv_ldc2 (v := 124) hx hb C.1.2.2.2.1 (C.1.2.2.2.2 _ (xk_c10 (w := Jvm.Cond.constantLong "ModuleHouseModel" 619 124) 210 rfl rfl)) dd_Model_checkNumbers_160 ?_
        refine lv_ldc2 (v := 138) hx hb C.1.2.2.2.1 (C.1.2.2.2.2 _ (xk_c9 (w := Jvm.Cond.constantLong "ModuleHouseModel" 261 138) 238 rfl rfl)) dd_Model_checkNumbers_163 ?_
        obtain ⟨a17, u18, hq, h⟩ := xp_seq h
        refine xk_goesI (xr_S (As := [.long ((u16.1 8).toInt64), .long (124 : Int64), .long (138 : Int64)]) (rest := []) C hP hS (ct_Model_in htr hok hq) kq_Model_219 ⟨rfl, rfl, Nat.le_of_ble_eq_true rfl, Nat.le_of_ble_eq_true rfl⟩ ⟨Nat.le_of_ble_eq_true rfl, Nat.le_of_ble_eq_true rfl⟩ hl.1 rfl rfl (Nat.le_of_ble_eq_true rfl) dd_Model_checkNumbers_166) hS (fun H locs hP hS => ?_)
        clear hq
        refine lv_if_eq (tgt := 176) hx hb dd_Model_checkNumbers_169 (by decide) (fun hc => ?_) (fun hc => ?_)
        · have h := xp_t hc h
          refine lv_iconst (v := 0) hx hb dd_Model_checkNumbers_176 (by decide) ?_
          exact wj_Model_checkNumbers_177 htr C hne h hP hS (lv_sub hl [1, 0] rfl)
        · have h := xp_f hc h
          exact wj_Model_checkNumbers_172 htr C hne h hP hS (lv_sub hl [1, 0] rfl)
set_option maxHeartbeats 4000000 in
set_option maxRecDepth 100000 in
theorem wj_Model_checkNumbers_98 {p : Program} {l : Launch} {e : Env} {s : State} {m : MethodId} {args : Array Value} {below : List Frame} {meth : Method} {c : Code} {D : va_G} {ad : Nat → Nat} {ca : Nat → ClassId} {ads : List Nat} (htr : l.stackTraces = false) (C : xk_C D kx_cl (kx_ty ca) (kw_m ad ca) ads "ModuleHouseModel" prog_14_method_88_code 4 none p e s m args meth c) (hne : c.exceptionTable.isEmpty = true) {u' : xk_St} {r : Unit} {u : xk_St} {H : Heap} {locs : List Loc} {ls : Array Slot} (h : jb_Model_checkNumbers_98   u = some (r, u')) (hP : va_P D kx_cl (kw_m ad ca u) H) (hS : va_S (xk_A ads s.heap.size) s.heap H locs) (hl : lv_has ls 4 [(0, .ref (ad 0))]) : W p l e rm_Model_checkNumbers s m args below meth c H locs 0 0 (xk_MQ below (xk_Qc D kx_cl (kw_m ad ca) ads (xo_v (.inl r)) u') args s (xk_A ads s.heap.size)) (F0 m 98 ls []) := by
  have hx := C.1.1
  have hb := C.1.2.1
  have hok := C.2.2.1
  unfold jb_Model_checkNumbers_98 at h
  refine lv_iconst (v := 1) hx hb dd_Model_checkNumbers_98 (by decide) ?_
  refine lv_goto (tgt := 103) hx hb dd_Model_checkNumbers_99 (by decide) ?_
  exact wj_Model_checkNumbers_103 htr C hne h hP hS (lv_sub hl [0] rfl)
set_option maxHeartbeats 4000000 in
set_option maxRecDepth 100000 in
theorem ct_Model_checkNumbers {l : Launch} {D : va_G} {ad : Nat → Nat} {ca : Nat → ClassId} {ads : List Nat} (htr : l.stackTraces = false) (hok : xk_ok (kw_m ad ca) ads) {u u' : xk_St} {r : Unit} (h : fm_Model_checkNumbers u = some (r, u')) :
    ∀ sz, xk_Met l ⟨"ModuleHouseModel", "checkNumbers", "()V"⟩ (Cond.code ⟨"ModuleHouseModel", "checkNumbers", "()V"⟩ prog_14_method_88_code 4 none :: xk_gd) rm_Model_checkNumbers (xk_Pc D kx_cl (kx_ty ca) (kw_m ad ca) ads xk_F sz [.ref (ad 0)] u) (xk_Qc D kx_cl (kw_m ad ca) ads (xo_v (.inl r)) u') (xk_A ads sz) := by
  unfold fm_Model_checkNumbers at h
  refine xk_con (by decide) htr hok (Nat.le_of_ble_eq_true rfl) (fun p e s m below meth c ls C hne hl hP => ?_)
  have hx := C.1.1
  have hb := C.1.2.1
  have hS : va_S (xk_A ads s.heap.size) s.heap s.heap [] := va_S.rf
  have hl : lv_has ls 4 [(0, .ref (ad 0))] := hl
  refine lv_aload_n hx hb dd_Model_checkNumbers_0 rfl (lv_at hl 0 rfl) ?_
  refine gf_m_Model_0_op C hP dd_Model_checkNumbers_1 ?_
  refine lv_bipush (v := 65) hx hb dd_Model_checkNumbers_4 (by decide) ?_
  refine lv_icmp_eq (tgt := 18) hx hb dd_Model_checkNumbers_6 (by decide) (fun hc => ?_) (fun hc => ?_)
  · have h := xp_t hc h
    exact wj_Model_checkNumbers_18 htr C hne h hP hS (lv_sub hl [0] rfl)
  · have h := xp_f hc h
    refine lv_aload_n hx hb dd_Model_checkNumbers_9 rfl (lv_at hl 0 rfl) ?_
    refine gf_m_Model_0_op C hP dd_Model_checkNumbers_10 ?_
    refine lv_bipush (v := 66) hx hb dd_Model_checkNumbers_13 (by decide) ?_
    refine lv_icmp_ne (tgt := 37) hx hb dd_Model_checkNumbers_15 (by decide) (fun hc => ?_) (fun hc => ?_)
    · have h := xp_f hc h
      refine lv_aload_n hx hb dd_Model_checkNumbers_37 rfl (lv_at hl 0 rfl) ?_
      refine gf_m_Model_0_op C hP dd_Model_checkNumbers_38 ?_
      refine lv_i2l hx hb dd_Model_checkNumbers_41 rfl ?_
      refine lv_ldc2 (v := 80) hx hb C.1.2.2.2.1 (C.1.2.2.2.2 _ (xk_c10 (w := Jvm.Cond.constantLong "ModuleHouseModel" 603 80) 202 rfl rfl)) dd_Model_checkNumbers_42 ?_
      refine lv_ldc2 (v := 90) hx hb C.1.2.2.2.1 (C.1.2.2.2.2 _ (xk_c9 (w := Jvm.Cond.constantLong "ModuleHouseModel" 257 90) 236 rfl rfl)) dd_Model_checkNumbers_45 ?_
      obtain ⟨a2, u3, hq, h⟩ := xp_seq h
      refine xk_goesI (xr_S (As := [.long ((u.1 8).toInt64), .long (80 : Int64), .long (90 : Int64)]) (rest := []) C hP hS (ct_Model_in htr hok hq) kq_Model_219 ⟨rfl, rfl, Nat.le_of_ble_eq_true rfl, Nat.le_of_ble_eq_true rfl⟩ ⟨Nat.le_of_ble_eq_true rfl, Nat.le_of_ble_eq_true rfl⟩ hl.1 rfl rfl (Nat.le_of_ble_eq_true rfl) dd_Model_checkNumbers_48) hS (fun H locs hP hS => ?_)
      clear hq
      refine lv_if_ne (tgt := 98) hx hb dd_Model_checkNumbers_51 (by decide) (fun hc => ?_) (fun hc => ?_)
      · have h := xp_f hc h
        exact wj_Model_checkNumbers_98 htr C hne h hP hS (lv_sub hl [0] rfl)
      · have h := xp_t hc h
        refine lv_aload_n hx hb dd_Model_checkNumbers_54 rfl (lv_at hl 0 rfl) ?_
        refine gf_m_Model_0_op C hP dd_Model_checkNumbers_55 ?_
        refine lv_i2l hx hb dd_Model_checkNumbers_58 rfl ?_
        refine lv_ldc2 (v := 121) hx hb C.1.2.2.2.1 (C.1.2.2.2.2 _ (xk_c10 (w := Jvm.Cond.constantLong "ModuleHouseModel" 605 121) 203 rfl rfl)) dd_Model_checkNumbers_59 ?_
        refine lv_ldc2 (v := 138) hx hb C.1.2.2.2.1 (C.1.2.2.2.2 _ (xk_c9 (w := Jvm.Cond.constantLong "ModuleHouseModel" 261 138) 238 rfl rfl)) dd_Model_checkNumbers_62 ?_
        obtain ⟨a19, u20, hq, h⟩ := xp_seq h
        refine xk_goesI (xr_S (As := [.long ((u3.1 8).toInt64), .long (121 : Int64), .long (138 : Int64)]) (rest := []) C hP hS (ct_Model_in htr hok hq) kq_Model_219 ⟨rfl, rfl, Nat.le_of_ble_eq_true rfl, Nat.le_of_ble_eq_true rfl⟩ ⟨Nat.le_of_ble_eq_true rfl, Nat.le_of_ble_eq_true rfl⟩ hl.1 rfl rfl (Nat.le_of_ble_eq_true rfl) dd_Model_checkNumbers_65) hS (fun H locs hP hS => ?_)
        clear hq
        refine lv_if_ne (tgt := 98) hx hb dd_Model_checkNumbers_68 (by decide) (fun hc => ?_) (fun hc => ?_)
        · have h := xp_f hc h
          exact wj_Model_checkNumbers_98 htr C hne h hP hS (lv_sub hl [0] rfl)
        · have h := xp_t hc h
          refine lv_aload_n hx hb dd_Model_checkNumbers_71 rfl (lv_at hl 0 rfl) ?_
          refine gf_m_Model_0_op C hP dd_Model_checkNumbers_72 ?_
          refine lv_sipush (v := 167) hx hb dd_Model_checkNumbers_75 (by decide) ?_
          refine lv_icmp_eq (tgt := 98) hx hb dd_Model_checkNumbers_78 (by decide) (fun hc => ?_) (fun hc => ?_)
          · have h := xp_t hc h
            exact wj_Model_checkNumbers_98 htr C hne h hP hS (lv_sub hl [0] rfl)
          · have h := xp_f hc h
            refine lv_aload_n hx hb dd_Model_checkNumbers_81 rfl (lv_at hl 0 rfl) ?_
            refine gf_m_Model_0_op C hP dd_Model_checkNumbers_82 ?_
            refine lv_i2l hx hb dd_Model_checkNumbers_85 rfl ?_
            refine lv_ldc2 (v := 194) hx hb C.1.2.2.2.1 (C.1.2.2.2.2 _ (xk_c10 (w := Jvm.Cond.constantLong "ModuleHouseModel" 607 194) 204 rfl rfl)) dd_Model_checkNumbers_86 ?_
            refine lv_ldc2 (v := 196) hx hb C.1.2.2.2.1 (C.1.2.2.2.2 _ (xk_c10 (w := Jvm.Cond.constantLong "ModuleHouseModel" 265 196) 0 rfl rfl)) dd_Model_checkNumbers_89 ?_
            obtain ⟨a21, u22, hq, h⟩ := xp_seq h
            refine xk_goesI (xr_S (As := [.long ((u20.1 8).toInt64), .long (194 : Int64), .long (196 : Int64)]) (rest := []) C hP hS (ct_Model_in htr hok hq) kq_Model_219 ⟨rfl, rfl, Nat.le_of_ble_eq_true rfl, Nat.le_of_ble_eq_true rfl⟩ ⟨Nat.le_of_ble_eq_true rfl, Nat.le_of_ble_eq_true rfl⟩ hl.1 rfl rfl (Nat.le_of_ble_eq_true rfl) dd_Model_checkNumbers_92) hS (fun H locs hP hS => ?_)
            clear hq
            refine lv_if_eq (tgt := 102) hx hb dd_Model_checkNumbers_95 (by decide) (fun hc => ?_) (fun hc => ?_)
            · have h := xp_t hc h
              refine lv_iconst (v := 0) hx hb dd_Model_checkNumbers_102 (by decide) ?_
              exact wj_Model_checkNumbers_103 htr C hne h hP hS (lv_sub hl [0] rfl)
            · have h := xp_f hc h
              exact wj_Model_checkNumbers_98 htr C hne h hP hS (lv_sub hl [0] rfl)
    · have h := xp_t hc h
      exact wj_Model_checkNumbers_18 htr C hne h hP hS (lv_sub hl [0] rfl)
abbrev rm_Model_isLong : Room := { frames := 2, cells := 1, slots := 6, locals := 25 }
noncomputable def jb_Model_isLong_40 (u : xk_St) : Option (Int32 × xk_St) :=
  some ((1 : Int32), u)
noncomputable def fm_Model_isLong (x0 : Int32) (u : xk_St) : Option (Int32 × xk_St) :=
  if x0 = (41 : Int32) then (jb_Model_isLong_40 u) else (if x0 = (55 : Int32) then (jb_Model_isLong_40 u) else ((xs_seq (fm_Model_in (x0.toInt64) (48 : Int64) (53 : Int64) u) fun a1 u2 => if a1 = (0 : Int32) then ((xs_seq (fm_Model_in (x0.toInt64) (60 : Int64) (62 : Int64) u2) fun a3 u4 => if a3 = (0 : Int32) then (some ((0 : Int32), u4)) else (jb_Model_isLong_40 u4))) else (jb_Model_isLong_40 u2))))
set_option maxHeartbeats 4000000 in
set_option maxRecDepth 100000 in
theorem wj_Model_isLong_40 {p : Program} {l : Launch} {e : Env} {s : State} {m : MethodId} {args : Array Value} {below : List Frame} {meth : Method} {c : Code} {D : va_G} {ad : Nat → Nat} {ca : Nat → ClassId} {ads : List Nat} (htr : l.stackTraces = false) (C : xk_C D kx_cl (kx_ty ca) (kw_m ad ca) ads "ModuleHouseModel" prog_14_method_85_code 1 (some .boolean) p e s m args meth c) (hne : c.exceptionTable.isEmpty = true) {u' : xk_St} {r : Int32} {u : xk_St} {H : Heap} {locs : List Loc} {ls : Array Slot} (h : jb_Model_isLong_40   u = some (r, u')) (hP : va_P D kx_cl (kw_m ad ca u) H) (hS : va_S (xk_A ads s.heap.size) s.heap H locs) (hl : lv_has ls 1 []) : W p l e rm_Model_isLong s m args below meth c H locs 0 0 (xk_MQ below (xk_Qc D kx_cl (kw_m ad ca) ads (xo_i (.inl r)) u') args s (xk_A ads s.heap.size)) (F0 m 40 ls []) := by
  have hx := C.1.1
  have hb := C.1.2.1
  have hok := C.2.2.1
  unfold jb_Model_isLong_40 at h
  refine lv_iconst (v := 1) hx hb dd_Model_isLong_40 (by decide) ?_
  refine lv_goto (tgt := 45) hx hb dd_Model_isLong_41 (by decide) ?_
  obtain ⟨rfl, rfl⟩ := xp_r h
  exact xr_zret C hP hS (by decide) dd_Model_isLong_45
set_option maxHeartbeats 4000000 in
set_option maxRecDepth 100000 in
theorem ct_Model_isLong {l : Launch} {D : va_G} {ad : Nat → Nat} {ca : Nat → ClassId} {ads : List Nat} (htr : l.stackTraces = false) (hok : xk_ok (kw_m ad ca) ads) {x0 : Int32} {u u' : xk_St} {r : Int32} (h : fm_Model_isLong x0 u = some (r, u')) :
    ∀ sz, xk_Met l ⟨"ModuleHouseModel", "isLong", "(I)Z"⟩ (Cond.code ⟨"ModuleHouseModel", "isLong", "(I)Z"⟩ prog_14_method_85_code 1 (some .boolean) :: xk_gd) rm_Model_isLong (xk_Pc D kx_cl (kx_ty ca) (kw_m ad ca) ads xk_F sz [.int x0] u) (xk_Qc D kx_cl (kw_m ad ca) ads (xo_i (.inl r)) u') (xk_A ads sz) := by
  unfold fm_Model_isLong at h
  refine xk_con (by decide) htr hok (Nat.le_of_ble_eq_true rfl) (fun p e s m below meth c ls C hne hl hP => ?_)
  have hx := C.1.1
  have hb := C.1.2.1
  have hS : va_S (xk_A ads s.heap.size) s.heap s.heap [] := va_S.rf
  have hl : lv_has ls 1 [(0, .int x0)] := hl
  refine lv_iload_n hx hb dd_Model_isLong_0 rfl (lv_at hl 0 rfl) ?_
  refine lv_bipush (v := 41) hx hb dd_Model_isLong_1 (by decide) ?_
  refine lv_icmp_eq (tgt := 40) hx hb dd_Model_isLong_3 (by decide) (fun hc => ?_) (fun hc => ?_)
  · have h := xp_t hc h
    exact wj_Model_isLong_40 htr C hne h hP hS (lv_sub hl [] rfl)
  · have h := xp_f hc h
    refine lv_iload_n hx hb dd_Model_isLong_6 rfl (lv_at hl 0 rfl) ?_
    refine lv_bipush (v := 55) hx hb dd_Model_isLong_7 (by decide) ?_
    refine lv_icmp_eq (tgt := 40) hx hb dd_Model_isLong_9 (by decide) (fun hc => ?_) (fun hc => ?_)
    · have h := xp_t hc h
      exact wj_Model_isLong_40 htr C hne h hP hS (lv_sub hl [] rfl)
    · have h := xp_f hc h
      refine lv_iload_n hx hb dd_Model_isLong_12 rfl (lv_at hl 0 rfl) ?_
      refine lv_i2l hx hb dd_Model_isLong_13 rfl ?_
      refine lv_ldc2 (v := 48) hx hb C.1.2.2.2.1 (C.1.2.2.2.2 _ (xk_c10 (w := Jvm.Cond.constantLong "ModuleHouseModel" 589 48) 195 rfl rfl)) dd_Model_isLong_14 ?_
      refine lv_ldc2 (v := 53) hx hb C.1.2.2.2.1 (C.1.2.2.2.2 _ (xk_c10 (w := Jvm.Cond.constantLong "ModuleHouseModel" 591 53) 196 rfl rfl)) dd_Model_isLong_17 ?_
      obtain ⟨a1, u2, hq, h⟩ := xp_seq h
      refine xk_goesI (xr_S (As := [.long (x0.toInt64), .long (48 : Int64), .long (53 : Int64)]) (rest := []) C hP hS (ct_Model_in htr hok hq) kq_Model_219 ⟨rfl, rfl, Nat.le_of_ble_eq_true rfl, Nat.le_of_ble_eq_true rfl⟩ ⟨Nat.le_of_ble_eq_true rfl, Nat.le_of_ble_eq_true rfl⟩ hl.1 rfl rfl (Nat.le_of_ble_eq_true rfl) dd_Model_isLong_20) hS (fun H locs hP hS => ?_)
      clear hq
      refine lv_if_ne (tgt := 40) hx hb dd_Model_isLong_23 (by decide) (fun hc => ?_) (fun hc => ?_)
      · have h := xp_f hc h
        exact wj_Model_isLong_40 htr C hne h hP hS (lv_sub hl [] rfl)
      · have h := xp_t hc h
        refine lv_iload_n hx hb dd_Model_isLong_26 rfl (lv_at hl 0 rfl) ?_
        refine lv_i2l hx hb dd_Model_isLong_27 rfl ?_
        refine lv_ldc2 (v := 60) hx hb C.1.2.2.2.1 (C.1.2.2.2.2 _ (xk_c10 (w := Jvm.Cond.constantLong "ModuleHouseModel" 593 60) 197 rfl rfl)) dd_Model_isLong_28 ?_
        refine lv_ldc2 (v := 62) hx hb C.1.2.2.2.1 (C.1.2.2.2.2 _ (xk_c9 (w := Jvm.Cond.constantLong "ModuleHouseModel" 303 62) 215 rfl rfl)) dd_Model_isLong_31 ?_
        obtain ⟨a3, u4, hq, h⟩ := xp_seq h
        refine xk_goesI (xr_S (As := [.long (x0.toInt64), .long (60 : Int64), .long (62 : Int64)]) (rest := []) C hP hS (ct_Model_in htr hok hq) kq_Model_219 ⟨rfl, rfl, Nat.le_of_ble_eq_true rfl, Nat.le_of_ble_eq_true rfl⟩ ⟨Nat.le_of_ble_eq_true rfl, Nat.le_of_ble_eq_true rfl⟩ hl.1 rfl rfl (Nat.le_of_ble_eq_true rfl) dd_Model_isLong_34) hS (fun H locs hP hS => ?_)
        clear hq
        refine lv_if_eq (tgt := 44) hx hb dd_Model_isLong_37 (by decide) (fun hc => ?_) (fun hc => ?_)
        · have h := xp_t hc h
          refine lv_iconst (v := 0) hx hb dd_Model_isLong_44 (by decide) ?_
          obtain ⟨rfl, rfl⟩ := xp_r h
          exact xr_zret C hP hS (by decide) dd_Model_isLong_45
        · have h := xp_f hc h
          exact wj_Model_isLong_40 htr C hne h hP hS (lv_sub hl [] rfl)
abbrev rm_Model_widthOf : Room := { frames := 1, cells := 1, slots := 6, locals := 0 }
noncomputable def fm_Model_widthOf (x0 : Int32) (u : xk_St) : Option (Int32 × xk_St) :=
  if x0 = (40 : Int32) then (some ((4 : Int32), u)) else if x0 = (41 : Int32) then (some ((8 : Int32), u)) else if x0 = (42 : Int32) then (some ((1 : Int32), u)) else if x0 = (43 : Int32) then (some ((1 : Int32), u)) else if x0 = (44 : Int32) then (some ((1 : Int32), u)) else if x0 = (45 : Int32) then (some ((1 : Int32), u)) else if x0 = (46 : Int32) then (some ((2 : Int32), u)) else if x0 = (47 : Int32) then (some ((2 : Int32), u)) else if x0 = (48 : Int32) then (some ((1 : Int32), u)) else if x0 = (49 : Int32) then (some ((1 : Int32), u)) else if x0 = (50 : Int32) then (some ((2 : Int32), u)) else if x0 = (51 : Int32) then (some ((2 : Int32), u)) else if x0 = (52 : Int32) then (some ((4 : Int32), u)) else if x0 = (53 : Int32) then (some ((4 : Int32), u)) else if x0 = (54 : Int32) then (some ((4 : Int32), u)) else if x0 = (55 : Int32) then (some ((8 : Int32), u)) else if x0 = (56 : Int32) then (some ((1 : Int32), u)) else if x0 = (57 : Int32) then (some ((1 : Int32), u)) else if x0 = (58 : Int32) then (some ((1 : Int32), u)) else if x0 = (59 : Int32) then (some ((2 : Int32), u)) else if x0 = (60 : Int32) then (some ((1 : Int32), u)) else if x0 = (61 : Int32) then (some ((2 : Int32), u)) else if x0 = (62 : Int32) then (some ((4 : Int32), u)) else (some ((1 : Int32), u))
set_option maxHeartbeats 4000000 in
set_option maxRecDepth 100000 in
theorem ct_Model_widthOf {l : Launch} {D : va_G} {ad : Nat → Nat} {ca : Nat → ClassId} {ads : List Nat} (htr : l.stackTraces = false) (hok : xk_ok (kw_m ad ca) ads) {x0 : Int32} {u u' : xk_St} {r : Int32} (h : fm_Model_widthOf x0 u = some (r, u')) :
    ∀ sz, xk_Met l ⟨"ModuleHouseModel", "widthOf", "(I)I"⟩ (Cond.code ⟨"ModuleHouseModel", "widthOf", "(I)I"⟩ prog_14_method_86_code 1 (some .int) :: xk_gd) rm_Model_widthOf (xk_Pc D kx_cl (kx_ty ca) (kw_m ad ca) ads xk_F sz [.int x0] u) (xk_Qc D kx_cl (kw_m ad ca) ads (xo_i (.inl r)) u') (xk_A ads sz) := by
  unfold fm_Model_widthOf at h
  refine xk_con (by decide) htr hok (Nat.le_of_ble_eq_true rfl) (fun p e s m below meth c ls C hne hl hP => ?_)
  have hx := C.1.1
  have hb := C.1.2.1
  have hS : va_S (xk_A ads s.heap.size) s.heap s.heap [] := va_S.rf
  have hl : lv_has ls 1 [(0, .int x0)] := hl
  refine lv_iload_n hx hb dd_Model_widthOf_0 rfl (lv_at hl 0 rfl) ?_
  by_cases hc0 : x0 = (40 : Int32)
  · have h := xp_t hc0 h
    refine lv_tableIn (off := 110) (tgt := 111) hx hb dd_Model_widthOf_1 (by rw [hc0]; decide) (by rw [hc0]; decide) (by rw [hc0]; rfl) (by decide) ?_
    refine lv_iconst (v := 4) hx hb dd_Model_widthOf_111 (by decide) ?_
    obtain ⟨rfl, rfl⟩ := xp_r h
    exact xr_iret C hP hS dd_Model_widthOf_112
  have h := xp_f hc0 h
  by_cases hc1 : x0 = (41 : Int32)
  · have h := xp_t hc1 h
    refine lv_tableIn (off := 107) (tgt := 108) hx hb dd_Model_widthOf_1 (by rw [hc1]; decide) (by rw [hc1]; decide) (by rw [hc1]; rfl) (by decide) ?_
    refine lv_bipush (v := 8) hx hb dd_Model_widthOf_108 (by decide) ?_
    obtain ⟨rfl, rfl⟩ := xp_r h
    exact xr_iret C hP hS dd_Model_widthOf_110
  have h := xp_f hc1 h
  by_cases hc2 : x0 = (42 : Int32)
  · have h := xp_t hc2 h
    refine lv_tableIn (off := 114) (tgt := 115) hx hb dd_Model_widthOf_1 (by rw [hc2]; decide) (by rw [hc2]; decide) (by rw [hc2]; rfl) (by decide) ?_
    refine lv_iconst (v := 1) hx hb dd_Model_widthOf_115 (by decide) ?_
    obtain ⟨rfl, rfl⟩ := xp_r h
    exact xr_iret C hP hS dd_Model_widthOf_116
  have h := xp_f hc2 h
  by_cases hc3 : x0 = (43 : Int32)
  · have h := xp_t hc3 h
    refine lv_tableIn (off := 114) (tgt := 115) hx hb dd_Model_widthOf_1 (by rw [hc3]; decide) (by rw [hc3]; decide) (by rw [hc3]; rfl) (by decide) ?_
    refine lv_iconst (v := 1) hx hb dd_Model_widthOf_115 (by decide) ?_
    obtain ⟨rfl, rfl⟩ := xp_r h
    exact xr_iret C hP hS dd_Model_widthOf_116
  have h := xp_f hc3 h
  by_cases hc4 : x0 = (44 : Int32)
  · have h := xp_t hc4 h
    refine lv_tableIn (off := 114) (tgt := 115) hx hb dd_Model_widthOf_1 (by rw [hc4]; decide) (by rw [hc4]; decide) (by rw [hc4]; rfl) (by decide) ?_
    refine lv_iconst (v := 1) hx hb dd_Model_widthOf_115 (by decide) ?_
    obtain ⟨rfl, rfl⟩ := xp_r h
    exact xr_iret C hP hS dd_Model_widthOf_116
  have h := xp_f hc4 h
  by_cases hc5 : x0 = (45 : Int32)
  · have h := xp_t hc5 h
    refine lv_tableIn (off := 114) (tgt := 115) hx hb dd_Model_widthOf_1 (by rw [hc5]; decide) (by rw [hc5]; decide) (by rw [hc5]; rfl) (by decide) ?_
    refine lv_iconst (v := 1) hx hb dd_Model_widthOf_115 (by decide) ?_
    obtain ⟨rfl, rfl⟩ := xp_r h
    exact xr_iret C hP hS dd_Model_widthOf_116
  have h := xp_f hc5 h
  by_cases hc6 : x0 = (46 : Int32)
  · have h := xp_t hc6 h
    refine lv_tableIn (off := 112) (tgt := 113) hx hb dd_Model_widthOf_1 (by rw [hc6]; decide) (by rw [hc6]; decide) (by rw [hc6]; rfl) (by decide) ?_
    refine lv_iconst (v := 2) hx hb dd_Model_widthOf_113 (by decide) ?_
    obtain ⟨rfl, rfl⟩ := xp_r h
    exact xr_iret C hP hS dd_Model_widthOf_114
  have h := xp_f hc6 h
  by_cases hc7 : x0 = (47 : Int32)
  · have h := xp_t hc7 h
    refine lv_tableIn (off := 112) (tgt := 113) hx hb dd_Model_widthOf_1 (by rw [hc7]; decide) (by rw [hc7]; decide) (by rw [hc7]; rfl) (by decide) ?_
    refine lv_iconst (v := 2) hx hb dd_Model_widthOf_113 (by decide) ?_
    obtain ⟨rfl, rfl⟩ := xp_r h
    exact xr_iret C hP hS dd_Model_widthOf_114
  have h := xp_f hc7 h
  by_cases hc8 : x0 = (48 : Int32)
  · have h := xp_t hc8 h
    refine lv_tableIn (off := 114) (tgt := 115) hx hb dd_Model_widthOf_1 (by rw [hc8]; decide) (by rw [hc8]; decide) (by rw [hc8]; rfl) (by decide) ?_
    refine lv_iconst (v := 1) hx hb dd_Model_widthOf_115 (by decide) ?_
    obtain ⟨rfl, rfl⟩ := xp_r h
    exact xr_iret C hP hS dd_Model_widthOf_116
  have h := xp_f hc8 h
  by_cases hc9 : x0 = (49 : Int32)
  · have h := xp_t hc9 h
    refine lv_tableIn (off := 114) (tgt := 115) hx hb dd_Model_widthOf_1 (by rw [hc9]; decide) (by rw [hc9]; decide) (by rw [hc9]; rfl) (by decide) ?_
    refine lv_iconst (v := 1) hx hb dd_Model_widthOf_115 (by decide) ?_
    obtain ⟨rfl, rfl⟩ := xp_r h
    exact xr_iret C hP hS dd_Model_widthOf_116
  have h := xp_f hc9 h
  by_cases hc10 : x0 = (50 : Int32)
  · have h := xp_t hc10 h
    refine lv_tableIn (off := 112) (tgt := 113) hx hb dd_Model_widthOf_1 (by rw [hc10]; decide) (by rw [hc10]; decide) (by rw [hc10]; rfl) (by decide) ?_
    refine lv_iconst (v := 2) hx hb dd_Model_widthOf_113 (by decide) ?_
    obtain ⟨rfl, rfl⟩ := xp_r h
    exact xr_iret C hP hS dd_Model_widthOf_114
  have h := xp_f hc10 h
  by_cases hc11 : x0 = (51 : Int32)
  · have h := xp_t hc11 h
    refine lv_tableIn (off := 112) (tgt := 113) hx hb dd_Model_widthOf_1 (by rw [hc11]; decide) (by rw [hc11]; decide) (by rw [hc11]; rfl) (by decide) ?_
    refine lv_iconst (v := 2) hx hb dd_Model_widthOf_113 (by decide) ?_
    obtain ⟨rfl, rfl⟩ := xp_r h
    exact xr_iret C hP hS dd_Model_widthOf_114
  have h := xp_f hc11 h
  by_cases hc12 : x0 = (52 : Int32)
  · have h := xp_t hc12 h
    refine lv_tableIn (off := 110) (tgt := 111) hx hb dd_Model_widthOf_1 (by rw [hc12]; decide) (by rw [hc12]; decide) (by rw [hc12]; rfl) (by decide) ?_
    refine lv_iconst (v := 4) hx hb dd_Model_widthOf_111 (by decide) ?_
    obtain ⟨rfl, rfl⟩ := xp_r h
    exact xr_iret C hP hS dd_Model_widthOf_112
  have h := xp_f hc12 h
  by_cases hc13 : x0 = (53 : Int32)
  · have h := xp_t hc13 h
    refine lv_tableIn (off := 110) (tgt := 111) hx hb dd_Model_widthOf_1 (by rw [hc13]; decide) (by rw [hc13]; decide) (by rw [hc13]; rfl) (by decide) ?_
    refine lv_iconst (v := 4) hx hb dd_Model_widthOf_111 (by decide) ?_
    obtain ⟨rfl, rfl⟩ := xp_r h
    exact xr_iret C hP hS dd_Model_widthOf_112
  have h := xp_f hc13 h
  by_cases hc14 : x0 = (54 : Int32)
  · have h := xp_t hc14 h
    refine lv_tableIn (off := 110) (tgt := 111) hx hb dd_Model_widthOf_1 (by rw [hc14]; decide) (by rw [hc14]; decide) (by rw [hc14]; rfl) (by decide) ?_
    refine lv_iconst (v := 4) hx hb dd_Model_widthOf_111 (by decide) ?_
    obtain ⟨rfl, rfl⟩ := xp_r h
    exact xr_iret C hP hS dd_Model_widthOf_112
  have h := xp_f hc14 h
  by_cases hc15 : x0 = (55 : Int32)
  · have h := xp_t hc15 h
    refine lv_tableIn (off := 107) (tgt := 108) hx hb dd_Model_widthOf_1 (by rw [hc15]; decide) (by rw [hc15]; decide) (by rw [hc15]; rfl) (by decide) ?_
    refine lv_bipush (v := 8) hx hb dd_Model_widthOf_108 (by decide) ?_
    obtain ⟨rfl, rfl⟩ := xp_r h
    exact xr_iret C hP hS dd_Model_widthOf_110
  have h := xp_f hc15 h
  by_cases hc16 : x0 = (56 : Int32)
  · have h := xp_t hc16 h
    refine lv_tableIn (off := 114) (tgt := 115) hx hb dd_Model_widthOf_1 (by rw [hc16]; decide) (by rw [hc16]; decide) (by rw [hc16]; rfl) (by decide) ?_
    refine lv_iconst (v := 1) hx hb dd_Model_widthOf_115 (by decide) ?_
    obtain ⟨rfl, rfl⟩ := xp_r h
    exact xr_iret C hP hS dd_Model_widthOf_116
  have h := xp_f hc16 h
  by_cases hc17 : x0 = (57 : Int32)
  · have h := xp_t hc17 h
    refine lv_tableIn (off := 114) (tgt := 115) hx hb dd_Model_widthOf_1 (by rw [hc17]; decide) (by rw [hc17]; decide) (by rw [hc17]; rfl) (by decide) ?_
    refine lv_iconst (v := 1) hx hb dd_Model_widthOf_115 (by decide) ?_
    obtain ⟨rfl, rfl⟩ := xp_r h
    exact xr_iret C hP hS dd_Model_widthOf_116
  have h := xp_f hc17 h
  by_cases hc18 : x0 = (58 : Int32)
  · have h := xp_t hc18 h
    refine lv_tableIn (off := 114) (tgt := 115) hx hb dd_Model_widthOf_1 (by rw [hc18]; decide) (by rw [hc18]; decide) (by rw [hc18]; rfl) (by decide) ?_
    refine lv_iconst (v := 1) hx hb dd_Model_widthOf_115 (by decide) ?_
    obtain ⟨rfl, rfl⟩ := xp_r h
    exact xr_iret C hP hS dd_Model_widthOf_116
  have h := xp_f hc18 h
  by_cases hc19 : x0 = (59 : Int32)
  · have h := xp_t hc19 h
    refine lv_tableIn (off := 112) (tgt := 113) hx hb dd_Model_widthOf_1 (by rw [hc19]; decide) (by rw [hc19]; decide) (by rw [hc19]; rfl) (by decide) ?_
    refine lv_iconst (v := 2) hx hb dd_Model_widthOf_113 (by decide) ?_
    obtain ⟨rfl, rfl⟩ := xp_r h
    exact xr_iret C hP hS dd_Model_widthOf_114
  have h := xp_f hc19 h
  by_cases hc20 : x0 = (60 : Int32)
  · have h := xp_t hc20 h
    refine lv_tableIn (off := 114) (tgt := 115) hx hb dd_Model_widthOf_1 (by rw [hc20]; decide) (by rw [hc20]; decide) (by rw [hc20]; rfl) (by decide) ?_
    refine lv_iconst (v := 1) hx hb dd_Model_widthOf_115 (by decide) ?_
    obtain ⟨rfl, rfl⟩ := xp_r h
    exact xr_iret C hP hS dd_Model_widthOf_116
  have h := xp_f hc20 h
  by_cases hc21 : x0 = (61 : Int32)
  · have h := xp_t hc21 h
    refine lv_tableIn (off := 112) (tgt := 113) hx hb dd_Model_widthOf_1 (by rw [hc21]; decide) (by rw [hc21]; decide) (by rw [hc21]; rfl) (by decide) ?_
    refine lv_iconst (v := 2) hx hb dd_Model_widthOf_113 (by decide) ?_
    obtain ⟨rfl, rfl⟩ := xp_r h
    exact xr_iret C hP hS dd_Model_widthOf_114
  have h := xp_f hc21 h
  by_cases hc22 : x0 = (62 : Int32)
  · have h := xp_t hc22 h
    refine lv_tableIn (off := 110) (tgt := 111) hx hb dd_Model_widthOf_1 (by rw [hc22]; decide) (by rw [hc22]; decide) (by rw [hc22]; rfl) (by decide) ?_
    refine lv_iconst (v := 4) hx hb dd_Model_widthOf_111 (by decide) ?_
    obtain ⟨rfl, rfl⟩ := xp_r h
    exact xr_iret C hP hS dd_Model_widthOf_112
  have h := xp_f hc22 h
  have hd0 := lv_neT hc0 (a := 40) (by decide)
  have hd1 := lv_neT hc1 (a := 41) (by decide)
  have hd2 := lv_neT hc2 (a := 42) (by decide)
  have hd3 := lv_neT hc3 (a := 43) (by decide)
  have hd4 := lv_neT hc4 (a := 44) (by decide)
  have hd5 := lv_neT hc5 (a := 45) (by decide)
  have hd6 := lv_neT hc6 (a := 46) (by decide)
  have hd7 := lv_neT hc7 (a := 47) (by decide)
  have hd8 := lv_neT hc8 (a := 48) (by decide)
  have hd9 := lv_neT hc9 (a := 49) (by decide)
  have hd10 := lv_neT hc10 (a := 50) (by decide)
  have hd11 := lv_neT hc11 (a := 51) (by decide)
  have hd12 := lv_neT hc12 (a := 52) (by decide)
  have hd13 := lv_neT hc13 (a := 53) (by decide)
  have hd14 := lv_neT hc14 (a := 54) (by decide)
  have hd15 := lv_neT hc15 (a := 55) (by decide)
  have hd16 := lv_neT hc16 (a := 56) (by decide)
  have hd17 := lv_neT hc17 (a := 57) (by decide)
  have hd18 := lv_neT hc18 (a := 58) (by decide)
  have hd19 := lv_neT hc19 (a := 59) (by decide)
  have hd20 := lv_neT hc20 (a := 60) (by decide)
  have hd21 := lv_neT hc21 (a := 61) (by decide)
  have hd22 := lv_neT hc22 (a := 62) (by decide)
  refine lv_tableOut (tgt := 115) hx hb dd_Model_widthOf_1 (by omega) (by decide) ?_
  refine lv_iconst (v := 1) hx hb dd_Model_widthOf_115 (by decide) ?_
  obtain ⟨rfl, rfl⟩ := xp_r h
  exact xr_iret C hP hS dd_Model_widthOf_116
abbrev rm_Model_checkMemory : Room := { frames := 4, cells := 1, slots := 6, locals := 65 }
noncomputable def jb_Model_checkMemory_123 (b1 : Int32) (u : xk_St) : Option (Unit × xk_St) :=
  (xs_seq (fm_Model_take (1 : Int32) u) fun _ u5 => if (54 : Int32) ≤ (u5.1 8) then (some ((()), u5)) else ((xs_seq (fm_Model_push b1 u5) fun _ u6 => some ((()), u6))))
noncomputable def jb_Model_checkMemory_108 (s0 : Int32) (u : xk_St) : Option (Unit × xk_St) :=
  if (u.1 8) ≤ (53 : Int32) then (jb_Model_checkMemory_123 s0 u) else ((xs_seq (fm_Model_take s0 u) fun _ u7 => jb_Model_checkMemory_123 s0 u7))
noncomputable def jb_Model_checkMemory_90 (s0 : Int32) (u : xk_St) : Option (Unit × xk_St) :=
  (if s0 = 0 ∨ s0 = 1 then ( xs_let (xs_I u 7 s0) fun u2 => xs_seq (fm_Model_isLong (u2.1 8) u2) fun a3 u4 => if a3 = (0 : Int32) then (jb_Model_checkMemory_108 (1 : Int32) u4) else (jb_Model_checkMemory_108 (2 : Int32) u4)  ) else none)
noncomputable def jb_Model_checkMemory_85 (u : xk_St) : Option (Unit × xk_St) :=
  jb_Model_checkMemory_90 (1 : Int32) u
noncomputable def jb_Model_checkMemory_39 (u : xk_St) : Option (Unit × xk_St) :=
  (xs_seq (fm_Model_push (1 : Int32) u) fun _ u10 => some ((()), u10))
noncomputable def jb_Model_checkMemory_13 (s0 : Int32) (u : xk_St) : Option (Unit × xk_St) :=
  (if s0 = 0 ∨ s0 = 1 then ( xs_let (xs_I u 7 s0) fun u1 => if (u1.1 8) ≤ (62 : Int32) then (if (u1.1 7) = (0 : Int32) then (if (3 : Int64) < (u1.2.1 0) then (jb_Model_checkMemory_85 u1) else ((xs_seq (fm_Model_widthOf (u1.1 8) u1) fun a8 u9 => if ((1 : Int32) <<< ((((u1.2.1 0) &&& (3 : Int64)).toInt32) &&& 31)) ≤ a8 then (jb_Model_checkMemory_90 (0 : Int32) u9) else (jb_Model_checkMemory_85 u9)))) else (jb_Model_checkMemory_85 u1)) else (if (u1.1 8) = (64 : Int32) then ((xs_seq (fm_Model_take (1 : Int32) u1) fun _ u11 => jb_Model_checkMemory_39 u11)) else (jb_Model_checkMemory_39 u1))  ) else none)
noncomputable def fm_Model_checkMemory (u : xk_St) : Option (Unit × xk_St) :=
  if (u.1 15) = (0 : Int32) then (jb_Model_checkMemory_13 (1 : Int32) u) else (jb_Model_checkMemory_13 (0 : Int32) u)
set_option maxHeartbeats 4000000 in
set_option maxRecDepth 100000 in
theorem wj_Model_checkMemory_123 {p : Program} {l : Launch} {e : Env} {s : State} {m : MethodId} {args : Array Value} {below : List Frame} {meth : Method} {c : Code} {D : va_G} {ad : Nat → Nat} {ca : Nat → ClassId} {ads : List Nat} (htr : l.stackTraces = false) (C : xk_C D kx_cl (kx_ty ca) (kw_m ad ca) ads "ModuleHouseModel" prog_14_method_87_code 2 none p e s m args meth c) (hne : c.exceptionTable.isEmpty = true) {u' : xk_St} {r : Unit} {b1 : Int32} {u : xk_St} {H : Heap} {locs : List Loc} {ls : Array Slot} (h : jb_Model_checkMemory_123  b1 u = some (r, u')) (hP : va_P D kx_cl (kw_m ad ca u) H) (hS : va_S (xk_A ads s.heap.size) s.heap H locs) (hl : lv_has ls 2 [(0, .ref (ad 0)), (1, .int b1)]) : W p l e rm_Model_checkMemory s m args below meth c H locs 0 0 (xk_MQ below (xk_Qc D kx_cl (kw_m ad ca) ads (xo_v (.inl r)) u') args s (xk_A ads s.heap.size)) (F0 m 123 ls []) := by
  have hx := C.1.1
  have hb := C.1.2.1
  have hok := C.2.2.1
  unfold jb_Model_checkMemory_123 at h
  refine lv_aload_n hx hb dd_Model_checkMemory_123 rfl (lv_at hl 0 rfl) ?_
  refine lv_iconst (v := 1) hx hb dd_Model_checkMemory_124 (by decide) ?_
  obtain ⟨rx, u5, hq, h⟩ := xp_seq h
  refine xk_goesV (xr_V (As := [.int (1 : Int32)]) (rest := []) C hP hS (ct_Model_take htr hok hq) kq_Model_504 0 11 rfl rfl ⟨rfl, rfl, Nat.le_of_ble_eq_true rfl, Nat.le_of_ble_eq_true rfl⟩ ⟨Nat.le_of_ble_eq_true rfl, Nat.le_of_ble_eq_true rfl⟩ hl.1 rfl rfl (Nat.le_of_ble_eq_true rfl) dd_Model_checkMemory_125) hS (fun H locs hP hS => ?_)
  clear hq
  refine lv_aload_n hx hb dd_Model_checkMemory_128 rfl (lv_at hl 0 rfl) ?_
  refine gf_m_Model_0_op C hP dd_Model_checkMemory_129 ?_
  refine lv_bipush (v := 54) hx hb dd_Model_checkMemory_132 (by decide) ?_
  refine lv_icmp_ge (tgt := 142) hx hb dd_Model_checkMemory_134 (by decide) (fun hc => ?_) (fun hc => ?_)
  · have h := xp_t hc h
    obtain ⟨rfl, rfl⟩ := xp_r h
    exact xr_vret C hP hS dd_Model_checkMemory_142
  · have h := xp_f hc h
    refine lv_aload_n hx hb dd_Model_checkMemory_137 rfl (lv_at hl 0 rfl) ?_
    refine lv_iload_n hx hb dd_Model_checkMemory_138 rfl (lv_at hl 1 rfl) ?_
    obtain ⟨rx, u6, hq, h⟩ := xp_seq h
    refine xk_goesV (xr_V (As := [.int b1]) (rest := []) C hP hS (ct_Model_push htr hok hq) kq_Model_507 0 11 rfl rfl ⟨rfl, rfl, Nat.le_of_ble_eq_true rfl, Nat.le_of_ble_eq_true rfl⟩ ⟨Nat.le_of_ble_eq_true rfl, Nat.le_of_ble_eq_true rfl⟩ hl.1 rfl rfl (Nat.le_of_ble_eq_true rfl) dd_Model_checkMemory_139) hS (fun H locs hP hS => ?_)
    clear hq
    obtain ⟨rfl, rfl⟩ := xp_r h
    exact xr_vret C hP hS dd_Model_checkMemory_142
set_option maxHeartbeats 4000000 in
set_option maxRecDepth 100000 in
theorem wj_Model_checkMemory_108 {p : Program} {l : Launch} {e : Env} {s : State} {m : MethodId} {args : Array Value} {below : List Frame} {meth : Method} {c : Code} {D : va_G} {ad : Nat → Nat} {ca : Nat → ClassId} {ads : List Nat} (htr : l.stackTraces = false) (C : xk_C D kx_cl (kx_ty ca) (kw_m ad ca) ads "ModuleHouseModel" prog_14_method_87_code 2 none p e s m args meth c) (hne : c.exceptionTable.isEmpty = true) {u' : xk_St} {r : Unit} {s0 : Int32} {u : xk_St} {H : Heap} {locs : List Loc} {ls : Array Slot} (h : jb_Model_checkMemory_108  s0 u = some (r, u')) (hP : va_P D kx_cl (kw_m ad ca u) H) (hS : va_S (xk_A ads s.heap.size) s.heap H locs) (hl : lv_has ls 2 [(0, .ref (ad 0))]) : W p l e rm_Model_checkMemory s m args below meth c H locs 0 0 (xk_MQ below (xk_Qc D kx_cl (kw_m ad ca) ads (xo_v (.inl r)) u') args s (xk_A ads s.heap.size)) (F0 m 108 ls [.int s0]) := by
  have hx := C.1.1
  have hb := C.1.2.1
  have hok := C.2.2.1
  unfold jb_Model_checkMemory_108 at h
  refine lv_istore_n (lv' := [(1, .int s0), (0, .ref (ad 0))]) hx hb dd_Model_checkMemory_108 rfl hl (by decide) rfl (fun ls hl => ?_)
  refine lv_aload_n hx hb dd_Model_checkMemory_109 rfl (lv_at hl 1 rfl) ?_
  refine gf_m_Model_0_op C hP dd_Model_checkMemory_110 ?_
  refine lv_bipush (v := 53) hx hb dd_Model_checkMemory_113 (by decide) ?_
  refine lv_icmp_le (tgt := 123) hx hb dd_Model_checkMemory_115 (by decide) (fun hc => ?_) (fun hc => ?_)
  · have h := xp_t hc h
    exact wj_Model_checkMemory_123 htr C hne h hP hS (lv_sub hl [1, 0] rfl)
  · have h := xp_f hc h
    refine lv_aload_n hx hb dd_Model_checkMemory_118 rfl (lv_at hl 1 rfl) ?_
    refine lv_iload_n hx hb dd_Model_checkMemory_119 rfl (lv_at hl 0 rfl) ?_
    obtain ⟨rx, u7, hq, h⟩ := xp_seq h
    refine xk_goesV (xr_V (As := [.int s0]) (rest := []) C hP hS (ct_Model_take htr hok hq) kq_Model_504 0 11 rfl rfl ⟨rfl, rfl, Nat.le_of_ble_eq_true rfl, Nat.le_of_ble_eq_true rfl⟩ ⟨Nat.le_of_ble_eq_true rfl, Nat.le_of_ble_eq_true rfl⟩ hl.1 rfl rfl (Nat.le_of_ble_eq_true rfl) dd_Model_checkMemory_120) hS (fun H locs hP hS => ?_)
    clear hq
    exact wj_Model_checkMemory_123 htr C hne h hP hS (lv_sub hl [1, 0] rfl)
set_option maxHeartbeats 4000000 in
set_option maxRecDepth 100000 in
theorem wj_Model_checkMemory_90 {p : Program} {l : Launch} {e : Env} {s : State} {m : MethodId} {args : Array Value} {below : List Frame} {meth : Method} {c : Code} {D : va_G} {ad : Nat → Nat} {ca : Nat → ClassId} {ads : List Nat} (htr : l.stackTraces = false) (C : xk_C D kx_cl (kx_ty ca) (kw_m ad ca) ads "ModuleHouseModel" prog_14_method_87_code 2 none p e s m args meth c) (hne : c.exceptionTable.isEmpty = true) {u' : xk_St} {r : Unit} {s0 : Int32} {u : xk_St} {H : Heap} {locs : List Loc} {ls : Array Slot} (h : jb_Model_checkMemory_90  s0 u = some (r, u')) (hP : va_P D kx_cl (kw_m ad ca u) H) (hS : va_S (xk_A ads s.heap.size) s.heap H locs) (hl : lv_has ls 2 [(0, .ref (ad 0))]) : W p l e rm_Model_checkMemory s m args below meth c H locs 0 0 (xk_MQ below (xk_Qc D kx_cl (kw_m ad ca) ads (xo_v (.inl r)) u') args s (xk_A ads s.heap.size)) (F0 m 90 ls [.int s0, .ref (ad 0)]) := by
  have hx := C.1.1
  have hb := C.1.2.1
  have hok := C.2.2.1
  unfold jb_Model_checkMemory_90 at h
  obtain ⟨hz, h⟩ := xp_p h
  refine pf_m_Model_0_wrong C hP hS hz dd_Model_checkMemory_90 (fun H locs hP hS => ?_)
  obtain ⟨u2, eu2, h⟩ := xp_let h
  rw [← eu2] at hP
  refine lv_aload_n hx hb dd_Model_checkMemory_93 rfl (lv_at hl 0 rfl) ?_
  refine gf_m_Model_0_op C hP dd_Model_checkMemory_94 ?_
  obtain ⟨a3, u4, hq, h⟩ := xp_seq h
  refine xk_goesI (xr_S (As := [.int (u2.1 8)]) (rest := []) C hP hS (ct_Model_isLong htr hok hq) kq_Model_600 ⟨rfl, rfl, Nat.le_of_ble_eq_true rfl, Nat.le_of_ble_eq_true rfl⟩ ⟨Nat.le_of_ble_eq_true rfl, Nat.le_of_ble_eq_true rfl⟩ hl.1 rfl rfl (Nat.le_of_ble_eq_true rfl) dd_Model_checkMemory_97) hS (fun H locs hP hS => ?_)
  clear hq
  refine lv_if_eq (tgt := 107) hx hb dd_Model_checkMemory_100 (by decide) (fun hc => ?_) (fun hc => ?_)
  · have h := xp_t hc h
    refine lv_iconst (v := 1) hx hb dd_Model_checkMemory_107 (by decide) ?_
    exact wj_Model_checkMemory_108 htr C hne h hP hS (lv_sub hl [0] rfl)
  · have h := xp_f hc h
    refine lv_iconst (v := 2) hx hb dd_Model_checkMemory_103 (by decide) ?_
    refine lv_goto (tgt := 108) hx hb dd_Model_checkMemory_104 (by decide) ?_
    exact wj_Model_checkMemory_108 htr C hne h hP hS (lv_sub hl [0] rfl)
set_option maxHeartbeats 4000000 in
set_option maxRecDepth 100000 in
theorem wj_Model_checkMemory_85 {p : Program} {l : Launch} {e : Env} {s : State} {m : MethodId} {args : Array Value} {below : List Frame} {meth : Method} {c : Code} {D : va_G} {ad : Nat → Nat} {ca : Nat → ClassId} {ads : List Nat} (htr : l.stackTraces = false) (C : xk_C D kx_cl (kx_ty ca) (kw_m ad ca) ads "ModuleHouseModel" prog_14_method_87_code 2 none p e s m args meth c) (hne : c.exceptionTable.isEmpty = true) {u' : xk_St} {r : Unit} {u : xk_St} {H : Heap} {locs : List Loc} {ls : Array Slot} (h : jb_Model_checkMemory_85   u = some (r, u')) (hP : va_P D kx_cl (kw_m ad ca u) H) (hS : va_S (xk_A ads s.heap.size) s.heap H locs) (hl : lv_has ls 2 [(0, .ref (ad 0))]) : W p l e rm_Model_checkMemory s m args below meth c H locs 0 0 (xk_MQ below (xk_Qc D kx_cl (kw_m ad ca) ads (xo_v (.inl r)) u') args s (xk_A ads s.heap.size)) (F0 m 85 ls [.ref (ad 0)]) := by
  have hx := C.1.1
  have hb := C.1.2.1
  have hok := C.2.2.1
  unfold jb_Model_checkMemory_85 at h
  refine lv_iconst (v := 1) hx hb dd_Model_checkMemory_85 (by decide) ?_
  refine lv_goto (tgt := 90) hx hb dd_Model_checkMemory_86 (by decide) ?_
  exact wj_Model_checkMemory_90 htr C hne h hP hS (lv_sub hl [0] rfl)
set_option maxHeartbeats 4000000 in
set_option maxRecDepth 100000 in
theorem wj_Model_checkMemory_39 {p : Program} {l : Launch} {e : Env} {s : State} {m : MethodId} {args : Array Value} {below : List Frame} {meth : Method} {c : Code} {D : va_G} {ad : Nat → Nat} {ca : Nat → ClassId} {ads : List Nat} (htr : l.stackTraces = false) (C : xk_C D kx_cl (kx_ty ca) (kw_m ad ca) ads "ModuleHouseModel" prog_14_method_87_code 2 none p e s m args meth c) (hne : c.exceptionTable.isEmpty = true) {u' : xk_St} {r : Unit} {u : xk_St} {H : Heap} {locs : List Loc} {ls : Array Slot} (h : jb_Model_checkMemory_39   u = some (r, u')) (hP : va_P D kx_cl (kw_m ad ca u) H) (hS : va_S (xk_A ads s.heap.size) s.heap H locs) (hl : lv_has ls 2 [(0, .ref (ad 0))]) : W p l e rm_Model_checkMemory s m args below meth c H locs 0 0 (xk_MQ below (xk_Qc D kx_cl (kw_m ad ca) ads (xo_v (.inl r)) u') args s (xk_A ads s.heap.size)) (F0 m 39 ls []) := by
  have hx := C.1.1
  have hb := C.1.2.1
  have hok := C.2.2.1
  unfold jb_Model_checkMemory_39 at h
  refine lv_aload_n hx hb dd_Model_checkMemory_39 rfl (lv_at hl 0 rfl) ?_
  refine lv_iconst (v := 1) hx hb dd_Model_checkMemory_40 (by decide) ?_
  obtain ⟨rx, u10, hq, h⟩ := xp_seq h
  refine xk_goesV (xr_V (As := [.int (1 : Int32)]) (rest := []) C hP hS (ct_Model_push htr hok hq) kq_Model_507 0 11 rfl rfl ⟨rfl, rfl, Nat.le_of_ble_eq_true rfl, Nat.le_of_ble_eq_true rfl⟩ ⟨Nat.le_of_ble_eq_true rfl, Nat.le_of_ble_eq_true rfl⟩ hl.1 rfl rfl (Nat.le_of_ble_eq_true rfl) dd_Model_checkMemory_41) hS (fun H locs hP hS => ?_)
  clear hq
  obtain ⟨rfl, rfl⟩ := xp_r h
  exact xr_vret C hP hS dd_Model_checkMemory_44
set_option maxHeartbeats 4000000 in
set_option maxRecDepth 100000 in
theorem wj_Model_checkMemory_13 {p : Program} {l : Launch} {e : Env} {s : State} {m : MethodId} {args : Array Value} {below : List Frame} {meth : Method} {c : Code} {D : va_G} {ad : Nat → Nat} {ca : Nat → ClassId} {ads : List Nat} (htr : l.stackTraces = false) (C : xk_C D kx_cl (kx_ty ca) (kw_m ad ca) ads "ModuleHouseModel" prog_14_method_87_code 2 none p e s m args meth c) (hne : c.exceptionTable.isEmpty = true) {u' : xk_St} {r : Unit} {s0 : Int32} {u : xk_St} {H : Heap} {locs : List Loc} {ls : Array Slot} (h : jb_Model_checkMemory_13  s0 u = some (r, u')) (hP : va_P D kx_cl (kw_m ad ca u) H) (hS : va_S (xk_A ads s.heap.size) s.heap H locs) (hl : lv_has ls 2 [(0, .ref (ad 0))]) : W p l e rm_Model_checkMemory s m args below meth c H locs 0 0 (xk_MQ below (xk_Qc D kx_cl (kw_m ad ca) ads (xo_v (.inl r)) u') args s (xk_A ads s.heap.size)) (F0 m 13 ls [.int s0, .ref (ad 0)]) := by
  have hx := C.1.1
  have hb := C.1.2.1
  have hok := C.2.2.1
  unfold jb_Model_checkMemory_13 at h
  obtain ⟨hz, h⟩ := xp_p h
  refine pf_m_Model_0_wrong C hP hS hz dd_Model_checkMemory_13 (fun H locs hP hS => ?_)
  obtain ⟨u1, eu1, h⟩ := xp_let h
  rw [← eu1] at hP
  refine lv_aload_n hx hb dd_Model_checkMemory_16 rfl (lv_at hl 0 rfl) ?_
  refine gf_m_Model_0_op C hP dd_Model_checkMemory_17 ?_
  refine lv_bipush (v := 62) hx hb dd_Model_checkMemory_20 (by decide) ?_
  refine lv_icmp_le (tgt := 45) hx hb dd_Model_checkMemory_22 (by decide) (fun hc => ?_) (fun hc => ?_)
  · have h := xp_t hc h
    refine lv_aload_n hx hb dd_Model_checkMemory_45 rfl (lv_at hl 0 rfl) ?_
    refine lv_aload_n hx hb dd_Model_checkMemory_46 rfl (lv_at hl 0 rfl) ?_
    refine gf_m_Model_0_wrong C hP dd_Model_checkMemory_47 ?_
    refine lv_if_ne (tgt := 85) hx hb dd_Model_checkMemory_50 (by decide) (fun hc => ?_) (fun hc => ?_)
    · have h := xp_f hc h
      exact wj_Model_checkMemory_85 htr C hne h hP hS (lv_sub hl [0] rfl)
    · have h := xp_t hc h
      refine lv_aload_n hx hb dd_Model_checkMemory_53 rfl (lv_at hl 0 rfl) ?_
      refine gf_m_Model_0_x C hP dd_Model_checkMemory_54 ?_
      refine lv_ldc2 (v := 3) hx hb C.1.2.2.2.1 (C.1.2.2.2.2 _ (xk_c10 (w := Jvm.Cond.constantLong "ModuleHouseModel" 595 3) 188 rfl rfl)) dd_Model_checkMemory_57 ?_
      refine xr_lc_gt (tgt := 85) hx hb dd_Model_checkMemory_60 dd_Model_checkMemory_61 (by decide) (fun hc => ?_) (fun hc => ?_)
      · have h := xp_t hc h
        exact wj_Model_checkMemory_85 htr C hne h hP hS (lv_sub hl [0] rfl)
      · have h := xp_f hc h
        refine lv_iconst (v := 1) hx hb dd_Model_checkMemory_64 (by decide) ?_
        refine lv_aload_n hx hb dd_Model_checkMemory_65 rfl (lv_at hl 0 rfl) ?_
        refine gf_m_Model_0_x C hP dd_Model_checkMemory_66 ?_
        refine lv_ldc2 (v := 3) hx hb C.1.2.2.2.1 (C.1.2.2.2.2 _ (xk_c10 (w := Jvm.Cond.constantLong "ModuleHouseModel" 595 3) 188 rfl rfl)) dd_Model_checkMemory_69 ?_
        refine lv_land hx hb dd_Model_checkMemory_72 ?_
        refine lv_l2i hx hb dd_Model_checkMemory_73 rfl ?_
        refine lv_ishl hx hb dd_Model_checkMemory_74 ?_
        refine lv_aload_n hx hb dd_Model_checkMemory_75 rfl (lv_at hl 0 rfl) ?_
        refine gf_m_Model_0_op C hP dd_Model_checkMemory_76 ?_
        obtain ⟨a8, u9, hq, h⟩ := xp_seq h
        refine xk_goesI (xr_S (As := [.int (u1.1 8)]) (rest := [.int ((1 : Int32) <<< ((((u1.2.1 0) &&& (3 : Int64)).toInt32) &&& 31)), .ref (ad 0)]) C hP hS (ct_Model_widthOf htr hok hq) kq_Model_597 ⟨rfl, rfl, Nat.le_of_ble_eq_true rfl, Nat.le_of_ble_eq_true rfl⟩ ⟨Nat.le_of_ble_eq_true rfl, Nat.le_of_ble_eq_true rfl⟩ hl.1 rfl rfl (Nat.le_of_ble_eq_true rfl) dd_Model_checkMemory_79) hS (fun H locs hP hS => ?_)
        clear hq
        refine lv_icmp_le (tgt := 89) hx hb dd_Model_checkMemory_82 (by decide) (fun hc => ?_) (fun hc => ?_)
        · have h := xp_t hc h
          refine lv_iconst (v := 0) hx hb dd_Model_checkMemory_89 (by decide) ?_
          exact wj_Model_checkMemory_90 htr C hne h hP hS (lv_sub hl [0] rfl)
        · have h := xp_f hc h
          exact wj_Model_checkMemory_85 htr C hne h hP hS (lv_sub hl [0] rfl)
  · have h := xp_f hc h
    refine lv_aload_n hx hb dd_Model_checkMemory_25 rfl (lv_at hl 0 rfl) ?_
    refine gf_m_Model_0_op C hP dd_Model_checkMemory_26 ?_
    refine lv_bipush (v := 64) hx hb dd_Model_checkMemory_29 (by decide) ?_
    refine lv_icmp_ne (tgt := 39) hx hb dd_Model_checkMemory_31 (by decide) (fun hc => ?_) (fun hc => ?_)
    · have h := xp_f hc h
      exact wj_Model_checkMemory_39 htr C hne h hP hS (lv_sub hl [0] rfl)
    · have h := xp_t hc h
      refine lv_aload_n hx hb dd_Model_checkMemory_34 rfl (lv_at hl 0 rfl) ?_
      refine lv_iconst (v := 1) hx hb dd_Model_checkMemory_35 (by decide) ?_
      obtain ⟨rx, u11, hq, h⟩ := xp_seq h
      refine xk_goesV (xr_V (As := [.int (1 : Int32)]) (rest := []) C hP hS (ct_Model_take htr hok hq) kq_Model_504 0 11 rfl rfl ⟨rfl, rfl, Nat.le_of_ble_eq_true rfl, Nat.le_of_ble_eq_true rfl⟩ ⟨Nat.le_of_ble_eq_true rfl, Nat.le_of_ble_eq_true rfl⟩ hl.1 rfl rfl (Nat.le_of_ble_eq_true rfl) dd_Model_checkMemory_36) hS (fun H locs hP hS => ?_)
      clear hq
      exact wj_Model_checkMemory_39 htr C hne h hP hS (lv_sub hl [0] rfl)
set_option maxHeartbeats 4000000 in
set_option maxRecDepth 100000 in
theorem ct_Model_checkMemory {l : Launch} {D : va_G} {ad : Nat → Nat} {ca : Nat → ClassId} {ads : List Nat} (htr : l.stackTraces = false) (hok : xk_ok (kw_m ad ca) ads) {u u' : xk_St} {r : Unit} (h : fm_Model_checkMemory u = some (r, u')) :
    ∀ sz, xk_Met l ⟨"ModuleHouseModel", "checkMemory", "()V"⟩ (Cond.code ⟨"ModuleHouseModel", "checkMemory", "()V"⟩ prog_14_method_87_code 2 none :: xk_gd) rm_Model_checkMemory (xk_Pc D kx_cl (kx_ty ca) (kw_m ad ca) ads xk_F sz [.ref (ad 0)] u) (xk_Qc D kx_cl (kw_m ad ca) ads (xo_v (.inl r)) u') (xk_A ads sz) := by
  unfold fm_Model_checkMemory at h
  refine xk_con (by decide) htr hok (Nat.le_of_ble_eq_true rfl) (fun p e s m below meth c ls C hne hl hP => ?_)
  have hx := C.1.1
  have hb := C.1.2.1
  have hS : va_S (xk_A ads s.heap.size) s.heap s.heap [] := va_S.rf
  have hl : lv_has ls 2 [(0, .ref (ad 0))] := hl
  refine lv_aload_n hx hb dd_Model_checkMemory_0 rfl (lv_at hl 0 rfl) ?_
  refine lv_aload_n hx hb dd_Model_checkMemory_1 rfl (lv_at hl 0 rfl) ?_
  refine gf_m_Model_0_hasMemory C hP dd_Model_checkMemory_2 ?_
  refine lv_if_ne (tgt := 12) hx hb dd_Model_checkMemory_5 (by decide) (fun hc => ?_) (fun hc => ?_)
  · have h := xp_f hc h
    refine lv_iconst (v := 0) hx hb dd_Model_checkMemory_12 (by decide) ?_
    exact wj_Model_checkMemory_13 htr C hne h hP hS (lv_sub hl [0] rfl)
  · have h := xp_t hc h
    refine lv_iconst (v := 1) hx hb dd_Model_checkMemory_8 (by decide) ?_
    refine lv_goto (tgt := 13) hx hb dd_Model_checkMemory_9 (by decide) ?_
    exact wj_Model_checkMemory_13 htr C hne h hP hS (lv_sub hl [0] rfl)
abbrev rm_Model_checkNames : Room := { frames := 4, cells := 1, slots := 6, locals := 65 }
noncomputable def jb_Model_checkNames_166 (b2 : Int32) (u : xk_St) : Option (Unit × xk_St) :=
  (xs_seq (fm_Model_push b2 u) fun _ u2 => some ((()), u2))
noncomputable def jb_Model_checkNames_139 (b2 : Int32) (u : xk_St) : Option (Unit × xk_St) :=
  if (u.1 8) = (32 : Int32) then (jb_Model_checkNames_166 b2 u) else (if (u.1 8) = (34 : Int32) then (jb_Model_checkNames_166 b2 u) else (if (u.1 8) = (35 : Int32) then (jb_Model_checkNames_166 b2 u) else (some ((()), u))))
noncomputable def jb_Model_checkNames_134 (b2 : Int32) (u : xk_St) : Option (Unit × xk_St) :=
  (xs_seq (fm_Model_take b2 u) fun _ u1 => jb_Model_checkNames_139 b2 u1)
noncomputable def jb_Model_checkNames_107 (b2 : Int32) (u : xk_St) : Option (Unit × xk_St) :=
  if (u.1 8) = (33 : Int32) then (jb_Model_checkNames_134 b2 u) else (if (u.1 8) = (34 : Int32) then (jb_Model_checkNames_134 b2 u) else (if (u.1 8) = (36 : Int32) then (jb_Model_checkNames_134 b2 u) else (jb_Model_checkNames_139 b2 u)))
noncomputable def jb_Model_checkNames_104 (b2 : Int32) (s0 : Int32) (u : xk_St) : Option (Unit × xk_St) :=
  (if s0 = 0 ∨ s0 = 1 then ( xs_let (xs_I u 7 s0) fun u3 => jb_Model_checkNames_107 b2 u3  ) else none)
noncomputable def jb_Model_checkNames_75 (s0 : Int32) (u : xk_St) : Option (Unit × xk_St) :=
  if (u.1 8) = (36 : Int32) then ((if ((u.2.1 0).toInt32) < 0 ∨ 64 ≤ ((u.2.1 0).toInt32).toNatClampNeg then none else if (u.2.2.1 15 ((u.2.1 0).toInt32).toNatClampNeg) = (0 : Int32) then (jb_Model_checkNames_104 s0 (1 : Int32) u) else (jb_Model_checkNames_104 s0 (0 : Int32) u))) else (jb_Model_checkNames_107 s0 u)
noncomputable def jb_Model_checkNames_26 (b1 : Int32) (s0 : Int32) (s1 : Int64) (u : xk_St) : Option (Unit × xk_St) :=
  if s1 < (s0.toInt64) then (if (35 : Int32) ≤ (u.1 8) then ((if ((u.2.1 0).toInt32) < 0 ∨ 64 ≤ ((u.2.1 0).toInt32).toNatClampNeg then none else jb_Model_checkNames_75 (u.2.2.1 14 ((u.2.1 0).toInt32).toNatClampNeg) u)) else ((if (((200 : Int32) * b1) + ((u.2.1 0).toInt32)) < 0 ∨ 12800 ≤ (((200 : Int32) * b1) + ((u.2.1 0).toInt32)).toNatClampNeg then none else jb_Model_checkNames_75 (u.2.2.1 13 (((200 : Int32) * b1) + ((u.2.1 0).toInt32)).toNatClampNeg) u))) else ((xs_let (xs_I u 7 (1 : Int32)) fun u4 => some ((()), u4)))
noncomputable def fm_Model_checkNames (x0 : Int32) (u : xk_St) : Option (Unit × xk_St) :=
  if (35 : Int32) ≤ (u.1 8) then (jb_Model_checkNames_26 x0 (u.1 18) (u.2.1 0) u) else ((if x0 < 0 ∨ 64 ≤ x0.toNatClampNeg then none else jb_Model_checkNames_26 x0 (u.2.2.1 12 x0.toNatClampNeg) (u.2.1 0) u))
set_option maxHeartbeats 4000000 in
set_option maxRecDepth 100000 in
theorem wj_Model_checkNames_166 {p : Program} {l : Launch} {e : Env} {s : State} {m : MethodId} {args : Array Value} {below : List Frame} {meth : Method} {c : Code} {D : va_G} {ad : Nat → Nat} {ca : Nat → ClassId} {ads : List Nat} (htr : l.stackTraces = false) (C : xk_C D kx_cl (kx_ty ca) (kw_m ad ca) ads "ModuleHouseModel" prog_14_method_84_code 3 none p e s m args meth c) (hne : c.exceptionTable.isEmpty = true) {u' : xk_St} {r : Unit} {b2 : Int32} {u : xk_St} {H : Heap} {locs : List Loc} {ls : Array Slot} (h : jb_Model_checkNames_166  b2 u = some (r, u')) (hP : va_P D kx_cl (kw_m ad ca u) H) (hS : va_S (xk_A ads s.heap.size) s.heap H locs) (hl : lv_has ls 3 [(0, .ref (ad 0)), (2, .int b2)]) : W p l e rm_Model_checkNames s m args below meth c H locs 0 0 (xk_MQ below (xk_Qc D kx_cl (kw_m ad ca) ads (xo_v (.inl r)) u') args s (xk_A ads s.heap.size)) (F0 m 166 ls []) := by
  have hx := C.1.1
  have hb := C.1.2.1
  have hok := C.2.2.1
  unfold jb_Model_checkNames_166 at h
  refine lv_aload_n hx hb dd_Model_checkNames_166 rfl (lv_at hl 0 rfl) ?_
  refine lv_iload_n hx hb dd_Model_checkNames_167 rfl (lv_at hl 1 rfl) ?_
  obtain ⟨rx, u2, hq, h⟩ := xp_seq h
  refine xk_goesV (xr_V (As := [.int b2]) (rest := []) C hP hS (ct_Model_push htr hok hq) kq_Model_507 0 11 rfl rfl ⟨rfl, rfl, Nat.le_of_ble_eq_true rfl, Nat.le_of_ble_eq_true rfl⟩ ⟨Nat.le_of_ble_eq_true rfl, Nat.le_of_ble_eq_true rfl⟩ hl.1 rfl rfl (Nat.le_of_ble_eq_true rfl) dd_Model_checkNames_168) hS (fun H locs hP hS => ?_)
  clear hq
  obtain ⟨rfl, rfl⟩ := xp_r h
  exact xr_vret C hP hS dd_Model_checkNames_171
set_option maxHeartbeats 4000000 in
set_option maxRecDepth 100000 in
theorem wj_Model_checkNames_139 {p : Program} {l : Launch} {e : Env} {s : State} {m : MethodId} {args : Array Value} {below : List Frame} {meth : Method} {c : Code} {D : va_G} {ad : Nat → Nat} {ca : Nat → ClassId} {ads : List Nat} (htr : l.stackTraces = false) (C : xk_C D kx_cl (kx_ty ca) (kw_m ad ca) ads "ModuleHouseModel" prog_14_method_84_code 3 none p e s m args meth c) (hne : c.exceptionTable.isEmpty = true) {u' : xk_St} {r : Unit} {b2 : Int32} {u : xk_St} {H : Heap} {locs : List Loc} {ls : Array Slot} (h : jb_Model_checkNames_139  b2 u = some (r, u')) (hP : va_P D kx_cl (kw_m ad ca u) H) (hS : va_S (xk_A ads s.heap.size) s.heap H locs) (hl : lv_has ls 3 [(0, .ref (ad 0)), (2, .int b2)]) : W p l e rm_Model_checkNames s m args below meth c H locs 0 0 (xk_MQ below (xk_Qc D kx_cl (kw_m ad ca) ads (xo_v (.inl r)) u') args s (xk_A ads s.heap.size)) (F0 m 139 ls []) := by
  have hx := C.1.1
  have hb := C.1.2.1
  have hok := C.2.2.1
  unfold jb_Model_checkNames_139 at h
  refine lv_aload_n hx hb dd_Model_checkNames_139 rfl (lv_at hl 0 rfl) ?_
  refine gf_m_Model_0_op C hP dd_Model_checkNames_140 ?_
  refine lv_bipush (v := 32) hx hb dd_Model_checkNames_143 (by decide) ?_
  refine lv_icmp_eq (tgt := 166) hx hb dd_Model_checkNames_145 (by decide) (fun hc => ?_) (fun hc => ?_)
  · have h := xp_t hc h
    exact wj_Model_checkNames_166 htr C hne h hP hS (lv_sub hl [0, 1] rfl)
  · have h := xp_f hc h
    refine lv_aload_n hx hb dd_Model_checkNames_148 rfl (lv_at hl 0 rfl) ?_
    refine gf_m_Model_0_op C hP dd_Model_checkNames_149 ?_
    refine lv_bipush (v := 34) hx hb dd_Model_checkNames_152 (by decide) ?_
    refine lv_icmp_eq (tgt := 166) hx hb dd_Model_checkNames_154 (by decide) (fun hc => ?_) (fun hc => ?_)
    · have h := xp_t hc h
      exact wj_Model_checkNames_166 htr C hne h hP hS (lv_sub hl [0, 1] rfl)
    · have h := xp_f hc h
      refine lv_aload_n hx hb dd_Model_checkNames_157 rfl (lv_at hl 0 rfl) ?_
      refine gf_m_Model_0_op C hP dd_Model_checkNames_158 ?_
      refine lv_bipush (v := 35) hx hb dd_Model_checkNames_161 (by decide) ?_
      refine lv_icmp_ne (tgt := 171) hx hb dd_Model_checkNames_163 (by decide) (fun hc => ?_) (fun hc => ?_)
      · have h := xp_f hc h
        obtain ⟨rfl, rfl⟩ := xp_r h
        exact xr_vret C hP hS dd_Model_checkNames_171
      · have h := xp_t hc h
        exact wj_Model_checkNames_166 htr C hne h hP hS (lv_sub hl [0, 1] rfl)
set_option maxHeartbeats 4000000 in
set_option maxRecDepth 100000 in
theorem wj_Model_checkNames_134 {p : Program} {l : Launch} {e : Env} {s : State} {m : MethodId} {args : Array Value} {below : List Frame} {meth : Method} {c : Code} {D : va_G} {ad : Nat → Nat} {ca : Nat → ClassId} {ads : List Nat} (htr : l.stackTraces = false) (C : xk_C D kx_cl (kx_ty ca) (kw_m ad ca) ads "ModuleHouseModel" prog_14_method_84_code 3 none p e s m args meth c) (hne : c.exceptionTable.isEmpty = true) {u' : xk_St} {r : Unit} {b2 : Int32} {u : xk_St} {H : Heap} {locs : List Loc} {ls : Array Slot} (h : jb_Model_checkNames_134  b2 u = some (r, u')) (hP : va_P D kx_cl (kw_m ad ca u) H) (hS : va_S (xk_A ads s.heap.size) s.heap H locs) (hl : lv_has ls 3 [(0, .ref (ad 0)), (2, .int b2)]) : W p l e rm_Model_checkNames s m args below meth c H locs 0 0 (xk_MQ below (xk_Qc D kx_cl (kw_m ad ca) ads (xo_v (.inl r)) u') args s (xk_A ads s.heap.size)) (F0 m 134 ls []) := by
  have hx := C.1.1
  have hb := C.1.2.1
  have hok := C.2.2.1
  unfold jb_Model_checkNames_134 at h
  refine lv_aload_n hx hb dd_Model_checkNames_134 rfl (lv_at hl 0 rfl) ?_
  refine lv_iload_n hx hb dd_Model_checkNames_135 rfl (lv_at hl 1 rfl) ?_
  obtain ⟨rx, u1, hq, h⟩ := xp_seq h
  refine xk_goesV (xr_V (As := [.int b2]) (rest := []) C hP hS (ct_Model_take htr hok hq) kq_Model_504 0 11 rfl rfl ⟨rfl, rfl, Nat.le_of_ble_eq_true rfl, Nat.le_of_ble_eq_true rfl⟩ ⟨Nat.le_of_ble_eq_true rfl, Nat.le_of_ble_eq_true rfl⟩ hl.1 rfl rfl (Nat.le_of_ble_eq_true rfl) dd_Model_checkNames_136) hS (fun H locs hP hS => ?_)
  clear hq
  exact wj_Model_checkNames_139 htr C hne h hP hS (lv_sub hl [0, 1] rfl)
set_option maxHeartbeats 4000000 in
set_option maxRecDepth 100000 in
theorem wj_Model_checkNames_107 {p : Program} {l : Launch} {e : Env} {s : State} {m : MethodId} {args : Array Value} {below : List Frame} {meth : Method} {c : Code} {D : va_G} {ad : Nat → Nat} {ca : Nat → ClassId} {ads : List Nat} (htr : l.stackTraces = false) (C : xk_C D kx_cl (kx_ty ca) (kw_m ad ca) ads "ModuleHouseModel" prog_14_method_84_code 3 none p e s m args meth c) (hne : c.exceptionTable.isEmpty = true) {u' : xk_St} {r : Unit} {b2 : Int32} {u : xk_St} {H : Heap} {locs : List Loc} {ls : Array Slot} (h : jb_Model_checkNames_107  b2 u = some (r, u')) (hP : va_P D kx_cl (kw_m ad ca u) H) (hS : va_S (xk_A ads s.heap.size) s.heap H locs) (hl : lv_has ls 3 [(0, .ref (ad 0)), (2, .int b2)]) : W p l e rm_Model_checkNames s m args below meth c H locs 0 0 (xk_MQ below (xk_Qc D kx_cl (kw_m ad ca) ads (xo_v (.inl r)) u') args s (xk_A ads s.heap.size)) (F0 m 107 ls []) := by
  have hx := C.1.1
  have hb := C.1.2.1
  have hok := C.2.2.1
  unfold jb_Model_checkNames_107 at h
  refine lv_aload_n hx hb dd_Model_checkNames_107 rfl (lv_at hl 0 rfl) ?_
  refine gf_m_Model_0_op C hP dd_Model_checkNames_108 ?_
  refine lv_bipush (v := 33) hx hb dd_Model_checkNames_111 (by decide) ?_
  refine lv_icmp_eq (tgt := 134) hx hb dd_Model_checkNames_113 (by decide) (fun hc => ?_) (fun hc => ?_)
  · have h := xp_t hc h
    exact wj_Model_checkNames_134 htr C hne h hP hS (lv_sub hl [0, 1] rfl)
  · have h := xp_f hc h
    refine lv_aload_n hx hb dd_Model_checkNames_116 rfl (lv_at hl 0 rfl) ?_
    refine gf_m_Model_0_op C hP dd_Model_checkNames_117 ?_
    refine lv_bipush (v := 34) hx hb dd_Model_checkNames_120 (by decide) ?_
    refine lv_icmp_eq (tgt := 134) hx hb dd_Model_checkNames_122 (by decide) (fun hc => ?_) (fun hc => ?_)
    · have h := xp_t hc h
      exact wj_Model_checkNames_134 htr C hne h hP hS (lv_sub hl [0, 1] rfl)
    · have h := xp_f hc h
      refine lv_aload_n hx hb dd_Model_checkNames_125 rfl (lv_at hl 0 rfl) ?_
      refine gf_m_Model_0_op C hP dd_Model_checkNames_126 ?_
      refine lv_bipush (v := 36) hx hb dd_Model_checkNames_129 (by decide) ?_
      refine lv_icmp_ne (tgt := 139) hx hb dd_Model_checkNames_131 (by decide) (fun hc => ?_) (fun hc => ?_)
      · have h := xp_f hc h
        exact wj_Model_checkNames_139 htr C hne h hP hS (lv_sub hl [0, 1] rfl)
      · have h := xp_t hc h
        exact wj_Model_checkNames_134 htr C hne h hP hS (lv_sub hl [0, 1] rfl)
set_option maxHeartbeats 4000000 in
set_option maxRecDepth 100000 in
theorem wj_Model_checkNames_104 {p : Program} {l : Launch} {e : Env} {s : State} {m : MethodId} {args : Array Value} {below : List Frame} {meth : Method} {c : Code} {D : va_G} {ad : Nat → Nat} {ca : Nat → ClassId} {ads : List Nat} (htr : l.stackTraces = false) (C : xk_C D kx_cl (kx_ty ca) (kw_m ad ca) ads "ModuleHouseModel" prog_14_method_84_code 3 none p e s m args meth c) (hne : c.exceptionTable.isEmpty = true) {u' : xk_St} {r : Unit} {b2 : Int32} {s0 : Int32} {u : xk_St} {H : Heap} {locs : List Loc} {ls : Array Slot} (h : jb_Model_checkNames_104  b2 s0 u = some (r, u')) (hP : va_P D kx_cl (kw_m ad ca u) H) (hS : va_S (xk_A ads s.heap.size) s.heap H locs) (hl : lv_has ls 3 [(0, .ref (ad 0)), (2, .int b2)]) : W p l e rm_Model_checkNames s m args below meth c H locs 0 0 (xk_MQ below (xk_Qc D kx_cl (kw_m ad ca) ads (xo_v (.inl r)) u') args s (xk_A ads s.heap.size)) (F0 m 104 ls [.int s0, .ref (ad 0)]) := by
  have hx := C.1.1
  have hb := C.1.2.1
  have hok := C.2.2.1
  unfold jb_Model_checkNames_104 at h
  obtain ⟨hz, h⟩ := xp_p h
  refine pf_m_Model_0_wrong C hP hS hz dd_Model_checkNames_104 (fun H locs hP hS => ?_)
  obtain ⟨u3, eu3, h⟩ := xp_let h
  rw [← eu3] at hP
  exact wj_Model_checkNames_107 htr C hne h hP hS (lv_sub hl [0, 1] rfl)
set_option maxHeartbeats 4000000 in
set_option maxRecDepth 100000 in
theorem wj_Model_checkNames_75 {p : Program} {l : Launch} {e : Env} {s : State} {m : MethodId} {args : Array Value} {below : List Frame} {meth : Method} {c : Code} {D : va_G} {ad : Nat → Nat} {ca : Nat → ClassId} {ads : List Nat} (htr : l.stackTraces = false) (C : xk_C D kx_cl (kx_ty ca) (kw_m ad ca) ads "ModuleHouseModel" prog_14_method_84_code 3 none p e s m args meth c) (hne : c.exceptionTable.isEmpty = true) {u' : xk_St} {r : Unit} {s0 : Int32} {u : xk_St} {H : Heap} {locs : List Loc} {ls : Array Slot} (h : jb_Model_checkNames_75  s0 u = some (r, u')) (hP : va_P D kx_cl (kw_m ad ca u) H) (hS : va_S (xk_A ads s.heap.size) s.heap H locs) (hl : lv_has ls 3 [(0, .ref (ad 0))]) : W p l e rm_Model_checkNames s m args below meth c H locs 0 0 (xk_MQ below (xk_Qc D kx_cl (kw_m ad ca) ads (xo_v (.inl r)) u') args s (xk_A ads s.heap.size)) (F0 m 75 ls [.int s0]) := by
  have hx := C.1.1
  have hb := C.1.2.1
  have hok := C.2.2.1
  unfold jb_Model_checkNames_75 at h
  refine lv_istore_n (lv' := [(2, .int s0), (0, .ref (ad 0))]) hx hb dd_Model_checkNames_75 rfl hl (by decide) rfl (fun ls hl => ?_)
  refine lv_aload_n hx hb dd_Model_checkNames_76 rfl (lv_at hl 1 rfl) ?_
  refine gf_m_Model_0_op C hP dd_Model_checkNames_77 ?_
  refine lv_bipush (v := 36) hx hb dd_Model_checkNames_80 (by decide) ?_
  refine lv_icmp_ne (tgt := 107) hx hb dd_Model_checkNames_82 (by decide) (fun hc => ?_) (fun hc => ?_)
  · have h := xp_f hc h
    exact wj_Model_checkNames_107 htr C hne h hP hS (lv_sub hl [1, 0] rfl)
  · have h := xp_t hc h
    refine lv_aload_n hx hb dd_Model_checkNames_85 rfl (lv_at hl 1 rfl) ?_
    refine lv_aload_n hx hb dd_Model_checkNames_86 rfl (lv_at hl 1 rfl) ?_
    refine gf_m_Model_0_globalSets C hP dd_Model_checkNames_87 ?_
    refine lv_aload_n hx hb dd_Model_checkNames_90 rfl (lv_at hl 1 rfl) ?_
    refine gf_m_Model_0_x C hP dd_Model_checkNames_91 ?_
    refine lv_l2i hx hb dd_Model_checkNames_94 rfl ?_
    obtain ⟨hi, h⟩ := xp_g h
    refine al_m_17 C hP hi dd_Model_checkNames_95 ?_
    refine lv_if_ne (tgt := 103) hx hb dd_Model_checkNames_96 (by decide) (fun hc => ?_) (fun hc => ?_)
    · have h := xp_f hc h
      refine lv_iconst (v := 0) hx hb dd_Model_checkNames_103 (by decide) ?_
      exact wj_Model_checkNames_104 htr C hne h hP hS (lv_sub hl [1, 0] rfl)
    · have h := xp_t hc h
      refine lv_iconst (v := 1) hx hb dd_Model_checkNames_99 (by decide) ?_
      refine lv_goto (tgt := 104) hx hb dd_Model_checkNames_100 (by decide) ?_
      exact wj_Model_checkNames_104 htr C hne h hP hS (lv_sub hl [1, 0] rfl)
set_option maxHeartbeats 4000000 in
set_option maxRecDepth 100000 in
theorem wj_Model_checkNames_26 {p : Program} {l : Launch} {e : Env} {s : State} {m : MethodId} {args : Array Value} {below : List Frame} {meth : Method} {c : Code} {D : va_G} {ad : Nat → Nat} {ca : Nat → ClassId} {ads : List Nat} (htr : l.stackTraces = false) (C : xk_C D kx_cl (kx_ty ca) (kw_m ad ca) ads "ModuleHouseModel" prog_14_method_84_code 3 none p e s m args meth c) (hne : c.exceptionTable.isEmpty = true) {u' : xk_St} {r : Unit} {b1 : Int32} {s0 : Int32} {s1 : Int64} {u : xk_St} {H : Heap} {locs : List Loc} {ls : Array Slot} (h : jb_Model_checkNames_26  b1 s0 s1 u = some (r, u')) (hP : va_P D kx_cl (kw_m ad ca u) H) (hS : va_S (xk_A ads s.heap.size) s.heap H locs) (hl : lv_has ls 3 [(0, .ref (ad 0)), (1, .int b1)]) : W p l e rm_Model_checkNames s m args below meth c H locs 0 0 (xk_MQ below (xk_Qc D kx_cl (kw_m ad ca) ads (xo_v (.inl r)) u') args s (xk_A ads s.heap.size)) (F0 m 26 ls [.int s0, .long s1]) := by
  have hx := C.1.1
  have hb := C.1.2.1
  have hok := C.2.2.1
  unfold jb_Model_checkNames_26 at h
  refine lv_i2l hx hb dd_Model_checkNames_26 rfl ?_
  refine xr_lc_lt (tgt := 37) hx hb dd_Model_checkNames_27 dd_Model_checkNames_28 (by decide) (fun hc => ?_) (fun hc => ?_)
  · have h := xp_t hc h
    refine lv_aload_n hx hb dd_Model_checkNames_37 rfl (lv_at hl 0 rfl) ?_
    refine gf_m_Model_0_op C hP dd_Model_checkNames_38 ?_
    refine lv_bipush (v := 35) hx hb dd_Model_checkNames_41 (by decide) ?_
    refine lv_icmp_ge (tgt := 65) hx hb dd_Model_checkNames_43 (by decide) (fun hc => ?_) (fun hc => ?_)
    · have h := xp_t hc h
      refine lv_aload_n hx hb dd_Model_checkNames_65 rfl (lv_at hl 0 rfl) ?_
      refine gf_m_Model_0_globalType C hP dd_Model_checkNames_66 ?_
      refine lv_aload_n hx hb dd_Model_checkNames_69 rfl (lv_at hl 0 rfl) ?_
      refine gf_m_Model_0_x C hP dd_Model_checkNames_70 ?_
      refine lv_l2i hx hb dd_Model_checkNames_73 rfl ?_
      obtain ⟨hi, h⟩ := xp_g h
      refine al_m_16 C hP hi dd_Model_checkNames_74 ?_
      exact wj_Model_checkNames_75 htr C hne h hP hS (lv_sub hl [0] rfl)
    · have h := xp_f hc h
      refine lv_aload_n hx hb dd_Model_checkNames_46 rfl (lv_at hl 0 rfl) ?_
      refine gf_m_Model_0_localTypes C hP dd_Model_checkNames_47 ?_
      refine lv_sipush (v := 200) hx hb dd_Model_checkNames_50 (by decide) ?_
      refine lv_iload_n hx hb dd_Model_checkNames_53 rfl (lv_at hl 1 rfl) ?_
      refine lv_imul hx hb dd_Model_checkNames_54 ?_
      refine lv_aload_n hx hb dd_Model_checkNames_55 rfl (lv_at hl 0 rfl) ?_
      refine gf_m_Model_0_x C hP dd_Model_checkNames_56 ?_
      refine lv_l2i hx hb dd_Model_checkNames_59 rfl ?_
      refine lv_iadd hx hb dd_Model_checkNames_60 ?_
      obtain ⟨hi, h⟩ := xp_g h
      refine al_m_15 C hP hi dd_Model_checkNames_61 ?_
      refine lv_goto (tgt := 75) hx hb dd_Model_checkNames_62 (by decide) ?_
      exact wj_Model_checkNames_75 htr C hne h hP hS (lv_sub hl [0] rfl)
  · have h := xp_f hc h
    refine lv_aload_n hx hb dd_Model_checkNames_31 rfl (lv_at hl 0 rfl) ?_
    refine lv_iconst (v := 1) hx hb dd_Model_checkNames_32 (by decide) ?_
    refine pf_m_Model_0_wrong C hP hS (by decide) dd_Model_checkNames_33 (fun H locs hP hS => ?_)
    obtain ⟨u4, eu4, h⟩ := xp_let h
    rw [← eu4] at hP
    obtain ⟨rfl, rfl⟩ := xp_r h
    exact xr_vret C hP hS dd_Model_checkNames_36
set_option maxHeartbeats 4000000 in
set_option maxRecDepth 100000 in
theorem ct_Model_checkNames {l : Launch} {D : va_G} {ad : Nat → Nat} {ca : Nat → ClassId} {ads : List Nat} (htr : l.stackTraces = false) (hok : xk_ok (kw_m ad ca) ads) {x0 : Int32} {u u' : xk_St} {r : Unit} (h : fm_Model_checkNames x0 u = some (r, u')) :
    ∀ sz, xk_Met l ⟨"ModuleHouseModel", "checkNames", "(I)V"⟩ (Cond.code ⟨"ModuleHouseModel", "checkNames", "(I)V"⟩ prog_14_method_84_code 3 none :: xk_gd) rm_Model_checkNames (xk_Pc D kx_cl (kx_ty ca) (kw_m ad ca) ads xk_F sz [.ref (ad 0), .int x0] u) (xk_Qc D kx_cl (kw_m ad ca) ads (xo_v (.inl r)) u') (xk_A ads sz) := by
  unfold fm_Model_checkNames at h
  refine xk_con (by decide) htr hok (Nat.le_of_ble_eq_true rfl) (fun p e s m below meth c ls C hne hl hP => ?_)
  have hx := C.1.1
  have hb := C.1.2.1
  have hS : va_S (xk_A ads s.heap.size) s.heap s.heap [] := va_S.rf
  have hl : lv_has ls 3 [(0, .ref (ad 0)), (1, .int x0)] := hl
  refine lv_aload_n hx hb dd_Model_checkNames_0 rfl (lv_at hl 0 rfl) ?_
  refine gf_m_Model_0_x C hP dd_Model_checkNames_1 ?_
  refine lv_aload_n hx hb dd_Model_checkNames_4 rfl (lv_at hl 0 rfl) ?_
  refine gf_m_Model_0_op C hP dd_Model_checkNames_5 ?_
  refine lv_bipush (v := 35) hx hb dd_Model_checkNames_8 (by decide) ?_
  refine lv_icmp_ge (tgt := 22) hx hb dd_Model_checkNames_10 (by decide) (fun hc => ?_) (fun hc => ?_)
  · have h := xp_t hc h
    refine lv_aload_n hx hb dd_Model_checkNames_22 rfl (lv_at hl 0 rfl) ?_
    refine gf_m_Model_0_globals C hP dd_Model_checkNames_23 ?_
    exact wj_Model_checkNames_26 htr C hne h hP hS (lv_sub hl [0, 1] rfl)
  · have h := xp_f hc h
    refine lv_aload_n hx hb dd_Model_checkNames_13 rfl (lv_at hl 0 rfl) ?_
    refine gf_m_Model_0_localMany C hP dd_Model_checkNames_14 ?_
    refine lv_iload_n hx hb dd_Model_checkNames_17 rfl (lv_at hl 1 rfl) ?_
    obtain ⟨hi, h⟩ := xp_g h
    refine al_m_14 C hP hi dd_Model_checkNames_18 ?_
    refine lv_goto (tgt := 26) hx hb dd_Model_checkNames_19 (by decide) ?_
    exact wj_Model_checkNames_26 htr C hne h hP hS (lv_sub hl [0, 1] rfl)
abbrev rm_Model_unreachable : Room := { frames := 1, cells := 1, slots := 6, locals := 0 }
noncomputable def fm_Model_unreachable (u : xk_St) : Option (Unit × xk_St) :=
  (if ((u.1 22) - (1 : Int32)) < 0 ∨ 101 ≤ ((u.1 22) - (1 : Int32)).toNatClampNeg then none else xs_let (xs_I u 21 (u.2.2.1 25 ((u.1 22) - (1 : Int32)).toNatClampNeg)) fun u1 => if ((u1.1 22) - (1 : Int32)) < 0 ∨ 101 ≤ ((u1.1 22) - (1 : Int32)).toNatClampNeg then none else xs_let (xs_A u1 26 ((u1.1 22) - (1 : Int32)).toNatClampNeg (vp_nar .boolean (1 : Int32))) fun u2 => some ((()), u2))
set_option maxHeartbeats 4000000 in
set_option maxRecDepth 100000 in
theorem ct_Model_unreachable {l : Launch} {D : va_G} {ad : Nat → Nat} {ca : Nat → ClassId} {ads : List Nat} (htr : l.stackTraces = false) (hok : xk_ok (kw_m ad ca) ads) {u u' : xk_St} {r : Unit} (h : fm_Model_unreachable u = some (r, u')) :
    ∀ sz, xk_Met l ⟨"ModuleHouseModel", "unreachable", "()V"⟩ (Cond.code ⟨"ModuleHouseModel", "unreachable", "()V"⟩ prog_14_method_68_code 1 none :: xk_gd) rm_Model_unreachable (xk_Pc D kx_cl (kx_ty ca) (kw_m ad ca) ads xk_F sz [.ref (ad 0)] u) (xk_Qc D kx_cl (kw_m ad ca) ads (xo_v (.inl r)) u') (xk_A ads sz) := by
  unfold fm_Model_unreachable at h
  refine xk_con (by decide) htr hok (Nat.le_of_ble_eq_true rfl) (fun p e s m below meth c ls C hne hl hP => ?_)
  have hx := C.1.1
  have hb := C.1.2.1
  have hS : va_S (xk_A ads s.heap.size) s.heap s.heap [] := va_S.rf
  have hl : lv_has ls 1 [(0, .ref (ad 0))] := hl
  refine lv_aload_n hx hb dd_Model_unreachable_0 rfl (lv_at hl 0 rfl) ?_
  refine lv_aload_n hx hb dd_Model_unreachable_1 rfl (lv_at hl 0 rfl) ?_
  refine gf_m_Model_0_blockBase C hP dd_Model_unreachable_2 ?_
  refine lv_aload_n hx hb dd_Model_unreachable_5 rfl (lv_at hl 0 rfl) ?_
  refine gf_m_Model_0_blocks C hP dd_Model_unreachable_6 ?_
  refine lv_iconst (v := 1) hx hb dd_Model_unreachable_9 (by decide) ?_
  refine lv_isub hx hb dd_Model_unreachable_10 ?_
  obtain ⟨hi, h⟩ := xp_g h
  refine al_m_28 C hP hi dd_Model_unreachable_11 ?_
  refine pf_m_Model_0_high C hP hS dd_Model_unreachable_12 (fun H locs hP hS => ?_)
  obtain ⟨u1, eu1, h⟩ := xp_let h
  rw [← eu1] at hP
  refine lv_aload_n hx hb dd_Model_unreachable_15 rfl (lv_at hl 0 rfl) ?_
  refine gf_m_Model_0_blockDead C hP dd_Model_unreachable_16 ?_
  refine lv_aload_n hx hb dd_Model_unreachable_19 rfl (lv_at hl 0 rfl) ?_
  refine gf_m_Model_0_blocks C hP dd_Model_unreachable_20 ?_
  refine lv_iconst (v := 1) hx hb dd_Model_unreachable_23 (by decide) ?_
  refine lv_isub hx hb dd_Model_unreachable_24 ?_
  refine lv_iconst (v := 1) hx hb dd_Model_unreachable_25 (by decide) ?_
  obtain ⟨hi, h⟩ := xp_g h
  refine as_m_29 C hP hS hi dd_Model_unreachable_26 (fun H locs hP hS => ?_)
  obtain ⟨u2, eu2, h⟩ := xp_let h
  rw [← eu2] at hP
  obtain ⟨rfl, rfl⟩ := xp_r h
  exact xr_vret C hP hS dd_Model_unreachable_27
abbrev rm_Model_isFunctionType : Room := { frames := 1, cells := 1, slots := 6, locals := 0 }
noncomputable def fm_Model_isFunctionType (x0 : Int64) (u : xk_St) : Option (Int32 × xk_St) :=
  if ((u.1 12).toInt64) ≤ x0 then (some ((0 : Int32), u)) else ((if (x0.toInt32) < 0 ∨ 64 ≤ (x0.toInt32).toNatClampNeg then none else if (u.2.2.1 4 (x0.toInt32).toNatClampNeg) = (0 : Int32) then (some ((1 : Int32), u)) else (some ((0 : Int32), u))))
set_option maxHeartbeats 4000000 in
set_option maxRecDepth 100000 in
theorem ct_Model_isFunctionType {l : Launch} {D : va_G} {ad : Nat → Nat} {ca : Nat → ClassId} {ads : List Nat} (htr : l.stackTraces = false) (hok : xk_ok (kw_m ad ca) ads) {x0 : Int64} {u u' : xk_St} {r : Int32} (h : fm_Model_isFunctionType x0 u = some (r, u')) :
    ∀ sz, xk_Met l ⟨"ModuleHouseModel", "isFunctionType", "(J)Z"⟩ (Cond.code ⟨"ModuleHouseModel", "isFunctionType", "(J)Z"⟩ prog_14_method_47_code 3 (some .boolean) :: xk_gd) rm_Model_isFunctionType (xk_Pc D kx_cl (kx_ty ca) (kw_m ad ca) ads xk_F sz [.ref (ad 0), .long x0] u) (xk_Qc D kx_cl (kw_m ad ca) ads (xo_i (.inl r)) u') (xk_A ads sz) := by
  unfold fm_Model_isFunctionType at h
  refine xk_con (by decide) htr hok (Nat.le_of_ble_eq_true rfl) (fun p e s m below meth c ls C hne hl hP => ?_)
  have hx := C.1.1
  have hb := C.1.2.1
  have hS : va_S (xk_A ads s.heap.size) s.heap s.heap [] := va_S.rf
  have hl : lv_has ls 3 [(0, .ref (ad 0)), (1, .long x0)] := hl
  refine lv_lload_n hx hb dd_Model_isFunctionType_0 rfl (lv_at hl 1 rfl) ?_
  refine lv_aload_n hx hb dd_Model_isFunctionType_1 rfl (lv_at hl 0 rfl) ?_
  refine gf_m_Model_0_types C hP dd_Model_isFunctionType_2 ?_
  refine lv_i2l hx hb dd_Model_isFunctionType_5 rfl ?_
  refine xr_lc_ge (tgt := 24) hx hb dd_Model_isFunctionType_6 dd_Model_isFunctionType_7 (by decide) (fun hc => ?_) (fun hc => ?_)
  · have h := xp_t hc h
    refine lv_iconst (v := 0) hx hb dd_Model_isFunctionType_24 (by decide) ?_
    obtain ⟨rfl, rfl⟩ := xp_r h
    exact xr_zret C hP hS (by decide) dd_Model_isFunctionType_25
  · have h := xp_f hc h
    refine lv_aload_n hx hb dd_Model_isFunctionType_10 rfl (lv_at hl 0 rfl) ?_
    refine gf_m_Model_0_kinds C hP dd_Model_isFunctionType_11 ?_
    refine lv_lload_n hx hb dd_Model_isFunctionType_14 rfl (lv_at hl 1 rfl) ?_
    refine lv_l2i hx hb dd_Model_isFunctionType_15 rfl ?_
    obtain ⟨hi, h⟩ := xp_g h
    refine al_m_6 C hP hi dd_Model_isFunctionType_16 ?_
    refine lv_if_ne (tgt := 24) hx hb dd_Model_isFunctionType_17 (by decide) (fun hc => ?_) (fun hc => ?_)
    · have h := xp_f hc h
      refine lv_iconst (v := 0) hx hb dd_Model_isFunctionType_24 (by decide) ?_
      obtain ⟨rfl, rfl⟩ := xp_r h
      exact xr_zret C hP hS (by decide) dd_Model_isFunctionType_25
    · have h := xp_t hc h
      refine lv_iconst (v := 1) hx hb dd_Model_isFunctionType_20 (by decide) ?_
      refine lv_goto (tgt := 25) hx hb dd_Model_isFunctionType_21 (by decide) ?_
      obtain ⟨rfl, rfl⟩ := xp_r h
      exact xr_zret C hP hS (by decide) dd_Model_isFunctionType_25
abbrev rm_Model_isBlockType : Room := { frames := 3, cells := 1, slots := 6, locals := 44 }
noncomputable def jb_Model_isBlockType_31 (u : xk_St) : Option (Int32 × xk_St) :=
  some ((1 : Int32), u)
noncomputable def fm_Model_isBlockType (x0 : Int64) (u : xk_St) : Option (Int32 × xk_St) :=
  if (0 : Int64) ≤ x0 then ((xs_seq (fm_Model_isFunctionType x0 u) fun a1 u2 => if a1 = 0 ∨ a1 = 1 then some (a1, u2) else none)) else (if x0 = (-1 : Int64) then (jb_Model_isBlockType_31 u) else ((xs_seq (fm_Model_isThere (((-2 : Int64) - x0).toInt32) (u.1 12) u) fun a3 u4 => if a3 = (0 : Int32) then (some ((0 : Int32), u4)) else (jb_Model_isBlockType_31 u4))))
set_option maxHeartbeats 4000000 in
set_option maxRecDepth 100000 in
theorem wj_Model_isBlockType_31 {p : Program} {l : Launch} {e : Env} {s : State} {m : MethodId} {args : Array Value} {below : List Frame} {meth : Method} {c : Code} {D : va_G} {ad : Nat → Nat} {ca : Nat → ClassId} {ads : List Nat} (htr : l.stackTraces = false) (C : xk_C D kx_cl (kx_ty ca) (kw_m ad ca) ads "ModuleHouseModel" prog_14_method_74_code 3 (some .boolean) p e s m args meth c) (hne : c.exceptionTable.isEmpty = true) {u' : xk_St} {r : Int32} {u : xk_St} {H : Heap} {locs : List Loc} {ls : Array Slot} (h : jb_Model_isBlockType_31   u = some (r, u')) (hP : va_P D kx_cl (kw_m ad ca u) H) (hS : va_S (xk_A ads s.heap.size) s.heap H locs) (hl : lv_has ls 3 []) : W p l e rm_Model_isBlockType s m args below meth c H locs 0 0 (xk_MQ below (xk_Qc D kx_cl (kw_m ad ca) ads (xo_i (.inl r)) u') args s (xk_A ads s.heap.size)) (F0 m 31 ls []) := by
  have hx := C.1.1
  have hb := C.1.2.1
  have hok := C.2.2.1
  unfold jb_Model_isBlockType_31 at h
  refine lv_iconst (v := 1) hx hb dd_Model_isBlockType_31 (by decide) ?_
  refine lv_goto (tgt := 36) hx hb dd_Model_isBlockType_32 (by decide) ?_
  obtain ⟨rfl, rfl⟩ := xp_r h
  exact xr_zret C hP hS (by decide) dd_Model_isBlockType_36
set_option maxHeartbeats 4000000 in
set_option maxRecDepth 100000 in
theorem ct_Model_isBlockType {l : Launch} {D : va_G} {ad : Nat → Nat} {ca : Nat → ClassId} {ads : List Nat} (htr : l.stackTraces = false) (hok : xk_ok (kw_m ad ca) ads) {x0 : Int64} {u u' : xk_St} {r : Int32} (h : fm_Model_isBlockType x0 u = some (r, u')) :
    ∀ sz, xk_Met l ⟨"ModuleHouseModel", "isBlockType", "(J)Z"⟩ (Cond.code ⟨"ModuleHouseModel", "isBlockType", "(J)Z"⟩ prog_14_method_74_code 3 (some .boolean) :: xk_gd) rm_Model_isBlockType (xk_Pc D kx_cl (kx_ty ca) (kw_m ad ca) ads xk_F sz [.ref (ad 0), .long x0] u) (xk_Qc D kx_cl (kw_m ad ca) ads (xo_i (.inl r)) u') (xk_A ads sz) := by
  unfold fm_Model_isBlockType at h
  refine xk_con (by decide) htr hok (Nat.le_of_ble_eq_true rfl) (fun p e s m below meth c ls C hne hl hP => ?_)
  have hx := C.1.1
  have hb := C.1.2.1
  have hS : va_S (xk_A ads s.heap.size) s.heap s.heap [] := va_S.rf
  have hl : lv_has ls 3 [(0, .ref (ad 0)), (1, .long x0)] := hl
  refine lv_lload_n hx hb dd_Model_isBlockType_0 rfl (lv_at hl 1 rfl) ?_
  refine lv_lconst (v := 0) hx hb dd_Model_isBlockType_1 (by decide) ?_
  refine xr_lc_ge (tgt := 37) hx hb dd_Model_isBlockType_2 dd_Model_isBlockType_3 (by decide) (fun hc => ?_) (fun hc => ?_)
  · have h := xp_t hc h
    refine lv_aload_n hx hb dd_Model_isBlockType_37 rfl (lv_at hl 0 rfl) ?_
    refine lv_lload_n hx hb dd_Model_isBlockType_38 rfl (lv_at hl 1 rfl) ?_
    obtain ⟨a1, u2, hq, h⟩ := xp_seq h
    refine xk_goesI (xr_V (As := [.long x0]) (rest := []) C hP hS (ct_Model_isFunctionType htr hok hq) kq_Model_426 0 11 rfl rfl ⟨rfl, rfl, Nat.le_of_ble_eq_true rfl, Nat.le_of_ble_eq_true rfl⟩ ⟨Nat.le_of_ble_eq_true rfl, Nat.le_of_ble_eq_true rfl⟩ hl.1 rfl rfl (Nat.le_of_ble_eq_true rfl) dd_Model_isBlockType_39) hS (fun H locs hP hS => ?_)
    clear hq
    obtain ⟨hz, h⟩ := xp_p h
    obtain ⟨rfl, rfl⟩ := xp_r h
    exact xr_zret C hP hS hz dd_Model_isBlockType_42
  · have h := xp_f hc h
    refine lv_lload_n hx hb dd_Model_isBlockType_6 rfl (lv_at hl 1 rfl) ?_
    refine lv_ldc2 (v := (-1)) hx hb C.1.2.2.2.1 (C.1.2.2.2.2 _ (xk_c9 (w := Jvm.Cond.constantLong "ModuleHouseModel" 184 (-1)) 138 rfl rfl)) dd_Model_isBlockType_7 ?_
    refine xr_lc_eq (tgt := 31) hx hb dd_Model_isBlockType_10 dd_Model_isBlockType_11 (by decide) (fun hc => ?_) (fun hc => ?_)
    · have h := xp_t hc h
      exact wj_Model_isBlockType_31 htr C hne h hP hS (lv_sub hl [] rfl)
    · have h := xp_f hc h
      refine lv_aload_n hx hb dd_Model_isBlockType_14 rfl (lv_at hl 0 rfl) ?_
      refine lv_ldc2 (v := (-2)) hx hb C.1.2.2.2.1 (C.1.2.2.2.2 _ (xk_c9 (w := Jvm.Cond.constantLong "ModuleHouseModel" 213 (-2)) 206 rfl rfl)) dd_Model_isBlockType_15 ?_
      refine lv_lload_n hx hb dd_Model_isBlockType_18 rfl (lv_at hl 1 rfl) ?_
      refine lv_lsub hx hb dd_Model_isBlockType_19 ?_
      refine lv_l2i hx hb dd_Model_isBlockType_20 rfl ?_
      refine lv_aload_n hx hb dd_Model_isBlockType_21 rfl (lv_at hl 0 rfl) ?_
      refine gf_m_Model_0_types C hP dd_Model_isBlockType_22 ?_
      obtain ⟨a3, u4, hq, h⟩ := xp_seq h
      refine xk_goesI (xr_V (As := [.int (((-2 : Int64) - x0).toInt32), .int (u.1 12)]) (rest := []) C hP hS (ct_Model_isThere htr hok hq) kq_Model_404 0 11 rfl rfl ⟨rfl, rfl, Nat.le_of_ble_eq_true rfl, Nat.le_of_ble_eq_true rfl⟩ ⟨Nat.le_of_ble_eq_true rfl, Nat.le_of_ble_eq_true rfl⟩ hl.1 rfl rfl (Nat.le_of_ble_eq_true rfl) dd_Model_isBlockType_25) hS (fun H locs hP hS => ?_)
      clear hq
      refine lv_if_eq (tgt := 35) hx hb dd_Model_isBlockType_28 (by decide) (fun hc => ?_) (fun hc => ?_)
      · have h := xp_t hc h
        refine lv_iconst (v := 0) hx hb dd_Model_isBlockType_35 (by decide) ?_
        obtain ⟨rfl, rfl⟩ := xp_r h
        exact xr_zret C hP hS (by decide) dd_Model_isBlockType_36
      · have h := xp_f hc h
        exact wj_Model_isBlockType_31 htr C hne h hP hS (lv_sub hl [] rfl)
abbrev rm_Model_checkBlock : Room := { frames := 5, cells := 1, slots := 6, locals := 89 }
noncomputable def jb_Model_checkBlock_30 (fu : Nat) (u : xk_St) : Option (Unit × xk_St) :=
  (xs_seq (fm_Model_takeAll fu (u.2.1 0) (0 : Int32) u) fun _ u3 => xs_seq (fm_Model_open (u3.1 8) (u3.2.1 0) u3) fun _ u4 => xs_seq (fm_Model_bring fu (u4.2.1 0) (0 : Int32) u4) fun _ u5 => if (u5.1 23) < 0 ∨ 8192 ≤ (u5.1 23).toNatClampNeg then none else xs_let (xs_A u5 20 (u5.1 23).toNatClampNeg (0 : Int32)) fun u6 => if (u6.1 23) < 0 ∨ 8192 ≤ (u6.1 23).toNatClampNeg then none else xs_let (xs_A u6 21 (u6.1 23).toNatClampNeg (0 : Int32)) fun u7 => some ((()), u7))
noncomputable def fm_Model_checkBlock (fu : Nat) (u : xk_St) : Option (Unit × xk_St) :=
  (xs_seq (fm_Model_isBlockType (u.2.1 0) u) fun a1 u2 => if a1 = (0 : Int32) then ((xs_let (xs_I u2 7 (1 : Int32)) fun u9 => some ((()), u9))) else (if (u2.1 8) = (4 : Int32) then ((xs_seq (fm_Model_take (1 : Int32) u2) fun _ u8 => jb_Model_checkBlock_30 fu u8)) else (jb_Model_checkBlock_30 fu u2)))
set_option maxHeartbeats 4000000 in
set_option maxRecDepth 100000 in
theorem wj_Model_checkBlock_30 {p : Program} {l : Launch} {e : Env} {s : State} {m : MethodId} {args : Array Value} {below : List Frame} {meth : Method} {c : Code} {D : va_G} {ad : Nat → Nat} {ca : Nat → ClassId} {ads : List Nat} {fu : Nat} (htr : l.stackTraces = false) (C : xk_C D kx_cl (kx_ty ca) (kw_m ad ca) ads "ModuleHouseModel" prog_14_method_75_code 1 none p e s m args meth c) (hne : c.exceptionTable.isEmpty = true) {u' : xk_St} {r : Unit} {u : xk_St} {H : Heap} {locs : List Loc} {ls : Array Slot} (h : jb_Model_checkBlock_30 fu   u = some (r, u')) (hP : va_P D kx_cl (kw_m ad ca u) H) (hS : va_S (xk_A ads s.heap.size) s.heap H locs) (hl : lv_has ls 1 [(0, .ref (ad 0))]) : W p l e rm_Model_checkBlock s m args below meth c H locs 0 0 (xk_MQ below (xk_Qc D kx_cl (kw_m ad ca) ads (xo_v (.inl r)) u') args s (xk_A ads s.heap.size)) (F0 m 30 ls []) := by
  have hx := C.1.1
  have hb := C.1.2.1
  have hok := C.2.2.1
  unfold jb_Model_checkBlock_30 at h
  refine lv_aload_n hx hb dd_Model_checkBlock_30 rfl (lv_at hl 0 rfl) ?_
  refine lv_aload_n hx hb dd_Model_checkBlock_31 rfl (lv_at hl 0 rfl) ?_
  refine gf_m_Model_0_x C hP dd_Model_checkBlock_32 ?_
  refine lv_iconst (v := 0) hx hb dd_Model_checkBlock_35 (by decide) ?_
  obtain ⟨rx, u3, hq, h⟩ := xp_seq h
  refine xk_goesV (xr_V (As := [.long (u.2.1 0), .int (0 : Int32)]) (rest := []) C hP hS (ct_Model_takeAll htr hok hq) kq_Model_516 0 11 rfl rfl ⟨rfl, rfl, Nat.le_of_ble_eq_true rfl, Nat.le_of_ble_eq_true rfl⟩ ⟨Nat.le_of_ble_eq_true rfl, Nat.le_of_ble_eq_true rfl⟩ hl.1 rfl rfl (Nat.le_of_ble_eq_true rfl) dd_Model_checkBlock_36) hS (fun H locs hP hS => ?_)
  clear hq
  refine lv_aload_n hx hb dd_Model_checkBlock_39 rfl (lv_at hl 0 rfl) ?_
  refine lv_aload_n hx hb dd_Model_checkBlock_40 rfl (lv_at hl 0 rfl) ?_
  refine gf_m_Model_0_op C hP dd_Model_checkBlock_41 ?_
  refine lv_aload_n hx hb dd_Model_checkBlock_44 rfl (lv_at hl 0 rfl) ?_
  refine gf_m_Model_0_x C hP dd_Model_checkBlock_45 ?_
  obtain ⟨rx, u4, hq, h⟩ := xp_seq h
  refine xk_goesV (xr_V (As := [.int (u3.1 8), .long (u3.2.1 0)]) (rest := []) C hP hS (ct_Model_open htr hok hq) kq_Model_523 0 11 rfl rfl ⟨rfl, rfl, Nat.le_of_ble_eq_true rfl, Nat.le_of_ble_eq_true rfl⟩ ⟨Nat.le_of_ble_eq_true rfl, Nat.le_of_ble_eq_true rfl⟩ hl.1 rfl rfl (Nat.le_of_ble_eq_true rfl) dd_Model_checkBlock_48) hS (fun H locs hP hS => ?_)
  clear hq
  refine lv_aload_n hx hb dd_Model_checkBlock_51 rfl (lv_at hl 0 rfl) ?_
  refine lv_aload_n hx hb dd_Model_checkBlock_52 rfl (lv_at hl 0 rfl) ?_
  refine gf_m_Model_0_x C hP dd_Model_checkBlock_53 ?_
  refine lv_iconst (v := 0) hx hb dd_Model_checkBlock_56 (by decide) ?_
  obtain ⟨rx, u5, hq, h⟩ := xp_seq h
  refine xk_goesV (xr_V (As := [.long (u4.2.1 0), .int (0 : Int32)]) (rest := []) C hP hS (ct_Model_bring htr hok hq) kq_Model_520 0 11 rfl rfl ⟨rfl, rfl, Nat.le_of_ble_eq_true rfl, Nat.le_of_ble_eq_true rfl⟩ ⟨Nat.le_of_ble_eq_true rfl, Nat.le_of_ble_eq_true rfl⟩ hl.1 rfl rfl (Nat.le_of_ble_eq_true rfl) dd_Model_checkBlock_57) hS (fun H locs hP hS => ?_)
  clear hq
  refine lv_aload_n hx hb dd_Model_checkBlock_60 rfl (lv_at hl 0 rfl) ?_
  refine gf_m_Model_0_ends C hP dd_Model_checkBlock_61 ?_
  refine lv_aload_n hx hb dd_Model_checkBlock_64 rfl (lv_at hl 0 rfl) ?_
  refine gf_m_Model_0_here C hP dd_Model_checkBlock_65 ?_
  refine lv_iconst (v := 0) hx hb dd_Model_checkBlock_68 (by decide) ?_
  obtain ⟨hi, h⟩ := xp_g h
  refine as_m_22 C hP hS hi dd_Model_checkBlock_69 (fun H locs hP hS => ?_)
  obtain ⟨u6, eu6, h⟩ := xp_let h
  rw [← eu6] at hP
  refine lv_aload_n hx hb dd_Model_checkBlock_70 rfl (lv_at hl 0 rfl) ?_
  refine gf_m_Model_0_elses C hP dd_Model_checkBlock_71 ?_
  refine lv_aload_n hx hb dd_Model_checkBlock_74 rfl (lv_at hl 0 rfl) ?_
  refine gf_m_Model_0_here C hP dd_Model_checkBlock_75 ?_
  refine lv_iconst (v := 0) hx hb dd_Model_checkBlock_78 (by decide) ?_
  obtain ⟨hi, h⟩ := xp_g h
  refine as_m_23 C hP hS hi dd_Model_checkBlock_79 (fun H locs hP hS => ?_)
  obtain ⟨u7, eu7, h⟩ := xp_let h
  rw [← eu7] at hP
  obtain ⟨rfl, rfl⟩ := xp_r h
  exact xr_vret C hP hS dd_Model_checkBlock_80
set_option maxHeartbeats 4000000 in
set_option maxRecDepth 100000 in
theorem ct_Model_checkBlock {l : Launch} {D : va_G} {ad : Nat → Nat} {ca : Nat → ClassId} {ads : List Nat} (htr : l.stackTraces = false) (hok : xk_ok (kw_m ad ca) ads) {fu : Nat} {u u' : xk_St} {r : Unit} (h : fm_Model_checkBlock fu u = some (r, u')) :
    ∀ sz, xk_Met l ⟨"ModuleHouseModel", "checkBlock", "()V"⟩ (Cond.code ⟨"ModuleHouseModel", "checkBlock", "()V"⟩ prog_14_method_75_code 1 none :: xk_gd) rm_Model_checkBlock (xk_Pc D kx_cl (kx_ty ca) (kw_m ad ca) ads xk_F sz [.ref (ad 0)] u) (xk_Qc D kx_cl (kw_m ad ca) ads (xo_v (.inl r)) u') (xk_A ads sz) := by
  unfold fm_Model_checkBlock at h
  refine xk_con (by decide) htr hok (Nat.le_of_ble_eq_true rfl) (fun p e s m below meth c ls C hne hl hP => ?_)
  have hx := C.1.1
  have hb := C.1.2.1
  have hS : va_S (xk_A ads s.heap.size) s.heap s.heap [] := va_S.rf
  have hl : lv_has ls 1 [(0, .ref (ad 0))] := hl
  refine lv_aload_n hx hb dd_Model_checkBlock_0 rfl (lv_at hl 0 rfl) ?_
  refine lv_aload_n hx hb dd_Model_checkBlock_1 rfl (lv_at hl 0 rfl) ?_
  refine gf_m_Model_0_x C hP dd_Model_checkBlock_2 ?_
  obtain ⟨a1, u2, hq, h⟩ := xp_seq h
  refine xk_goesI (xr_V (As := [.long (u.2.1 0)]) (rest := []) C hP hS (ct_Model_isBlockType htr hok hq) kq_Model_545 0 11 rfl rfl ⟨rfl, rfl, Nat.le_of_ble_eq_true rfl, Nat.le_of_ble_eq_true rfl⟩ ⟨Nat.le_of_ble_eq_true rfl, Nat.le_of_ble_eq_true rfl⟩ hl.1 rfl rfl (Nat.le_of_ble_eq_true rfl) dd_Model_checkBlock_5) hS (fun H locs hP hS => ?_)
  clear hq
  refine lv_if_ne (tgt := 17) hx hb dd_Model_checkBlock_8 (by decide) (fun hc => ?_) (fun hc => ?_)
  · have h := xp_f hc h
    refine lv_aload_n hx hb dd_Model_checkBlock_17 rfl (lv_at hl 0 rfl) ?_
    refine gf_m_Model_0_op C hP dd_Model_checkBlock_18 ?_
    refine lv_iconst (v := 4) hx hb dd_Model_checkBlock_21 (by decide) ?_
    refine lv_icmp_ne (tgt := 30) hx hb dd_Model_checkBlock_22 (by decide) (fun hc => ?_) (fun hc => ?_)
    · have h := xp_f hc h
      exact wj_Model_checkBlock_30 htr C hne h hP hS (lv_sub hl [0] rfl)
    · have h := xp_t hc h
      refine lv_aload_n hx hb dd_Model_checkBlock_25 rfl (lv_at hl 0 rfl) ?_
      refine lv_iconst (v := 1) hx hb dd_Model_checkBlock_26 (by decide) ?_
      obtain ⟨rx, u8, hq, h⟩ := xp_seq h
      refine xk_goesV (xr_V (As := [.int (1 : Int32)]) (rest := []) C hP hS (ct_Model_take htr hok hq) kq_Model_504 0 11 rfl rfl ⟨rfl, rfl, Nat.le_of_ble_eq_true rfl, Nat.le_of_ble_eq_true rfl⟩ ⟨Nat.le_of_ble_eq_true rfl, Nat.le_of_ble_eq_true rfl⟩ hl.1 rfl rfl (Nat.le_of_ble_eq_true rfl) dd_Model_checkBlock_27) hS (fun H locs hP hS => ?_)
      clear hq
      exact wj_Model_checkBlock_30 htr C hne h hP hS (lv_sub hl [0] rfl)
  · have h := xp_t hc h
    refine lv_aload_n hx hb dd_Model_checkBlock_11 rfl (lv_at hl 0 rfl) ?_
    refine lv_iconst (v := 1) hx hb dd_Model_checkBlock_12 (by decide) ?_
    refine pf_m_Model_0_wrong C hP hS (by decide) dd_Model_checkBlock_13 (fun H locs hP hS => ?_)
    obtain ⟨u9, eu9, h⟩ := xp_let h
    rw [← eu9] at hP
    obtain ⟨rfl, rfl⟩ := xp_r h
    exact xr_vret C hP hS dd_Model_checkBlock_16
abbrev rm_Model_isOver : Room := { frames := 5, cells := 1, slots := 6, locals := 89 }
noncomputable def jb_Model_isOver_39 (fu : Nat) (u : xk_St) : Option (Unit × xk_St) :=
  (xs_let (xs_I u 7 (1 : Int32)) fun u3 => some ((()), u3))
noncomputable def fm_Model_isOver (fu : Nat) (u : xk_St) : Option (Unit × xk_St) :=
  (xs_let ((u.1 22) - (1 : Int32)) fun a1 => if a1 < 0 ∨ 101 ≤ a1.toNatClampNeg then none else xs_seq (fm_Model_takeAll fu (u.2.2.2 1 a1.toNatClampNeg) (1 : Int32) u) fun _ u2 => if (u2.1 7) = (0 : Int32) then ((if a1 < 0 ∨ 101 ≤ a1.toNatClampNeg then none else if (u2.1 21) = (u2.2.2.1 25 a1.toNatClampNeg) then ((xs_let (xs_I u2 7 (0 : Int32)) fun u4 => some ((()), u4))) else (jb_Model_isOver_39 fu u2))) else (jb_Model_isOver_39 fu u2))
set_option maxHeartbeats 4000000 in
set_option maxRecDepth 100000 in
theorem wj_Model_isOver_39 {p : Program} {l : Launch} {e : Env} {s : State} {m : MethodId} {args : Array Value} {below : List Frame} {meth : Method} {c : Code} {D : va_G} {ad : Nat → Nat} {ca : Nat → ClassId} {ads : List Nat} {fu : Nat} (htr : l.stackTraces = false) (C : xk_C D kx_cl (kx_ty ca) (kw_m ad ca) ads "ModuleHouseModel" prog_14_method_76_code 2 none p e s m args meth c) (hne : c.exceptionTable.isEmpty = true) {u' : xk_St} {r : Unit} {u : xk_St} {H : Heap} {locs : List Loc} {ls : Array Slot} (h : jb_Model_isOver_39 fu   u = some (r, u')) (hP : va_P D kx_cl (kw_m ad ca u) H) (hS : va_S (xk_A ads s.heap.size) s.heap H locs) (hl : lv_has ls 2 []) : W p l e rm_Model_isOver s m args below meth c H locs 0 0 (xk_MQ below (xk_Qc D kx_cl (kw_m ad ca) ads (xo_v (.inl r)) u') args s (xk_A ads s.heap.size)) (F0 m 39 ls [.ref (ad 0)]) := by
  have hx := C.1.1
  have hb := C.1.2.1
  have hok := C.2.2.1
  unfold jb_Model_isOver_39 at h
  refine lv_iconst (v := 1) hx hb dd_Model_isOver_39 (by decide) ?_
  refine lv_goto (tgt := 44) hx hb dd_Model_isOver_40 (by decide) ?_
  refine pf_m_Model_0_wrong C hP hS (by decide) dd_Model_isOver_44 (fun H locs hP hS => ?_)
  obtain ⟨u3, eu3, h⟩ := xp_let h
  rw [← eu3] at hP
  obtain ⟨rfl, rfl⟩ := xp_r h
  exact xr_vret C hP hS dd_Model_isOver_47
set_option maxHeartbeats 4000000 in
set_option maxRecDepth 100000 in
theorem ct_Model_isOver {l : Launch} {D : va_G} {ad : Nat → Nat} {ca : Nat → ClassId} {ads : List Nat} (htr : l.stackTraces = false) (hok : xk_ok (kw_m ad ca) ads) {fu : Nat} {u u' : xk_St} {r : Unit} (h : fm_Model_isOver fu u = some (r, u')) :
    ∀ sz, xk_Met l ⟨"ModuleHouseModel", "isOver", "()V"⟩ (Cond.code ⟨"ModuleHouseModel", "isOver", "()V"⟩ prog_14_method_76_code 2 none :: xk_gd) rm_Model_isOver (xk_Pc D kx_cl (kx_ty ca) (kw_m ad ca) ads xk_F sz [.ref (ad 0)] u) (xk_Qc D kx_cl (kw_m ad ca) ads (xo_v (.inl r)) u') (xk_A ads sz) := by
  unfold fm_Model_isOver at h
  refine xk_con (by decide) htr hok (Nat.le_of_ble_eq_true rfl) (fun p e s m below meth c ls C hne hl hP => ?_)
  have hx := C.1.1
  have hb := C.1.2.1
  have hS : va_S (xk_A ads s.heap.size) s.heap s.heap [] := va_S.rf
  have hl : lv_has ls 2 [(0, .ref (ad 0))] := hl
  refine lv_aload_n hx hb dd_Model_isOver_0 rfl (lv_at hl 0 rfl) ?_
  refine gf_m_Model_0_blocks C hP dd_Model_isOver_1 ?_
  refine lv_iconst (v := 1) hx hb dd_Model_isOver_4 (by decide) ?_
  refine lv_isub hx hb dd_Model_isOver_5 ?_
  obtain ⟨a1, ea1, h⟩ := xp_let h
  refine xr_nami ea1 ?_
  refine lv_istore_n (lv' := [(1, .int a1), (0, .ref (ad 0))]) hx hb dd_Model_isOver_6 rfl hl (by decide) rfl (fun ls hl => ?_)
  refine lv_aload_n hx hb dd_Model_isOver_7 rfl (lv_at hl 1 rfl) ?_
  refine lv_aload_n hx hb dd_Model_isOver_8 rfl (lv_at hl 1 rfl) ?_
  refine gf_m_Model_0_blockType C hP dd_Model_isOver_9 ?_
  refine lv_iload_n hx hb dd_Model_isOver_12 rfl (lv_at hl 0 rfl) ?_
  obtain ⟨hi, h⟩ := xp_g h
  refine al_m_27 C hP hi dd_Model_isOver_13 ?_
  refine lv_iconst (v := 1) hx hb dd_Model_isOver_14 (by decide) ?_
  obtain ⟨rx, u2, hq, h⟩ := xp_seq h
  refine xk_goesV (xr_V (As := [.long (u.2.2.2 1 a1.toNatClampNeg), .int (1 : Int32)]) (rest := []) C hP hS (ct_Model_takeAll htr hok hq) kq_Model_516 0 11 rfl rfl ⟨rfl, rfl, Nat.le_of_ble_eq_true rfl, Nat.le_of_ble_eq_true rfl⟩ ⟨Nat.le_of_ble_eq_true rfl, Nat.le_of_ble_eq_true rfl⟩ hl.1 rfl rfl (Nat.le_of_ble_eq_true rfl) dd_Model_isOver_15) hS (fun H locs hP hS => ?_)
  clear hq
  refine lv_aload_n hx hb dd_Model_isOver_18 rfl (lv_at hl 1 rfl) ?_
  refine lv_aload_n hx hb dd_Model_isOver_19 rfl (lv_at hl 1 rfl) ?_
  refine gf_m_Model_0_wrong C hP dd_Model_isOver_20 ?_
  refine lv_if_ne (tgt := 39) hx hb dd_Model_isOver_23 (by decide) (fun hc => ?_) (fun hc => ?_)
  · have h := xp_f hc h
    exact wj_Model_isOver_39 htr C hne h hP hS (lv_sub hl [] rfl)
  · have h := xp_t hc h
    refine lv_aload_n hx hb dd_Model_isOver_26 rfl (lv_at hl 1 rfl) ?_
    refine gf_m_Model_0_high C hP dd_Model_isOver_27 ?_
    refine lv_aload_n hx hb dd_Model_isOver_30 rfl (lv_at hl 1 rfl) ?_
    refine gf_m_Model_0_blockBase C hP dd_Model_isOver_31 ?_
    refine lv_iload_n hx hb dd_Model_isOver_34 rfl (lv_at hl 0 rfl) ?_
    obtain ⟨hi, h⟩ := xp_g h
    refine al_m_28 C hP hi dd_Model_isOver_35 ?_
    refine lv_icmp_eq (tgt := 43) hx hb dd_Model_isOver_36 (by decide) (fun hc => ?_) (fun hc => ?_)
    · have h := xp_t hc h
      refine lv_iconst (v := 0) hx hb dd_Model_isOver_43 (by decide) ?_
      refine pf_m_Model_0_wrong C hP hS (by decide) dd_Model_isOver_44 (fun H locs hP hS => ?_)
      obtain ⟨u4, eu4, h⟩ := xp_let h
      rw [← eu4] at hP
      obtain ⟨rfl, rfl⟩ := xp_r h
      exact xr_vret C hP hS dd_Model_isOver_47
    · have h := xp_f hc h
      exact wj_Model_isOver_39 htr C hne h hP hS (lv_sub hl [] rfl)
abbrev rm_Model_checkElse : Room := { frames := 6, cells := 1, slots := 6, locals := 110 }
noncomputable def fm_Model_checkElse (fu : Nat) (u : xk_St) : Option (Unit × xk_St) :=
  (xs_seq (fm_Model_isOver fu u) fun _ u1 => xs_let ((u1.1 22) - (1 : Int32)) fun a2 => if a2 < 0 ∨ 101 ≤ a2.toNatClampNeg then none else xs_let (xs_A u1 24 a2.toNatClampNeg (5 : Int32)) fun u3 => if a2 < 0 ∨ 101 ≤ a2.toNatClampNeg then none else xs_let (xs_A u3 26 a2.toNatClampNeg (vp_nar .boolean (0 : Int32))) fun u4 => if a2 < 0 ∨ 101 ≤ a2.toNatClampNeg then none else if (u4.2.2.1 23 a2.toNatClampNeg) < 0 ∨ 8192 ≤ (u4.2.2.1 23 a2.toNatClampNeg).toNatClampNeg then none else xs_let (xs_A u4 21 (u4.2.2.1 23 a2.toNatClampNeg).toNatClampNeg (u4.1 4)) fun u5 => if a2 < 0 ∨ 101 ≤ a2.toNatClampNeg then none else xs_seq (fm_Model_bring fu (u5.2.2.2 1 a2.toNatClampNeg) (0 : Int32) u5) fun _ u6 => some ((()), u6))
set_option maxHeartbeats 4000000 in
set_option maxRecDepth 100000 in
theorem ct_Model_checkElse {l : Launch} {D : va_G} {ad : Nat → Nat} {ca : Nat → ClassId} {ads : List Nat} (htr : l.stackTraces = false) (hok : xk_ok (kw_m ad ca) ads) {fu : Nat} {u u' : xk_St} {r : Unit} (h : fm_Model_checkElse fu u = some (r, u')) :
    ∀ sz, xk_Met l ⟨"ModuleHouseModel", "checkElse", "()V"⟩ (Cond.code ⟨"ModuleHouseModel", "checkElse", "()V"⟩ prog_14_method_77_code 2 none :: xk_gd) rm_Model_checkElse (xk_Pc D kx_cl (kx_ty ca) (kw_m ad ca) ads xk_F sz [.ref (ad 0)] u) (xk_Qc D kx_cl (kw_m ad ca) ads (xo_v (.inl r)) u') (xk_A ads sz) := by
  unfold fm_Model_checkElse at h
  refine xk_con (by decide) htr hok (Nat.le_of_ble_eq_true rfl) (fun p e s m below meth c ls C hne hl hP => ?_)
  have hx := C.1.1
  have hb := C.1.2.1
  have hS : va_S (xk_A ads s.heap.size) s.heap s.heap [] := va_S.rf
  have hl : lv_has ls 2 [(0, .ref (ad 0))] := hl
  refine lv_aload_n hx hb dd_Model_checkElse_0 rfl (lv_at hl 0 rfl) ?_
  obtain ⟨rx, u1, hq, h⟩ := xp_seq h
  refine xk_goesV (xr_V (As := []) (rest := []) C hP hS (ct_Model_isOver htr hok hq) kq_Model_548 0 11 rfl rfl ⟨rfl, rfl, Nat.le_of_ble_eq_true rfl, Nat.le_of_ble_eq_true rfl⟩ ⟨Nat.le_of_ble_eq_true rfl, Nat.le_of_ble_eq_true rfl⟩ hl.1 rfl rfl (Nat.le_of_ble_eq_true rfl) dd_Model_checkElse_1) hS (fun H locs hP hS => ?_)
  clear hq
  refine lv_aload_n hx hb dd_Model_checkElse_4 rfl (lv_at hl 0 rfl) ?_
  refine gf_m_Model_0_blocks C hP dd_Model_checkElse_5 ?_
  refine lv_iconst (v := 1) hx hb dd_Model_checkElse_8 (by decide) ?_
  refine lv_isub hx hb dd_Model_checkElse_9 ?_
  obtain ⟨a2, ea2, h⟩ := xp_let h
  refine xr_nami ea2 ?_
  refine lv_istore_n (lv' := [(1, .int a2), (0, .ref (ad 0))]) hx hb dd_Model_checkElse_10 rfl hl (by decide) rfl (fun ls hl => ?_)
  refine lv_aload_n hx hb dd_Model_checkElse_11 rfl (lv_at hl 1 rfl) ?_
  refine gf_m_Model_0_blockOp C hP dd_Model_checkElse_12 ?_
  refine lv_iload_n hx hb dd_Model_checkElse_15 rfl (lv_at hl 0 rfl) ?_
  refine lv_iconst (v := 5) hx hb dd_Model_checkElse_16 (by decide) ?_
  obtain ⟨hi, h⟩ := xp_g h
  refine as_m_26 C hP hS hi dd_Model_checkElse_17 (fun H locs hP hS => ?_)
  obtain ⟨u3, eu3, h⟩ := xp_let h
  rw [← eu3] at hP
  refine lv_aload_n hx hb dd_Model_checkElse_18 rfl (lv_at hl 1 rfl) ?_
  refine gf_m_Model_0_blockDead C hP dd_Model_checkElse_19 ?_
  refine lv_iload_n hx hb dd_Model_checkElse_22 rfl (lv_at hl 0 rfl) ?_
  refine lv_iconst (v := 0) hx hb dd_Model_checkElse_23 (by decide) ?_
  obtain ⟨hi, h⟩ := xp_g h
  refine as_m_29 C hP hS hi dd_Model_checkElse_24 (fun H locs hP hS => ?_)
  obtain ⟨u4, eu4, h⟩ := xp_let h
  rw [← eu4] at hP
  refine lv_aload_n hx hb dd_Model_checkElse_25 rfl (lv_at hl 1 rfl) ?_
  refine gf_m_Model_0_elses C hP dd_Model_checkElse_26 ?_
  refine lv_aload_n hx hb dd_Model_checkElse_29 rfl (lv_at hl 1 rfl) ?_
  refine gf_m_Model_0_blockAt C hP dd_Model_checkElse_30 ?_
  refine lv_iload_n hx hb dd_Model_checkElse_33 rfl (lv_at hl 0 rfl) ?_
  obtain ⟨hi, h⟩ := xp_g h
  refine al_m_25 C hP hi dd_Model_checkElse_34 ?_
  refine lv_aload_n hx hb dd_Model_checkElse_35 rfl (lv_at hl 1 rfl) ?_
  refine gf_m_Model_0_at C hP dd_Model_checkElse_36 ?_
  obtain ⟨hi, h⟩ := xp_g h
  refine as_m_23 C hP hS hi dd_Model_checkElse_39 (fun H locs hP hS => ?_)
  obtain ⟨u5, eu5, h⟩ := xp_let h
  rw [← eu5] at hP
  refine lv_aload_n hx hb dd_Model_checkElse_40 rfl (lv_at hl 1 rfl) ?_
  refine lv_aload_n hx hb dd_Model_checkElse_41 rfl (lv_at hl 1 rfl) ?_
  refine gf_m_Model_0_blockType C hP dd_Model_checkElse_42 ?_
  refine lv_iload_n hx hb dd_Model_checkElse_45 rfl (lv_at hl 0 rfl) ?_
  obtain ⟨hi, h⟩ := xp_g h
  refine al_m_27 C hP hi dd_Model_checkElse_46 ?_
  refine lv_iconst (v := 0) hx hb dd_Model_checkElse_47 (by decide) ?_
  obtain ⟨rx, u6, hq, h⟩ := xp_seq h
  refine xk_goesV (xr_V (As := [.long (u5.2.2.2 1 a2.toNatClampNeg), .int (0 : Int32)]) (rest := []) C hP hS (ct_Model_bring htr hok hq) kq_Model_520 0 11 rfl rfl ⟨rfl, rfl, Nat.le_of_ble_eq_true rfl, Nat.le_of_ble_eq_true rfl⟩ ⟨Nat.le_of_ble_eq_true rfl, Nat.le_of_ble_eq_true rfl⟩ hl.1 rfl rfl (Nat.le_of_ble_eq_true rfl) dd_Model_checkElse_48) hS (fun H locs hP hS => ?_)
  clear hq
  obtain ⟨rfl, rfl⟩ := xp_r h
  exact xr_vret C hP hS dd_Model_checkElse_51
