abbrev rm_Model_instruction : Room := { frames := 7, cells := 1, slots := 6, locals := 133 }
noncomputable def jb_Model_instruction_142 (fu : Nat) (u : xk_St) : Option (Unit × xk_St) :=
  (xs_seq (fm_Model_number fu u) fun a11 u12 => xs_let (xs_J u12 0 a11) fun u13 => some ((()), u13))
noncomputable def jb_Model_instruction_195 (fu : Nat) (u : xk_St) : Option (Unit × xk_St) :=
  (xs_seq (fm_Model_pair fu u) fun _ u16 => some ((()), u16))
noncomputable def jb_Model_instruction_220 (fu : Nat) (u : xk_St) : Option (Unit × xk_St) :=
  (xs_seq (fm_Model_needs (0 : Int32) u) fun _ u19 => some ((()), u19))
noncomputable def jb_Model_instruction_264 (fu : Nat) (s0 : Int32) (u : xk_St) : Option (Unit × xk_St) :=
  (xs_seq (fm_Model_signed fu s0 u) fun a20 u21 => xs_let (xs_J u21 0 a20) fun u22 => some ((()), u22))
noncomputable def jb_Model_instruction_246 (fu : Nat) (u : xk_St) : Option (Unit × xk_St) :=
  if (u.1 8) = (65 : Int32) then (jb_Model_instruction_264 fu (32 : Int32) u) else (jb_Model_instruction_264 fu (64 : Int32) u)
noncomputable def fm_Model_instruction (fu : Nat) (u : xk_St) : Option (Unit × xk_St) :=
  (xs_seq (fm_Model_one u) fun a1 u2 => xs_let (xs_I u2 8 a1) fun u3 => xs_let (xs_I u3 9 (0 : Int32)) fun u4 => xs_let (xs_J u4 0 (0 : Int64)) fun u5 => xs_let (xs_J u5 1 (0 : Int64)) fun u6 => if (u6.1 6) = (0 : Int32) then ((xs_seq (fm_Model_isRefused (u6.1 8) u6) fun a7 u8 => if a7 = (0 : Int32) then ((xs_seq (fm_Model_in ((u8.1 8).toInt64) (2 : Int64) (4 : Int64) u8) fun a9 u10 => if a9 = (0 : Int32) then (if (u10.1 8) = (12 : Int32) then (jb_Model_instruction_142 fu u10) else (if (u10.1 8) = (13 : Int32) then (jb_Model_instruction_142 fu u10) else (if (u10.1 8) = (16 : Int32) then (jb_Model_instruction_142 fu u10) else ((xs_seq (fm_Model_in ((u10.1 8).toInt64) (32 : Int64) (36 : Int64) u10) fun a14 u15 => if a14 = (0 : Int32) then (if (u15.1 8) = (213 : Int32) then (jb_Model_instruction_142 fu u15) else (if (u15.1 8) = (214 : Int32) then (jb_Model_instruction_142 fu u15) else (if (u15.1 8) = (14 : Int32) then ((xs_seq (fm_Model_ways fu u15) fun _ u30 => some ((()), u30))) else (if (u15.1 8) = (17 : Int32) then (jb_Model_instruction_195 fu u15) else ((xs_seq (fm_Model_in ((u15.1 8).toInt64) (40 : Int64) (62 : Int64) u15) fun a17 u18 => if a17 = (0 : Int32) then (if (u18.1 8) = (63 : Int32) then (jb_Model_instruction_220 fu u18) else (if (u18.1 8) = (64 : Int32) then (jb_Model_instruction_220 fu u18) else (if (u18.1 8) = (65 : Int32) then (jb_Model_instruction_246 fu u18) else (if (u18.1 8) = (66 : Int32) then (jb_Model_instruction_246 fu u18) else (if (u18.1 8) = (208 : Int32) then ((xs_seq (fm_Model_target fu u18) fun a27 u28 => xs_let (xs_J u28 0 (a27.toInt64)) fun u29 => some ((()), u29))) else (if (u18.1 8) = (251 : Int32) then ((xs_seq (fm_Model_object fu u18) fun _ u26 => some ((()), u26))) else ((xs_seq (fm_Model_isPlain (u18.1 8) u18) fun a23 u24 => if a23 = (0 : Int32) then ((xs_seq (fm_Model_fail (-1 : Int32) u24) fun _ u25 => some ((()), u25))) else (some ((()), u24)))))))))) else (jb_Model_instruction_195 fu u18))))))) else (jb_Model_instruction_142 fu u15)))))) else ((xs_seq (fm_Model_blockTypeHere fu u10) fun a31 u32 => xs_let (xs_J u32 0 a31) fun u33 => some ((()), u33))))) else ((xs_seq (fm_Model_fail (-3 : Int32) u8) fun _ u34 => some ((()), u34))))) else (some ((()), u6)))
set_option maxHeartbeats 4000000 in
set_option maxRecDepth 100000 in
theorem wj_Model_instruction_142 {p : Program} {l : Launch} {e : Env} {s : State} {m : MethodId} {args : Array Value} {below : List Frame} {meth : Method} {c : Code} {D : va_G} {ad : Nat → Nat} {ca : Nat → ClassId} {ads : List Nat} {fu : Nat} (htr : l.stackTraces = false) (C : xk_C D kx_cl (kx_ty ca) (kw_m ad ca) ads "ModuleHouseModel" prog_14_method_23_code 1 none p e s m args meth c) (hne : c.exceptionTable.isEmpty = true) {u' : xk_St} {r : Unit} {u : xk_St} {H : Heap} {locs : List Loc} {ls : Array Slot} (h : jb_Model_instruction_142 fu   u = some (r, u')) (hP : va_P D kx_cl (kw_m ad ca u) H) (hS : va_S (xk_A ads s.heap.size) s.heap H locs) (hl : lv_has ls 1 [(0, .ref (ad 0))]) : W p l e rm_Model_instruction s m args below meth c H locs 0 0 (xk_MQ below (xk_Qc D kx_cl (kw_m ad ca) ads (xo_v (.inl r)) u') args s (xk_A ads s.heap.size)) (F0 m 142 ls []) := by
  have hx := C.1.1
  have hb := C.1.2.1
  have hok := C.2.2.1
  unfold jb_Model_instruction_142 at h
  refine lv_aload_n hx hb dd_Model_instruction_142 rfl (lv_at hl 0 rfl) ?_
  refine lv_aload_n hx hb dd_Model_instruction_143 rfl (lv_at hl 0 rfl) ?_
  obtain ⟨a11, u12, hq, h⟩ := xp_seq h
  refine xk_goesL (xr_V (As := []) (rest := [.ref (ad 0)]) C hP hS (ct_Model_number htr hok hq) kq_Model_295 0 11 rfl rfl ⟨rfl, rfl, Nat.le_of_ble_eq_true rfl, Nat.le_of_ble_eq_true rfl⟩ ⟨Nat.le_of_ble_eq_true rfl, Nat.le_of_ble_eq_true rfl⟩ hl.1 rfl rfl (Nat.le_of_ble_eq_true rfl) dd_Model_instruction_144) hS (fun H locs hP hS => ?_)
  clear hq
  refine pf_m_Model_0_x C hP hS dd_Model_instruction_147 (fun H locs hP hS => ?_)
  obtain ⟨u13, eu13, h⟩ := xp_let h
  rw [← eu13] at hP
  refine lv_goto (tgt := 327) hx hb dd_Model_instruction_150 (by decide) ?_
  obtain ⟨rfl, rfl⟩ := xp_r h
  exact xr_vret C hP hS dd_Model_instruction_327
set_option maxHeartbeats 4000000 in
set_option maxRecDepth 100000 in
theorem wj_Model_instruction_195 {p : Program} {l : Launch} {e : Env} {s : State} {m : MethodId} {args : Array Value} {below : List Frame} {meth : Method} {c : Code} {D : va_G} {ad : Nat → Nat} {ca : Nat → ClassId} {ads : List Nat} {fu : Nat} (htr : l.stackTraces = false) (C : xk_C D kx_cl (kx_ty ca) (kw_m ad ca) ads "ModuleHouseModel" prog_14_method_23_code 1 none p e s m args meth c) (hne : c.exceptionTable.isEmpty = true) {u' : xk_St} {r : Unit} {u : xk_St} {H : Heap} {locs : List Loc} {ls : Array Slot} (h : jb_Model_instruction_195 fu   u = some (r, u')) (hP : va_P D kx_cl (kw_m ad ca u) H) (hS : va_S (xk_A ads s.heap.size) s.heap H locs) (hl : lv_has ls 1 [(0, .ref (ad 0))]) : W p l e rm_Model_instruction s m args below meth c H locs 0 0 (xk_MQ below (xk_Qc D kx_cl (kw_m ad ca) ads (xo_v (.inl r)) u') args s (xk_A ads s.heap.size)) (F0 m 195 ls []) := by
  have hx := C.1.1
  have hb := C.1.2.1
  have hok := C.2.2.1
  unfold jb_Model_instruction_195 at h
  refine lv_aload_n hx hb dd_Model_instruction_195 rfl (lv_at hl 0 rfl) ?_
  obtain ⟨rx, u16, hq, h⟩ := xp_seq h
  refine xk_goesV (xr_V (As := []) (rest := []) C hP hS (ct_Model_pair htr hok hq) kq_Model_305 0 11 rfl rfl ⟨rfl, rfl, Nat.le_of_ble_eq_true rfl, Nat.le_of_ble_eq_true rfl⟩ ⟨Nat.le_of_ble_eq_true rfl, Nat.le_of_ble_eq_true rfl⟩ hl.1 rfl rfl (Nat.le_of_ble_eq_true rfl) dd_Model_instruction_196) hS (fun H locs hP hS => ?_)
  clear hq
  refine lv_goto (tgt := 327) hx hb dd_Model_instruction_199 (by decide) ?_
  obtain ⟨rfl, rfl⟩ := xp_r h
  exact xr_vret C hP hS dd_Model_instruction_327
set_option maxHeartbeats 4000000 in
set_option maxRecDepth 100000 in
theorem wj_Model_instruction_220 {p : Program} {l : Launch} {e : Env} {s : State} {m : MethodId} {args : Array Value} {below : List Frame} {meth : Method} {c : Code} {D : va_G} {ad : Nat → Nat} {ca : Nat → ClassId} {ads : List Nat} {fu : Nat} (htr : l.stackTraces = false) (C : xk_C D kx_cl (kx_ty ca) (kw_m ad ca) ads "ModuleHouseModel" prog_14_method_23_code 1 none p e s m args meth c) (hne : c.exceptionTable.isEmpty = true) {u' : xk_St} {r : Unit} {u : xk_St} {H : Heap} {locs : List Loc} {ls : Array Slot} (h : jb_Model_instruction_220 fu   u = some (r, u')) (hP : va_P D kx_cl (kw_m ad ca u) H) (hS : va_S (xk_A ads s.heap.size) s.heap H locs) (hl : lv_has ls 1 [(0, .ref (ad 0))]) : W p l e rm_Model_instruction s m args below meth c H locs 0 0 (xk_MQ below (xk_Qc D kx_cl (kw_m ad ca) ads (xo_v (.inl r)) u') args s (xk_A ads s.heap.size)) (F0 m 220 ls []) := by
  have hx := C.1.1
  have hb := C.1.2.1
  have hok := C.2.2.1
  unfold jb_Model_instruction_220 at h
  refine lv_aload_n hx hb dd_Model_instruction_220 rfl (lv_at hl 0 rfl) ?_
  refine lv_iconst (v := 0) hx hb dd_Model_instruction_221 (by decide) ?_
  obtain ⟨rx, u19, hq, h⟩ := xp_seq h
  refine xk_goesV (xr_V (As := [.int (0 : Int32)]) (rest := []) C hP hS (ct_Model_needs htr hok hq) kq_Model_308 0 11 rfl rfl ⟨rfl, rfl, Nat.le_of_ble_eq_true rfl, Nat.le_of_ble_eq_true rfl⟩ ⟨Nat.le_of_ble_eq_true rfl, Nat.le_of_ble_eq_true rfl⟩ hl.1 rfl rfl (Nat.le_of_ble_eq_true rfl) dd_Model_instruction_222) hS (fun H locs hP hS => ?_)
  clear hq
  refine lv_goto (tgt := 327) hx hb dd_Model_instruction_225 (by decide) ?_
  obtain ⟨rfl, rfl⟩ := xp_r h
  exact xr_vret C hP hS dd_Model_instruction_327
set_option maxHeartbeats 4000000 in
set_option maxRecDepth 100000 in
theorem wj_Model_instruction_264 {p : Program} {l : Launch} {e : Env} {s : State} {m : MethodId} {args : Array Value} {below : List Frame} {meth : Method} {c : Code} {D : va_G} {ad : Nat → Nat} {ca : Nat → ClassId} {ads : List Nat} {fu : Nat} (htr : l.stackTraces = false) (C : xk_C D kx_cl (kx_ty ca) (kw_m ad ca) ads "ModuleHouseModel" prog_14_method_23_code 1 none p e s m args meth c) (hne : c.exceptionTable.isEmpty = true) {u' : xk_St} {r : Unit} {s0 : Int32} {u : xk_St} {H : Heap} {locs : List Loc} {ls : Array Slot} (h : jb_Model_instruction_264 fu  s0 u = some (r, u')) (hP : va_P D kx_cl (kw_m ad ca u) H) (hS : va_S (xk_A ads s.heap.size) s.heap H locs) (hl : lv_has ls 1 []) : W p l e rm_Model_instruction s m args below meth c H locs 0 0 (xk_MQ below (xk_Qc D kx_cl (kw_m ad ca) ads (xo_v (.inl r)) u') args s (xk_A ads s.heap.size)) (F0 m 264 ls [.int s0, .ref (ad 0), .ref (ad 0)]) := by
  have hx := C.1.1
  have hb := C.1.2.1
  have hok := C.2.2.1
  unfold jb_Model_instruction_264 at h
  obtain ⟨a20, u21, hq, h⟩ := xp_seq h
  refine xk_goesL (xr_V (As := [.int s0]) (rest := [.ref (ad 0)]) C hP hS (ct_Model_signed htr hok hq) kq_Model_193 0 11 rfl rfl ⟨rfl, rfl, Nat.le_of_ble_eq_true rfl, Nat.le_of_ble_eq_true rfl⟩ ⟨Nat.le_of_ble_eq_true rfl, Nat.le_of_ble_eq_true rfl⟩ hl.1 rfl rfl (Nat.le_of_ble_eq_true rfl) dd_Model_instruction_264) hS (fun H locs hP hS => ?_)
  clear hq
  refine pf_m_Model_0_x C hP hS dd_Model_instruction_267 (fun H locs hP hS => ?_)
  obtain ⟨u22, eu22, h⟩ := xp_let h
  rw [← eu22] at hP
  refine lv_goto (tgt := 327) hx hb dd_Model_instruction_270 (by decide) ?_
  obtain ⟨rfl, rfl⟩ := xp_r h
  exact xr_vret C hP hS dd_Model_instruction_327
set_option maxHeartbeats 4000000 in
set_option maxRecDepth 100000 in
theorem wj_Model_instruction_246 {p : Program} {l : Launch} {e : Env} {s : State} {m : MethodId} {args : Array Value} {below : List Frame} {meth : Method} {c : Code} {D : va_G} {ad : Nat → Nat} {ca : Nat → ClassId} {ads : List Nat} {fu : Nat} (htr : l.stackTraces = false) (C : xk_C D kx_cl (kx_ty ca) (kw_m ad ca) ads "ModuleHouseModel" prog_14_method_23_code 1 none p e s m args meth c) (hne : c.exceptionTable.isEmpty = true) {u' : xk_St} {r : Unit} {u : xk_St} {H : Heap} {locs : List Loc} {ls : Array Slot} (h : jb_Model_instruction_246 fu   u = some (r, u')) (hP : va_P D kx_cl (kw_m ad ca u) H) (hS : va_S (xk_A ads s.heap.size) s.heap H locs) (hl : lv_has ls 1 [(0, .ref (ad 0))]) : W p l e rm_Model_instruction s m args below meth c H locs 0 0 (xk_MQ below (xk_Qc D kx_cl (kw_m ad ca) ads (xo_v (.inl r)) u') args s (xk_A ads s.heap.size)) (F0 m 246 ls []) := by
  have hx := C.1.1
  have hb := C.1.2.1
  have hok := C.2.2.1
  unfold jb_Model_instruction_246 at h
  refine lv_aload_n hx hb dd_Model_instruction_246 rfl (lv_at hl 0 rfl) ?_
  refine lv_aload_n hx hb dd_Model_instruction_247 rfl (lv_at hl 0 rfl) ?_
  refine lv_aload_n hx hb dd_Model_instruction_248 rfl (lv_at hl 0 rfl) ?_
  refine gf_m_Model_0_op C hP dd_Model_instruction_249 ?_
  refine lv_bipush (v := 65) hx hb dd_Model_instruction_252 (by decide) ?_
  refine lv_icmp_ne (tgt := 262) hx hb dd_Model_instruction_254 (by decide) (fun hc => ?_) (fun hc => ?_)
  · have h := xp_f hc h
    refine lv_bipush (v := 64) hx hb dd_Model_instruction_262 (by decide) ?_
    exact wj_Model_instruction_264 htr C hne h hP hS (lv_sub hl [] rfl)
  · have h := xp_t hc h
    refine lv_bipush (v := 32) hx hb dd_Model_instruction_257 (by decide) ?_
    refine lv_goto (tgt := 264) hx hb dd_Model_instruction_259 (by decide) ?_
    exact wj_Model_instruction_264 htr C hne h hP hS (lv_sub hl [] rfl)
set_option maxHeartbeats 4000000 in
set_option maxRecDepth 100000 in
theorem ct_Model_instruction {l : Launch} {D : va_G} {ad : Nat → Nat} {ca : Nat → ClassId} {ads : List Nat} (htr : l.stackTraces = false) (hok : xk_ok (kw_m ad ca) ads) {fu : Nat} {u u' : xk_St} {r : Unit} (h : fm_Model_instruction fu u = some (r, u')) :
    ∀ sz, xk_Met l ⟨"ModuleHouseModel", "instruction", "()V"⟩ (Cond.code ⟨"ModuleHouseModel", "instruction", "()V"⟩ prog_14_method_23_code 1 none :: xk_gd) rm_Model_instruction (xk_Pc D kx_cl (kx_ty ca) (kw_m ad ca) ads xk_F sz [.ref (ad 0)] u) (xk_Qc D kx_cl (kw_m ad ca) ads (xo_v (.inl r)) u') (xk_A ads sz) := by
  unfold fm_Model_instruction at h
  refine xk_con (by decide) htr hok (Nat.le_of_ble_eq_true rfl) (fun p e s m below meth c ls C hne hl hP => ?_)
  have hx := C.1.1
  have hb := C.1.2.1
  have hS : va_S (xk_A ads s.heap.size) s.heap s.heap [] := va_S.rf
  have hl : lv_has ls 1 [(0, .ref (ad 0))] := hl
  refine lv_aload_n hx hb dd_Model_instruction_0 rfl (lv_at hl 0 rfl) ?_
  refine lv_aload_n hx hb dd_Model_instruction_1 rfl (lv_at hl 0 rfl) ?_
  obtain ⟨a1, u2, hq, h⟩ := xp_seq h
  refine xk_goesI (xr_V (As := []) (rest := [.ref (ad 0)]) C hP hS (ct_Model_one htr hok hq) kq_Model_178 0 11 rfl rfl ⟨rfl, rfl, Nat.le_of_ble_eq_true rfl, Nat.le_of_ble_eq_true rfl⟩ ⟨Nat.le_of_ble_eq_true rfl, Nat.le_of_ble_eq_true rfl⟩ hl.1 rfl rfl (Nat.le_of_ble_eq_true rfl) dd_Model_instruction_2) hS (fun H locs hP hS => ?_)
  clear hq
  refine pf_m_Model_0_op C hP hS dd_Model_instruction_5 (fun H locs hP hS => ?_)
  obtain ⟨u3, eu3, h⟩ := xp_let h
  rw [← eu3] at hP
  refine lv_aload_n hx hb dd_Model_instruction_8 rfl (lv_at hl 0 rfl) ?_
  refine lv_iconst (v := 0) hx hb dd_Model_instruction_9 (by decide) ?_
  refine pf_m_Model_0_sub C hP hS dd_Model_instruction_10 (fun H locs hP hS => ?_)
  obtain ⟨u4, eu4, h⟩ := xp_let h
  rw [← eu4] at hP
  refine lv_aload_n hx hb dd_Model_instruction_13 rfl (lv_at hl 0 rfl) ?_
  refine lv_lconst (v := 0) hx hb dd_Model_instruction_14 (by decide) ?_
  refine pf_m_Model_0_x C hP hS dd_Model_instruction_15 (fun H locs hP hS => ?_)
  obtain ⟨u5, eu5, h⟩ := xp_let h
  rw [← eu5] at hP
  refine lv_aload_n hx hb dd_Model_instruction_18 rfl (lv_at hl 0 rfl) ?_
  refine lv_lconst (v := 0) hx hb dd_Model_instruction_19 (by decide) ?_
  refine pf_m_Model_0_y C hP hS dd_Model_instruction_20 (fun H locs hP hS => ?_)
  obtain ⟨u6, eu6, h⟩ := xp_let h
  rw [← eu6] at hP
  refine lv_aload_n hx hb dd_Model_instruction_23 rfl (lv_at hl 0 rfl) ?_
  refine gf_m_Model_0_bad C hP dd_Model_instruction_24 ?_
  refine lv_if_eq (tgt := 31) hx hb dd_Model_instruction_27 (by decide) (fun hc => ?_) (fun hc => ?_)
  · have h := xp_t hc h
    refine lv_aload_n hx hb dd_Model_instruction_31 rfl (lv_at hl 0 rfl) ?_
    refine gf_m_Model_0_op C hP dd_Model_instruction_32 ?_
    obtain ⟨a7, u8, hq, h⟩ := xp_seq h
    refine xk_goesI (xr_S (As := [.int (u6.1 8)]) (rest := []) C hP hS (ct_Model_isRefused htr hok hq) kq_Model_280 ⟨rfl, rfl, Nat.le_of_ble_eq_true rfl, Nat.le_of_ble_eq_true rfl⟩ ⟨Nat.le_of_ble_eq_true rfl, Nat.le_of_ble_eq_true rfl⟩ hl.1 rfl rfl (Nat.le_of_ble_eq_true rfl) dd_Model_instruction_35) hS (fun H locs hP hS => ?_)
    clear hq
    refine lv_if_eq (tgt := 50) hx hb dd_Model_instruction_38 (by decide) (fun hc => ?_) (fun hc => ?_)
    · have h := xp_t hc h
      refine lv_aload_n hx hb dd_Model_instruction_50 rfl (lv_at hl 0 rfl) ?_
      refine gf_m_Model_0_op C hP dd_Model_instruction_51 ?_
      refine lv_i2l hx hb dd_Model_instruction_54 rfl ?_
      refine lv_ldc2 (v := 2) hx hb C.1.2.2.2.1 (C.1.2.2.2.2 _ (xk_c9 (w := Jvm.Cond.constantLong "ModuleHouseModel" 283 2) 200 rfl rfl)) dd_Model_instruction_55 ?_
      refine lv_ldc2 (v := 4) hx hb C.1.2.2.2.1 (C.1.2.2.2.2 _ (xk_c9 (w := Jvm.Cond.constantLong "ModuleHouseModel" 285 4) 201 rfl rfl)) dd_Model_instruction_58 ?_
      obtain ⟨a9, u10, hq, h⟩ := xp_seq h
      refine xk_goesI (xr_S (As := [.long ((u8.1 8).toInt64), .long (2 : Int64), .long (4 : Int64)]) (rest := []) C hP hS (ct_Model_in htr hok hq) kq_Model_219 ⟨rfl, rfl, Nat.le_of_ble_eq_true rfl, Nat.le_of_ble_eq_true rfl⟩ ⟨Nat.le_of_ble_eq_true rfl, Nat.le_of_ble_eq_true rfl⟩ hl.1 rfl rfl (Nat.le_of_ble_eq_true rfl) dd_Model_instruction_61) hS (fun H locs hP hS => ?_)
      clear hq
      refine lv_if_eq (tgt := 78) hx hb dd_Model_instruction_64 (by decide) (fun hc => ?_) (fun hc => ?_)
      · have h := xp_t hc h
        refine lv_aload_n hx hb dd_Model_instruction_78 rfl (lv_at hl 0 rfl) ?_
        refine gf_m_Model_0_op C hP dd_Model_instruction_79 ?_
        refine lv_bipush (v := 12) hx hb dd_Model_instruction_82 (by decide) ?_
        refine lv_icmp_eq (tgt := 142) hx hb dd_Model_instruction_84 (by decide) (fun hc => ?_) (fun hc => ?_)
        · have h := xp_t hc h
          exact wj_Model_instruction_142 htr C hne h hP hS (lv_sub hl [0] rfl)
        · have h := xp_f hc h
          refine lv_aload_n hx hb dd_Model_instruction_87 rfl (lv_at hl 0 rfl) ?_
          refine gf_m_Model_0_op C hP dd_Model_instruction_88 ?_
          refine lv_bipush (v := 13) hx hb dd_Model_instruction_91 (by decide) ?_
          refine lv_icmp_eq (tgt := 142) hx hb dd_Model_instruction_93 (by decide) (fun hc => ?_) (fun hc => ?_)
          · have h := xp_t hc h
            exact wj_Model_instruction_142 htr C hne h hP hS (lv_sub hl [0] rfl)
          · have h := xp_f hc h
            refine lv_aload_n hx hb dd_Model_instruction_96 rfl (lv_at hl 0 rfl) ?_
            refine gf_m_Model_0_op C hP dd_Model_instruction_97 ?_
            refine lv_bipush (v := 16) hx hb dd_Model_instruction_100 (by decide) ?_
            refine lv_icmp_eq (tgt := 142) hx hb dd_Model_instruction_102 (by decide) (fun hc => ?_) (fun hc => ?_)
            · have h := xp_t hc h
              exact wj_Model_instruction_142 htr C hne h hP hS (lv_sub hl [0] rfl)
            · have h := xp_f hc h
              refine lv_aload_n hx hb dd_Model_instruction_105 rfl (lv_at hl 0 rfl) ?_
              refine gf_m_Model_0_op C hP dd_Model_instruction_106 ?_
              refine lv_i2l hx hb dd_Model_instruction_109 rfl ?_
              refine lv_ldc2 (v := 32) hx hb C.1.2.2.2.1 (C.1.2.2.2.2 _ (xk_c9 (w := Jvm.Cond.constantLong "ModuleHouseModel" 291 32) 207 rfl rfl)) dd_Model_instruction_110 ?_
              refine lv_ldc2 (v := 36) hx hb C.1.2.2.2.1 (C.1.2.2.2.2 _ (xk_c9 (w := Jvm.Cond.constantLong "ModuleHouseModel" 293 36) 208 rfl rfl)) dd_Model_instruction_113 ?_
              obtain ⟨a14, u15, hq, h⟩ := xp_seq h
              refine xk_goesI (xr_S (As := [.long ((u10.1 8).toInt64), .long (32 : Int64), .long (36 : Int64)]) (rest := []) C hP hS (ct_Model_in htr hok hq) kq_Model_219 ⟨rfl, rfl, Nat.le_of_ble_eq_true rfl, Nat.le_of_ble_eq_true rfl⟩ ⟨Nat.le_of_ble_eq_true rfl, Nat.le_of_ble_eq_true rfl⟩ hl.1 rfl rfl (Nat.le_of_ble_eq_true rfl) dd_Model_instruction_116) hS (fun H locs hP hS => ?_)
              clear hq
              refine lv_if_ne (tgt := 142) hx hb dd_Model_instruction_119 (by decide) (fun hc => ?_) (fun hc => ?_)
              · have h := xp_f hc h
                exact wj_Model_instruction_142 htr C hne h hP hS (lv_sub hl [0] rfl)
              · have h := xp_t hc h
                refine lv_aload_n hx hb dd_Model_instruction_122 rfl (lv_at hl 0 rfl) ?_
                refine gf_m_Model_0_op C hP dd_Model_instruction_123 ?_
                refine lv_sipush (v := 213) hx hb dd_Model_instruction_126 (by decide) ?_
                refine lv_icmp_eq (tgt := 142) hx hb dd_Model_instruction_129 (by decide) (fun hc => ?_) (fun hc => ?_)
                · have h := xp_t hc h
                  exact wj_Model_instruction_142 htr C hne h hP hS (lv_sub hl [0] rfl)
                · have h := xp_f hc h
                  refine lv_aload_n hx hb dd_Model_instruction_132 rfl (lv_at hl 0 rfl) ?_
                  refine gf_m_Model_0_op C hP dd_Model_instruction_133 ?_
                  refine lv_sipush (v := 214) hx hb dd_Model_instruction_136 (by decide) ?_
                  refine lv_icmp_ne (tgt := 153) hx hb dd_Model_instruction_139 (by decide) (fun hc => ?_) (fun hc => ?_)
                  · have h := xp_f hc h
                    refine lv_aload_n hx hb dd_Model_instruction_153 rfl (lv_at hl 0 rfl) ?_
                    refine gf_m_Model_0_op C hP dd_Model_instruction_154 ?_
                    refine lv_bipush (v := 14) hx hb dd_Model_instruction_157 (by decide) ?_
                    refine lv_icmp_ne (tgt := 169) hx hb dd_Model_instruction_159 (by decide) (fun hc => ?_) (fun hc => ?_)
                    · have h := xp_f hc h
                      refine lv_aload_n hx hb dd_Model_instruction_169 rfl (lv_at hl 0 rfl) ?_
                      refine gf_m_Model_0_op C hP dd_Model_instruction_170 ?_
                      refine lv_bipush (v := 17) hx hb dd_Model_instruction_173 (by decide) ?_
                      refine lv_icmp_eq (tgt := 195) hx hb dd_Model_instruction_175 (by decide) (fun hc => ?_) (fun hc => ?_)
                      · have h := xp_t hc h
                        exact wj_Model_instruction_195 htr C hne h hP hS (lv_sub hl [0] rfl)
                      · have h := xp_f hc h
                        refine lv_aload_n hx hb dd_Model_instruction_178 rfl (lv_at hl 0 rfl) ?_
                        refine gf_m_Model_0_op C hP dd_Model_instruction_179 ?_
                        refine lv_i2l hx hb dd_Model_instruction_182 rfl ?_
                        refine lv_ldc2 (v := 40) hx hb C.1.2.2.2.1 (C.1.2.2.2.2 _ (xk_c9 (w := Jvm.Cond.constantLong "ModuleHouseModel" 301 40) 214 rfl rfl)) dd_Model_instruction_183 ?_
                        refine lv_ldc2 (v := 62) hx hb C.1.2.2.2.1 (C.1.2.2.2.2 _ (xk_c9 (w := Jvm.Cond.constantLong "ModuleHouseModel" 303 62) 215 rfl rfl)) dd_Model_instruction_186 ?_
                        obtain ⟨a17, u18, hq, h⟩ := xp_seq h
                        refine xk_goesI (xr_S (As := [.long ((u15.1 8).toInt64), .long (40 : Int64), .long (62 : Int64)]) (rest := []) C hP hS (ct_Model_in htr hok hq) kq_Model_219 ⟨rfl, rfl, Nat.le_of_ble_eq_true rfl, Nat.le_of_ble_eq_true rfl⟩ ⟨Nat.le_of_ble_eq_true rfl, Nat.le_of_ble_eq_true rfl⟩ hl.1 rfl rfl (Nat.le_of_ble_eq_true rfl) dd_Model_instruction_189) hS (fun H locs hP hS => ?_)
                        clear hq
                        refine lv_if_eq (tgt := 202) hx hb dd_Model_instruction_192 (by decide) (fun hc => ?_) (fun hc => ?_)
                        · have h := xp_t hc h
                          refine lv_aload_n hx hb dd_Model_instruction_202 rfl (lv_at hl 0 rfl) ?_
                          refine gf_m_Model_0_op C hP dd_Model_instruction_203 ?_
                          refine lv_bipush (v := 63) hx hb dd_Model_instruction_206 (by decide) ?_
                          refine lv_icmp_eq (tgt := 220) hx hb dd_Model_instruction_208 (by decide) (fun hc => ?_) (fun hc => ?_)
                          · have h := xp_t hc h
                            exact wj_Model_instruction_220 htr C hne h hP hS (lv_sub hl [0] rfl)
                          · have h := xp_f hc h
                            refine lv_aload_n hx hb dd_Model_instruction_211 rfl (lv_at hl 0 rfl) ?_
                            refine gf_m_Model_0_op C hP dd_Model_instruction_212 ?_
                            refine lv_bipush (v := 64) hx hb dd_Model_instruction_215 (by decide) ?_
                            refine lv_icmp_ne (tgt := 228) hx hb dd_Model_instruction_217 (by decide) (fun hc => ?_) (fun hc => ?_)
                            · have h := xp_f hc h
                              refine lv_aload_n hx hb dd_Model_instruction_228 rfl (lv_at hl 0 rfl) ?_
                              refine gf_m_Model_0_op C hP dd_Model_instruction_229 ?_
                              refine lv_bipush (v := 65) hx hb dd_Model_instruction_232 (by decide) ?_
                              refine lv_icmp_eq (tgt := 246) hx hb dd_Model_instruction_234 (by decide) (fun hc => ?_) (fun hc => ?_)
                              · have h := xp_t hc h
                                exact wj_Model_instruction_246 htr C hne h hP hS (lv_sub hl [0] rfl)
                              · have h := xp_f hc h
                                refine lv_aload_n hx hb dd_Model_instruction_237 rfl (lv_at hl 0 rfl) ?_
                                refine gf_m_Model_0_op C hP dd_Model_instruction_238 ?_
                                refine lv_bipush (v := 66) hx hb dd_Model_instruction_241 (by decide) ?_
                                refine lv_icmp_ne (tgt := 273) hx hb dd_Model_instruction_243 (by decide) (fun hc => ?_) (fun hc => ?_)
                                · have h := xp_f hc h
                                  refine lv_aload_n hx hb dd_Model_instruction_273 rfl (lv_at hl 0 rfl) ?_
                                  refine gf_m_Model_0_op C hP dd_Model_instruction_274 ?_
                                  refine lv_sipush (v := 208) hx hb dd_Model_instruction_277 (by decide) ?_
                                  refine lv_icmp_ne (tgt := 295) hx hb dd_Model_instruction_280 (by decide) (fun hc => ?_) (fun hc => ?_)
                                  · have h := xp_f hc h
                                    refine lv_aload_n hx hb dd_Model_instruction_295 rfl (lv_at hl 0 rfl) ?_
                                    refine gf_m_Model_0_op C hP dd_Model_instruction_296 ?_
                                    refine lv_sipush (v := 251) hx hb dd_Model_instruction_299 (by decide) ?_
                                    refine lv_icmp_ne (tgt := 312) hx hb dd_Model_instruction_302 (by decide) (fun hc => ?_) (fun hc => ?_)
                                    · have h := xp_f hc h
                                      refine lv_aload_n hx hb dd_Model_instruction_312 rfl (lv_at hl 0 rfl) ?_
                                      refine gf_m_Model_0_op C hP dd_Model_instruction_313 ?_
                                      obtain ⟨a23, u24, hq, h⟩ := xp_seq h
                                      refine xk_goesI (xr_S (As := [.int (u18.1 8)]) (rest := []) C hP hS (ct_Model_isPlain htr hok hq) kq_Model_314 ⟨rfl, rfl, Nat.le_of_ble_eq_true rfl, Nat.le_of_ble_eq_true rfl⟩ ⟨Nat.le_of_ble_eq_true rfl, Nat.le_of_ble_eq_true rfl⟩ hl.1 rfl rfl (Nat.le_of_ble_eq_true rfl) dd_Model_instruction_316) hS (fun H locs hP hS => ?_)
                                      clear hq
                                      refine lv_if_ne (tgt := 327) hx hb dd_Model_instruction_319 (by decide) (fun hc => ?_) (fun hc => ?_)
                                      · have h := xp_f hc h
                                        obtain ⟨rfl, rfl⟩ := xp_r h
                                        exact xr_vret C hP hS dd_Model_instruction_327
                                      · have h := xp_t hc h
                                        refine lv_aload_n hx hb dd_Model_instruction_322 rfl (lv_at hl 0 rfl) ?_
                                        refine lv_iconst (v := (-1)) hx hb dd_Model_instruction_323 (by decide) ?_
                                        obtain ⟨rx, u25, hq, h⟩ := xp_seq h
                                        refine xk_goesV (xr_V (As := [.int (-1 : Int32)]) (rest := []) C hP hS (ct_Model_fail htr hok hq) kq_Model_174 0 11 rfl rfl ⟨rfl, rfl, Nat.le_of_ble_eq_true rfl, Nat.le_of_ble_eq_true rfl⟩ ⟨Nat.le_of_ble_eq_true rfl, Nat.le_of_ble_eq_true rfl⟩ hl.1 rfl rfl (Nat.le_of_ble_eq_true rfl) dd_Model_instruction_324) hS (fun H locs hP hS => ?_)
                                        clear hq
                                        obtain ⟨rfl, rfl⟩ := xp_r h
                                        exact xr_vret C hP hS dd_Model_instruction_327
                                    · have h := xp_t hc h
                                      refine lv_aload_n hx hb dd_Model_instruction_305 rfl (lv_at hl 0 rfl) ?_
                                      obtain ⟨rx, u26, hq, h⟩ := xp_seq h
                                      refine xk_goesV (xr_V (As := []) (rest := []) C hP hS (ct_Model_object htr hok hq) kq_Model_311 0 11 rfl rfl ⟨rfl, rfl, Nat.le_of_ble_eq_true rfl, Nat.le_of_ble_eq_true rfl⟩ ⟨Nat.le_of_ble_eq_true rfl, Nat.le_of_ble_eq_true rfl⟩ hl.1 rfl rfl (Nat.le_of_ble_eq_true rfl) dd_Model_instruction_306) hS (fun H locs hP hS => ?_)
                                      clear hq
                                      refine lv_goto (tgt := 327) hx hb dd_Model_instruction_309 (by decide) ?_
                                      obtain ⟨rfl, rfl⟩ := xp_r h
                                      exact xr_vret C hP hS dd_Model_instruction_327
                                  · have h := xp_t hc h
                                    refine lv_aload_n hx hb dd_Model_instruction_283 rfl (lv_at hl 0 rfl) ?_
                                    refine lv_aload_n hx hb dd_Model_instruction_284 rfl (lv_at hl 0 rfl) ?_
                                    obtain ⟨a27, u28, hq, h⟩ := xp_seq h
                                    refine xk_goesI (xr_V (As := []) (rest := [.ref (ad 0)]) C hP hS (ct_Model_target htr hok hq) kq_Model_207 0 11 rfl rfl ⟨rfl, rfl, Nat.le_of_ble_eq_true rfl, Nat.le_of_ble_eq_true rfl⟩ ⟨Nat.le_of_ble_eq_true rfl, Nat.le_of_ble_eq_true rfl⟩ hl.1 rfl rfl (Nat.le_of_ble_eq_true rfl) dd_Model_instruction_285) hS (fun H locs hP hS => ?_)
                                    clear hq
                                    refine lv_i2l hx hb dd_Model_instruction_288 rfl ?_
                                    refine pf_m_Model_0_x C hP hS dd_Model_instruction_289 (fun H locs hP hS => ?_)
                                    obtain ⟨u29, eu29, h⟩ := xp_let h
                                    rw [← eu29] at hP
                                    refine lv_goto (tgt := 327) hx hb dd_Model_instruction_292 (by decide) ?_
                                    obtain ⟨rfl, rfl⟩ := xp_r h
                                    exact xr_vret C hP hS dd_Model_instruction_327
                                · have h := xp_t hc h
                                  exact wj_Model_instruction_246 htr C hne h hP hS (lv_sub hl [0] rfl)
                            · have h := xp_t hc h
                              exact wj_Model_instruction_220 htr C hne h hP hS (lv_sub hl [0] rfl)
                        · have h := xp_f hc h
                          exact wj_Model_instruction_195 htr C hne h hP hS (lv_sub hl [0] rfl)
                    · have h := xp_t hc h
                      refine lv_aload_n hx hb dd_Model_instruction_162 rfl (lv_at hl 0 rfl) ?_
                      obtain ⟨rx, u30, hq, h⟩ := xp_seq h
                      refine xk_goesV (xr_V (As := []) (rest := []) C hP hS (ct_Model_ways htr hok hq) kq_Model_298 0 11 rfl rfl ⟨rfl, rfl, Nat.le_of_ble_eq_true rfl, Nat.le_of_ble_eq_true rfl⟩ ⟨Nat.le_of_ble_eq_true rfl, Nat.le_of_ble_eq_true rfl⟩ hl.1 rfl rfl (Nat.le_of_ble_eq_true rfl) dd_Model_instruction_163) hS (fun H locs hP hS => ?_)
                      clear hq
                      refine lv_goto (tgt := 327) hx hb dd_Model_instruction_166 (by decide) ?_
                      obtain ⟨rfl, rfl⟩ := xp_r h
                      exact xr_vret C hP hS dd_Model_instruction_327
                  · have h := xp_t hc h
                    exact wj_Model_instruction_142 htr C hne h hP hS (lv_sub hl [0] rfl)
      · have h := xp_f hc h
        refine lv_aload_n hx hb dd_Model_instruction_67 rfl (lv_at hl 0 rfl) ?_
        refine lv_aload_n hx hb dd_Model_instruction_68 rfl (lv_at hl 0 rfl) ?_
        obtain ⟨a31, u32, hq, h⟩ := xp_seq h
        refine xk_goesL (xr_V (As := []) (rest := [.ref (ad 0)]) C hP hS (ct_Model_blockTypeHere htr hok hq) kq_Model_287 0 11 rfl rfl ⟨rfl, rfl, Nat.le_of_ble_eq_true rfl, Nat.le_of_ble_eq_true rfl⟩ ⟨Nat.le_of_ble_eq_true rfl, Nat.le_of_ble_eq_true rfl⟩ hl.1 rfl rfl (Nat.le_of_ble_eq_true rfl) dd_Model_instruction_69) hS (fun H locs hP hS => ?_)
        clear hq
        refine pf_m_Model_0_x C hP hS dd_Model_instruction_72 (fun H locs hP hS => ?_)
        obtain ⟨u33, eu33, h⟩ := xp_let h
        rw [← eu33] at hP
        refine lv_goto (tgt := 327) hx hb dd_Model_instruction_75 (by decide) ?_
        obtain ⟨rfl, rfl⟩ := xp_r h
        exact xr_vret C hP hS dd_Model_instruction_327
    · have h := xp_f hc h
      refine lv_aload_n hx hb dd_Model_instruction_41 rfl (lv_at hl 0 rfl) ?_
      refine lv_bipush (v := (-3)) hx hb dd_Model_instruction_42 (by decide) ?_
      obtain ⟨rx, u34, hq, h⟩ := xp_seq h
      refine xk_goesV (xr_V (As := [.int (-3 : Int32)]) (rest := []) C hP hS (ct_Model_fail htr hok hq) kq_Model_174 0 11 rfl rfl ⟨rfl, rfl, Nat.le_of_ble_eq_true rfl, Nat.le_of_ble_eq_true rfl⟩ ⟨Nat.le_of_ble_eq_true rfl, Nat.le_of_ble_eq_true rfl⟩ hl.1 rfl rfl (Nat.le_of_ble_eq_true rfl) dd_Model_instruction_44) hS (fun H locs hP hS => ?_)
      clear hq
      refine lv_goto (tgt := 327) hx hb dd_Model_instruction_47 (by decide) ?_
      obtain ⟨rfl, rfl⟩ := xp_r h
      exact xr_vret C hP hS dd_Model_instruction_327
  · have h := xp_f hc h
    obtain ⟨rfl, rfl⟩ := xp_r h
    exact xr_vret C hP hS dd_Model_instruction_30
abbrev rm_Model_bodyForm : Room := { frames := 8, cells := 1, slots := 6, locals := 153 }
noncomputable def jb_Model_bodyForm_215 (fu : Nat) (b1 : Int32) (b4 : Int32) (u : xk_St) : Option (Unit × xk_St) :=
  if (u.1 4) = b4 then ((xs_let (xs_I u 5 b1) fun u9 => some ((()), u9))) else ((xs_seq (fm_Model_fail (-1 : Int32) u) fun _ u10 => xs_let (xs_I u10 5 b1) fun u11 => some ((()), u11)))
noncomputable def jb_Model_bodyForm_207 (fu : Nat) (k102 : Int32 → Int32 → Int32 → xk_St → Option (Unit × xk_St)) (b1 : Int32) (b4 : Int32) (b5 : Int32) (s0 : Int32) (s1 : Int32) (u : xk_St) : Option (Unit × xk_St) :=
  (if s1 < 0 ∨ 8192 ≤ s1.toNatClampNeg then none else xs_let (xs_A u 3 s1.toNatClampNeg (vp_nar .byte (s0.toInt8.toInt32))) fun u15 => xs_let (b5 + (1 : Int32)) fun a16 => k102 b1 b4 a16 u15)
noncomputable def jb_Model_bodyForm_158 (fu : Nat) (k102 : Int32 → Int32 → Int32 → xk_St → Option (Unit × xk_St)) (b1 : Int32) (b4 : Int32) (b5 : Int32) (u : xk_St) : Option (Unit × xk_St) :=
  (if (b5 - (1 : Int32)) < 0 ∨ 8192 ≤ (b5 - (1 : Int32)).toNatClampNeg then none else xs_let (xs_A u 3 (b5 - (1 : Int32)).toNatClampNeg (vp_nar .byte (0 : Int32))) fun u17 => k102 b1 b4 b5 u17)
noncomputable def jb_Model_bodyForm_102 (fu : Nat) : Nat → Int32 → Int32 → Int32 → xk_St → Option (Unit × xk_St)
  | 0 => fun _ _ _ _ => none
  | n + 1 => fun b1 b4 b5 u =>
    xs_let (jb_Model_bodyForm_102 fu  n) fun k102 =>
    if b5 ≤ (0 : Int32) then (jb_Model_bodyForm_215 fu b1 b4 u) else (if (u.1 6) = (0 : Int32) then ((xs_seq (fm_Model_instruction fu u) fun _ u12 => if (u12.1 8) = (11 : Int32) then ((xs_let (b5 + (-1 : Int32)) fun a19 => k102 b1 b4 a19 u12)) else (if (u12.1 8) = (5 : Int32) then ((if (b5 - (1 : Int32)) < 0 ∨ 8192 ≤ (b5 - (1 : Int32)).toNatClampNeg then none else if (u12.2.2.1 3 (b5 - (1 : Int32)).toNatClampNeg) = (0 : Int32) then ((xs_seq (fm_Model_fail (-1 : Int32) u12) fun _ u18 => jb_Model_bodyForm_158 fu k102 b1 b4 b5 u18)) else (jb_Model_bodyForm_158 fu k102 b1 b4 b5 u12))) else ((xs_seq (fm_Model_in ((u12.1 8).toInt64) (2 : Int64) (4 : Int64) u12) fun a13 u14 => if a13 = (0 : Int32) then (k102 b1 b4 b5 u14) else (if (u14.1 8) = (4 : Int32) then (jb_Model_bodyForm_207 fu k102 b1 b4 b5 (1 : Int32) b5 u14) else (jb_Model_bodyForm_207 fu k102 b1 b4 b5 (0 : Int32) b5 u14))))))) else (jb_Model_bodyForm_215 fu b1 b4 u))
noncomputable def jb_Model_bodyForm_92 (fu : Nat) (b1 : Int32) (b4 : Int32) (u : xk_St) : Option (Unit × xk_St) :=
  (if (0 : Int32) < 0 ∨ 8192 ≤ (0 : Int32).toNatClampNeg then none else xs_let (xs_A u 3 (0 : Int32).toNatClampNeg (vp_nar .byte (0 : Int32))) fun u8 => jb_Model_bodyForm_102 fu fu b1 b4 (1 : Int32) u8)
noncomputable def jb_Model_bodyForm_59 (fu : Nat) : Nat → Int32 → Int32 → Int64 → xk_St → Option (Unit × xk_St)
  | 0 => fun _ _ _ _ => none
  | n + 1 => fun b1 b4 b5 u =>
    xs_let (jb_Model_bodyForm_59 fu  n) fun k59 =>
    if b5 ≤ (0 : Int64) then (jb_Model_bodyForm_92 fu b1 b4 u) else (if (u.1 6) = (0 : Int32) then ((xs_seq (fm_Model_number fu u) fun a20 u21 => xs_seq (fm_Model_valueType fu u21) fun a22 u23 => xs_let (b5 - (1 : Int64)) fun a24 => k59 b1 b4 a24 u23)) else (jb_Model_bodyForm_92 fu b1 b4 u))
noncomputable def jb_Model_bodyForm_30 (fu : Nat) (b1 : Int32) (b2 : Int64) (u : xk_St) : Option (Unit × xk_St) :=
  if (u.1 6) = (0 : Int32) then ((xs_let ((u.1 4) + (b2.toInt32)) fun a4 => xs_let (xs_I u 5 a4) fun u5 => xs_seq (fm_Model_number fu u5) fun a6 u7 => jb_Model_bodyForm_59 fu fu b1 a4 a6 u7)) else (some ((()), u))
noncomputable def fm_Model_bodyForm (fu : Nat) (u : xk_St) : Option (Unit × xk_St) :=
  (xs_let (u.1 5) fun a1 => xs_seq (fm_Model_number fu u) fun a2 u3 => if a2 ≤ (((u3.1 5) - (u3.1 4)).toInt64) then (jb_Model_bodyForm_30 fu a1 a2 u3) else ((xs_seq (fm_Model_fail (-1 : Int32) u3) fun _ u25 => jb_Model_bodyForm_30 fu a1 a2 u25)))
set_option maxHeartbeats 4000000 in
set_option maxRecDepth 100000 in
theorem wj_Model_bodyForm_215 {p : Program} {l : Launch} {e : Env} {s : State} {m : MethodId} {args : Array Value} {below : List Frame} {meth : Method} {c : Code} {D : va_G} {ad : Nat → Nat} {ca : Nat → ClassId} {ads : List Nat} {fu : Nat} (htr : l.stackTraces = false) (C : xk_C D kx_cl (kx_ty ca) (kw_m ad ca) ads "ModuleHouseModel" prog_14_method_37_code 7 none p e s m args meth c) (hne : c.exceptionTable.isEmpty = true) {u' : xk_St} {r : Unit} {b1 : Int32} {b4 : Int32} {u : xk_St} {H : Heap} {locs : List Loc} {ls : Array Slot} (h : jb_Model_bodyForm_215 fu  b1 b4 u = some (r, u')) (hP : va_P D kx_cl (kw_m ad ca u) H) (hS : va_S (xk_A ads s.heap.size) s.heap H locs) (hl : lv_has ls 7 [(0, .ref (ad 0)), (1, .int b1), (4, .int b4)]) : W p l e rm_Model_bodyForm s m args below meth c H locs 0 0 (xk_MQ below (xk_Qc D kx_cl (kw_m ad ca) ads (xo_v (.inl r)) u') args s (xk_A ads s.heap.size)) (F0 m 215 ls []) := by
  have hx := C.1.1
  have hb := C.1.2.1
  have hok := C.2.2.1
  unfold jb_Model_bodyForm_215 at h
  refine lv_aload_n hx hb dd_Model_bodyForm_215 rfl (lv_at hl 0 rfl) ?_
  refine gf_m_Model_0_at C hP dd_Model_bodyForm_216 ?_
  refine lv_iload hx hb dd_Model_bodyForm_219 (lv_at hl 2 rfl) ?_
  refine lv_icmp_eq (tgt := 229) hx hb dd_Model_bodyForm_221 (by decide) (fun hc => ?_) (fun hc => ?_)
  · have h := xp_t hc h
    refine lv_aload_n hx hb dd_Model_bodyForm_229 rfl (lv_at hl 0 rfl) ?_
    refine lv_iload_n hx hb dd_Model_bodyForm_230 rfl (lv_at hl 1 rfl) ?_
    refine pf_m_Model_0_limit C hP hS dd_Model_bodyForm_231 (fun H locs hP hS => ?_)
    obtain ⟨u9, eu9, h⟩ := xp_let h
    rw [← eu9] at hP
    obtain ⟨rfl, rfl⟩ := xp_r h
    exact xr_vret C hP hS dd_Model_bodyForm_234
  · have h := xp_f hc h
    refine lv_aload_n hx hb dd_Model_bodyForm_224 rfl (lv_at hl 0 rfl) ?_
    refine lv_iconst (v := (-1)) hx hb dd_Model_bodyForm_225 (by decide) ?_
    obtain ⟨rx, u10, hq, h⟩ := xp_seq h
    refine xk_goesV (xr_V (As := [.int (-1 : Int32)]) (rest := []) C hP hS (ct_Model_fail htr hok hq) kq_Model_174 0 11 rfl rfl ⟨rfl, rfl, Nat.le_of_ble_eq_true rfl, Nat.le_of_ble_eq_true rfl⟩ ⟨Nat.le_of_ble_eq_true rfl, Nat.le_of_ble_eq_true rfl⟩ hl.1 rfl rfl (Nat.le_of_ble_eq_true rfl) dd_Model_bodyForm_226) hS (fun H locs hP hS => ?_)
    clear hq
    refine lv_aload_n hx hb dd_Model_bodyForm_229 rfl (lv_at hl 0 rfl) ?_
    refine lv_iload_n hx hb dd_Model_bodyForm_230 rfl (lv_at hl 1 rfl) ?_
    refine pf_m_Model_0_limit C hP hS dd_Model_bodyForm_231 (fun H locs hP hS => ?_)
    obtain ⟨u11, eu11, h⟩ := xp_let h
    rw [← eu11] at hP
    obtain ⟨rfl, rfl⟩ := xp_r h
    exact xr_vret C hP hS dd_Model_bodyForm_234
set_option maxHeartbeats 4000000 in
set_option maxRecDepth 100000 in
theorem wj_Model_bodyForm_207 {p : Program} {l : Launch} {e : Env} {s : State} {m : MethodId} {args : Array Value} {below : List Frame} {meth : Method} {c : Code} {D : va_G} {ad : Nat → Nat} {ca : Nat → ClassId} {ads : List Nat} {fu : Nat} (htr : l.stackTraces = false) (C : xk_C D kx_cl (kx_ty ca) (kw_m ad ca) ads "ModuleHouseModel" prog_14_method_37_code 7 none p e s m args meth c) (hne : c.exceptionTable.isEmpty = true) {u' : xk_St} {r : Unit} {k102 : Int32 → Int32 → Int32 → xk_St → Option (Unit × xk_St)} (hk102 : ∀ (c0 : Int32) (c1 : Int32) (c2 : Int32) (u : xk_St) (H : Heap) (locs : List Loc) (ls : Array Slot), k102 c0 c1 c2 u = some (r, u') → va_P D kx_cl (kw_m ad ca u) H → va_S (xk_A ads s.heap.size) s.heap H locs → lv_has ls 7 [(0, .ref (ad 0)), (1, .int c0), (4, .int c1), (5, .int c2)] → W p l e rm_Model_bodyForm s m args below meth c H locs 0 0 (xk_MQ below (xk_Qc D kx_cl (kw_m ad ca) ads (xo_v (.inl r)) u') args s (xk_A ads s.heap.size)) (F0 m 102 ls [])) {b1 : Int32} {b4 : Int32} {b5 : Int32} {s0 : Int32} {s1 : Int32} {u : xk_St} {H : Heap} {locs : List Loc} {ls : Array Slot} (h : jb_Model_bodyForm_207 fu k102 b1 b4 b5 s0 s1 u = some (r, u')) (hP : va_P D kx_cl (kw_m ad ca u) H) (hS : va_S (xk_A ads s.heap.size) s.heap H locs) (hl : lv_has ls 7 [(0, .ref (ad 0)), (1, .int b1), (4, .int b4), (5, .int b5)]) : W p l e rm_Model_bodyForm s m args below meth c H locs 0 0 (xk_MQ below (xk_Qc D kx_cl (kw_m ad ca) ads (xo_v (.inl r)) u') args s (xk_A ads s.heap.size)) (F0 m 207 ls [.int s0, .int s1, .ref (ad 5)]) := by
  have hx := C.1.1
  have hb := C.1.2.1
  have hok := C.2.2.1
  unfold jb_Model_bodyForm_207 at h
  refine lv_i2b hx hb dd_Model_bodyForm_207 rfl ?_
  obtain ⟨hi, h⟩ := xp_g h
  refine as_m_5 C hP hS hi dd_Model_bodyForm_208 (fun H locs hP hS => ?_)
  obtain ⟨u15, eu15, h⟩ := xp_let h
  rw [← eu15] at hP
  obtain ⟨a16, ea16, h⟩ := xp_let h
  refine lv_iinc (v := a16) (lv' := [(5, .int a16), (0, .ref (ad 0)), (1, .int b1), (4, .int b4)]) hx hb dd_Model_bodyForm_209 hl (k := 3) rfl (by rw [ea16]; first | rfl | decide) (by decide) rfl (fun ls hl => ?_)
  refine lv_goto (tgt := 102) hx hb dd_Model_bodyForm_212 (by decide) ?_
  exact hk102 b1 b4 a16 u15 _ _ _ h hP hS (lv_sub hl [1, 2, 3, 0] rfl)
set_option maxHeartbeats 4000000 in
set_option maxRecDepth 100000 in
theorem wj_Model_bodyForm_158 {p : Program} {l : Launch} {e : Env} {s : State} {m : MethodId} {args : Array Value} {below : List Frame} {meth : Method} {c : Code} {D : va_G} {ad : Nat → Nat} {ca : Nat → ClassId} {ads : List Nat} {fu : Nat} (htr : l.stackTraces = false) (C : xk_C D kx_cl (kx_ty ca) (kw_m ad ca) ads "ModuleHouseModel" prog_14_method_37_code 7 none p e s m args meth c) (hne : c.exceptionTable.isEmpty = true) {u' : xk_St} {r : Unit} {k102 : Int32 → Int32 → Int32 → xk_St → Option (Unit × xk_St)} (hk102 : ∀ (c0 : Int32) (c1 : Int32) (c2 : Int32) (u : xk_St) (H : Heap) (locs : List Loc) (ls : Array Slot), k102 c0 c1 c2 u = some (r, u') → va_P D kx_cl (kw_m ad ca u) H → va_S (xk_A ads s.heap.size) s.heap H locs → lv_has ls 7 [(0, .ref (ad 0)), (1, .int c0), (4, .int c1), (5, .int c2)] → W p l e rm_Model_bodyForm s m args below meth c H locs 0 0 (xk_MQ below (xk_Qc D kx_cl (kw_m ad ca) ads (xo_v (.inl r)) u') args s (xk_A ads s.heap.size)) (F0 m 102 ls [])) {b1 : Int32} {b4 : Int32} {b5 : Int32} {u : xk_St} {H : Heap} {locs : List Loc} {ls : Array Slot} (h : jb_Model_bodyForm_158 fu k102 b1 b4 b5 u = some (r, u')) (hP : va_P D kx_cl (kw_m ad ca u) H) (hS : va_S (xk_A ads s.heap.size) s.heap H locs) (hl : lv_has ls 7 [(0, .ref (ad 0)), (1, .int b1), (4, .int b4), (5, .int b5)]) : W p l e rm_Model_bodyForm s m args below meth c H locs 0 0 (xk_MQ below (xk_Qc D kx_cl (kw_m ad ca) ads (xo_v (.inl r)) u') args s (xk_A ads s.heap.size)) (F0 m 158 ls []) := by
  have hx := C.1.1
  have hb := C.1.2.1
  have hok := C.2.2.1
  unfold jb_Model_bodyForm_158 at h
  refine lv_aload_n hx hb dd_Model_bodyForm_158 rfl (lv_at hl 0 rfl) ?_
  refine gf_m_Model_0_opened C hP dd_Model_bodyForm_159 ?_
  refine lv_iload hx hb dd_Model_bodyForm_162 (lv_at hl 3 rfl) ?_
  refine lv_iconst (v := 1) hx hb dd_Model_bodyForm_164 (by decide) ?_
  refine lv_isub hx hb dd_Model_bodyForm_165 ?_
  refine lv_iconst (v := 0) hx hb dd_Model_bodyForm_166 (by decide) ?_
  obtain ⟨hi, h⟩ := xp_g h
  refine as_m_5 C hP hS hi dd_Model_bodyForm_167 (fun H locs hP hS => ?_)
  obtain ⟨u17, eu17, h⟩ := xp_let h
  rw [← eu17] at hP
  refine lv_goto (tgt := 102) hx hb dd_Model_bodyForm_168 (by decide) ?_
  exact hk102 b1 b4 b5 u17 _ _ _ h hP hS (lv_sub hl [0, 1, 2, 3] rfl)
set_option maxHeartbeats 4000000 in
set_option maxRecDepth 100000 in
theorem wj_Model_bodyForm_102 {p : Program} {l : Launch} {e : Env} {s : State} {m : MethodId} {args : Array Value} {below : List Frame} {meth : Method} {c : Code} {D : va_G} {ad : Nat → Nat} {ca : Nat → ClassId} {ads : List Nat} {fu : Nat} (htr : l.stackTraces = false) (C : xk_C D kx_cl (kx_ty ca) (kw_m ad ca) ads "ModuleHouseModel" prog_14_method_37_code 7 none p e s m args meth c) (hne : c.exceptionTable.isEmpty = true) {u' : xk_St} {r : Unit} : ∀ {n : Nat} {b1 : Int32} {b4 : Int32} {b5 : Int32} {u : xk_St} {H : Heap} {locs : List Loc} {ls : Array Slot} (h : jb_Model_bodyForm_102 fu  n b1 b4 b5 u = some (r, u')) (hP : va_P D kx_cl (kw_m ad ca u) H) (hS : va_S (xk_A ads s.heap.size) s.heap H locs) (hl : lv_has ls 7 [(0, .ref (ad 0)), (1, .int b1), (4, .int b4), (5, .int b5)]), W p l e rm_Model_bodyForm s m args below meth c H locs 0 0 (xk_MQ below (xk_Qc D kx_cl (kw_m ad ca) ads (xo_v (.inl r)) u') args s (xk_A ads s.heap.size)) (F0 m 102 ls []) := by
  intro n
  have hx := C.1.1
  have hb := C.1.2.1
  have hok := C.2.2.1
  induction n with
  | zero =>
    intro _ _ _ u H locs ls h
    have h : none = some (r, u') := h
    cases h
  | succ n ih =>
    intro b1 b4 b5 u H locs ls h hP hS hl
    unfold jb_Model_bodyForm_102 at h
    obtain ⟨k102, ek102, h⟩ := xp_let h
    have hk102 : ∀ (c0 : Int32) (c1 : Int32) (c2 : Int32) (u : xk_St) (H : Heap) (locs : List Loc) (ls : Array Slot), k102 c0 c1 c2 u = some (r, u') → va_P D kx_cl (kw_m ad ca u) H → va_S (xk_A ads s.heap.size) s.heap H locs → lv_has ls 7 [(0, .ref (ad 0)), (1, .int c0), (4, .int c1), (5, .int c2)] → W p l e rm_Model_bodyForm s m args below meth c H locs 0 0 (xk_MQ below (xk_Qc D kx_cl (kw_m ad ca) ads (xo_v (.inl r)) u') args s (xk_A ads s.heap.size)) (F0 m 102 ls []) := by
      intro c0 c1 c2 u H locs ls h hP hS hl
      subst ek102
      exact ih h hP hS hl
    clear ih ek102
    refine lv_iload hx hb dd_Model_bodyForm_102 (lv_at hl 3 rfl) ?_
    refine lv_if_le (tgt := 215) hx hb dd_Model_bodyForm_104 (by decide) (fun hc => ?_) (fun hc => ?_)
    · have h := xp_t hc h
      exact wj_Model_bodyForm_215 htr C hne h hP hS (lv_sub hl [0, 1, 2] rfl)
    · have h := xp_f hc h
      refine lv_aload_n hx hb dd_Model_bodyForm_107 rfl (lv_at hl 0 rfl) ?_
      refine gf_m_Model_0_bad C hP dd_Model_bodyForm_108 ?_
      refine lv_if_ne (tgt := 215) hx hb dd_Model_bodyForm_111 (by decide) (fun hc => ?_) (fun hc => ?_)
      · have h := xp_f hc h
        exact wj_Model_bodyForm_215 htr C hne h hP hS (lv_sub hl [0, 1, 2] rfl)
      · have h := xp_t hc h
        refine lv_aload_n hx hb dd_Model_bodyForm_114 rfl (lv_at hl 0 rfl) ?_
        obtain ⟨rx, u12, hq, h⟩ := xp_seq h
        refine xk_goesV (xr_V (As := []) (rest := []) C hP hS (ct_Model_instruction htr hok hq) kq_Model_381 0 11 rfl rfl ⟨rfl, rfl, Nat.le_of_ble_eq_true rfl, Nat.le_of_ble_eq_true rfl⟩ ⟨Nat.le_of_ble_eq_true rfl, Nat.le_of_ble_eq_true rfl⟩ hl.1 rfl rfl (Nat.le_of_ble_eq_true rfl) dd_Model_bodyForm_115) hS (fun H locs hP hS => ?_)
        clear hq
        refine lv_aload_n hx hb dd_Model_bodyForm_118 rfl (lv_at hl 0 rfl) ?_
        refine gf_m_Model_0_op C hP dd_Model_bodyForm_119 ?_
        refine lv_bipush (v := 11) hx hb dd_Model_bodyForm_122 (by decide) ?_
        refine lv_icmp_ne (tgt := 133) hx hb dd_Model_bodyForm_124 (by decide) (fun hc => ?_) (fun hc => ?_)
        · have h := xp_f hc h
          refine lv_aload_n hx hb dd_Model_bodyForm_133 rfl (lv_at hl 0 rfl) ?_
          refine gf_m_Model_0_op C hP dd_Model_bodyForm_134 ?_
          refine lv_iconst (v := 5) hx hb dd_Model_bodyForm_137 (by decide) ?_
          refine lv_icmp_ne (tgt := 171) hx hb dd_Model_bodyForm_138 (by decide) (fun hc => ?_) (fun hc => ?_)
          · have h := xp_f hc h
            refine lv_aload_n hx hb dd_Model_bodyForm_171 rfl (lv_at hl 0 rfl) ?_
            refine gf_m_Model_0_op C hP dd_Model_bodyForm_172 ?_
            refine lv_i2l hx hb dd_Model_bodyForm_175 rfl ?_
            refine lv_ldc2 (v := 2) hx hb C.1.2.2.2.1 (C.1.2.2.2.2 _ (xk_c9 (w := Jvm.Cond.constantLong "ModuleHouseModel" 283 2) 200 rfl rfl)) dd_Model_bodyForm_176 ?_
            refine lv_ldc2 (v := 4) hx hb C.1.2.2.2.1 (C.1.2.2.2.2 _ (xk_c9 (w := Jvm.Cond.constantLong "ModuleHouseModel" 285 4) 201 rfl rfl)) dd_Model_bodyForm_179 ?_
            obtain ⟨a13, u14, hq, h⟩ := xp_seq h
            refine xk_goesI (xr_S (As := [.long ((u12.1 8).toInt64), .long (2 : Int64), .long (4 : Int64)]) (rest := []) C hP hS (ct_Model_in htr hok hq) kq_Model_219 ⟨rfl, rfl, Nat.le_of_ble_eq_true rfl, Nat.le_of_ble_eq_true rfl⟩ ⟨Nat.le_of_ble_eq_true rfl, Nat.le_of_ble_eq_true rfl⟩ hl.1 rfl rfl (Nat.le_of_ble_eq_true rfl) dd_Model_bodyForm_182) hS (fun H locs hP hS => ?_)
            clear hq
            refine lv_if_eq (tgt := 102) hx hb dd_Model_bodyForm_185 (by decide) (fun hc => ?_) (fun hc => ?_)
            · have h := xp_t hc h
              exact hk102 b1 b4 b5 u14 _ _ _ h hP hS (lv_sub hl [0, 1, 2, 3] rfl)
            · have h := xp_f hc h
              refine lv_aload_n hx hb dd_Model_bodyForm_188 rfl (lv_at hl 0 rfl) ?_
              refine gf_m_Model_0_opened C hP dd_Model_bodyForm_189 ?_
              refine lv_iload hx hb dd_Model_bodyForm_192 (lv_at hl 3 rfl) ?_
              refine lv_aload_n hx hb dd_Model_bodyForm_194 rfl (lv_at hl 0 rfl) ?_
              refine gf_m_Model_0_op C hP dd_Model_bodyForm_195 ?_
              refine lv_iconst (v := 4) hx hb dd_Model_bodyForm_198 (by decide) ?_
              refine lv_icmp_ne (tgt := 206) hx hb dd_Model_bodyForm_199 (by decide) (fun hc => ?_) (fun hc => ?_)
              · have h := xp_f hc h
                refine lv_iconst (v := 0) hx hb dd_Model_bodyForm_206 (by decide) ?_
                exact wj_Model_bodyForm_207 htr C hne hk102 h hP hS (lv_sub hl [0, 1, 2, 3] rfl)
              · have h := xp_t hc h
                refine lv_iconst (v := 1) hx hb dd_Model_bodyForm_202 (by decide) ?_
                refine lv_goto (tgt := 207) hx hb dd_Model_bodyForm_203 (by decide) ?_
                exact wj_Model_bodyForm_207 htr C hne hk102 h hP hS (lv_sub hl [0, 1, 2, 3] rfl)
          · have h := xp_t hc h
            refine lv_aload_n hx hb dd_Model_bodyForm_141 rfl (lv_at hl 0 rfl) ?_
            refine gf_m_Model_0_opened C hP dd_Model_bodyForm_142 ?_
            refine lv_iload hx hb dd_Model_bodyForm_145 (lv_at hl 3 rfl) ?_
            refine lv_iconst (v := 1) hx hb dd_Model_bodyForm_147 (by decide) ?_
            refine lv_isub hx hb dd_Model_bodyForm_148 ?_
            obtain ⟨hi, h⟩ := xp_g h
            refine al_m_5 C hP hi dd_Model_bodyForm_149 ?_
            refine lv_if_ne (tgt := 158) hx hb dd_Model_bodyForm_150 (by decide) (fun hc => ?_) (fun hc => ?_)
            · have h := xp_f hc h
              exact wj_Model_bodyForm_158 htr C hne hk102 h hP hS (lv_sub hl [0, 1, 2, 3] rfl)
            · have h := xp_t hc h
              refine lv_aload_n hx hb dd_Model_bodyForm_153 rfl (lv_at hl 0 rfl) ?_
              refine lv_iconst (v := (-1)) hx hb dd_Model_bodyForm_154 (by decide) ?_
              obtain ⟨rx, u18, hq, h⟩ := xp_seq h
              refine xk_goesV (xr_V (As := [.int (-1 : Int32)]) (rest := []) C hP hS (ct_Model_fail htr hok hq) kq_Model_174 0 11 rfl rfl ⟨rfl, rfl, Nat.le_of_ble_eq_true rfl, Nat.le_of_ble_eq_true rfl⟩ ⟨Nat.le_of_ble_eq_true rfl, Nat.le_of_ble_eq_true rfl⟩ hl.1 rfl rfl (Nat.le_of_ble_eq_true rfl) dd_Model_bodyForm_155) hS (fun H locs hP hS => ?_)
              clear hq
              exact wj_Model_bodyForm_158 htr C hne hk102 h hP hS (lv_sub hl [0, 1, 2, 3] rfl)
        · have h := xp_t hc h
          obtain ⟨a19, ea19, h⟩ := xp_let h
          refine lv_iinc (v := a19) (lv' := [(5, .int a19), (0, .ref (ad 0)), (1, .int b1), (4, .int b4)]) hx hb dd_Model_bodyForm_127 hl (k := 3) rfl (by rw [ea19]; first | rfl | decide) (by decide) rfl (fun ls hl => ?_)
          refine lv_goto (tgt := 102) hx hb dd_Model_bodyForm_130 (by decide) ?_
          exact hk102 b1 b4 a19 u12 _ _ _ h hP hS (lv_sub hl [1, 2, 3, 0] rfl)
set_option maxHeartbeats 4000000 in
set_option maxRecDepth 100000 in
theorem wj_Model_bodyForm_92 {p : Program} {l : Launch} {e : Env} {s : State} {m : MethodId} {args : Array Value} {below : List Frame} {meth : Method} {c : Code} {D : va_G} {ad : Nat → Nat} {ca : Nat → ClassId} {ads : List Nat} {fu : Nat} (htr : l.stackTraces = false) (C : xk_C D kx_cl (kx_ty ca) (kw_m ad ca) ads "ModuleHouseModel" prog_14_method_37_code 7 none p e s m args meth c) (hne : c.exceptionTable.isEmpty = true) {u' : xk_St} {r : Unit} {b1 : Int32} {b4 : Int32} {u : xk_St} {H : Heap} {locs : List Loc} {ls : Array Slot} (h : jb_Model_bodyForm_92 fu  b1 b4 u = some (r, u')) (hP : va_P D kx_cl (kw_m ad ca u) H) (hS : va_S (xk_A ads s.heap.size) s.heap H locs) (hl : lv_has ls 7 [(0, .ref (ad 0)), (1, .int b1), (4, .int b4)]) : W p l e rm_Model_bodyForm s m args below meth c H locs 0 0 (xk_MQ below (xk_Qc D kx_cl (kw_m ad ca) ads (xo_v (.inl r)) u') args s (xk_A ads s.heap.size)) (F0 m 92 ls []) := by
  have hx := C.1.1
  have hb := C.1.2.1
  have hok := C.2.2.1
  unfold jb_Model_bodyForm_92 at h
  refine lv_iconst (v := 1) hx hb dd_Model_bodyForm_92 (by decide) ?_
  refine lv_istore (lv' := [(5, .int (1 : Int32)), (0, .ref (ad 0)), (1, .int b1), (4, .int b4)]) hx hb dd_Model_bodyForm_93 hl (by decide) rfl (fun ls hl => ?_)
  refine lv_aload_n hx hb dd_Model_bodyForm_95 rfl (lv_at hl 1 rfl) ?_
  refine gf_m_Model_0_opened C hP dd_Model_bodyForm_96 ?_
  refine lv_iconst (v := 0) hx hb dd_Model_bodyForm_99 (by decide) ?_
  refine lv_iconst (v := 0) hx hb dd_Model_bodyForm_100 (by decide) ?_
  obtain ⟨hi, h⟩ := xp_g h
  refine as_m_5 C hP hS hi dd_Model_bodyForm_101 (fun H locs hP hS => ?_)
  obtain ⟨u8, eu8, h⟩ := xp_let h
  rw [← eu8] at hP
  exact wj_Model_bodyForm_102 htr C hne h hP hS (lv_sub hl [1, 2, 3, 0] rfl)
set_option maxHeartbeats 4000000 in
set_option maxRecDepth 100000 in
theorem wj_Model_bodyForm_59 {p : Program} {l : Launch} {e : Env} {s : State} {m : MethodId} {args : Array Value} {below : List Frame} {meth : Method} {c : Code} {D : va_G} {ad : Nat → Nat} {ca : Nat → ClassId} {ads : List Nat} {fu : Nat} (htr : l.stackTraces = false) (C : xk_C D kx_cl (kx_ty ca) (kw_m ad ca) ads "ModuleHouseModel" prog_14_method_37_code 7 none p e s m args meth c) (hne : c.exceptionTable.isEmpty = true) {u' : xk_St} {r : Unit} : ∀ {n : Nat} {b1 : Int32} {b4 : Int32} {b5 : Int64} {u : xk_St} {H : Heap} {locs : List Loc} {ls : Array Slot} (h : jb_Model_bodyForm_59 fu  n b1 b4 b5 u = some (r, u')) (hP : va_P D kx_cl (kw_m ad ca u) H) (hS : va_S (xk_A ads s.heap.size) s.heap H locs) (hl : lv_has ls 7 [(0, .ref (ad 0)), (1, .int b1), (4, .int b4), (5, .long b5)]), W p l e rm_Model_bodyForm s m args below meth c H locs 0 0 (xk_MQ below (xk_Qc D kx_cl (kw_m ad ca) ads (xo_v (.inl r)) u') args s (xk_A ads s.heap.size)) (F0 m 59 ls []) := by
  intro n
  have hx := C.1.1
  have hb := C.1.2.1
  have hok := C.2.2.1
  induction n with
  | zero =>
    intro _ _ _ u H locs ls h
    have h : none = some (r, u') := h
    cases h
  | succ n ih =>
    intro b1 b4 b5 u H locs ls h hP hS hl
    unfold jb_Model_bodyForm_59 at h
    obtain ⟨k59, ek59, h⟩ := xp_let h
    have hk59 : ∀ (c0 : Int32) (c1 : Int32) (c2 : Int64) (u : xk_St) (H : Heap) (locs : List Loc) (ls : Array Slot), k59 c0 c1 c2 u = some (r, u') → va_P D kx_cl (kw_m ad ca u) H → va_S (xk_A ads s.heap.size) s.heap H locs → lv_has ls 7 [(0, .ref (ad 0)), (1, .int c0), (4, .int c1), (5, .long c2)] → W p l e rm_Model_bodyForm s m args below meth c H locs 0 0 (xk_MQ below (xk_Qc D kx_cl (kw_m ad ca) ads (xo_v (.inl r)) u') args s (xk_A ads s.heap.size)) (F0 m 59 ls []) := by
      intro c0 c1 c2 u H locs ls h hP hS hl
      subst ek59
      exact ih h hP hS hl
    clear ih ek59
    refine lv_lload hx hb dd_Model_bodyForm_59 (lv_at hl 3 rfl) ?_
    refine lv_lconst (v := 0) hx hb dd_Model_bodyForm_61 (by decide) ?_
    refine xr_lc_le (tgt := 92) hx hb dd_Model_bodyForm_62 dd_Model_bodyForm_63 (by decide) (fun hc => ?_) (fun hc => ?_)
    · have h := xp_t hc h
      exact wj_Model_bodyForm_92 htr C hne h hP hS (lv_sub hl [0, 1, 2] rfl)
    · have h := xp_f hc h
      refine lv_aload_n hx hb dd_Model_bodyForm_66 rfl (lv_at hl 0 rfl) ?_
      refine gf_m_Model_0_bad C hP dd_Model_bodyForm_67 ?_
      refine lv_if_ne (tgt := 92) hx hb dd_Model_bodyForm_70 (by decide) (fun hc => ?_) (fun hc => ?_)
      · have h := xp_f hc h
        exact wj_Model_bodyForm_92 htr C hne h hP hS (lv_sub hl [0, 1, 2] rfl)
      · have h := xp_t hc h
        refine lv_aload_n hx hb dd_Model_bodyForm_73 rfl (lv_at hl 0 rfl) ?_
        obtain ⟨a20, u21, hq, h⟩ := xp_seq h
        refine xk_goesL (xr_V (As := []) (rest := []) C hP hS (ct_Model_number htr hok hq) kq_Model_295 0 11 rfl rfl ⟨rfl, rfl, Nat.le_of_ble_eq_true rfl, Nat.le_of_ble_eq_true rfl⟩ ⟨Nat.le_of_ble_eq_true rfl, Nat.le_of_ble_eq_true rfl⟩ hl.1 rfl rfl (Nat.le_of_ble_eq_true rfl) dd_Model_bodyForm_74) hS (fun H locs hP hS => ?_)
        clear hq
        refine lv_pop2_2 hx hb dd_Model_bodyForm_77 rfl ?_
        refine lv_aload_n hx hb dd_Model_bodyForm_78 rfl (lv_at hl 0 rfl) ?_
        obtain ⟨a22, u23, hq, h⟩ := xp_seq h
        refine xk_goesI (xr_V (As := []) (rest := []) C hP hS (ct_Model_valueType htr hok hq) kq_Model_210 0 11 rfl rfl ⟨rfl, rfl, Nat.le_of_ble_eq_true rfl, Nat.le_of_ble_eq_true rfl⟩ ⟨Nat.le_of_ble_eq_true rfl, Nat.le_of_ble_eq_true rfl⟩ hl.1 rfl rfl (Nat.le_of_ble_eq_true rfl) dd_Model_bodyForm_79) hS (fun H locs hP hS => ?_)
        clear hq
        refine lv_pop hx hb dd_Model_bodyForm_82 rfl ?_
        refine lv_lload hx hb dd_Model_bodyForm_83 (lv_at hl 3 rfl) ?_
        refine lv_lconst (v := 1) hx hb dd_Model_bodyForm_85 (by decide) ?_
        refine lv_lsub hx hb dd_Model_bodyForm_86 ?_
        obtain ⟨a24, ea24, h⟩ := xp_let h
        refine xr_naml ea24 ?_
        refine lv_lstore (lv' := [(5, .long a24), (0, .ref (ad 0)), (1, .int b1), (4, .int b4)]) hx hb dd_Model_bodyForm_87 hl (by decide) rfl (fun ls hl => ?_)
        refine lv_goto (tgt := 59) hx hb dd_Model_bodyForm_89 (by decide) ?_
        exact hk59 b1 b4 a24 u23 _ _ _ h hP hS (lv_sub hl [1, 2, 3, 0] rfl)
set_option maxHeartbeats 4000000 in
set_option maxRecDepth 100000 in
theorem wj_Model_bodyForm_30 {p : Program} {l : Launch} {e : Env} {s : State} {m : MethodId} {args : Array Value} {below : List Frame} {meth : Method} {c : Code} {D : va_G} {ad : Nat → Nat} {ca : Nat → ClassId} {ads : List Nat} {fu : Nat} (htr : l.stackTraces = false) (C : xk_C D kx_cl (kx_ty ca) (kw_m ad ca) ads "ModuleHouseModel" prog_14_method_37_code 7 none p e s m args meth c) (hne : c.exceptionTable.isEmpty = true) {u' : xk_St} {r : Unit} {b1 : Int32} {b2 : Int64} {u : xk_St} {H : Heap} {locs : List Loc} {ls : Array Slot} (h : jb_Model_bodyForm_30 fu  b1 b2 u = some (r, u')) (hP : va_P D kx_cl (kw_m ad ca u) H) (hS : va_S (xk_A ads s.heap.size) s.heap H locs) (hl : lv_has ls 7 [(0, .ref (ad 0)), (1, .int b1), (2, .long b2)]) : W p l e rm_Model_bodyForm s m args below meth c H locs 0 0 (xk_MQ below (xk_Qc D kx_cl (kw_m ad ca) ads (xo_v (.inl r)) u') args s (xk_A ads s.heap.size)) (F0 m 30 ls []) := by
  have hx := C.1.1
  have hb := C.1.2.1
  have hok := C.2.2.1
  unfold jb_Model_bodyForm_30 at h
  refine lv_aload_n hx hb dd_Model_bodyForm_30 rfl (lv_at hl 0 rfl) ?_
  refine gf_m_Model_0_bad C hP dd_Model_bodyForm_31 ?_
  refine lv_if_eq (tgt := 38) hx hb dd_Model_bodyForm_34 (by decide) (fun hc => ?_) (fun hc => ?_)
  · have h := xp_t hc h
    refine lv_aload_n hx hb dd_Model_bodyForm_38 rfl (lv_at hl 0 rfl) ?_
    refine gf_m_Model_0_at C hP dd_Model_bodyForm_39 ?_
    refine lv_lload_n hx hb dd_Model_bodyForm_42 rfl (lv_at hl 2 rfl) ?_
    refine lv_l2i hx hb dd_Model_bodyForm_43 rfl ?_
    refine lv_iadd hx hb dd_Model_bodyForm_44 ?_
    obtain ⟨a4, ea4, h⟩ := xp_let h
    refine xr_nami ea4 ?_
    refine lv_istore (lv' := [(4, .int a4), (0, .ref (ad 0)), (1, .int b1), (2, .long b2)]) hx hb dd_Model_bodyForm_45 hl (by decide) rfl (fun ls hl => ?_)
    refine lv_aload_n hx hb dd_Model_bodyForm_47 rfl (lv_at hl 1 rfl) ?_
    refine lv_iload hx hb dd_Model_bodyForm_48 (lv_at hl 0 rfl) ?_
    refine pf_m_Model_0_limit C hP hS dd_Model_bodyForm_50 (fun H locs hP hS => ?_)
    obtain ⟨u5, eu5, h⟩ := xp_let h
    rw [← eu5] at hP
    refine lv_aload_n hx hb dd_Model_bodyForm_53 rfl (lv_at hl 1 rfl) ?_
    obtain ⟨a6, u7, hq, h⟩ := xp_seq h
    refine xk_goesL (xr_V (As := []) (rest := []) C hP hS (ct_Model_number htr hok hq) kq_Model_295 0 11 rfl rfl ⟨rfl, rfl, Nat.le_of_ble_eq_true rfl, Nat.le_of_ble_eq_true rfl⟩ ⟨Nat.le_of_ble_eq_true rfl, Nat.le_of_ble_eq_true rfl⟩ hl.1 rfl rfl (Nat.le_of_ble_eq_true rfl) dd_Model_bodyForm_54) hS (fun H locs hP hS => ?_)
    clear hq
    refine lv_lstore (lv' := [(5, .long a6), (4, .int a4), (0, .ref (ad 0)), (1, .int b1), (2, .long b2)]) hx hb dd_Model_bodyForm_57 hl (by decide) rfl (fun ls hl => ?_)
    exact wj_Model_bodyForm_59 htr C hne h hP hS (lv_sub hl [2, 3, 1, 0] rfl)
  · have h := xp_f hc h
    obtain ⟨rfl, rfl⟩ := xp_r h
    exact xr_vret C hP hS dd_Model_bodyForm_37
set_option maxHeartbeats 4000000 in
set_option maxRecDepth 100000 in
theorem ct_Model_bodyForm {l : Launch} {D : va_G} {ad : Nat → Nat} {ca : Nat → ClassId} {ads : List Nat} (htr : l.stackTraces = false) (hok : xk_ok (kw_m ad ca) ads) {fu : Nat} {u u' : xk_St} {r : Unit} (h : fm_Model_bodyForm fu u = some (r, u')) :
    ∀ sz, xk_Met l ⟨"ModuleHouseModel", "bodyForm", "()V"⟩ (Cond.code ⟨"ModuleHouseModel", "bodyForm", "()V"⟩ prog_14_method_37_code 7 none :: xk_gd) rm_Model_bodyForm (xk_Pc D kx_cl (kx_ty ca) (kw_m ad ca) ads xk_F sz [.ref (ad 0)] u) (xk_Qc D kx_cl (kw_m ad ca) ads (xo_v (.inl r)) u') (xk_A ads sz) := by
  unfold fm_Model_bodyForm at h
  refine xk_con (by decide) htr hok (Nat.le_of_ble_eq_true rfl) (fun p e s m below meth c ls C hne hl hP => ?_)
  have hx := C.1.1
  have hb := C.1.2.1
  have hS : va_S (xk_A ads s.heap.size) s.heap s.heap [] := va_S.rf
  have hl : lv_has ls 7 [(0, .ref (ad 0))] := hl
  refine lv_aload_n hx hb dd_Model_bodyForm_0 rfl (lv_at hl 0 rfl) ?_
  refine gf_m_Model_0_limit C hP dd_Model_bodyForm_1 ?_
  obtain ⟨a1, ea1, h⟩ := xp_let h
  refine xr_nami ea1 ?_
  refine lv_istore_n (lv' := [(1, .int a1), (0, .ref (ad 0))]) hx hb dd_Model_bodyForm_4 rfl hl (by decide) rfl (fun ls hl => ?_)
  refine lv_aload_n hx hb dd_Model_bodyForm_5 rfl (lv_at hl 1 rfl) ?_
  obtain ⟨a2, u3, hq, h⟩ := xp_seq h
  refine xk_goesL (xr_V (As := []) (rest := []) C hP hS (ct_Model_number htr hok hq) kq_Model_295 0 11 rfl rfl ⟨rfl, rfl, Nat.le_of_ble_eq_true rfl, Nat.le_of_ble_eq_true rfl⟩ ⟨Nat.le_of_ble_eq_true rfl, Nat.le_of_ble_eq_true rfl⟩ hl.1 rfl rfl (Nat.le_of_ble_eq_true rfl) dd_Model_bodyForm_6) hS (fun H locs hP hS => ?_)
  clear hq
  refine lv_lstore_n (lv' := [(2, .long a2), (1, .int a1), (0, .ref (ad 0))]) hx hb dd_Model_bodyForm_9 rfl hl (by decide) rfl (fun ls hl => ?_)
  refine lv_lload_n hx hb dd_Model_bodyForm_10 rfl (lv_at hl 0 rfl) ?_
  refine lv_aload_n hx hb dd_Model_bodyForm_11 rfl (lv_at hl 2 rfl) ?_
  refine gf_m_Model_0_limit C hP dd_Model_bodyForm_12 ?_
  refine lv_aload_n hx hb dd_Model_bodyForm_15 rfl (lv_at hl 2 rfl) ?_
  refine gf_m_Model_0_at C hP dd_Model_bodyForm_16 ?_
  refine lv_isub hx hb dd_Model_bodyForm_19 ?_
  refine lv_i2l hx hb dd_Model_bodyForm_20 rfl ?_
  refine xr_lc_le (tgt := 30) hx hb dd_Model_bodyForm_21 dd_Model_bodyForm_22 (by decide) (fun hc => ?_) (fun hc => ?_)
  · have h := xp_t hc h
    exact wj_Model_bodyForm_30 htr C hne h hP hS (lv_sub hl [2, 1, 0] rfl)
  · have h := xp_f hc h
    refine lv_aload_n hx hb dd_Model_bodyForm_25 rfl (lv_at hl 2 rfl) ?_
    refine lv_iconst (v := (-1)) hx hb dd_Model_bodyForm_26 (by decide) ?_
    obtain ⟨rx, u25, hq, h⟩ := xp_seq h
    refine xk_goesV (xr_V (As := [.int (-1 : Int32)]) (rest := []) C hP hS (ct_Model_fail htr hok hq) kq_Model_174 0 11 rfl rfl ⟨rfl, rfl, Nat.le_of_ble_eq_true rfl, Nat.le_of_ble_eq_true rfl⟩ ⟨Nat.le_of_ble_eq_true rfl, Nat.le_of_ble_eq_true rfl⟩ hl.1 rfl rfl (Nat.le_of_ble_eq_true rfl) dd_Model_bodyForm_27) hS (fun H locs hP hS => ?_)
    clear hq
    exact wj_Model_bodyForm_30 htr C hne h hP hS (lv_sub hl [2, 1, 0] rfl)
abbrev rm_Model_section : Room := { frames := 9, cells := 1, slots := 6, locals := 179 }
noncomputable def jb_Model_section_204 (fu : Nat) (k20 : Int32 → Int64 → Int64 → xk_St → Option (Unit × xk_St)) (b1 : Int32) (b2 : Int64) (b4 : Int64) (u : xk_St) : Option (Unit × xk_St) :=
  (xs_let (b4 + (1 : Int64)) fun a4 => k20 b1 b2 a4 u)
noncomputable def jb_Model_section_196 (fu : Nat) (k20 : Int32 → Int64 → Int64 → xk_St → Option (Unit × xk_St)) (b1 : Int32) (b2 : Int64) (b4 : Int64) (u : xk_St) : Option (Unit × xk_St) :=
  (xs_seq (fm_Model_place fu u) fun _ u5 => xs_seq (fm_Model_bytesForm fu u5) fun _ u6 => jb_Model_section_204 fu k20 b1 b2 b4 u6)
noncomputable def jb_Model_section_186 (fu : Nat) (k20 : Int32 → Int64 → Int64 → xk_St → Option (Unit × xk_St)) (b1 : Int32) (b2 : Int64) (b4 : Int64) (u : xk_St) : Option (Unit × xk_St) :=
  jb_Model_section_204 fu k20 b1 b2 b4 u
noncomputable def jb_Model_section_158 (fu : Nat) (k20 : Int32 → Int64 → Int64 → xk_St → Option (Unit × xk_St)) : Nat → Int32 → Int64 → Int64 → Int64 → xk_St → Option (Unit × xk_St)
  | 0 => fun _ _ _ _ _ => none
  | n + 1 => fun b1 b2 b4 b6 u =>
    xs_let (jb_Model_section_158 fu k20 n) fun k158 =>
    if b6 ≤ (0 : Int64) then (jb_Model_section_186 fu k20 b1 b2 b4 u) else (if (u.1 6) = (0 : Int32) then ((xs_seq (fm_Model_number fu u) fun a22 u23 => xs_let (b6 - (1 : Int64)) fun a24 => k158 b1 b2 b4 a24 u23)) else (jb_Model_section_186 fu k20 b1 b2 b4 u))
noncomputable def jb_Model_section_20 (fu : Nat) : Nat → Int32 → Int64 → Int64 → xk_St → Option (Unit × xk_St)
  | 0 => fun _ _ _ _ => none
  | n + 1 => fun b1 b2 b4 u =>
    xs_let (jb_Model_section_20 fu  n) fun k20 =>
    if b2 ≤ b4 then (some ((()), u)) else (if (u.1 6) = (0 : Int32) then (if b1 = (1 : Int32) then ((xs_seq (fm_Model_typeForm fu u) fun _ u3 => jb_Model_section_204 fu k20 b1 b2 b4 u3)) else if b1 = (2 : Int32) then (jb_Model_section_196 fu k20 b1 b2 b4 u) else if b1 = (3 : Int32) then ((xs_seq (fm_Model_number fu u) fun a7 u8 => jb_Model_section_204 fu k20 b1 b2 b4 u8)) else if b1 = (4 : Int32) then ((xs_seq (fm_Model_needs (112 : Int32) u) fun _ u9 => xs_seq (fm_Model_limits fu u9) fun _ u10 => jb_Model_section_204 fu k20 b1 b2 b4 u10)) else if b1 = (5 : Int32) then ((xs_seq (fm_Model_limits fu u) fun _ u11 => jb_Model_section_204 fu k20 b1 b2 b4 u11)) else if b1 = (6 : Int32) then ((xs_seq (fm_Model_valueType fu u) fun a12 u13 => xs_seq (fm_Model_flag u13) fun a14 u15 => xs_seq (fm_Model_constant fu u15) fun a16 u17 => jb_Model_section_204 fu k20 b1 b2 b4 u17)) else if b1 = (7 : Int32) then ((xs_seq (fm_Model_exportForm fu u) fun _ u18 => jb_Model_section_204 fu k20 b1 b2 b4 u18)) else if b1 = (8 : Int32) then (jb_Model_section_196 fu k20 b1 b2 b4 u) else if b1 = (9 : Int32) then ((xs_seq (fm_Model_place fu u) fun _ u19 => xs_seq (fm_Model_number fu u19) fun a20 u21 => jb_Model_section_158 fu k20 fu b1 b2 b4 a20 u21)) else if b1 = (10 : Int32) then ((xs_seq (fm_Model_bodyForm fu u) fun _ u25 => jb_Model_section_204 fu k20 b1 b2 b4 u25)) else (jb_Model_section_196 fu k20 b1 b2 b4 u)) else (some ((()), u)))
noncomputable def fm_Model_section (fu : Nat) (x0 : Int32) (u : xk_St) : Option (Unit × xk_St) :=
  if x0 = (8 : Int32) then ((xs_seq (fm_Model_number fu u) fun a26 u27 => some ((()), u27))) else ((xs_seq (fm_Model_number fu u) fun a1 u2 => jb_Model_section_20 fu fu x0 a1 (0 : Int64) u2))
set_option maxHeartbeats 4000000 in
set_option maxRecDepth 100000 in
theorem wj_Model_section_204 {p : Program} {l : Launch} {e : Env} {s : State} {m : MethodId} {args : Array Value} {below : List Frame} {meth : Method} {c : Code} {D : va_G} {ad : Nat → Nat} {ca : Nat → ClassId} {ads : List Nat} {fu : Nat} (htr : l.stackTraces = false) (C : xk_C D kx_cl (kx_ty ca) (kw_m ad ca) ads "ModuleHouseModel" prog_14_method_29_code 8 none p e s m args meth c) (hne : c.exceptionTable.isEmpty = true) {u' : xk_St} {r : Unit} {k20 : Int32 → Int64 → Int64 → xk_St → Option (Unit × xk_St)} (hk20 : ∀ (c0 : Int32) (c1 : Int64) (c2 : Int64) (u : xk_St) (H : Heap) (locs : List Loc) (ls : Array Slot), k20 c0 c1 c2 u = some (r, u') → va_P D kx_cl (kw_m ad ca u) H → va_S (xk_A ads s.heap.size) s.heap H locs → lv_has ls 8 [(0, .ref (ad 0)), (1, .int c0), (2, .long c1), (4, .long c2)] → W p l e rm_Model_section s m args below meth c H locs 0 0 (xk_MQ below (xk_Qc D kx_cl (kw_m ad ca) ads (xo_v (.inl r)) u') args s (xk_A ads s.heap.size)) (F0 m 20 ls [])) {b1 : Int32} {b2 : Int64} {b4 : Int64} {u : xk_St} {H : Heap} {locs : List Loc} {ls : Array Slot} (h : jb_Model_section_204 fu k20 b1 b2 b4 u = some (r, u')) (hP : va_P D kx_cl (kw_m ad ca u) H) (hS : va_S (xk_A ads s.heap.size) s.heap H locs) (hl : lv_has ls 8 [(0, .ref (ad 0)), (1, .int b1), (2, .long b2), (4, .long b4)]) : W p l e rm_Model_section s m args below meth c H locs 0 0 (xk_MQ below (xk_Qc D kx_cl (kw_m ad ca) ads (xo_v (.inl r)) u') args s (xk_A ads s.heap.size)) (F0 m 204 ls []) := by
  have hx := C.1.1
  have hb := C.1.2.1
  have hok := C.2.2.1
  unfold jb_Model_section_204 at h
  refine lv_lload hx hb dd_Model_section_204 (lv_at hl 3 rfl) ?_
  refine lv_lconst (v := 1) hx hb dd_Model_section_206 (by decide) ?_
  refine lv_ladd hx hb dd_Model_section_207 ?_
  obtain ⟨a4, ea4, h⟩ := xp_let h
  refine xr_naml ea4 ?_
  refine lv_lstore (lv' := [(4, .long a4), (0, .ref (ad 0)), (1, .int b1), (2, .long b2)]) hx hb dd_Model_section_208 hl (by decide) rfl (fun ls hl => ?_)
  refine lv_goto (tgt := 20) hx hb dd_Model_section_210 (by decide) ?_
  exact hk20 b1 b2 a4 u _ _ _ h hP hS (lv_sub hl [1, 2, 3, 0] rfl)
set_option maxHeartbeats 4000000 in
set_option maxRecDepth 100000 in
theorem wj_Model_section_196 {p : Program} {l : Launch} {e : Env} {s : State} {m : MethodId} {args : Array Value} {below : List Frame} {meth : Method} {c : Code} {D : va_G} {ad : Nat → Nat} {ca : Nat → ClassId} {ads : List Nat} {fu : Nat} (htr : l.stackTraces = false) (C : xk_C D kx_cl (kx_ty ca) (kw_m ad ca) ads "ModuleHouseModel" prog_14_method_29_code 8 none p e s m args meth c) (hne : c.exceptionTable.isEmpty = true) {u' : xk_St} {r : Unit} {k20 : Int32 → Int64 → Int64 → xk_St → Option (Unit × xk_St)} (hk20 : ∀ (c0 : Int32) (c1 : Int64) (c2 : Int64) (u : xk_St) (H : Heap) (locs : List Loc) (ls : Array Slot), k20 c0 c1 c2 u = some (r, u') → va_P D kx_cl (kw_m ad ca u) H → va_S (xk_A ads s.heap.size) s.heap H locs → lv_has ls 8 [(0, .ref (ad 0)), (1, .int c0), (2, .long c1), (4, .long c2)] → W p l e rm_Model_section s m args below meth c H locs 0 0 (xk_MQ below (xk_Qc D kx_cl (kw_m ad ca) ads (xo_v (.inl r)) u') args s (xk_A ads s.heap.size)) (F0 m 20 ls [])) {b1 : Int32} {b2 : Int64} {b4 : Int64} {u : xk_St} {H : Heap} {locs : List Loc} {ls : Array Slot} (h : jb_Model_section_196 fu k20 b1 b2 b4 u = some (r, u')) (hP : va_P D kx_cl (kw_m ad ca u) H) (hS : va_S (xk_A ads s.heap.size) s.heap H locs) (hl : lv_has ls 8 [(0, .ref (ad 0)), (1, .int b1), (2, .long b2), (4, .long b4)]) : W p l e rm_Model_section s m args below meth c H locs 0 0 (xk_MQ below (xk_Qc D kx_cl (kw_m ad ca) ads (xo_v (.inl r)) u') args s (xk_A ads s.heap.size)) (F0 m 196 ls []) := by
  have hx := C.1.1
  have hb := C.1.2.1
  have hok := C.2.2.1
  unfold jb_Model_section_196 at h
  refine lv_aload_n hx hb dd_Model_section_196 rfl (lv_at hl 0 rfl) ?_
  obtain ⟨rx, u5, hq, h⟩ := xp_seq h
  refine xk_goesV (xr_V (As := []) (rest := []) C hP hS (ct_Model_place htr hok hq) kq_Model_366 0 11 rfl rfl ⟨rfl, rfl, Nat.le_of_ble_eq_true rfl, Nat.le_of_ble_eq_true rfl⟩ ⟨Nat.le_of_ble_eq_true rfl, Nat.le_of_ble_eq_true rfl⟩ hl.1 rfl rfl (Nat.le_of_ble_eq_true rfl) dd_Model_section_197) hS (fun H locs hP hS => ?_)
  clear hq
  refine lv_aload_n hx hb dd_Model_section_200 rfl (lv_at hl 0 rfl) ?_
  obtain ⟨rx, u6, hq, h⟩ := xp_seq h
  refine xk_goesV (xr_V (As := []) (rest := []) C hP hS (ct_Model_bytesForm htr hok hq) kq_Model_372 0 11 rfl rfl ⟨rfl, rfl, Nat.le_of_ble_eq_true rfl, Nat.le_of_ble_eq_true rfl⟩ ⟨Nat.le_of_ble_eq_true rfl, Nat.le_of_ble_eq_true rfl⟩ hl.1 rfl rfl (Nat.le_of_ble_eq_true rfl) dd_Model_section_201) hS (fun H locs hP hS => ?_)
  clear hq
  exact wj_Model_section_204 htr C hne hk20 h hP hS (lv_sub hl [0, 1, 2, 3] rfl)
set_option maxHeartbeats 4000000 in
set_option maxRecDepth 100000 in
theorem wj_Model_section_186 {p : Program} {l : Launch} {e : Env} {s : State} {m : MethodId} {args : Array Value} {below : List Frame} {meth : Method} {c : Code} {D : va_G} {ad : Nat → Nat} {ca : Nat → ClassId} {ads : List Nat} {fu : Nat} (htr : l.stackTraces = false) (C : xk_C D kx_cl (kx_ty ca) (kw_m ad ca) ads "ModuleHouseModel" prog_14_method_29_code 8 none p e s m args meth c) (hne : c.exceptionTable.isEmpty = true) {u' : xk_St} {r : Unit} {k20 : Int32 → Int64 → Int64 → xk_St → Option (Unit × xk_St)} (hk20 : ∀ (c0 : Int32) (c1 : Int64) (c2 : Int64) (u : xk_St) (H : Heap) (locs : List Loc) (ls : Array Slot), k20 c0 c1 c2 u = some (r, u') → va_P D kx_cl (kw_m ad ca u) H → va_S (xk_A ads s.heap.size) s.heap H locs → lv_has ls 8 [(0, .ref (ad 0)), (1, .int c0), (2, .long c1), (4, .long c2)] → W p l e rm_Model_section s m args below meth c H locs 0 0 (xk_MQ below (xk_Qc D kx_cl (kw_m ad ca) ads (xo_v (.inl r)) u') args s (xk_A ads s.heap.size)) (F0 m 20 ls [])) {b1 : Int32} {b2 : Int64} {b4 : Int64} {u : xk_St} {H : Heap} {locs : List Loc} {ls : Array Slot} (h : jb_Model_section_186 fu k20 b1 b2 b4 u = some (r, u')) (hP : va_P D kx_cl (kw_m ad ca u) H) (hS : va_S (xk_A ads s.heap.size) s.heap H locs) (hl : lv_has ls 8 [(0, .ref (ad 0)), (1, .int b1), (2, .long b2), (4, .long b4)]) : W p l e rm_Model_section s m args below meth c H locs 0 0 (xk_MQ below (xk_Qc D kx_cl (kw_m ad ca) ads (xo_v (.inl r)) u') args s (xk_A ads s.heap.size)) (F0 m 186 ls []) := by
  have hx := C.1.1
  have hb := C.1.2.1
  have hok := C.2.2.1
  unfold jb_Model_section_186 at h
  refine lv_goto (tgt := 204) hx hb dd_Model_section_186 (by decide) ?_
  exact wj_Model_section_204 htr C hne hk20 h hP hS (lv_sub hl [0, 1, 2, 3] rfl)
set_option maxHeartbeats 4000000 in
set_option maxRecDepth 100000 in
theorem wj_Model_section_158 {p : Program} {l : Launch} {e : Env} {s : State} {m : MethodId} {args : Array Value} {below : List Frame} {meth : Method} {c : Code} {D : va_G} {ad : Nat → Nat} {ca : Nat → ClassId} {ads : List Nat} {fu : Nat} (htr : l.stackTraces = false) (C : xk_C D kx_cl (kx_ty ca) (kw_m ad ca) ads "ModuleHouseModel" prog_14_method_29_code 8 none p e s m args meth c) (hne : c.exceptionTable.isEmpty = true) {u' : xk_St} {r : Unit} {k20 : Int32 → Int64 → Int64 → xk_St → Option (Unit × xk_St)} (hk20 : ∀ (c0 : Int32) (c1 : Int64) (c2 : Int64) (u : xk_St) (H : Heap) (locs : List Loc) (ls : Array Slot), k20 c0 c1 c2 u = some (r, u') → va_P D kx_cl (kw_m ad ca u) H → va_S (xk_A ads s.heap.size) s.heap H locs → lv_has ls 8 [(0, .ref (ad 0)), (1, .int c0), (2, .long c1), (4, .long c2)] → W p l e rm_Model_section s m args below meth c H locs 0 0 (xk_MQ below (xk_Qc D kx_cl (kw_m ad ca) ads (xo_v (.inl r)) u') args s (xk_A ads s.heap.size)) (F0 m 20 ls [])) : ∀ {n : Nat} {b1 : Int32} {b2 : Int64} {b4 : Int64} {b6 : Int64} {u : xk_St} {H : Heap} {locs : List Loc} {ls : Array Slot} (h : jb_Model_section_158 fu k20 n b1 b2 b4 b6 u = some (r, u')) (hP : va_P D kx_cl (kw_m ad ca u) H) (hS : va_S (xk_A ads s.heap.size) s.heap H locs) (hl : lv_has ls 8 [(0, .ref (ad 0)), (1, .int b1), (2, .long b2), (4, .long b4), (6, .long b6)]), W p l e rm_Model_section s m args below meth c H locs 0 0 (xk_MQ below (xk_Qc D kx_cl (kw_m ad ca) ads (xo_v (.inl r)) u') args s (xk_A ads s.heap.size)) (F0 m 158 ls []) := by
  intro n
  have hx := C.1.1
  have hb := C.1.2.1
  have hok := C.2.2.1
  induction n with
  | zero =>
    intro _ _ _ _ u H locs ls h
    have h : none = some (r, u') := h
    cases h
  | succ n ih =>
    intro b1 b2 b4 b6 u H locs ls h hP hS hl
    unfold jb_Model_section_158 at h
    obtain ⟨k158, ek158, h⟩ := xp_let h
    have hk158 : ∀ (c0 : Int32) (c1 : Int64) (c2 : Int64) (c3 : Int64) (u : xk_St) (H : Heap) (locs : List Loc) (ls : Array Slot), k158 c0 c1 c2 c3 u = some (r, u') → va_P D kx_cl (kw_m ad ca u) H → va_S (xk_A ads s.heap.size) s.heap H locs → lv_has ls 8 [(0, .ref (ad 0)), (1, .int c0), (2, .long c1), (4, .long c2), (6, .long c3)] → W p l e rm_Model_section s m args below meth c H locs 0 0 (xk_MQ below (xk_Qc D kx_cl (kw_m ad ca) ads (xo_v (.inl r)) u') args s (xk_A ads s.heap.size)) (F0 m 158 ls []) := by
      intro c0 c1 c2 c3 u H locs ls h hP hS hl
      subst ek158
      exact ih h hP hS hl
    clear ih ek158
    refine lv_lload hx hb dd_Model_section_158 (lv_at hl 4 rfl) ?_
    refine lv_lconst (v := 0) hx hb dd_Model_section_160 (by decide) ?_
    refine xr_lc_le (tgt := 186) hx hb dd_Model_section_161 dd_Model_section_162 (by decide) (fun hc => ?_) (fun hc => ?_)
    · have h := xp_t hc h
      exact wj_Model_section_186 htr C hne hk20 h hP hS (lv_sub hl [0, 1, 2, 3] rfl)
    · have h := xp_f hc h
      refine lv_aload_n hx hb dd_Model_section_165 rfl (lv_at hl 0 rfl) ?_
      refine gf_m_Model_0_bad C hP dd_Model_section_166 ?_
      refine lv_if_ne (tgt := 186) hx hb dd_Model_section_169 (by decide) (fun hc => ?_) (fun hc => ?_)
      · have h := xp_f hc h
        exact wj_Model_section_186 htr C hne hk20 h hP hS (lv_sub hl [0, 1, 2, 3] rfl)
      · have h := xp_t hc h
        refine lv_aload_n hx hb dd_Model_section_172 rfl (lv_at hl 0 rfl) ?_
        obtain ⟨a22, u23, hq, h⟩ := xp_seq h
        refine xk_goesL (xr_V (As := []) (rest := []) C hP hS (ct_Model_number htr hok hq) kq_Model_295 0 11 rfl rfl ⟨rfl, rfl, Nat.le_of_ble_eq_true rfl, Nat.le_of_ble_eq_true rfl⟩ ⟨Nat.le_of_ble_eq_true rfl, Nat.le_of_ble_eq_true rfl⟩ hl.1 rfl rfl (Nat.le_of_ble_eq_true rfl) dd_Model_section_173) hS (fun H locs hP hS => ?_)
        clear hq
        refine lv_pop2_2 hx hb dd_Model_section_176 rfl ?_
        refine lv_lload hx hb dd_Model_section_177 (lv_at hl 4 rfl) ?_
        refine lv_lconst (v := 1) hx hb dd_Model_section_179 (by decide) ?_
        refine lv_lsub hx hb dd_Model_section_180 ?_
        obtain ⟨a24, ea24, h⟩ := xp_let h
        refine xr_naml ea24 ?_
        refine lv_lstore (lv' := [(6, .long a24), (0, .ref (ad 0)), (1, .int b1), (2, .long b2), (4, .long b4)]) hx hb dd_Model_section_181 hl (by decide) rfl (fun ls hl => ?_)
        refine lv_goto (tgt := 158) hx hb dd_Model_section_183 (by decide) ?_
        exact hk158 b1 b2 b4 a24 u23 _ _ _ h hP hS (lv_sub hl [1, 2, 3, 4, 0] rfl)
set_option maxHeartbeats 4000000 in
set_option maxRecDepth 100000 in
theorem wj_Model_section_20 {p : Program} {l : Launch} {e : Env} {s : State} {m : MethodId} {args : Array Value} {below : List Frame} {meth : Method} {c : Code} {D : va_G} {ad : Nat → Nat} {ca : Nat → ClassId} {ads : List Nat} {fu : Nat} (htr : l.stackTraces = false) (C : xk_C D kx_cl (kx_ty ca) (kw_m ad ca) ads "ModuleHouseModel" prog_14_method_29_code 8 none p e s m args meth c) (hne : c.exceptionTable.isEmpty = true) {u' : xk_St} {r : Unit} : ∀ {n : Nat} {b1 : Int32} {b2 : Int64} {b4 : Int64} {u : xk_St} {H : Heap} {locs : List Loc} {ls : Array Slot} (h : jb_Model_section_20 fu  n b1 b2 b4 u = some (r, u')) (hP : va_P D kx_cl (kw_m ad ca u) H) (hS : va_S (xk_A ads s.heap.size) s.heap H locs) (hl : lv_has ls 8 [(0, .ref (ad 0)), (1, .int b1), (2, .long b2), (4, .long b4)]), W p l e rm_Model_section s m args below meth c H locs 0 0 (xk_MQ below (xk_Qc D kx_cl (kw_m ad ca) ads (xo_v (.inl r)) u') args s (xk_A ads s.heap.size)) (F0 m 20 ls []) := by
  intro n
  have hx := C.1.1
  have hb := C.1.2.1
  have hok := C.2.2.1
  induction n with
  | zero =>
    intro _ _ _ u H locs ls h
    have h : none = some (r, u') := h
    cases h
  | succ n ih =>
    intro b1 b2 b4 u H locs ls h hP hS hl
    unfold jb_Model_section_20 at h
    obtain ⟨k20, ek20, h⟩ := xp_let h
    have hk20 : ∀ (c0 : Int32) (c1 : Int64) (c2 : Int64) (u : xk_St) (H : Heap) (locs : List Loc) (ls : Array Slot), k20 c0 c1 c2 u = some (r, u') → va_P D kx_cl (kw_m ad ca u) H → va_S (xk_A ads s.heap.size) s.heap H locs → lv_has ls 8 [(0, .ref (ad 0)), (1, .int c0), (2, .long c1), (4, .long c2)] → W p l e rm_Model_section s m args below meth c H locs 0 0 (xk_MQ below (xk_Qc D kx_cl (kw_m ad ca) ads (xo_v (.inl r)) u') args s (xk_A ads s.heap.size)) (F0 m 20 ls []) := by
      intro c0 c1 c2 u H locs ls h hP hS hl
      subst ek20
      exact ih h hP hS hl
    clear ih ek20
    refine lv_lload hx hb dd_Model_section_20 (lv_at hl 3 rfl) ?_
    refine lv_lload_n hx hb dd_Model_section_22 rfl (lv_at hl 2 rfl) ?_
    refine xr_lc_ge (tgt := 213) hx hb dd_Model_section_23 dd_Model_section_24 (by decide) (fun hc => ?_) (fun hc => ?_)
    · have h := xp_t hc h
      obtain ⟨rfl, rfl⟩ := xp_r h
      exact xr_vret C hP hS dd_Model_section_213
    · have h := xp_f hc h
      refine lv_aload_n hx hb dd_Model_section_27 rfl (lv_at hl 0 rfl) ?_
      refine gf_m_Model_0_bad C hP dd_Model_section_28 ?_
      refine lv_if_ne (tgt := 213) hx hb dd_Model_section_31 (by decide) (fun hc => ?_) (fun hc => ?_)
      · have h := xp_f hc h
        obtain ⟨rfl, rfl⟩ := xp_r h
        exact xr_vret C hP hS dd_Model_section_213
      · have h := xp_t hc h
        refine lv_iload_n hx hb dd_Model_section_34 rfl (lv_at hl 1 rfl) ?_
        by_cases hc0 : b1 = (1 : Int32)
        · have h := xp_t hc0 h
          refine lv_tableIn (off := 53) (tgt := 88) hx hb dd_Model_section_35 (by rw [hc0]; decide) (by rw [hc0]; decide) (by rw [hc0]; rfl) (by decide) ?_
          refine lv_aload_n hx hb dd_Model_section_88 rfl (lv_at hl 0 rfl) ?_
          obtain ⟨rx, u3, hq, h⟩ := xp_seq h
          refine xk_goesV (xr_V (As := []) (rest := []) C hP hS (ct_Model_typeForm htr hok hq) kq_Model_351 0 11 rfl rfl ⟨rfl, rfl, Nat.le_of_ble_eq_true rfl, Nat.le_of_ble_eq_true rfl⟩ ⟨Nat.le_of_ble_eq_true rfl, Nat.le_of_ble_eq_true rfl⟩ hl.1 rfl rfl (Nat.le_of_ble_eq_true rfl) dd_Model_section_89) hS (fun H locs hP hS => ?_)
          clear hq
          refine lv_goto (tgt := 204) hx hb dd_Model_section_92 (by decide) ?_
          exact wj_Model_section_204 htr C hne hk20 h hP hS (lv_sub hl [0, 1, 2, 3] rfl)
        have h := xp_f hc0 h
        by_cases hc1 : b1 = (2 : Int32)
        · have h := xp_t hc1 h
          refine lv_tableIn (off := 161) (tgt := 196) hx hb dd_Model_section_35 (by rw [hc1]; decide) (by rw [hc1]; decide) (by rw [hc1]; rfl) (by decide) ?_
          exact wj_Model_section_196 htr C hne hk20 h hP hS (lv_sub hl [0, 1, 2, 3] rfl)
        have h := xp_f hc1 h
        by_cases hc2 : b1 = (3 : Int32)
        · have h := xp_t hc2 h
          refine lv_tableIn (off := 60) (tgt := 95) hx hb dd_Model_section_35 (by rw [hc2]; decide) (by rw [hc2]; decide) (by rw [hc2]; rfl) (by decide) ?_
          refine lv_aload_n hx hb dd_Model_section_95 rfl (lv_at hl 0 rfl) ?_
          obtain ⟨a7, u8, hq, h⟩ := xp_seq h
          refine xk_goesL (xr_V (As := []) (rest := []) C hP hS (ct_Model_number htr hok hq) kq_Model_295 0 11 rfl rfl ⟨rfl, rfl, Nat.le_of_ble_eq_true rfl, Nat.le_of_ble_eq_true rfl⟩ ⟨Nat.le_of_ble_eq_true rfl, Nat.le_of_ble_eq_true rfl⟩ hl.1 rfl rfl (Nat.le_of_ble_eq_true rfl) dd_Model_section_96) hS (fun H locs hP hS => ?_)
          clear hq
          refine lv_pop2_2 hx hb dd_Model_section_99 rfl ?_
          refine lv_goto (tgt := 204) hx hb dd_Model_section_100 (by decide) ?_
          exact wj_Model_section_204 htr C hne hk20 h hP hS (lv_sub hl [0, 1, 2, 3] rfl)
        have h := xp_f hc2 h
        by_cases hc3 : b1 = (4 : Int32)
        · have h := xp_t hc3 h
          refine lv_tableIn (off := 68) (tgt := 103) hx hb dd_Model_section_35 (by rw [hc3]; decide) (by rw [hc3]; decide) (by rw [hc3]; rfl) (by decide) ?_
          refine lv_aload_n hx hb dd_Model_section_103 rfl (lv_at hl 0 rfl) ?_
          refine lv_bipush (v := 112) hx hb dd_Model_section_104 (by decide) ?_
          obtain ⟨rx, u9, hq, h⟩ := xp_seq h
          refine xk_goesV (xr_V (As := [.int (112 : Int32)]) (rest := []) C hP hS (ct_Model_needs htr hok hq) kq_Model_308 0 11 rfl rfl ⟨rfl, rfl, Nat.le_of_ble_eq_true rfl, Nat.le_of_ble_eq_true rfl⟩ ⟨Nat.le_of_ble_eq_true rfl, Nat.le_of_ble_eq_true rfl⟩ hl.1 rfl rfl (Nat.le_of_ble_eq_true rfl) dd_Model_section_106) hS (fun H locs hP hS => ?_)
          clear hq
          refine lv_aload_n hx hb dd_Model_section_109 rfl (lv_at hl 0 rfl) ?_
          obtain ⟨rx, u10, hq, h⟩ := xp_seq h
          refine xk_goesV (xr_V (As := []) (rest := []) C hP hS (ct_Model_limits htr hok hq) kq_Model_354 0 11 rfl rfl ⟨rfl, rfl, Nat.le_of_ble_eq_true rfl, Nat.le_of_ble_eq_true rfl⟩ ⟨Nat.le_of_ble_eq_true rfl, Nat.le_of_ble_eq_true rfl⟩ hl.1 rfl rfl (Nat.le_of_ble_eq_true rfl) dd_Model_section_110) hS (fun H locs hP hS => ?_)
          clear hq
          refine lv_goto (tgt := 204) hx hb dd_Model_section_113 (by decide) ?_
          exact wj_Model_section_204 htr C hne hk20 h hP hS (lv_sub hl [0, 1, 2, 3] rfl)
        have h := xp_f hc3 h
        by_cases hc4 : b1 = (5 : Int32)
        · have h := xp_t hc4 h
          refine lv_tableIn (off := 81) (tgt := 116) hx hb dd_Model_section_35 (by rw [hc4]; decide) (by rw [hc4]; decide) (by rw [hc4]; rfl) (by decide) ?_
          refine lv_aload_n hx hb dd_Model_section_116 rfl (lv_at hl 0 rfl) ?_
          obtain ⟨rx, u11, hq, h⟩ := xp_seq h
          refine xk_goesV (xr_V (As := []) (rest := []) C hP hS (ct_Model_limits htr hok hq) kq_Model_354 0 11 rfl rfl ⟨rfl, rfl, Nat.le_of_ble_eq_true rfl, Nat.le_of_ble_eq_true rfl⟩ ⟨Nat.le_of_ble_eq_true rfl, Nat.le_of_ble_eq_true rfl⟩ hl.1 rfl rfl (Nat.le_of_ble_eq_true rfl) dd_Model_section_117) hS (fun H locs hP hS => ?_)
          clear hq
          refine lv_goto (tgt := 204) hx hb dd_Model_section_120 (by decide) ?_
          exact wj_Model_section_204 htr C hne hk20 h hP hS (lv_sub hl [0, 1, 2, 3] rfl)
        have h := xp_f hc4 h
        by_cases hc5 : b1 = (6 : Int32)
        · have h := xp_t hc5 h
          refine lv_tableIn (off := 88) (tgt := 123) hx hb dd_Model_section_35 (by rw [hc5]; decide) (by rw [hc5]; decide) (by rw [hc5]; rfl) (by decide) ?_
          refine lv_aload_n hx hb dd_Model_section_123 rfl (lv_at hl 0 rfl) ?_
          obtain ⟨a12, u13, hq, h⟩ := xp_seq h
          refine xk_goesI (xr_V (As := []) (rest := []) C hP hS (ct_Model_valueType htr hok hq) kq_Model_210 0 11 rfl rfl ⟨rfl, rfl, Nat.le_of_ble_eq_true rfl, Nat.le_of_ble_eq_true rfl⟩ ⟨Nat.le_of_ble_eq_true rfl, Nat.le_of_ble_eq_true rfl⟩ hl.1 rfl rfl (Nat.le_of_ble_eq_true rfl) dd_Model_section_124) hS (fun H locs hP hS => ?_)
          clear hq
          refine lv_pop hx hb dd_Model_section_127 rfl ?_
          refine lv_aload_n hx hb dd_Model_section_128 rfl (lv_at hl 0 rfl) ?_
          obtain ⟨a14, u15, hq, h⟩ := xp_seq h
          refine xk_goesI (xr_V (As := []) (rest := []) C hP hS (ct_Model_flag htr hok hq) kq_Model_357 0 11 rfl rfl ⟨rfl, rfl, Nat.le_of_ble_eq_true rfl, Nat.le_of_ble_eq_true rfl⟩ ⟨Nat.le_of_ble_eq_true rfl, Nat.le_of_ble_eq_true rfl⟩ hl.1 rfl rfl (Nat.le_of_ble_eq_true rfl) dd_Model_section_129) hS (fun H locs hP hS => ?_)
          clear hq
          refine lv_pop hx hb dd_Model_section_132 rfl ?_
          refine lv_aload_n hx hb dd_Model_section_133 rfl (lv_at hl 0 rfl) ?_
          obtain ⟨a16, u17, hq, h⟩ := xp_seq h
          refine xk_goesI (xr_V (As := []) (rest := []) C hP hS (ct_Model_constant htr hok hq) kq_Model_360 0 11 rfl rfl ⟨rfl, rfl, Nat.le_of_ble_eq_true rfl, Nat.le_of_ble_eq_true rfl⟩ ⟨Nat.le_of_ble_eq_true rfl, Nat.le_of_ble_eq_true rfl⟩ hl.1 rfl rfl (Nat.le_of_ble_eq_true rfl) dd_Model_section_134) hS (fun H locs hP hS => ?_)
          clear hq
          refine lv_pop hx hb dd_Model_section_137 rfl ?_
          refine lv_goto (tgt := 204) hx hb dd_Model_section_138 (by decide) ?_
          exact wj_Model_section_204 htr C hne hk20 h hP hS (lv_sub hl [0, 1, 2, 3] rfl)
        have h := xp_f hc5 h
        by_cases hc6 : b1 = (7 : Int32)
        · have h := xp_t hc6 h
          refine lv_tableIn (off := 106) (tgt := 141) hx hb dd_Model_section_35 (by rw [hc6]; decide) (by rw [hc6]; decide) (by rw [hc6]; rfl) (by decide) ?_
          refine lv_aload_n hx hb dd_Model_section_141 rfl (lv_at hl 0 rfl) ?_
          obtain ⟨rx, u18, hq, h⟩ := xp_seq h
          refine xk_goesV (xr_V (As := []) (rest := []) C hP hS (ct_Model_exportForm htr hok hq) kq_Model_363 0 11 rfl rfl ⟨rfl, rfl, Nat.le_of_ble_eq_true rfl, Nat.le_of_ble_eq_true rfl⟩ ⟨Nat.le_of_ble_eq_true rfl, Nat.le_of_ble_eq_true rfl⟩ hl.1 rfl rfl (Nat.le_of_ble_eq_true rfl) dd_Model_section_142) hS (fun H locs hP hS => ?_)
          clear hq
          refine lv_goto (tgt := 204) hx hb dd_Model_section_145 (by decide) ?_
          exact wj_Model_section_204 htr C hne hk20 h hP hS (lv_sub hl [0, 1, 2, 3] rfl)
        have h := xp_f hc6 h
        by_cases hc7 : b1 = (8 : Int32)
        · have h := xp_t hc7 h
          refine lv_tableIn (off := 161) (tgt := 196) hx hb dd_Model_section_35 (by rw [hc7]; decide) (by rw [hc7]; decide) (by rw [hc7]; rfl) (by decide) ?_
          exact wj_Model_section_196 htr C hne hk20 h hP hS (lv_sub hl [0, 1, 2, 3] rfl)
        have h := xp_f hc7 h
        by_cases hc8 : b1 = (9 : Int32)
        · have h := xp_t hc8 h
          refine lv_tableIn (off := 113) (tgt := 148) hx hb dd_Model_section_35 (by rw [hc8]; decide) (by rw [hc8]; decide) (by rw [hc8]; rfl) (by decide) ?_
          refine lv_aload_n hx hb dd_Model_section_148 rfl (lv_at hl 0 rfl) ?_
          obtain ⟨rx, u19, hq, h⟩ := xp_seq h
          refine xk_goesV (xr_V (As := []) (rest := []) C hP hS (ct_Model_place htr hok hq) kq_Model_366 0 11 rfl rfl ⟨rfl, rfl, Nat.le_of_ble_eq_true rfl, Nat.le_of_ble_eq_true rfl⟩ ⟨Nat.le_of_ble_eq_true rfl, Nat.le_of_ble_eq_true rfl⟩ hl.1 rfl rfl (Nat.le_of_ble_eq_true rfl) dd_Model_section_149) hS (fun H locs hP hS => ?_)
          clear hq
          refine lv_aload_n hx hb dd_Model_section_152 rfl (lv_at hl 0 rfl) ?_
          obtain ⟨a20, u21, hq, h⟩ := xp_seq h
          refine xk_goesL (xr_V (As := []) (rest := []) C hP hS (ct_Model_number htr hok hq) kq_Model_295 0 11 rfl rfl ⟨rfl, rfl, Nat.le_of_ble_eq_true rfl, Nat.le_of_ble_eq_true rfl⟩ ⟨Nat.le_of_ble_eq_true rfl, Nat.le_of_ble_eq_true rfl⟩ hl.1 rfl rfl (Nat.le_of_ble_eq_true rfl) dd_Model_section_153) hS (fun H locs hP hS => ?_)
          clear hq
          refine lv_lstore (lv' := [(6, .long a20), (0, .ref (ad 0)), (1, .int b1), (2, .long b2), (4, .long b4)]) hx hb dd_Model_section_156 hl (by decide) rfl (fun ls hl => ?_)
          exact wj_Model_section_158 htr C hne hk20 h hP hS (lv_sub hl [1, 2, 3, 4, 0] rfl)
        have h := xp_f hc8 h
        by_cases hc9 : b1 = (10 : Int32)
        · have h := xp_t hc9 h
          refine lv_tableIn (off := 154) (tgt := 189) hx hb dd_Model_section_35 (by rw [hc9]; decide) (by rw [hc9]; decide) (by rw [hc9]; rfl) (by decide) ?_
          refine lv_aload_n hx hb dd_Model_section_189 rfl (lv_at hl 0 rfl) ?_
          obtain ⟨rx, u25, hq, h⟩ := xp_seq h
          refine xk_goesV (xr_V (As := []) (rest := []) C hP hS (ct_Model_bodyForm htr hok hq) kq_Model_369 0 11 rfl rfl ⟨rfl, rfl, Nat.le_of_ble_eq_true rfl, Nat.le_of_ble_eq_true rfl⟩ ⟨Nat.le_of_ble_eq_true rfl, Nat.le_of_ble_eq_true rfl⟩ hl.1 rfl rfl (Nat.le_of_ble_eq_true rfl) dd_Model_section_190) hS (fun H locs hP hS => ?_)
          clear hq
          refine lv_goto (tgt := 204) hx hb dd_Model_section_193 (by decide) ?_
          exact wj_Model_section_204 htr C hne hk20 h hP hS (lv_sub hl [0, 1, 2, 3] rfl)
        have h := xp_f hc9 h
        have hd0 := lv_neT hc0 (a := 1) (by decide)
        have hd1 := lv_neT hc1 (a := 2) (by decide)
        have hd2 := lv_neT hc2 (a := 3) (by decide)
        have hd3 := lv_neT hc3 (a := 4) (by decide)
        have hd4 := lv_neT hc4 (a := 5) (by decide)
        have hd5 := lv_neT hc5 (a := 6) (by decide)
        have hd6 := lv_neT hc6 (a := 7) (by decide)
        have hd7 := lv_neT hc7 (a := 8) (by decide)
        have hd8 := lv_neT hc8 (a := 9) (by decide)
        have hd9 := lv_neT hc9 (a := 10) (by decide)
        refine lv_tableOut (tgt := 196) hx hb dd_Model_section_35 (by omega) (by decide) ?_
        exact wj_Model_section_196 htr C hne hk20 h hP hS (lv_sub hl [0, 1, 2, 3] rfl)
set_option maxHeartbeats 4000000 in
set_option maxRecDepth 100000 in
theorem ct_Model_section {l : Launch} {D : va_G} {ad : Nat → Nat} {ca : Nat → ClassId} {ads : List Nat} (htr : l.stackTraces = false) (hok : xk_ok (kw_m ad ca) ads) {fu : Nat} {x0 : Int32} {u u' : xk_St} {r : Unit} (h : fm_Model_section fu x0 u = some (r, u')) :
    ∀ sz, xk_Met l ⟨"ModuleHouseModel", "section", "(I)V"⟩ (Cond.code ⟨"ModuleHouseModel", "section", "(I)V"⟩ prog_14_method_29_code 8 none :: xk_gd) rm_Model_section (xk_Pc D kx_cl (kx_ty ca) (kw_m ad ca) ads xk_F sz [.ref (ad 0), .int x0] u) (xk_Qc D kx_cl (kw_m ad ca) ads (xo_v (.inl r)) u') (xk_A ads sz) := by
  unfold fm_Model_section at h
  refine xk_con (by decide) htr hok (Nat.le_of_ble_eq_true rfl) (fun p e s m below meth c ls C hne hl hP => ?_)
  have hx := C.1.1
  have hb := C.1.2.1
  have hS : va_S (xk_A ads s.heap.size) s.heap s.heap [] := va_S.rf
  have hl : lv_has ls 8 [(0, .ref (ad 0)), (1, .int x0)] := hl
  refine lv_iload_n hx hb dd_Model_section_0 rfl (lv_at hl 1 rfl) ?_
  refine lv_bipush (v := 8) hx hb dd_Model_section_1 (by decide) ?_
  refine lv_icmp_ne (tgt := 12) hx hb dd_Model_section_3 (by decide) (fun hc => ?_) (fun hc => ?_)
  · have h := xp_f hc h
    refine lv_aload_n hx hb dd_Model_section_12 rfl (lv_at hl 0 rfl) ?_
    obtain ⟨a1, u2, hq, h⟩ := xp_seq h
    refine xk_goesL (xr_V (As := []) (rest := []) C hP hS (ct_Model_number htr hok hq) kq_Model_295 0 11 rfl rfl ⟨rfl, rfl, Nat.le_of_ble_eq_true rfl, Nat.le_of_ble_eq_true rfl⟩ ⟨Nat.le_of_ble_eq_true rfl, Nat.le_of_ble_eq_true rfl⟩ hl.1 rfl rfl (Nat.le_of_ble_eq_true rfl) dd_Model_section_13) hS (fun H locs hP hS => ?_)
    clear hq
    refine lv_lstore_n (lv' := [(2, .long a1), (0, .ref (ad 0)), (1, .int x0)]) hx hb dd_Model_section_16 rfl hl (by decide) rfl (fun ls hl => ?_)
    refine lv_lconst (v := 0) hx hb dd_Model_section_17 (by decide) ?_
    refine lv_lstore (lv' := [(4, .long (0 : Int64)), (2, .long a1), (0, .ref (ad 0)), (1, .int x0)]) hx hb dd_Model_section_18 hl (by decide) rfl (fun ls hl => ?_)
    exact wj_Model_section_20 htr C hne h hP hS (lv_sub hl [2, 3, 1, 0] rfl)
  · have h := xp_t hc h
    refine lv_aload_n hx hb dd_Model_section_6 rfl (lv_at hl 0 rfl) ?_
    obtain ⟨a26, u27, hq, h⟩ := xp_seq h
    refine xk_goesL (xr_V (As := []) (rest := []) C hP hS (ct_Model_number htr hok hq) kq_Model_295 0 11 rfl rfl ⟨rfl, rfl, Nat.le_of_ble_eq_true rfl, Nat.le_of_ble_eq_true rfl⟩ ⟨Nat.le_of_ble_eq_true rfl, Nat.le_of_ble_eq_true rfl⟩ hl.1 rfl rfl (Nat.le_of_ble_eq_true rfl) dd_Model_section_7) hS (fun H locs hP hS => ?_)
    clear hq
    refine lv_pop2_2 hx hb dd_Model_section_10 rfl ?_
    obtain ⟨rfl, rfl⟩ := xp_r h
    exact xr_vret C hP hS dd_Model_section_11
abbrev rm_Model_magic : Room := { frames := 1, cells := 1, slots := 6, locals := 0 }
noncomputable def fm_Model_magic (x0 : Int32) (u : xk_St) : Option (Int32 × xk_St) :=
  if x0 = (1 : Int32) then (some ((97 : Int32), u)) else (if x0 = (2 : Int32) then (some ((115 : Int32), u)) else (if x0 = (3 : Int32) then (some ((109 : Int32), u)) else (if x0 = (4 : Int32) then (some ((1 : Int32), u)) else (some ((0 : Int32), u)))))
set_option maxHeartbeats 4000000 in
set_option maxRecDepth 100000 in
theorem ct_Model_magic {l : Launch} {D : va_G} {ad : Nat → Nat} {ca : Nat → ClassId} {ads : List Nat} (htr : l.stackTraces = false) (hok : xk_ok (kw_m ad ca) ads) {x0 : Int32} {u u' : xk_St} {r : Int32} (h : fm_Model_magic x0 u = some (r, u')) :
    ∀ sz, xk_Met l ⟨"ModuleHouseModel", "magic", "(I)I"⟩ (Cond.code ⟨"ModuleHouseModel", "magic", "(I)I"⟩ prog_14_method_27_code 1 (some .int) :: xk_gd) rm_Model_magic (xk_Pc D kx_cl (kx_ty ca) (kw_m ad ca) ads xk_F sz [.int x0] u) (xk_Qc D kx_cl (kw_m ad ca) ads (xo_i (.inl r)) u') (xk_A ads sz) := by
  unfold fm_Model_magic at h
  refine xk_con (by decide) htr hok (Nat.le_of_ble_eq_true rfl) (fun p e s m below meth c ls C hne hl hP => ?_)
  have hx := C.1.1
  have hb := C.1.2.1
  have hS : va_S (xk_A ads s.heap.size) s.heap s.heap [] := va_S.rf
  have hl : lv_has ls 1 [(0, .int x0)] := hl
  refine lv_iload_n hx hb dd_Model_magic_0 rfl (lv_at hl 0 rfl) ?_
  refine lv_iconst (v := 1) hx hb dd_Model_magic_1 (by decide) ?_
  refine lv_icmp_ne (tgt := 10) hx hb dd_Model_magic_2 (by decide) (fun hc => ?_) (fun hc => ?_)
  · have h := xp_f hc h
    refine lv_iload_n hx hb dd_Model_magic_10 rfl (lv_at hl 0 rfl) ?_
    refine lv_iconst (v := 2) hx hb dd_Model_magic_11 (by decide) ?_
    refine lv_icmp_ne (tgt := 20) hx hb dd_Model_magic_12 (by decide) (fun hc => ?_) (fun hc => ?_)
    · have h := xp_f hc h
      refine lv_iload_n hx hb dd_Model_magic_20 rfl (lv_at hl 0 rfl) ?_
      refine lv_iconst (v := 3) hx hb dd_Model_magic_21 (by decide) ?_
      refine lv_icmp_ne (tgt := 30) hx hb dd_Model_magic_22 (by decide) (fun hc => ?_) (fun hc => ?_)
      · have h := xp_f hc h
        refine lv_iload_n hx hb dd_Model_magic_30 rfl (lv_at hl 0 rfl) ?_
        refine lv_iconst (v := 4) hx hb dd_Model_magic_31 (by decide) ?_
        refine lv_icmp_ne (tgt := 39) hx hb dd_Model_magic_32 (by decide) (fun hc => ?_) (fun hc => ?_)
        · have h := xp_f hc h
          refine lv_iconst (v := 0) hx hb dd_Model_magic_39 (by decide) ?_
          obtain ⟨rfl, rfl⟩ := xp_r h
          exact xr_iret C hP hS dd_Model_magic_40
        · have h := xp_t hc h
          refine lv_iconst (v := 1) hx hb dd_Model_magic_35 (by decide) ?_
          refine lv_goto (tgt := 40) hx hb dd_Model_magic_36 (by decide) ?_
          obtain ⟨rfl, rfl⟩ := xp_r h
          exact xr_iret C hP hS dd_Model_magic_40
      · have h := xp_t hc h
        refine lv_bipush (v := 109) hx hb dd_Model_magic_25 (by decide) ?_
        refine lv_goto (tgt := 40) hx hb dd_Model_magic_27 (by decide) ?_
        obtain ⟨rfl, rfl⟩ := xp_r h
        exact xr_iret C hP hS dd_Model_magic_40
    · have h := xp_t hc h
      refine lv_bipush (v := 115) hx hb dd_Model_magic_15 (by decide) ?_
      refine lv_goto (tgt := 40) hx hb dd_Model_magic_17 (by decide) ?_
      obtain ⟨rfl, rfl⟩ := xp_r h
      exact xr_iret C hP hS dd_Model_magic_40
  · have h := xp_t hc h
    refine lv_bipush (v := 97) hx hb dd_Model_magic_5 (by decide) ?_
    refine lv_goto (tgt := 40) hx hb dd_Model_magic_7 (by decide) ?_
    obtain ⟨rfl, rfl⟩ := xp_r h
    exact xr_iret C hP hS dd_Model_magic_40
