abbrev rm_Model_doMemory : Room := { frames := 3, cells := 1, slots := 6, locals := 45 }
noncomputable def jb_Model_doMemory_298 (fu : Nat) (s0 : Int64) (u : xk_St) : Option (Unit × xk_St) :=
  (xs_seq (fm_Model_tell s0 u) fun _ u7 => some ((()), u7))
noncomputable def jb_Model_doMemory_277 (fu : Nat) (b1 : Int64) (b5 : Int32) (s0 : Int32) (u : xk_St) : Option (Unit × xk_St) :=
  if s0 = (0 : Int32) then (jb_Model_doMemory_298 fu b1 u) else ((xs_seq (fm_Model_sx b1 ((8 : Int32) * b5) u) fun a8 u9 => jb_Model_doMemory_298 fu a8 u9))
noncomputable def jb_Model_doMemory_272 (fu : Nat) (b1 : Int64) (b5 : Int32) (u : xk_St) : Option (Unit × xk_St) :=
  jb_Model_doMemory_277 fu b1 b5 (1 : Int32) u
noncomputable def jb_Model_doMemory_276 (fu : Nat) (b1 : Int64) (b5 : Int32) (u : xk_St) : Option (Unit × xk_St) :=
  jb_Model_doMemory_277 fu b1 b5 (0 : Int32) u
noncomputable def jb_Model_doMemory_213 (fu : Nat) : Nat → Int64 → Int64 → Int32 → Int32 → xk_St → Option (Unit × xk_St)
  | 0 => fun _ _ _ _ _ => none
  | n + 1 => fun b1 b3 b5 b6 u =>
    xs_let (jb_Model_doMemory_213 fu  n) fun k213 =>
    if b6 < (0 : Int32) then (if (u.1 8) = (40 : Int32) then (jb_Model_doMemory_272 fu b1 b5 u) else (if (u.1 8) ≤ (43 : Int32) then (jb_Model_doMemory_276 fu b1 b5 u) else ((if (2 : Int32) = (0 : Int32) then none else if ((u.1 8) - (u.1 8) / (2 : Int32) * (2 : Int32)) = (0 : Int32) then (jb_Model_doMemory_272 fu b1 b5 u) else (jb_Model_doMemory_276 fu b1 b5 u))))) else ((if ((b3.toInt32) + b6) < 0 ∨ 65536 ≤ ((b3.toInt32) + b6).toNatClampNeg then none else xs_let ((b1 <<< ((8 : Int32).toInt64 &&& 63)) ||| (((u.2.2.1 27 ((b3.toInt32) + b6).toNatClampNeg).toInt64) &&& (255 : Int64))) fun a10 => xs_let (b6 + (-1 : Int32)) fun a11 => k213 a10 b3 b5 a11 u))
noncomputable def jb_Model_doMemory_174 (fu : Nat) : Nat → Int64 → Int64 → Int32 → Int32 → xk_St → Option (Unit × xk_St)
  | 0 => fun _ _ _ _ _ => none
  | n + 1 => fun b1 b3 b5 b6 u =>
    xs_let (jb_Model_doMemory_174 fu  n) fun k174 =>
    if b5 ≤ b6 then (some ((()), u)) else ((if ((b3.toInt32) + b6) < 0 ∨ 65536 ≤ ((b3.toInt32) + b6).toNatClampNeg then none else xs_let (xs_A u 27 ((b3.toInt32) + b6).toNatClampNeg (vp_nar .byte (((b1 >>> (((8 : Int32) * b6).toInt64 &&& 63)).toInt32).toInt8.toInt32))) fun u12 => xs_let (b6 + (1 : Int32)) fun a13 => k174 b1 b3 b5 a13 u12))
noncomputable def jb_Model_doMemory_114 (fu : Nat) (s0 : Int64) (u : xk_St) : Option (Unit × xk_St) :=
  (xs_seq (fm_Model_drop u) fun a1 u2 => xs_let ((a1 &&& (4294967295 : Int64)) + (u2.2.1 1)) fun a3 => xs_seq (fm_Model_widthOf (u2.1 8) u2) fun a4 u5 => if (a3 + (a4.toInt64)) ≤ ((4096 : Int64) * ((u5.1 16).toInt64)) then (if (u5.1 8) ≤ (53 : Int32) then ((xs_let (a4 - (1 : Int32)) fun a6 => jb_Model_doMemory_213 fu fu s0 a3 a4 a6 u5)) else (jb_Model_doMemory_174 fu fu s0 a3 a4 (0 : Int32) u5)) else ((xs_let (xs_I u5 29 (2 : Int32)) fun u14 => some ((()), u14))))
noncomputable def jb_Model_doMemory_74 (fu : Nat) (b1 : Int64) (b3 : Int32) (s0 : Int64) (u : xk_St) : Option (Unit × xk_St) :=
  (xs_seq (fm_Model_tell s0 u) fun _ u20 => if b3 = (0 : Int32) then ((xs_let (xs_I u20 16 ((u20.1 16) + (0 : Int32))) fun u21 => some ((()), u21))) else ((xs_let (xs_I u20 16 ((u20.1 16) + (b1.toInt32))) fun u22 => some ((()), u22))))
noncomputable def jb_Model_doMemory_57 (fu : Nat) (b1 : Int64) (s0 : Int32) (u : xk_St) : Option (Unit × xk_St) :=
  if s0 = (0 : Int32) then (jb_Model_doMemory_74 fu b1 s0 (-1 : Int64) u) else (jb_Model_doMemory_74 fu b1 s0 ((u.1 16).toInt64) u)
noncomputable def fm_Model_doMemory (fu : Nat) (u : xk_St) : Option (Unit × xk_St) :=
  if (u.1 8) = (63 : Int32) then ((xs_seq (fm_Model_tell ((u.1 16).toInt64) u) fun _ u23 => some ((()), u23))) else (if (u.1 8) = (64 : Int32) then ((xs_seq (fm_Model_drop u) fun a17 u18 => xs_let (a17 &&& (4294967295 : Int64)) fun a19 => if (((u18.1 17) - (u18.1 16)).toInt64) < a19 then (jb_Model_doMemory_57 fu a19 (0 : Int32) u18) else (jb_Model_doMemory_57 fu a19 (1 : Int32) u18))) else (if (u.1 8) ≤ (53 : Int32) then (jb_Model_doMemory_114 fu (0 : Int64) u) else ((xs_seq (fm_Model_drop u) fun a15 u16 => jb_Model_doMemory_114 fu a15 u16))))
set_option maxHeartbeats 4000000 in
set_option maxRecDepth 100000 in
theorem wj_Model_doMemory_298 {p : Program} {l : Launch} {e : Env} {s : State} {m : MethodId} {args : Array Value} {below : List Frame} {meth : Method} {c : Code} {D : va_G} {ad : Nat → Nat} {ca : Nat → ClassId} {ads : List Nat} {fu : Nat} (htr : l.stackTraces = false) (C : xk_C D kx_cl (kx_ty ca) (kw_m ad ca) ads "ModuleHouseModel" prog_14_method_116_code 7 none p e s m args meth c) (hne : c.exceptionTable.isEmpty = true) {u' : xk_St} {r : Unit} {s0 : Int64} {u : xk_St} {H : Heap} {locs : List Loc} {ls : Array Slot} (h : jb_Model_doMemory_298 fu  s0 u = some (r, u')) (hP : va_P D kx_cl (kw_m ad ca u) H) (hS : va_S (xk_A ads s.heap.size) s.heap H locs) (hl : lv_has ls 7 []) : W p l e rm_Model_doMemory s m args below meth c H locs 0 0 (xk_MQ below (xk_Qc D kx_cl (kw_m ad ca) ads (xo_v (.inl r)) u') args s (xk_A ads s.heap.size)) (F0 m 298 ls [.long s0, .ref (ad 0)]) := by
  have hx := C.1.1
  have hb := C.1.2.1
  have hok := C.2.2.1
  unfold jb_Model_doMemory_298 at h
  obtain ⟨rx, u7, hq, h⟩ := xp_seq h
  refine xk_goesV (xr_V (As := [.long s0]) (rest := []) C hP hS (ct_Model_tell htr hok hq) kq_Model_737 0 11 rfl rfl ⟨rfl, rfl, Nat.le_of_ble_eq_true rfl, Nat.le_of_ble_eq_true rfl⟩ ⟨Nat.le_of_ble_eq_true rfl, Nat.le_of_ble_eq_true rfl⟩ hl.1 rfl rfl (Nat.le_of_ble_eq_true rfl) dd_Model_doMemory_298) hS (fun H locs hP hS => ?_)
  clear hq
  obtain ⟨rfl, rfl⟩ := xp_r h
  exact xr_vret C hP hS dd_Model_doMemory_301
set_option maxHeartbeats 4000000 in
set_option maxRecDepth 100000 in
theorem wj_Model_doMemory_277 {p : Program} {l : Launch} {e : Env} {s : State} {m : MethodId} {args : Array Value} {below : List Frame} {meth : Method} {c : Code} {D : va_G} {ad : Nat → Nat} {ca : Nat → ClassId} {ads : List Nat} {fu : Nat} (htr : l.stackTraces = false) (C : xk_C D kx_cl (kx_ty ca) (kw_m ad ca) ads "ModuleHouseModel" prog_14_method_116_code 7 none p e s m args meth c) (hne : c.exceptionTable.isEmpty = true) {u' : xk_St} {r : Unit} {b1 : Int64} {b5 : Int32} {s0 : Int32} {u : xk_St} {H : Heap} {locs : List Loc} {ls : Array Slot} (h : jb_Model_doMemory_277 fu  b1 b5 s0 u = some (r, u')) (hP : va_P D kx_cl (kw_m ad ca u) H) (hS : va_S (xk_A ads s.heap.size) s.heap H locs) (hl : lv_has ls 7 [(0, .ref (ad 0)), (1, .long b1), (5, .int b5)]) : W p l e rm_Model_doMemory s m args below meth c H locs 0 0 (xk_MQ below (xk_Qc D kx_cl (kw_m ad ca) ads (xo_v (.inl r)) u') args s (xk_A ads s.heap.size)) (F0 m 277 ls [.int s0]) := by
  have hx := C.1.1
  have hb := C.1.2.1
  have hok := C.2.2.1
  unfold jb_Model_doMemory_277 at h
  refine lv_istore (lv' := [(6, .int s0), (0, .ref (ad 0)), (1, .long b1), (5, .int b5)]) hx hb dd_Model_doMemory_277 hl (by decide) rfl (fun ls hl => ?_)
  refine lv_aload_n hx hb dd_Model_doMemory_279 rfl (lv_at hl 1 rfl) ?_
  refine lv_iload hx hb dd_Model_doMemory_280 (lv_at hl 0 rfl) ?_
  refine lv_if_eq (tgt := 297) hx hb dd_Model_doMemory_282 (by decide) (fun hc => ?_) (fun hc => ?_)
  · have h := xp_t hc h
    refine lv_lload_n hx hb dd_Model_doMemory_297 rfl (lv_at hl 2 rfl) ?_
    exact wj_Model_doMemory_298 htr C hne h hP hS (lv_sub hl [] rfl)
  · have h := xp_f hc h
    refine lv_lload_n hx hb dd_Model_doMemory_285 rfl (lv_at hl 2 rfl) ?_
    refine lv_bipush (v := 8) hx hb dd_Model_doMemory_286 (by decide) ?_
    refine lv_iload hx hb dd_Model_doMemory_288 (lv_at hl 3 rfl) ?_
    refine lv_imul hx hb dd_Model_doMemory_290 ?_
    obtain ⟨a8, u9, hq, h⟩ := xp_seq h
    refine xk_goesL (xr_S (As := [.long b1, .int ((8 : Int32) * b5)]) (rest := [.ref (ad 0)]) C hP hS (ct_Model_sx htr hok hq) kq_Model_186 ⟨rfl, rfl, Nat.le_of_ble_eq_true rfl, Nat.le_of_ble_eq_true rfl⟩ ⟨Nat.le_of_ble_eq_true rfl, Nat.le_of_ble_eq_true rfl⟩ hl.1 rfl rfl (Nat.le_of_ble_eq_true rfl) dd_Model_doMemory_291) hS (fun H locs hP hS => ?_)
    clear hq
    refine lv_goto (tgt := 298) hx hb dd_Model_doMemory_294 (by decide) ?_
    exact wj_Model_doMemory_298 htr C hne h hP hS (lv_sub hl [] rfl)
set_option maxHeartbeats 4000000 in
set_option maxRecDepth 100000 in
theorem wj_Model_doMemory_272 {p : Program} {l : Launch} {e : Env} {s : State} {m : MethodId} {args : Array Value} {below : List Frame} {meth : Method} {c : Code} {D : va_G} {ad : Nat → Nat} {ca : Nat → ClassId} {ads : List Nat} {fu : Nat} (htr : l.stackTraces = false) (C : xk_C D kx_cl (kx_ty ca) (kw_m ad ca) ads "ModuleHouseModel" prog_14_method_116_code 7 none p e s m args meth c) (hne : c.exceptionTable.isEmpty = true) {u' : xk_St} {r : Unit} {b1 : Int64} {b5 : Int32} {u : xk_St} {H : Heap} {locs : List Loc} {ls : Array Slot} (h : jb_Model_doMemory_272 fu  b1 b5 u = some (r, u')) (hP : va_P D kx_cl (kw_m ad ca u) H) (hS : va_S (xk_A ads s.heap.size) s.heap H locs) (hl : lv_has ls 7 [(0, .ref (ad 0)), (1, .long b1), (5, .int b5)]) : W p l e rm_Model_doMemory s m args below meth c H locs 0 0 (xk_MQ below (xk_Qc D kx_cl (kw_m ad ca) ads (xo_v (.inl r)) u') args s (xk_A ads s.heap.size)) (F0 m 272 ls []) := by
  have hx := C.1.1
  have hb := C.1.2.1
  have hok := C.2.2.1
  unfold jb_Model_doMemory_272 at h
  refine lv_iconst (v := 1) hx hb dd_Model_doMemory_272 (by decide) ?_
  refine lv_goto (tgt := 277) hx hb dd_Model_doMemory_273 (by decide) ?_
  exact wj_Model_doMemory_277 htr C hne h hP hS (lv_sub hl [0, 1, 2] rfl)
set_option maxHeartbeats 4000000 in
set_option maxRecDepth 100000 in
theorem wj_Model_doMemory_276 {p : Program} {l : Launch} {e : Env} {s : State} {m : MethodId} {args : Array Value} {below : List Frame} {meth : Method} {c : Code} {D : va_G} {ad : Nat → Nat} {ca : Nat → ClassId} {ads : List Nat} {fu : Nat} (htr : l.stackTraces = false) (C : xk_C D kx_cl (kx_ty ca) (kw_m ad ca) ads "ModuleHouseModel" prog_14_method_116_code 7 none p e s m args meth c) (hne : c.exceptionTable.isEmpty = true) {u' : xk_St} {r : Unit} {b1 : Int64} {b5 : Int32} {u : xk_St} {H : Heap} {locs : List Loc} {ls : Array Slot} (h : jb_Model_doMemory_276 fu  b1 b5 u = some (r, u')) (hP : va_P D kx_cl (kw_m ad ca u) H) (hS : va_S (xk_A ads s.heap.size) s.heap H locs) (hl : lv_has ls 7 [(0, .ref (ad 0)), (1, .long b1), (5, .int b5)]) : W p l e rm_Model_doMemory s m args below meth c H locs 0 0 (xk_MQ below (xk_Qc D kx_cl (kw_m ad ca) ads (xo_v (.inl r)) u') args s (xk_A ads s.heap.size)) (F0 m 276 ls []) := by
  have hx := C.1.1
  have hb := C.1.2.1
  have hok := C.2.2.1
  unfold jb_Model_doMemory_276 at h
  refine lv_iconst (v := 0) hx hb dd_Model_doMemory_276 (by decide) ?_
  exact wj_Model_doMemory_277 htr C hne h hP hS (lv_sub hl [0, 1, 2] rfl)
set_option maxHeartbeats 4000000 in
set_option maxRecDepth 100000 in
theorem wj_Model_doMemory_213 {p : Program} {l : Launch} {e : Env} {s : State} {m : MethodId} {args : Array Value} {below : List Frame} {meth : Method} {c : Code} {D : va_G} {ad : Nat → Nat} {ca : Nat → ClassId} {ads : List Nat} {fu : Nat} (htr : l.stackTraces = false) (C : xk_C D kx_cl (kx_ty ca) (kw_m ad ca) ads "ModuleHouseModel" prog_14_method_116_code 7 none p e s m args meth c) (hne : c.exceptionTable.isEmpty = true) {u' : xk_St} {r : Unit} : ∀ {n : Nat} {b1 : Int64} {b3 : Int64} {b5 : Int32} {b6 : Int32} {u : xk_St} {H : Heap} {locs : List Loc} {ls : Array Slot} (h : jb_Model_doMemory_213 fu  n b1 b3 b5 b6 u = some (r, u')) (hP : va_P D kx_cl (kw_m ad ca u) H) (hS : va_S (xk_A ads s.heap.size) s.heap H locs) (hl : lv_has ls 7 [(0, .ref (ad 0)), (1, .long b1), (3, .long b3), (5, .int b5), (6, .int b6)]), W p l e rm_Model_doMemory s m args below meth c H locs 0 0 (xk_MQ below (xk_Qc D kx_cl (kw_m ad ca) ads (xo_v (.inl r)) u') args s (xk_A ads s.heap.size)) (F0 m 213 ls []) := by
  intro n
  have hx := C.1.1
  have hb := C.1.2.1
  have hok := C.2.2.1
  induction n with
  | zero =>
    intro _ _ _ _ u H locs ls h
    have h : none = some (r, u') := h
    cases h
  | succ n ih =>
    intro b1 b3 b5 b6 u H locs ls h hP hS hl
    unfold jb_Model_doMemory_213 at h
    obtain ⟨k213, ek213, h⟩ := xp_let h
    have hk213 : ∀ (c0 : Int64) (c1 : Int64) (c2 : Int32) (c3 : Int32) (u : xk_St) (H : Heap) (locs : List Loc) (ls : Array Slot), k213 c0 c1 c2 c3 u = some (r, u') → va_P D kx_cl (kw_m ad ca u) H → va_S (xk_A ads s.heap.size) s.heap H locs → lv_has ls 7 [(0, .ref (ad 0)), (1, .long c0), (3, .long c1), (5, .int c2), (6, .int c3)] → W p l e rm_Model_doMemory s m args below meth c H locs 0 0 (xk_MQ below (xk_Qc D kx_cl (kw_m ad ca) ads (xo_v (.inl r)) u') args s (xk_A ads s.heap.size)) (F0 m 213 ls []) := by
      intro c0 c1 c2 c3 u H locs ls h hP hS hl
      subst ek213
      exact ih h hP hS hl
    clear ih ek213
    refine lv_iload hx hb dd_Model_doMemory_213 (lv_at hl 4 rfl) ?_
    refine lv_if_lt (tgt := 245) hx hb dd_Model_doMemory_215 (by decide) (fun hc => ?_) (fun hc => ?_)
    · have h := xp_t hc h
      refine lv_aload_n hx hb dd_Model_doMemory_245 rfl (lv_at hl 0 rfl) ?_
      refine gf_m_Model_0_op C hP dd_Model_doMemory_246 ?_
      refine lv_bipush (v := 40) hx hb dd_Model_doMemory_249 (by decide) ?_
      refine lv_icmp_eq (tgt := 272) hx hb dd_Model_doMemory_251 (by decide) (fun hc => ?_) (fun hc => ?_)
      · have h := xp_t hc h
        exact wj_Model_doMemory_272 htr C hne h hP hS (lv_sub hl [0, 1, 3] rfl)
      · have h := xp_f hc h
        refine lv_aload_n hx hb dd_Model_doMemory_254 rfl (lv_at hl 0 rfl) ?_
        refine gf_m_Model_0_op C hP dd_Model_doMemory_255 ?_
        refine lv_bipush (v := 43) hx hb dd_Model_doMemory_258 (by decide) ?_
        refine lv_icmp_le (tgt := 276) hx hb dd_Model_doMemory_260 (by decide) (fun hc => ?_) (fun hc => ?_)
        · have h := xp_t hc h
          exact wj_Model_doMemory_276 htr C hne h hP hS (lv_sub hl [0, 1, 3] rfl)
        · have h := xp_f hc h
          refine lv_aload_n hx hb dd_Model_doMemory_263 rfl (lv_at hl 0 rfl) ?_
          refine gf_m_Model_0_op C hP dd_Model_doMemory_264 ?_
          refine lv_iconst (v := 2) hx hb dd_Model_doMemory_267 (by decide) ?_
          obtain ⟨hz, h⟩ := xp_g h
          refine lv_irem hx hb dd_Model_doMemory_268 hz ?_
          refine lv_if_ne (tgt := 276) hx hb dd_Model_doMemory_269 (by decide) (fun hc => ?_) (fun hc => ?_)
          · have h := xp_f hc h
            exact wj_Model_doMemory_276 htr C hne h hP hS (lv_sub hl [0, 1, 3] rfl)
          · have h := xp_t hc h
            exact wj_Model_doMemory_272 htr C hne h hP hS (lv_sub hl [0, 1, 3] rfl)
    · have h := xp_f hc h
      refine lv_lload_n hx hb dd_Model_doMemory_218 rfl (lv_at hl 1 rfl) ?_
      refine lv_bipush (v := 8) hx hb dd_Model_doMemory_219 (by decide) ?_
      refine lv_lshl hx hb dd_Model_doMemory_221 rfl ?_
      refine lv_aload_n hx hb dd_Model_doMemory_222 rfl (lv_at hl 0 rfl) ?_
      refine gf_m_Model_0_memory C hP dd_Model_doMemory_223 ?_
      refine lv_lload_n hx hb dd_Model_doMemory_226 rfl (lv_at hl 2 rfl) ?_
      refine lv_l2i hx hb dd_Model_doMemory_227 rfl ?_
      refine lv_iload hx hb dd_Model_doMemory_228 (lv_at hl 4 rfl) ?_
      refine lv_iadd hx hb dd_Model_doMemory_230 ?_
      obtain ⟨hi, h⟩ := xp_g h
      refine al_m_31 C hP hi dd_Model_doMemory_231 ?_
      refine lv_i2l hx hb dd_Model_doMemory_232 rfl ?_
      refine lv_ldc2 (v := 255) hx hb C.1.2.2.2.1 (C.1.2.2.2.2 _ (xk_c11 (w := Jvm.Cond.constantLong "ModuleHouseModel" 742 255) 82 rfl rfl)) dd_Model_doMemory_233 ?_
      refine lv_land hx hb dd_Model_doMemory_236 ?_
      refine lv_lor hx hb dd_Model_doMemory_237 ?_
      obtain ⟨a10, ea10, h⟩ := xp_let h
      refine xr_naml ea10 ?_
      refine lv_lstore_n (lv' := [(1, .long a10), (0, .ref (ad 0)), (3, .long b3), (5, .int b5), (6, .int b6)]) hx hb dd_Model_doMemory_238 rfl hl (by decide) rfl (fun ls hl => ?_)
      obtain ⟨a11, ea11, h⟩ := xp_let h
      refine lv_iinc (v := a11) (lv' := [(6, .int a11), (1, .long a10), (0, .ref (ad 0)), (3, .long b3), (5, .int b5)]) hx hb dd_Model_doMemory_239 hl (k := 4) rfl (by rw [ea11]; first | rfl | decide) (by decide) rfl (fun ls hl => ?_)
      refine lv_goto (tgt := 213) hx hb dd_Model_doMemory_242 (by decide) ?_
      exact hk213 a10 b3 b5 a11 u _ _ _ h hP hS (lv_sub hl [2, 1, 3, 4, 0] rfl)
set_option maxHeartbeats 4000000 in
set_option maxRecDepth 100000 in
theorem wj_Model_doMemory_174 {p : Program} {l : Launch} {e : Env} {s : State} {m : MethodId} {args : Array Value} {below : List Frame} {meth : Method} {c : Code} {D : va_G} {ad : Nat → Nat} {ca : Nat → ClassId} {ads : List Nat} {fu : Nat} (htr : l.stackTraces = false) (C : xk_C D kx_cl (kx_ty ca) (kw_m ad ca) ads "ModuleHouseModel" prog_14_method_116_code 7 none p e s m args meth c) (hne : c.exceptionTable.isEmpty = true) {u' : xk_St} {r : Unit} : ∀ {n : Nat} {b1 : Int64} {b3 : Int64} {b5 : Int32} {b6 : Int32} {u : xk_St} {H : Heap} {locs : List Loc} {ls : Array Slot} (h : jb_Model_doMemory_174 fu  n b1 b3 b5 b6 u = some (r, u')) (hP : va_P D kx_cl (kw_m ad ca u) H) (hS : va_S (xk_A ads s.heap.size) s.heap H locs) (hl : lv_has ls 7 [(0, .ref (ad 0)), (1, .long b1), (3, .long b3), (5, .int b5), (6, .int b6)]), W p l e rm_Model_doMemory s m args below meth c H locs 0 0 (xk_MQ below (xk_Qc D kx_cl (kw_m ad ca) ads (xo_v (.inl r)) u') args s (xk_A ads s.heap.size)) (F0 m 174 ls []) := by
  intro n
  have hx := C.1.1
  have hb := C.1.2.1
  have hok := C.2.2.1
  induction n with
  | zero =>
    intro _ _ _ _ u H locs ls h
    have h : none = some (r, u') := h
    cases h
  | succ n ih =>
    intro b1 b3 b5 b6 u H locs ls h hP hS hl
    unfold jb_Model_doMemory_174 at h
    obtain ⟨k174, ek174, h⟩ := xp_let h
    have hk174 : ∀ (c0 : Int64) (c1 : Int64) (c2 : Int32) (c3 : Int32) (u : xk_St) (H : Heap) (locs : List Loc) (ls : Array Slot), k174 c0 c1 c2 c3 u = some (r, u') → va_P D kx_cl (kw_m ad ca u) H → va_S (xk_A ads s.heap.size) s.heap H locs → lv_has ls 7 [(0, .ref (ad 0)), (1, .long c0), (3, .long c1), (5, .int c2), (6, .int c3)] → W p l e rm_Model_doMemory s m args below meth c H locs 0 0 (xk_MQ below (xk_Qc D kx_cl (kw_m ad ca) ads (xo_v (.inl r)) u') args s (xk_A ads s.heap.size)) (F0 m 174 ls []) := by
      intro c0 c1 c2 c3 u H locs ls h hP hS hl
      subst ek174
      exact ih h hP hS hl
    clear ih ek174
    refine lv_iload hx hb dd_Model_doMemory_174 (lv_at hl 4 rfl) ?_
    refine lv_iload hx hb dd_Model_doMemory_176 (lv_at hl 3 rfl) ?_
    refine lv_icmp_ge (tgt := 206) hx hb dd_Model_doMemory_178 (by decide) (fun hc => ?_) (fun hc => ?_)
    · have h := xp_t hc h
      obtain ⟨rfl, rfl⟩ := xp_r h
      exact xr_vret C hP hS dd_Model_doMemory_206
    · have h := xp_f hc h
      refine lv_aload_n hx hb dd_Model_doMemory_181 rfl (lv_at hl 0 rfl) ?_
      refine gf_m_Model_0_memory C hP dd_Model_doMemory_182 ?_
      refine lv_lload_n hx hb dd_Model_doMemory_185 rfl (lv_at hl 2 rfl) ?_
      refine lv_l2i hx hb dd_Model_doMemory_186 rfl ?_
      refine lv_iload hx hb dd_Model_doMemory_187 (lv_at hl 4 rfl) ?_
      refine lv_iadd hx hb dd_Model_doMemory_189 ?_
      refine lv_lload_n hx hb dd_Model_doMemory_190 rfl (lv_at hl 1 rfl) ?_
      refine lv_bipush (v := 8) hx hb dd_Model_doMemory_191 (by decide) ?_
      refine lv_iload hx hb dd_Model_doMemory_193 (lv_at hl 4 rfl) ?_
      refine lv_imul hx hb dd_Model_doMemory_195 ?_
      refine lv_lshr hx hb dd_Model_doMemory_196 rfl ?_
      refine lv_l2i hx hb dd_Model_doMemory_197 rfl ?_
      refine lv_i2b hx hb dd_Model_doMemory_198 rfl ?_
      obtain ⟨hi, h⟩ := xp_g h
      refine as_m_31 C hP hS hi dd_Model_doMemory_199 (fun H locs hP hS => ?_)
      obtain ⟨u12, eu12, h⟩ := xp_let h
      rw [← eu12] at hP
      obtain ⟨a13, ea13, h⟩ := xp_let h
      refine lv_iinc (v := a13) (lv' := [(6, .int a13), (0, .ref (ad 0)), (1, .long b1), (3, .long b3), (5, .int b5)]) hx hb dd_Model_doMemory_200 hl (k := 4) rfl (by rw [ea13]; first | rfl | decide) (by decide) rfl (fun ls hl => ?_)
      refine lv_goto (tgt := 174) hx hb dd_Model_doMemory_203 (by decide) ?_
      exact hk174 b1 b3 b5 a13 u12 _ _ _ h hP hS (lv_sub hl [1, 2, 3, 4, 0] rfl)
set_option maxHeartbeats 4000000 in
set_option maxRecDepth 100000 in
theorem wj_Model_doMemory_114 {p : Program} {l : Launch} {e : Env} {s : State} {m : MethodId} {args : Array Value} {below : List Frame} {meth : Method} {c : Code} {D : va_G} {ad : Nat → Nat} {ca : Nat → ClassId} {ads : List Nat} {fu : Nat} (htr : l.stackTraces = false) (C : xk_C D kx_cl (kx_ty ca) (kw_m ad ca) ads "ModuleHouseModel" prog_14_method_116_code 7 none p e s m args meth c) (hne : c.exceptionTable.isEmpty = true) {u' : xk_St} {r : Unit} {s0 : Int64} {u : xk_St} {H : Heap} {locs : List Loc} {ls : Array Slot} (h : jb_Model_doMemory_114 fu  s0 u = some (r, u')) (hP : va_P D kx_cl (kw_m ad ca u) H) (hS : va_S (xk_A ads s.heap.size) s.heap H locs) (hl : lv_has ls 7 [(0, .ref (ad 0))]) : W p l e rm_Model_doMemory s m args below meth c H locs 0 0 (xk_MQ below (xk_Qc D kx_cl (kw_m ad ca) ads (xo_v (.inl r)) u') args s (xk_A ads s.heap.size)) (F0 m 114 ls [.long s0]) := by
  have hx := C.1.1
  have hb := C.1.2.1
  have hok := C.2.2.1
  unfold jb_Model_doMemory_114 at h
  refine lv_lstore_n (lv' := [(1, .long s0), (0, .ref (ad 0))]) hx hb dd_Model_doMemory_114 rfl hl (by decide) rfl (fun ls hl => ?_)
  refine lv_aload_n hx hb dd_Model_doMemory_115 rfl (lv_at hl 1 rfl) ?_
  obtain ⟨a1, u2, hq, h⟩ := xp_seq h
  refine xk_goesL (xr_V (As := []) (rest := []) C hP hS (ct_Model_drop htr hok hq) kq_Model_725 0 11 rfl rfl ⟨rfl, rfl, Nat.le_of_ble_eq_true rfl, Nat.le_of_ble_eq_true rfl⟩ ⟨Nat.le_of_ble_eq_true rfl, Nat.le_of_ble_eq_true rfl⟩ hl.1 rfl rfl (Nat.le_of_ble_eq_true rfl) dd_Model_doMemory_116) hS (fun H locs hP hS => ?_)
  clear hq
  refine lv_ldc2 (v := 4294967295) hx hb C.1.2.2.2.1 (C.1.2.2.2.2 _ (xk_c9 (w := Jvm.Cond.constantLong "ModuleHouseModel" 182 4294967295) 103 rfl rfl)) dd_Model_doMemory_119 ?_
  refine lv_land hx hb dd_Model_doMemory_122 ?_
  refine lv_aload_n hx hb dd_Model_doMemory_123 rfl (lv_at hl 1 rfl) ?_
  refine gf_m_Model_0_y C hP dd_Model_doMemory_124 ?_
  refine lv_ladd hx hb dd_Model_doMemory_127 ?_
  obtain ⟨a3, ea3, h⟩ := xp_let h
  refine xr_naml ea3 ?_
  refine lv_lstore_n (lv' := [(3, .long a3), (1, .long s0), (0, .ref (ad 0))]) hx hb dd_Model_doMemory_128 rfl hl (by decide) rfl (fun ls hl => ?_)
  refine lv_aload_n hx hb dd_Model_doMemory_129 rfl (lv_at hl 2 rfl) ?_
  refine gf_m_Model_0_op C hP dd_Model_doMemory_130 ?_
  obtain ⟨a4, u5, hq, h⟩ := xp_seq h
  refine xk_goesI (xr_S (As := [.int (u2.1 8)]) (rest := []) C hP hS (ct_Model_widthOf htr hok hq) kq_Model_597 ⟨rfl, rfl, Nat.le_of_ble_eq_true rfl, Nat.le_of_ble_eq_true rfl⟩ ⟨Nat.le_of_ble_eq_true rfl, Nat.le_of_ble_eq_true rfl⟩ hl.1 rfl rfl (Nat.le_of_ble_eq_true rfl) dd_Model_doMemory_133) hS (fun H locs hP hS => ?_)
  clear hq
  refine lv_istore (lv' := [(5, .int a4), (3, .long a3), (1, .long s0), (0, .ref (ad 0))]) hx hb dd_Model_doMemory_136 hl (by decide) rfl (fun ls hl => ?_)
  refine lv_lload_n hx hb dd_Model_doMemory_138 rfl (lv_at hl 1 rfl) ?_
  refine lv_iload hx hb dd_Model_doMemory_139 (lv_at hl 0 rfl) ?_
  refine lv_i2l hx hb dd_Model_doMemory_141 rfl ?_
  refine lv_ladd hx hb dd_Model_doMemory_142 ?_
  refine lv_ldc2 (v := 4096) hx hb C.1.2.2.2.1 (C.1.2.2.2.2 _ (xk_c11 (w := Jvm.Cond.constantLong "ModuleHouseModel" 740 4096) 24 rfl rfl)) dd_Model_doMemory_143 ?_
  refine lv_aload_n hx hb dd_Model_doMemory_146 rfl (lv_at hl 3 rfl) ?_
  refine gf_m_Model_0_pages C hP dd_Model_doMemory_147 ?_
  refine lv_i2l hx hb dd_Model_doMemory_150 rfl ?_
  refine lv_lmul hx hb dd_Model_doMemory_151 ?_
  refine xr_lc_le (tgt := 162) hx hb dd_Model_doMemory_152 dd_Model_doMemory_153 (by decide) (fun hc => ?_) (fun hc => ?_)
  · have h := xp_t hc h
    refine lv_aload_n hx hb dd_Model_doMemory_162 rfl (lv_at hl 3 rfl) ?_
    refine gf_m_Model_0_op C hP dd_Model_doMemory_163 ?_
    refine lv_bipush (v := 53) hx hb dd_Model_doMemory_166 (by decide) ?_
    refine lv_icmp_le (tgt := 207) hx hb dd_Model_doMemory_168 (by decide) (fun hc => ?_) (fun hc => ?_)
    · have h := xp_t hc h
      refine lv_iload hx hb dd_Model_doMemory_207 (lv_at hl 0 rfl) ?_
      refine lv_iconst (v := 1) hx hb dd_Model_doMemory_209 (by decide) ?_
      refine lv_isub hx hb dd_Model_doMemory_210 ?_
      obtain ⟨a6, ea6, h⟩ := xp_let h
      refine xr_nami ea6 ?_
      refine lv_istore (lv' := [(6, .int a6), (5, .int a4), (3, .long a3), (1, .long s0), (0, .ref (ad 0))]) hx hb dd_Model_doMemory_211 hl (by decide) rfl (fun ls hl => ?_)
      exact wj_Model_doMemory_213 htr C hne h hP hS (lv_sub hl [4, 3, 2, 1, 0] rfl)
    · have h := xp_f hc h
      refine lv_iconst (v := 0) hx hb dd_Model_doMemory_171 (by decide) ?_
      refine lv_istore (lv' := [(6, .int (0 : Int32)), (5, .int a4), (3, .long a3), (1, .long s0), (0, .ref (ad 0))]) hx hb dd_Model_doMemory_172 hl (by decide) rfl (fun ls hl => ?_)
      exact wj_Model_doMemory_174 htr C hne h hP hS (lv_sub hl [4, 3, 2, 1, 0] rfl)
  · have h := xp_f hc h
    refine lv_aload_n hx hb dd_Model_doMemory_156 rfl (lv_at hl 3 rfl) ?_
    refine lv_iconst (v := 2) hx hb dd_Model_doMemory_157 (by decide) ?_
    refine pf_m_Model_0_trap C hP hS dd_Model_doMemory_158 (fun H locs hP hS => ?_)
    obtain ⟨u14, eu14, h⟩ := xp_let h
    rw [← eu14] at hP
    obtain ⟨rfl, rfl⟩ := xp_r h
    exact xr_vret C hP hS dd_Model_doMemory_161
set_option maxHeartbeats 4000000 in
set_option maxRecDepth 100000 in
theorem wj_Model_doMemory_74 {p : Program} {l : Launch} {e : Env} {s : State} {m : MethodId} {args : Array Value} {below : List Frame} {meth : Method} {c : Code} {D : va_G} {ad : Nat → Nat} {ca : Nat → ClassId} {ads : List Nat} {fu : Nat} (htr : l.stackTraces = false) (C : xk_C D kx_cl (kx_ty ca) (kw_m ad ca) ads "ModuleHouseModel" prog_14_method_116_code 7 none p e s m args meth c) (hne : c.exceptionTable.isEmpty = true) {u' : xk_St} {r : Unit} {b1 : Int64} {b3 : Int32} {s0 : Int64} {u : xk_St} {H : Heap} {locs : List Loc} {ls : Array Slot} (h : jb_Model_doMemory_74 fu  b1 b3 s0 u = some (r, u')) (hP : va_P D kx_cl (kw_m ad ca u) H) (hS : va_S (xk_A ads s.heap.size) s.heap H locs) (hl : lv_has ls 7 [(0, .ref (ad 0)), (1, .long b1), (3, .int b3)]) : W p l e rm_Model_doMemory s m args below meth c H locs 0 0 (xk_MQ below (xk_Qc D kx_cl (kw_m ad ca) ads (xo_v (.inl r)) u') args s (xk_A ads s.heap.size)) (F0 m 74 ls [.long s0, .ref (ad 0)]) := by
  have hx := C.1.1
  have hb := C.1.2.1
  have hok := C.2.2.1
  unfold jb_Model_doMemory_74 at h
  obtain ⟨rx, u20, hq, h⟩ := xp_seq h
  refine xk_goesV (xr_V (As := [.long s0]) (rest := []) C hP hS (ct_Model_tell htr hok hq) kq_Model_737 0 11 rfl rfl ⟨rfl, rfl, Nat.le_of_ble_eq_true rfl, Nat.le_of_ble_eq_true rfl⟩ ⟨Nat.le_of_ble_eq_true rfl, Nat.le_of_ble_eq_true rfl⟩ hl.1 rfl rfl (Nat.le_of_ble_eq_true rfl) dd_Model_doMemory_74) hS (fun H locs hP hS => ?_)
  clear hq
  refine lv_aload_n hx hb dd_Model_doMemory_77 rfl (lv_at hl 0 rfl) ?_
  refine lv_dup hx hb dd_Model_doMemory_78 rfl ?_
  refine gf_m_Model_0_pages C hP dd_Model_doMemory_79 ?_
  refine lv_iload_n hx hb dd_Model_doMemory_82 rfl (lv_at hl 2 rfl) ?_
  refine lv_if_eq (tgt := 91) hx hb dd_Model_doMemory_83 (by decide) (fun hc => ?_) (fun hc => ?_)
  · have h := xp_t hc h
    refine lv_iconst (v := 0) hx hb dd_Model_doMemory_91 (by decide) ?_
    refine lv_iadd hx hb dd_Model_doMemory_92 ?_
    refine pf_m_Model_0_pages C hP hS dd_Model_doMemory_93 (fun H locs hP hS => ?_)
    obtain ⟨u21, eu21, h⟩ := xp_let h
    rw [← eu21] at hP
    obtain ⟨rfl, rfl⟩ := xp_r h
    exact xr_vret C hP hS dd_Model_doMemory_96
  · have h := xp_f hc h
    refine lv_lload_n hx hb dd_Model_doMemory_86 rfl (lv_at hl 1 rfl) ?_
    refine lv_l2i hx hb dd_Model_doMemory_87 rfl ?_
    refine lv_goto (tgt := 92) hx hb dd_Model_doMemory_88 (by decide) ?_
    refine lv_iadd hx hb dd_Model_doMemory_92 ?_
    refine pf_m_Model_0_pages C hP hS dd_Model_doMemory_93 (fun H locs hP hS => ?_)
    obtain ⟨u22, eu22, h⟩ := xp_let h
    rw [← eu22] at hP
    obtain ⟨rfl, rfl⟩ := xp_r h
    exact xr_vret C hP hS dd_Model_doMemory_96
set_option maxHeartbeats 4000000 in
set_option maxRecDepth 100000 in
theorem wj_Model_doMemory_57 {p : Program} {l : Launch} {e : Env} {s : State} {m : MethodId} {args : Array Value} {below : List Frame} {meth : Method} {c : Code} {D : va_G} {ad : Nat → Nat} {ca : Nat → ClassId} {ads : List Nat} {fu : Nat} (htr : l.stackTraces = false) (C : xk_C D kx_cl (kx_ty ca) (kw_m ad ca) ads "ModuleHouseModel" prog_14_method_116_code 7 none p e s m args meth c) (hne : c.exceptionTable.isEmpty = true) {u' : xk_St} {r : Unit} {b1 : Int64} {s0 : Int32} {u : xk_St} {H : Heap} {locs : List Loc} {ls : Array Slot} (h : jb_Model_doMemory_57 fu  b1 s0 u = some (r, u')) (hP : va_P D kx_cl (kw_m ad ca u) H) (hS : va_S (xk_A ads s.heap.size) s.heap H locs) (hl : lv_has ls 7 [(0, .ref (ad 0)), (1, .long b1)]) : W p l e rm_Model_doMemory s m args below meth c H locs 0 0 (xk_MQ below (xk_Qc D kx_cl (kw_m ad ca) ads (xo_v (.inl r)) u') args s (xk_A ads s.heap.size)) (F0 m 57 ls [.int s0]) := by
  have hx := C.1.1
  have hb := C.1.2.1
  have hok := C.2.2.1
  unfold jb_Model_doMemory_57 at h
  refine lv_istore_n (lv' := [(3, .int s0), (0, .ref (ad 0)), (1, .long b1)]) hx hb dd_Model_doMemory_57 rfl hl (by decide) rfl (fun ls hl => ?_)
  refine lv_aload_n hx hb dd_Model_doMemory_58 rfl (lv_at hl 1 rfl) ?_
  refine lv_iload_n hx hb dd_Model_doMemory_59 rfl (lv_at hl 0 rfl) ?_
  refine lv_if_eq (tgt := 71) hx hb dd_Model_doMemory_60 (by decide) (fun hc => ?_) (fun hc => ?_)
  · have h := xp_t hc h
    refine lv_ldc2 (v := (-1)) hx hb C.1.2.2.2.1 (C.1.2.2.2.2 _ (xk_c9 (w := Jvm.Cond.constantLong "ModuleHouseModel" 184 (-1)) 138 rfl rfl)) dd_Model_doMemory_71 ?_
    exact wj_Model_doMemory_74 htr C hne h hP hS (lv_sub hl [1, 2, 0] rfl)
  · have h := xp_f hc h
    refine lv_aload_n hx hb dd_Model_doMemory_63 rfl (lv_at hl 1 rfl) ?_
    refine gf_m_Model_0_pages C hP dd_Model_doMemory_64 ?_
    refine lv_i2l hx hb dd_Model_doMemory_67 rfl ?_
    refine lv_goto (tgt := 74) hx hb dd_Model_doMemory_68 (by decide) ?_
    exact wj_Model_doMemory_74 htr C hne h hP hS (lv_sub hl [1, 2, 0] rfl)
set_option maxHeartbeats 4000000 in
set_option maxRecDepth 100000 in
theorem ct_Model_doMemory {l : Launch} {D : va_G} {ad : Nat → Nat} {ca : Nat → ClassId} {ads : List Nat} (htr : l.stackTraces = false) (hok : xk_ok (kw_m ad ca) ads) {fu : Nat} {u u' : xk_St} {r : Unit} (h : fm_Model_doMemory fu u = some (r, u')) :
    ∀ sz, xk_Met l ⟨"ModuleHouseModel", "doMemory", "()V"⟩ (Cond.code ⟨"ModuleHouseModel", "doMemory", "()V"⟩ prog_14_method_116_code 7 none :: xk_gd) rm_Model_doMemory (xk_Pc D kx_cl (kx_ty ca) (kw_m ad ca) ads xk_F sz [.ref (ad 0)] u) (xk_Qc D kx_cl (kw_m ad ca) ads (xo_v (.inl r)) u') (xk_A ads sz) := by
  unfold fm_Model_doMemory at h
  refine xk_con (by decide) htr hok (Nat.le_of_ble_eq_true rfl) (fun p e s m below meth c ls C hne hl hP => ?_)
  have hx := C.1.1
  have hb := C.1.2.1
  have hS : va_S (xk_A ads s.heap.size) s.heap s.heap [] := va_S.rf
  have hl : lv_has ls 7 [(0, .ref (ad 0))] := hl
  refine lv_aload_n hx hb dd_Model_doMemory_0 rfl (lv_at hl 0 rfl) ?_
  refine gf_m_Model_0_op C hP dd_Model_doMemory_1 ?_
  refine lv_bipush (v := 63) hx hb dd_Model_doMemory_4 (by decide) ?_
  refine lv_icmp_ne (tgt := 19) hx hb dd_Model_doMemory_6 (by decide) (fun hc => ?_) (fun hc => ?_)
  · have h := xp_f hc h
    refine lv_aload_n hx hb dd_Model_doMemory_19 rfl (lv_at hl 0 rfl) ?_
    refine gf_m_Model_0_op C hP dd_Model_doMemory_20 ?_
    refine lv_bipush (v := 64) hx hb dd_Model_doMemory_23 (by decide) ?_
    refine lv_icmp_ne (tgt := 97) hx hb dd_Model_doMemory_25 (by decide) (fun hc => ?_) (fun hc => ?_)
    · have h := xp_f hc h
      refine lv_aload_n hx hb dd_Model_doMemory_97 rfl (lv_at hl 0 rfl) ?_
      refine gf_m_Model_0_op C hP dd_Model_doMemory_98 ?_
      refine lv_bipush (v := 53) hx hb dd_Model_doMemory_101 (by decide) ?_
      refine lv_icmp_le (tgt := 113) hx hb dd_Model_doMemory_103 (by decide) (fun hc => ?_) (fun hc => ?_)
      · have h := xp_t hc h
        refine lv_lconst (v := 0) hx hb dd_Model_doMemory_113 (by decide) ?_
        exact wj_Model_doMemory_114 htr C hne h hP hS (lv_sub hl [0] rfl)
      · have h := xp_f hc h
        refine lv_aload_n hx hb dd_Model_doMemory_106 rfl (lv_at hl 0 rfl) ?_
        obtain ⟨a15, u16, hq, h⟩ := xp_seq h
        refine xk_goesL (xr_V (As := []) (rest := []) C hP hS (ct_Model_drop htr hok hq) kq_Model_725 0 11 rfl rfl ⟨rfl, rfl, Nat.le_of_ble_eq_true rfl, Nat.le_of_ble_eq_true rfl⟩ ⟨Nat.le_of_ble_eq_true rfl, Nat.le_of_ble_eq_true rfl⟩ hl.1 rfl rfl (Nat.le_of_ble_eq_true rfl) dd_Model_doMemory_107) hS (fun H locs hP hS => ?_)
        clear hq
        refine lv_goto (tgt := 114) hx hb dd_Model_doMemory_110 (by decide) ?_
        exact wj_Model_doMemory_114 htr C hne h hP hS (lv_sub hl [0] rfl)
    · have h := xp_t hc h
      refine lv_aload_n hx hb dd_Model_doMemory_28 rfl (lv_at hl 0 rfl) ?_
      obtain ⟨a17, u18, hq, h⟩ := xp_seq h
      refine xk_goesL (xr_V (As := []) (rest := []) C hP hS (ct_Model_drop htr hok hq) kq_Model_725 0 11 rfl rfl ⟨rfl, rfl, Nat.le_of_ble_eq_true rfl, Nat.le_of_ble_eq_true rfl⟩ ⟨Nat.le_of_ble_eq_true rfl, Nat.le_of_ble_eq_true rfl⟩ hl.1 rfl rfl (Nat.le_of_ble_eq_true rfl) dd_Model_doMemory_29) hS (fun H locs hP hS => ?_)
      clear hq
      refine lv_ldc2 (v := 4294967295) hx hb C.1.2.2.2.1 (C.1.2.2.2.2 _ (xk_c9 (w := Jvm.Cond.constantLong "ModuleHouseModel" 182 4294967295) 103 rfl rfl)) dd_Model_doMemory_32 ?_
      refine lv_land hx hb dd_Model_doMemory_35 ?_
      obtain ⟨a19, ea19, h⟩ := xp_let h
      refine xr_naml ea19 ?_
      refine lv_lstore_n (lv' := [(1, .long a19), (0, .ref (ad 0))]) hx hb dd_Model_doMemory_36 rfl hl (by decide) rfl (fun ls hl => ?_)
      refine lv_lload_n hx hb dd_Model_doMemory_37 rfl (lv_at hl 0 rfl) ?_
      refine lv_aload_n hx hb dd_Model_doMemory_38 rfl (lv_at hl 1 rfl) ?_
      refine gf_m_Model_0_mostPages C hP dd_Model_doMemory_39 ?_
      refine lv_aload_n hx hb dd_Model_doMemory_42 rfl (lv_at hl 1 rfl) ?_
      refine gf_m_Model_0_pages C hP dd_Model_doMemory_43 ?_
      refine lv_isub hx hb dd_Model_doMemory_46 ?_
      refine lv_i2l hx hb dd_Model_doMemory_47 rfl ?_
      refine xr_lc_gt (tgt := 56) hx hb dd_Model_doMemory_48 dd_Model_doMemory_49 (by decide) (fun hc => ?_) (fun hc => ?_)
      · have h := xp_t hc h
        refine lv_iconst (v := 0) hx hb dd_Model_doMemory_56 (by decide) ?_
        exact wj_Model_doMemory_57 htr C hne h hP hS (lv_sub hl [1, 0] rfl)
      · have h := xp_f hc h
        refine lv_iconst (v := 1) hx hb dd_Model_doMemory_52 (by decide) ?_
        refine lv_goto (tgt := 57) hx hb dd_Model_doMemory_53 (by decide) ?_
        exact wj_Model_doMemory_57 htr C hne h hP hS (lv_sub hl [1, 0] rfl)
  · have h := xp_t hc h
    refine lv_aload_n hx hb dd_Model_doMemory_9 rfl (lv_at hl 0 rfl) ?_
    refine lv_aload_n hx hb dd_Model_doMemory_10 rfl (lv_at hl 0 rfl) ?_
    refine gf_m_Model_0_pages C hP dd_Model_doMemory_11 ?_
    refine lv_i2l hx hb dd_Model_doMemory_14 rfl ?_
    obtain ⟨rx, u23, hq, h⟩ := xp_seq h
    refine xk_goesV (xr_V (As := [.long ((u.1 16).toInt64)]) (rest := []) C hP hS (ct_Model_tell htr hok hq) kq_Model_737 0 11 rfl rfl ⟨rfl, rfl, Nat.le_of_ble_eq_true rfl, Nat.le_of_ble_eq_true rfl⟩ ⟨Nat.le_of_ble_eq_true rfl, Nat.le_of_ble_eq_true rfl⟩ hl.1 rfl rfl (Nat.le_of_ble_eq_true rfl) dd_Model_doMemory_15) hS (fun H locs hP hS => ?_)
    clear hq
    obtain ⟨rfl, rfl⟩ := xp_r h
    exact xr_vret C hP hS dd_Model_doMemory_18
abbrev rm_Model_doNames : Room := { frames := 2, cells := 1, slots := 6, locals := 23 }
noncomputable def jb_Model_doNames_116 (u : xk_St) : Option (Unit × xk_St) :=
  if (u.1 8) = (33 : Int32) then ((xs_let (xs_I u 26 ((u.1 26) - (1 : Int32))) fun u4 => some ((()), u4))) else (some ((()), u))
noncomputable def fm_Model_doNames (u : xk_St) : Option (Unit × xk_St) :=
  (xs_let ((u.2.1 0).toInt32) fun a1 => if (u.1 8) ≤ (34 : Int32) then ((if ((u.1 27) - (1 : Int32)) < 0 ∨ 61 ≤ ((u.1 27) - (1 : Int32)).toNatClampNeg then none else xs_let ((u.2.2.1 31 ((u.1 27) - (1 : Int32)).toNatClampNeg) + a1) fun a2 => if (u.1 8) = (32 : Int32) then ((if a2 < 0 ∨ 19000 ≤ a2.toNatClampNeg then none else if a2 < 0 ∨ 19000 ≤ a2.toNatClampNeg then none else xs_seq (fm_Model_lay (u.2.2.2 3 a2.toNatClampNeg) (u.2.2.1 29 a2.toNatClampNeg) u) fun _ u5 => jb_Model_doNames_116 u5)) else ((if ((u.1 26) - (1 : Int32)) < 0 ∨ 19000 ≤ ((u.1 26) - (1 : Int32)).toNatClampNeg then none else if a2 < 0 ∨ 19000 ≤ a2.toNatClampNeg then none else xs_let (xs_B u 3 a2.toNatClampNeg (u.2.2.2 3 ((u.1 26) - (1 : Int32)).toNatClampNeg)) fun u3 => jb_Model_doNames_116 u3)))) else (if (u.1 8) = (35 : Int32) then ((if a1 < 0 ∨ 64 ≤ a1.toNatClampNeg then none else if a1 < 0 ∨ 64 ≤ a1.toNatClampNeg then none else xs_seq (fm_Model_isReference (u.2.2.1 14 a1.toNatClampNeg) u) fun a9 u10 => xs_seq (fm_Model_lay (u.2.2.2 2 a1.toNatClampNeg) a9 u10) fun _ u11 => some ((()), u11))) else ((xs_seq (fm_Model_drop u) fun a6 u7 => if a1 < 0 ∨ 64 ≤ a1.toNatClampNeg then none else xs_let (xs_B u7 2 a1.toNatClampNeg a6) fun u8 => some ((()), u8)))))
set_option maxHeartbeats 4000000 in
set_option maxRecDepth 100000 in
theorem wj_Model_doNames_116 {p : Program} {l : Launch} {e : Env} {s : State} {m : MethodId} {args : Array Value} {below : List Frame} {meth : Method} {c : Code} {D : va_G} {ad : Nat → Nat} {ca : Nat → ClassId} {ads : List Nat} (htr : l.stackTraces = false) (C : xk_C D kx_cl (kx_ty ca) (kw_m ad ca) ads "ModuleHouseModel" prog_14_method_115_code 3 none p e s m args meth c) (hne : c.exceptionTable.isEmpty = true) {u' : xk_St} {r : Unit} {u : xk_St} {H : Heap} {locs : List Loc} {ls : Array Slot} (h : jb_Model_doNames_116   u = some (r, u')) (hP : va_P D kx_cl (kw_m ad ca u) H) (hS : va_S (xk_A ads s.heap.size) s.heap H locs) (hl : lv_has ls 3 [(0, .ref (ad 0))]) : W p l e rm_Model_doNames s m args below meth c H locs 0 0 (xk_MQ below (xk_Qc D kx_cl (kw_m ad ca) ads (xo_v (.inl r)) u') args s (xk_A ads s.heap.size)) (F0 m 116 ls []) := by
  have hx := C.1.1
  have hb := C.1.2.1
  have hok := C.2.2.1
  unfold jb_Model_doNames_116 at h
  refine lv_aload_n hx hb dd_Model_doNames_116 rfl (lv_at hl 0 rfl) ?_
  refine gf_m_Model_0_op C hP dd_Model_doNames_117 ?_
  refine lv_bipush (v := 33) hx hb dd_Model_doNames_120 (by decide) ?_
  refine lv_icmp_ne (tgt := 135) hx hb dd_Model_doNames_122 (by decide) (fun hc => ?_) (fun hc => ?_)
  · have h := xp_f hc h
    obtain ⟨rfl, rfl⟩ := xp_r h
    exact xr_vret C hP hS dd_Model_doNames_135
  · have h := xp_t hc h
    refine lv_aload_n hx hb dd_Model_doNames_125 rfl (lv_at hl 0 rfl) ?_
    refine lv_dup hx hb dd_Model_doNames_126 rfl ?_
    refine gf_m_Model_0_top C hP dd_Model_doNames_127 ?_
    refine lv_iconst (v := 1) hx hb dd_Model_doNames_130 (by decide) ?_
    refine lv_isub hx hb dd_Model_doNames_131 ?_
    refine pf_m_Model_0_top C hP hS dd_Model_doNames_132 (fun H locs hP hS => ?_)
    obtain ⟨u4, eu4, h⟩ := xp_let h
    rw [← eu4] at hP
    obtain ⟨rfl, rfl⟩ := xp_r h
    exact xr_vret C hP hS dd_Model_doNames_135
set_option maxHeartbeats 4000000 in
set_option maxRecDepth 100000 in
theorem ct_Model_doNames {l : Launch} {D : va_G} {ad : Nat → Nat} {ca : Nat → ClassId} {ads : List Nat} (htr : l.stackTraces = false) (hok : xk_ok (kw_m ad ca) ads) {u u' : xk_St} {r : Unit} (h : fm_Model_doNames u = some (r, u')) :
    ∀ sz, xk_Met l ⟨"ModuleHouseModel", "doNames", "()V"⟩ (Cond.code ⟨"ModuleHouseModel", "doNames", "()V"⟩ prog_14_method_115_code 3 none :: xk_gd) rm_Model_doNames (xk_Pc D kx_cl (kx_ty ca) (kw_m ad ca) ads xk_F sz [.ref (ad 0)] u) (xk_Qc D kx_cl (kw_m ad ca) ads (xo_v (.inl r)) u') (xk_A ads sz) := by
  unfold fm_Model_doNames at h
  refine xk_con (by decide) htr hok (Nat.le_of_ble_eq_true rfl) (fun p e s m below meth c ls C hne hl hP => ?_)
  have hx := C.1.1
  have hb := C.1.2.1
  have hS : va_S (xk_A ads s.heap.size) s.heap s.heap [] := va_S.rf
  have hl : lv_has ls 3 [(0, .ref (ad 0))] := hl
  refine lv_aload_n hx hb dd_Model_doNames_0 rfl (lv_at hl 0 rfl) ?_
  refine gf_m_Model_0_x C hP dd_Model_doNames_1 ?_
  refine lv_l2i hx hb dd_Model_doNames_4 rfl ?_
  obtain ⟨a1, ea1, h⟩ := xp_let h
  refine xr_nami ea1 ?_
  refine lv_istore_n (lv' := [(1, .int a1), (0, .ref (ad 0))]) hx hb dd_Model_doNames_5 rfl hl (by decide) rfl (fun ls hl => ?_)
  refine lv_aload_n hx hb dd_Model_doNames_6 rfl (lv_at hl 1 rfl) ?_
  refine gf_m_Model_0_op C hP dd_Model_doNames_7 ?_
  refine lv_bipush (v := 34) hx hb dd_Model_doNames_10 (by decide) ?_
  refine lv_icmp_le (tgt := 57) hx hb dd_Model_doNames_12 (by decide) (fun hc => ?_) (fun hc => ?_)
  · have h := xp_t hc h
    refine lv_aload_n hx hb dd_Model_doNames_57 rfl (lv_at hl 1 rfl) ?_
    refine gf_m_Model_0_callLocals C hP dd_Model_doNames_58 ?_
    refine lv_aload_n hx hb dd_Model_doNames_61 rfl (lv_at hl 1 rfl) ?_
    refine gf_m_Model_0_calls C hP dd_Model_doNames_62 ?_
    refine lv_iconst (v := 1) hx hb dd_Model_doNames_65 (by decide) ?_
    refine lv_isub hx hb dd_Model_doNames_66 ?_
    obtain ⟨hi, h⟩ := xp_g h
    refine al_m_36 C hP hi dd_Model_doNames_67 ?_
    refine lv_iload_n hx hb dd_Model_doNames_68 rfl (lv_at hl 0 rfl) ?_
    refine lv_iadd hx hb dd_Model_doNames_69 ?_
    obtain ⟨a2, ea2, h⟩ := xp_let h
    refine xr_nami ea2 ?_
    refine lv_istore_n (lv' := [(2, .int a2), (1, .int a1), (0, .ref (ad 0))]) hx hb dd_Model_doNames_70 rfl hl (by decide) rfl (fun ls hl => ?_)
    refine lv_aload_n hx hb dd_Model_doNames_71 rfl (lv_at hl 2 rfl) ?_
    refine gf_m_Model_0_op C hP dd_Model_doNames_72 ?_
    refine lv_bipush (v := 32) hx hb dd_Model_doNames_75 (by decide) ?_
    refine lv_icmp_ne (tgt := 99) hx hb dd_Model_doNames_77 (by decide) (fun hc => ?_) (fun hc => ?_)
    · have h := xp_f hc h
      refine lv_aload_n hx hb dd_Model_doNames_99 rfl (lv_at hl 2 rfl) ?_
      refine gf_m_Model_0_values C hP dd_Model_doNames_100 ?_
      refine lv_iload_n hx hb dd_Model_doNames_103 rfl (lv_at hl 0 rfl) ?_
      refine lv_aload_n hx hb dd_Model_doNames_104 rfl (lv_at hl 2 rfl) ?_
      refine gf_m_Model_0_values C hP dd_Model_doNames_105 ?_
      refine lv_aload_n hx hb dd_Model_doNames_108 rfl (lv_at hl 2 rfl) ?_
      refine gf_m_Model_0_top C hP dd_Model_doNames_109 ?_
      refine lv_iconst (v := 1) hx hb dd_Model_doNames_112 (by decide) ?_
      refine lv_isub hx hb dd_Model_doNames_113 ?_
      obtain ⟨hi, h⟩ := xp_g h
      refine al_m_33 C hP hi dd_Model_doNames_114 ?_
      obtain ⟨hi, h⟩ := xp_g h
      refine as_m_33 C hP hS hi dd_Model_doNames_115 (fun H locs hP hS => ?_)
      obtain ⟨u3, eu3, h⟩ := xp_let h
      rw [← eu3] at hP
      exact wj_Model_doNames_116 htr C hne h hP hS (lv_sub hl [2] rfl)
    · have h := xp_t hc h
      refine lv_aload_n hx hb dd_Model_doNames_80 rfl (lv_at hl 2 rfl) ?_
      refine lv_aload_n hx hb dd_Model_doNames_81 rfl (lv_at hl 2 rfl) ?_
      refine gf_m_Model_0_values C hP dd_Model_doNames_82 ?_
      refine lv_iload_n hx hb dd_Model_doNames_85 rfl (lv_at hl 0 rfl) ?_
      obtain ⟨hi, h⟩ := xp_g h
      refine al_m_33 C hP hi dd_Model_doNames_86 ?_
      refine lv_aload_n hx hb dd_Model_doNames_87 rfl (lv_at hl 2 rfl) ?_
      refine gf_m_Model_0_refers C hP dd_Model_doNames_88 ?_
      refine lv_iload_n hx hb dd_Model_doNames_91 rfl (lv_at hl 0 rfl) ?_
      obtain ⟨hi, h⟩ := xp_g h
      refine al_m_34 C hP hi dd_Model_doNames_92 ?_
      obtain ⟨rx, u5, hq, h⟩ := xp_seq h
      refine xk_goesV (xr_V (As := [.long (u.2.2.2 3 a2.toNatClampNeg), .int (u.2.2.1 29 a2.toNatClampNeg)]) (rest := []) C hP hS (ct_Model_lay htr hok hq) kq_Model_676 0 11 rfl rfl ⟨rfl, rfl, Nat.le_of_ble_eq_true rfl, Nat.le_of_ble_eq_true rfl⟩ ⟨Nat.le_of_ble_eq_true rfl, Nat.le_of_ble_eq_true rfl⟩ hl.1 rfl rfl (Nat.le_of_ble_eq_true rfl) dd_Model_doNames_93) hS (fun H locs hP hS => ?_)
      clear hq
      refine lv_goto (tgt := 116) hx hb dd_Model_doNames_96 (by decide) ?_
      exact wj_Model_doNames_116 htr C hne h hP hS (lv_sub hl [2] rfl)
  · have h := xp_f hc h
    refine lv_aload_n hx hb dd_Model_doNames_15 rfl (lv_at hl 1 rfl) ?_
    refine gf_m_Model_0_op C hP dd_Model_doNames_16 ?_
    refine lv_bipush (v := 35) hx hb dd_Model_doNames_19 (by decide) ?_
    refine lv_icmp_ne (tgt := 46) hx hb dd_Model_doNames_21 (by decide) (fun hc => ?_) (fun hc => ?_)
    · have h := xp_f hc h
      refine lv_aload_n hx hb dd_Model_doNames_46 rfl (lv_at hl 1 rfl) ?_
      refine gf_m_Model_0_globalValue C hP dd_Model_doNames_47 ?_
      refine lv_iload_n hx hb dd_Model_doNames_50 rfl (lv_at hl 0 rfl) ?_
      refine lv_aload_n hx hb dd_Model_doNames_51 rfl (lv_at hl 1 rfl) ?_
      obtain ⟨a6, u7, hq, h⟩ := xp_seq h
      refine xk_goesL (xr_V (As := []) (rest := [.int a1, .ref (ad 30)]) C hP hS (ct_Model_drop htr hok hq) kq_Model_725 0 11 rfl rfl ⟨rfl, rfl, Nat.le_of_ble_eq_true rfl, Nat.le_of_ble_eq_true rfl⟩ ⟨Nat.le_of_ble_eq_true rfl, Nat.le_of_ble_eq_true rfl⟩ hl.1 rfl rfl (Nat.le_of_ble_eq_true rfl) dd_Model_doNames_52) hS (fun H locs hP hS => ?_)
      clear hq
      obtain ⟨hi, h⟩ := xp_g h
      refine as_m_30 C hP hS hi dd_Model_doNames_55 (fun H locs hP hS => ?_)
      obtain ⟨u8, eu8, h⟩ := xp_let h
      rw [← eu8] at hP
      obtain ⟨rfl, rfl⟩ := xp_r h
      exact xr_vret C hP hS dd_Model_doNames_56
    · have h := xp_t hc h
      refine lv_aload_n hx hb dd_Model_doNames_24 rfl (lv_at hl 1 rfl) ?_
      refine lv_aload_n hx hb dd_Model_doNames_25 rfl (lv_at hl 1 rfl) ?_
      refine gf_m_Model_0_globalValue C hP dd_Model_doNames_26 ?_
      refine lv_iload_n hx hb dd_Model_doNames_29 rfl (lv_at hl 0 rfl) ?_
      obtain ⟨hi, h⟩ := xp_g h
      refine al_m_30 C hP hi dd_Model_doNames_30 ?_
      refine lv_aload_n hx hb dd_Model_doNames_31 rfl (lv_at hl 1 rfl) ?_
      refine gf_m_Model_0_globalType C hP dd_Model_doNames_32 ?_
      refine lv_iload_n hx hb dd_Model_doNames_35 rfl (lv_at hl 0 rfl) ?_
      obtain ⟨hi, h⟩ := xp_g h
      refine al_m_16 C hP hi dd_Model_doNames_36 ?_
      obtain ⟨a9, u10, hq, h⟩ := xp_seq h
      refine xk_goesI (xr_S (As := [.int (u.2.2.1 14 a1.toNatClampNeg)]) (rest := [.long (u.2.2.2 2 a1.toNatClampNeg), .ref (ad 0)]) C hP hS (ct_Model_isReference htr hok hq) kq_Model_384 ⟨rfl, rfl, Nat.le_of_ble_eq_true rfl, Nat.le_of_ble_eq_true rfl⟩ ⟨Nat.le_of_ble_eq_true rfl, Nat.le_of_ble_eq_true rfl⟩ hl.1 rfl rfl (Nat.le_of_ble_eq_true rfl) dd_Model_doNames_37) hS (fun H locs hP hS => ?_)
      clear hq
      obtain ⟨rx, u11, hq, h⟩ := xp_seq h
      refine xk_goesV (xr_V (As := [.long (u.2.2.2 2 a1.toNatClampNeg), .int a9]) (rest := []) C hP hS (ct_Model_lay htr hok hq) kq_Model_676 0 11 rfl rfl ⟨rfl, rfl, Nat.le_of_ble_eq_true rfl, Nat.le_of_ble_eq_true rfl⟩ ⟨Nat.le_of_ble_eq_true rfl, Nat.le_of_ble_eq_true rfl⟩ hl.1 rfl rfl (Nat.le_of_ble_eq_true rfl) dd_Model_doNames_40) hS (fun H locs hP hS => ?_)
      clear hq
      refine lv_goto (tgt := 56) hx hb dd_Model_doNames_43 (by decide) ?_
      obtain ⟨rfl, rfl⟩ := xp_r h
      exact xr_vret C hP hS dd_Model_doNames_56
abbrev rm_Model_doBlock : Room := { frames := 2, cells := 1, slots := 6, locals := 24 }
noncomputable def jb_Model_doBlock_122 (b1 : Int32) (u : xk_St) : Option (Unit × xk_St) :=
  if b1 = (0 : Int32) then ((if (u.1 23) < 0 ∨ 8192 ≤ (u.1 23).toNatClampNeg then none else xs_let (xs_I u 4 (u.2.2.1 21 (u.1 23).toNatClampNeg)) fun u7 => some ((()), u7))) else (some ((()), u))
noncomputable def jb_Model_doBlock_53 (b1 : Int32) (u : xk_St) : Option (Unit × xk_St) :=
  (xs_seq (fm_Model_countOf (u.2.1 0) (0 : Int32) u) fun a1 u2 => xs_let ((u.1 26) - a1) fun a3 => if (u2.1 8) = (3 : Int32) then ((xs_seq (fm_Model_countOf (u2.2.1 0) (0 : Int32) u2) fun a8 u9 => xs_seq (fm_Model_beginWay (u2.1 4) a8 a3 (1 : Int32) u9) fun _ u10 => jb_Model_doBlock_122 b1 u10)) else ((if (u2.1 23) < 0 ∨ 8192 ≤ (u2.1 23).toNatClampNeg then none else xs_seq (fm_Model_countOf (u2.2.1 0) (1 : Int32) u2) fun a4 u5 => xs_seq (fm_Model_beginWay (u2.2.2.1 20 (u2.1 23).toNatClampNeg) a4 a3 (0 : Int32) u5) fun _ u6 => jb_Model_doBlock_122 b1 u6)))
noncomputable def jb_Model_doBlock_22 (s0 : Int32) (u : xk_St) : Option (Unit × xk_St) :=
  if s0 = (0 : Int32) then ((if (u.1 23) < 0 ∨ 8192 ≤ (u.1 23).toNatClampNeg then none else if (u.2.2.1 21 (u.1 23).toNatClampNeg) = (0 : Int32) then ((if (u.1 23) < 0 ∨ 8192 ≤ (u.1 23).toNatClampNeg then none else xs_let (xs_I u 4 (u.2.2.1 20 (u.1 23).toNatClampNeg)) fun u11 => some ((()), u11))) else (jb_Model_doBlock_53 s0 u))) else (jb_Model_doBlock_53 s0 u)
noncomputable def jb_Model_doBlock_17 (u : xk_St) : Option (Unit × xk_St) :=
  jb_Model_doBlock_22 (1 : Int32) u
noncomputable def fm_Model_doBlock (u : xk_St) : Option (Unit × xk_St) :=
  if (u.1 8) = (4 : Int32) then ((xs_seq (fm_Model_drop u) fun a12 u13 => if a12 = (0 : Int64) then (jb_Model_doBlock_22 (0 : Int32) u13) else (jb_Model_doBlock_17 u13))) else (jb_Model_doBlock_17 u)
set_option maxHeartbeats 4000000 in
set_option maxRecDepth 100000 in
theorem wj_Model_doBlock_122 {p : Program} {l : Launch} {e : Env} {s : State} {m : MethodId} {args : Array Value} {below : List Frame} {meth : Method} {c : Code} {D : va_G} {ad : Nat → Nat} {ca : Nat → ClassId} {ads : List Nat} (htr : l.stackTraces = false) (C : xk_C D kx_cl (kx_ty ca) (kw_m ad ca) ads "ModuleHouseModel" prog_14_method_112_code 3 none p e s m args meth c) (hne : c.exceptionTable.isEmpty = true) {u' : xk_St} {r : Unit} {b1 : Int32} {u : xk_St} {H : Heap} {locs : List Loc} {ls : Array Slot} (h : jb_Model_doBlock_122  b1 u = some (r, u')) (hP : va_P D kx_cl (kw_m ad ca u) H) (hS : va_S (xk_A ads s.heap.size) s.heap H locs) (hl : lv_has ls 3 [(0, .ref (ad 0)), (1, .int b1)]) : W p l e rm_Model_doBlock s m args below meth c H locs 0 0 (xk_MQ below (xk_Qc D kx_cl (kw_m ad ca) ads (xo_v (.inl r)) u') args s (xk_A ads s.heap.size)) (F0 m 122 ls []) := by
  have hx := C.1.1
  have hb := C.1.2.1
  have hok := C.2.2.1
  unfold jb_Model_doBlock_122 at h
  refine lv_iload_n hx hb dd_Model_doBlock_122 rfl (lv_at hl 1 rfl) ?_
  refine lv_if_ne (tgt := 139) hx hb dd_Model_doBlock_123 (by decide) (fun hc => ?_) (fun hc => ?_)
  · have h := xp_f hc h
    obtain ⟨rfl, rfl⟩ := xp_r h
    exact xr_vret C hP hS dd_Model_doBlock_139
  · have h := xp_t hc h
    refine lv_aload_n hx hb dd_Model_doBlock_126 rfl (lv_at hl 0 rfl) ?_
    refine lv_aload_n hx hb dd_Model_doBlock_127 rfl (lv_at hl 0 rfl) ?_
    refine gf_m_Model_0_elses C hP dd_Model_doBlock_128 ?_
    refine lv_aload_n hx hb dd_Model_doBlock_131 rfl (lv_at hl 0 rfl) ?_
    refine gf_m_Model_0_here C hP dd_Model_doBlock_132 ?_
    obtain ⟨hi, h⟩ := xp_g h
    refine al_m_23 C hP hi dd_Model_doBlock_135 ?_
    refine pf_m_Model_0_at C hP hS dd_Model_doBlock_136 (fun H locs hP hS => ?_)
    obtain ⟨u7, eu7, h⟩ := xp_let h
    rw [← eu7] at hP
    obtain ⟨rfl, rfl⟩ := xp_r h
    exact xr_vret C hP hS dd_Model_doBlock_139
set_option maxHeartbeats 4000000 in
set_option maxRecDepth 100000 in
theorem wj_Model_doBlock_53 {p : Program} {l : Launch} {e : Env} {s : State} {m : MethodId} {args : Array Value} {below : List Frame} {meth : Method} {c : Code} {D : va_G} {ad : Nat → Nat} {ca : Nat → ClassId} {ads : List Nat} (htr : l.stackTraces = false) (C : xk_C D kx_cl (kx_ty ca) (kw_m ad ca) ads "ModuleHouseModel" prog_14_method_112_code 3 none p e s m args meth c) (hne : c.exceptionTable.isEmpty = true) {u' : xk_St} {r : Unit} {b1 : Int32} {u : xk_St} {H : Heap} {locs : List Loc} {ls : Array Slot} (h : jb_Model_doBlock_53  b1 u = some (r, u')) (hP : va_P D kx_cl (kw_m ad ca u) H) (hS : va_S (xk_A ads s.heap.size) s.heap H locs) (hl : lv_has ls 3 [(0, .ref (ad 0)), (1, .int b1)]) : W p l e rm_Model_doBlock s m args below meth c H locs 0 0 (xk_MQ below (xk_Qc D kx_cl (kw_m ad ca) ads (xo_v (.inl r)) u') args s (xk_A ads s.heap.size)) (F0 m 53 ls []) := by
  have hx := C.1.1
  have hb := C.1.2.1
  have hok := C.2.2.1
  unfold jb_Model_doBlock_53 at h
  refine lv_aload_n hx hb dd_Model_doBlock_53 rfl (lv_at hl 0 rfl) ?_
  refine gf_m_Model_0_top C hP dd_Model_doBlock_54 ?_
  refine lv_aload_n hx hb dd_Model_doBlock_57 rfl (lv_at hl 0 rfl) ?_
  refine lv_aload_n hx hb dd_Model_doBlock_58 rfl (lv_at hl 0 rfl) ?_
  refine gf_m_Model_0_x C hP dd_Model_doBlock_59 ?_
  refine lv_iconst (v := 0) hx hb dd_Model_doBlock_62 (by decide) ?_
  obtain ⟨a1, u2, hq, h⟩ := xp_seq h
  refine xk_goesI (xr_V (As := [.long (u.2.1 0), .int (0 : Int32)]) (rest := [.int (u.1 26)]) C hP hS (ct_Model_countOf htr hok hq) kq_Model_496 0 11 rfl rfl ⟨rfl, rfl, Nat.le_of_ble_eq_true rfl, Nat.le_of_ble_eq_true rfl⟩ ⟨Nat.le_of_ble_eq_true rfl, Nat.le_of_ble_eq_true rfl⟩ hl.1 rfl rfl (Nat.le_of_ble_eq_true rfl) dd_Model_doBlock_63) hS (fun H locs hP hS => ?_)
  clear hq
  refine lv_isub hx hb dd_Model_doBlock_66 ?_
  obtain ⟨a3, ea3, h⟩ := xp_let h
  refine xr_nami ea3 ?_
  refine lv_istore_n (lv' := [(2, .int a3), (0, .ref (ad 0)), (1, .int b1)]) hx hb dd_Model_doBlock_67 rfl hl (by decide) rfl (fun ls hl => ?_)
  refine lv_aload_n hx hb dd_Model_doBlock_68 rfl (lv_at hl 1 rfl) ?_
  refine gf_m_Model_0_op C hP dd_Model_doBlock_69 ?_
  refine lv_iconst (v := 3) hx hb dd_Model_doBlock_72 (by decide) ?_
  refine lv_icmp_ne (tgt := 98) hx hb dd_Model_doBlock_73 (by decide) (fun hc => ?_) (fun hc => ?_)
  · have h := xp_f hc h
    refine lv_aload_n hx hb dd_Model_doBlock_98 rfl (lv_at hl 1 rfl) ?_
    refine lv_aload_n hx hb dd_Model_doBlock_99 rfl (lv_at hl 1 rfl) ?_
    refine gf_m_Model_0_ends C hP dd_Model_doBlock_100 ?_
    refine lv_aload_n hx hb dd_Model_doBlock_103 rfl (lv_at hl 1 rfl) ?_
    refine gf_m_Model_0_here C hP dd_Model_doBlock_104 ?_
    obtain ⟨hi, h⟩ := xp_g h
    refine al_m_22 C hP hi dd_Model_doBlock_107 ?_
    refine lv_aload_n hx hb dd_Model_doBlock_108 rfl (lv_at hl 1 rfl) ?_
    refine lv_aload_n hx hb dd_Model_doBlock_109 rfl (lv_at hl 1 rfl) ?_
    refine gf_m_Model_0_x C hP dd_Model_doBlock_110 ?_
    refine lv_iconst (v := 1) hx hb dd_Model_doBlock_113 (by decide) ?_
    obtain ⟨a4, u5, hq, h⟩ := xp_seq h
    refine xk_goesI (xr_V (As := [.long (u2.2.1 0), .int (1 : Int32)]) (rest := [.int (u2.2.2.1 20 (u2.1 23).toNatClampNeg), .ref (ad 0)]) C hP hS (ct_Model_countOf htr hok hq) kq_Model_496 0 11 rfl rfl ⟨rfl, rfl, Nat.le_of_ble_eq_true rfl, Nat.le_of_ble_eq_true rfl⟩ ⟨Nat.le_of_ble_eq_true rfl, Nat.le_of_ble_eq_true rfl⟩ hl.1 rfl rfl (Nat.le_of_ble_eq_true rfl) dd_Model_doBlock_114) hS (fun H locs hP hS => ?_)
    clear hq
    refine lv_iload_n hx hb dd_Model_doBlock_117 rfl (lv_at hl 0 rfl) ?_
    refine lv_iconst (v := 0) hx hb dd_Model_doBlock_118 (by decide) ?_
    obtain ⟨rx, u6, hq, h⟩ := xp_seq h
    refine xk_goesV (xr_V (As := [.int (u2.2.2.1 20 (u2.1 23).toNatClampNeg), .int a4, .int a3, .int (0 : Int32)]) (rest := []) C hP hS (ct_Model_beginWay htr hok hq) kq_Model_687 0 11 rfl rfl ⟨rfl, rfl, Nat.le_of_ble_eq_true rfl, Nat.le_of_ble_eq_true rfl⟩ ⟨Nat.le_of_ble_eq_true rfl, Nat.le_of_ble_eq_true rfl⟩ hl.1 rfl rfl (Nat.le_of_ble_eq_true rfl) dd_Model_doBlock_119) hS (fun H locs hP hS => ?_)
    clear hq
    exact wj_Model_doBlock_122 htr C hne h hP hS (lv_sub hl [1, 2] rfl)
  · have h := xp_t hc h
    refine lv_aload_n hx hb dd_Model_doBlock_76 rfl (lv_at hl 1 rfl) ?_
    refine lv_aload_n hx hb dd_Model_doBlock_77 rfl (lv_at hl 1 rfl) ?_
    refine gf_m_Model_0_at C hP dd_Model_doBlock_78 ?_
    refine lv_aload_n hx hb dd_Model_doBlock_81 rfl (lv_at hl 1 rfl) ?_
    refine lv_aload_n hx hb dd_Model_doBlock_82 rfl (lv_at hl 1 rfl) ?_
    refine gf_m_Model_0_x C hP dd_Model_doBlock_83 ?_
    refine lv_iconst (v := 0) hx hb dd_Model_doBlock_86 (by decide) ?_
    obtain ⟨a8, u9, hq, h⟩ := xp_seq h
    refine xk_goesI (xr_V (As := [.long (u2.2.1 0), .int (0 : Int32)]) (rest := [.int (u2.1 4), .ref (ad 0)]) C hP hS (ct_Model_countOf htr hok hq) kq_Model_496 0 11 rfl rfl ⟨rfl, rfl, Nat.le_of_ble_eq_true rfl, Nat.le_of_ble_eq_true rfl⟩ ⟨Nat.le_of_ble_eq_true rfl, Nat.le_of_ble_eq_true rfl⟩ hl.1 rfl rfl (Nat.le_of_ble_eq_true rfl) dd_Model_doBlock_87) hS (fun H locs hP hS => ?_)
    clear hq
    refine lv_iload_n hx hb dd_Model_doBlock_90 rfl (lv_at hl 0 rfl) ?_
    refine lv_iconst (v := 1) hx hb dd_Model_doBlock_91 (by decide) ?_
    obtain ⟨rx, u10, hq, h⟩ := xp_seq h
    refine xk_goesV (xr_V (As := [.int (u2.1 4), .int a8, .int a3, .int (1 : Int32)]) (rest := []) C hP hS (ct_Model_beginWay htr hok hq) kq_Model_687 0 11 rfl rfl ⟨rfl, rfl, Nat.le_of_ble_eq_true rfl, Nat.le_of_ble_eq_true rfl⟩ ⟨Nat.le_of_ble_eq_true rfl, Nat.le_of_ble_eq_true rfl⟩ hl.1 rfl rfl (Nat.le_of_ble_eq_true rfl) dd_Model_doBlock_92) hS (fun H locs hP hS => ?_)
    clear hq
    refine lv_goto (tgt := 122) hx hb dd_Model_doBlock_95 (by decide) ?_
    exact wj_Model_doBlock_122 htr C hne h hP hS (lv_sub hl [1, 2] rfl)
set_option maxHeartbeats 4000000 in
set_option maxRecDepth 100000 in
theorem wj_Model_doBlock_22 {p : Program} {l : Launch} {e : Env} {s : State} {m : MethodId} {args : Array Value} {below : List Frame} {meth : Method} {c : Code} {D : va_G} {ad : Nat → Nat} {ca : Nat → ClassId} {ads : List Nat} (htr : l.stackTraces = false) (C : xk_C D kx_cl (kx_ty ca) (kw_m ad ca) ads "ModuleHouseModel" prog_14_method_112_code 3 none p e s m args meth c) (hne : c.exceptionTable.isEmpty = true) {u' : xk_St} {r : Unit} {s0 : Int32} {u : xk_St} {H : Heap} {locs : List Loc} {ls : Array Slot} (h : jb_Model_doBlock_22  s0 u = some (r, u')) (hP : va_P D kx_cl (kw_m ad ca u) H) (hS : va_S (xk_A ads s.heap.size) s.heap H locs) (hl : lv_has ls 3 [(0, .ref (ad 0))]) : W p l e rm_Model_doBlock s m args below meth c H locs 0 0 (xk_MQ below (xk_Qc D kx_cl (kw_m ad ca) ads (xo_v (.inl r)) u') args s (xk_A ads s.heap.size)) (F0 m 22 ls [.int s0]) := by
  have hx := C.1.1
  have hb := C.1.2.1
  have hok := C.2.2.1
  unfold jb_Model_doBlock_22 at h
  refine lv_istore_n (lv' := [(1, .int s0), (0, .ref (ad 0))]) hx hb dd_Model_doBlock_22 rfl hl (by decide) rfl (fun ls hl => ?_)
  refine lv_iload_n hx hb dd_Model_doBlock_23 rfl (lv_at hl 0 rfl) ?_
  refine lv_if_ne (tgt := 53) hx hb dd_Model_doBlock_24 (by decide) (fun hc => ?_) (fun hc => ?_)
  · have h := xp_f hc h
    exact wj_Model_doBlock_53 htr C hne h hP hS (lv_sub hl [1, 0] rfl)
  · have h := xp_t hc h
    refine lv_aload_n hx hb dd_Model_doBlock_27 rfl (lv_at hl 1 rfl) ?_
    refine gf_m_Model_0_elses C hP dd_Model_doBlock_28 ?_
    refine lv_aload_n hx hb dd_Model_doBlock_31 rfl (lv_at hl 1 rfl) ?_
    refine gf_m_Model_0_here C hP dd_Model_doBlock_32 ?_
    obtain ⟨hi, h⟩ := xp_g h
    refine al_m_23 C hP hi dd_Model_doBlock_35 ?_
    refine lv_if_ne (tgt := 53) hx hb dd_Model_doBlock_36 (by decide) (fun hc => ?_) (fun hc => ?_)
    · have h := xp_f hc h
      exact wj_Model_doBlock_53 htr C hne h hP hS (lv_sub hl [1, 0] rfl)
    · have h := xp_t hc h
      refine lv_aload_n hx hb dd_Model_doBlock_39 rfl (lv_at hl 1 rfl) ?_
      refine lv_aload_n hx hb dd_Model_doBlock_40 rfl (lv_at hl 1 rfl) ?_
      refine gf_m_Model_0_ends C hP dd_Model_doBlock_41 ?_
      refine lv_aload_n hx hb dd_Model_doBlock_44 rfl (lv_at hl 1 rfl) ?_
      refine gf_m_Model_0_here C hP dd_Model_doBlock_45 ?_
      obtain ⟨hi, h⟩ := xp_g h
      refine al_m_22 C hP hi dd_Model_doBlock_48 ?_
      refine pf_m_Model_0_at C hP hS dd_Model_doBlock_49 (fun H locs hP hS => ?_)
      obtain ⟨u11, eu11, h⟩ := xp_let h
      rw [← eu11] at hP
      obtain ⟨rfl, rfl⟩ := xp_r h
      exact xr_vret C hP hS dd_Model_doBlock_52
set_option maxHeartbeats 4000000 in
set_option maxRecDepth 100000 in
theorem wj_Model_doBlock_17 {p : Program} {l : Launch} {e : Env} {s : State} {m : MethodId} {args : Array Value} {below : List Frame} {meth : Method} {c : Code} {D : va_G} {ad : Nat → Nat} {ca : Nat → ClassId} {ads : List Nat} (htr : l.stackTraces = false) (C : xk_C D kx_cl (kx_ty ca) (kw_m ad ca) ads "ModuleHouseModel" prog_14_method_112_code 3 none p e s m args meth c) (hne : c.exceptionTable.isEmpty = true) {u' : xk_St} {r : Unit} {u : xk_St} {H : Heap} {locs : List Loc} {ls : Array Slot} (h : jb_Model_doBlock_17   u = some (r, u')) (hP : va_P D kx_cl (kw_m ad ca u) H) (hS : va_S (xk_A ads s.heap.size) s.heap H locs) (hl : lv_has ls 3 [(0, .ref (ad 0))]) : W p l e rm_Model_doBlock s m args below meth c H locs 0 0 (xk_MQ below (xk_Qc D kx_cl (kw_m ad ca) ads (xo_v (.inl r)) u') args s (xk_A ads s.heap.size)) (F0 m 17 ls []) := by
  have hx := C.1.1
  have hb := C.1.2.1
  have hok := C.2.2.1
  unfold jb_Model_doBlock_17 at h
  refine lv_iconst (v := 1) hx hb dd_Model_doBlock_17 (by decide) ?_
  refine lv_goto (tgt := 22) hx hb dd_Model_doBlock_18 (by decide) ?_
  exact wj_Model_doBlock_22 htr C hne h hP hS (lv_sub hl [0] rfl)
set_option maxHeartbeats 4000000 in
set_option maxRecDepth 100000 in
theorem ct_Model_doBlock {l : Launch} {D : va_G} {ad : Nat → Nat} {ca : Nat → ClassId} {ads : List Nat} (htr : l.stackTraces = false) (hok : xk_ok (kw_m ad ca) ads) {u u' : xk_St} {r : Unit} (h : fm_Model_doBlock u = some (r, u')) :
    ∀ sz, xk_Met l ⟨"ModuleHouseModel", "doBlock", "()V"⟩ (Cond.code ⟨"ModuleHouseModel", "doBlock", "()V"⟩ prog_14_method_112_code 3 none :: xk_gd) rm_Model_doBlock (xk_Pc D kx_cl (kx_ty ca) (kw_m ad ca) ads xk_F sz [.ref (ad 0)] u) (xk_Qc D kx_cl (kw_m ad ca) ads (xo_v (.inl r)) u') (xk_A ads sz) := by
  unfold fm_Model_doBlock at h
  refine xk_con (by decide) htr hok (Nat.le_of_ble_eq_true rfl) (fun p e s m below meth c ls C hne hl hP => ?_)
  have hx := C.1.1
  have hb := C.1.2.1
  have hS : va_S (xk_A ads s.heap.size) s.heap s.heap [] := va_S.rf
  have hl : lv_has ls 3 [(0, .ref (ad 0))] := hl
  refine lv_aload_n hx hb dd_Model_doBlock_0 rfl (lv_at hl 0 rfl) ?_
  refine gf_m_Model_0_op C hP dd_Model_doBlock_1 ?_
  refine lv_iconst (v := 4) hx hb dd_Model_doBlock_4 (by decide) ?_
  refine lv_icmp_ne (tgt := 17) hx hb dd_Model_doBlock_5 (by decide) (fun hc => ?_) (fun hc => ?_)
  · have h := xp_f hc h
    exact wj_Model_doBlock_17 htr C hne h hP hS (lv_sub hl [0] rfl)
  · have h := xp_t hc h
    refine lv_aload_n hx hb dd_Model_doBlock_8 rfl (lv_at hl 0 rfl) ?_
    obtain ⟨a12, u13, hq, h⟩ := xp_seq h
    refine xk_goesL (xr_V (As := []) (rest := []) C hP hS (ct_Model_drop htr hok hq) kq_Model_725 0 11 rfl rfl ⟨rfl, rfl, Nat.le_of_ble_eq_true rfl, Nat.le_of_ble_eq_true rfl⟩ ⟨Nat.le_of_ble_eq_true rfl, Nat.le_of_ble_eq_true rfl⟩ hl.1 rfl rfl (Nat.le_of_ble_eq_true rfl) dd_Model_doBlock_9) hS (fun H locs hP hS => ?_)
    clear hq
    refine lv_lconst (v := 0) hx hb dd_Model_doBlock_12 (by decide) ?_
    refine xr_lc_eq (tgt := 21) hx hb dd_Model_doBlock_13 dd_Model_doBlock_14 (by decide) (fun hc => ?_) (fun hc => ?_)
    · have h := xp_t hc h
      refine lv_iconst (v := 0) hx hb dd_Model_doBlock_21 (by decide) ?_
      exact wj_Model_doBlock_22 htr C hne h hP hS (lv_sub hl [0] rfl)
    · have h := xp_f hc h
      exact wj_Model_doBlock_17 htr C hne h hP hS (lv_sub hl [0] rfl)
abbrev rm_Model_callByTable : Room := { frames := 3, cells := 1, slots := 6, locals := 48 }
noncomputable def jb_Model_callByTable_85 (fu : Nat) (b3 : Int32) (s0 : Int32) (u : xk_St) : Option (Unit × xk_St) :=
  (xs_let (xs_I u 29 s0) fun u4 => if (u4.1 29) = (0 : Int32) then ((xs_seq (fm_Model_enter fu b3 (u4.1 4) u4) fun _ u5 => some ((()), u5))) else (some ((()), u4)))
noncomputable def jb_Model_callByTable_30 (fu : Nat) (b1 : Int64) (s0 : Int32) (u : xk_St) : Option (Unit × xk_St) :=
  if b1 < ((u.1 24).toInt64) then (if (0 : Int32) ≤ s0 then ((if s0 < 0 ∨ 64 ≤ s0.toNatClampNeg then none else if (u.2.2.1 9 s0.toNatClampNeg) < 0 ∨ 64 ≤ (u.2.2.1 9 s0.toNatClampNeg).toNatClampNeg then none else if ((u.2.1 0).toInt32) < 0 ∨ 64 ≤ ((u.2.1 0).toInt32).toNatClampNeg then none else if (u.2.2.1 8 (u.2.2.1 9 s0.toNatClampNeg).toNatClampNeg) = (u.2.2.1 8 ((u.2.1 0).toInt32).toNatClampNeg) then (jb_Model_callByTable_85 fu s0 (0 : Int32) u) else (jb_Model_callByTable_85 fu s0 (7 : Int32) u))) else (jb_Model_callByTable_85 fu s0 (6 : Int32) u)) else (jb_Model_callByTable_85 fu s0 (5 : Int32) u)
noncomputable def fm_Model_callByTable (fu : Nat) (u : xk_St) : Option (Unit × xk_St) :=
  (xs_seq (fm_Model_drop u) fun a1 u2 => xs_let (a1 &&& (4294967295 : Int64)) fun a3 => if ((u2.1 24).toInt64) ≤ a3 then (jb_Model_callByTable_30 fu a3 (-1 : Int32) u2) else ((if (a3.toInt32) < 0 ∨ 64 ≤ (a3.toInt32).toNatClampNeg then none else jb_Model_callByTable_30 fu a3 (u2.2.2.1 28 (a3.toInt32).toNatClampNeg) u2)))
set_option maxHeartbeats 4000000 in
set_option maxRecDepth 100000 in
theorem wj_Model_callByTable_85 {p : Program} {l : Launch} {e : Env} {s : State} {m : MethodId} {args : Array Value} {below : List Frame} {meth : Method} {c : Code} {D : va_G} {ad : Nat → Nat} {ca : Nat → ClassId} {ads : List Nat} {fu : Nat} (htr : l.stackTraces = false) (C : xk_C D kx_cl (kx_ty ca) (kw_m ad ca) ads "ModuleHouseModel" prog_14_method_114_code 4 none p e s m args meth c) (hne : c.exceptionTable.isEmpty = true) {u' : xk_St} {r : Unit} {b3 : Int32} {s0 : Int32} {u : xk_St} {H : Heap} {locs : List Loc} {ls : Array Slot} (h : jb_Model_callByTable_85 fu  b3 s0 u = some (r, u')) (hP : va_P D kx_cl (kw_m ad ca u) H) (hS : va_S (xk_A ads s.heap.size) s.heap H locs) (hl : lv_has ls 4 [(0, .ref (ad 0)), (3, .int b3)]) : W p l e rm_Model_callByTable s m args below meth c H locs 0 0 (xk_MQ below (xk_Qc D kx_cl (kw_m ad ca) ads (xo_v (.inl r)) u') args s (xk_A ads s.heap.size)) (F0 m 85 ls [.int s0, .ref (ad 0)]) := by
  have hx := C.1.1
  have hb := C.1.2.1
  have hok := C.2.2.1
  unfold jb_Model_callByTable_85 at h
  refine pf_m_Model_0_trap C hP hS dd_Model_callByTable_85 (fun H locs hP hS => ?_)
  obtain ⟨u4, eu4, h⟩ := xp_let h
  rw [← eu4] at hP
  refine lv_aload_n hx hb dd_Model_callByTable_88 rfl (lv_at hl 0 rfl) ?_
  refine gf_m_Model_0_trap C hP dd_Model_callByTable_89 ?_
  refine lv_if_ne (tgt := 104) hx hb dd_Model_callByTable_92 (by decide) (fun hc => ?_) (fun hc => ?_)
  · have h := xp_f hc h
    obtain ⟨rfl, rfl⟩ := xp_r h
    exact xr_vret C hP hS dd_Model_callByTable_104
  · have h := xp_t hc h
    refine lv_aload_n hx hb dd_Model_callByTable_95 rfl (lv_at hl 0 rfl) ?_
    refine lv_iload_n hx hb dd_Model_callByTable_96 rfl (lv_at hl 1 rfl) ?_
    refine lv_aload_n hx hb dd_Model_callByTable_97 rfl (lv_at hl 0 rfl) ?_
    refine gf_m_Model_0_at C hP dd_Model_callByTable_98 ?_
    obtain ⟨rx, u5, hq, h⟩ := xp_seq h
    refine xk_goesV (xr_V (As := [.int b3, .int (u4.1 4)]) (rest := []) C hP hS (ct_Model_enter htr hok hq) kq_Model_698 0 11 rfl rfl ⟨rfl, rfl, Nat.le_of_ble_eq_true rfl, Nat.le_of_ble_eq_true rfl⟩ ⟨Nat.le_of_ble_eq_true rfl, Nat.le_of_ble_eq_true rfl⟩ hl.1 rfl rfl (Nat.le_of_ble_eq_true rfl) dd_Model_callByTable_101) hS (fun H locs hP hS => ?_)
    clear hq
    obtain ⟨rfl, rfl⟩ := xp_r h
    exact xr_vret C hP hS dd_Model_callByTable_104
set_option maxHeartbeats 4000000 in
set_option maxRecDepth 100000 in
theorem wj_Model_callByTable_30 {p : Program} {l : Launch} {e : Env} {s : State} {m : MethodId} {args : Array Value} {below : List Frame} {meth : Method} {c : Code} {D : va_G} {ad : Nat → Nat} {ca : Nat → ClassId} {ads : List Nat} {fu : Nat} (htr : l.stackTraces = false) (C : xk_C D kx_cl (kx_ty ca) (kw_m ad ca) ads "ModuleHouseModel" prog_14_method_114_code 4 none p e s m args meth c) (hne : c.exceptionTable.isEmpty = true) {u' : xk_St} {r : Unit} {b1 : Int64} {s0 : Int32} {u : xk_St} {H : Heap} {locs : List Loc} {ls : Array Slot} (h : jb_Model_callByTable_30 fu  b1 s0 u = some (r, u')) (hP : va_P D kx_cl (kw_m ad ca u) H) (hS : va_S (xk_A ads s.heap.size) s.heap H locs) (hl : lv_has ls 4 [(0, .ref (ad 0)), (1, .long b1)]) : W p l e rm_Model_callByTable s m args below meth c H locs 0 0 (xk_MQ below (xk_Qc D kx_cl (kw_m ad ca) ads (xo_v (.inl r)) u') args s (xk_A ads s.heap.size)) (F0 m 30 ls [.int s0]) := by
  have hx := C.1.1
  have hb := C.1.2.1
  have hok := C.2.2.1
  unfold jb_Model_callByTable_30 at h
  refine lv_istore_n (lv' := [(3, .int s0), (0, .ref (ad 0)), (1, .long b1)]) hx hb dd_Model_callByTable_30 rfl hl (by decide) rfl (fun ls hl => ?_)
  refine lv_aload_n hx hb dd_Model_callByTable_31 rfl (lv_at hl 1 rfl) ?_
  refine lv_lload_n hx hb dd_Model_callByTable_32 rfl (lv_at hl 2 rfl) ?_
  refine lv_aload_n hx hb dd_Model_callByTable_33 rfl (lv_at hl 1 rfl) ?_
  refine gf_m_Model_0_table C hP dd_Model_callByTable_34 ?_
  refine lv_i2l hx hb dd_Model_callByTable_37 rfl ?_
  refine xr_lc_lt (tgt := 46) hx hb dd_Model_callByTable_38 dd_Model_callByTable_39 (by decide) (fun hc => ?_) (fun hc => ?_)
  · have h := xp_t hc h
    refine lv_iload_n hx hb dd_Model_callByTable_46 rfl (lv_at hl 0 rfl) ?_
    refine lv_if_ge (tgt := 55) hx hb dd_Model_callByTable_47 (by decide) (fun hc => ?_) (fun hc => ?_)
    · have h := xp_t hc h
      refine lv_aload_n hx hb dd_Model_callByTable_55 rfl (lv_at hl 1 rfl) ?_
      refine gf_m_Model_0_alike C hP dd_Model_callByTable_56 ?_
      refine lv_aload_n hx hb dd_Model_callByTable_59 rfl (lv_at hl 1 rfl) ?_
      refine gf_m_Model_0_functionType C hP dd_Model_callByTable_60 ?_
      refine lv_iload_n hx hb dd_Model_callByTable_63 rfl (lv_at hl 0 rfl) ?_
      obtain ⟨hi, h⟩ := xp_g h
      refine al_m_11 C hP hi dd_Model_callByTable_64 ?_
      obtain ⟨hi, h⟩ := xp_g h
      refine al_m_10 C hP hi dd_Model_callByTable_65 ?_
      refine lv_aload_n hx hb dd_Model_callByTable_66 rfl (lv_at hl 1 rfl) ?_
      refine gf_m_Model_0_alike C hP dd_Model_callByTable_67 ?_
      refine lv_aload_n hx hb dd_Model_callByTable_70 rfl (lv_at hl 1 rfl) ?_
      refine gf_m_Model_0_x C hP dd_Model_callByTable_71 ?_
      refine lv_l2i hx hb dd_Model_callByTable_74 rfl ?_
      obtain ⟨hi, h⟩ := xp_g h
      refine al_m_10 C hP hi dd_Model_callByTable_75 ?_
      refine lv_icmp_eq (tgt := 84) hx hb dd_Model_callByTable_76 (by decide) (fun hc => ?_) (fun hc => ?_)
      · have h := xp_t hc h
        refine lv_iconst (v := 0) hx hb dd_Model_callByTable_84 (by decide) ?_
        exact wj_Model_callByTable_85 htr C hne h hP hS (lv_sub hl [1, 0] rfl)
      · have h := xp_f hc h
        refine lv_bipush (v := 7) hx hb dd_Model_callByTable_79 (by decide) ?_
        refine lv_goto (tgt := 85) hx hb dd_Model_callByTable_81 (by decide) ?_
        exact wj_Model_callByTable_85 htr C hne h hP hS (lv_sub hl [1, 0] rfl)
    · have h := xp_f hc h
      refine lv_bipush (v := 6) hx hb dd_Model_callByTable_50 (by decide) ?_
      refine lv_goto (tgt := 85) hx hb dd_Model_callByTable_52 (by decide) ?_
      exact wj_Model_callByTable_85 htr C hne h hP hS (lv_sub hl [1, 0] rfl)
  · have h := xp_f hc h
    refine lv_iconst (v := 5) hx hb dd_Model_callByTable_42 (by decide) ?_
    refine lv_goto (tgt := 85) hx hb dd_Model_callByTable_43 (by decide) ?_
    exact wj_Model_callByTable_85 htr C hne h hP hS (lv_sub hl [1, 0] rfl)
set_option maxHeartbeats 4000000 in
set_option maxRecDepth 100000 in
theorem ct_Model_callByTable {l : Launch} {D : va_G} {ad : Nat → Nat} {ca : Nat → ClassId} {ads : List Nat} (htr : l.stackTraces = false) (hok : xk_ok (kw_m ad ca) ads) {fu : Nat} {u u' : xk_St} {r : Unit} (h : fm_Model_callByTable fu u = some (r, u')) :
    ∀ sz, xk_Met l ⟨"ModuleHouseModel", "callByTable", "()V"⟩ (Cond.code ⟨"ModuleHouseModel", "callByTable", "()V"⟩ prog_14_method_114_code 4 none :: xk_gd) rm_Model_callByTable (xk_Pc D kx_cl (kx_ty ca) (kw_m ad ca) ads xk_F sz [.ref (ad 0)] u) (xk_Qc D kx_cl (kw_m ad ca) ads (xo_v (.inl r)) u') (xk_A ads sz) := by
  unfold fm_Model_callByTable at h
  refine xk_con (by decide) htr hok (Nat.le_of_ble_eq_true rfl) (fun p e s m below meth c ls C hne hl hP => ?_)
  have hx := C.1.1
  have hb := C.1.2.1
  have hS : va_S (xk_A ads s.heap.size) s.heap s.heap [] := va_S.rf
  have hl : lv_has ls 4 [(0, .ref (ad 0))] := hl
  refine lv_aload_n hx hb dd_Model_callByTable_0 rfl (lv_at hl 0 rfl) ?_
  obtain ⟨a1, u2, hq, h⟩ := xp_seq h
  refine xk_goesL (xr_V (As := []) (rest := []) C hP hS (ct_Model_drop htr hok hq) kq_Model_725 0 11 rfl rfl ⟨rfl, rfl, Nat.le_of_ble_eq_true rfl, Nat.le_of_ble_eq_true rfl⟩ ⟨Nat.le_of_ble_eq_true rfl, Nat.le_of_ble_eq_true rfl⟩ hl.1 rfl rfl (Nat.le_of_ble_eq_true rfl) dd_Model_callByTable_1) hS (fun H locs hP hS => ?_)
  clear hq
  refine lv_ldc2 (v := 4294967295) hx hb C.1.2.2.2.1 (C.1.2.2.2.2 _ (xk_c9 (w := Jvm.Cond.constantLong "ModuleHouseModel" 182 4294967295) 103 rfl rfl)) dd_Model_callByTable_4 ?_
  refine lv_land hx hb dd_Model_callByTable_7 ?_
  obtain ⟨a3, ea3, h⟩ := xp_let h
  refine xr_naml ea3 ?_
  refine lv_lstore_n (lv' := [(1, .long a3), (0, .ref (ad 0))]) hx hb dd_Model_callByTable_8 rfl hl (by decide) rfl (fun ls hl => ?_)
  refine lv_lload_n hx hb dd_Model_callByTable_9 rfl (lv_at hl 0 rfl) ?_
  refine lv_aload_n hx hb dd_Model_callByTable_10 rfl (lv_at hl 1 rfl) ?_
  refine gf_m_Model_0_table C hP dd_Model_callByTable_11 ?_
  refine lv_i2l hx hb dd_Model_callByTable_14 rfl ?_
  refine xr_lc_ge (tgt := 29) hx hb dd_Model_callByTable_15 dd_Model_callByTable_16 (by decide) (fun hc => ?_) (fun hc => ?_)
  · have h := xp_t hc h
    refine lv_iconst (v := (-1)) hx hb dd_Model_callByTable_29 (by decide) ?_
    exact wj_Model_callByTable_30 htr C hne h hP hS (lv_sub hl [1, 0] rfl)
  · have h := xp_f hc h
    refine lv_aload_n hx hb dd_Model_callByTable_19 rfl (lv_at hl 1 rfl) ?_
    refine gf_m_Model_0_tablePlaces C hP dd_Model_callByTable_20 ?_
    refine lv_lload_n hx hb dd_Model_callByTable_23 rfl (lv_at hl 0 rfl) ?_
    refine lv_l2i hx hb dd_Model_callByTable_24 rfl ?_
    obtain ⟨hi, h⟩ := xp_g h
    refine al_m_32 C hP hi dd_Model_callByTable_25 ?_
    refine lv_goto (tgt := 30) hx hb dd_Model_callByTable_26 (by decide) ?_
    exact wj_Model_callByTable_30 htr C hne h hP hS (lv_sub hl [1, 0] rfl)
abbrev rm_Model_doWays : Room := { frames := 4, cells := 1, slots := 6, locals := 71 }
noncomputable def jb_Model_doWays_140 (fu : Nat) (u : xk_St) : Option (Unit × xk_St) :=
  (xs_seq (fm_Model_doBlock u) fun _ u3 => some ((()), u3))
noncomputable def jb_Model_doWays_296 (fu : Nat) (u : xk_St) : Option (Unit × xk_St) :=
  (xs_seq (fm_Model_goOut fu ((u.2.1 0).toInt32) u) fun _ u16 => some ((()), u16))
noncomputable def jb_Model_doWays_265 (fu : Nat) : Nat → Int64 → Int64 → xk_St → Option (Unit × xk_St)
  | 0 => fun _ _ _ => none
  | n + 1 => fun b1 b3 u =>
    xs_let (jb_Model_doWays_265 fu  n) fun k265 =>
    if ((u.1 11).toInt64) ≤ b1 then (jb_Model_doWays_296 fu u) else (if b1 < b3 then (jb_Model_doWays_296 fu u) else ((xs_seq (fm_Model_number fu u) fun a17 u18 => xs_let (xs_J u18 0 a17) fun u19 => xs_let (b3 + (1 : Int64)) fun a20 => k265 b1 a20 u19)))
noncomputable def jb_Model_doWays_360 (fu : Nat) (s0 : Int32) (u : xk_St) : Option (Unit × xk_St) :=
  (xs_seq (fm_Model_drop u) fun a28 u29 => if s0 = (0 : Int32) then ((if ((u29.1 26) - (1 : Int32)) < 0 ∨ 19000 ≤ ((u29.1 26) - (1 : Int32)).toNatClampNeg then none else xs_let (xs_B u29 3 ((u29.1 26) - (1 : Int32)).toNatClampNeg a28) fun u30 => some ((()), u30))) else (some ((()), u29)))
noncomputable def fm_Model_doWays (fu : Nat) (u : xk_St) : Option (Unit × xk_St) :=
  (xs_let (u.1 8) fun a1 => if a1 = (0 : Int32) then ((xs_let (xs_I u 29 (1 : Int32)) fun u2 => some ((()), u2))) else if a1 = (1 : Int32) then (some ((()), u)) else if a1 = (2 : Int32) then (jb_Model_doWays_140 fu u) else if a1 = (3 : Int32) then (jb_Model_doWays_140 fu u) else if a1 = (4 : Int32) then (jb_Model_doWays_140 fu u) else if a1 = (5 : Int32) then ((xs_let (xs_I u 28 ((u.1 28) - (1 : Int32))) fun u4 => if (u4.1 28) < 0 ∨ 6200 ≤ (u4.1 28).toNatClampNeg then none else xs_let (xs_I u4 4 (u4.2.2.1 33 (u4.1 28).toNatClampNeg)) fun u5 => some ((()), u5))) else if a1 = (6 : Int32) then (some ((()), u)) else if a1 = (7 : Int32) then (some ((()), u)) else if a1 = (8 : Int32) then (some ((()), u)) else if a1 = (9 : Int32) then (some ((()), u)) else if a1 = (10 : Int32) then (some ((()), u)) else if a1 = (11 : Int32) then ((if ((u.1 27) - (1 : Int32)) < 0 ∨ 61 ≤ ((u.1 27) - (1 : Int32)).toNatClampNeg then none else if ((u.1 28) - (1 : Int32)) = (u.2.2.1 32 ((u.1 27) - (1 : Int32)).toNatClampNeg) then ((xs_seq (fm_Model_leave fu u) fun _ u7 => some ((()), u7))) else ((xs_let (xs_I u 28 ((u.1 28) - (1 : Int32))) fun u6 => some ((()), u6))))) else if a1 = (12 : Int32) then ((xs_seq (fm_Model_goOut fu ((u.2.1 0).toInt32) u) fun _ u8 => some ((()), u8))) else if a1 = (13 : Int32) then ((xs_seq (fm_Model_drop u) fun a9 u10 => if a9 = (0 : Int64) then (some ((()), u10)) else ((xs_seq (fm_Model_goOut fu ((u10.2.1 0).toInt32) u10) fun _ u11 => some ((()), u11))))) else if a1 = (14 : Int32) then ((xs_seq (fm_Model_drop u) fun a12 u13 => xs_let (a12 &&& (4294967295 : Int64)) fun a14 => xs_let (xs_I u13 4 (u13.1 10)) fun u15 => jb_Model_doWays_265 fu fu a14 (0 : Int64) u15)) else if a1 = (15 : Int32) then ((xs_seq (fm_Model_leave fu u) fun _ u21 => some ((()), u21))) else if a1 = (16 : Int32) then ((xs_seq (fm_Model_enter fu ((u.2.1 0).toInt32) (u.1 4) u) fun _ u22 => some ((()), u22))) else if a1 = (17 : Int32) then ((xs_seq (fm_Model_callByTable fu u) fun _ u23 => some ((()), u23))) else if a1 = (18 : Int32) then (some ((()), u)) else if a1 = (19 : Int32) then (some ((()), u)) else if a1 = (20 : Int32) then (some ((()), u)) else if a1 = (21 : Int32) then (some ((()), u)) else if a1 = (22 : Int32) then (some ((()), u)) else if a1 = (23 : Int32) then (some ((()), u)) else if a1 = (24 : Int32) then (some ((()), u)) else if a1 = (25 : Int32) then (some ((()), u)) else if a1 = (26 : Int32) then ((xs_seq (fm_Model_drop u) fun a24 u25 => some ((()), u25))) else if a1 = (27 : Int32) then ((xs_seq (fm_Model_drop u) fun a26 u27 => if a26 = (0 : Int64) then (jb_Model_doWays_360 fu (0 : Int32) u27) else (jb_Model_doWays_360 fu (1 : Int32) u27))) else (some ((()), u)))
set_option maxHeartbeats 4000000 in
set_option maxRecDepth 100000 in
theorem wj_Model_doWays_140 {p : Program} {l : Launch} {e : Env} {s : State} {m : MethodId} {args : Array Value} {below : List Frame} {meth : Method} {c : Code} {D : va_G} {ad : Nat → Nat} {ca : Nat → ClassId} {ads : List Nat} {fu : Nat} (htr : l.stackTraces = false) (C : xk_C D kx_cl (kx_ty ca) (kw_m ad ca) ads "ModuleHouseModel" prog_14_method_113_code 8 none p e s m args meth c) (hne : c.exceptionTable.isEmpty = true) {u' : xk_St} {r : Unit} {u : xk_St} {H : Heap} {locs : List Loc} {ls : Array Slot} (h : jb_Model_doWays_140 fu   u = some (r, u')) (hP : va_P D kx_cl (kw_m ad ca u) H) (hS : va_S (xk_A ads s.heap.size) s.heap H locs) (hl : lv_has ls 8 [(0, .ref (ad 0))]) : W p l e rm_Model_doWays s m args below meth c H locs 0 0 (xk_MQ below (xk_Qc D kx_cl (kw_m ad ca) ads (xo_v (.inl r)) u') args s (xk_A ads s.heap.size)) (F0 m 140 ls []) := by
  have hx := C.1.1
  have hb := C.1.2.1
  have hok := C.2.2.1
  unfold jb_Model_doWays_140 at h
  refine lv_aload_n hx hb dd_Model_doWays_140 rfl (lv_at hl 0 rfl) ?_
  obtain ⟨rx, u3, hq, h⟩ := xp_seq h
  refine xk_goesV (xr_V (As := []) (rest := []) C hP hS (ct_Model_doBlock htr hok hq) kq_Model_728 0 11 rfl rfl ⟨rfl, rfl, Nat.le_of_ble_eq_true rfl, Nat.le_of_ble_eq_true rfl⟩ ⟨Nat.le_of_ble_eq_true rfl, Nat.le_of_ble_eq_true rfl⟩ hl.1 rfl rfl (Nat.le_of_ble_eq_true rfl) dd_Model_doWays_141) hS (fun H locs hP hS => ?_)
  clear hq
  refine lv_goto (tgt := 389) hx hb dd_Model_doWays_144 (by decide) ?_
  obtain ⟨rfl, rfl⟩ := xp_r h
  exact xr_vret C hP hS dd_Model_doWays_389
set_option maxHeartbeats 4000000 in
set_option maxRecDepth 100000 in
theorem wj_Model_doWays_296 {p : Program} {l : Launch} {e : Env} {s : State} {m : MethodId} {args : Array Value} {below : List Frame} {meth : Method} {c : Code} {D : va_G} {ad : Nat → Nat} {ca : Nat → ClassId} {ads : List Nat} {fu : Nat} (htr : l.stackTraces = false) (C : xk_C D kx_cl (kx_ty ca) (kw_m ad ca) ads "ModuleHouseModel" prog_14_method_113_code 8 none p e s m args meth c) (hne : c.exceptionTable.isEmpty = true) {u' : xk_St} {r : Unit} {u : xk_St} {H : Heap} {locs : List Loc} {ls : Array Slot} (h : jb_Model_doWays_296 fu   u = some (r, u')) (hP : va_P D kx_cl (kw_m ad ca u) H) (hS : va_S (xk_A ads s.heap.size) s.heap H locs) (hl : lv_has ls 8 [(0, .ref (ad 0))]) : W p l e rm_Model_doWays s m args below meth c H locs 0 0 (xk_MQ below (xk_Qc D kx_cl (kw_m ad ca) ads (xo_v (.inl r)) u') args s (xk_A ads s.heap.size)) (F0 m 296 ls []) := by
  have hx := C.1.1
  have hb := C.1.2.1
  have hok := C.2.2.1
  unfold jb_Model_doWays_296 at h
  refine lv_aload_n hx hb dd_Model_doWays_296 rfl (lv_at hl 0 rfl) ?_
  refine lv_aload_n hx hb dd_Model_doWays_297 rfl (lv_at hl 0 rfl) ?_
  refine gf_m_Model_0_x C hP dd_Model_doWays_298 ?_
  refine lv_l2i hx hb dd_Model_doWays_301 rfl ?_
  obtain ⟨rx, u16, hq, h⟩ := xp_seq h
  refine xk_goesV (xr_V (As := [.int ((u.2.1 0).toInt32)]) (rest := []) C hP hS (ct_Model_goOut htr hok hq) kq_Model_731 0 11 rfl rfl ⟨rfl, rfl, Nat.le_of_ble_eq_true rfl, Nat.le_of_ble_eq_true rfl⟩ ⟨Nat.le_of_ble_eq_true rfl, Nat.le_of_ble_eq_true rfl⟩ hl.1 rfl rfl (Nat.le_of_ble_eq_true rfl) dd_Model_doWays_302) hS (fun H locs hP hS => ?_)
  clear hq
  refine lv_goto (tgt := 389) hx hb dd_Model_doWays_305 (by decide) ?_
  obtain ⟨rfl, rfl⟩ := xp_r h
  exact xr_vret C hP hS dd_Model_doWays_389
set_option maxHeartbeats 4000000 in
set_option maxRecDepth 100000 in
theorem wj_Model_doWays_265 {p : Program} {l : Launch} {e : Env} {s : State} {m : MethodId} {args : Array Value} {below : List Frame} {meth : Method} {c : Code} {D : va_G} {ad : Nat → Nat} {ca : Nat → ClassId} {ads : List Nat} {fu : Nat} (htr : l.stackTraces = false) (C : xk_C D kx_cl (kx_ty ca) (kw_m ad ca) ads "ModuleHouseModel" prog_14_method_113_code 8 none p e s m args meth c) (hne : c.exceptionTable.isEmpty = true) {u' : xk_St} {r : Unit} : ∀ {n : Nat} {b1 : Int64} {b3 : Int64} {u : xk_St} {H : Heap} {locs : List Loc} {ls : Array Slot} (h : jb_Model_doWays_265 fu  n b1 b3 u = some (r, u')) (hP : va_P D kx_cl (kw_m ad ca u) H) (hS : va_S (xk_A ads s.heap.size) s.heap H locs) (hl : lv_has ls 8 [(0, .ref (ad 0)), (1, .long b1), (3, .long b3)]), W p l e rm_Model_doWays s m args below meth c H locs 0 0 (xk_MQ below (xk_Qc D kx_cl (kw_m ad ca) ads (xo_v (.inl r)) u') args s (xk_A ads s.heap.size)) (F0 m 265 ls []) := by
  intro n
  have hx := C.1.1
  have hb := C.1.2.1
  have hok := C.2.2.1
  induction n with
  | zero =>
    intro _ _ u H locs ls h
    have h : none = some (r, u') := h
    cases h
  | succ n ih =>
    intro b1 b3 u H locs ls h hP hS hl
    unfold jb_Model_doWays_265 at h
    obtain ⟨k265, ek265, h⟩ := xp_let h
    have hk265 : ∀ (c0 : Int64) (c1 : Int64) (u : xk_St) (H : Heap) (locs : List Loc) (ls : Array Slot), k265 c0 c1 u = some (r, u') → va_P D kx_cl (kw_m ad ca u) H → va_S (xk_A ads s.heap.size) s.heap H locs → lv_has ls 8 [(0, .ref (ad 0)), (1, .long c0), (3, .long c1)] → W p l e rm_Model_doWays s m args below meth c H locs 0 0 (xk_MQ below (xk_Qc D kx_cl (kw_m ad ca) ads (xo_v (.inl r)) u') args s (xk_A ads s.heap.size)) (F0 m 265 ls []) := by
      intro c0 c1 u H locs ls h hP hS hl
      subst ek265
      exact ih h hP hS hl
    clear ih ek265
    refine lv_lload_n hx hb dd_Model_doWays_265 rfl (lv_at hl 1 rfl) ?_
    refine lv_aload_n hx hb dd_Model_doWays_266 rfl (lv_at hl 0 rfl) ?_
    refine gf_m_Model_0_rowMany C hP dd_Model_doWays_267 ?_
    refine lv_i2l hx hb dd_Model_doWays_270 rfl ?_
    refine xr_lc_ge (tgt := 296) hx hb dd_Model_doWays_271 dd_Model_doWays_272 (by decide) (fun hc => ?_) (fun hc => ?_)
    · have h := xp_t hc h
      exact wj_Model_doWays_296 htr C hne h hP hS (lv_sub hl [0] rfl)
    · have h := xp_f hc h
      refine lv_lload_n hx hb dd_Model_doWays_275 rfl (lv_at hl 2 rfl) ?_
      refine lv_lload_n hx hb dd_Model_doWays_276 rfl (lv_at hl 1 rfl) ?_
      refine xr_lc_gt (tgt := 296) hx hb dd_Model_doWays_277 dd_Model_doWays_278 (by decide) (fun hc => ?_) (fun hc => ?_)
      · have h := xp_t hc h
        exact wj_Model_doWays_296 htr C hne h hP hS (lv_sub hl [0] rfl)
      · have h := xp_f hc h
        refine lv_aload_n hx hb dd_Model_doWays_281 rfl (lv_at hl 0 rfl) ?_
        refine lv_aload_n hx hb dd_Model_doWays_282 rfl (lv_at hl 0 rfl) ?_
        obtain ⟨a17, u18, hq, h⟩ := xp_seq h
        refine xk_goesL (xr_V (As := []) (rest := [.ref (ad 0)]) C hP hS (ct_Model_number htr hok hq) kq_Model_295 0 11 rfl rfl ⟨rfl, rfl, Nat.le_of_ble_eq_true rfl, Nat.le_of_ble_eq_true rfl⟩ ⟨Nat.le_of_ble_eq_true rfl, Nat.le_of_ble_eq_true rfl⟩ hl.1 rfl rfl (Nat.le_of_ble_eq_true rfl) dd_Model_doWays_283) hS (fun H locs hP hS => ?_)
        clear hq
        refine pf_m_Model_0_x C hP hS dd_Model_doWays_286 (fun H locs hP hS => ?_)
        obtain ⟨u19, eu19, h⟩ := xp_let h
        rw [← eu19] at hP
        refine lv_lload_n hx hb dd_Model_doWays_289 rfl (lv_at hl 2 rfl) ?_
        refine lv_lconst (v := 1) hx hb dd_Model_doWays_290 (by decide) ?_
        refine lv_ladd hx hb dd_Model_doWays_291 ?_
        obtain ⟨a20, ea20, h⟩ := xp_let h
        refine xr_naml ea20 ?_
        refine lv_lstore_n (lv' := [(3, .long a20), (0, .ref (ad 0)), (1, .long b1)]) hx hb dd_Model_doWays_292 rfl hl (by decide) rfl (fun ls hl => ?_)
        refine lv_goto (tgt := 265) hx hb dd_Model_doWays_293 (by decide) ?_
        exact hk265 b1 a20 u19 _ _ _ h hP hS (lv_sub hl [1, 2, 0] rfl)
set_option maxHeartbeats 4000000 in
set_option maxRecDepth 100000 in
theorem wj_Model_doWays_360 {p : Program} {l : Launch} {e : Env} {s : State} {m : MethodId} {args : Array Value} {below : List Frame} {meth : Method} {c : Code} {D : va_G} {ad : Nat → Nat} {ca : Nat → ClassId} {ads : List Nat} {fu : Nat} (htr : l.stackTraces = false) (C : xk_C D kx_cl (kx_ty ca) (kw_m ad ca) ads "ModuleHouseModel" prog_14_method_113_code 8 none p e s m args meth c) (hne : c.exceptionTable.isEmpty = true) {u' : xk_St} {r : Unit} {s0 : Int32} {u : xk_St} {H : Heap} {locs : List Loc} {ls : Array Slot} (h : jb_Model_doWays_360 fu  s0 u = some (r, u')) (hP : va_P D kx_cl (kw_m ad ca u) H) (hS : va_S (xk_A ads s.heap.size) s.heap H locs) (hl : lv_has ls 8 [(0, .ref (ad 0))]) : W p l e rm_Model_doWays s m args below meth c H locs 0 0 (xk_MQ below (xk_Qc D kx_cl (kw_m ad ca) ads (xo_v (.inl r)) u') args s (xk_A ads s.heap.size)) (F0 m 360 ls [.int s0]) := by
  have hx := C.1.1
  have hb := C.1.2.1
  have hok := C.2.2.1
  unfold jb_Model_doWays_360 at h
  refine lv_istore (lv' := [(5, .int s0), (0, .ref (ad 0))]) hx hb dd_Model_doWays_360 hl (by decide) rfl (fun ls hl => ?_)
  refine lv_aload_n hx hb dd_Model_doWays_362 rfl (lv_at hl 1 rfl) ?_
  obtain ⟨a28, u29, hq, h⟩ := xp_seq h
  refine xk_goesL (xr_V (As := []) (rest := []) C hP hS (ct_Model_drop htr hok hq) kq_Model_725 0 11 rfl rfl ⟨rfl, rfl, Nat.le_of_ble_eq_true rfl, Nat.le_of_ble_eq_true rfl⟩ ⟨Nat.le_of_ble_eq_true rfl, Nat.le_of_ble_eq_true rfl⟩ hl.1 rfl rfl (Nat.le_of_ble_eq_true rfl) dd_Model_doWays_363) hS (fun H locs hP hS => ?_)
  clear hq
  refine lv_lstore (lv' := [(6, .long a28), (5, .int s0), (0, .ref (ad 0))]) hx hb dd_Model_doWays_366 hl (by decide) rfl (fun ls hl => ?_)
  refine lv_iload hx hb dd_Model_doWays_368 (lv_at hl 1 rfl) ?_
  refine lv_if_ne (tgt := 389) hx hb dd_Model_doWays_370 (by decide) (fun hc => ?_) (fun hc => ?_)
  · have h := xp_f hc h
    obtain ⟨rfl, rfl⟩ := xp_r h
    exact xr_vret C hP hS dd_Model_doWays_389
  · have h := xp_t hc h
    refine lv_aload_n hx hb dd_Model_doWays_373 rfl (lv_at hl 2 rfl) ?_
    refine gf_m_Model_0_values C hP dd_Model_doWays_374 ?_
    refine lv_aload_n hx hb dd_Model_doWays_377 rfl (lv_at hl 2 rfl) ?_
    refine gf_m_Model_0_top C hP dd_Model_doWays_378 ?_
    refine lv_iconst (v := 1) hx hb dd_Model_doWays_381 (by decide) ?_
    refine lv_isub hx hb dd_Model_doWays_382 ?_
    refine lv_lload hx hb dd_Model_doWays_383 (lv_at hl 0 rfl) ?_
    obtain ⟨hi, h⟩ := xp_g h
    refine as_m_33 C hP hS hi dd_Model_doWays_385 (fun H locs hP hS => ?_)
    obtain ⟨u30, eu30, h⟩ := xp_let h
    rw [← eu30] at hP
    refine lv_goto (tgt := 389) hx hb dd_Model_doWays_386 (by decide) ?_
    obtain ⟨rfl, rfl⟩ := xp_r h
    exact xr_vret C hP hS dd_Model_doWays_389
set_option maxHeartbeats 4000000 in
set_option maxRecDepth 100000 in
theorem ct_Model_doWays {l : Launch} {D : va_G} {ad : Nat → Nat} {ca : Nat → ClassId} {ads : List Nat} (htr : l.stackTraces = false) (hok : xk_ok (kw_m ad ca) ads) {fu : Nat} {u u' : xk_St} {r : Unit} (h : fm_Model_doWays fu u = some (r, u')) :
    ∀ sz, xk_Met l ⟨"ModuleHouseModel", "doWays", "()V"⟩ (Cond.code ⟨"ModuleHouseModel", "doWays", "()V"⟩ prog_14_method_113_code 8 none :: xk_gd) rm_Model_doWays (xk_Pc D kx_cl (kx_ty ca) (kw_m ad ca) ads xk_F sz [.ref (ad 0)] u) (xk_Qc D kx_cl (kw_m ad ca) ads (xo_v (.inl r)) u') (xk_A ads sz) := by
  unfold fm_Model_doWays at h
  refine xk_con (by decide) htr hok (Nat.le_of_ble_eq_true rfl) (fun p e s m below meth c ls C hne hl hP => ?_)
  have hx := C.1.1
  have hb := C.1.2.1
  have hS : va_S (xk_A ads s.heap.size) s.heap s.heap [] := va_S.rf
  have hl : lv_has ls 8 [(0, .ref (ad 0))] := hl
  refine lv_aload_n hx hb dd_Model_doWays_0 rfl (lv_at hl 0 rfl) ?_
  refine gf_m_Model_0_op C hP dd_Model_doWays_1 ?_
  obtain ⟨a1, ea1, h⟩ := xp_let h
  refine xr_nami ea1 ?_
  by_cases hc0 : a1 = (0 : Int32)
  · have h := xp_t hc0 h
    refine lv_tableIn (off := 128) (tgt := 132) hx hb dd_Model_doWays_4 (by rw [hc0]; decide) (by rw [hc0]; decide) (by rw [hc0]; rfl) (by decide) ?_
    refine lv_aload_n hx hb dd_Model_doWays_132 rfl (lv_at hl 0 rfl) ?_
    refine lv_iconst (v := 1) hx hb dd_Model_doWays_133 (by decide) ?_
    refine pf_m_Model_0_trap C hP hS dd_Model_doWays_134 (fun H locs hP hS => ?_)
    obtain ⟨u2, eu2, h⟩ := xp_let h
    rw [← eu2] at hP
    refine lv_goto (tgt := 389) hx hb dd_Model_doWays_137 (by decide) ?_
    obtain ⟨rfl, rfl⟩ := xp_r h
    exact xr_vret C hP hS dd_Model_doWays_389
  have h := xp_f hc0 h
  by_cases hc1 : a1 = (1 : Int32)
  · have h := xp_t hc1 h
    refine lv_tableIn (off := 385) (tgt := 389) hx hb dd_Model_doWays_4 (by rw [hc1]; decide) (by rw [hc1]; decide) (by rw [hc1]; rfl) (by decide) ?_
    obtain ⟨rfl, rfl⟩ := xp_r h
    exact xr_vret C hP hS dd_Model_doWays_389
  have h := xp_f hc1 h
  by_cases hc2 : a1 = (2 : Int32)
  · have h := xp_t hc2 h
    refine lv_tableIn (off := 136) (tgt := 140) hx hb dd_Model_doWays_4 (by rw [hc2]; decide) (by rw [hc2]; decide) (by rw [hc2]; rfl) (by decide) ?_
    exact wj_Model_doWays_140 htr C hne h hP hS (lv_sub hl [0] rfl)
  have h := xp_f hc2 h
  by_cases hc3 : a1 = (3 : Int32)
  · have h := xp_t hc3 h
    refine lv_tableIn (off := 136) (tgt := 140) hx hb dd_Model_doWays_4 (by rw [hc3]; decide) (by rw [hc3]; decide) (by rw [hc3]; rfl) (by decide) ?_
    exact wj_Model_doWays_140 htr C hne h hP hS (lv_sub hl [0] rfl)
  have h := xp_f hc3 h
  by_cases hc4 : a1 = (4 : Int32)
  · have h := xp_t hc4 h
    refine lv_tableIn (off := 136) (tgt := 140) hx hb dd_Model_doWays_4 (by rw [hc4]; decide) (by rw [hc4]; decide) (by rw [hc4]; rfl) (by decide) ?_
    exact wj_Model_doWays_140 htr C hne h hP hS (lv_sub hl [0] rfl)
  have h := xp_f hc4 h
  by_cases hc5 : a1 = (5 : Int32)
  · have h := xp_t hc5 h
    refine lv_tableIn (off := 143) (tgt := 147) hx hb dd_Model_doWays_4 (by rw [hc5]; decide) (by rw [hc5]; decide) (by rw [hc5]; rfl) (by decide) ?_
    refine lv_aload_n hx hb dd_Model_doWays_147 rfl (lv_at hl 0 rfl) ?_
    refine lv_dup hx hb dd_Model_doWays_148 rfl ?_
    refine gf_m_Model_0_ways C hP dd_Model_doWays_149 ?_
    refine lv_iconst (v := 1) hx hb dd_Model_doWays_152 (by decide) ?_
    refine lv_isub hx hb dd_Model_doWays_153 ?_
    refine pf_m_Model_0_ways C hP hS dd_Model_doWays_154 (fun H locs hP hS => ?_)
    obtain ⟨u4, eu4, h⟩ := xp_let h
    rw [← eu4] at hP
    refine lv_aload_n hx hb dd_Model_doWays_157 rfl (lv_at hl 0 rfl) ?_
    refine lv_aload_n hx hb dd_Model_doWays_158 rfl (lv_at hl 0 rfl) ?_
    refine gf_m_Model_0_wayAt C hP dd_Model_doWays_159 ?_
    refine lv_aload_n hx hb dd_Model_doWays_162 rfl (lv_at hl 0 rfl) ?_
    refine gf_m_Model_0_ways C hP dd_Model_doWays_163 ?_
    obtain ⟨hi, h⟩ := xp_g h
    refine al_m_38 C hP hi dd_Model_doWays_166 ?_
    refine pf_m_Model_0_at C hP hS dd_Model_doWays_167 (fun H locs hP hS => ?_)
    obtain ⟨u5, eu5, h⟩ := xp_let h
    rw [← eu5] at hP
    refine lv_goto (tgt := 389) hx hb dd_Model_doWays_170 (by decide) ?_
    obtain ⟨rfl, rfl⟩ := xp_r h
    exact xr_vret C hP hS dd_Model_doWays_389
  have h := xp_f hc5 h
  by_cases hc6 : a1 = (6 : Int32)
  · have h := xp_t hc6 h
    refine lv_tableIn (off := 385) (tgt := 389) hx hb dd_Model_doWays_4 (by rw [hc6]; decide) (by rw [hc6]; decide) (by rw [hc6]; rfl) (by decide) ?_
    obtain ⟨rfl, rfl⟩ := xp_r h
    exact xr_vret C hP hS dd_Model_doWays_389
  have h := xp_f hc6 h
  by_cases hc7 : a1 = (7 : Int32)
  · have h := xp_t hc7 h
    refine lv_tableIn (off := 385) (tgt := 389) hx hb dd_Model_doWays_4 (by rw [hc7]; decide) (by rw [hc7]; decide) (by rw [hc7]; rfl) (by decide) ?_
    obtain ⟨rfl, rfl⟩ := xp_r h
    exact xr_vret C hP hS dd_Model_doWays_389
  have h := xp_f hc7 h
  by_cases hc8 : a1 = (8 : Int32)
  · have h := xp_t hc8 h
    refine lv_tableIn (off := 385) (tgt := 389) hx hb dd_Model_doWays_4 (by rw [hc8]; decide) (by rw [hc8]; decide) (by rw [hc8]; rfl) (by decide) ?_
    obtain ⟨rfl, rfl⟩ := xp_r h
    exact xr_vret C hP hS dd_Model_doWays_389
  have h := xp_f hc8 h
  by_cases hc9 : a1 = (9 : Int32)
  · have h := xp_t hc9 h
    refine lv_tableIn (off := 385) (tgt := 389) hx hb dd_Model_doWays_4 (by rw [hc9]; decide) (by rw [hc9]; decide) (by rw [hc9]; rfl) (by decide) ?_
    obtain ⟨rfl, rfl⟩ := xp_r h
    exact xr_vret C hP hS dd_Model_doWays_389
  have h := xp_f hc9 h
  by_cases hc10 : a1 = (10 : Int32)
  · have h := xp_t hc10 h
    refine lv_tableIn (off := 385) (tgt := 389) hx hb dd_Model_doWays_4 (by rw [hc10]; decide) (by rw [hc10]; decide) (by rw [hc10]; rfl) (by decide) ?_
    obtain ⟨rfl, rfl⟩ := xp_r h
    exact xr_vret C hP hS dd_Model_doWays_389
  have h := xp_f hc10 h
  by_cases hc11 : a1 = (11 : Int32)
  · have h := xp_t hc11 h
    refine lv_tableIn (off := 169) (tgt := 173) hx hb dd_Model_doWays_4 (by rw [hc11]; decide) (by rw [hc11]; decide) (by rw [hc11]; rfl) (by decide) ?_
    refine lv_aload_n hx hb dd_Model_doWays_173 rfl (lv_at hl 0 rfl) ?_
    refine gf_m_Model_0_ways C hP dd_Model_doWays_174 ?_
    refine lv_iconst (v := 1) hx hb dd_Model_doWays_177 (by decide) ?_
    refine lv_isub hx hb dd_Model_doWays_178 ?_
    refine lv_aload_n hx hb dd_Model_doWays_179 rfl (lv_at hl 0 rfl) ?_
    refine gf_m_Model_0_callWays C hP dd_Model_doWays_180 ?_
    refine lv_aload_n hx hb dd_Model_doWays_183 rfl (lv_at hl 0 rfl) ?_
    refine gf_m_Model_0_calls C hP dd_Model_doWays_184 ?_
    refine lv_iconst (v := 1) hx hb dd_Model_doWays_187 (by decide) ?_
    refine lv_isub hx hb dd_Model_doWays_188 ?_
    obtain ⟨hi, h⟩ := xp_g h
    refine al_m_37 C hP hi dd_Model_doWays_189 ?_
    refine lv_icmp_ne (tgt := 200) hx hb dd_Model_doWays_190 (by decide) (fun hc => ?_) (fun hc => ?_)
    · have h := xp_f hc h
      refine lv_aload_n hx hb dd_Model_doWays_200 rfl (lv_at hl 0 rfl) ?_
      refine lv_dup hx hb dd_Model_doWays_201 rfl ?_
      refine gf_m_Model_0_ways C hP dd_Model_doWays_202 ?_
      refine lv_iconst (v := 1) hx hb dd_Model_doWays_205 (by decide) ?_
      refine lv_isub hx hb dd_Model_doWays_206 ?_
      refine pf_m_Model_0_ways C hP hS dd_Model_doWays_207 (fun H locs hP hS => ?_)
      obtain ⟨u6, eu6, h⟩ := xp_let h
      rw [← eu6] at hP
      refine lv_goto (tgt := 389) hx hb dd_Model_doWays_210 (by decide) ?_
      obtain ⟨rfl, rfl⟩ := xp_r h
      exact xr_vret C hP hS dd_Model_doWays_389
    · have h := xp_t hc h
      refine lv_aload_n hx hb dd_Model_doWays_193 rfl (lv_at hl 0 rfl) ?_
      obtain ⟨rx, u7, hq, h⟩ := xp_seq h
      refine xk_goesV (xr_V (As := []) (rest := []) C hP hS (ct_Model_leave htr hok hq) kq_Model_695 0 11 rfl rfl ⟨rfl, rfl, Nat.le_of_ble_eq_true rfl, Nat.le_of_ble_eq_true rfl⟩ ⟨Nat.le_of_ble_eq_true rfl, Nat.le_of_ble_eq_true rfl⟩ hl.1 rfl rfl (Nat.le_of_ble_eq_true rfl) dd_Model_doWays_194) hS (fun H locs hP hS => ?_)
      clear hq
      refine lv_goto (tgt := 389) hx hb dd_Model_doWays_197 (by decide) ?_
      obtain ⟨rfl, rfl⟩ := xp_r h
      exact xr_vret C hP hS dd_Model_doWays_389
  have h := xp_f hc11 h
  by_cases hc12 : a1 = (12 : Int32)
  · have h := xp_t hc12 h
    refine lv_tableIn (off := 209) (tgt := 213) hx hb dd_Model_doWays_4 (by rw [hc12]; decide) (by rw [hc12]; decide) (by rw [hc12]; rfl) (by decide) ?_
    refine lv_aload_n hx hb dd_Model_doWays_213 rfl (lv_at hl 0 rfl) ?_
    refine lv_aload_n hx hb dd_Model_doWays_214 rfl (lv_at hl 0 rfl) ?_
    refine gf_m_Model_0_x C hP dd_Model_doWays_215 ?_
    refine lv_l2i hx hb dd_Model_doWays_218 rfl ?_
    obtain ⟨rx, u8, hq, h⟩ := xp_seq h
    refine xk_goesV (xr_V (As := [.int ((u.2.1 0).toInt32)]) (rest := []) C hP hS (ct_Model_goOut htr hok hq) kq_Model_731 0 11 rfl rfl ⟨rfl, rfl, Nat.le_of_ble_eq_true rfl, Nat.le_of_ble_eq_true rfl⟩ ⟨Nat.le_of_ble_eq_true rfl, Nat.le_of_ble_eq_true rfl⟩ hl.1 rfl rfl (Nat.le_of_ble_eq_true rfl) dd_Model_doWays_219) hS (fun H locs hP hS => ?_)
    clear hq
    refine lv_goto (tgt := 389) hx hb dd_Model_doWays_222 (by decide) ?_
    obtain ⟨rfl, rfl⟩ := xp_r h
    exact xr_vret C hP hS dd_Model_doWays_389
  have h := xp_f hc12 h
  by_cases hc13 : a1 = (13 : Int32)
  · have h := xp_t hc13 h
    refine lv_tableIn (off := 221) (tgt := 225) hx hb dd_Model_doWays_4 (by rw [hc13]; decide) (by rw [hc13]; decide) (by rw [hc13]; rfl) (by decide) ?_
    refine lv_aload_n hx hb dd_Model_doWays_225 rfl (lv_at hl 0 rfl) ?_
    obtain ⟨a9, u10, hq, h⟩ := xp_seq h
    refine xk_goesL (xr_V (As := []) (rest := []) C hP hS (ct_Model_drop htr hok hq) kq_Model_725 0 11 rfl rfl ⟨rfl, rfl, Nat.le_of_ble_eq_true rfl, Nat.le_of_ble_eq_true rfl⟩ ⟨Nat.le_of_ble_eq_true rfl, Nat.le_of_ble_eq_true rfl⟩ hl.1 rfl rfl (Nat.le_of_ble_eq_true rfl) dd_Model_doWays_226) hS (fun H locs hP hS => ?_)
    clear hq
    refine lv_lconst (v := 0) hx hb dd_Model_doWays_229 (by decide) ?_
    refine xr_lc_eq (tgt := 389) hx hb dd_Model_doWays_230 dd_Model_doWays_231 (by decide) (fun hc => ?_) (fun hc => ?_)
    · have h := xp_t hc h
      obtain ⟨rfl, rfl⟩ := xp_r h
      exact xr_vret C hP hS dd_Model_doWays_389
    · have h := xp_f hc h
      refine lv_aload_n hx hb dd_Model_doWays_234 rfl (lv_at hl 0 rfl) ?_
      refine lv_aload_n hx hb dd_Model_doWays_235 rfl (lv_at hl 0 rfl) ?_
      refine gf_m_Model_0_x C hP dd_Model_doWays_236 ?_
      refine lv_l2i hx hb dd_Model_doWays_239 rfl ?_
      obtain ⟨rx, u11, hq, h⟩ := xp_seq h
      refine xk_goesV (xr_V (As := [.int ((u10.2.1 0).toInt32)]) (rest := []) C hP hS (ct_Model_goOut htr hok hq) kq_Model_731 0 11 rfl rfl ⟨rfl, rfl, Nat.le_of_ble_eq_true rfl, Nat.le_of_ble_eq_true rfl⟩ ⟨Nat.le_of_ble_eq_true rfl, Nat.le_of_ble_eq_true rfl⟩ hl.1 rfl rfl (Nat.le_of_ble_eq_true rfl) dd_Model_doWays_240) hS (fun H locs hP hS => ?_)
      clear hq
      refine lv_goto (tgt := 389) hx hb dd_Model_doWays_243 (by decide) ?_
      obtain ⟨rfl, rfl⟩ := xp_r h
      exact xr_vret C hP hS dd_Model_doWays_389
  have h := xp_f hc13 h
  by_cases hc14 : a1 = (14 : Int32)
  · have h := xp_t hc14 h
    refine lv_tableIn (off := 242) (tgt := 246) hx hb dd_Model_doWays_4 (by rw [hc14]; decide) (by rw [hc14]; decide) (by rw [hc14]; rfl) (by decide) ?_
    refine lv_aload_n hx hb dd_Model_doWays_246 rfl (lv_at hl 0 rfl) ?_
    obtain ⟨a12, u13, hq, h⟩ := xp_seq h
    refine xk_goesL (xr_V (As := []) (rest := []) C hP hS (ct_Model_drop htr hok hq) kq_Model_725 0 11 rfl rfl ⟨rfl, rfl, Nat.le_of_ble_eq_true rfl, Nat.le_of_ble_eq_true rfl⟩ ⟨Nat.le_of_ble_eq_true rfl, Nat.le_of_ble_eq_true rfl⟩ hl.1 rfl rfl (Nat.le_of_ble_eq_true rfl) dd_Model_doWays_247) hS (fun H locs hP hS => ?_)
    clear hq
    refine lv_ldc2 (v := 4294967295) hx hb C.1.2.2.2.1 (C.1.2.2.2.2 _ (xk_c9 (w := Jvm.Cond.constantLong "ModuleHouseModel" 182 4294967295) 103 rfl rfl)) dd_Model_doWays_250 ?_
    refine lv_land hx hb dd_Model_doWays_253 ?_
    obtain ⟨a14, ea14, h⟩ := xp_let h
    refine xr_naml ea14 ?_
    refine lv_lstore_n (lv' := [(1, .long a14), (0, .ref (ad 0))]) hx hb dd_Model_doWays_254 rfl hl (by decide) rfl (fun ls hl => ?_)
    refine lv_aload_n hx hb dd_Model_doWays_255 rfl (lv_at hl 1 rfl) ?_
    refine lv_aload_n hx hb dd_Model_doWays_256 rfl (lv_at hl 1 rfl) ?_
    refine gf_m_Model_0_rowAt C hP dd_Model_doWays_257 ?_
    refine pf_m_Model_0_at C hP hS dd_Model_doWays_260 (fun H locs hP hS => ?_)
    obtain ⟨u15, eu15, h⟩ := xp_let h
    rw [← eu15] at hP
    refine lv_lconst (v := 0) hx hb dd_Model_doWays_263 (by decide) ?_
    refine lv_lstore_n (lv' := [(3, .long (0 : Int64)), (1, .long a14), (0, .ref (ad 0))]) hx hb dd_Model_doWays_264 rfl hl (by decide) rfl (fun ls hl => ?_)
    exact wj_Model_doWays_265 htr C hne h hP hS (lv_sub hl [2, 1, 0] rfl)
  have h := xp_f hc14 h
  by_cases hc15 : a1 = (15 : Int32)
  · have h := xp_t hc15 h
    refine lv_tableIn (off := 304) (tgt := 308) hx hb dd_Model_doWays_4 (by rw [hc15]; decide) (by rw [hc15]; decide) (by rw [hc15]; rfl) (by decide) ?_
    refine lv_aload_n hx hb dd_Model_doWays_308 rfl (lv_at hl 0 rfl) ?_
    obtain ⟨rx, u21, hq, h⟩ := xp_seq h
    refine xk_goesV (xr_V (As := []) (rest := []) C hP hS (ct_Model_leave htr hok hq) kq_Model_695 0 11 rfl rfl ⟨rfl, rfl, Nat.le_of_ble_eq_true rfl, Nat.le_of_ble_eq_true rfl⟩ ⟨Nat.le_of_ble_eq_true rfl, Nat.le_of_ble_eq_true rfl⟩ hl.1 rfl rfl (Nat.le_of_ble_eq_true rfl) dd_Model_doWays_309) hS (fun H locs hP hS => ?_)
    clear hq
    refine lv_goto (tgt := 389) hx hb dd_Model_doWays_312 (by decide) ?_
    obtain ⟨rfl, rfl⟩ := xp_r h
    exact xr_vret C hP hS dd_Model_doWays_389
  have h := xp_f hc15 h
  by_cases hc16 : a1 = (16 : Int32)
  · have h := xp_t hc16 h
    refine lv_tableIn (off := 311) (tgt := 315) hx hb dd_Model_doWays_4 (by rw [hc16]; decide) (by rw [hc16]; decide) (by rw [hc16]; rfl) (by decide) ?_
    refine lv_aload_n hx hb dd_Model_doWays_315 rfl (lv_at hl 0 rfl) ?_
    refine lv_aload_n hx hb dd_Model_doWays_316 rfl (lv_at hl 0 rfl) ?_
    refine gf_m_Model_0_x C hP dd_Model_doWays_317 ?_
    refine lv_l2i hx hb dd_Model_doWays_320 rfl ?_
    refine lv_aload_n hx hb dd_Model_doWays_321 rfl (lv_at hl 0 rfl) ?_
    refine gf_m_Model_0_at C hP dd_Model_doWays_322 ?_
    obtain ⟨rx, u22, hq, h⟩ := xp_seq h
    refine xk_goesV (xr_V (As := [.int ((u.2.1 0).toInt32), .int (u.1 4)]) (rest := []) C hP hS (ct_Model_enter htr hok hq) kq_Model_698 0 11 rfl rfl ⟨rfl, rfl, Nat.le_of_ble_eq_true rfl, Nat.le_of_ble_eq_true rfl⟩ ⟨Nat.le_of_ble_eq_true rfl, Nat.le_of_ble_eq_true rfl⟩ hl.1 rfl rfl (Nat.le_of_ble_eq_true rfl) dd_Model_doWays_325) hS (fun H locs hP hS => ?_)
    clear hq
    refine lv_goto (tgt := 389) hx hb dd_Model_doWays_328 (by decide) ?_
    obtain ⟨rfl, rfl⟩ := xp_r h
    exact xr_vret C hP hS dd_Model_doWays_389
  have h := xp_f hc16 h
  by_cases hc17 : a1 = (17 : Int32)
  · have h := xp_t hc17 h
    refine lv_tableIn (off := 327) (tgt := 331) hx hb dd_Model_doWays_4 (by rw [hc17]; decide) (by rw [hc17]; decide) (by rw [hc17]; rfl) (by decide) ?_
    refine lv_aload_n hx hb dd_Model_doWays_331 rfl (lv_at hl 0 rfl) ?_
    obtain ⟨rx, u23, hq, h⟩ := xp_seq h
    refine xk_goesV (xr_V (As := []) (rest := []) C hP hS (ct_Model_callByTable htr hok hq) kq_Model_734 0 11 rfl rfl ⟨rfl, rfl, Nat.le_of_ble_eq_true rfl, Nat.le_of_ble_eq_true rfl⟩ ⟨Nat.le_of_ble_eq_true rfl, Nat.le_of_ble_eq_true rfl⟩ hl.1 rfl rfl (Nat.le_of_ble_eq_true rfl) dd_Model_doWays_332) hS (fun H locs hP hS => ?_)
    clear hq
    refine lv_goto (tgt := 389) hx hb dd_Model_doWays_335 (by decide) ?_
    obtain ⟨rfl, rfl⟩ := xp_r h
    exact xr_vret C hP hS dd_Model_doWays_389
  have h := xp_f hc17 h
  by_cases hc18 : a1 = (18 : Int32)
  · have h := xp_t hc18 h
    refine lv_tableIn (off := 385) (tgt := 389) hx hb dd_Model_doWays_4 (by rw [hc18]; decide) (by rw [hc18]; decide) (by rw [hc18]; rfl) (by decide) ?_
    obtain ⟨rfl, rfl⟩ := xp_r h
    exact xr_vret C hP hS dd_Model_doWays_389
  have h := xp_f hc18 h
  by_cases hc19 : a1 = (19 : Int32)
  · have h := xp_t hc19 h
    refine lv_tableIn (off := 385) (tgt := 389) hx hb dd_Model_doWays_4 (by rw [hc19]; decide) (by rw [hc19]; decide) (by rw [hc19]; rfl) (by decide) ?_
    obtain ⟨rfl, rfl⟩ := xp_r h
    exact xr_vret C hP hS dd_Model_doWays_389
  have h := xp_f hc19 h
  by_cases hc20 : a1 = (20 : Int32)
  · have h := xp_t hc20 h
    refine lv_tableIn (off := 385) (tgt := 389) hx hb dd_Model_doWays_4 (by rw [hc20]; decide) (by rw [hc20]; decide) (by rw [hc20]; rfl) (by decide) ?_
    obtain ⟨rfl, rfl⟩ := xp_r h
    exact xr_vret C hP hS dd_Model_doWays_389
  have h := xp_f hc20 h
  by_cases hc21 : a1 = (21 : Int32)
  · have h := xp_t hc21 h
    refine lv_tableIn (off := 385) (tgt := 389) hx hb dd_Model_doWays_4 (by rw [hc21]; decide) (by rw [hc21]; decide) (by rw [hc21]; rfl) (by decide) ?_
    obtain ⟨rfl, rfl⟩ := xp_r h
    exact xr_vret C hP hS dd_Model_doWays_389
  have h := xp_f hc21 h
  by_cases hc22 : a1 = (22 : Int32)
  · have h := xp_t hc22 h
    refine lv_tableIn (off := 385) (tgt := 389) hx hb dd_Model_doWays_4 (by rw [hc22]; decide) (by rw [hc22]; decide) (by rw [hc22]; rfl) (by decide) ?_
    obtain ⟨rfl, rfl⟩ := xp_r h
    exact xr_vret C hP hS dd_Model_doWays_389
  have h := xp_f hc22 h
  by_cases hc23 : a1 = (23 : Int32)
  · have h := xp_t hc23 h
    refine lv_tableIn (off := 385) (tgt := 389) hx hb dd_Model_doWays_4 (by rw [hc23]; decide) (by rw [hc23]; decide) (by rw [hc23]; rfl) (by decide) ?_
    obtain ⟨rfl, rfl⟩ := xp_r h
    exact xr_vret C hP hS dd_Model_doWays_389
  have h := xp_f hc23 h
  by_cases hc24 : a1 = (24 : Int32)
  · have h := xp_t hc24 h
    refine lv_tableIn (off := 385) (tgt := 389) hx hb dd_Model_doWays_4 (by rw [hc24]; decide) (by rw [hc24]; decide) (by rw [hc24]; rfl) (by decide) ?_
    obtain ⟨rfl, rfl⟩ := xp_r h
    exact xr_vret C hP hS dd_Model_doWays_389
  have h := xp_f hc24 h
  by_cases hc25 : a1 = (25 : Int32)
  · have h := xp_t hc25 h
    refine lv_tableIn (off := 385) (tgt := 389) hx hb dd_Model_doWays_4 (by rw [hc25]; decide) (by rw [hc25]; decide) (by rw [hc25]; rfl) (by decide) ?_
    obtain ⟨rfl, rfl⟩ := xp_r h
    exact xr_vret C hP hS dd_Model_doWays_389
  have h := xp_f hc25 h
  by_cases hc26 : a1 = (26 : Int32)
  · have h := xp_t hc26 h
    refine lv_tableIn (off := 334) (tgt := 338) hx hb dd_Model_doWays_4 (by rw [hc26]; decide) (by rw [hc26]; decide) (by rw [hc26]; rfl) (by decide) ?_
    refine lv_aload_n hx hb dd_Model_doWays_338 rfl (lv_at hl 0 rfl) ?_
    obtain ⟨a24, u25, hq, h⟩ := xp_seq h
    refine xk_goesL (xr_V (As := []) (rest := []) C hP hS (ct_Model_drop htr hok hq) kq_Model_725 0 11 rfl rfl ⟨rfl, rfl, Nat.le_of_ble_eq_true rfl, Nat.le_of_ble_eq_true rfl⟩ ⟨Nat.le_of_ble_eq_true rfl, Nat.le_of_ble_eq_true rfl⟩ hl.1 rfl rfl (Nat.le_of_ble_eq_true rfl) dd_Model_doWays_339) hS (fun H locs hP hS => ?_)
    clear hq
    refine lv_lstore_n (lv' := [(3, .long a24), (0, .ref (ad 0))]) hx hb dd_Model_doWays_342 rfl hl (by decide) rfl (fun ls hl => ?_)
    refine lv_goto (tgt := 389) hx hb dd_Model_doWays_343 (by decide) ?_
    obtain ⟨rfl, rfl⟩ := xp_r h
    exact xr_vret C hP hS dd_Model_doWays_389
  have h := xp_f hc26 h
  by_cases hc27 : a1 = (27 : Int32)
  · have h := xp_t hc27 h
    refine lv_tableIn (off := 342) (tgt := 346) hx hb dd_Model_doWays_4 (by rw [hc27]; decide) (by rw [hc27]; decide) (by rw [hc27]; rfl) (by decide) ?_
    refine lv_aload_n hx hb dd_Model_doWays_346 rfl (lv_at hl 0 rfl) ?_
    obtain ⟨a26, u27, hq, h⟩ := xp_seq h
    refine xk_goesL (xr_V (As := []) (rest := []) C hP hS (ct_Model_drop htr hok hq) kq_Model_725 0 11 rfl rfl ⟨rfl, rfl, Nat.le_of_ble_eq_true rfl, Nat.le_of_ble_eq_true rfl⟩ ⟨Nat.le_of_ble_eq_true rfl, Nat.le_of_ble_eq_true rfl⟩ hl.1 rfl rfl (Nat.le_of_ble_eq_true rfl) dd_Model_doWays_347) hS (fun H locs hP hS => ?_)
    clear hq
    refine lv_lconst (v := 0) hx hb dd_Model_doWays_350 (by decide) ?_
    refine xr_lc_eq (tgt := 359) hx hb dd_Model_doWays_351 dd_Model_doWays_352 (by decide) (fun hc => ?_) (fun hc => ?_)
    · have h := xp_t hc h
      refine lv_iconst (v := 0) hx hb dd_Model_doWays_359 (by decide) ?_
      exact wj_Model_doWays_360 htr C hne h hP hS (lv_sub hl [0] rfl)
    · have h := xp_f hc h
      refine lv_iconst (v := 1) hx hb dd_Model_doWays_355 (by decide) ?_
      refine lv_goto (tgt := 360) hx hb dd_Model_doWays_356 (by decide) ?_
      exact wj_Model_doWays_360 htr C hne h hP hS (lv_sub hl [0] rfl)
  have h := xp_f hc27 h
  have hd0 := lv_neT hc0 (a := 0) (by decide)
  have hd1 := lv_neT hc1 (a := 1) (by decide)
  have hd2 := lv_neT hc2 (a := 2) (by decide)
  have hd3 := lv_neT hc3 (a := 3) (by decide)
  have hd4 := lv_neT hc4 (a := 4) (by decide)
  have hd5 := lv_neT hc5 (a := 5) (by decide)
  have hd6 := lv_neT hc6 (a := 6) (by decide)
  have hd7 := lv_neT hc7 (a := 7) (by decide)
  have hd8 := lv_neT hc8 (a := 8) (by decide)
  have hd9 := lv_neT hc9 (a := 9) (by decide)
  have hd10 := lv_neT hc10 (a := 10) (by decide)
  have hd11 := lv_neT hc11 (a := 11) (by decide)
  have hd12 := lv_neT hc12 (a := 12) (by decide)
  have hd13 := lv_neT hc13 (a := 13) (by decide)
  have hd14 := lv_neT hc14 (a := 14) (by decide)
  have hd15 := lv_neT hc15 (a := 15) (by decide)
  have hd16 := lv_neT hc16 (a := 16) (by decide)
  have hd17 := lv_neT hc17 (a := 17) (by decide)
  have hd18 := lv_neT hc18 (a := 18) (by decide)
  have hd19 := lv_neT hc19 (a := 19) (by decide)
  have hd20 := lv_neT hc20 (a := 20) (by decide)
  have hd21 := lv_neT hc21 (a := 21) (by decide)
  have hd22 := lv_neT hc22 (a := 22) (by decide)
  have hd23 := lv_neT hc23 (a := 23) (by decide)
  have hd24 := lv_neT hc24 (a := 24) (by decide)
  have hd25 := lv_neT hc25 (a := 25) (by decide)
  have hd26 := lv_neT hc26 (a := 26) (by decide)
  have hd27 := lv_neT hc27 (a := 27) (by decide)
  refine lv_tableOut (tgt := 389) hx hb dd_Model_doWays_4 (by omega) (by decide) ?_
  obtain ⟨rfl, rfl⟩ := xp_r h
  exact xr_vret C hP hS dd_Model_doWays_389
