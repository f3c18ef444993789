abbrev rm_Model_typeAt : Room := { frames := 7, cells := 1, slots := 6, locals := 136 }
noncomputable def jb_Model_typeAt_284 (fu : Nat) (k252 : Int32 → Int32 → xk_St → Option (Unit × xk_St)) (b1 : Int32) (b3 : Int32) (u : xk_St) : Option (Unit × xk_St) :=
  (xs_let (b3 + (-1 : Int32)) fun a13 => k252 b1 a13 u)
noncomputable def jb_Model_typeAt_252 (fu : Nat) : Nat → Int32 → Int32 → xk_St → Option (Unit × xk_St)
  | 0 => fun _ _ _ => none
  | n + 1 => fun b1 b3 u =>
    xs_let (jb_Model_typeAt_252 fu  n) fun k252 =>
    if b3 < (0 : Int32) then (some ((()), u)) else (if (u.1 7) = (0 : Int32) then ((xs_seq (fm_Model_areAlike fu b3 b1 u) fun a11 u12 => if a11 = (0 : Int32) then (jb_Model_typeAt_284 fu k252 b1 b3 u12) else ((if b3 < 0 ∨ 64 ≤ b3.toNatClampNeg then none else if b1 < 0 ∨ 64 ≤ b1.toNatClampNeg then none else xs_let (xs_A u12 8 b1.toNatClampNeg (u12.2.2.1 8 b3.toNatClampNeg)) fun u14 => jb_Model_typeAt_284 fu k252 b1 b3 u14)))) else (some ((()), u)))
noncomputable def jb_Model_typeAt_241 (fu : Nat) (b1 : Int32) (u : xk_St) : Option (Unit × xk_St) :=
  (if b1 < 0 ∨ 64 ≤ b1.toNatClampNeg then none else xs_let (xs_A u 8 b1.toNatClampNeg b1) fun u9 => xs_let (b1 - (1 : Int32)) fun a10 => jb_Model_typeAt_252 fu fu b1 a10 u9)
noncomputable def jb_Model_typeAt_199 (fu : Nat) (k160 : Int32 → Int64 → Int32 → xk_St → Option (Unit × xk_St)) (b1 : Int32) (b3 : Int64) (b5 : Int32) (b6 : Int32) (s0 : Int32) (u : xk_St) : Option (Unit × xk_St) :=
  (if s0 = 0 ∨ s0 = 1 then ( xs_let (xs_I u 7 s0) fun u19 => if (((32 : Int32) * b1) + b5) < 0 ∨ 2048 ≤ (((32 : Int32) * b1) + b5).toNatClampNeg then none else xs_let (xs_A u19 7 (((32 : Int32) * b1) + b5).toNatClampNeg b6) fun u20 => xs_seq (fm_Model_flag u20) fun a21 u22 => if ((((32 : Int32) * b1) + (16 : Int32)) + b5) < 0 ∨ 2048 ≤ ((((32 : Int32) * b1) + (16 : Int32)) + b5).toNatClampNeg then none else xs_let (xs_A u22 7 ((((32 : Int32) * b1) + (16 : Int32)) + b5).toNatClampNeg a21) fun u23 => xs_let (b5 + (1 : Int32)) fun a24 => k160 b1 b3 a24 u23  ) else none)
noncomputable def jb_Model_typeAt_160 (fu : Nat) : Nat → Int32 → Int64 → Int32 → xk_St → Option (Unit × xk_St)
  | 0 => fun _ _ _ _ => none
  | n + 1 => fun b1 b3 b5 u =>
    xs_let (jb_Model_typeAt_160 fu  n) fun k160 =>
    if b3 ≤ (b5.toInt64) then (jb_Model_typeAt_241 fu b1 u) else (if (u.1 7) = (0 : Int32) then ((xs_seq (fm_Model_fieldType fu u) fun a15 u16 => xs_seq (fm_Model_isThere a15 (b1 + (1 : Int32)) u16) fun a17 u18 => if a17 = (0 : Int32) then (jb_Model_typeAt_199 fu k160 b1 b3 b5 a15 (1 : Int32) u18) else (jb_Model_typeAt_199 fu k160 b1 b3 b5 a15 (0 : Int32) u18))) else (jb_Model_typeAt_241 fu b1 u))
noncomputable def jb_Model_typeAt_146 (fu : Nat) (b1 : Int32) (b3 : Int64) (s0 : Int32) (u : xk_St) : Option (Unit × xk_St) :=
  (if s0 = 0 ∨ s0 = 1 then ( xs_let (xs_I u 7 s0) fun u7 => if b1 < 0 ∨ 64 ≤ b1.toNatClampNeg then none else xs_let (xs_A u7 5 b1.toNatClampNeg (b3.toInt32)) fun u8 => jb_Model_typeAt_160 fu fu b1 b3 (0 : Int32) u8  ) else none)
noncomputable def jb_Model_typeAt_141 (fu : Nat) (b1 : Int32) (b3 : Int64) (u : xk_St) : Option (Unit × xk_St) :=
  jb_Model_typeAt_146 fu b1 b3 (1 : Int32) u
noncomputable def jb_Model_typeAt_124 (fu : Nat) (b1 : Int32) (s0 : Int64) (u : xk_St) : Option (Unit × xk_St) :=
  if (u.1 7) = (0 : Int32) then (if s0 ≤ (16 : Int64) then (jb_Model_typeAt_146 fu b1 s0 (0 : Int32) u) else (jb_Model_typeAt_141 fu b1 s0 u)) else (jb_Model_typeAt_141 fu b1 s0 u)
noncomputable def jb_Model_typeAt_106 (fu : Nat) (b1 : Int32) (s0 : Int32) (s1 : Int32) (u : xk_St) : Option (Unit × xk_St) :=
  (if s1 < 0 ∨ 64 ≤ s1.toNatClampNeg then none else xs_let (xs_A u 6 s1.toNatClampNeg s0) fun u30 => jb_Model_typeAt_241 fu b1 u30)
noncomputable def jb_Model_typeAt_34 (fu : Nat) : Nat → Int32 → Int32 → Int32 → xk_St → Option (Unit × xk_St)
  | 0 => fun _ _ _ _ => none
  | n + 1 => fun b1 b2 b3 u =>
    xs_let (jb_Model_typeAt_34 fu  n) fun k34 =>
    if (32 : Int32) ≤ b3 then ((if b1 < 0 ∨ 64 ≤ b1.toNatClampNeg then none else xs_let (xs_A u 6 b1.toNatClampNeg (0 : Int32)) fun u4 => if b2 = (96 : Int32) then ((xs_seq (fm_Model_partRow fu b1 (0 : Int32) u4) fun a25 u26 => if b1 < 0 ∨ 64 ≤ b1.toNatClampNeg then none else xs_let (xs_A u26 5 b1.toNatClampNeg a25) fun u27 => if (u27.1 7) = (0 : Int32) then ((xs_seq (fm_Model_partRow fu b1 (16 : Int32) u27) fun a28 u29 => jb_Model_typeAt_106 fu b1 a28 b1 u29)) else (jb_Model_typeAt_106 fu b1 (0 : Int32) b1 u27))) else (if b2 = (94 : Int32) then (jb_Model_typeAt_124 fu b1 (1 : Int64) u4) else ((xs_seq (fm_Model_number fu u4) fun a5 u6 => jb_Model_typeAt_124 fu b1 a5 u6))))) else ((if (((32 : Int32) * b1) + b3) < 0 ∨ 2048 ≤ (((32 : Int32) * b1) + b3).toNatClampNeg then none else xs_let (xs_A u 7 (((32 : Int32) * b1) + b3).toNatClampNeg (0 : Int32)) fun u31 => xs_let (b3 + (1 : Int32)) fun a32 => k34 b1 b2 a32 u31))
noncomputable def jb_Model_typeAt_31 (fu : Nat) (b1 : Int32) (b2 : Int32) (s0 : Int32) (s1 : Int32) (u : xk_St) : Option (Unit × xk_St) :=
  (if s1 < 0 ∨ 64 ≤ s1.toNatClampNeg then none else xs_let (xs_A u 4 s1.toNatClampNeg s0) fun u3 => jb_Model_typeAt_34 fu fu b1 b2 (0 : Int32) u3)
noncomputable def fm_Model_typeAt (fu : Nat) (x0 : Int32) (u : xk_St) : Option (Unit × xk_St) :=
  (xs_seq (fm_Model_one u) fun a1 u2 => if a1 = (96 : Int32) then (jb_Model_typeAt_31 fu x0 a1 (0 : Int32) x0 u2) else (if a1 = (95 : Int32) then (jb_Model_typeAt_31 fu x0 a1 (1 : Int32) x0 u2) else (jb_Model_typeAt_31 fu x0 a1 (2 : Int32) x0 u2)))
set_option maxHeartbeats 4000000 in
set_option maxRecDepth 100000 in
theorem wj_Model_typeAt_284 {p : Program} {l : Launch} {e : Env} {s : State} {m : MethodId} {args : Array Value} {below : List Frame} {meth : Method} {c : Code} {D : va_G} {ad : Nat → Nat} {ca : Nat → ClassId} {ads : List Nat} {fu : Nat} (htr : l.stackTraces = false) (C : xk_C D kx_cl (kx_ty ca) (kw_m ad ca) ads "ModuleHouseModel" prog_14_method_45_code 7 none p e s m args meth c) (hne : c.exceptionTable.isEmpty = true) {u' : xk_St} {r : Unit} {k252 : Int32 → Int32 → xk_St → Option (Unit × xk_St)} (hk252 : ∀ (c0 : Int32) (c1 : Int32) (u : xk_St) (H : Heap) (locs : List Loc) (ls : Array Slot), k252 c0 c1 u = some (r, u') → va_P D kx_cl (kw_m ad ca u) H → va_S (xk_A ads s.heap.size) s.heap H locs → lv_has ls 7 [(0, .ref (ad 0)), (1, .int c0), (3, .int c1)] → W p l e rm_Model_typeAt s m args below meth c H locs 0 0 (xk_MQ below (xk_Qc D kx_cl (kw_m ad ca) ads (xo_v (.inl r)) u') args s (xk_A ads s.heap.size)) (F0 m 252 ls [])) {b1 : Int32} {b3 : Int32} {u : xk_St} {H : Heap} {locs : List Loc} {ls : Array Slot} (h : jb_Model_typeAt_284 fu k252 b1 b3 u = some (r, u')) (hP : va_P D kx_cl (kw_m ad ca u) H) (hS : va_S (xk_A ads s.heap.size) s.heap H locs) (hl : lv_has ls 7 [(0, .ref (ad 0)), (1, .int b1), (3, .int b3)]) : W p l e rm_Model_typeAt s m args below meth c H locs 0 0 (xk_MQ below (xk_Qc D kx_cl (kw_m ad ca) ads (xo_v (.inl r)) u') args s (xk_A ads s.heap.size)) (F0 m 284 ls []) := by
  have hx := C.1.1
  have hb := C.1.2.1
  have hok := C.2.2.1
  unfold jb_Model_typeAt_284 at h
  obtain ⟨a13, ea13, h⟩ := xp_let h
  refine lv_iinc (v := a13) (lv' := [(3, .int a13), (0, .ref (ad 0)), (1, .int b1)]) hx hb dd_Model_typeAt_284 hl (k := 2) rfl (by rw [ea13]; first | rfl | decide) (by decide) rfl (fun ls hl => ?_)
  refine lv_goto (tgt := 252) hx hb dd_Model_typeAt_287 (by decide) ?_
  exact hk252 b1 a13 u _ _ _ h hP hS (lv_sub hl [1, 2, 0] rfl)
set_option maxHeartbeats 4000000 in
set_option maxRecDepth 100000 in
theorem wj_Model_typeAt_252 {p : Program} {l : Launch} {e : Env} {s : State} {m : MethodId} {args : Array Value} {below : List Frame} {meth : Method} {c : Code} {D : va_G} {ad : Nat → Nat} {ca : Nat → ClassId} {ads : List Nat} {fu : Nat} (htr : l.stackTraces = false) (C : xk_C D kx_cl (kx_ty ca) (kw_m ad ca) ads "ModuleHouseModel" prog_14_method_45_code 7 none p e s m args meth c) (hne : c.exceptionTable.isEmpty = true) {u' : xk_St} {r : Unit} : ∀ {n : Nat} {b1 : Int32} {b3 : Int32} {u : xk_St} {H : Heap} {locs : List Loc} {ls : Array Slot} (h : jb_Model_typeAt_252 fu  n b1 b3 u = some (r, u')) (hP : va_P D kx_cl (kw_m ad ca u) H) (hS : va_S (xk_A ads s.heap.size) s.heap H locs) (hl : lv_has ls 7 [(0, .ref (ad 0)), (1, .int b1), (3, .int b3)]), W p l e rm_Model_typeAt s m args below meth c H locs 0 0 (xk_MQ below (xk_Qc D kx_cl (kw_m ad ca) ads (xo_v (.inl r)) u') args s (xk_A ads s.heap.size)) (F0 m 252 ls []) := by
  intro n
  have hx := C.1.1
  have hb := C.1.2.1
  have hok := C.2.2.1
  induction n with
  | zero =>
    intro _ _ u H locs ls h
    have h : none = some (r, u') := h
    cases h
  | succ n ih =>
    intro b1 b3 u H locs ls h hP hS hl
    unfold jb_Model_typeAt_252 at h
    obtain ⟨k252, ek252, h⟩ := xp_let h
    have hk252 : ∀ (c0 : Int32) (c1 : Int32) (u : xk_St) (H : Heap) (locs : List Loc) (ls : Array Slot), k252 c0 c1 u = some (r, u') → va_P D kx_cl (kw_m ad ca u) H → va_S (xk_A ads s.heap.size) s.heap H locs → lv_has ls 7 [(0, .ref (ad 0)), (1, .int c0), (3, .int c1)] → W p l e rm_Model_typeAt s m args below meth c H locs 0 0 (xk_MQ below (xk_Qc D kx_cl (kw_m ad ca) ads (xo_v (.inl r)) u') args s (xk_A ads s.heap.size)) (F0 m 252 ls []) := by
      intro c0 c1 u H locs ls h hP hS hl
      subst ek252
      exact ih h hP hS hl
    clear ih ek252
    refine lv_iload_n hx hb dd_Model_typeAt_252 rfl (lv_at hl 2 rfl) ?_
    refine lv_if_lt (tgt := 290) hx hb dd_Model_typeAt_253 (by decide) (fun hc => ?_) (fun hc => ?_)
    · have h := xp_t hc h
      obtain ⟨rfl, rfl⟩ := xp_r h
      exact xr_vret C hP hS dd_Model_typeAt_290
    · have h := xp_f hc h
      refine lv_aload_n hx hb dd_Model_typeAt_256 rfl (lv_at hl 0 rfl) ?_
      refine gf_m_Model_0_wrong C hP dd_Model_typeAt_257 ?_
      refine lv_if_ne (tgt := 290) hx hb dd_Model_typeAt_260 (by decide) (fun hc => ?_) (fun hc => ?_)
      · have h := xp_f hc h
        obtain ⟨rfl, rfl⟩ := xp_r h
        exact xr_vret C hP hS dd_Model_typeAt_290
      · have h := xp_t hc h
        refine lv_aload_n hx hb dd_Model_typeAt_263 rfl (lv_at hl 0 rfl) ?_
        refine lv_iload_n hx hb dd_Model_typeAt_264 rfl (lv_at hl 2 rfl) ?_
        refine lv_iload_n hx hb dd_Model_typeAt_265 rfl (lv_at hl 1 rfl) ?_
        obtain ⟨a11, u12, hq, h⟩ := xp_seq h
        refine xk_goesI (xr_V (As := [.int b3, .int b1]) (rest := []) C hP hS (ct_Model_areAlike htr hok hq) kq_Model_411 0 11 rfl rfl ⟨rfl, rfl, Nat.le_of_ble_eq_true rfl, Nat.le_of_ble_eq_true rfl⟩ ⟨Nat.le_of_ble_eq_true rfl, Nat.le_of_ble_eq_true rfl⟩ hl.1 rfl rfl (Nat.le_of_ble_eq_true rfl) dd_Model_typeAt_266) hS (fun H locs hP hS => ?_)
        clear hq
        refine lv_if_eq (tgt := 284) hx hb dd_Model_typeAt_269 (by decide) (fun hc => ?_) (fun hc => ?_)
        · have h := xp_t hc h
          exact wj_Model_typeAt_284 htr C hne hk252 h hP hS (lv_sub hl [0, 1, 2] rfl)
        · have h := xp_f hc h
          refine lv_aload_n hx hb dd_Model_typeAt_272 rfl (lv_at hl 0 rfl) ?_
          refine gf_m_Model_0_alike C hP dd_Model_typeAt_273 ?_
          refine lv_iload_n hx hb dd_Model_typeAt_276 rfl (lv_at hl 1 rfl) ?_
          refine lv_aload_n hx hb dd_Model_typeAt_277 rfl (lv_at hl 0 rfl) ?_
          refine gf_m_Model_0_alike C hP dd_Model_typeAt_278 ?_
          refine lv_iload_n hx hb dd_Model_typeAt_281 rfl (lv_at hl 2 rfl) ?_
          obtain ⟨hi, h⟩ := xp_g h
          refine al_m_10 C hP hi dd_Model_typeAt_282 ?_
          obtain ⟨hi, h⟩ := xp_g h
          refine as_m_10 C hP hS hi dd_Model_typeAt_283 (fun H locs hP hS => ?_)
          obtain ⟨u14, eu14, h⟩ := xp_let h
          rw [← eu14] at hP
          exact wj_Model_typeAt_284 htr C hne hk252 h hP hS (lv_sub hl [0, 1, 2] rfl)
set_option maxHeartbeats 4000000 in
set_option maxRecDepth 100000 in
theorem wj_Model_typeAt_241 {p : Program} {l : Launch} {e : Env} {s : State} {m : MethodId} {args : Array Value} {below : List Frame} {meth : Method} {c : Code} {D : va_G} {ad : Nat → Nat} {ca : Nat → ClassId} {ads : List Nat} {fu : Nat} (htr : l.stackTraces = false) (C : xk_C D kx_cl (kx_ty ca) (kw_m ad ca) ads "ModuleHouseModel" prog_14_method_45_code 7 none p e s m args meth c) (hne : c.exceptionTable.isEmpty = true) {u' : xk_St} {r : Unit} {b1 : Int32} {u : xk_St} {H : Heap} {locs : List Loc} {ls : Array Slot} (h : jb_Model_typeAt_241 fu  b1 u = some (r, u')) (hP : va_P D kx_cl (kw_m ad ca u) H) (hS : va_S (xk_A ads s.heap.size) s.heap H locs) (hl : lv_has ls 7 [(0, .ref (ad 0)), (1, .int b1)]) : W p l e rm_Model_typeAt s m args below meth c H locs 0 0 (xk_MQ below (xk_Qc D kx_cl (kw_m ad ca) ads (xo_v (.inl r)) u') args s (xk_A ads s.heap.size)) (F0 m 241 ls []) := by
  have hx := C.1.1
  have hb := C.1.2.1
  have hok := C.2.2.1
  unfold jb_Model_typeAt_241 at h
  refine lv_aload_n hx hb dd_Model_typeAt_241 rfl (lv_at hl 0 rfl) ?_
  refine gf_m_Model_0_alike C hP dd_Model_typeAt_242 ?_
  refine lv_iload_n hx hb dd_Model_typeAt_245 rfl (lv_at hl 1 rfl) ?_
  refine lv_iload_n hx hb dd_Model_typeAt_246 rfl (lv_at hl 1 rfl) ?_
  obtain ⟨hi, h⟩ := xp_g h
  refine as_m_10 C hP hS hi dd_Model_typeAt_247 (fun H locs hP hS => ?_)
  obtain ⟨u9, eu9, h⟩ := xp_let h
  rw [← eu9] at hP
  refine lv_iload_n hx hb dd_Model_typeAt_248 rfl (lv_at hl 1 rfl) ?_
  refine lv_iconst (v := 1) hx hb dd_Model_typeAt_249 (by decide) ?_
  refine lv_isub hx hb dd_Model_typeAt_250 ?_
  obtain ⟨a10, ea10, h⟩ := xp_let h
  refine xr_nami ea10 ?_
  refine lv_istore_n (lv' := [(3, .int a10), (0, .ref (ad 0)), (1, .int b1)]) hx hb dd_Model_typeAt_251 rfl hl (by decide) rfl (fun ls hl => ?_)
  exact wj_Model_typeAt_252 htr C hne h hP hS (lv_sub hl [1, 2, 0] rfl)
set_option maxHeartbeats 4000000 in
set_option maxRecDepth 100000 in
theorem wj_Model_typeAt_199 {p : Program} {l : Launch} {e : Env} {s : State} {m : MethodId} {args : Array Value} {below : List Frame} {meth : Method} {c : Code} {D : va_G} {ad : Nat → Nat} {ca : Nat → ClassId} {ads : List Nat} {fu : Nat} (htr : l.stackTraces = false) (C : xk_C D kx_cl (kx_ty ca) (kw_m ad ca) ads "ModuleHouseModel" prog_14_method_45_code 7 none p e s m args meth c) (hne : c.exceptionTable.isEmpty = true) {u' : xk_St} {r : Unit} {k160 : Int32 → Int64 → Int32 → xk_St → Option (Unit × xk_St)} (hk160 : ∀ (c0 : Int32) (c1 : Int64) (c2 : Int32) (u : xk_St) (H : Heap) (locs : List Loc) (ls : Array Slot), k160 c0 c1 c2 u = some (r, u') → va_P D kx_cl (kw_m ad ca u) H → va_S (xk_A ads s.heap.size) s.heap H locs → lv_has ls 7 [(0, .ref (ad 0)), (1, .int c0), (3, .long c1), (5, .int c2)] → W p l e rm_Model_typeAt s m args below meth c H locs 0 0 (xk_MQ below (xk_Qc D kx_cl (kw_m ad ca) ads (xo_v (.inl r)) u') args s (xk_A ads s.heap.size)) (F0 m 160 ls [])) {b1 : Int32} {b3 : Int64} {b5 : Int32} {b6 : Int32} {s0 : Int32} {u : xk_St} {H : Heap} {locs : List Loc} {ls : Array Slot} (h : jb_Model_typeAt_199 fu k160 b1 b3 b5 b6 s0 u = some (r, u')) (hP : va_P D kx_cl (kw_m ad ca u) H) (hS : va_S (xk_A ads s.heap.size) s.heap H locs) (hl : lv_has ls 7 [(0, .ref (ad 0)), (1, .int b1), (3, .long b3), (5, .int b5), (6, .int b6)]) : W p l e rm_Model_typeAt s m args below meth c H locs 0 0 (xk_MQ below (xk_Qc D kx_cl (kw_m ad ca) ads (xo_v (.inl r)) u') args s (xk_A ads s.heap.size)) (F0 m 199 ls [.int s0, .ref (ad 0)]) := by
  have hx := C.1.1
  have hb := C.1.2.1
  have hok := C.2.2.1
  unfold jb_Model_typeAt_199 at h
  obtain ⟨hz, h⟩ := xp_p h
  refine pf_m_Model_0_wrong C hP hS hz dd_Model_typeAt_199 (fun H locs hP hS => ?_)
  obtain ⟨u19, eu19, h⟩ := xp_let h
  rw [← eu19] at hP
  refine lv_aload_n hx hb dd_Model_typeAt_202 rfl (lv_at hl 0 rfl) ?_
  refine gf_m_Model_0_parts C hP dd_Model_typeAt_203 ?_
  refine lv_bipush (v := 32) hx hb dd_Model_typeAt_206 (by decide) ?_
  refine lv_iload_n hx hb dd_Model_typeAt_208 rfl (lv_at hl 1 rfl) ?_
  refine lv_imul hx hb dd_Model_typeAt_209 ?_
  refine lv_iload hx hb dd_Model_typeAt_210 (lv_at hl 3 rfl) ?_
  refine lv_iadd hx hb dd_Model_typeAt_212 ?_
  refine lv_iload hx hb dd_Model_typeAt_213 (lv_at hl 4 rfl) ?_
  obtain ⟨hi, h⟩ := xp_g h
  refine as_m_9 C hP hS hi dd_Model_typeAt_215 (fun H locs hP hS => ?_)
  obtain ⟨u20, eu20, h⟩ := xp_let h
  rw [← eu20] at hP
  refine lv_aload_n hx hb dd_Model_typeAt_216 rfl (lv_at hl 0 rfl) ?_
  refine gf_m_Model_0_parts C hP dd_Model_typeAt_217 ?_
  refine lv_bipush (v := 32) hx hb dd_Model_typeAt_220 (by decide) ?_
  refine lv_iload_n hx hb dd_Model_typeAt_222 rfl (lv_at hl 1 rfl) ?_
  refine lv_imul hx hb dd_Model_typeAt_223 ?_
  refine lv_bipush (v := 16) hx hb dd_Model_typeAt_224 (by decide) ?_
  refine lv_iadd hx hb dd_Model_typeAt_226 ?_
  refine lv_iload hx hb dd_Model_typeAt_227 (lv_at hl 3 rfl) ?_
  refine lv_iadd hx hb dd_Model_typeAt_229 ?_
  refine lv_aload_n hx hb dd_Model_typeAt_230 rfl (lv_at hl 0 rfl) ?_
  obtain ⟨a21, u22, hq, h⟩ := xp_seq h
  refine xk_goesI (xr_V (As := []) (rest := [.int ((((32 : Int32) * b1) + (16 : Int32)) + b5), .ref (ad 9)]) C hP hS (ct_Model_flag htr hok hq) kq_Model_357 0 11 rfl rfl ⟨rfl, rfl, Nat.le_of_ble_eq_true rfl, Nat.le_of_ble_eq_true rfl⟩ ⟨Nat.le_of_ble_eq_true rfl, Nat.le_of_ble_eq_true rfl⟩ hl.1 rfl rfl (Nat.le_of_ble_eq_true rfl) dd_Model_typeAt_231) hS (fun H locs hP hS => ?_)
  clear hq
  obtain ⟨hi, h⟩ := xp_g h
  refine as_m_9 C hP hS hi dd_Model_typeAt_234 (fun H locs hP hS => ?_)
  obtain ⟨u23, eu23, h⟩ := xp_let h
  rw [← eu23] at hP
  obtain ⟨a24, ea24, h⟩ := xp_let h
  refine lv_iinc (v := a24) (lv' := [(5, .int a24), (0, .ref (ad 0)), (1, .int b1), (3, .long b3), (6, .int b6)]) hx hb dd_Model_typeAt_235 hl (k := 3) rfl (by rw [ea24]; first | rfl | decide) (by decide) rfl (fun ls hl => ?_)
  refine lv_goto (tgt := 160) hx hb dd_Model_typeAt_238 (by decide) ?_
  exact hk160 b1 b3 a24 u23 _ _ _ h hP hS (lv_sub hl [1, 2, 3, 0] rfl)
set_option maxHeartbeats 4000000 in
set_option maxRecDepth 100000 in
theorem wj_Model_typeAt_160 {p : Program} {l : Launch} {e : Env} {s : State} {m : MethodId} {args : Array Value} {below : List Frame} {meth : Method} {c : Code} {D : va_G} {ad : Nat → Nat} {ca : Nat → ClassId} {ads : List Nat} {fu : Nat} (htr : l.stackTraces = false) (C : xk_C D kx_cl (kx_ty ca) (kw_m ad ca) ads "ModuleHouseModel" prog_14_method_45_code 7 none p e s m args meth c) (hne : c.exceptionTable.isEmpty = true) {u' : xk_St} {r : Unit} : ∀ {n : Nat} {b1 : Int32} {b3 : Int64} {b5 : Int32} {u : xk_St} {H : Heap} {locs : List Loc} {ls : Array Slot} (h : jb_Model_typeAt_160 fu  n b1 b3 b5 u = some (r, u')) (hP : va_P D kx_cl (kw_m ad ca u) H) (hS : va_S (xk_A ads s.heap.size) s.heap H locs) (hl : lv_has ls 7 [(0, .ref (ad 0)), (1, .int b1), (3, .long b3), (5, .int b5)]), W p l e rm_Model_typeAt s m args below meth c H locs 0 0 (xk_MQ below (xk_Qc D kx_cl (kw_m ad ca) ads (xo_v (.inl r)) u') args s (xk_A ads s.heap.size)) (F0 m 160 ls []) := by
  intro n
  have hx := C.1.1
  have hb := C.1.2.1
  have hok := C.2.2.1
  induction n with
  | zero =>
    intro _ _ _ u H locs ls h
    have h : none = some (r, u') := h
    cases h
  | succ n ih =>
    intro b1 b3 b5 u H locs ls h hP hS hl
    unfold jb_Model_typeAt_160 at h
    obtain ⟨k160, ek160, h⟩ := xp_let h
    have hk160 : ∀ (c0 : Int32) (c1 : Int64) (c2 : Int32) (u : xk_St) (H : Heap) (locs : List Loc) (ls : Array Slot), k160 c0 c1 c2 u = some (r, u') → va_P D kx_cl (kw_m ad ca u) H → va_S (xk_A ads s.heap.size) s.heap H locs → lv_has ls 7 [(0, .ref (ad 0)), (1, .int c0), (3, .long c1), (5, .int c2)] → W p l e rm_Model_typeAt s m args below meth c H locs 0 0 (xk_MQ below (xk_Qc D kx_cl (kw_m ad ca) ads (xo_v (.inl r)) u') args s (xk_A ads s.heap.size)) (F0 m 160 ls []) := by
      intro c0 c1 c2 u H locs ls h hP hS hl
      subst ek160
      exact ih h hP hS hl
    clear ih ek160
    refine lv_iload hx hb dd_Model_typeAt_160 (lv_at hl 3 rfl) ?_
    refine lv_i2l hx hb dd_Model_typeAt_162 rfl ?_
    refine lv_lload_n hx hb dd_Model_typeAt_163 rfl (lv_at hl 2 rfl) ?_
    refine xr_lc_ge (tgt := 241) hx hb dd_Model_typeAt_164 dd_Model_typeAt_165 (by decide) (fun hc => ?_) (fun hc => ?_)
    · have h := xp_t hc h
      exact wj_Model_typeAt_241 htr C hne h hP hS (lv_sub hl [0, 1] rfl)
    · have h := xp_f hc h
      refine lv_aload_n hx hb dd_Model_typeAt_168 rfl (lv_at hl 0 rfl) ?_
      refine gf_m_Model_0_wrong C hP dd_Model_typeAt_169 ?_
      refine lv_if_ne (tgt := 241) hx hb dd_Model_typeAt_172 (by decide) (fun hc => ?_) (fun hc => ?_)
      · have h := xp_f hc h
        exact wj_Model_typeAt_241 htr C hne h hP hS (lv_sub hl [0, 1] rfl)
      · have h := xp_t hc h
        refine lv_aload_n hx hb dd_Model_typeAt_175 rfl (lv_at hl 0 rfl) ?_
        obtain ⟨a15, u16, hq, h⟩ := xp_seq h
        refine xk_goesI (xr_V (As := []) (rest := []) C hP hS (ct_Model_fieldType htr hok hq) kq_Model_378 0 11 rfl rfl ⟨rfl, rfl, Nat.le_of_ble_eq_true rfl, Nat.le_of_ble_eq_true rfl⟩ ⟨Nat.le_of_ble_eq_true rfl, Nat.le_of_ble_eq_true rfl⟩ hl.1 rfl rfl (Nat.le_of_ble_eq_true rfl) dd_Model_typeAt_176) hS (fun H locs hP hS => ?_)
        clear hq
        refine lv_istore (lv' := [(6, .int a15), (0, .ref (ad 0)), (1, .int b1), (3, .long b3), (5, .int b5)]) hx hb dd_Model_typeAt_179 hl (by decide) rfl (fun ls hl => ?_)
        refine lv_aload_n hx hb dd_Model_typeAt_181 rfl (lv_at hl 1 rfl) ?_
        refine lv_aload_n hx hb dd_Model_typeAt_182 rfl (lv_at hl 1 rfl) ?_
        refine lv_iload hx hb dd_Model_typeAt_183 (lv_at hl 0 rfl) ?_
        refine lv_iload_n hx hb dd_Model_typeAt_185 rfl (lv_at hl 2 rfl) ?_
        refine lv_iconst (v := 1) hx hb dd_Model_typeAt_186 (by decide) ?_
        refine lv_iadd hx hb dd_Model_typeAt_187 ?_
        obtain ⟨a17, u18, hq, h⟩ := xp_seq h
        refine xk_goesI (xr_V (As := [.int a15, .int (b1 + (1 : Int32))]) (rest := [.ref (ad 0)]) C hP hS (ct_Model_isThere htr hok hq) kq_Model_404 0 11 rfl rfl ⟨rfl, rfl, Nat.le_of_ble_eq_true rfl, Nat.le_of_ble_eq_true rfl⟩ ⟨Nat.le_of_ble_eq_true rfl, Nat.le_of_ble_eq_true rfl⟩ hl.1 rfl rfl (Nat.le_of_ble_eq_true rfl) dd_Model_typeAt_188) hS (fun H locs hP hS => ?_)
        clear hq
        refine lv_if_ne (tgt := 198) hx hb dd_Model_typeAt_191 (by decide) (fun hc => ?_) (fun hc => ?_)
        · have h := xp_f hc h
          refine lv_iconst (v := 0) hx hb dd_Model_typeAt_198 (by decide) ?_
          exact wj_Model_typeAt_199 htr C hne hk160 h hP hS (lv_sub hl [1, 2, 3, 4, 0] rfl)
        · have h := xp_t hc h
          refine lv_iconst (v := 1) hx hb dd_Model_typeAt_194 (by decide) ?_
          refine lv_goto (tgt := 199) hx hb dd_Model_typeAt_195 (by decide) ?_
          exact wj_Model_typeAt_199 htr C hne hk160 h hP hS (lv_sub hl [1, 2, 3, 4, 0] rfl)
set_option maxHeartbeats 4000000 in
set_option maxRecDepth 100000 in
theorem wj_Model_typeAt_146 {p : Program} {l : Launch} {e : Env} {s : State} {m : MethodId} {args : Array Value} {below : List Frame} {meth : Method} {c : Code} {D : va_G} {ad : Nat → Nat} {ca : Nat → ClassId} {ads : List Nat} {fu : Nat} (htr : l.stackTraces = false) (C : xk_C D kx_cl (kx_ty ca) (kw_m ad ca) ads "ModuleHouseModel" prog_14_method_45_code 7 none p e s m args meth c) (hne : c.exceptionTable.isEmpty = true) {u' : xk_St} {r : Unit} {b1 : Int32} {b3 : Int64} {s0 : Int32} {u : xk_St} {H : Heap} {locs : List Loc} {ls : Array Slot} (h : jb_Model_typeAt_146 fu  b1 b3 s0 u = some (r, u')) (hP : va_P D kx_cl (kw_m ad ca u) H) (hS : va_S (xk_A ads s.heap.size) s.heap H locs) (hl : lv_has ls 7 [(0, .ref (ad 0)), (1, .int b1), (3, .long b3)]) : W p l e rm_Model_typeAt s m args below meth c H locs 0 0 (xk_MQ below (xk_Qc D kx_cl (kw_m ad ca) ads (xo_v (.inl r)) u') args s (xk_A ads s.heap.size)) (F0 m 146 ls [.int s0, .ref (ad 0)]) := by
  have hx := C.1.1
  have hb := C.1.2.1
  have hok := C.2.2.1
  unfold jb_Model_typeAt_146 at h
  obtain ⟨hz, h⟩ := xp_p h
  refine pf_m_Model_0_wrong C hP hS hz dd_Model_typeAt_146 (fun H locs hP hS => ?_)
  obtain ⟨u7, eu7, h⟩ := xp_let h
  rw [← eu7] at hP
  refine lv_aload_n hx hb dd_Model_typeAt_149 rfl (lv_at hl 0 rfl) ?_
  refine gf_m_Model_0_partMany C hP dd_Model_typeAt_150 ?_
  refine lv_iload_n hx hb dd_Model_typeAt_153 rfl (lv_at hl 1 rfl) ?_
  refine lv_lload_n hx hb dd_Model_typeAt_154 rfl (lv_at hl 2 rfl) ?_
  refine lv_l2i hx hb dd_Model_typeAt_155 rfl ?_
  obtain ⟨hi, h⟩ := xp_g h
  refine as_m_7 C hP hS hi dd_Model_typeAt_156 (fun H locs hP hS => ?_)
  obtain ⟨u8, eu8, h⟩ := xp_let h
  rw [← eu8] at hP
  refine lv_iconst (v := 0) hx hb dd_Model_typeAt_157 (by decide) ?_
  refine lv_istore (lv' := [(5, .int (0 : Int32)), (0, .ref (ad 0)), (1, .int b1), (3, .long b3)]) hx hb dd_Model_typeAt_158 hl (by decide) rfl (fun ls hl => ?_)
  exact wj_Model_typeAt_160 htr C hne h hP hS (lv_sub hl [1, 2, 3, 0] rfl)
set_option maxHeartbeats 4000000 in
set_option maxRecDepth 100000 in
theorem wj_Model_typeAt_141 {p : Program} {l : Launch} {e : Env} {s : State} {m : MethodId} {args : Array Value} {below : List Frame} {meth : Method} {c : Code} {D : va_G} {ad : Nat → Nat} {ca : Nat → ClassId} {ads : List Nat} {fu : Nat} (htr : l.stackTraces = false) (C : xk_C D kx_cl (kx_ty ca) (kw_m ad ca) ads "ModuleHouseModel" prog_14_method_45_code 7 none p e s m args meth c) (hne : c.exceptionTable.isEmpty = true) {u' : xk_St} {r : Unit} {b1 : Int32} {b3 : Int64} {u : xk_St} {H : Heap} {locs : List Loc} {ls : Array Slot} (h : jb_Model_typeAt_141 fu  b1 b3 u = some (r, u')) (hP : va_P D kx_cl (kw_m ad ca u) H) (hS : va_S (xk_A ads s.heap.size) s.heap H locs) (hl : lv_has ls 7 [(0, .ref (ad 0)), (1, .int b1), (3, .long b3)]) : W p l e rm_Model_typeAt s m args below meth c H locs 0 0 (xk_MQ below (xk_Qc D kx_cl (kw_m ad ca) ads (xo_v (.inl r)) u') args s (xk_A ads s.heap.size)) (F0 m 141 ls [.ref (ad 0)]) := by
  have hx := C.1.1
  have hb := C.1.2.1
  have hok := C.2.2.1
  unfold jb_Model_typeAt_141 at h
  refine lv_iconst (v := 1) hx hb dd_Model_typeAt_141 (by decide) ?_
  refine lv_goto (tgt := 146) hx hb dd_Model_typeAt_142 (by decide) ?_
  exact wj_Model_typeAt_146 htr C hne h hP hS (lv_sub hl [0, 1, 2] rfl)
set_option maxHeartbeats 4000000 in
set_option maxRecDepth 100000 in
theorem wj_Model_typeAt_124 {p : Program} {l : Launch} {e : Env} {s : State} {m : MethodId} {args : Array Value} {below : List Frame} {meth : Method} {c : Code} {D : va_G} {ad : Nat → Nat} {ca : Nat → ClassId} {ads : List Nat} {fu : Nat} (htr : l.stackTraces = false) (C : xk_C D kx_cl (kx_ty ca) (kw_m ad ca) ads "ModuleHouseModel" prog_14_method_45_code 7 none p e s m args meth c) (hne : c.exceptionTable.isEmpty = true) {u' : xk_St} {r : Unit} {b1 : Int32} {s0 : Int64} {u : xk_St} {H : Heap} {locs : List Loc} {ls : Array Slot} (h : jb_Model_typeAt_124 fu  b1 s0 u = some (r, u')) (hP : va_P D kx_cl (kw_m ad ca u) H) (hS : va_S (xk_A ads s.heap.size) s.heap H locs) (hl : lv_has ls 7 [(0, .ref (ad 0)), (1, .int b1)]) : W p l e rm_Model_typeAt s m args below meth c H locs 0 0 (xk_MQ below (xk_Qc D kx_cl (kw_m ad ca) ads (xo_v (.inl r)) u') args s (xk_A ads s.heap.size)) (F0 m 124 ls [.long s0]) := by
  have hx := C.1.1
  have hb := C.1.2.1
  have hok := C.2.2.1
  unfold jb_Model_typeAt_124 at h
  refine lv_lstore_n (lv' := [(3, .long s0), (0, .ref (ad 0)), (1, .int b1)]) hx hb dd_Model_typeAt_124 rfl hl (by decide) rfl (fun ls hl => ?_)
  refine lv_aload_n hx hb dd_Model_typeAt_125 rfl (lv_at hl 1 rfl) ?_
  refine lv_aload_n hx hb dd_Model_typeAt_126 rfl (lv_at hl 1 rfl) ?_
  refine gf_m_Model_0_wrong C hP dd_Model_typeAt_127 ?_
  refine lv_if_ne (tgt := 141) hx hb dd_Model_typeAt_130 (by decide) (fun hc => ?_) (fun hc => ?_)
  · have h := xp_f hc h
    exact wj_Model_typeAt_141 htr C hne h hP hS (lv_sub hl [1, 2, 0] rfl)
  · have h := xp_t hc h
    refine lv_lload_n hx hb dd_Model_typeAt_133 rfl (lv_at hl 0 rfl) ?_
    refine lv_ldc2 (v := 16) hx hb C.1.2.2.2.1 (C.1.2.2.2.2 _ (xk_c10 (w := Jvm.Cond.constantLong "ModuleHouseModel" 402 16) 17 rfl rfl)) dd_Model_typeAt_134 ?_
    refine xr_lc_le (tgt := 145) hx hb dd_Model_typeAt_137 dd_Model_typeAt_138 (by decide) (fun hc => ?_) (fun hc => ?_)
    · have h := xp_t hc h
      refine lv_iconst (v := 0) hx hb dd_Model_typeAt_145 (by decide) ?_
      exact wj_Model_typeAt_146 htr C hne h hP hS (lv_sub hl [1, 2, 0] rfl)
    · have h := xp_f hc h
      exact wj_Model_typeAt_141 htr C hne h hP hS (lv_sub hl [1, 2, 0] rfl)
set_option maxHeartbeats 4000000 in
set_option maxRecDepth 100000 in
theorem wj_Model_typeAt_106 {p : Program} {l : Launch} {e : Env} {s : State} {m : MethodId} {args : Array Value} {below : List Frame} {meth : Method} {c : Code} {D : va_G} {ad : Nat → Nat} {ca : Nat → ClassId} {ads : List Nat} {fu : Nat} (htr : l.stackTraces = false) (C : xk_C D kx_cl (kx_ty ca) (kw_m ad ca) ads "ModuleHouseModel" prog_14_method_45_code 7 none p e s m args meth c) (hne : c.exceptionTable.isEmpty = true) {u' : xk_St} {r : Unit} {b1 : Int32} {s0 : Int32} {s1 : Int32} {u : xk_St} {H : Heap} {locs : List Loc} {ls : Array Slot} (h : jb_Model_typeAt_106 fu  b1 s0 s1 u = some (r, u')) (hP : va_P D kx_cl (kw_m ad ca u) H) (hS : va_S (xk_A ads s.heap.size) s.heap H locs) (hl : lv_has ls 7 [(0, .ref (ad 0)), (1, .int b1)]) : W p l e rm_Model_typeAt s m args below meth c H locs 0 0 (xk_MQ below (xk_Qc D kx_cl (kw_m ad ca) ads (xo_v (.inl r)) u') args s (xk_A ads s.heap.size)) (F0 m 106 ls [.int s0, .int s1, .ref (ad 8)]) := by
  have hx := C.1.1
  have hb := C.1.2.1
  have hok := C.2.2.1
  unfold jb_Model_typeAt_106 at h
  obtain ⟨hi, h⟩ := xp_g h
  refine as_m_8 C hP hS hi dd_Model_typeAt_106 (fun H locs hP hS => ?_)
  obtain ⟨u30, eu30, h⟩ := xp_let h
  rw [← eu30] at hP
  refine lv_goto (tgt := 241) hx hb dd_Model_typeAt_107 (by decide) ?_
  exact wj_Model_typeAt_241 htr C hne h hP hS (lv_sub hl [0, 1] rfl)
set_option maxHeartbeats 4000000 in
set_option maxRecDepth 100000 in
theorem wj_Model_typeAt_34 {p : Program} {l : Launch} {e : Env} {s : State} {m : MethodId} {args : Array Value} {below : List Frame} {meth : Method} {c : Code} {D : va_G} {ad : Nat → Nat} {ca : Nat → ClassId} {ads : List Nat} {fu : Nat} (htr : l.stackTraces = false) (C : xk_C D kx_cl (kx_ty ca) (kw_m ad ca) ads "ModuleHouseModel" prog_14_method_45_code 7 none p e s m args meth c) (hne : c.exceptionTable.isEmpty = true) {u' : xk_St} {r : Unit} : ∀ {n : Nat} {b1 : Int32} {b2 : Int32} {b3 : Int32} {u : xk_St} {H : Heap} {locs : List Loc} {ls : Array Slot} (h : jb_Model_typeAt_34 fu  n b1 b2 b3 u = some (r, u')) (hP : va_P D kx_cl (kw_m ad ca u) H) (hS : va_S (xk_A ads s.heap.size) s.heap H locs) (hl : lv_has ls 7 [(0, .ref (ad 0)), (1, .int b1), (2, .int b2), (3, .int b3)]), W p l e rm_Model_typeAt s m args below meth c H locs 0 0 (xk_MQ below (xk_Qc D kx_cl (kw_m ad ca) ads (xo_v (.inl r)) u') args s (xk_A ads s.heap.size)) (F0 m 34 ls []) := by
  intro n
  have hx := C.1.1
  have hb := C.1.2.1
  have hok := C.2.2.1
  induction n with
  | zero =>
    intro _ _ _ u H locs ls h
    have h : none = some (r, u') := h
    cases h
  | succ n ih =>
    intro b1 b2 b3 u H locs ls h hP hS hl
    unfold jb_Model_typeAt_34 at h
    obtain ⟨k34, ek34, h⟩ := xp_let h
    have hk34 : ∀ (c0 : Int32) (c1 : Int32) (c2 : Int32) (u : xk_St) (H : Heap) (locs : List Loc) (ls : Array Slot), k34 c0 c1 c2 u = some (r, u') → va_P D kx_cl (kw_m ad ca u) H → va_S (xk_A ads s.heap.size) s.heap H locs → lv_has ls 7 [(0, .ref (ad 0)), (1, .int c0), (2, .int c1), (3, .int c2)] → W p l e rm_Model_typeAt s m args below meth c H locs 0 0 (xk_MQ below (xk_Qc D kx_cl (kw_m ad ca) ads (xo_v (.inl r)) u') args s (xk_A ads s.heap.size)) (F0 m 34 ls []) := by
      intro c0 c1 c2 u H locs ls h hP hS hl
      subst ek34
      exact ih h hP hS hl
    clear ih ek34
    refine lv_iload_n hx hb dd_Model_typeAt_34 rfl (lv_at hl 3 rfl) ?_
    refine lv_bipush (v := 32) hx hb dd_Model_typeAt_35 (by decide) ?_
    refine lv_icmp_ge (tgt := 58) hx hb dd_Model_typeAt_37 (by decide) (fun hc => ?_) (fun hc => ?_)
    · have h := xp_t hc h
      refine lv_aload_n hx hb dd_Model_typeAt_58 rfl (lv_at hl 0 rfl) ?_
      refine gf_m_Model_0_resultTypes C hP dd_Model_typeAt_59 ?_
      refine lv_iload_n hx hb dd_Model_typeAt_62 rfl (lv_at hl 1 rfl) ?_
      refine lv_iconst (v := 0) hx hb dd_Model_typeAt_63 (by decide) ?_
      obtain ⟨hi, h⟩ := xp_g h
      refine as_m_8 C hP hS hi dd_Model_typeAt_64 (fun H locs hP hS => ?_)
      obtain ⟨u4, eu4, h⟩ := xp_let h
      rw [← eu4] at hP
      refine lv_iload_n hx hb dd_Model_typeAt_65 rfl (lv_at hl 2 rfl) ?_
      refine lv_bipush (v := 96) hx hb dd_Model_typeAt_66 (by decide) ?_
      refine lv_icmp_ne (tgt := 110) hx hb dd_Model_typeAt_68 (by decide) (fun hc => ?_) (fun hc => ?_)
      · have h := xp_f hc h
        refine lv_iload_n hx hb dd_Model_typeAt_110 rfl (lv_at hl 2 rfl) ?_
        refine lv_bipush (v := 94) hx hb dd_Model_typeAt_111 (by decide) ?_
        refine lv_icmp_ne (tgt := 120) hx hb dd_Model_typeAt_113 (by decide) (fun hc => ?_) (fun hc => ?_)
        · have h := xp_f hc h
          refine lv_aload_n hx hb dd_Model_typeAt_120 rfl (lv_at hl 0 rfl) ?_
          obtain ⟨a5, u6, hq, h⟩ := xp_seq h
          refine xk_goesL (xr_V (As := []) (rest := []) C hP hS (ct_Model_number htr hok hq) kq_Model_295 0 11 rfl rfl ⟨rfl, rfl, Nat.le_of_ble_eq_true rfl, Nat.le_of_ble_eq_true rfl⟩ ⟨Nat.le_of_ble_eq_true rfl, Nat.le_of_ble_eq_true rfl⟩ hl.1 rfl rfl (Nat.le_of_ble_eq_true rfl) dd_Model_typeAt_121) hS (fun H locs hP hS => ?_)
          clear hq
          exact wj_Model_typeAt_124 htr C hne h hP hS (lv_sub hl [0, 1] rfl)
        · have h := xp_t hc h
          refine lv_lconst (v := 1) hx hb dd_Model_typeAt_116 (by decide) ?_
          refine lv_goto (tgt := 124) hx hb dd_Model_typeAt_117 (by decide) ?_
          exact wj_Model_typeAt_124 htr C hne h hP hS (lv_sub hl [0, 1] rfl)
      · have h := xp_t hc h
        refine lv_aload_n hx hb dd_Model_typeAt_71 rfl (lv_at hl 0 rfl) ?_
        refine gf_m_Model_0_partMany C hP dd_Model_typeAt_72 ?_
        refine lv_iload_n hx hb dd_Model_typeAt_75 rfl (lv_at hl 1 rfl) ?_
        refine lv_aload_n hx hb dd_Model_typeAt_76 rfl (lv_at hl 0 rfl) ?_
        refine lv_iload_n hx hb dd_Model_typeAt_77 rfl (lv_at hl 1 rfl) ?_
        refine lv_iconst (v := 0) hx hb dd_Model_typeAt_78 (by decide) ?_
        obtain ⟨a25, u26, hq, h⟩ := xp_seq h
        refine xk_goesI (xr_V (As := [.int b1, .int (0 : Int32)]) (rest := [.int b1, .ref (ad 7)]) C hP hS (ct_Model_partRow htr hok hq) kq_Model_407 0 11 rfl rfl ⟨rfl, rfl, Nat.le_of_ble_eq_true rfl, Nat.le_of_ble_eq_true rfl⟩ ⟨Nat.le_of_ble_eq_true rfl, Nat.le_of_ble_eq_true rfl⟩ hl.1 rfl rfl (Nat.le_of_ble_eq_true rfl) dd_Model_typeAt_79) hS (fun H locs hP hS => ?_)
        clear hq
        obtain ⟨hi, h⟩ := xp_g h
        refine as_m_7 C hP hS hi dd_Model_typeAt_82 (fun H locs hP hS => ?_)
        obtain ⟨u27, eu27, h⟩ := xp_let h
        rw [← eu27] at hP
        refine lv_aload_n hx hb dd_Model_typeAt_83 rfl (lv_at hl 0 rfl) ?_
        refine gf_m_Model_0_resultTypes C hP dd_Model_typeAt_84 ?_
        refine lv_iload_n hx hb dd_Model_typeAt_87 rfl (lv_at hl 1 rfl) ?_
        refine lv_aload_n hx hb dd_Model_typeAt_88 rfl (lv_at hl 0 rfl) ?_
        refine gf_m_Model_0_wrong C hP dd_Model_typeAt_89 ?_
        refine lv_if_eq (tgt := 99) hx hb dd_Model_typeAt_92 (by decide) (fun hc => ?_) (fun hc => ?_)
        · have h := xp_t hc h
          refine lv_aload_n hx hb dd_Model_typeAt_99 rfl (lv_at hl 0 rfl) ?_
          refine lv_iload_n hx hb dd_Model_typeAt_100 rfl (lv_at hl 1 rfl) ?_
          refine lv_bipush (v := 16) hx hb dd_Model_typeAt_101 (by decide) ?_
          obtain ⟨a28, u29, hq, h⟩ := xp_seq h
          refine xk_goesI (xr_V (As := [.int b1, .int (16 : Int32)]) (rest := [.int b1, .ref (ad 8)]) C hP hS (ct_Model_partRow htr hok hq) kq_Model_407 0 11 rfl rfl ⟨rfl, rfl, Nat.le_of_ble_eq_true rfl, Nat.le_of_ble_eq_true rfl⟩ ⟨Nat.le_of_ble_eq_true rfl, Nat.le_of_ble_eq_true rfl⟩ hl.1 rfl rfl (Nat.le_of_ble_eq_true rfl) dd_Model_typeAt_103) hS (fun H locs hP hS => ?_)
          clear hq
          exact wj_Model_typeAt_106 htr C hne h hP hS (lv_sub hl [0, 1] rfl)
        · have h := xp_f hc h
          refine lv_iconst (v := 0) hx hb dd_Model_typeAt_95 (by decide) ?_
          refine lv_goto (tgt := 106) hx hb dd_Model_typeAt_96 (by decide) ?_
          exact wj_Model_typeAt_106 htr C hne h hP hS (lv_sub hl [0, 1] rfl)
    · have h := xp_f hc h
      refine lv_aload_n hx hb dd_Model_typeAt_40 rfl (lv_at hl 0 rfl) ?_
      refine gf_m_Model_0_parts C hP dd_Model_typeAt_41 ?_
      refine lv_bipush (v := 32) hx hb dd_Model_typeAt_44 (by decide) ?_
      refine lv_iload_n hx hb dd_Model_typeAt_46 rfl (lv_at hl 1 rfl) ?_
      refine lv_imul hx hb dd_Model_typeAt_47 ?_
      refine lv_iload_n hx hb dd_Model_typeAt_48 rfl (lv_at hl 3 rfl) ?_
      refine lv_iadd hx hb dd_Model_typeAt_49 ?_
      refine lv_iconst (v := 0) hx hb dd_Model_typeAt_50 (by decide) ?_
      obtain ⟨hi, h⟩ := xp_g h
      refine as_m_9 C hP hS hi dd_Model_typeAt_51 (fun H locs hP hS => ?_)
      obtain ⟨u31, eu31, h⟩ := xp_let h
      rw [← eu31] at hP
      obtain ⟨a32, ea32, h⟩ := xp_let h
      refine lv_iinc (v := a32) (lv' := [(3, .int a32), (0, .ref (ad 0)), (1, .int b1), (2, .int b2)]) hx hb dd_Model_typeAt_52 hl (k := 3) rfl (by rw [ea32]; first | rfl | decide) (by decide) rfl (fun ls hl => ?_)
      refine lv_goto (tgt := 34) hx hb dd_Model_typeAt_55 (by decide) ?_
      exact hk34 b1 b2 a32 u31 _ _ _ h hP hS (lv_sub hl [1, 2, 3, 0] rfl)
set_option maxHeartbeats 4000000 in
set_option maxRecDepth 100000 in
theorem wj_Model_typeAt_31 {p : Program} {l : Launch} {e : Env} {s : State} {m : MethodId} {args : Array Value} {below : List Frame} {meth : Method} {c : Code} {D : va_G} {ad : Nat → Nat} {ca : Nat → ClassId} {ads : List Nat} {fu : Nat} (htr : l.stackTraces = false) (C : xk_C D kx_cl (kx_ty ca) (kw_m ad ca) ads "ModuleHouseModel" prog_14_method_45_code 7 none p e s m args meth c) (hne : c.exceptionTable.isEmpty = true) {u' : xk_St} {r : Unit} {b1 : Int32} {b2 : Int32} {s0 : Int32} {s1 : Int32} {u : xk_St} {H : Heap} {locs : List Loc} {ls : Array Slot} (h : jb_Model_typeAt_31 fu  b1 b2 s0 s1 u = some (r, u')) (hP : va_P D kx_cl (kw_m ad ca u) H) (hS : va_S (xk_A ads s.heap.size) s.heap H locs) (hl : lv_has ls 7 [(0, .ref (ad 0)), (1, .int b1), (2, .int b2)]) : W p l e rm_Model_typeAt s m args below meth c H locs 0 0 (xk_MQ below (xk_Qc D kx_cl (kw_m ad ca) ads (xo_v (.inl r)) u') args s (xk_A ads s.heap.size)) (F0 m 31 ls [.int s0, .int s1, .ref (ad 6)]) := by
  have hx := C.1.1
  have hb := C.1.2.1
  have hok := C.2.2.1
  unfold jb_Model_typeAt_31 at h
  obtain ⟨hi, h⟩ := xp_g h
  refine as_m_6 C hP hS hi dd_Model_typeAt_31 (fun H locs hP hS => ?_)
  obtain ⟨u3, eu3, h⟩ := xp_let h
  rw [← eu3] at hP
  refine lv_iconst (v := 0) hx hb dd_Model_typeAt_32 (by decide) ?_
  refine lv_istore_n (lv' := [(3, .int (0 : Int32)), (0, .ref (ad 0)), (1, .int b1), (2, .int b2)]) hx hb dd_Model_typeAt_33 rfl hl (by decide) rfl (fun ls hl => ?_)
  exact wj_Model_typeAt_34 htr C hne h hP hS (lv_sub hl [1, 2, 3, 0] rfl)
set_option maxHeartbeats 4000000 in
set_option maxRecDepth 100000 in
theorem ct_Model_typeAt {l : Launch} {D : va_G} {ad : Nat → Nat} {ca : Nat → ClassId} {ads : List Nat} (htr : l.stackTraces = false) (hok : xk_ok (kw_m ad ca) ads) {fu : Nat} {x0 : Int32} {u u' : xk_St} {r : Unit} (h : fm_Model_typeAt fu x0 u = some (r, u')) :
    ∀ sz, xk_Met l ⟨"ModuleHouseModel", "typeAt", "(I)V"⟩ (Cond.code ⟨"ModuleHouseModel", "typeAt", "(I)V"⟩ prog_14_method_45_code 7 none :: xk_gd) rm_Model_typeAt (xk_Pc D kx_cl (kx_ty ca) (kw_m ad ca) ads xk_F sz [.ref (ad 0), .int x0] u) (xk_Qc D kx_cl (kw_m ad ca) ads (xo_v (.inl r)) u') (xk_A ads sz) := by
  unfold fm_Model_typeAt at h
  refine xk_con (by decide) htr hok (Nat.le_of_ble_eq_true rfl) (fun p e s m below meth c ls C hne hl hP => ?_)
  have hx := C.1.1
  have hb := C.1.2.1
  have hS : va_S (xk_A ads s.heap.size) s.heap s.heap [] := va_S.rf
  have hl : lv_has ls 7 [(0, .ref (ad 0)), (1, .int x0)] := hl
  refine lv_aload_n hx hb dd_Model_typeAt_0 rfl (lv_at hl 0 rfl) ?_
  obtain ⟨a1, u2, hq, h⟩ := xp_seq h
  refine xk_goesI (xr_V (As := []) (rest := []) C hP hS (ct_Model_one htr hok hq) kq_Model_178 0 11 rfl rfl ⟨rfl, rfl, Nat.le_of_ble_eq_true rfl, Nat.le_of_ble_eq_true rfl⟩ ⟨Nat.le_of_ble_eq_true rfl, Nat.le_of_ble_eq_true rfl⟩ hl.1 rfl rfl (Nat.le_of_ble_eq_true rfl) dd_Model_typeAt_1) hS (fun H locs hP hS => ?_)
  clear hq
  refine lv_istore_n (lv' := [(2, .int a1), (0, .ref (ad 0)), (1, .int x0)]) hx hb dd_Model_typeAt_4 rfl hl (by decide) rfl (fun ls hl => ?_)
  refine lv_aload_n hx hb dd_Model_typeAt_5 rfl (lv_at hl 1 rfl) ?_
  refine gf_m_Model_0_kinds C hP dd_Model_typeAt_6 ?_
  refine lv_iload_n hx hb dd_Model_typeAt_9 rfl (lv_at hl 2 rfl) ?_
  refine lv_iload_n hx hb dd_Model_typeAt_10 rfl (lv_at hl 0 rfl) ?_
  refine lv_bipush (v := 96) hx hb dd_Model_typeAt_11 (by decide) ?_
  refine lv_icmp_ne (tgt := 20) hx hb dd_Model_typeAt_13 (by decide) (fun hc => ?_) (fun hc => ?_)
  · have h := xp_f hc h
    refine lv_iload_n hx hb dd_Model_typeAt_20 rfl (lv_at hl 0 rfl) ?_
    refine lv_bipush (v := 95) hx hb dd_Model_typeAt_21 (by decide) ?_
    refine lv_icmp_ne (tgt := 30) hx hb dd_Model_typeAt_23 (by decide) (fun hc => ?_) (fun hc => ?_)
    · have h := xp_f hc h
      refine lv_iconst (v := 2) hx hb dd_Model_typeAt_30 (by decide) ?_
      exact wj_Model_typeAt_31 htr C hne h hP hS (lv_sub hl [1, 2, 0] rfl)
    · have h := xp_t hc h
      refine lv_iconst (v := 1) hx hb dd_Model_typeAt_26 (by decide) ?_
      refine lv_goto (tgt := 31) hx hb dd_Model_typeAt_27 (by decide) ?_
      exact wj_Model_typeAt_31 htr C hne h hP hS (lv_sub hl [1, 2, 0] rfl)
  · have h := xp_t hc h
    refine lv_iconst (v := 0) hx hb dd_Model_typeAt_16 (by decide) ?_
    refine lv_goto (tgt := 31) hx hb dd_Model_typeAt_17 (by decide) ?_
    exact wj_Model_typeAt_31 htr C hne h hP hS (lv_sub hl [1, 2, 0] rfl)
abbrev rm_Model_takeDown : Room := { frames := 10, cells := 1, slots := 6, locals := 205 }
noncomputable def jb_Model_takeDown_188 (fu : Nat) (u : xk_St) : Option (Unit × xk_St) :=
  if (u.1 7) = (0 : Int32) then ((xs_seq (fm_Model_dataRow fu u) fun _ u8 => some ((()), u8))) else (some ((()), u))
noncomputable def jb_Model_takeDown_177 (fu : Nat) (u : xk_St) : Option (Unit × xk_St) :=
  if (u.1 7) = (0 : Int32) then ((xs_seq (fm_Model_bodyRow fu u) fun _ u9 => jb_Model_takeDown_188 fu u9)) else (jb_Model_takeDown_188 fu u)
noncomputable def jb_Model_takeDown_166 (fu : Nat) (u : xk_St) : Option (Unit × xk_St) :=
  if (u.1 7) = (0 : Int32) then ((xs_seq (fm_Model_elementRow fu u) fun _ u10 => jb_Model_takeDown_177 fu u10)) else (jb_Model_takeDown_177 fu u)
noncomputable def jb_Model_takeDown_155 (fu : Nat) (u : xk_St) : Option (Unit × xk_St) :=
  if (u.1 7) = (0 : Int32) then ((xs_seq (fm_Model_firstFunction fu u) fun _ u11 => jb_Model_takeDown_166 fu u11)) else (jb_Model_takeDown_166 fu u)
noncomputable def jb_Model_takeDown_144 (fu : Nat) (u : xk_St) : Option (Unit × xk_St) :=
  if (u.1 7) = (0 : Int32) then ((xs_seq (fm_Model_exportRow fu u) fun _ u12 => jb_Model_takeDown_155 fu u12)) else (jb_Model_takeDown_155 fu u)
noncomputable def jb_Model_takeDown_133 (fu : Nat) (u : xk_St) : Option (Unit × xk_St) :=
  if (u.1 7) = (0 : Int32) then ((xs_seq (fm_Model_globalRow fu u) fun _ u13 => jb_Model_takeDown_144 fu u13)) else (jb_Model_takeDown_144 fu u)
noncomputable def jb_Model_takeDown_122 (fu : Nat) (u : xk_St) : Option (Unit × xk_St) :=
  if (u.1 7) = (0 : Int32) then ((xs_seq (fm_Model_tableAndMemory fu u) fun _ u14 => jb_Model_takeDown_133 fu u14)) else (jb_Model_takeDown_133 fu u)
noncomputable def jb_Model_takeDown_95 (fu : Nat) (k64 : Int32 → Int32 → xk_St → Option (Unit × xk_St)) (b1 : Int32) (b2 : Int32) (b3 : Int64) (s0 : Int32) (u : xk_St) : Option (Unit × xk_St) :=
  (if s0 = 0 ∨ s0 = 1 then ( xs_let (xs_I u 7 s0) fun u19 => if b2 < 0 ∨ 64 ≤ b2.toNatClampNeg then none else xs_let (xs_A u19 9 b2.toNatClampNeg (b3.toInt32)) fun u20 => xs_let (xs_I u20 13 ((u20.1 13) + (1 : Int32))) fun u21 => xs_let (b2 + (1 : Int32)) fun a22 => k64 b1 a22 u21  ) else none)
noncomputable def jb_Model_takeDown_64 (fu : Nat) : Nat → Int32 → Int32 → xk_St → Option (Unit × xk_St)
  | 0 => fun _ _ _ => none
  | n + 1 => fun b1 b2 u =>
    xs_let (jb_Model_takeDown_64 fu  n) fun k64 =>
    if b1 ≤ b2 then (jb_Model_takeDown_122 fu u) else (if (u.1 7) = (0 : Int32) then ((xs_seq (fm_Model_number fu u) fun a15 u16 => xs_seq (fm_Model_isFunctionType a15 u16) fun a17 u18 => if a17 = (0 : Int32) then (jb_Model_takeDown_95 fu k64 b1 b2 a15 (1 : Int32) u18) else (jb_Model_takeDown_95 fu k64 b1 b2 a15 (0 : Int32) u18))) else (jb_Model_takeDown_122 fu u))
noncomputable def jb_Model_takeDown_51 (fu : Nat) (u : xk_St) : Option (Unit × xk_St) :=
  (xs_let (xs_I u 13 (0 : Int32)) fun u5 => xs_seq (fm_Model_rowOf fu (3 : Int32) u5) fun a6 u7 => jb_Model_takeDown_64 fu fu a6 (0 : Int32) u7)
noncomputable def jb_Model_takeDown_18 (fu : Nat) : Nat → Int32 → Int32 → xk_St → Option (Unit × xk_St)
  | 0 => fun _ _ _ => none
  | n + 1 => fun b1 b2 u =>
    xs_let (jb_Model_takeDown_18 fu  n) fun k18 =>
    if b1 ≤ b2 then (jb_Model_takeDown_51 fu u) else (if (u.1 7) = (0 : Int32) then ((xs_seq (fm_Model_typeAt fu b2 u) fun _ u23 => xs_let (xs_I u23 12 ((u23.1 12) + (1 : Int32))) fun u24 => xs_let (b2 + (1 : Int32)) fun a25 => k18 b1 a25 u24)) else (jb_Model_takeDown_51 fu u))
noncomputable def fm_Model_takeDown (fu : Nat) (u : xk_St) : Option (Unit × xk_St) :=
  (xs_let (xs_I u 7 (0 : Int32)) fun u1 => xs_let (xs_I u1 12 (0 : Int32)) fun u2 => xs_seq (fm_Model_rowOf fu (1 : Int32) u2) fun a3 u4 => jb_Model_takeDown_18 fu fu a3 (0 : Int32) u4)
set_option maxHeartbeats 4000000 in
set_option maxRecDepth 100000 in
theorem wj_Model_takeDown_188 {p : Program} {l : Launch} {e : Env} {s : State} {m : MethodId} {args : Array Value} {below : List Frame} {meth : Method} {c : Code} {D : va_G} {ad : Nat → Nat} {ca : Nat → ClassId} {ads : List Nat} {fu : Nat} (htr : l.stackTraces = false) (C : xk_C D kx_cl (kx_ty ca) (kw_m ad ca) ads "ModuleHouseModel" prog_14_method_48_code 5 none p e s m args meth c) (hne : c.exceptionTable.isEmpty = true) {u' : xk_St} {r : Unit} {u : xk_St} {H : Heap} {locs : List Loc} {ls : Array Slot} (h : jb_Model_takeDown_188 fu   u = some (r, u')) (hP : va_P D kx_cl (kw_m ad ca u) H) (hS : va_S (xk_A ads s.heap.size) s.heap H locs) (hl : lv_has ls 5 [(0, .ref (ad 0))]) : W p l e rm_Model_takeDown s m args below meth c H locs 0 0 (xk_MQ below (xk_Qc D kx_cl (kw_m ad ca) ads (xo_v (.inl r)) u') args s (xk_A ads s.heap.size)) (F0 m 188 ls []) := by
  have hx := C.1.1
  have hb := C.1.2.1
  have hok := C.2.2.1
  unfold jb_Model_takeDown_188 at h
  refine lv_aload_n hx hb dd_Model_takeDown_188 rfl (lv_at hl 0 rfl) ?_
  refine gf_m_Model_0_wrong C hP dd_Model_takeDown_189 ?_
  refine lv_if_ne (tgt := 199) hx hb dd_Model_takeDown_192 (by decide) (fun hc => ?_) (fun hc => ?_)
  · have h := xp_f hc h
    obtain ⟨rfl, rfl⟩ := xp_r h
    exact xr_vret C hP hS dd_Model_takeDown_199
  · have h := xp_t hc h
    refine lv_aload_n hx hb dd_Model_takeDown_195 rfl (lv_at hl 0 rfl) ?_
    obtain ⟨rx, u8, hq, h⟩ := xp_seq h
    refine xk_goesV (xr_V (As := []) (rest := []) C hP hS (ct_Model_dataRow htr hok hq) kq_Model_448 0 11 rfl rfl ⟨rfl, rfl, Nat.le_of_ble_eq_true rfl, Nat.le_of_ble_eq_true rfl⟩ ⟨Nat.le_of_ble_eq_true rfl, Nat.le_of_ble_eq_true rfl⟩ hl.1 rfl rfl (Nat.le_of_ble_eq_true rfl) dd_Model_takeDown_196) hS (fun H locs hP hS => ?_)
    clear hq
    obtain ⟨rfl, rfl⟩ := xp_r h
    exact xr_vret C hP hS dd_Model_takeDown_199
set_option maxHeartbeats 4000000 in
set_option maxRecDepth 100000 in
theorem wj_Model_takeDown_177 {p : Program} {l : Launch} {e : Env} {s : State} {m : MethodId} {args : Array Value} {below : List Frame} {meth : Method} {c : Code} {D : va_G} {ad : Nat → Nat} {ca : Nat → ClassId} {ads : List Nat} {fu : Nat} (htr : l.stackTraces = false) (C : xk_C D kx_cl (kx_ty ca) (kw_m ad ca) ads "ModuleHouseModel" prog_14_method_48_code 5 none p e s m args meth c) (hne : c.exceptionTable.isEmpty = true) {u' : xk_St} {r : Unit} {u : xk_St} {H : Heap} {locs : List Loc} {ls : Array Slot} (h : jb_Model_takeDown_177 fu   u = some (r, u')) (hP : va_P D kx_cl (kw_m ad ca u) H) (hS : va_S (xk_A ads s.heap.size) s.heap H locs) (hl : lv_has ls 5 [(0, .ref (ad 0))]) : W p l e rm_Model_takeDown s m args below meth c H locs 0 0 (xk_MQ below (xk_Qc D kx_cl (kw_m ad ca) ads (xo_v (.inl r)) u') args s (xk_A ads s.heap.size)) (F0 m 177 ls []) := by
  have hx := C.1.1
  have hb := C.1.2.1
  have hok := C.2.2.1
  unfold jb_Model_takeDown_177 at h
  refine lv_aload_n hx hb dd_Model_takeDown_177 rfl (lv_at hl 0 rfl) ?_
  refine gf_m_Model_0_wrong C hP dd_Model_takeDown_178 ?_
  refine lv_if_ne (tgt := 188) hx hb dd_Model_takeDown_181 (by decide) (fun hc => ?_) (fun hc => ?_)
  · have h := xp_f hc h
    exact wj_Model_takeDown_188 htr C hne h hP hS (lv_sub hl [0] rfl)
  · have h := xp_t hc h
    refine lv_aload_n hx hb dd_Model_takeDown_184 rfl (lv_at hl 0 rfl) ?_
    obtain ⟨rx, u9, hq, h⟩ := xp_seq h
    refine xk_goesV (xr_V (As := []) (rest := []) C hP hS (ct_Model_bodyRow htr hok hq) kq_Model_445 0 11 rfl rfl ⟨rfl, rfl, Nat.le_of_ble_eq_true rfl, Nat.le_of_ble_eq_true rfl⟩ ⟨Nat.le_of_ble_eq_true rfl, Nat.le_of_ble_eq_true rfl⟩ hl.1 rfl rfl (Nat.le_of_ble_eq_true rfl) dd_Model_takeDown_185) hS (fun H locs hP hS => ?_)
    clear hq
    exact wj_Model_takeDown_188 htr C hne h hP hS (lv_sub hl [0] rfl)
set_option maxHeartbeats 4000000 in
set_option maxRecDepth 100000 in
theorem wj_Model_takeDown_166 {p : Program} {l : Launch} {e : Env} {s : State} {m : MethodId} {args : Array Value} {below : List Frame} {meth : Method} {c : Code} {D : va_G} {ad : Nat → Nat} {ca : Nat → ClassId} {ads : List Nat} {fu : Nat} (htr : l.stackTraces = false) (C : xk_C D kx_cl (kx_ty ca) (kw_m ad ca) ads "ModuleHouseModel" prog_14_method_48_code 5 none p e s m args meth c) (hne : c.exceptionTable.isEmpty = true) {u' : xk_St} {r : Unit} {u : xk_St} {H : Heap} {locs : List Loc} {ls : Array Slot} (h : jb_Model_takeDown_166 fu   u = some (r, u')) (hP : va_P D kx_cl (kw_m ad ca u) H) (hS : va_S (xk_A ads s.heap.size) s.heap H locs) (hl : lv_has ls 5 [(0, .ref (ad 0))]) : W p l e rm_Model_takeDown s m args below meth c H locs 0 0 (xk_MQ below (xk_Qc D kx_cl (kw_m ad ca) ads (xo_v (.inl r)) u') args s (xk_A ads s.heap.size)) (F0 m 166 ls []) := by
  have hx := C.1.1
  have hb := C.1.2.1
  have hok := C.2.2.1
  unfold jb_Model_takeDown_166 at h
  refine lv_aload_n hx hb dd_Model_takeDown_166 rfl (lv_at hl 0 rfl) ?_
  refine gf_m_Model_0_wrong C hP dd_Model_takeDown_167 ?_
  refine lv_if_ne (tgt := 177) hx hb dd_Model_takeDown_170 (by decide) (fun hc => ?_) (fun hc => ?_)
  · have h := xp_f hc h
    exact wj_Model_takeDown_177 htr C hne h hP hS (lv_sub hl [0] rfl)
  · have h := xp_t hc h
    refine lv_aload_n hx hb dd_Model_takeDown_173 rfl (lv_at hl 0 rfl) ?_
    obtain ⟨rx, u10, hq, h⟩ := xp_seq h
    refine xk_goesV (xr_V (As := []) (rest := []) C hP hS (ct_Model_elementRow htr hok hq) kq_Model_442 0 11 rfl rfl ⟨rfl, rfl, Nat.le_of_ble_eq_true rfl, Nat.le_of_ble_eq_true rfl⟩ ⟨Nat.le_of_ble_eq_true rfl, Nat.le_of_ble_eq_true rfl⟩ hl.1 rfl rfl (Nat.le_of_ble_eq_true rfl) dd_Model_takeDown_174) hS (fun H locs hP hS => ?_)
    clear hq
    exact wj_Model_takeDown_177 htr C hne h hP hS (lv_sub hl [0] rfl)
set_option maxHeartbeats 4000000 in
set_option maxRecDepth 100000 in
theorem wj_Model_takeDown_155 {p : Program} {l : Launch} {e : Env} {s : State} {m : MethodId} {args : Array Value} {below : List Frame} {meth : Method} {c : Code} {D : va_G} {ad : Nat → Nat} {ca : Nat → ClassId} {ads : List Nat} {fu : Nat} (htr : l.stackTraces = false) (C : xk_C D kx_cl (kx_ty ca) (kw_m ad ca) ads "ModuleHouseModel" prog_14_method_48_code 5 none p e s m args meth c) (hne : c.exceptionTable.isEmpty = true) {u' : xk_St} {r : Unit} {u : xk_St} {H : Heap} {locs : List Loc} {ls : Array Slot} (h : jb_Model_takeDown_155 fu   u = some (r, u')) (hP : va_P D kx_cl (kw_m ad ca u) H) (hS : va_S (xk_A ads s.heap.size) s.heap H locs) (hl : lv_has ls 5 [(0, .ref (ad 0))]) : W p l e rm_Model_takeDown s m args below meth c H locs 0 0 (xk_MQ below (xk_Qc D kx_cl (kw_m ad ca) ads (xo_v (.inl r)) u') args s (xk_A ads s.heap.size)) (F0 m 155 ls []) := by
  have hx := C.1.1
  have hb := C.1.2.1
  have hok := C.2.2.1
  unfold jb_Model_takeDown_155 at h
  refine lv_aload_n hx hb dd_Model_takeDown_155 rfl (lv_at hl 0 rfl) ?_
  refine gf_m_Model_0_wrong C hP dd_Model_takeDown_156 ?_
  refine lv_if_ne (tgt := 166) hx hb dd_Model_takeDown_159 (by decide) (fun hc => ?_) (fun hc => ?_)
  · have h := xp_f hc h
    exact wj_Model_takeDown_166 htr C hne h hP hS (lv_sub hl [0] rfl)
  · have h := xp_t hc h
    refine lv_aload_n hx hb dd_Model_takeDown_162 rfl (lv_at hl 0 rfl) ?_
    obtain ⟨rx, u11, hq, h⟩ := xp_seq h
    refine xk_goesV (xr_V (As := []) (rest := []) C hP hS (ct_Model_firstFunction htr hok hq) kq_Model_439 0 11 rfl rfl ⟨rfl, rfl, Nat.le_of_ble_eq_true rfl, Nat.le_of_ble_eq_true rfl⟩ ⟨Nat.le_of_ble_eq_true rfl, Nat.le_of_ble_eq_true rfl⟩ hl.1 rfl rfl (Nat.le_of_ble_eq_true rfl) dd_Model_takeDown_163) hS (fun H locs hP hS => ?_)
    clear hq
    exact wj_Model_takeDown_166 htr C hne h hP hS (lv_sub hl [0] rfl)
set_option maxHeartbeats 4000000 in
set_option maxRecDepth 100000 in
theorem wj_Model_takeDown_144 {p : Program} {l : Launch} {e : Env} {s : State} {m : MethodId} {args : Array Value} {below : List Frame} {meth : Method} {c : Code} {D : va_G} {ad : Nat → Nat} {ca : Nat → ClassId} {ads : List Nat} {fu : Nat} (htr : l.stackTraces = false) (C : xk_C D kx_cl (kx_ty ca) (kw_m ad ca) ads "ModuleHouseModel" prog_14_method_48_code 5 none p e s m args meth c) (hne : c.exceptionTable.isEmpty = true) {u' : xk_St} {r : Unit} {u : xk_St} {H : Heap} {locs : List Loc} {ls : Array Slot} (h : jb_Model_takeDown_144 fu   u = some (r, u')) (hP : va_P D kx_cl (kw_m ad ca u) H) (hS : va_S (xk_A ads s.heap.size) s.heap H locs) (hl : lv_has ls 5 [(0, .ref (ad 0))]) : W p l e rm_Model_takeDown s m args below meth c H locs 0 0 (xk_MQ below (xk_Qc D kx_cl (kw_m ad ca) ads (xo_v (.inl r)) u') args s (xk_A ads s.heap.size)) (F0 m 144 ls []) := by
  have hx := C.1.1
  have hb := C.1.2.1
  have hok := C.2.2.1
  unfold jb_Model_takeDown_144 at h
  refine lv_aload_n hx hb dd_Model_takeDown_144 rfl (lv_at hl 0 rfl) ?_
  refine gf_m_Model_0_wrong C hP dd_Model_takeDown_145 ?_
  refine lv_if_ne (tgt := 155) hx hb dd_Model_takeDown_148 (by decide) (fun hc => ?_) (fun hc => ?_)
  · have h := xp_f hc h
    exact wj_Model_takeDown_155 htr C hne h hP hS (lv_sub hl [0] rfl)
  · have h := xp_t hc h
    refine lv_aload_n hx hb dd_Model_takeDown_151 rfl (lv_at hl 0 rfl) ?_
    obtain ⟨rx, u12, hq, h⟩ := xp_seq h
    refine xk_goesV (xr_V (As := []) (rest := []) C hP hS (ct_Model_exportRow htr hok hq) kq_Model_436 0 11 rfl rfl ⟨rfl, rfl, Nat.le_of_ble_eq_true rfl, Nat.le_of_ble_eq_true rfl⟩ ⟨Nat.le_of_ble_eq_true rfl, Nat.le_of_ble_eq_true rfl⟩ hl.1 rfl rfl (Nat.le_of_ble_eq_true rfl) dd_Model_takeDown_152) hS (fun H locs hP hS => ?_)
    clear hq
    exact wj_Model_takeDown_155 htr C hne h hP hS (lv_sub hl [0] rfl)
set_option maxHeartbeats 4000000 in
set_option maxRecDepth 100000 in
theorem wj_Model_takeDown_133 {p : Program} {l : Launch} {e : Env} {s : State} {m : MethodId} {args : Array Value} {below : List Frame} {meth : Method} {c : Code} {D : va_G} {ad : Nat → Nat} {ca : Nat → ClassId} {ads : List Nat} {fu : Nat} (htr : l.stackTraces = false) (C : xk_C D kx_cl (kx_ty ca) (kw_m ad ca) ads "ModuleHouseModel" prog_14_method_48_code 5 none p e s m args meth c) (hne : c.exceptionTable.isEmpty = true) {u' : xk_St} {r : Unit} {u : xk_St} {H : Heap} {locs : List Loc} {ls : Array Slot} (h : jb_Model_takeDown_133 fu   u = some (r, u')) (hP : va_P D kx_cl (kw_m ad ca u) H) (hS : va_S (xk_A ads s.heap.size) s.heap H locs) (hl : lv_has ls 5 [(0, .ref (ad 0))]) : W p l e rm_Model_takeDown s m args below meth c H locs 0 0 (xk_MQ below (xk_Qc D kx_cl (kw_m ad ca) ads (xo_v (.inl r)) u') args s (xk_A ads s.heap.size)) (F0 m 133 ls []) := by
  have hx := C.1.1
  have hb := C.1.2.1
  have hok := C.2.2.1
  unfold jb_Model_takeDown_133 at h
  refine lv_aload_n hx hb dd_Model_takeDown_133 rfl (lv_at hl 0 rfl) ?_
  refine gf_m_Model_0_wrong C hP dd_Model_takeDown_134 ?_
  refine lv_if_ne (tgt := 144) hx hb dd_Model_takeDown_137 (by decide) (fun hc => ?_) (fun hc => ?_)
  · have h := xp_f hc h
    exact wj_Model_takeDown_144 htr C hne h hP hS (lv_sub hl [0] rfl)
  · have h := xp_t hc h
    refine lv_aload_n hx hb dd_Model_takeDown_140 rfl (lv_at hl 0 rfl) ?_
    obtain ⟨rx, u13, hq, h⟩ := xp_seq h
    refine xk_goesV (xr_V (As := []) (rest := []) C hP hS (ct_Model_globalRow htr hok hq) kq_Model_433 0 11 rfl rfl ⟨rfl, rfl, Nat.le_of_ble_eq_true rfl, Nat.le_of_ble_eq_true rfl⟩ ⟨Nat.le_of_ble_eq_true rfl, Nat.le_of_ble_eq_true rfl⟩ hl.1 rfl rfl (Nat.le_of_ble_eq_true rfl) dd_Model_takeDown_141) hS (fun H locs hP hS => ?_)
    clear hq
    exact wj_Model_takeDown_144 htr C hne h hP hS (lv_sub hl [0] rfl)
set_option maxHeartbeats 4000000 in
set_option maxRecDepth 100000 in
theorem wj_Model_takeDown_122 {p : Program} {l : Launch} {e : Env} {s : State} {m : MethodId} {args : Array Value} {below : List Frame} {meth : Method} {c : Code} {D : va_G} {ad : Nat → Nat} {ca : Nat → ClassId} {ads : List Nat} {fu : Nat} (htr : l.stackTraces = false) (C : xk_C D kx_cl (kx_ty ca) (kw_m ad ca) ads "ModuleHouseModel" prog_14_method_48_code 5 none p e s m args meth c) (hne : c.exceptionTable.isEmpty = true) {u' : xk_St} {r : Unit} {u : xk_St} {H : Heap} {locs : List Loc} {ls : Array Slot} (h : jb_Model_takeDown_122 fu   u = some (r, u')) (hP : va_P D kx_cl (kw_m ad ca u) H) (hS : va_S (xk_A ads s.heap.size) s.heap H locs) (hl : lv_has ls 5 [(0, .ref (ad 0))]) : W p l e rm_Model_takeDown s m args below meth c H locs 0 0 (xk_MQ below (xk_Qc D kx_cl (kw_m ad ca) ads (xo_v (.inl r)) u') args s (xk_A ads s.heap.size)) (F0 m 122 ls []) := by
  have hx := C.1.1
  have hb := C.1.2.1
  have hok := C.2.2.1
  unfold jb_Model_takeDown_122 at h
  refine lv_aload_n hx hb dd_Model_takeDown_122 rfl (lv_at hl 0 rfl) ?_
  refine gf_m_Model_0_wrong C hP dd_Model_takeDown_123 ?_
  refine lv_if_ne (tgt := 133) hx hb dd_Model_takeDown_126 (by decide) (fun hc => ?_) (fun hc => ?_)
  · have h := xp_f hc h
    exact wj_Model_takeDown_133 htr C hne h hP hS (lv_sub hl [0] rfl)
  · have h := xp_t hc h
    refine lv_aload_n hx hb dd_Model_takeDown_129 rfl (lv_at hl 0 rfl) ?_
    obtain ⟨rx, u14, hq, h⟩ := xp_seq h
    refine xk_goesV (xr_V (As := []) (rest := []) C hP hS (ct_Model_tableAndMemory htr hok hq) kq_Model_430 0 11 rfl rfl ⟨rfl, rfl, Nat.le_of_ble_eq_true rfl, Nat.le_of_ble_eq_true rfl⟩ ⟨Nat.le_of_ble_eq_true rfl, Nat.le_of_ble_eq_true rfl⟩ hl.1 rfl rfl (Nat.le_of_ble_eq_true rfl) dd_Model_takeDown_130) hS (fun H locs hP hS => ?_)
    clear hq
    exact wj_Model_takeDown_133 htr C hne h hP hS (lv_sub hl [0] rfl)
set_option maxHeartbeats 4000000 in
set_option maxRecDepth 100000 in
theorem wj_Model_takeDown_95 {p : Program} {l : Launch} {e : Env} {s : State} {m : MethodId} {args : Array Value} {below : List Frame} {meth : Method} {c : Code} {D : va_G} {ad : Nat → Nat} {ca : Nat → ClassId} {ads : List Nat} {fu : Nat} (htr : l.stackTraces = false) (C : xk_C D kx_cl (kx_ty ca) (kw_m ad ca) ads "ModuleHouseModel" prog_14_method_48_code 5 none p e s m args meth c) (hne : c.exceptionTable.isEmpty = true) {u' : xk_St} {r : Unit} {k64 : Int32 → Int32 → xk_St → Option (Unit × xk_St)} (hk64 : ∀ (c0 : Int32) (c1 : Int32) (u : xk_St) (H : Heap) (locs : List Loc) (ls : Array Slot), k64 c0 c1 u = some (r, u') → va_P D kx_cl (kw_m ad ca u) H → va_S (xk_A ads s.heap.size) s.heap H locs → lv_has ls 5 [(0, .ref (ad 0)), (1, .int c0), (2, .int c1)] → W p l e rm_Model_takeDown s m args below meth c H locs 0 0 (xk_MQ below (xk_Qc D kx_cl (kw_m ad ca) ads (xo_v (.inl r)) u') args s (xk_A ads s.heap.size)) (F0 m 64 ls [])) {b1 : Int32} {b2 : Int32} {b3 : Int64} {s0 : Int32} {u : xk_St} {H : Heap} {locs : List Loc} {ls : Array Slot} (h : jb_Model_takeDown_95 fu k64 b1 b2 b3 s0 u = some (r, u')) (hP : va_P D kx_cl (kw_m ad ca u) H) (hS : va_S (xk_A ads s.heap.size) s.heap H locs) (hl : lv_has ls 5 [(0, .ref (ad 0)), (1, .int b1), (2, .int b2), (3, .long b3)]) : W p l e rm_Model_takeDown s m args below meth c H locs 0 0 (xk_MQ below (xk_Qc D kx_cl (kw_m ad ca) ads (xo_v (.inl r)) u') args s (xk_A ads s.heap.size)) (F0 m 95 ls [.int s0, .ref (ad 0)]) := by
  have hx := C.1.1
  have hb := C.1.2.1
  have hok := C.2.2.1
  unfold jb_Model_takeDown_95 at h
  obtain ⟨hz, h⟩ := xp_p h
  refine pf_m_Model_0_wrong C hP hS hz dd_Model_takeDown_95 (fun H locs hP hS => ?_)
  obtain ⟨u19, eu19, h⟩ := xp_let h
  rw [← eu19] at hP
  refine lv_aload_n hx hb dd_Model_takeDown_98 rfl (lv_at hl 0 rfl) ?_
  refine gf_m_Model_0_functionType C hP dd_Model_takeDown_99 ?_
  refine lv_iload_n hx hb dd_Model_takeDown_102 rfl (lv_at hl 2 rfl) ?_
  refine lv_lload_n hx hb dd_Model_takeDown_103 rfl (lv_at hl 3 rfl) ?_
  refine lv_l2i hx hb dd_Model_takeDown_104 rfl ?_
  obtain ⟨hi, h⟩ := xp_g h
  refine as_m_11 C hP hS hi dd_Model_takeDown_105 (fun H locs hP hS => ?_)
  obtain ⟨u20, eu20, h⟩ := xp_let h
  rw [← eu20] at hP
  refine lv_aload_n hx hb dd_Model_takeDown_106 rfl (lv_at hl 0 rfl) ?_
  refine lv_dup hx hb dd_Model_takeDown_107 rfl ?_
  refine gf_m_Model_0_functions C hP dd_Model_takeDown_108 ?_
  refine lv_iconst (v := 1) hx hb dd_Model_takeDown_111 (by decide) ?_
  refine lv_iadd hx hb dd_Model_takeDown_112 ?_
  refine pf_m_Model_0_functions C hP hS dd_Model_takeDown_113 (fun H locs hP hS => ?_)
  obtain ⟨u21, eu21, h⟩ := xp_let h
  rw [← eu21] at hP
  obtain ⟨a22, ea22, h⟩ := xp_let h
  refine lv_iinc (v := a22) (lv' := [(2, .int a22), (0, .ref (ad 0)), (1, .int b1), (3, .long b3)]) hx hb dd_Model_takeDown_116 hl (k := 2) rfl (by rw [ea22]; first | rfl | decide) (by decide) rfl (fun ls hl => ?_)
  refine lv_goto (tgt := 64) hx hb dd_Model_takeDown_119 (by decide) ?_
  exact hk64 b1 a22 u21 _ _ _ h hP hS (lv_sub hl [1, 2, 0] rfl)
set_option maxHeartbeats 4000000 in
set_option maxRecDepth 100000 in
theorem wj_Model_takeDown_64 {p : Program} {l : Launch} {e : Env} {s : State} {m : MethodId} {args : Array Value} {below : List Frame} {meth : Method} {c : Code} {D : va_G} {ad : Nat → Nat} {ca : Nat → ClassId} {ads : List Nat} {fu : Nat} (htr : l.stackTraces = false) (C : xk_C D kx_cl (kx_ty ca) (kw_m ad ca) ads "ModuleHouseModel" prog_14_method_48_code 5 none p e s m args meth c) (hne : c.exceptionTable.isEmpty = true) {u' : xk_St} {r : Unit} : ∀ {n : Nat} {b1 : Int32} {b2 : Int32} {u : xk_St} {H : Heap} {locs : List Loc} {ls : Array Slot} (h : jb_Model_takeDown_64 fu  n b1 b2 u = some (r, u')) (hP : va_P D kx_cl (kw_m ad ca u) H) (hS : va_S (xk_A ads s.heap.size) s.heap H locs) (hl : lv_has ls 5 [(0, .ref (ad 0)), (1, .int b1), (2, .int b2)]), W p l e rm_Model_takeDown s m args below meth c H locs 0 0 (xk_MQ below (xk_Qc D kx_cl (kw_m ad ca) ads (xo_v (.inl r)) u') args s (xk_A ads s.heap.size)) (F0 m 64 ls []) := by
  intro n
  have hx := C.1.1
  have hb := C.1.2.1
  have hok := C.2.2.1
  induction n with
  | zero =>
    intro _ _ u H locs ls h
    have h : none = some (r, u') := h
    cases h
  | succ n ih =>
    intro b1 b2 u H locs ls h hP hS hl
    unfold jb_Model_takeDown_64 at h
    obtain ⟨k64, ek64, h⟩ := xp_let h
    have hk64 : ∀ (c0 : Int32) (c1 : Int32) (u : xk_St) (H : Heap) (locs : List Loc) (ls : Array Slot), k64 c0 c1 u = some (r, u') → va_P D kx_cl (kw_m ad ca u) H → va_S (xk_A ads s.heap.size) s.heap H locs → lv_has ls 5 [(0, .ref (ad 0)), (1, .int c0), (2, .int c1)] → W p l e rm_Model_takeDown s m args below meth c H locs 0 0 (xk_MQ below (xk_Qc D kx_cl (kw_m ad ca) ads (xo_v (.inl r)) u') args s (xk_A ads s.heap.size)) (F0 m 64 ls []) := by
      intro c0 c1 u H locs ls h hP hS hl
      subst ek64
      exact ih h hP hS hl
    clear ih ek64
    refine lv_iload_n hx hb dd_Model_takeDown_64 rfl (lv_at hl 2 rfl) ?_
    refine lv_iload_n hx hb dd_Model_takeDown_65 rfl (lv_at hl 1 rfl) ?_
    refine lv_icmp_ge (tgt := 122) hx hb dd_Model_takeDown_66 (by decide) (fun hc => ?_) (fun hc => ?_)
    · have h := xp_t hc h
      exact wj_Model_takeDown_122 htr C hne h hP hS (lv_sub hl [0] rfl)
    · have h := xp_f hc h
      refine lv_aload_n hx hb dd_Model_takeDown_69 rfl (lv_at hl 0 rfl) ?_
      refine gf_m_Model_0_wrong C hP dd_Model_takeDown_70 ?_
      refine lv_if_ne (tgt := 122) hx hb dd_Model_takeDown_73 (by decide) (fun hc => ?_) (fun hc => ?_)
      · have h := xp_f hc h
        exact wj_Model_takeDown_122 htr C hne h hP hS (lv_sub hl [0] rfl)
      · have h := xp_t hc h
        refine lv_aload_n hx hb dd_Model_takeDown_76 rfl (lv_at hl 0 rfl) ?_
        obtain ⟨a15, u16, hq, h⟩ := xp_seq h
        refine xk_goesL (xr_V (As := []) (rest := []) C hP hS (ct_Model_number htr hok hq) kq_Model_295 0 11 rfl rfl ⟨rfl, rfl, Nat.le_of_ble_eq_true rfl, Nat.le_of_ble_eq_true rfl⟩ ⟨Nat.le_of_ble_eq_true rfl, Nat.le_of_ble_eq_true rfl⟩ hl.1 rfl rfl (Nat.le_of_ble_eq_true rfl) dd_Model_takeDown_77) hS (fun H locs hP hS => ?_)
        clear hq
        refine lv_lstore_n (lv' := [(3, .long a15), (0, .ref (ad 0)), (1, .int b1), (2, .int b2)]) hx hb dd_Model_takeDown_80 rfl hl (by decide) rfl (fun ls hl => ?_)
        refine lv_aload_n hx hb dd_Model_takeDown_81 rfl (lv_at hl 1 rfl) ?_
        refine lv_aload_n hx hb dd_Model_takeDown_82 rfl (lv_at hl 1 rfl) ?_
        refine lv_lload_n hx hb dd_Model_takeDown_83 rfl (lv_at hl 0 rfl) ?_
        obtain ⟨a17, u18, hq, h⟩ := xp_seq h
        refine xk_goesI (xr_V (As := [.long a15]) (rest := [.ref (ad 0)]) C hP hS (ct_Model_isFunctionType htr hok hq) kq_Model_426 0 11 rfl rfl ⟨rfl, rfl, Nat.le_of_ble_eq_true rfl, Nat.le_of_ble_eq_true rfl⟩ ⟨Nat.le_of_ble_eq_true rfl, Nat.le_of_ble_eq_true rfl⟩ hl.1 rfl rfl (Nat.le_of_ble_eq_true rfl) dd_Model_takeDown_84) hS (fun H locs hP hS => ?_)
        clear hq
        refine lv_if_ne (tgt := 94) hx hb dd_Model_takeDown_87 (by decide) (fun hc => ?_) (fun hc => ?_)
        · have h := xp_f hc h
          refine lv_iconst (v := 0) hx hb dd_Model_takeDown_94 (by decide) ?_
          exact wj_Model_takeDown_95 htr C hne hk64 h hP hS (lv_sub hl [1, 2, 3, 0] rfl)
        · have h := xp_t hc h
          refine lv_iconst (v := 1) hx hb dd_Model_takeDown_90 (by decide) ?_
          refine lv_goto (tgt := 95) hx hb dd_Model_takeDown_91 (by decide) ?_
          exact wj_Model_takeDown_95 htr C hne hk64 h hP hS (lv_sub hl [1, 2, 3, 0] rfl)
set_option maxHeartbeats 4000000 in
set_option maxRecDepth 100000 in
theorem wj_Model_takeDown_51 {p : Program} {l : Launch} {e : Env} {s : State} {m : MethodId} {args : Array Value} {below : List Frame} {meth : Method} {c : Code} {D : va_G} {ad : Nat → Nat} {ca : Nat → ClassId} {ads : List Nat} {fu : Nat} (htr : l.stackTraces = false) (C : xk_C D kx_cl (kx_ty ca) (kw_m ad ca) ads "ModuleHouseModel" prog_14_method_48_code 5 none p e s m args meth c) (hne : c.exceptionTable.isEmpty = true) {u' : xk_St} {r : Unit} {u : xk_St} {H : Heap} {locs : List Loc} {ls : Array Slot} (h : jb_Model_takeDown_51 fu   u = some (r, u')) (hP : va_P D kx_cl (kw_m ad ca u) H) (hS : va_S (xk_A ads s.heap.size) s.heap H locs) (hl : lv_has ls 5 [(0, .ref (ad 0))]) : W p l e rm_Model_takeDown s m args below meth c H locs 0 0 (xk_MQ below (xk_Qc D kx_cl (kw_m ad ca) ads (xo_v (.inl r)) u') args s (xk_A ads s.heap.size)) (F0 m 51 ls []) := by
  have hx := C.1.1
  have hb := C.1.2.1
  have hok := C.2.2.1
  unfold jb_Model_takeDown_51 at h
  refine lv_aload_n hx hb dd_Model_takeDown_51 rfl (lv_at hl 0 rfl) ?_
  refine lv_iconst (v := 0) hx hb dd_Model_takeDown_52 (by decide) ?_
  refine pf_m_Model_0_functions C hP hS dd_Model_takeDown_53 (fun H locs hP hS => ?_)
  obtain ⟨u5, eu5, h⟩ := xp_let h
  rw [← eu5] at hP
  refine lv_aload_n hx hb dd_Model_takeDown_56 rfl (lv_at hl 0 rfl) ?_
  refine lv_iconst (v := 3) hx hb dd_Model_takeDown_57 (by decide) ?_
  obtain ⟨a6, u7, hq, h⟩ := xp_seq h
  refine xk_goesI (xr_V (As := [.int (3 : Int32)]) (rest := []) C hP hS (ct_Model_rowOf htr hok hq) kq_Model_417 0 11 rfl rfl ⟨rfl, rfl, Nat.le_of_ble_eq_true rfl, Nat.le_of_ble_eq_true rfl⟩ ⟨Nat.le_of_ble_eq_true rfl, Nat.le_of_ble_eq_true rfl⟩ hl.1 rfl rfl (Nat.le_of_ble_eq_true rfl) dd_Model_takeDown_58) hS (fun H locs hP hS => ?_)
  clear hq
  refine lv_istore_n (lv' := [(1, .int a6), (0, .ref (ad 0))]) hx hb dd_Model_takeDown_61 rfl hl (by decide) rfl (fun ls hl => ?_)
  refine lv_iconst (v := 0) hx hb dd_Model_takeDown_62 (by decide) ?_
  refine lv_istore_n (lv' := [(2, .int (0 : Int32)), (1, .int a6), (0, .ref (ad 0))]) hx hb dd_Model_takeDown_63 rfl hl (by decide) rfl (fun ls hl => ?_)
  exact wj_Model_takeDown_64 htr C hne h hP hS (lv_sub hl [2, 1, 0] rfl)
set_option maxHeartbeats 4000000 in
set_option maxRecDepth 100000 in
theorem wj_Model_takeDown_18 {p : Program} {l : Launch} {e : Env} {s : State} {m : MethodId} {args : Array Value} {below : List Frame} {meth : Method} {c : Code} {D : va_G} {ad : Nat → Nat} {ca : Nat → ClassId} {ads : List Nat} {fu : Nat} (htr : l.stackTraces = false) (C : xk_C D kx_cl (kx_ty ca) (kw_m ad ca) ads "ModuleHouseModel" prog_14_method_48_code 5 none p e s m args meth c) (hne : c.exceptionTable.isEmpty = true) {u' : xk_St} {r : Unit} : ∀ {n : Nat} {b1 : Int32} {b2 : Int32} {u : xk_St} {H : Heap} {locs : List Loc} {ls : Array Slot} (h : jb_Model_takeDown_18 fu  n b1 b2 u = some (r, u')) (hP : va_P D kx_cl (kw_m ad ca u) H) (hS : va_S (xk_A ads s.heap.size) s.heap H locs) (hl : lv_has ls 5 [(0, .ref (ad 0)), (1, .int b1), (2, .int b2)]), W p l e rm_Model_takeDown s m args below meth c H locs 0 0 (xk_MQ below (xk_Qc D kx_cl (kw_m ad ca) ads (xo_v (.inl r)) u') args s (xk_A ads s.heap.size)) (F0 m 18 ls []) := by
  intro n
  have hx := C.1.1
  have hb := C.1.2.1
  have hok := C.2.2.1
  induction n with
  | zero =>
    intro _ _ u H locs ls h
    have h : none = some (r, u') := h
    cases h
  | succ n ih =>
    intro b1 b2 u H locs ls h hP hS hl
    unfold jb_Model_takeDown_18 at h
    obtain ⟨k18, ek18, h⟩ := xp_let h
    have hk18 : ∀ (c0 : Int32) (c1 : Int32) (u : xk_St) (H : Heap) (locs : List Loc) (ls : Array Slot), k18 c0 c1 u = some (r, u') → va_P D kx_cl (kw_m ad ca u) H → va_S (xk_A ads s.heap.size) s.heap H locs → lv_has ls 5 [(0, .ref (ad 0)), (1, .int c0), (2, .int c1)] → W p l e rm_Model_takeDown s m args below meth c H locs 0 0 (xk_MQ below (xk_Qc D kx_cl (kw_m ad ca) ads (xo_v (.inl r)) u') args s (xk_A ads s.heap.size)) (F0 m 18 ls []) := by
      intro c0 c1 u H locs ls h hP hS hl
      subst ek18
      exact ih h hP hS hl
    clear ih ek18
    refine lv_iload_n hx hb dd_Model_takeDown_18 rfl (lv_at hl 2 rfl) ?_
    refine lv_iload_n hx hb dd_Model_takeDown_19 rfl (lv_at hl 1 rfl) ?_
    refine lv_icmp_ge (tgt := 51) hx hb dd_Model_takeDown_20 (by decide) (fun hc => ?_) (fun hc => ?_)
    · have h := xp_t hc h
      exact wj_Model_takeDown_51 htr C hne h hP hS (lv_sub hl [0] rfl)
    · have h := xp_f hc h
      refine lv_aload_n hx hb dd_Model_takeDown_23 rfl (lv_at hl 0 rfl) ?_
      refine gf_m_Model_0_wrong C hP dd_Model_takeDown_24 ?_
      refine lv_if_ne (tgt := 51) hx hb dd_Model_takeDown_27 (by decide) (fun hc => ?_) (fun hc => ?_)
      · have h := xp_f hc h
        exact wj_Model_takeDown_51 htr C hne h hP hS (lv_sub hl [0] rfl)
      · have h := xp_t hc h
        refine lv_aload_n hx hb dd_Model_takeDown_30 rfl (lv_at hl 0 rfl) ?_
        refine lv_iload_n hx hb dd_Model_takeDown_31 rfl (lv_at hl 2 rfl) ?_
        obtain ⟨rx, u23, hq, h⟩ := xp_seq h
        refine xk_goesV (xr_V (As := [.int b2]) (rest := []) C hP hS (ct_Model_typeAt htr hok hq) kq_Model_420 0 11 rfl rfl ⟨rfl, rfl, Nat.le_of_ble_eq_true rfl, Nat.le_of_ble_eq_true rfl⟩ ⟨Nat.le_of_ble_eq_true rfl, Nat.le_of_ble_eq_true rfl⟩ hl.1 rfl rfl (Nat.le_of_ble_eq_true rfl) dd_Model_takeDown_32) hS (fun H locs hP hS => ?_)
        clear hq
        refine lv_aload_n hx hb dd_Model_takeDown_35 rfl (lv_at hl 0 rfl) ?_
        refine lv_dup hx hb dd_Model_takeDown_36 rfl ?_
        refine gf_m_Model_0_types C hP dd_Model_takeDown_37 ?_
        refine lv_iconst (v := 1) hx hb dd_Model_takeDown_40 (by decide) ?_
        refine lv_iadd hx hb dd_Model_takeDown_41 ?_
        refine pf_m_Model_0_types C hP hS dd_Model_takeDown_42 (fun H locs hP hS => ?_)
        obtain ⟨u24, eu24, h⟩ := xp_let h
        rw [← eu24] at hP
        obtain ⟨a25, ea25, h⟩ := xp_let h
        refine lv_iinc (v := a25) (lv' := [(2, .int a25), (0, .ref (ad 0)), (1, .int b1)]) hx hb dd_Model_takeDown_45 hl (k := 2) rfl (by rw [ea25]; first | rfl | decide) (by decide) rfl (fun ls hl => ?_)
        refine lv_goto (tgt := 18) hx hb dd_Model_takeDown_48 (by decide) ?_
        exact hk18 b1 a25 u24 _ _ _ h hP hS (lv_sub hl [1, 2, 0] rfl)
set_option maxHeartbeats 4000000 in
set_option maxRecDepth 100000 in
theorem ct_Model_takeDown {l : Launch} {D : va_G} {ad : Nat → Nat} {ca : Nat → ClassId} {ads : List Nat} (htr : l.stackTraces = false) (hok : xk_ok (kw_m ad ca) ads) {fu : Nat} {u u' : xk_St} {r : Unit} (h : fm_Model_takeDown fu u = some (r, u')) :
    ∀ sz, xk_Met l ⟨"ModuleHouseModel", "takeDown", "()V"⟩ (Cond.code ⟨"ModuleHouseModel", "takeDown", "()V"⟩ prog_14_method_48_code 5 none :: xk_gd) rm_Model_takeDown (xk_Pc D kx_cl (kx_ty ca) (kw_m ad ca) ads xk_F sz [.ref (ad 0)] u) (xk_Qc D kx_cl (kw_m ad ca) ads (xo_v (.inl r)) u') (xk_A ads sz) := by
  unfold fm_Model_takeDown at h
  refine xk_con (by decide) htr hok (Nat.le_of_ble_eq_true rfl) (fun p e s m below meth c ls C hne hl hP => ?_)
  have hx := C.1.1
  have hb := C.1.2.1
  have hS : va_S (xk_A ads s.heap.size) s.heap s.heap [] := va_S.rf
  have hl : lv_has ls 5 [(0, .ref (ad 0))] := hl
  refine lv_aload_n hx hb dd_Model_takeDown_0 rfl (lv_at hl 0 rfl) ?_
  refine lv_iconst (v := 0) hx hb dd_Model_takeDown_1 (by decide) ?_
  refine pf_m_Model_0_wrong C hP hS (by decide) dd_Model_takeDown_2 (fun H locs hP hS => ?_)
  obtain ⟨u1, eu1, h⟩ := xp_let h
  rw [← eu1] at hP
  refine lv_aload_n hx hb dd_Model_takeDown_5 rfl (lv_at hl 0 rfl) ?_
  refine lv_iconst (v := 0) hx hb dd_Model_takeDown_6 (by decide) ?_
  refine pf_m_Model_0_types C hP hS dd_Model_takeDown_7 (fun H locs hP hS => ?_)
  obtain ⟨u2, eu2, h⟩ := xp_let h
  rw [← eu2] at hP
  refine lv_aload_n hx hb dd_Model_takeDown_10 rfl (lv_at hl 0 rfl) ?_
  refine lv_iconst (v := 1) hx hb dd_Model_takeDown_11 (by decide) ?_
  obtain ⟨a3, u4, hq, h⟩ := xp_seq h
  refine xk_goesI (xr_V (As := [.int (1 : Int32)]) (rest := []) C hP hS (ct_Model_rowOf htr hok hq) kq_Model_417 0 11 rfl rfl ⟨rfl, rfl, Nat.le_of_ble_eq_true rfl, Nat.le_of_ble_eq_true rfl⟩ ⟨Nat.le_of_ble_eq_true rfl, Nat.le_of_ble_eq_true rfl⟩ hl.1 rfl rfl (Nat.le_of_ble_eq_true rfl) dd_Model_takeDown_12) hS (fun H locs hP hS => ?_)
  clear hq
  refine lv_istore_n (lv' := [(1, .int a3), (0, .ref (ad 0))]) hx hb dd_Model_takeDown_15 rfl hl (by decide) rfl (fun ls hl => ?_)
  refine lv_iconst (v := 0) hx hb dd_Model_takeDown_16 (by decide) ?_
  refine lv_istore_n (lv' := [(2, .int (0 : Int32)), (1, .int a3), (0, .ref (ad 0))]) hx hb dd_Model_takeDown_17 rfl hl (by decide) rfl (fun ls hl => ?_)
  exact wj_Model_takeDown_18 htr C hne h hP hS (lv_sub hl [2, 1, 0] rfl)
abbrev rm_Model_noObjects : Room := { frames := 1, cells := 1, slots := 6, locals := 0 }
noncomputable def jb_Model_noObjects_12 (fu : Nat) : Nat → Int32 → xk_St → Option (Unit × xk_St)
  | 0 => fun _ _ => none
  | n + 1 => fun b1 u =>
    xs_let (jb_Model_noObjects_12 fu  n) fun k12 =>
    if (2001 : Int32) ≤ b1 then (some ((()), u)) else ((if b1 < 0 ∨ 2001 ≤ b1.toNatClampNeg then none else xs_let (xs_A u 38 b1.toNatClampNeg (-1 : Int32)) fun u3 => xs_let (b1 + (1 : Int32)) fun a4 => k12 a4 u3))
noncomputable def fm_Model_noObjects (fu : Nat) (u : xk_St) : Option (Unit × xk_St) :=
  (xs_let (xs_I u 32 (0 : Int32)) fun u1 => xs_let (xs_I u1 34 (0 : Int32)) fun u2 => jb_Model_noObjects_12 fu fu (0 : Int32) u2)
set_option maxHeartbeats 4000000 in
set_option maxRecDepth 100000 in
theorem wj_Model_noObjects_12 {p : Program} {l : Launch} {e : Env} {s : State} {m : MethodId} {args : Array Value} {below : List Frame} {meth : Method} {c : Code} {D : va_G} {ad : Nat → Nat} {ca : Nat → ClassId} {ads : List Nat} {fu : Nat} (htr : l.stackTraces = false) (C : xk_C D kx_cl (kx_ty ca) (kw_m ad ca) ads "ModuleHouseModel" prog_14_method_98_code 2 none p e s m args meth c) (hne : c.exceptionTable.isEmpty = true) {u' : xk_St} {r : Unit} : ∀ {n : Nat} {b1 : Int32} {u : xk_St} {H : Heap} {locs : List Loc} {ls : Array Slot} (h : jb_Model_noObjects_12 fu  n b1 u = some (r, u')) (hP : va_P D kx_cl (kw_m ad ca u) H) (hS : va_S (xk_A ads s.heap.size) s.heap H locs) (hl : lv_has ls 2 [(0, .ref (ad 0)), (1, .int b1)]), W p l e rm_Model_noObjects s m args below meth c H locs 0 0 (xk_MQ below (xk_Qc D kx_cl (kw_m ad ca) ads (xo_v (.inl r)) u') args s (xk_A ads s.heap.size)) (F0 m 12 ls []) := by
  intro n
  have hx := C.1.1
  have hb := C.1.2.1
  have hok := C.2.2.1
  induction n with
  | zero =>
    intro _ u H locs ls h
    have h : none = some (r, u') := h
    cases h
  | succ n ih =>
    intro b1 u H locs ls h hP hS hl
    unfold jb_Model_noObjects_12 at h
    obtain ⟨k12, ek12, h⟩ := xp_let h
    have hk12 : ∀ (c0 : Int32) (u : xk_St) (H : Heap) (locs : List Loc) (ls : Array Slot), k12 c0 u = some (r, u') → va_P D kx_cl (kw_m ad ca u) H → va_S (xk_A ads s.heap.size) s.heap H locs → lv_has ls 2 [(0, .ref (ad 0)), (1, .int c0)] → W p l e rm_Model_noObjects s m args below meth c H locs 0 0 (xk_MQ below (xk_Qc D kx_cl (kw_m ad ca) ads (xo_v (.inl r)) u') args s (xk_A ads s.heap.size)) (F0 m 12 ls []) := by
      intro c0 u H locs ls h hP hS hl
      subst ek12
      exact ih h hP hS hl
    clear ih ek12
    refine lv_iload_n hx hb dd_Model_noObjects_12 rfl (lv_at hl 1 rfl) ?_
    refine lv_sipush (v := 2001) hx hb dd_Model_noObjects_13 (by decide) ?_
    refine lv_icmp_ge (tgt := 32) hx hb dd_Model_noObjects_16 (by decide) (fun hc => ?_) (fun hc => ?_)
    · have h := xp_t hc h
      obtain ⟨rfl, rfl⟩ := xp_r h
      exact xr_vret C hP hS dd_Model_noObjects_32
    · have h := xp_f hc h
      refine lv_aload_n hx hb dd_Model_noObjects_19 rfl (lv_at hl 0 rfl) ?_
      refine gf_m_Model_0_objectSize C hP dd_Model_noObjects_20 ?_
      refine lv_iload_n hx hb dd_Model_noObjects_23 rfl (lv_at hl 1 rfl) ?_
      refine lv_iconst (v := (-1)) hx hb dd_Model_noObjects_24 (by decide) ?_
      obtain ⟨hi, h⟩ := xp_g h
      refine as_m_45 C hP hS hi dd_Model_noObjects_25 (fun H locs hP hS => ?_)
      obtain ⟨u3, eu3, h⟩ := xp_let h
      rw [← eu3] at hP
      obtain ⟨a4, ea4, h⟩ := xp_let h
      refine lv_iinc (v := a4) (lv' := [(1, .int a4), (0, .ref (ad 0))]) hx hb dd_Model_noObjects_26 hl (k := 1) rfl (by rw [ea4]; first | rfl | decide) (by decide) rfl (fun ls hl => ?_)
      refine lv_goto (tgt := 12) hx hb dd_Model_noObjects_29 (by decide) ?_
      exact hk12 a4 u3 _ _ _ h hP hS (lv_sub hl [1, 0] rfl)
set_option maxHeartbeats 4000000 in
set_option maxRecDepth 100000 in
theorem ct_Model_noObjects {l : Launch} {D : va_G} {ad : Nat → Nat} {ca : Nat → ClassId} {ads : List Nat} (htr : l.stackTraces = false) (hok : xk_ok (kw_m ad ca) ads) {fu : Nat} {u u' : xk_St} {r : Unit} (h : fm_Model_noObjects fu u = some (r, u')) :
    ∀ sz, xk_Met l ⟨"ModuleHouseModel", "noObjects", "()V"⟩ (Cond.code ⟨"ModuleHouseModel", "noObjects", "()V"⟩ prog_14_method_98_code 2 none :: xk_gd) rm_Model_noObjects (xk_Pc D kx_cl (kx_ty ca) (kw_m ad ca) ads xk_F sz [.ref (ad 0)] u) (xk_Qc D kx_cl (kw_m ad ca) ads (xo_v (.inl r)) u') (xk_A ads sz) := by
  unfold fm_Model_noObjects at h
  refine xk_con (by decide) htr hok (Nat.le_of_ble_eq_true rfl) (fun p e s m below meth c ls C hne hl hP => ?_)
  have hx := C.1.1
  have hb := C.1.2.1
  have hS : va_S (xk_A ads s.heap.size) s.heap s.heap [] := va_S.rf
  have hl : lv_has ls 2 [(0, .ref (ad 0))] := hl
  refine lv_aload_n hx hb dd_Model_noObjects_0 rfl (lv_at hl 0 rfl) ?_
  refine lv_iconst (v := 0) hx hb dd_Model_noObjects_1 (by decide) ?_
  refine pf_m_Model_0_heap C hP hS dd_Model_noObjects_2 (fun H locs hP hS => ?_)
  obtain ⟨u1, eu1, h⟩ := xp_let h
  rw [← eu1] at hP
  refine lv_aload_n hx hb dd_Model_noObjects_5 rfl (lv_at hl 0 rfl) ?_
  refine lv_iconst (v := 0) hx hb dd_Model_noObjects_6 (by decide) ?_
  refine pf_m_Model_0_objects C hP hS dd_Model_noObjects_7 (fun H locs hP hS => ?_)
  obtain ⟨u2, eu2, h⟩ := xp_let h
  rw [← eu2] at hP
  refine lv_iconst (v := 0) hx hb dd_Model_noObjects_10 (by decide) ?_
  refine lv_istore_n (lv' := [(1, .int (0 : Int32)), (0, .ref (ad 0))]) hx hb dd_Model_noObjects_11 rfl hl (by decide) rfl (fun ls hl => ?_)
  exact wj_Model_noObjects_12 htr C hne h hP hS (lv_sub hl [1, 0] rfl)
abbrev rm_Model_beginWay : Room := { frames := 1, cells := 1, slots := 6, locals := 0 }
noncomputable def fm_Model_beginWay (x0 : Int32) (x1 : Int32) (x2 : Int32) (x3 : Int32) (u : xk_St) : Option (Unit × xk_St) :=
  (if (u.1 28) < 0 ∨ 6200 ≤ (u.1 28).toNatClampNeg then none else xs_let (xs_A u 33 (u.1 28).toNatClampNeg x0) fun u1 => if (u1.1 28) < 0 ∨ 6200 ≤ (u1.1 28).toNatClampNeg then none else xs_let (xs_A u1 34 (u1.1 28).toNatClampNeg x1) fun u2 => if (u2.1 28) < 0 ∨ 6200 ≤ (u2.1 28).toNatClampNeg then none else xs_let (xs_A u2 35 (u2.1 28).toNatClampNeg x2) fun u3 => if (u3.1 28) < 0 ∨ 6200 ≤ (u3.1 28).toNatClampNeg then none else xs_let (xs_A u3 36 (u3.1 28).toNatClampNeg (vp_nar .boolean x3)) fun u4 => xs_let (xs_I u4 28 ((u4.1 28) + (1 : Int32))) fun u5 => some ((()), u5))
set_option maxHeartbeats 4000000 in
set_option maxRecDepth 100000 in
theorem ct_Model_beginWay {l : Launch} {D : va_G} {ad : Nat → Nat} {ca : Nat → ClassId} {ads : List Nat} (htr : l.stackTraces = false) (hok : xk_ok (kw_m ad ca) ads) {x0 : Int32} {x1 : Int32} {x2 : Int32} {x3 : Int32} {u u' : xk_St} {r : Unit} (h : fm_Model_beginWay x0 x1 x2 x3 u = some (r, u')) :
    ∀ sz, xk_Met l ⟨"ModuleHouseModel", "beginWay", "(IIIZ)V"⟩ (Cond.code ⟨"ModuleHouseModel", "beginWay", "(IIIZ)V"⟩ prog_14_method_107_code 5 none :: xk_gd) rm_Model_beginWay (xk_Pc D kx_cl (kx_ty ca) (kw_m ad ca) ads xk_F sz [.ref (ad 0), .int x0, .int x1, .int x2, .int x3] u) (xk_Qc D kx_cl (kw_m ad ca) ads (xo_v (.inl r)) u') (xk_A ads sz) := by
  unfold fm_Model_beginWay at h
  refine xk_con (by decide) htr hok (Nat.le_of_ble_eq_true rfl) (fun p e s m below meth c ls C hne hl hP => ?_)
  have hx := C.1.1
  have hb := C.1.2.1
  have hS : va_S (xk_A ads s.heap.size) s.heap s.heap [] := va_S.rf
  have hl : lv_has ls 5 [(0, .ref (ad 0)), (1, .int x0), (2, .int x1), (3, .int x2), (4, .int x3)] := hl
  refine lv_aload_n hx hb dd_Model_beginWay_0 rfl (lv_at hl 0 rfl) ?_
  refine gf_m_Model_0_wayAt C hP dd_Model_beginWay_1 ?_
  refine lv_aload_n hx hb dd_Model_beginWay_4 rfl (lv_at hl 0 rfl) ?_
  refine gf_m_Model_0_ways C hP dd_Model_beginWay_5 ?_
  refine lv_iload_n hx hb dd_Model_beginWay_8 rfl (lv_at hl 1 rfl) ?_
  obtain ⟨hi, h⟩ := xp_g h
  refine as_m_38 C hP hS hi dd_Model_beginWay_9 (fun H locs hP hS => ?_)
  obtain ⟨u1, eu1, h⟩ := xp_let h
  rw [← eu1] at hP
  refine lv_aload_n hx hb dd_Model_beginWay_10 rfl (lv_at hl 0 rfl) ?_
  refine gf_m_Model_0_wayMany C hP dd_Model_beginWay_11 ?_
  refine lv_aload_n hx hb dd_Model_beginWay_14 rfl (lv_at hl 0 rfl) ?_
  refine gf_m_Model_0_ways C hP dd_Model_beginWay_15 ?_
  refine lv_iload_n hx hb dd_Model_beginWay_18 rfl (lv_at hl 2 rfl) ?_
  obtain ⟨hi, h⟩ := xp_g h
  refine as_m_39 C hP hS hi dd_Model_beginWay_19 (fun H locs hP hS => ?_)
  obtain ⟨u2, eu2, h⟩ := xp_let h
  rw [← eu2] at hP
  refine lv_aload_n hx hb dd_Model_beginWay_20 rfl (lv_at hl 0 rfl) ?_
  refine gf_m_Model_0_wayHigh C hP dd_Model_beginWay_21 ?_
  refine lv_aload_n hx hb dd_Model_beginWay_24 rfl (lv_at hl 0 rfl) ?_
  refine gf_m_Model_0_ways C hP dd_Model_beginWay_25 ?_
  refine lv_iload_n hx hb dd_Model_beginWay_28 rfl (lv_at hl 3 rfl) ?_
  obtain ⟨hi, h⟩ := xp_g h
  refine as_m_40 C hP hS hi dd_Model_beginWay_29 (fun H locs hP hS => ?_)
  obtain ⟨u3, eu3, h⟩ := xp_let h
  rw [← eu3] at hP
  refine lv_aload_n hx hb dd_Model_beginWay_30 rfl (lv_at hl 0 rfl) ?_
  refine gf_m_Model_0_wayLoops C hP dd_Model_beginWay_31 ?_
  refine lv_aload_n hx hb dd_Model_beginWay_34 rfl (lv_at hl 0 rfl) ?_
  refine gf_m_Model_0_ways C hP dd_Model_beginWay_35 ?_
  refine lv_iload hx hb dd_Model_beginWay_38 (lv_at hl 4 rfl) ?_
  obtain ⟨hi, h⟩ := xp_g h
  refine as_m_41 C hP hS hi dd_Model_beginWay_40 (fun H locs hP hS => ?_)
  obtain ⟨u4, eu4, h⟩ := xp_let h
  rw [← eu4] at hP
  refine lv_aload_n hx hb dd_Model_beginWay_41 rfl (lv_at hl 0 rfl) ?_
  refine lv_dup hx hb dd_Model_beginWay_42 rfl ?_
  refine gf_m_Model_0_ways C hP dd_Model_beginWay_43 ?_
  refine lv_iconst (v := 1) hx hb dd_Model_beginWay_46 (by decide) ?_
  refine lv_iadd hx hb dd_Model_beginWay_47 ?_
  refine pf_m_Model_0_ways C hP hS dd_Model_beginWay_48 (fun H locs hP hS => ?_)
  obtain ⟨u5, eu5, h⟩ := xp_let h
  rw [← eu5] at hP
  obtain ⟨rfl, rfl⟩ := xp_r h
  exact xr_vret C hP hS dd_Model_beginWay_51
abbrev rm_Model_lay : Room := { frames := 1, cells := 1, slots := 6, locals := 0 }
noncomputable def fm_Model_lay (x0 : Int64) (x1 : Int32) (u : xk_St) : Option (Unit × xk_St) :=
  (if (u.1 26) < 0 ∨ 19000 ≤ (u.1 26).toNatClampNeg then none else xs_let (xs_B u 3 (u.1 26).toNatClampNeg x0) fun u1 => if (u1.1 26) < 0 ∨ 19000 ≤ (u1.1 26).toNatClampNeg then none else xs_let (xs_A u1 29 (u1.1 26).toNatClampNeg (vp_nar .boolean x1)) fun u2 => xs_let (xs_I u2 26 ((u2.1 26) + (1 : Int32))) fun u3 => some ((()), u3))
set_option maxHeartbeats 4000000 in
set_option maxRecDepth 100000 in
theorem ct_Model_lay {l : Launch} {D : va_G} {ad : Nat → Nat} {ca : Nat → ClassId} {ads : List Nat} (htr : l.stackTraces = false) (hok : xk_ok (kw_m ad ca) ads) {x0 : Int64} {x1 : Int32} {u u' : xk_St} {r : Unit} (h : fm_Model_lay x0 x1 u = some (r, u')) :
    ∀ sz, xk_Met l ⟨"ModuleHouseModel", "lay", "(JZ)V"⟩ (Cond.code ⟨"ModuleHouseModel", "lay", "(JZ)V"⟩ prog_14_method_103_code 4 none :: xk_gd) rm_Model_lay (xk_Pc D kx_cl (kx_ty ca) (kw_m ad ca) ads xk_F sz [.ref (ad 0), .long x0, .int x1] u) (xk_Qc D kx_cl (kw_m ad ca) ads (xo_v (.inl r)) u') (xk_A ads sz) := by
  unfold fm_Model_lay at h
  refine xk_con (by decide) htr hok (Nat.le_of_ble_eq_true rfl) (fun p e s m below meth c ls C hne hl hP => ?_)
  have hx := C.1.1
  have hb := C.1.2.1
  have hS : va_S (xk_A ads s.heap.size) s.heap s.heap [] := va_S.rf
  have hl : lv_has ls 4 [(0, .ref (ad 0)), (1, .long x0), (3, .int x1)] := hl
  refine lv_aload_n hx hb dd_Model_lay_0 rfl (lv_at hl 0 rfl) ?_
  refine gf_m_Model_0_values C hP dd_Model_lay_1 ?_
  refine lv_aload_n hx hb dd_Model_lay_4 rfl (lv_at hl 0 rfl) ?_
  refine gf_m_Model_0_top C hP dd_Model_lay_5 ?_
  refine lv_lload_n hx hb dd_Model_lay_8 rfl (lv_at hl 1 rfl) ?_
  obtain ⟨hi, h⟩ := xp_g h
  refine as_m_33 C hP hS hi dd_Model_lay_9 (fun H locs hP hS => ?_)
  obtain ⟨u1, eu1, h⟩ := xp_let h
  rw [← eu1] at hP
  refine lv_aload_n hx hb dd_Model_lay_10 rfl (lv_at hl 0 rfl) ?_
  refine gf_m_Model_0_refers C hP dd_Model_lay_11 ?_
  refine lv_aload_n hx hb dd_Model_lay_14 rfl (lv_at hl 0 rfl) ?_
  refine gf_m_Model_0_top C hP dd_Model_lay_15 ?_
  refine lv_iload_n hx hb dd_Model_lay_18 rfl (lv_at hl 2 rfl) ?_
  obtain ⟨hi, h⟩ := xp_g h
  refine as_m_34 C hP hS hi dd_Model_lay_19 (fun H locs hP hS => ?_)
  obtain ⟨u2, eu2, h⟩ := xp_let h
  rw [← eu2] at hP
  refine lv_aload_n hx hb dd_Model_lay_20 rfl (lv_at hl 0 rfl) ?_
  refine lv_dup hx hb dd_Model_lay_21 rfl ?_
  refine gf_m_Model_0_top C hP dd_Model_lay_22 ?_
  refine lv_iconst (v := 1) hx hb dd_Model_lay_25 (by decide) ?_
  refine lv_iadd hx hb dd_Model_lay_26 ?_
  refine pf_m_Model_0_top C hP hS dd_Model_lay_27 (fun H locs hP hS => ?_)
  obtain ⟨u3, eu3, h⟩ := xp_let h
  rw [← eu3] at hP
  obtain ⟨rfl, rfl⟩ := xp_r h
  exact xr_vret C hP hS dd_Model_lay_30
abbrev rm_Model_enter : Room := { frames := 2, cells := 1, slots := 6, locals := 24 }
noncomputable def jb_Model_enter_35 (fu : Nat) (s0 : Int32) (u : xk_St) : Option (Unit × xk_St) :=
  (xs_let (xs_I u 29 s0) fun u1 => if (u1.2.1 2) = (0 : Int64) then ((xs_let (xs_J u1 2 ((u1.2.1 2) - (0 : Int64))) fun u3 => some ((()), u3))) else ((xs_let (xs_J u1 2 ((u1.2.1 2) - (1 : Int64))) fun u2 => some ((()), u2))))
noncomputable def jb_Model_enter_18 (fu : Nat) (u : xk_St) : Option (Unit × xk_St) :=
  if (u.2.1 2) = (0 : Int64) then (jb_Model_enter_35 fu (13 : Int32) u) else (jb_Model_enter_35 fu (12 : Int32) u)
noncomputable def jb_Model_enter_140 (fu : Nat) : Nat → Int32 → Int32 → Int32 → xk_St → Option (Unit × xk_St)
  | 0 => fun _ _ _ _ => none
  | n + 1 => fun b1 b3 b4 u =>
    xs_let (jb_Model_enter_140 fu  n) fun k140 =>
    (if b1 < 0 ∨ 64 ≤ b1.toNatClampNeg then none else if (u.2.2.1 12 b1.toNatClampNeg) ≤ b4 then ((if b3 < 0 ∨ 64 ≤ b3.toNatClampNeg then none else xs_seq (fm_Model_beginWay (0 : Int32) (u.2.2.1 6 b3.toNatClampNeg) (u.1 26) (0 : Int32) u) fun _ u11 => if b1 < 0 ∨ 64 ≤ b1.toNatClampNeg then none else xs_let (xs_I u11 4 (u11.2.2.1 10 b1.toNatClampNeg)) fun u12 => some ((()), u12))) else ((if (((200 : Int32) * b1) + b4) < 0 ∨ 12800 ≤ (((200 : Int32) * b1) + b4).toNatClampNeg then none else xs_seq (fm_Model_isReference (u.2.2.1 13 (((200 : Int32) * b1) + b4).toNatClampNeg) u) fun a13 u14 => xs_seq (fm_Model_lay (0 : Int64) a13 u14) fun _ u15 => xs_let (b4 + (1 : Int32)) fun a16 => k140 b1 b3 a16 u15)))
noncomputable def fm_Model_enter (fu : Nat) (x0 : Int32) (x1 : Int32) (u : xk_St) : Option (Unit × xk_St) :=
  if (u.2.1 2) = (0 : Int64) then (jb_Model_enter_18 fu u) else (if (u.1 27) = (60 : Int32) then (jb_Model_enter_18 fu u) else ((xs_let (xs_J u 2 ((u.2.1 2) - (1 : Int64))) fun u4 => if x0 < 0 ∨ 64 ≤ x0.toNatClampNeg then none else xs_let (u4.2.2.1 9 x0.toNatClampNeg) fun a5 => if (u4.1 27) < 0 ∨ 61 ≤ (u4.1 27).toNatClampNeg then none else xs_let (xs_A u4 30 (u4.1 27).toNatClampNeg x1) fun u6 => if a5 < 0 ∨ 64 ≤ a5.toNatClampNeg then none else if (u6.1 27) < 0 ∨ 61 ≤ (u6.1 27).toNatClampNeg then none else xs_let (xs_A u6 31 (u6.1 27).toNatClampNeg ((u6.1 26) - (u6.2.2.1 5 a5.toNatClampNeg))) fun u7 => if (u7.1 27) < 0 ∨ 61 ≤ (u7.1 27).toNatClampNeg then none else xs_let (xs_A u7 32 (u7.1 27).toNatClampNeg (u7.1 28)) fun u8 => xs_let (xs_I u8 27 ((u8.1 27) + (1 : Int32))) fun u9 => if a5 < 0 ∨ 64 ≤ a5.toNatClampNeg then none else xs_let (u9.2.2.1 5 a5.toNatClampNeg) fun a10 => jb_Model_enter_140 fu fu x0 a5 a10 u9)))
set_option maxHeartbeats 4000000 in
set_option maxRecDepth 100000 in
theorem wj_Model_enter_35 {p : Program} {l : Launch} {e : Env} {s : State} {m : MethodId} {args : Array Value} {below : List Frame} {meth : Method} {c : Code} {D : va_G} {ad : Nat → Nat} {ca : Nat → ClassId} {ads : List Nat} {fu : Nat} (htr : l.stackTraces = false) (C : xk_C D kx_cl (kx_ty ca) (kw_m ad ca) ads "ModuleHouseModel" prog_14_method_106_code 5 none p e s m args meth c) (hne : c.exceptionTable.isEmpty = true) {u' : xk_St} {r : Unit} {s0 : Int32} {u : xk_St} {H : Heap} {locs : List Loc} {ls : Array Slot} (h : jb_Model_enter_35 fu  s0 u = some (r, u')) (hP : va_P D kx_cl (kw_m ad ca u) H) (hS : va_S (xk_A ads s.heap.size) s.heap H locs) (hl : lv_has ls 5 [(0, .ref (ad 0))]) : W p l e rm_Model_enter s m args below meth c H locs 0 0 (xk_MQ below (xk_Qc D kx_cl (kw_m ad ca) ads (xo_v (.inl r)) u') args s (xk_A ads s.heap.size)) (F0 m 35 ls [.int s0, .ref (ad 0)]) := by
  have hx := C.1.1
  have hb := C.1.2.1
  have hok := C.2.2.1
  unfold jb_Model_enter_35 at h
  refine pf_m_Model_0_trap C hP hS dd_Model_enter_35 (fun H locs hP hS => ?_)
  obtain ⟨u1, eu1, h⟩ := xp_let h
  rw [← eu1] at hP
  refine lv_aload_n hx hb dd_Model_enter_38 rfl (lv_at hl 0 rfl) ?_
  refine lv_dup hx hb dd_Model_enter_39 rfl ?_
  refine gf_m_Model_0_turnsLeft C hP dd_Model_enter_40 ?_
  refine lv_aload_n hx hb dd_Model_enter_43 rfl (lv_at hl 0 rfl) ?_
  refine gf_m_Model_0_turnsLeft C hP dd_Model_enter_44 ?_
  refine lv_lconst (v := 0) hx hb dd_Model_enter_47 (by decide) ?_
  refine xr_lc_ne (tgt := 56) hx hb dd_Model_enter_48 dd_Model_enter_49 (by decide) (fun hc => ?_) (fun hc => ?_)
  · have h := xp_f hc h
    refine lv_lconst (v := 1) hx hb dd_Model_enter_56 (by decide) ?_
    refine lv_lsub hx hb dd_Model_enter_57 ?_
    refine pf_m_Model_0_turnsLeft C hP hS dd_Model_enter_58 (fun H locs hP hS => ?_)
    obtain ⟨u2, eu2, h⟩ := xp_let h
    rw [← eu2] at hP
    obtain ⟨rfl, rfl⟩ := xp_r h
    exact xr_vret C hP hS dd_Model_enter_61
  · have h := xp_t hc h
    refine lv_lconst (v := 0) hx hb dd_Model_enter_52 (by decide) ?_
    refine lv_goto (tgt := 57) hx hb dd_Model_enter_53 (by decide) ?_
    refine lv_lsub hx hb dd_Model_enter_57 ?_
    refine pf_m_Model_0_turnsLeft C hP hS dd_Model_enter_58 (fun H locs hP hS => ?_)
    obtain ⟨u3, eu3, h⟩ := xp_let h
    rw [← eu3] at hP
    obtain ⟨rfl, rfl⟩ := xp_r h
    exact xr_vret C hP hS dd_Model_enter_61
set_option maxHeartbeats 4000000 in
set_option maxRecDepth 100000 in
theorem wj_Model_enter_18 {p : Program} {l : Launch} {e : Env} {s : State} {m : MethodId} {args : Array Value} {below : List Frame} {meth : Method} {c : Code} {D : va_G} {ad : Nat → Nat} {ca : Nat → ClassId} {ads : List Nat} {fu : Nat} (htr : l.stackTraces = false) (C : xk_C D kx_cl (kx_ty ca) (kw_m ad ca) ads "ModuleHouseModel" prog_14_method_106_code 5 none p e s m args meth c) (hne : c.exceptionTable.isEmpty = true) {u' : xk_St} {r : Unit} {u : xk_St} {H : Heap} {locs : List Loc} {ls : Array Slot} (h : jb_Model_enter_18 fu   u = some (r, u')) (hP : va_P D kx_cl (kw_m ad ca u) H) (hS : va_S (xk_A ads s.heap.size) s.heap H locs) (hl : lv_has ls 5 [(0, .ref (ad 0))]) : W p l e rm_Model_enter s m args below meth c H locs 0 0 (xk_MQ below (xk_Qc D kx_cl (kw_m ad ca) ads (xo_v (.inl r)) u') args s (xk_A ads s.heap.size)) (F0 m 18 ls []) := by
  have hx := C.1.1
  have hb := C.1.2.1
  have hok := C.2.2.1
  unfold jb_Model_enter_18 at h
  refine lv_aload_n hx hb dd_Model_enter_18 rfl (lv_at hl 0 rfl) ?_
  refine lv_aload_n hx hb dd_Model_enter_19 rfl (lv_at hl 0 rfl) ?_
  refine gf_m_Model_0_turnsLeft C hP dd_Model_enter_20 ?_
  refine lv_lconst (v := 0) hx hb dd_Model_enter_23 (by decide) ?_
  refine xr_lc_ne (tgt := 33) hx hb dd_Model_enter_24 dd_Model_enter_25 (by decide) (fun hc => ?_) (fun hc => ?_)
  · have h := xp_f hc h
    refine lv_bipush (v := 12) hx hb dd_Model_enter_33 (by decide) ?_
    exact wj_Model_enter_35 htr C hne h hP hS (lv_sub hl [0] rfl)
  · have h := xp_t hc h
    refine lv_bipush (v := 13) hx hb dd_Model_enter_28 (by decide) ?_
    refine lv_goto (tgt := 35) hx hb dd_Model_enter_30 (by decide) ?_
    exact wj_Model_enter_35 htr C hne h hP hS (lv_sub hl [0] rfl)
set_option maxHeartbeats 4000000 in
set_option maxRecDepth 100000 in
theorem wj_Model_enter_140 {p : Program} {l : Launch} {e : Env} {s : State} {m : MethodId} {args : Array Value} {below : List Frame} {meth : Method} {c : Code} {D : va_G} {ad : Nat → Nat} {ca : Nat → ClassId} {ads : List Nat} {fu : Nat} (htr : l.stackTraces = false) (C : xk_C D kx_cl (kx_ty ca) (kw_m ad ca) ads "ModuleHouseModel" prog_14_method_106_code 5 none p e s m args meth c) (hne : c.exceptionTable.isEmpty = true) {u' : xk_St} {r : Unit} : ∀ {n : Nat} {b1 : Int32} {b3 : Int32} {b4 : Int32} {u : xk_St} {H : Heap} {locs : List Loc} {ls : Array Slot} (h : jb_Model_enter_140 fu  n b1 b3 b4 u = some (r, u')) (hP : va_P D kx_cl (kw_m ad ca u) H) (hS : va_S (xk_A ads s.heap.size) s.heap H locs) (hl : lv_has ls 5 [(0, .ref (ad 0)), (1, .int b1), (3, .int b3), (4, .int b4)]), W p l e rm_Model_enter s m args below meth c H locs 0 0 (xk_MQ below (xk_Qc D kx_cl (kw_m ad ca) ads (xo_v (.inl r)) u') args s (xk_A ads s.heap.size)) (F0 m 140 ls []) := by
  intro n
  have hx := C.1.1
  have hb := C.1.2.1
  have hok := C.2.2.1
  induction n with
  | zero =>
    intro _ _ _ u H locs ls h
    have h : none = some (r, u') := h
    cases h
  | succ n ih =>
    intro b1 b3 b4 u H locs ls h hP hS hl
    unfold jb_Model_enter_140 at h
    obtain ⟨k140, ek140, h⟩ := xp_let h
    have hk140 : ∀ (c0 : Int32) (c1 : Int32) (c2 : Int32) (u : xk_St) (H : Heap) (locs : List Loc) (ls : Array Slot), k140 c0 c1 c2 u = some (r, u') → va_P D kx_cl (kw_m ad ca u) H → va_S (xk_A ads s.heap.size) s.heap H locs → lv_has ls 5 [(0, .ref (ad 0)), (1, .int c0), (3, .int c1), (4, .int c2)] → W p l e rm_Model_enter s m args below meth c H locs 0 0 (xk_MQ below (xk_Qc D kx_cl (kw_m ad ca) ads (xo_v (.inl r)) u') args s (xk_A ads s.heap.size)) (F0 m 140 ls []) := by
      intro c0 c1 c2 u H locs ls h hP hS hl
      subst ek140
      exact ih h hP hS hl
    clear ih ek140
    refine lv_iload hx hb dd_Model_enter_140 (lv_at hl 3 rfl) ?_
    refine lv_aload_n hx hb dd_Model_enter_142 rfl (lv_at hl 0 rfl) ?_
    refine gf_m_Model_0_localMany C hP dd_Model_enter_143 ?_
    refine lv_iload_n hx hb dd_Model_enter_146 rfl (lv_at hl 1 rfl) ?_
    obtain ⟨hi, h⟩ := xp_g h
    refine al_m_14 C hP hi dd_Model_enter_147 ?_
    refine lv_icmp_ge (tgt := 178) hx hb dd_Model_enter_148 (by decide) (fun hc => ?_) (fun hc => ?_)
    · have h := xp_t hc h
      refine lv_aload_n hx hb dd_Model_enter_178 rfl (lv_at hl 0 rfl) ?_
      refine lv_iconst (v := 0) hx hb dd_Model_enter_179 (by decide) ?_
      refine lv_aload_n hx hb dd_Model_enter_180 rfl (lv_at hl 0 rfl) ?_
      refine gf_m_Model_0_resultTypes C hP dd_Model_enter_181 ?_
      refine lv_iload_n hx hb dd_Model_enter_184 rfl (lv_at hl 2 rfl) ?_
      obtain ⟨hi, h⟩ := xp_g h
      refine al_m_8 C hP hi dd_Model_enter_185 ?_
      refine lv_aload_n hx hb dd_Model_enter_186 rfl (lv_at hl 0 rfl) ?_
      refine gf_m_Model_0_top C hP dd_Model_enter_187 ?_
      refine lv_iconst (v := 0) hx hb dd_Model_enter_190 (by decide) ?_
      obtain ⟨rx, u11, hq, h⟩ := xp_seq h
      refine xk_goesV (xr_V (As := [.int (0 : Int32), .int (u.2.2.1 6 b3.toNatClampNeg), .int (u.1 26), .int (0 : Int32)]) (rest := []) C hP hS (ct_Model_beginWay htr hok hq) kq_Model_687 0 11 rfl rfl ⟨rfl, rfl, Nat.le_of_ble_eq_true rfl, Nat.le_of_ble_eq_true rfl⟩ ⟨Nat.le_of_ble_eq_true rfl, Nat.le_of_ble_eq_true rfl⟩ hl.1 rfl rfl (Nat.le_of_ble_eq_true rfl) dd_Model_enter_191) hS (fun H locs hP hS => ?_)
      clear hq
      refine lv_aload_n hx hb dd_Model_enter_194 rfl (lv_at hl 0 rfl) ?_
      refine lv_aload_n hx hb dd_Model_enter_195 rfl (lv_at hl 0 rfl) ?_
      refine gf_m_Model_0_bodyAt C hP dd_Model_enter_196 ?_
      refine lv_iload_n hx hb dd_Model_enter_199 rfl (lv_at hl 1 rfl) ?_
      obtain ⟨hi, h⟩ := xp_g h
      refine al_m_12 C hP hi dd_Model_enter_200 ?_
      refine pf_m_Model_0_at C hP hS dd_Model_enter_201 (fun H locs hP hS => ?_)
      obtain ⟨u12, eu12, h⟩ := xp_let h
      rw [← eu12] at hP
      obtain ⟨rfl, rfl⟩ := xp_r h
      exact xr_vret C hP hS dd_Model_enter_204
    · have h := xp_f hc h
      refine lv_aload_n hx hb dd_Model_enter_151 rfl (lv_at hl 0 rfl) ?_
      refine lv_lconst (v := 0) hx hb dd_Model_enter_152 (by decide) ?_
      refine lv_aload_n hx hb dd_Model_enter_153 rfl (lv_at hl 0 rfl) ?_
      refine gf_m_Model_0_localTypes C hP dd_Model_enter_154 ?_
      refine lv_sipush (v := 200) hx hb dd_Model_enter_157 (by decide) ?_
      refine lv_iload_n hx hb dd_Model_enter_160 rfl (lv_at hl 1 rfl) ?_
      refine lv_imul hx hb dd_Model_enter_161 ?_
      refine lv_iload hx hb dd_Model_enter_162 (lv_at hl 3 rfl) ?_
      refine lv_iadd hx hb dd_Model_enter_164 ?_
      obtain ⟨hi, h⟩ := xp_g h
      refine al_m_15 C hP hi dd_Model_enter_165 ?_
      obtain ⟨a13, u14, hq, h⟩ := xp_seq h
      refine xk_goesI (xr_S (As := [.int (u.2.2.1 13 (((200 : Int32) * b1) + b4).toNatClampNeg)]) (rest := [.long (0 : Int64), .ref (ad 0)]) C hP hS (ct_Model_isReference htr hok hq) kq_Model_384 ⟨rfl, rfl, Nat.le_of_ble_eq_true rfl, Nat.le_of_ble_eq_true rfl⟩ ⟨Nat.le_of_ble_eq_true rfl, Nat.le_of_ble_eq_true rfl⟩ hl.1 rfl rfl (Nat.le_of_ble_eq_true rfl) dd_Model_enter_166) hS (fun H locs hP hS => ?_)
      clear hq
      obtain ⟨rx, u15, hq, h⟩ := xp_seq h
      refine xk_goesV (xr_V (As := [.long (0 : Int64), .int a13]) (rest := []) C hP hS (ct_Model_lay htr hok hq) kq_Model_676 0 11 rfl rfl ⟨rfl, rfl, Nat.le_of_ble_eq_true rfl, Nat.le_of_ble_eq_true rfl⟩ ⟨Nat.le_of_ble_eq_true rfl, Nat.le_of_ble_eq_true rfl⟩ hl.1 rfl rfl (Nat.le_of_ble_eq_true rfl) dd_Model_enter_169) hS (fun H locs hP hS => ?_)
      clear hq
      obtain ⟨a16, ea16, h⟩ := xp_let h
      refine lv_iinc (v := a16) (lv' := [(4, .int a16), (0, .ref (ad 0)), (1, .int b1), (3, .int b3)]) hx hb dd_Model_enter_172 hl (k := 3) rfl (by rw [ea16]; first | rfl | decide) (by decide) rfl (fun ls hl => ?_)
      refine lv_goto (tgt := 140) hx hb dd_Model_enter_175 (by decide) ?_
      exact hk140 b1 b3 a16 u15 _ _ _ h hP hS (lv_sub hl [1, 2, 3, 0] rfl)
set_option maxHeartbeats 4000000 in
set_option maxRecDepth 100000 in
theorem ct_Model_enter {l : Launch} {D : va_G} {ad : Nat → Nat} {ca : Nat → ClassId} {ads : List Nat} (htr : l.stackTraces = false) (hok : xk_ok (kw_m ad ca) ads) {fu : Nat} {x0 : Int32} {x1 : Int32} {u u' : xk_St} {r : Unit} (h : fm_Model_enter fu x0 x1 u = some (r, u')) :
    ∀ sz, xk_Met l ⟨"ModuleHouseModel", "enter", "(II)V"⟩ (Cond.code ⟨"ModuleHouseModel", "enter", "(II)V"⟩ prog_14_method_106_code 5 none :: xk_gd) rm_Model_enter (xk_Pc D kx_cl (kx_ty ca) (kw_m ad ca) ads xk_F sz [.ref (ad 0), .int x0, .int x1] u) (xk_Qc D kx_cl (kw_m ad ca) ads (xo_v (.inl r)) u') (xk_A ads sz) := by
  unfold fm_Model_enter at h
  refine xk_con (by decide) htr hok (Nat.le_of_ble_eq_true rfl) (fun p e s m below meth c ls C hne hl hP => ?_)
  have hx := C.1.1
  have hb := C.1.2.1
  have hS : va_S (xk_A ads s.heap.size) s.heap s.heap [] := va_S.rf
  have hl : lv_has ls 5 [(0, .ref (ad 0)), (1, .int x0), (2, .int x1)] := hl
  refine lv_aload_n hx hb dd_Model_enter_0 rfl (lv_at hl 0 rfl) ?_
  refine gf_m_Model_0_turnsLeft C hP dd_Model_enter_1 ?_
  refine lv_lconst (v := 0) hx hb dd_Model_enter_4 (by decide) ?_
  refine xr_lc_eq (tgt := 18) hx hb dd_Model_enter_5 dd_Model_enter_6 (by decide) (fun hc => ?_) (fun hc => ?_)
  · have h := xp_t hc h
    exact wj_Model_enter_18 htr C hne h hP hS (lv_sub hl [0] rfl)
  · have h := xp_f hc h
    refine lv_aload_n hx hb dd_Model_enter_9 rfl (lv_at hl 0 rfl) ?_
    refine gf_m_Model_0_calls C hP dd_Model_enter_10 ?_
    refine lv_bipush (v := 60) hx hb dd_Model_enter_13 (by decide) ?_
    refine lv_icmp_ne (tgt := 62) hx hb dd_Model_enter_15 (by decide) (fun hc => ?_) (fun hc => ?_)
    · have h := xp_f hc h
      refine lv_aload_n hx hb dd_Model_enter_62 rfl (lv_at hl 0 rfl) ?_
      refine lv_dup hx hb dd_Model_enter_63 rfl ?_
      refine gf_m_Model_0_turnsLeft C hP dd_Model_enter_64 ?_
      refine lv_lconst (v := 1) hx hb dd_Model_enter_67 (by decide) ?_
      refine lv_lsub hx hb dd_Model_enter_68 ?_
      refine pf_m_Model_0_turnsLeft C hP hS dd_Model_enter_69 (fun H locs hP hS => ?_)
      obtain ⟨u4, eu4, h⟩ := xp_let h
      rw [← eu4] at hP
      refine lv_aload_n hx hb dd_Model_enter_72 rfl (lv_at hl 0 rfl) ?_
      refine gf_m_Model_0_functionType C hP dd_Model_enter_73 ?_
      refine lv_iload_n hx hb dd_Model_enter_76 rfl (lv_at hl 1 rfl) ?_
      obtain ⟨hi, h⟩ := xp_g h
      refine al_m_11 C hP hi dd_Model_enter_77 ?_
      obtain ⟨a5, ea5, h⟩ := xp_let h
      refine xr_nami ea5 ?_
      refine lv_istore_n (lv' := [(3, .int a5), (0, .ref (ad 0)), (1, .int x0), (2, .int x1)]) hx hb dd_Model_enter_78 rfl hl (by decide) rfl (fun ls hl => ?_)
      refine lv_aload_n hx hb dd_Model_enter_79 rfl (lv_at hl 1 rfl) ?_
      refine gf_m_Model_0_callBack C hP dd_Model_enter_80 ?_
      refine lv_aload_n hx hb dd_Model_enter_83 rfl (lv_at hl 1 rfl) ?_
      refine gf_m_Model_0_calls C hP dd_Model_enter_84 ?_
      refine lv_iload_n hx hb dd_Model_enter_87 rfl (lv_at hl 3 rfl) ?_
      obtain ⟨hi, h⟩ := xp_g h
      refine as_m_35 C hP hS hi dd_Model_enter_88 (fun H locs hP hS => ?_)
      obtain ⟨u6, eu6, h⟩ := xp_let h
      rw [← eu6] at hP
      refine lv_aload_n hx hb dd_Model_enter_89 rfl (lv_at hl 1 rfl) ?_
      refine gf_m_Model_0_callLocals C hP dd_Model_enter_90 ?_
      refine lv_aload_n hx hb dd_Model_enter_93 rfl (lv_at hl 1 rfl) ?_
      refine gf_m_Model_0_calls C hP dd_Model_enter_94 ?_
      refine lv_aload_n hx hb dd_Model_enter_97 rfl (lv_at hl 1 rfl) ?_
      refine gf_m_Model_0_top C hP dd_Model_enter_98 ?_
      refine lv_aload_n hx hb dd_Model_enter_101 rfl (lv_at hl 1 rfl) ?_
      refine gf_m_Model_0_partMany C hP dd_Model_enter_102 ?_
      refine lv_iload_n hx hb dd_Model_enter_105 rfl (lv_at hl 0 rfl) ?_
      obtain ⟨hi, h⟩ := xp_g h
      refine al_m_7 C hP hi dd_Model_enter_106 ?_
      refine lv_isub hx hb dd_Model_enter_107 ?_
      obtain ⟨hi, h⟩ := xp_g h
      refine as_m_36 C hP hS hi dd_Model_enter_108 (fun H locs hP hS => ?_)
      obtain ⟨u7, eu7, h⟩ := xp_let h
      rw [← eu7] at hP
      refine lv_aload_n hx hb dd_Model_enter_109 rfl (lv_at hl 1 rfl) ?_
      refine gf_m_Model_0_callWays C hP dd_Model_enter_110 ?_
      refine lv_aload_n hx hb dd_Model_enter_113 rfl (lv_at hl 1 rfl) ?_
      refine gf_m_Model_0_calls C hP dd_Model_enter_114 ?_
      refine lv_aload_n hx hb dd_Model_enter_117 rfl (lv_at hl 1 rfl) ?_
      refine gf_m_Model_0_ways C hP dd_Model_enter_118 ?_
      obtain ⟨hi, h⟩ := xp_g h
      refine as_m_37 C hP hS hi dd_Model_enter_121 (fun H locs hP hS => ?_)
      obtain ⟨u8, eu8, h⟩ := xp_let h
      rw [← eu8] at hP
      refine lv_aload_n hx hb dd_Model_enter_122 rfl (lv_at hl 1 rfl) ?_
      refine lv_dup hx hb dd_Model_enter_123 rfl ?_
      refine gf_m_Model_0_calls C hP dd_Model_enter_124 ?_
      refine lv_iconst (v := 1) hx hb dd_Model_enter_127 (by decide) ?_
      refine lv_iadd hx hb dd_Model_enter_128 ?_
      refine pf_m_Model_0_calls C hP hS dd_Model_enter_129 (fun H locs hP hS => ?_)
      obtain ⟨u9, eu9, h⟩ := xp_let h
      rw [← eu9] at hP
      refine lv_aload_n hx hb dd_Model_enter_132 rfl (lv_at hl 1 rfl) ?_
      refine gf_m_Model_0_partMany C hP dd_Model_enter_133 ?_
      refine lv_iload_n hx hb dd_Model_enter_136 rfl (lv_at hl 0 rfl) ?_
      obtain ⟨hi, h⟩ := xp_g h
      refine al_m_7 C hP hi dd_Model_enter_137 ?_
      obtain ⟨a10, ea10, h⟩ := xp_let h
      refine xr_nami ea10 ?_
      refine lv_istore (lv' := [(4, .int a10), (3, .int a5), (0, .ref (ad 0)), (1, .int x0), (2, .int x1)]) hx hb dd_Model_enter_138 hl (by decide) rfl (fun ls hl => ?_)
      exact wj_Model_enter_140 htr C hne h hP hS (lv_sub hl [2, 3, 1, 0] rfl)
    · have h := xp_t hc h
      exact wj_Model_enter_18 htr C hne h hP hS (lv_sub hl [0] rfl)
abbrev rm_Model_drop : Room := { frames := 1, cells := 1, slots := 6, locals := 0 }
noncomputable def fm_Model_drop (u : xk_St) : Option (Int64 × xk_St) :=
  (xs_let (xs_I u 26 ((u.1 26) - (1 : Int32))) fun u1 => if (u1.1 26) < 0 ∨ 19000 ≤ (u1.1 26).toNatClampNeg then none else some ((u1.2.2.2 3 (u1.1 26).toNatClampNeg), u1))
set_option maxHeartbeats 4000000 in
set_option maxRecDepth 100000 in
theorem ct_Model_drop {l : Launch} {D : va_G} {ad : Nat → Nat} {ca : Nat → ClassId} {ads : List Nat} (htr : l.stackTraces = false) (hok : xk_ok (kw_m ad ca) ads) {u u' : xk_St} {r : Int64} (h : fm_Model_drop u = some (r, u')) :
    ∀ sz, xk_Met l ⟨"ModuleHouseModel", "drop", "()J"⟩ (Cond.code ⟨"ModuleHouseModel", "drop", "()J"⟩ prog_14_method_105_code 1 (some .long) :: xk_gd) rm_Model_drop (xk_Pc D kx_cl (kx_ty ca) (kw_m ad ca) ads xk_F sz [.ref (ad 0)] u) (xk_Qc D kx_cl (kw_m ad ca) ads (xo_l (.inl r)) u') (xk_A ads sz) := by
  unfold fm_Model_drop at h
  refine xk_con (by decide) htr hok (Nat.le_of_ble_eq_true rfl) (fun p e s m below meth c ls C hne hl hP => ?_)
  have hx := C.1.1
  have hb := C.1.2.1
  have hS : va_S (xk_A ads s.heap.size) s.heap s.heap [] := va_S.rf
  have hl : lv_has ls 1 [(0, .ref (ad 0))] := hl
  refine lv_aload_n hx hb dd_Model_drop_0 rfl (lv_at hl 0 rfl) ?_
  refine lv_dup hx hb dd_Model_drop_1 rfl ?_
  refine gf_m_Model_0_top C hP dd_Model_drop_2 ?_
  refine lv_iconst (v := 1) hx hb dd_Model_drop_5 (by decide) ?_
  refine lv_isub hx hb dd_Model_drop_6 ?_
  refine pf_m_Model_0_top C hP hS dd_Model_drop_7 (fun H locs hP hS => ?_)
  obtain ⟨u1, eu1, h⟩ := xp_let h
  rw [← eu1] at hP
  refine lv_aload_n hx hb dd_Model_drop_10 rfl (lv_at hl 0 rfl) ?_
  refine gf_m_Model_0_values C hP dd_Model_drop_11 ?_
  refine lv_aload_n hx hb dd_Model_drop_14 rfl (lv_at hl 0 rfl) ?_
  refine gf_m_Model_0_top C hP dd_Model_drop_15 ?_
  obtain ⟨hi, h⟩ := xp_g h
  refine al_m_33 C hP hi dd_Model_drop_18 ?_
  obtain ⟨rfl, rfl⟩ := xp_r h
  exact xr_lret C hP hS dd_Model_drop_19
abbrev rm_Model_tell : Room := { frames := 2, cells := 1, slots := 6, locals := 23 }
noncomputable def fm_Model_tell (x0 : Int64) (u : xk_St) : Option (Unit × xk_St) :=
  (xs_seq (fm_Model_lay x0 (0 : Int32) u) fun _ u1 => some ((()), u1))
set_option maxHeartbeats 4000000 in
set_option maxRecDepth 100000 in
theorem ct_Model_tell {l : Launch} {D : va_G} {ad : Nat → Nat} {ca : Nat → ClassId} {ads : List Nat} (htr : l.stackTraces = false) (hok : xk_ok (kw_m ad ca) ads) {x0 : Int64} {u u' : xk_St} {r : Unit} (h : fm_Model_tell x0 u = some (r, u')) :
    ∀ sz, xk_Met l ⟨"ModuleHouseModel", "tell", "(J)V"⟩ (Cond.code ⟨"ModuleHouseModel", "tell", "(J)V"⟩ prog_14_method_104_code 3 none :: xk_gd) rm_Model_tell (xk_Pc D kx_cl (kx_ty ca) (kw_m ad ca) ads xk_F sz [.ref (ad 0), .long x0] u) (xk_Qc D kx_cl (kw_m ad ca) ads (xo_v (.inl r)) u') (xk_A ads sz) := by
  unfold fm_Model_tell at h
  refine xk_con (by decide) htr hok (Nat.le_of_ble_eq_true rfl) (fun p e s m below meth c ls C hne hl hP => ?_)
  have hx := C.1.1
  have hb := C.1.2.1
  have hS : va_S (xk_A ads s.heap.size) s.heap s.heap [] := va_S.rf
  have hl : lv_has ls 3 [(0, .ref (ad 0)), (1, .long x0)] := hl
  refine lv_aload_n hx hb dd_Model_tell_0 rfl (lv_at hl 0 rfl) ?_
  refine lv_lload_n hx hb dd_Model_tell_1 rfl (lv_at hl 1 rfl) ?_
  refine lv_iconst (v := 0) hx hb dd_Model_tell_2 (by decide) ?_
  obtain ⟨rx, u1, hq, h⟩ := xp_seq h
  refine xk_goesV (xr_V (As := [.long x0, .int (0 : Int32)]) (rest := []) C hP hS (ct_Model_lay htr hok hq) kq_Model_676 0 11 rfl rfl ⟨rfl, rfl, Nat.le_of_ble_eq_true rfl, Nat.le_of_ble_eq_true rfl⟩ ⟨Nat.le_of_ble_eq_true rfl, Nat.le_of_ble_eq_true rfl⟩ hl.1 rfl rfl (Nat.le_of_ble_eq_true rfl) dd_Model_tell_3) hS (fun H locs hP hS => ?_)
  clear hq
  obtain ⟨rfl, rfl⟩ := xp_r h
  exact xr_vret C hP hS dd_Model_tell_6
abbrev rm_Model_isOf : Room := { frames := 1, cells := 1, slots := 6, locals := 0 }
noncomputable def jb_Model_isOf_37 (u : xk_St) : Option (Int32 × xk_St) :=
  some ((1 : Int32), u)
noncomputable def jb_Model_isOf_21 (b1 : Int64) (b3 : Int32) (s0 : Int32) (u : xk_St) : Option (Int32 × xk_St) :=
  if (2 : Int32) ≤ b3 then (if s0 = (0 : Int32) then ((if (2 : Int64) = (0 : Int64) then none else if (((b1 / (2 : Int64)).toInt32) - (1 : Int32)) < 0 ∨ 2001 ≤ (((b1 / (2 : Int64)).toInt32) - (1 : Int32)).toNatClampNeg then none else if (u.2.2.1 39 (((b1 / (2 : Int64)).toInt32) - (1 : Int32)).toNatClampNeg) < 0 ∨ 64 ≤ (u.2.2.1 39 (((b1 / (2 : Int64)).toInt32) - (1 : Int32)).toNatClampNeg).toNatClampNeg then none else if (b3 - (2 : Int32)) < 0 ∨ 64 ≤ (b3 - (2 : Int32)).toNatClampNeg then none else if (u.2.2.1 8 (u.2.2.1 39 (((b1 / (2 : Int64)).toInt32) - (1 : Int32)).toNatClampNeg).toNatClampNeg) = (u.2.2.1 8 (b3 - (2 : Int32)).toNatClampNeg) then (some ((1 : Int32), u)) else (some ((0 : Int32), u)))) else (some ((0 : Int32), u))) else (if b3 = (0 : Int32) then (jb_Model_isOf_37 u) else (if s0 = (0 : Int32) then (some ((0 : Int32), u)) else (jb_Model_isOf_37 u)))
noncomputable def fm_Model_isOf (x0 : Int64) (x1 : Int32) (u : xk_St) : Option (Int32 × xk_St) :=
  if x0 = (0 : Int64) then (some ((0 : Int32), u)) else (if (x0 &&& (1 : Int64)) = (1 : Int64) then (jb_Model_isOf_21 x0 x1 (1 : Int32) u) else (jb_Model_isOf_21 x0 x1 (0 : Int32) u))
set_option maxHeartbeats 4000000 in
set_option maxRecDepth 100000 in
theorem wj_Model_isOf_37 {p : Program} {l : Launch} {e : Env} {s : State} {m : MethodId} {args : Array Value} {below : List Frame} {meth : Method} {c : Code} {D : va_G} {ad : Nat → Nat} {ca : Nat → ClassId} {ads : List Nat} (htr : l.stackTraces = false) (C : xk_C D kx_cl (kx_ty ca) (kw_m ad ca) ads "ModuleHouseModel" prog_14_method_125_code 5 (some .boolean) p e s m args meth c) (hne : c.exceptionTable.isEmpty = true) {u' : xk_St} {r : Int32} {u : xk_St} {H : Heap} {locs : List Loc} {ls : Array Slot} (h : jb_Model_isOf_37   u = some (r, u')) (hP : va_P D kx_cl (kw_m ad ca u) H) (hS : va_S (xk_A ads s.heap.size) s.heap H locs) (hl : lv_has ls 5 []) : W p l e rm_Model_isOf s m args below meth c H locs 0 0 (xk_MQ below (xk_Qc D kx_cl (kw_m ad ca) ads (xo_i (.inl r)) u') args s (xk_A ads s.heap.size)) (F0 m 37 ls []) := by
  have hx := C.1.1
  have hb := C.1.2.1
  have hok := C.2.2.1
  unfold jb_Model_isOf_37 at h
  refine lv_iconst (v := 1) hx hb dd_Model_isOf_37 (by decide) ?_
  refine lv_goto (tgt := 42) hx hb dd_Model_isOf_38 (by decide) ?_
  obtain ⟨rfl, rfl⟩ := xp_r h
  exact xr_zret C hP hS (by decide) dd_Model_isOf_42
set_option maxHeartbeats 4000000 in
set_option maxRecDepth 100000 in
theorem wj_Model_isOf_21 {p : Program} {l : Launch} {e : Env} {s : State} {m : MethodId} {args : Array Value} {below : List Frame} {meth : Method} {c : Code} {D : va_G} {ad : Nat → Nat} {ca : Nat → ClassId} {ads : List Nat} (htr : l.stackTraces = false) (C : xk_C D kx_cl (kx_ty ca) (kw_m ad ca) ads "ModuleHouseModel" prog_14_method_125_code 5 (some .boolean) p e s m args meth c) (hne : c.exceptionTable.isEmpty = true) {u' : xk_St} {r : Int32} {b1 : Int64} {b3 : Int32} {s0 : Int32} {u : xk_St} {H : Heap} {locs : List Loc} {ls : Array Slot} (h : jb_Model_isOf_21  b1 b3 s0 u = some (r, u')) (hP : va_P D kx_cl (kw_m ad ca u) H) (hS : va_S (xk_A ads s.heap.size) s.heap H locs) (hl : lv_has ls 5 [(0, .ref (ad 0)), (1, .long b1), (3, .int b3)]) : W p l e rm_Model_isOf s m args below meth c H locs 0 0 (xk_MQ below (xk_Qc D kx_cl (kw_m ad ca) ads (xo_i (.inl r)) u') args s (xk_A ads s.heap.size)) (F0 m 21 ls [.int s0]) := by
  have hx := C.1.1
  have hb := C.1.2.1
  have hok := C.2.2.1
  unfold jb_Model_isOf_21 at h
  refine lv_istore (lv' := [(4, .int s0), (0, .ref (ad 0)), (1, .long b1), (3, .int b3)]) hx hb dd_Model_isOf_21 hl (by decide) rfl (fun ls hl => ?_)
  refine lv_iload_n hx hb dd_Model_isOf_23 rfl (lv_at hl 3 rfl) ?_
  refine lv_iconst (v := 2) hx hb dd_Model_isOf_24 (by decide) ?_
  refine lv_icmp_ge (tgt := 43) hx hb dd_Model_isOf_25 (by decide) (fun hc => ?_) (fun hc => ?_)
  · have h := xp_t hc h
    refine lv_iload hx hb dd_Model_isOf_43 (lv_at hl 0 rfl) ?_
    refine lv_if_ne (tgt := 81) hx hb dd_Model_isOf_45 (by decide) (fun hc => ?_) (fun hc => ?_)
    · have h := xp_f hc h
      refine lv_iconst (v := 0) hx hb dd_Model_isOf_81 (by decide) ?_
      obtain ⟨rfl, rfl⟩ := xp_r h
      exact xr_zret C hP hS (by decide) dd_Model_isOf_82
    · have h := xp_t hc h
      refine lv_aload_n hx hb dd_Model_isOf_48 rfl (lv_at hl 1 rfl) ?_
      refine gf_m_Model_0_alike C hP dd_Model_isOf_49 ?_
      refine lv_aload_n hx hb dd_Model_isOf_52 rfl (lv_at hl 1 rfl) ?_
      refine gf_m_Model_0_objectOf C hP dd_Model_isOf_53 ?_
      refine lv_lload_n hx hb dd_Model_isOf_56 rfl (lv_at hl 2 rfl) ?_
      refine lv_ldc2 (v := 2) hx hb C.1.2.2.2.1 (C.1.2.2.2.2 _ (xk_c9 (w := Jvm.Cond.constantLong "ModuleHouseModel" 283 2) 200 rfl rfl)) dd_Model_isOf_57 ?_
      obtain ⟨hz, h⟩ := xp_g h
      refine lv_ldiv hx hb dd_Model_isOf_60 hz ?_
      refine lv_l2i hx hb dd_Model_isOf_61 rfl ?_
      refine lv_iconst (v := 1) hx hb dd_Model_isOf_62 (by decide) ?_
      refine lv_isub hx hb dd_Model_isOf_63 ?_
      obtain ⟨hi, h⟩ := xp_g h
      refine al_m_46 C hP hi dd_Model_isOf_64 ?_
      obtain ⟨hi, h⟩ := xp_g h
      refine al_m_10 C hP hi dd_Model_isOf_65 ?_
      refine lv_aload_n hx hb dd_Model_isOf_66 rfl (lv_at hl 1 rfl) ?_
      refine gf_m_Model_0_alike C hP dd_Model_isOf_67 ?_
      refine lv_iload_n hx hb dd_Model_isOf_70 rfl (lv_at hl 3 rfl) ?_
      refine lv_iconst (v := 2) hx hb dd_Model_isOf_71 (by decide) ?_
      refine lv_isub hx hb dd_Model_isOf_72 ?_
      obtain ⟨hi, h⟩ := xp_g h
      refine al_m_10 C hP hi dd_Model_isOf_73 ?_
      refine lv_icmp_ne (tgt := 81) hx hb dd_Model_isOf_74 (by decide) (fun hc => ?_) (fun hc => ?_)
      · have h := xp_f hc h
        refine lv_iconst (v := 0) hx hb dd_Model_isOf_81 (by decide) ?_
        obtain ⟨rfl, rfl⟩ := xp_r h
        exact xr_zret C hP hS (by decide) dd_Model_isOf_82
      · have h := xp_t hc h
        refine lv_iconst (v := 1) hx hb dd_Model_isOf_77 (by decide) ?_
        refine lv_goto (tgt := 82) hx hb dd_Model_isOf_78 (by decide) ?_
        obtain ⟨rfl, rfl⟩ := xp_r h
        exact xr_zret C hP hS (by decide) dd_Model_isOf_82
  · have h := xp_f hc h
    refine lv_iload_n hx hb dd_Model_isOf_28 rfl (lv_at hl 3 rfl) ?_
    refine lv_if_eq (tgt := 37) hx hb dd_Model_isOf_29 (by decide) (fun hc => ?_) (fun hc => ?_)
    · have h := xp_t hc h
      exact wj_Model_isOf_37 htr C hne h hP hS (lv_sub hl [] rfl)
    · have h := xp_f hc h
      refine lv_iload hx hb dd_Model_isOf_32 (lv_at hl 0 rfl) ?_
      refine lv_if_eq (tgt := 41) hx hb dd_Model_isOf_34 (by decide) (fun hc => ?_) (fun hc => ?_)
      · have h := xp_t hc h
        refine lv_iconst (v := 0) hx hb dd_Model_isOf_41 (by decide) ?_
        obtain ⟨rfl, rfl⟩ := xp_r h
        exact xr_zret C hP hS (by decide) dd_Model_isOf_42
      · have h := xp_f hc h
        exact wj_Model_isOf_37 htr C hne h hP hS (lv_sub hl [] rfl)
set_option maxHeartbeats 4000000 in
set_option maxRecDepth 100000 in
theorem ct_Model_isOf {l : Launch} {D : va_G} {ad : Nat → Nat} {ca : Nat → ClassId} {ads : List Nat} (htr : l.stackTraces = false) (hok : xk_ok (kw_m ad ca) ads) {x0 : Int64} {x1 : Int32} {u u' : xk_St} {r : Int32} (h : fm_Model_isOf x0 x1 u = some (r, u')) :
    ∀ sz, xk_Met l ⟨"ModuleHouseModel", "isOf", "(JI)Z"⟩ (Cond.code ⟨"ModuleHouseModel", "isOf", "(JI)Z"⟩ prog_14_method_125_code 5 (some .boolean) :: xk_gd) rm_Model_isOf (xk_Pc D kx_cl (kx_ty ca) (kw_m ad ca) ads xk_F sz [.ref (ad 0), .long x0, .int x1] u) (xk_Qc D kx_cl (kw_m ad ca) ads (xo_i (.inl r)) u') (xk_A ads sz) := by
  unfold fm_Model_isOf at h
  refine xk_con (by decide) htr hok (Nat.le_of_ble_eq_true rfl) (fun p e s m below meth c ls C hne hl hP => ?_)
  have hx := C.1.1
  have hb := C.1.2.1
  have hS : va_S (xk_A ads s.heap.size) s.heap s.heap [] := va_S.rf
  have hl : lv_has ls 5 [(0, .ref (ad 0)), (1, .long x0), (3, .int x1)] := hl
  refine lv_lload_n hx hb dd_Model_isOf_0 rfl (lv_at hl 1 rfl) ?_
  refine lv_lconst (v := 0) hx hb dd_Model_isOf_1 (by decide) ?_
  refine xr_lc_ne (tgt := 8) hx hb dd_Model_isOf_2 dd_Model_isOf_3 (by decide) (fun hc => ?_) (fun hc => ?_)
  · have h := xp_f hc h
    refine lv_lload_n hx hb dd_Model_isOf_8 rfl (lv_at hl 1 rfl) ?_
    refine lv_lconst (v := 1) hx hb dd_Model_isOf_9 (by decide) ?_
    refine lv_land hx hb dd_Model_isOf_10 ?_
    refine lv_lconst (v := 1) hx hb dd_Model_isOf_11 (by decide) ?_
    refine xr_lc_ne (tgt := 20) hx hb dd_Model_isOf_12 dd_Model_isOf_13 (by decide) (fun hc => ?_) (fun hc => ?_)
    · have h := xp_f hc h
      refine lv_iconst (v := 0) hx hb dd_Model_isOf_20 (by decide) ?_
      exact wj_Model_isOf_21 htr C hne h hP hS (lv_sub hl [0, 1, 2] rfl)
    · have h := xp_t hc h
      refine lv_iconst (v := 1) hx hb dd_Model_isOf_16 (by decide) ?_
      refine lv_goto (tgt := 21) hx hb dd_Model_isOf_17 (by decide) ?_
      exact wj_Model_isOf_21 htr C hne h hP hS (lv_sub hl [0, 1, 2] rfl)
  · have h := xp_t hc h
    refine lv_iconst (v := 0) hx hb dd_Model_isOf_6 (by decide) ?_
    obtain ⟨rfl, rfl⟩ := xp_r h
    exact xr_zret C hP hS (by decide) dd_Model_isOf_7
