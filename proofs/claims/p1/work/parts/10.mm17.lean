abbrev rm_Model_call : Room := { frames := 9, cells := 1, slots := 6, locals := 177 }
noncomputable def jb_Model_call_216 (fu : Nat) (k173 : Int32 → Int32 → Int32 → Int32 → Int32 → xk_St → Option (Int32 × xk_St)) (b1 : Int32) (b3 : Int32) (b4 : Int32) (b5 : Int32) (b7 : Int32) (s0 : Int64) (u : xk_St) : Option (Int32 × xk_St) :=
  (xs_seq (fm_Model_lay s0 (0 : Int32) u) fun _ u13 => xs_let (b7 + (1 : Int32)) fun a14 => k173 b1 b3 b4 b5 a14 u13)
noncomputable def jb_Model_call_173 (fu : Nat) : Nat → Int32 → Int32 → Int32 → Int32 → Int32 → xk_St → Option (Int32 × xk_St)
  | 0 => fun _ _ _ _ _ _ => none
  | n + 1 => fun b1 b3 b4 b5 b7 u =>
    xs_let (jb_Model_call_173 fu  n) fun k173 =>
    if b3 ≤ b7 then ((xs_let (xs_I u 29 (0 : Int32)) fun u11 => if b4 < 0 ∨ 64 ≤ b4.toNatClampNeg then none else xs_seq (fm_Model_run fu (u11.2.2.1 19 b4.toNatClampNeg) (b1.toInt64) u11) fun _ u12 => some ((u12.1 29), u12))) else ((if (((32 : Int32) * b5) + b7) < 0 ∨ 2048 ≤ (((32 : Int32) * b5) + b7).toNatClampNeg then none else if (u.2.2.1 7 (((32 : Int32) * b5) + b7).toNatClampNeg) = (1 : Int32) then ((if b7 < 0 ∨ 16 ≤ b7.toNatClampNeg then none else jb_Model_call_216 fu k173 b1 b3 b4 b5 b7 (((u.2.2.2 0 b7.toNatClampNeg).toInt32).toInt64) u)) else ((if b7 < 0 ∨ 16 ≤ b7.toNatClampNeg then none else jb_Model_call_216 fu k173 b1 b3 b4 b5 b7 (u.2.2.2 0 b7.toNatClampNeg) u))))
noncomputable def jb_Model_call_154 (fu : Nat) (k113 : Int32 → Int32 → Int32 → Int32 → Int32 → Int32 → xk_St → Option (Int32 × xk_St)) (b1 : Int32) (b3 : Int32) (b4 : Int32) (b5 : Int32) (b7 : Int32) (s0 : Int32) (u : xk_St) : Option (Int32 × xk_St) :=
  (xs_let (b7 + (1 : Int32)) fun a15 => k113 b1 b3 b4 b5 s0 a15 u)
noncomputable def jb_Model_call_153 (fu : Nat) (k113 : Int32 → Int32 → Int32 → Int32 → Int32 → Int32 → xk_St → Option (Int32 × xk_St)) (b1 : Int32) (b3 : Int32) (b4 : Int32) (b5 : Int32) (b7 : Int32) (u : xk_St) : Option (Int32 × xk_St) :=
  jb_Model_call_154 fu k113 b1 b3 b4 b5 b7 (0 : Int32) u
noncomputable def jb_Model_call_113 (fu : Nat) : Nat → Int32 → Int32 → Int32 → Int32 → Int32 → Int32 → xk_St → Option (Int32 × xk_St)
  | 0 => fun _ _ _ _ _ _ _ => none
  | n + 1 => fun b1 b3 b4 b5 b6 b7 u =>
    xs_let (jb_Model_call_113 fu  n) fun k113 =>
    (if b5 < 0 ∨ 64 ≤ b5.toNatClampNeg then none else if (u.2.2.1 5 b5.toNatClampNeg) ≤ b7 then (if b6 = (0 : Int32) then (some ((-3 : Int32), u)) else (jb_Model_call_173 fu fu b1 b3 b4 b5 (0 : Int32) u)) else (if b6 = (0 : Int32) then (jb_Model_call_153 fu k113 b1 b3 b4 b5 b7 u) else ((if (((32 : Int32) * b5) + b7) < 0 ∨ 2048 ≤ (((32 : Int32) * b5) + b7).toNatClampNeg then none else xs_seq (fm_Model_isReference (u.2.2.1 7 (((32 : Int32) * b5) + b7).toNatClampNeg) u) fun a16 u17 => if a16 = (0 : Int32) then (jb_Model_call_154 fu k113 b1 b3 b4 b5 b7 (1 : Int32) u17) else (jb_Model_call_153 fu k113 b1 b3 b4 b5 b7 u17)))))
noncomputable def jb_Model_call_108 (fu : Nat) (b1 : Int32) (b3 : Int32) (b4 : Int32) (b5 : Int32) (s0 : Int32) (u : xk_St) : Option (Int32 × xk_St) :=
  jb_Model_call_113 fu fu b1 b3 b4 b5 s0 (0 : Int32) u
noncomputable def jb_Model_call_10 (fu : Nat) (b1 : Int32) (s0 : Int32) (u : xk_St) : Option (Int32 × xk_St) :=
  (xs_seq (fm_Model_fails s0 (1 : Int32) u) fun a1 u2 => if a1 = (0 : Int32) then ((xs_let (u2.1 1) fun a3 => xs_let (u2.1 2) fun a4 => xs_let (xs_I u2 1 (0 : Int32)) fun u5 => xs_let (xs_I u5 2 (0 : Int32)) fun u6 => xs_let (xs_I u6 31 (0 : Int32)) fun u7 => if (u7.1 25) = (0 : Int32) then (some ((-1 : Int32), u7)) else ((xs_seq (fm_Model_exportNamed fu a3 u7) fun a8 u9 => if a8 < (0 : Int32) then (some ((-2 : Int32), u9)) else ((if a8 < 0 ∨ 64 ≤ a8.toNatClampNeg then none else if (u9.2.2.1 18 a8.toNatClampNeg) = (0 : Int32) then ((if a8 < 0 ∨ 64 ≤ a8.toNatClampNeg then none else if (u9.2.2.1 19 a8.toNatClampNeg) < 0 ∨ 64 ≤ (u9.2.2.1 19 a8.toNatClampNeg).toNatClampNeg then none else xs_let (u9.2.2.1 9 (u9.2.2.1 19 a8.toNatClampNeg).toNatClampNeg) fun a10 => if a10 < 0 ∨ 64 ≤ a10.toNatClampNeg then none else if (u9.2.2.1 5 a10.toNatClampNeg) = a4 then (jb_Model_call_108 fu b1 a4 a8 a10 (1 : Int32) u9) else (jb_Model_call_108 fu b1 a4 a8 a10 (0 : Int32) u9))) else (some ((-2 : Int32), u9)))))))) else (some ((0 : Int32), u2)))
noncomputable def fm_Model_call (fu : Nat) (x0 : Int32) (u : xk_St) : Option (Int32 × xk_St) :=
  if (0 : Int32) ≤ x0 then (jb_Model_call_10 fu x0 (0 : Int32) u) else (jb_Model_call_10 fu x0 (1 : Int32) u)
set_option maxHeartbeats 4000000 in
set_option maxRecDepth 100000 in
theorem wj_Model_call_216 {p : Program} {l : Launch} {e : Env} {s : State} {m : MethodId} {args : Array Value} {below : List Frame} {meth : Method} {c : Code} {D : va_G} {ad : Nat → Nat} {ca : Nat → ClassId} {ads : List Nat} {fu : Nat} (htr : l.stackTraces = false) (C : xk_C D kx_cl (kx_ty ca) (kw_m ad ca) ads "ModuleHouseModel" prog_14_method_139_code 8 (some .int) p e s m args meth c) (hne : c.exceptionTable.isEmpty = true) {u' : xk_St} {r : Int32} {k173 : Int32 → Int32 → Int32 → Int32 → Int32 → xk_St → Option (Int32 × xk_St)} (hk173 : ∀ (c0 : Int32) (c1 : Int32) (c2 : Int32) (c3 : Int32) (c4 : Int32) (u : xk_St) (H : Heap) (locs : List Loc) (ls : Array Slot), k173 c0 c1 c2 c3 c4 u = some (r, u') → va_P D kx_cl (kw_m ad ca u) H → va_S (xk_A ads s.heap.size) s.heap H locs → lv_has ls 8 [(0, .ref (ad 0)), (1, .int c0), (3, .int c1), (4, .int c2), (5, .int c3), (7, .int c4)] → W p l e rm_Model_call s m args below meth c H locs 0 0 (xk_MQ below (xk_Qc D kx_cl (kw_m ad ca) ads (xo_i (.inl r)) u') args s (xk_A ads s.heap.size)) (F0 m 173 ls [])) {b1 : Int32} {b3 : Int32} {b4 : Int32} {b5 : Int32} {b7 : Int32} {s0 : Int64} {u : xk_St} {H : Heap} {locs : List Loc} {ls : Array Slot} (h : jb_Model_call_216 fu k173 b1 b3 b4 b5 b7 s0 u = some (r, u')) (hP : va_P D kx_cl (kw_m ad ca u) H) (hS : va_S (xk_A ads s.heap.size) s.heap H locs) (hl : lv_has ls 8 [(0, .ref (ad 0)), (1, .int b1), (3, .int b3), (4, .int b4), (5, .int b5), (7, .int b7)]) : W p l e rm_Model_call s m args below meth c H locs 0 0 (xk_MQ below (xk_Qc D kx_cl (kw_m ad ca) ads (xo_i (.inl r)) u') args s (xk_A ads s.heap.size)) (F0 m 216 ls [.long s0, .ref (ad 0)]) := by
  have hx := C.1.1
  have hb := C.1.2.1
  have hok := C.2.2.1
  unfold jb_Model_call_216 at h
  refine lv_iconst (v := 0) hx hb dd_Model_call_216 (by decide) ?_
  obtain ⟨rx, u13, hq, h⟩ := xp_seq h
  refine xk_goesV (xr_V (As := [.long s0, .int (0 : Int32)]) (rest := []) C hP hS (ct_Model_lay htr hok hq) kq_Model_676 0 11 rfl rfl ⟨rfl, rfl, Nat.le_of_ble_eq_true rfl, Nat.le_of_ble_eq_true rfl⟩ ⟨Nat.le_of_ble_eq_true rfl, Nat.le_of_ble_eq_true rfl⟩ hl.1 rfl rfl (Nat.le_of_ble_eq_true rfl) dd_Model_call_217) hS (fun H locs hP hS => ?_)
  clear hq
  obtain ⟨a14, ea14, h⟩ := xp_let h
  refine lv_iinc (v := a14) (lv' := [(7, .int a14), (0, .ref (ad 0)), (1, .int b1), (3, .int b3), (4, .int b4), (5, .int b5)]) hx hb dd_Model_call_220 hl (k := 5) rfl (by rw [ea14]; first | rfl | decide) (by decide) rfl (fun ls hl => ?_)
  refine lv_goto (tgt := 173) hx hb dd_Model_call_223 (by decide) ?_
  exact hk173 b1 b3 b4 b5 a14 u13 _ _ _ h hP hS (lv_sub hl [1, 2, 3, 4, 5, 0] rfl)
set_option maxHeartbeats 4000000 in
set_option maxRecDepth 100000 in
theorem wj_Model_call_173 {p : Program} {l : Launch} {e : Env} {s : State} {m : MethodId} {args : Array Value} {below : List Frame} {meth : Method} {c : Code} {D : va_G} {ad : Nat → Nat} {ca : Nat → ClassId} {ads : List Nat} {fu : Nat} (htr : l.stackTraces = false) (C : xk_C D kx_cl (kx_ty ca) (kw_m ad ca) ads "ModuleHouseModel" prog_14_method_139_code 8 (some .int) p e s m args meth c) (hne : c.exceptionTable.isEmpty = true) {u' : xk_St} {r : Int32} : ∀ {n : Nat} {b1 : Int32} {b3 : Int32} {b4 : Int32} {b5 : Int32} {b7 : Int32} {u : xk_St} {H : Heap} {locs : List Loc} {ls : Array Slot} (h : jb_Model_call_173 fu  n b1 b3 b4 b5 b7 u = some (r, u')) (hP : va_P D kx_cl (kw_m ad ca u) H) (hS : va_S (xk_A ads s.heap.size) s.heap H locs) (hl : lv_has ls 8 [(0, .ref (ad 0)), (1, .int b1), (3, .int b3), (4, .int b4), (5, .int b5), (7, .int b7)]), W p l e rm_Model_call s m args below meth c H locs 0 0 (xk_MQ below (xk_Qc D kx_cl (kw_m ad ca) ads (xo_i (.inl r)) u') args s (xk_A ads s.heap.size)) (F0 m 173 ls []) := by
  intro n
  have hx := C.1.1
  have hb := C.1.2.1
  have hok := C.2.2.1
  induction n with
  | zero =>
    intro _ _ _ _ _ u H locs ls h
    have h : none = some (r, u') := h
    cases h
  | succ n ih =>
    intro b1 b3 b4 b5 b7 u H locs ls h hP hS hl
    unfold jb_Model_call_173 at h
    obtain ⟨k173, ek173, h⟩ := xp_let h
    have hk173 : ∀ (c0 : Int32) (c1 : Int32) (c2 : Int32) (c3 : Int32) (c4 : Int32) (u : xk_St) (H : Heap) (locs : List Loc) (ls : Array Slot), k173 c0 c1 c2 c3 c4 u = some (r, u') → va_P D kx_cl (kw_m ad ca u) H → va_S (xk_A ads s.heap.size) s.heap H locs → lv_has ls 8 [(0, .ref (ad 0)), (1, .int c0), (3, .int c1), (4, .int c2), (5, .int c3), (7, .int c4)] → W p l e rm_Model_call s m args below meth c H locs 0 0 (xk_MQ below (xk_Qc D kx_cl (kw_m ad ca) ads (xo_i (.inl r)) u') args s (xk_A ads s.heap.size)) (F0 m 173 ls []) := by
      intro c0 c1 c2 c3 c4 u H locs ls h hP hS hl
      subst ek173
      exact ih h hP hS hl
    clear ih ek173
    refine lv_iload hx hb dd_Model_call_173 (lv_at hl 5 rfl) ?_
    refine lv_iload_n hx hb dd_Model_call_175 rfl (lv_at hl 2 rfl) ?_
    refine lv_icmp_ge (tgt := 226) hx hb dd_Model_call_176 (by decide) (fun hc => ?_) (fun hc => ?_)
    · have h := xp_t hc h
      refine lv_aload_n hx hb dd_Model_call_226 rfl (lv_at hl 0 rfl) ?_
      refine lv_iconst (v := 0) hx hb dd_Model_call_227 (by decide) ?_
      refine pf_m_Model_0_trap C hP hS dd_Model_call_228 (fun H locs hP hS => ?_)
      obtain ⟨u11, eu11, h⟩ := xp_let h
      rw [← eu11] at hP
      refine lv_aload_n hx hb dd_Model_call_231 rfl (lv_at hl 0 rfl) ?_
      refine lv_aload_n hx hb dd_Model_call_232 rfl (lv_at hl 0 rfl) ?_
      refine gf_m_Model_0_exportNumber C hP dd_Model_call_233 ?_
      refine lv_iload hx hb dd_Model_call_236 (lv_at hl 3 rfl) ?_
      obtain ⟨hi, h⟩ := xp_g h
      refine al_m_21 C hP hi dd_Model_call_238 ?_
      refine lv_iload_n hx hb dd_Model_call_239 rfl (lv_at hl 1 rfl) ?_
      refine lv_i2l hx hb dd_Model_call_240 rfl ?_
      obtain ⟨rx, u12, hq, h⟩ := xp_seq h
      refine xk_goesV (xr_V (As := [.int (u11.2.2.1 19 b4.toNatClampNeg), .long (b1.toInt64)]) (rest := []) C hP hS (ct_Model_run htr hok hq) kq_Model_819 0 11 rfl rfl ⟨rfl, rfl, Nat.le_of_ble_eq_true rfl, Nat.le_of_ble_eq_true rfl⟩ ⟨Nat.le_of_ble_eq_true rfl, Nat.le_of_ble_eq_true rfl⟩ hl.1 rfl rfl (Nat.le_of_ble_eq_true rfl) dd_Model_call_241) hS (fun H locs hP hS => ?_)
      clear hq
      refine lv_aload_n hx hb dd_Model_call_244 rfl (lv_at hl 0 rfl) ?_
      refine gf_m_Model_0_trap C hP dd_Model_call_245 ?_
      obtain ⟨rfl, rfl⟩ := xp_r h
      exact xr_iret C hP hS dd_Model_call_248
    · have h := xp_f hc h
      refine lv_aload_n hx hb dd_Model_call_179 rfl (lv_at hl 0 rfl) ?_
      refine lv_aload_n hx hb dd_Model_call_180 rfl (lv_at hl 0 rfl) ?_
      refine gf_m_Model_0_parts C hP dd_Model_call_181 ?_
      refine lv_bipush (v := 32) hx hb dd_Model_call_184 (by decide) ?_
      refine lv_iload hx hb dd_Model_call_186 (lv_at hl 4 rfl) ?_
      refine lv_imul hx hb dd_Model_call_188 ?_
      refine lv_iload hx hb dd_Model_call_189 (lv_at hl 5 rfl) ?_
      refine lv_iadd hx hb dd_Model_call_191 ?_
      obtain ⟨hi, h⟩ := xp_g h
      refine al_m_9 C hP hi dd_Model_call_192 ?_
      refine lv_iconst (v := 1) hx hb dd_Model_call_193 (by decide) ?_
      refine lv_icmp_ne (tgt := 209) hx hb dd_Model_call_194 (by decide) (fun hc => ?_) (fun hc => ?_)
      · have h := xp_f hc h
        refine lv_aload_n hx hb dd_Model_call_209 rfl (lv_at hl 0 rfl) ?_
        refine gf_m_Model_0_given C hP dd_Model_call_210 ?_
        refine lv_iload hx hb dd_Model_call_213 (lv_at hl 5 rfl) ?_
        obtain ⟨hi, h⟩ := xp_g h
        refine al_m_2 C hP hi dd_Model_call_215 ?_
        exact wj_Model_call_216 htr C hne hk173 h hP hS (lv_sub hl [0, 1, 2, 3, 4, 5] rfl)
      · have h := xp_t hc h
        refine lv_aload_n hx hb dd_Model_call_197 rfl (lv_at hl 0 rfl) ?_
        refine gf_m_Model_0_given C hP dd_Model_call_198 ?_
        refine lv_iload hx hb dd_Model_call_201 (lv_at hl 5 rfl) ?_
        obtain ⟨hi, h⟩ := xp_g h
        refine al_m_2 C hP hi dd_Model_call_203 ?_
        refine lv_l2i hx hb dd_Model_call_204 rfl ?_
        refine lv_i2l hx hb dd_Model_call_205 rfl ?_
        refine lv_goto (tgt := 216) hx hb dd_Model_call_206 (by decide) ?_
        exact wj_Model_call_216 htr C hne hk173 h hP hS (lv_sub hl [0, 1, 2, 3, 4, 5] rfl)
set_option maxHeartbeats 4000000 in
set_option maxRecDepth 100000 in
theorem wj_Model_call_154 {p : Program} {l : Launch} {e : Env} {s : State} {m : MethodId} {args : Array Value} {below : List Frame} {meth : Method} {c : Code} {D : va_G} {ad : Nat → Nat} {ca : Nat → ClassId} {ads : List Nat} {fu : Nat} (htr : l.stackTraces = false) (C : xk_C D kx_cl (kx_ty ca) (kw_m ad ca) ads "ModuleHouseModel" prog_14_method_139_code 8 (some .int) p e s m args meth c) (hne : c.exceptionTable.isEmpty = true) {u' : xk_St} {r : Int32} {k113 : Int32 → Int32 → Int32 → Int32 → Int32 → Int32 → xk_St → Option (Int32 × xk_St)} (hk113 : ∀ (c0 : Int32) (c1 : Int32) (c2 : Int32) (c3 : Int32) (c4 : Int32) (c5 : Int32) (u : xk_St) (H : Heap) (locs : List Loc) (ls : Array Slot), k113 c0 c1 c2 c3 c4 c5 u = some (r, u') → va_P D kx_cl (kw_m ad ca u) H → va_S (xk_A ads s.heap.size) s.heap H locs → lv_has ls 8 [(0, .ref (ad 0)), (1, .int c0), (3, .int c1), (4, .int c2), (5, .int c3), (6, .int c4), (7, .int c5)] → W p l e rm_Model_call s m args below meth c H locs 0 0 (xk_MQ below (xk_Qc D kx_cl (kw_m ad ca) ads (xo_i (.inl r)) u') args s (xk_A ads s.heap.size)) (F0 m 113 ls [])) {b1 : Int32} {b3 : Int32} {b4 : Int32} {b5 : Int32} {b7 : Int32} {s0 : Int32} {u : xk_St} {H : Heap} {locs : List Loc} {ls : Array Slot} (h : jb_Model_call_154 fu k113 b1 b3 b4 b5 b7 s0 u = some (r, u')) (hP : va_P D kx_cl (kw_m ad ca u) H) (hS : va_S (xk_A ads s.heap.size) s.heap H locs) (hl : lv_has ls 8 [(0, .ref (ad 0)), (1, .int b1), (3, .int b3), (4, .int b4), (5, .int b5), (7, .int b7)]) : W p l e rm_Model_call s m args below meth c H locs 0 0 (xk_MQ below (xk_Qc D kx_cl (kw_m ad ca) ads (xo_i (.inl r)) u') args s (xk_A ads s.heap.size)) (F0 m 154 ls [.int s0]) := by
  have hx := C.1.1
  have hb := C.1.2.1
  have hok := C.2.2.1
  unfold jb_Model_call_154 at h
  refine lv_istore (lv' := [(6, .int s0), (0, .ref (ad 0)), (1, .int b1), (3, .int b3), (4, .int b4), (5, .int b5), (7, .int b7)]) hx hb dd_Model_call_154 hl (by decide) rfl (fun ls hl => ?_)
  obtain ⟨a15, ea15, h⟩ := xp_let h
  refine lv_iinc (v := a15) (lv' := [(7, .int a15), (6, .int s0), (0, .ref (ad 0)), (1, .int b1), (3, .int b3), (4, .int b4), (5, .int b5)]) hx hb dd_Model_call_156 hl (k := 6) rfl (by rw [ea15]; first | rfl | decide) (by decide) rfl (fun ls hl => ?_)
  refine lv_goto (tgt := 113) hx hb dd_Model_call_159 (by decide) ?_
  exact hk113 b1 b3 b4 b5 s0 a15 u _ _ _ h hP hS (lv_sub hl [2, 3, 4, 5, 6, 1, 0] rfl)
set_option maxHeartbeats 4000000 in
set_option maxRecDepth 100000 in
theorem wj_Model_call_153 {p : Program} {l : Launch} {e : Env} {s : State} {m : MethodId} {args : Array Value} {below : List Frame} {meth : Method} {c : Code} {D : va_G} {ad : Nat → Nat} {ca : Nat → ClassId} {ads : List Nat} {fu : Nat} (htr : l.stackTraces = false) (C : xk_C D kx_cl (kx_ty ca) (kw_m ad ca) ads "ModuleHouseModel" prog_14_method_139_code 8 (some .int) p e s m args meth c) (hne : c.exceptionTable.isEmpty = true) {u' : xk_St} {r : Int32} {k113 : Int32 → Int32 → Int32 → Int32 → Int32 → Int32 → xk_St → Option (Int32 × xk_St)} (hk113 : ∀ (c0 : Int32) (c1 : Int32) (c2 : Int32) (c3 : Int32) (c4 : Int32) (c5 : Int32) (u : xk_St) (H : Heap) (locs : List Loc) (ls : Array Slot), k113 c0 c1 c2 c3 c4 c5 u = some (r, u') → va_P D kx_cl (kw_m ad ca u) H → va_S (xk_A ads s.heap.size) s.heap H locs → lv_has ls 8 [(0, .ref (ad 0)), (1, .int c0), (3, .int c1), (4, .int c2), (5, .int c3), (6, .int c4), (7, .int c5)] → W p l e rm_Model_call s m args below meth c H locs 0 0 (xk_MQ below (xk_Qc D kx_cl (kw_m ad ca) ads (xo_i (.inl r)) u') args s (xk_A ads s.heap.size)) (F0 m 113 ls [])) {b1 : Int32} {b3 : Int32} {b4 : Int32} {b5 : Int32} {b7 : Int32} {u : xk_St} {H : Heap} {locs : List Loc} {ls : Array Slot} (h : jb_Model_call_153 fu k113 b1 b3 b4 b5 b7 u = some (r, u')) (hP : va_P D kx_cl (kw_m ad ca u) H) (hS : va_S (xk_A ads s.heap.size) s.heap H locs) (hl : lv_has ls 8 [(0, .ref (ad 0)), (1, .int b1), (3, .int b3), (4, .int b4), (5, .int b5), (7, .int b7)]) : W p l e rm_Model_call s m args below meth c H locs 0 0 (xk_MQ below (xk_Qc D kx_cl (kw_m ad ca) ads (xo_i (.inl r)) u') args s (xk_A ads s.heap.size)) (F0 m 153 ls []) := by
  have hx := C.1.1
  have hb := C.1.2.1
  have hok := C.2.2.1
  unfold jb_Model_call_153 at h
  refine lv_iconst (v := 0) hx hb dd_Model_call_153 (by decide) ?_
  exact wj_Model_call_154 htr C hne hk113 h hP hS (lv_sub hl [0, 1, 2, 3, 4, 5] rfl)
set_option maxHeartbeats 4000000 in
set_option maxRecDepth 100000 in
theorem wj_Model_call_113 {p : Program} {l : Launch} {e : Env} {s : State} {m : MethodId} {args : Array Value} {below : List Frame} {meth : Method} {c : Code} {D : va_G} {ad : Nat → Nat} {ca : Nat → ClassId} {ads : List Nat} {fu : Nat} (htr : l.stackTraces = false) (C : xk_C D kx_cl (kx_ty ca) (kw_m ad ca) ads "ModuleHouseModel" prog_14_method_139_code 8 (some .int) p e s m args meth c) (hne : c.exceptionTable.isEmpty = true) {u' : xk_St} {r : Int32} : ∀ {n : Nat} {b1 : Int32} {b3 : Int32} {b4 : Int32} {b5 : Int32} {b6 : Int32} {b7 : Int32} {u : xk_St} {H : Heap} {locs : List Loc} {ls : Array Slot} (h : jb_Model_call_113 fu  n b1 b3 b4 b5 b6 b7 u = some (r, u')) (hP : va_P D kx_cl (kw_m ad ca u) H) (hS : va_S (xk_A ads s.heap.size) s.heap H locs) (hl : lv_has ls 8 [(0, .ref (ad 0)), (1, .int b1), (3, .int b3), (4, .int b4), (5, .int b5), (6, .int b6), (7, .int b7)]), W p l e rm_Model_call s m args below meth c H locs 0 0 (xk_MQ below (xk_Qc D kx_cl (kw_m ad ca) ads (xo_i (.inl r)) u') args s (xk_A ads s.heap.size)) (F0 m 113 ls []) := by
  intro n
  have hx := C.1.1
  have hb := C.1.2.1
  have hok := C.2.2.1
  induction n with
  | zero =>
    intro _ _ _ _ _ _ u H locs ls h
    have h : none = some (r, u') := h
    cases h
  | succ n ih =>
    intro b1 b3 b4 b5 b6 b7 u H locs ls h hP hS hl
    unfold jb_Model_call_113 at h
    obtain ⟨k113, ek113, h⟩ := xp_let h
    have hk113 : ∀ (c0 : Int32) (c1 : Int32) (c2 : Int32) (c3 : Int32) (c4 : Int32) (c5 : Int32) (u : xk_St) (H : Heap) (locs : List Loc) (ls : Array Slot), k113 c0 c1 c2 c3 c4 c5 u = some (r, u') → va_P D kx_cl (kw_m ad ca u) H → va_S (xk_A ads s.heap.size) s.heap H locs → lv_has ls 8 [(0, .ref (ad 0)), (1, .int c0), (3, .int c1), (4, .int c2), (5, .int c3), (6, .int c4), (7, .int c5)] → W p l e rm_Model_call s m args below meth c H locs 0 0 (xk_MQ below (xk_Qc D kx_cl (kw_m ad ca) ads (xo_i (.inl r)) u') args s (xk_A ads s.heap.size)) (F0 m 113 ls []) := by
      intro c0 c1 c2 c3 c4 c5 u H locs ls h hP hS hl
      subst ek113
      exact ih h hP hS hl
    clear ih ek113
    refine lv_iload hx hb dd_Model_call_113 (lv_at hl 6 rfl) ?_
    refine lv_aload_n hx hb dd_Model_call_115 rfl (lv_at hl 0 rfl) ?_
    refine gf_m_Model_0_partMany C hP dd_Model_call_116 ?_
    refine lv_iload hx hb dd_Model_call_119 (lv_at hl 4 rfl) ?_
    obtain ⟨hi, h⟩ := xp_g h
    refine al_m_7 C hP hi dd_Model_call_121 ?_
    refine lv_icmp_ge (tgt := 162) hx hb dd_Model_call_122 (by decide) (fun hc => ?_) (fun hc => ?_)
    · have h := xp_t hc h
      refine lv_iload hx hb dd_Model_call_162 (lv_at hl 5 rfl) ?_
      refine lv_if_ne (tgt := 170) hx hb dd_Model_call_164 (by decide) (fun hc => ?_) (fun hc => ?_)
      · have h := xp_f hc h
        refine lv_iconst (v := 0) hx hb dd_Model_call_170 (by decide) ?_
        refine lv_istore (lv' := [(7, .int (0 : Int32)), (0, .ref (ad 0)), (1, .int b1), (3, .int b3), (4, .int b4), (5, .int b5), (6, .int b6)]) hx hb dd_Model_call_171 hl (by decide) rfl (fun ls hl => ?_)
        exact wj_Model_call_173 htr C hne h hP hS (lv_sub hl [1, 2, 3, 4, 5, 0] rfl)
      · have h := xp_t hc h
        refine lv_bipush (v := (-3)) hx hb dd_Model_call_167 (by decide) ?_
        obtain ⟨rfl, rfl⟩ := xp_r h
        exact xr_iret C hP hS dd_Model_call_169
    · have h := xp_f hc h
      refine lv_iload hx hb dd_Model_call_125 (lv_at hl 5 rfl) ?_
      refine lv_if_eq (tgt := 153) hx hb dd_Model_call_127 (by decide) (fun hc => ?_) (fun hc => ?_)
      · have h := xp_t hc h
        exact wj_Model_call_153 htr C hne hk113 h hP hS (lv_sub hl [0, 1, 2, 3, 4, 6] rfl)
      · have h := xp_f hc h
        refine lv_aload_n hx hb dd_Model_call_130 rfl (lv_at hl 0 rfl) ?_
        refine gf_m_Model_0_parts C hP dd_Model_call_131 ?_
        refine lv_bipush (v := 32) hx hb dd_Model_call_134 (by decide) ?_
        refine lv_iload hx hb dd_Model_call_136 (lv_at hl 4 rfl) ?_
        refine lv_imul hx hb dd_Model_call_138 ?_
        refine lv_iload hx hb dd_Model_call_139 (lv_at hl 6 rfl) ?_
        refine lv_iadd hx hb dd_Model_call_141 ?_
        obtain ⟨hi, h⟩ := xp_g h
        refine al_m_9 C hP hi dd_Model_call_142 ?_
        obtain ⟨a16, u17, hq, h⟩ := xp_seq h
        refine xk_goesI (xr_S (As := [.int (u.2.2.1 7 (((32 : Int32) * b5) + b7).toNatClampNeg)]) (rest := []) C hP hS (ct_Model_isReference htr hok hq) kq_Model_384 ⟨rfl, rfl, Nat.le_of_ble_eq_true rfl, Nat.le_of_ble_eq_true rfl⟩ ⟨Nat.le_of_ble_eq_true rfl, Nat.le_of_ble_eq_true rfl⟩ hl.1 rfl rfl (Nat.le_of_ble_eq_true rfl) dd_Model_call_143) hS (fun H locs hP hS => ?_)
        clear hq
        refine lv_if_ne (tgt := 153) hx hb dd_Model_call_146 (by decide) (fun hc => ?_) (fun hc => ?_)
        · have h := xp_f hc h
          exact wj_Model_call_153 htr C hne hk113 h hP hS (lv_sub hl [0, 1, 2, 3, 4, 6] rfl)
        · have h := xp_t hc h
          refine lv_iconst (v := 1) hx hb dd_Model_call_149 (by decide) ?_
          refine lv_goto (tgt := 154) hx hb dd_Model_call_150 (by decide) ?_
          exact wj_Model_call_154 htr C hne hk113 h hP hS (lv_sub hl [0, 1, 2, 3, 4, 6] rfl)
set_option maxHeartbeats 4000000 in
set_option maxRecDepth 100000 in
theorem wj_Model_call_108 {p : Program} {l : Launch} {e : Env} {s : State} {m : MethodId} {args : Array Value} {below : List Frame} {meth : Method} {c : Code} {D : va_G} {ad : Nat → Nat} {ca : Nat → ClassId} {ads : List Nat} {fu : Nat} (htr : l.stackTraces = false) (C : xk_C D kx_cl (kx_ty ca) (kw_m ad ca) ads "ModuleHouseModel" prog_14_method_139_code 8 (some .int) p e s m args meth c) (hne : c.exceptionTable.isEmpty = true) {u' : xk_St} {r : Int32} {b1 : Int32} {b3 : Int32} {b4 : Int32} {b5 : Int32} {s0 : Int32} {u : xk_St} {H : Heap} {locs : List Loc} {ls : Array Slot} (h : jb_Model_call_108 fu  b1 b3 b4 b5 s0 u = some (r, u')) (hP : va_P D kx_cl (kw_m ad ca u) H) (hS : va_S (xk_A ads s.heap.size) s.heap H locs) (hl : lv_has ls 8 [(0, .ref (ad 0)), (1, .int b1), (3, .int b3), (4, .int b4), (5, .int b5)]) : W p l e rm_Model_call s m args below meth c H locs 0 0 (xk_MQ below (xk_Qc D kx_cl (kw_m ad ca) ads (xo_i (.inl r)) u') args s (xk_A ads s.heap.size)) (F0 m 108 ls [.int s0]) := by
  have hx := C.1.1
  have hb := C.1.2.1
  have hok := C.2.2.1
  unfold jb_Model_call_108 at h
  refine lv_istore (lv' := [(6, .int s0), (0, .ref (ad 0)), (1, .int b1), (3, .int b3), (4, .int b4), (5, .int b5)]) hx hb dd_Model_call_108 hl (by decide) rfl (fun ls hl => ?_)
  refine lv_iconst (v := 0) hx hb dd_Model_call_110 (by decide) ?_
  refine lv_istore (lv' := [(7, .int (0 : Int32)), (6, .int s0), (0, .ref (ad 0)), (1, .int b1), (3, .int b3), (4, .int b4), (5, .int b5)]) hx hb dd_Model_call_111 hl (by decide) rfl (fun ls hl => ?_)
  exact wj_Model_call_113 htr C hne h hP hS (lv_sub hl [2, 3, 4, 5, 6, 1, 0] rfl)
set_option maxHeartbeats 4000000 in
set_option maxRecDepth 100000 in
theorem wj_Model_call_10 {p : Program} {l : Launch} {e : Env} {s : State} {m : MethodId} {args : Array Value} {below : List Frame} {meth : Method} {c : Code} {D : va_G} {ad : Nat → Nat} {ca : Nat → ClassId} {ads : List Nat} {fu : Nat} (htr : l.stackTraces = false) (C : xk_C D kx_cl (kx_ty ca) (kw_m ad ca) ads "ModuleHouseModel" prog_14_method_139_code 8 (some .int) p e s m args meth c) (hne : c.exceptionTable.isEmpty = true) {u' : xk_St} {r : Int32} {b1 : Int32} {s0 : Int32} {u : xk_St} {H : Heap} {locs : List Loc} {ls : Array Slot} (h : jb_Model_call_10 fu  b1 s0 u = some (r, u')) (hP : va_P D kx_cl (kw_m ad ca u) H) (hS : va_S (xk_A ads s.heap.size) s.heap H locs) (hl : lv_has ls 8 [(0, .ref (ad 0)), (1, .int b1)]) : W p l e rm_Model_call s m args below meth c H locs 0 0 (xk_MQ below (xk_Qc D kx_cl (kw_m ad ca) ads (xo_i (.inl r)) u') args s (xk_A ads s.heap.size)) (F0 m 10 ls [.int s0, .ref (ad 0)]) := by
  have hx := C.1.1
  have hb := C.1.2.1
  have hok := C.2.2.1
  unfold jb_Model_call_10 at h
  refine lv_iconst (v := 1) hx hb dd_Model_call_10 (by decide) ?_
  obtain ⟨a1, u2, hq, h⟩ := xp_seq h
  refine xk_goesI (xr_V (As := [.int s0, .int (1 : Int32)]) (rest := []) C hP hS (ct_Model_fails htr hok hq) kq_Model_824 0 11 rfl rfl ⟨rfl, rfl, Nat.le_of_ble_eq_true rfl, Nat.le_of_ble_eq_true rfl⟩ ⟨Nat.le_of_ble_eq_true rfl, Nat.le_of_ble_eq_true rfl⟩ hl.1 rfl rfl (Nat.le_of_ble_eq_true rfl) dd_Model_call_11) hS (fun H locs hP hS => ?_)
  clear hq
  refine lv_if_eq (tgt := 19) hx hb dd_Model_call_14 (by decide) (fun hc => ?_) (fun hc => ?_)
  · have h := xp_t hc h
    refine lv_aload_n hx hb dd_Model_call_19 rfl (lv_at hl 0 rfl) ?_
    refine gf_m_Model_0_tapeMany C hP dd_Model_call_20 ?_
    obtain ⟨a3, ea3, h⟩ := xp_let h
    refine xr_nami ea3 ?_
    refine lv_istore_n (lv' := [(2, .int a3), (0, .ref (ad 0)), (1, .int b1)]) hx hb dd_Model_call_23 rfl hl (by decide) rfl (fun ls hl => ?_)
    refine lv_aload_n hx hb dd_Model_call_24 rfl (lv_at hl 1 rfl) ?_
    refine gf_m_Model_0_givenMany C hP dd_Model_call_25 ?_
    obtain ⟨a4, ea4, h⟩ := xp_let h
    refine xr_nami ea4 ?_
    refine lv_istore_n (lv' := [(3, .int a4), (2, .int a3), (0, .ref (ad 0)), (1, .int b1)]) hx hb dd_Model_call_28 rfl hl (by decide) rfl (fun ls hl => ?_)
    refine lv_aload_n hx hb dd_Model_call_29 rfl (lv_at hl 2 rfl) ?_
    refine lv_iconst (v := 0) hx hb dd_Model_call_30 (by decide) ?_
    refine pf_m_Model_0_tapeMany C hP hS dd_Model_call_31 (fun H locs hP hS => ?_)
    obtain ⟨u5, eu5, h⟩ := xp_let h
    rw [← eu5] at hP
    refine lv_aload_n hx hb dd_Model_call_34 rfl (lv_at hl 2 rfl) ?_
    refine lv_iconst (v := 0) hx hb dd_Model_call_35 (by decide) ?_
    refine pf_m_Model_0_givenMany C hP hS dd_Model_call_36 (fun H locs hP hS => ?_)
    obtain ⟨u6, eu6, h⟩ := xp_let h
    rw [← eu6] at hP
    refine lv_aload_n hx hb dd_Model_call_39 rfl (lv_at hl 2 rfl) ?_
    refine lv_iconst (v := 0) hx hb dd_Model_call_40 (by decide) ?_
    refine pf_m_Model_0_resultMany C hP hS dd_Model_call_41 (fun H locs hP hS => ?_)
    obtain ⟨u7, eu7, h⟩ := xp_let h
    rw [← eu7] at hP
    refine lv_aload_n hx hb dd_Model_call_44 rfl (lv_at hl 2 rfl) ?_
    refine gf_m_Model_0_isInstance C hP dd_Model_call_45 ?_
    refine lv_if_ne (tgt := 53) hx hb dd_Model_call_48 (by decide) (fun hc => ?_) (fun hc => ?_)
    · have h := xp_f hc h
      refine lv_aload_n hx hb dd_Model_call_53 rfl (lv_at hl 2 rfl) ?_
      refine lv_iload_n hx hb dd_Model_call_54 rfl (lv_at hl 1 rfl) ?_
      obtain ⟨a8, u9, hq, h⟩ := xp_seq h
      refine xk_goesI (xr_V (As := [.int a3]) (rest := []) C hP hS (ct_Model_exportNamed htr hok hq) kq_Model_843 0 11 rfl rfl ⟨rfl, rfl, Nat.le_of_ble_eq_true rfl, Nat.le_of_ble_eq_true rfl⟩ ⟨Nat.le_of_ble_eq_true rfl, Nat.le_of_ble_eq_true rfl⟩ hl.1 rfl rfl (Nat.le_of_ble_eq_true rfl) dd_Model_call_55) hS (fun H locs hP hS => ?_)
      clear hq
      refine lv_istore (lv' := [(4, .int a8), (3, .int a4), (2, .int a3), (0, .ref (ad 0)), (1, .int b1)]) hx hb dd_Model_call_58 hl (by decide) rfl (fun ls hl => ?_)
      refine lv_iload hx hb dd_Model_call_60 (lv_at hl 0 rfl) ?_
      refine lv_if_lt (tgt := 75) hx hb dd_Model_call_62 (by decide) (fun hc => ?_) (fun hc => ?_)
      · have h := xp_t hc h
        refine lv_bipush (v := (-2)) hx hb dd_Model_call_75 (by decide) ?_
        obtain ⟨rfl, rfl⟩ := xp_r h
        exact xr_iret C hP hS dd_Model_call_77
      · have h := xp_f hc h
        refine lv_aload_n hx hb dd_Model_call_65 rfl (lv_at hl 3 rfl) ?_
        refine gf_m_Model_0_exportKind C hP dd_Model_call_66 ?_
        refine lv_iload hx hb dd_Model_call_69 (lv_at hl 0 rfl) ?_
        obtain ⟨hi, h⟩ := xp_g h
        refine al_m_20 C hP hi dd_Model_call_71 ?_
        refine lv_if_eq (tgt := 78) hx hb dd_Model_call_72 (by decide) (fun hc => ?_) (fun hc => ?_)
        · have h := xp_t hc h
          refine lv_aload_n hx hb dd_Model_call_78 rfl (lv_at hl 3 rfl) ?_
          refine gf_m_Model_0_functionType C hP dd_Model_call_79 ?_
          refine lv_aload_n hx hb dd_Model_call_82 rfl (lv_at hl 3 rfl) ?_
          refine gf_m_Model_0_exportNumber C hP dd_Model_call_83 ?_
          refine lv_iload hx hb dd_Model_call_86 (lv_at hl 0 rfl) ?_
          obtain ⟨hi, h⟩ := xp_g h
          refine al_m_21 C hP hi dd_Model_call_88 ?_
          obtain ⟨hi, h⟩ := xp_g h
          refine al_m_11 C hP hi dd_Model_call_89 ?_
          obtain ⟨a10, ea10, h⟩ := xp_let h
          refine xr_nami ea10 ?_
          refine lv_istore (lv' := [(5, .int a10), (4, .int a8), (3, .int a4), (2, .int a3), (0, .ref (ad 0)), (1, .int b1)]) hx hb dd_Model_call_90 hl (by decide) rfl (fun ls hl => ?_)
          refine lv_aload_n hx hb dd_Model_call_92 rfl (lv_at hl 4 rfl) ?_
          refine gf_m_Model_0_partMany C hP dd_Model_call_93 ?_
          refine lv_iload hx hb dd_Model_call_96 (lv_at hl 0 rfl) ?_
          obtain ⟨hi, h⟩ := xp_g h
          refine al_m_7 C hP hi dd_Model_call_98 ?_
          refine lv_iload_n hx hb dd_Model_call_99 rfl (lv_at hl 2 rfl) ?_
          refine lv_icmp_ne (tgt := 107) hx hb dd_Model_call_100 (by decide) (fun hc => ?_) (fun hc => ?_)
          · have h := xp_f hc h
            refine lv_iconst (v := 0) hx hb dd_Model_call_107 (by decide) ?_
            exact wj_Model_call_108 htr C hne h hP hS (lv_sub hl [4, 5, 2, 1, 0] rfl)
          · have h := xp_t hc h
            refine lv_iconst (v := 1) hx hb dd_Model_call_103 (by decide) ?_
            refine lv_goto (tgt := 108) hx hb dd_Model_call_104 (by decide) ?_
            exact wj_Model_call_108 htr C hne h hP hS (lv_sub hl [4, 5, 2, 1, 0] rfl)
        · have h := xp_f hc h
          refine lv_bipush (v := (-2)) hx hb dd_Model_call_75 (by decide) ?_
          obtain ⟨rfl, rfl⟩ := xp_r h
          exact xr_iret C hP hS dd_Model_call_77
    · have h := xp_t hc h
      refine lv_iconst (v := (-1)) hx hb dd_Model_call_51 (by decide) ?_
      obtain ⟨rfl, rfl⟩ := xp_r h
      exact xr_iret C hP hS dd_Model_call_52
  · have h := xp_f hc h
    refine lv_iconst (v := 0) hx hb dd_Model_call_17 (by decide) ?_
    obtain ⟨rfl, rfl⟩ := xp_r h
    exact xr_iret C hP hS dd_Model_call_18
set_option maxHeartbeats 4000000 in
set_option maxRecDepth 100000 in
theorem ct_Model_call {l : Launch} {D : va_G} {ad : Nat → Nat} {ca : Nat → ClassId} {ads : List Nat} (htr : l.stackTraces = false) (hok : xk_ok (kw_m ad ca) ads) {fu : Nat} {x0 : Int32} {u u' : xk_St} {r : Int32} (h : fm_Model_call fu x0 u = some (r, u')) :
    ∀ sz, xk_Met l ⟨"ModuleHouseModel", "call", "(I)I"⟩ (Cond.code ⟨"ModuleHouseModel", "call", "(I)I"⟩ prog_14_method_139_code 8 (some .int) :: xk_gd) rm_Model_call (xk_Pc D kx_cl (kx_ty ca) (kw_m ad ca) ads xk_F sz [.ref (ad 0), .int x0] u) (xk_Qc D kx_cl (kw_m ad ca) ads (xo_i (.inl r)) u') (xk_A ads sz) := by
  unfold fm_Model_call at h
  refine xk_con (by decide) htr hok (Nat.le_of_ble_eq_true rfl) (fun p e s m below meth c ls C hne hl hP => ?_)
  have hx := C.1.1
  have hb := C.1.2.1
  have hS : va_S (xk_A ads s.heap.size) s.heap s.heap [] := va_S.rf
  have hl : lv_has ls 8 [(0, .ref (ad 0)), (1, .int x0)] := hl
  refine lv_aload_n hx hb dd_Model_call_0 rfl (lv_at hl 0 rfl) ?_
  refine lv_iload_n hx hb dd_Model_call_1 rfl (lv_at hl 1 rfl) ?_
  refine lv_if_ge (tgt := 9) hx hb dd_Model_call_2 (by decide) (fun hc => ?_) (fun hc => ?_)
  · have h := xp_t hc h
    refine lv_iconst (v := 0) hx hb dd_Model_call_9 (by decide) ?_
    exact wj_Model_call_10 htr C hne h hP hS (lv_sub hl [0, 1] rfl)
  · have h := xp_f hc h
    refine lv_iconst (v := 1) hx hb dd_Model_call_5 (by decide) ?_
    refine lv_goto (tgt := 10) hx hb dd_Model_call_6 (by decide) ?_
    exact wj_Model_call_10 htr C hne h hP hS (lv_sub hl [0, 1] rfl)
abbrev rm_Model_result : Room := { frames := 2, cells := 1, slots := 6, locals := 22 }
noncomputable def jb_Model_result_18 (b1 : Int32) (s0 : Int32) (u : xk_St) : Option (Int64 × xk_St) :=
  (xs_seq (fm_Model_fails s0 (1 : Int32) u) fun a1 u2 => if a1 = (0 : Int32) then ((if b1 < 0 ∨ 16 ≤ b1.toNatClampNeg then none else some ((u2.2.2.2 4 b1.toNatClampNeg), u2))) else (some ((0 : Int64), u2)))
noncomputable def jb_Model_result_13 (b1 : Int32) (u : xk_St) : Option (Int64 × xk_St) :=
  jb_Model_result_18 b1 (1 : Int32) u
noncomputable def fm_Model_result (x0 : Int32) (u : xk_St) : Option (Int64 × xk_St) :=
  if x0 < (0 : Int32) then (jb_Model_result_13 x0 u) else (if x0 < (u.1 31) then (jb_Model_result_18 x0 (0 : Int32) u) else (jb_Model_result_13 x0 u))
set_option maxHeartbeats 4000000 in
set_option maxRecDepth 100000 in
theorem wj_Model_result_18 {p : Program} {l : Launch} {e : Env} {s : State} {m : MethodId} {args : Array Value} {below : List Frame} {meth : Method} {c : Code} {D : va_G} {ad : Nat → Nat} {ca : Nat → ClassId} {ads : List Nat} (htr : l.stackTraces = false) (C : xk_C D kx_cl (kx_ty ca) (kw_m ad ca) ads "ModuleHouseModel" prog_14_method_140_code 2 (some .long) p e s m args meth c) (hne : c.exceptionTable.isEmpty = true) {u' : xk_St} {r : Int64} {b1 : Int32} {s0 : Int32} {u : xk_St} {H : Heap} {locs : List Loc} {ls : Array Slot} (h : jb_Model_result_18  b1 s0 u = some (r, u')) (hP : va_P D kx_cl (kw_m ad ca u) H) (hS : va_S (xk_A ads s.heap.size) s.heap H locs) (hl : lv_has ls 2 [(0, .ref (ad 0)), (1, .int b1)]) : W p l e rm_Model_result s m args below meth c H locs 0 0 (xk_MQ below (xk_Qc D kx_cl (kw_m ad ca) ads (xo_l (.inl r)) u') args s (xk_A ads s.heap.size)) (F0 m 18 ls [.int s0, .ref (ad 0)]) := by
  have hx := C.1.1
  have hb := C.1.2.1
  have hok := C.2.2.1
  unfold jb_Model_result_18 at h
  refine lv_iconst (v := 1) hx hb dd_Model_result_18 (by decide) ?_
  obtain ⟨a1, u2, hq, h⟩ := xp_seq h
  refine xk_goesI (xr_V (As := [.int s0, .int (1 : Int32)]) (rest := []) C hP hS (ct_Model_fails htr hok hq) kq_Model_824 0 11 rfl rfl ⟨rfl, rfl, Nat.le_of_ble_eq_true rfl, Nat.le_of_ble_eq_true rfl⟩ ⟨Nat.le_of_ble_eq_true rfl, Nat.le_of_ble_eq_true rfl⟩ hl.1 rfl rfl (Nat.le_of_ble_eq_true rfl) dd_Model_result_19) hS (fun H locs hP hS => ?_)
  clear hq
  refine lv_if_eq (tgt := 29) hx hb dd_Model_result_22 (by decide) (fun hc => ?_) (fun hc => ?_)
  · have h := xp_t hc h
    refine lv_aload_n hx hb dd_Model_result_29 rfl (lv_at hl 0 rfl) ?_
    refine gf_m_Model_0_results C hP dd_Model_result_30 ?_
    refine lv_iload_n hx hb dd_Model_result_33 rfl (lv_at hl 1 rfl) ?_
    obtain ⟨hi, h⟩ := xp_g h
    refine al_m_42 C hP hi dd_Model_result_34 ?_
    obtain ⟨rfl, rfl⟩ := xp_r h
    exact xr_lret C hP hS dd_Model_result_35
  · have h := xp_f hc h
    refine lv_lconst (v := 0) hx hb dd_Model_result_25 (by decide) ?_
    refine lv_goto (tgt := 35) hx hb dd_Model_result_26 (by decide) ?_
    obtain ⟨rfl, rfl⟩ := xp_r h
    exact xr_lret C hP hS dd_Model_result_35
set_option maxHeartbeats 4000000 in
set_option maxRecDepth 100000 in
theorem wj_Model_result_13 {p : Program} {l : Launch} {e : Env} {s : State} {m : MethodId} {args : Array Value} {below : List Frame} {meth : Method} {c : Code} {D : va_G} {ad : Nat → Nat} {ca : Nat → ClassId} {ads : List Nat} (htr : l.stackTraces = false) (C : xk_C D kx_cl (kx_ty ca) (kw_m ad ca) ads "ModuleHouseModel" prog_14_method_140_code 2 (some .long) p e s m args meth c) (hne : c.exceptionTable.isEmpty = true) {u' : xk_St} {r : Int64} {b1 : Int32} {u : xk_St} {H : Heap} {locs : List Loc} {ls : Array Slot} (h : jb_Model_result_13  b1 u = some (r, u')) (hP : va_P D kx_cl (kw_m ad ca u) H) (hS : va_S (xk_A ads s.heap.size) s.heap H locs) (hl : lv_has ls 2 [(0, .ref (ad 0)), (1, .int b1)]) : W p l e rm_Model_result s m args below meth c H locs 0 0 (xk_MQ below (xk_Qc D kx_cl (kw_m ad ca) ads (xo_l (.inl r)) u') args s (xk_A ads s.heap.size)) (F0 m 13 ls [.ref (ad 0)]) := by
  have hx := C.1.1
  have hb := C.1.2.1
  have hok := C.2.2.1
  unfold jb_Model_result_13 at h
  refine lv_iconst (v := 1) hx hb dd_Model_result_13 (by decide) ?_
  refine lv_goto (tgt := 18) hx hb dd_Model_result_14 (by decide) ?_
  exact wj_Model_result_18 htr C hne h hP hS (lv_sub hl [0, 1] rfl)
set_option maxHeartbeats 4000000 in
set_option maxRecDepth 100000 in
theorem ct_Model_result {l : Launch} {D : va_G} {ad : Nat → Nat} {ca : Nat → ClassId} {ads : List Nat} (htr : l.stackTraces = false) (hok : xk_ok (kw_m ad ca) ads) {x0 : Int32} {u u' : xk_St} {r : Int64} (h : fm_Model_result x0 u = some (r, u')) :
    ∀ sz, xk_Met l ⟨"ModuleHouseModel", "result", "(I)J"⟩ (Cond.code ⟨"ModuleHouseModel", "result", "(I)J"⟩ prog_14_method_140_code 2 (some .long) :: xk_gd) rm_Model_result (xk_Pc D kx_cl (kx_ty ca) (kw_m ad ca) ads xk_F sz [.ref (ad 0), .int x0] u) (xk_Qc D kx_cl (kw_m ad ca) ads (xo_l (.inl r)) u') (xk_A ads sz) := by
  unfold fm_Model_result at h
  refine xk_con (by decide) htr hok (Nat.le_of_ble_eq_true rfl) (fun p e s m below meth c ls C hne hl hP => ?_)
  have hx := C.1.1
  have hb := C.1.2.1
  have hS : va_S (xk_A ads s.heap.size) s.heap s.heap [] := va_S.rf
  have hl : lv_has ls 2 [(0, .ref (ad 0)), (1, .int x0)] := hl
  refine lv_aload_n hx hb dd_Model_result_0 rfl (lv_at hl 0 rfl) ?_
  refine lv_iload_n hx hb dd_Model_result_1 rfl (lv_at hl 1 rfl) ?_
  refine lv_if_lt (tgt := 13) hx hb dd_Model_result_2 (by decide) (fun hc => ?_) (fun hc => ?_)
  · have h := xp_t hc h
    exact wj_Model_result_13 htr C hne h hP hS (lv_sub hl [0, 1] rfl)
  · have h := xp_f hc h
    refine lv_iload_n hx hb dd_Model_result_5 rfl (lv_at hl 1 rfl) ?_
    refine lv_aload_n hx hb dd_Model_result_6 rfl (lv_at hl 0 rfl) ?_
    refine gf_m_Model_0_resultMany C hP dd_Model_result_7 ?_
    refine lv_icmp_lt (tgt := 17) hx hb dd_Model_result_10 (by decide) (fun hc => ?_) (fun hc => ?_)
    · have h := xp_t hc h
      refine lv_iconst (v := 0) hx hb dd_Model_result_17 (by decide) ?_
      exact wj_Model_result_18 htr C hne h hP hS (lv_sub hl [0, 1] rfl)
    · have h := xp_f hc h
      exact wj_Model_result_13 htr C hne h hP hS (lv_sub hl [0, 1] rfl)
abbrev rm_Model_global : Room := { frames := 2, cells := 1, slots := 6, locals := 22 }
noncomputable def jb_Model_global_61 (b1 : Int32) (s0 : Int32) (u : xk_St) : Option (Int64 × xk_St) :=
  (xs_seq (fm_Model_fails s0 (1 : Int32) u) fun a1 u2 => if a1 = (0 : Int32) then ((if b1 < 0 ∨ 64 ≤ b1.toNatClampNeg then none else xs_let (u2.2.2.1 19 b1.toNatClampNeg) fun a3 => if a3 < 0 ∨ 64 ≤ a3.toNatClampNeg then none else xs_seq (fm_Model_isReference (u2.2.2.1 14 a3.toNatClampNeg) u2) fun a4 u5 => if a4 = (0 : Int32) then ((if a3 < 0 ∨ 64 ≤ a3.toNatClampNeg then none else some ((u5.2.2.2 2 a3.toNatClampNeg), u5))) else ((if a3 < 0 ∨ 64 ≤ a3.toNatClampNeg then none else if (u5.2.2.2 2 a3.toNatClampNeg) = (0 : Int64) then (some ((0 : Int64), u5)) else (some ((1 : Int64), u5)))))) else (some ((0 : Int64), u2)))
noncomputable def jb_Model_global_50 (b1 : Int32) (s0 : Int32) (u : xk_St) : Option (Int64 × xk_St) :=
  if s0 = (0 : Int32) then (jb_Model_global_61 b1 (1 : Int32) u) else (jb_Model_global_61 b1 (0 : Int32) u)
noncomputable def jb_Model_global_49 (b1 : Int32) (u : xk_St) : Option (Int64 × xk_St) :=
  jb_Model_global_50 b1 (0 : Int32) u
noncomputable def jb_Model_global_40 (b1 : Int32) (s0 : Int32) (u : xk_St) : Option (Int64 × xk_St) :=
  (if s0 < 0 ∨ 64 ≤ s0.toNatClampNeg then none else if (u.2.2.1 18 s0.toNatClampNeg) = (3 : Int32) then (jb_Model_global_50 b1 (1 : Int32) u) else (jb_Model_global_49 b1 u))
noncomputable def jb_Model_global_39 (b1 : Int32) (u : xk_St) : Option (Int64 × xk_St) :=
  jb_Model_global_40 b1 (0 : Int32) u
noncomputable def fm_Model_global (x0 : Int32) (u : xk_St) : Option (Int64 × xk_St) :=
  if (u.1 25) = (0 : Int32) then (jb_Model_global_49 x0 u) else (if x0 < (0 : Int32) then (jb_Model_global_49 x0 u) else (if (u.1 19) ≤ x0 then (jb_Model_global_49 x0 u) else (if x0 < (0 : Int32) then (jb_Model_global_39 x0 u) else (if (u.1 19) ≤ x0 then (jb_Model_global_39 x0 u) else (jb_Model_global_40 x0 x0 u)))))
set_option maxHeartbeats 4000000 in
set_option maxRecDepth 100000 in
theorem wj_Model_global_61 {p : Program} {l : Launch} {e : Env} {s : State} {m : MethodId} {args : Array Value} {below : List Frame} {meth : Method} {c : Code} {D : va_G} {ad : Nat → Nat} {ca : Nat → ClassId} {ads : List Nat} (htr : l.stackTraces = false) (C : xk_C D kx_cl (kx_ty ca) (kw_m ad ca) ads "ModuleHouseModel" prog_14_method_141_code 4 (some .long) p e s m args meth c) (hne : c.exceptionTable.isEmpty = true) {u' : xk_St} {r : Int64} {b1 : Int32} {s0 : Int32} {u : xk_St} {H : Heap} {locs : List Loc} {ls : Array Slot} (h : jb_Model_global_61  b1 s0 u = some (r, u')) (hP : va_P D kx_cl (kw_m ad ca u) H) (hS : va_S (xk_A ads s.heap.size) s.heap H locs) (hl : lv_has ls 4 [(0, .ref (ad 0)), (1, .int b1)]) : W p l e rm_Model_global s m args below meth c H locs 0 0 (xk_MQ below (xk_Qc D kx_cl (kw_m ad ca) ads (xo_l (.inl r)) u') args s (xk_A ads s.heap.size)) (F0 m 61 ls [.int s0, .ref (ad 0)]) := by
  have hx := C.1.1
  have hb := C.1.2.1
  have hok := C.2.2.1
  unfold jb_Model_global_61 at h
  refine lv_iconst (v := 1) hx hb dd_Model_global_61 (by decide) ?_
  obtain ⟨a1, u2, hq, h⟩ := xp_seq h
  refine xk_goesI (xr_V (As := [.int s0, .int (1 : Int32)]) (rest := []) C hP hS (ct_Model_fails htr hok hq) kq_Model_824 0 11 rfl rfl ⟨rfl, rfl, Nat.le_of_ble_eq_true rfl, Nat.le_of_ble_eq_true rfl⟩ ⟨Nat.le_of_ble_eq_true rfl, Nat.le_of_ble_eq_true rfl⟩ hl.1 rfl rfl (Nat.le_of_ble_eq_true rfl) dd_Model_global_62) hS (fun H locs hP hS => ?_)
  clear hq
  refine lv_if_eq (tgt := 70) hx hb dd_Model_global_65 (by decide) (fun hc => ?_) (fun hc => ?_)
  · have h := xp_t hc h
    refine lv_aload_n hx hb dd_Model_global_70 rfl (lv_at hl 0 rfl) ?_
    refine gf_m_Model_0_exportNumber C hP dd_Model_global_71 ?_
    refine lv_iload_n hx hb dd_Model_global_74 rfl (lv_at hl 1 rfl) ?_
    obtain ⟨hi, h⟩ := xp_g h
    refine al_m_21 C hP hi dd_Model_global_75 ?_
    obtain ⟨a3, ea3, h⟩ := xp_let h
    refine xr_nami ea3 ?_
    refine lv_istore_n (lv' := [(3, .int a3), (0, .ref (ad 0)), (1, .int b1)]) hx hb dd_Model_global_76 rfl hl (by decide) rfl (fun ls hl => ?_)
    refine lv_aload_n hx hb dd_Model_global_77 rfl (lv_at hl 1 rfl) ?_
    refine gf_m_Model_0_globalType C hP dd_Model_global_78 ?_
    refine lv_iload_n hx hb dd_Model_global_81 rfl (lv_at hl 0 rfl) ?_
    obtain ⟨hi, h⟩ := xp_g h
    refine al_m_16 C hP hi dd_Model_global_82 ?_
    obtain ⟨a4, u5, hq, h⟩ := xp_seq h
    refine xk_goesI (xr_S (As := [.int (u2.2.2.1 14 a3.toNatClampNeg)]) (rest := []) C hP hS (ct_Model_isReference htr hok hq) kq_Model_384 ⟨rfl, rfl, Nat.le_of_ble_eq_true rfl, Nat.le_of_ble_eq_true rfl⟩ ⟨Nat.le_of_ble_eq_true rfl, Nat.le_of_ble_eq_true rfl⟩ hl.1 rfl rfl (Nat.le_of_ble_eq_true rfl) dd_Model_global_83) hS (fun H locs hP hS => ?_)
    clear hq
    refine lv_if_ne (tgt := 98) hx hb dd_Model_global_86 (by decide) (fun hc => ?_) (fun hc => ?_)
    · have h := xp_f hc h
      refine lv_aload_n hx hb dd_Model_global_98 rfl (lv_at hl 1 rfl) ?_
      refine gf_m_Model_0_globalValue C hP dd_Model_global_99 ?_
      refine lv_iload_n hx hb dd_Model_global_102 rfl (lv_at hl 0 rfl) ?_
      obtain ⟨hi, h⟩ := xp_g h
      refine al_m_30 C hP hi dd_Model_global_103 ?_
      refine lv_lconst (v := 0) hx hb dd_Model_global_104 (by decide) ?_
      refine xr_lc_ne (tgt := 113) hx hb dd_Model_global_105 dd_Model_global_106 (by decide) (fun hc => ?_) (fun hc => ?_)
      · have h := xp_f hc h
        refine lv_lconst (v := 1) hx hb dd_Model_global_113 (by decide) ?_
        obtain ⟨rfl, rfl⟩ := xp_r h
        exact xr_lret C hP hS dd_Model_global_114
      · have h := xp_t hc h
        refine lv_lconst (v := 0) hx hb dd_Model_global_109 (by decide) ?_
        refine lv_goto (tgt := 114) hx hb dd_Model_global_110 (by decide) ?_
        obtain ⟨rfl, rfl⟩ := xp_r h
        exact xr_lret C hP hS dd_Model_global_114
    · have h := xp_t hc h
      refine lv_aload_n hx hb dd_Model_global_89 rfl (lv_at hl 1 rfl) ?_
      refine gf_m_Model_0_globalValue C hP dd_Model_global_90 ?_
      refine lv_iload_n hx hb dd_Model_global_93 rfl (lv_at hl 0 rfl) ?_
      obtain ⟨hi, h⟩ := xp_g h
      refine al_m_30 C hP hi dd_Model_global_94 ?_
      refine lv_goto (tgt := 114) hx hb dd_Model_global_95 (by decide) ?_
      obtain ⟨rfl, rfl⟩ := xp_r h
      exact xr_lret C hP hS dd_Model_global_114
  · have h := xp_f hc h
    refine lv_lconst (v := 0) hx hb dd_Model_global_68 (by decide) ?_
    obtain ⟨rfl, rfl⟩ := xp_r h
    exact xr_lret C hP hS dd_Model_global_69
set_option maxHeartbeats 4000000 in
set_option maxRecDepth 100000 in
theorem wj_Model_global_50 {p : Program} {l : Launch} {e : Env} {s : State} {m : MethodId} {args : Array Value} {below : List Frame} {meth : Method} {c : Code} {D : va_G} {ad : Nat → Nat} {ca : Nat → ClassId} {ads : List Nat} (htr : l.stackTraces = false) (C : xk_C D kx_cl (kx_ty ca) (kw_m ad ca) ads "ModuleHouseModel" prog_14_method_141_code 4 (some .long) p e s m args meth c) (hne : c.exceptionTable.isEmpty = true) {u' : xk_St} {r : Int64} {b1 : Int32} {s0 : Int32} {u : xk_St} {H : Heap} {locs : List Loc} {ls : Array Slot} (h : jb_Model_global_50  b1 s0 u = some (r, u')) (hP : va_P D kx_cl (kw_m ad ca u) H) (hS : va_S (xk_A ads s.heap.size) s.heap H locs) (hl : lv_has ls 4 [(0, .ref (ad 0)), (1, .int b1)]) : W p l e rm_Model_global s m args below meth c H locs 0 0 (xk_MQ below (xk_Qc D kx_cl (kw_m ad ca) ads (xo_l (.inl r)) u') args s (xk_A ads s.heap.size)) (F0 m 50 ls [.int s0]) := by
  have hx := C.1.1
  have hb := C.1.2.1
  have hok := C.2.2.1
  unfold jb_Model_global_50 at h
  refine lv_istore_n (lv' := [(2, .int s0), (0, .ref (ad 0)), (1, .int b1)]) hx hb dd_Model_global_50 rfl hl (by decide) rfl (fun ls hl => ?_)
  refine lv_aload_n hx hb dd_Model_global_51 rfl (lv_at hl 1 rfl) ?_
  refine lv_iload_n hx hb dd_Model_global_52 rfl (lv_at hl 0 rfl) ?_
  refine lv_if_ne (tgt := 60) hx hb dd_Model_global_53 (by decide) (fun hc => ?_) (fun hc => ?_)
  · have h := xp_f hc h
    refine lv_iconst (v := 0) hx hb dd_Model_global_60 (by decide) ?_
    exact wj_Model_global_61 htr C hne h hP hS (lv_sub hl [1, 2] rfl)
  · have h := xp_t hc h
    refine lv_iconst (v := 1) hx hb dd_Model_global_56 (by decide) ?_
    refine lv_goto (tgt := 61) hx hb dd_Model_global_57 (by decide) ?_
    exact wj_Model_global_61 htr C hne h hP hS (lv_sub hl [1, 2] rfl)
set_option maxHeartbeats 4000000 in
set_option maxRecDepth 100000 in
theorem wj_Model_global_49 {p : Program} {l : Launch} {e : Env} {s : State} {m : MethodId} {args : Array Value} {below : List Frame} {meth : Method} {c : Code} {D : va_G} {ad : Nat → Nat} {ca : Nat → ClassId} {ads : List Nat} (htr : l.stackTraces = false) (C : xk_C D kx_cl (kx_ty ca) (kw_m ad ca) ads "ModuleHouseModel" prog_14_method_141_code 4 (some .long) p e s m args meth c) (hne : c.exceptionTable.isEmpty = true) {u' : xk_St} {r : Int64} {b1 : Int32} {u : xk_St} {H : Heap} {locs : List Loc} {ls : Array Slot} (h : jb_Model_global_49  b1 u = some (r, u')) (hP : va_P D kx_cl (kw_m ad ca u) H) (hS : va_S (xk_A ads s.heap.size) s.heap H locs) (hl : lv_has ls 4 [(0, .ref (ad 0)), (1, .int b1)]) : W p l e rm_Model_global s m args below meth c H locs 0 0 (xk_MQ below (xk_Qc D kx_cl (kw_m ad ca) ads (xo_l (.inl r)) u') args s (xk_A ads s.heap.size)) (F0 m 49 ls []) := by
  have hx := C.1.1
  have hb := C.1.2.1
  have hok := C.2.2.1
  unfold jb_Model_global_49 at h
  refine lv_iconst (v := 0) hx hb dd_Model_global_49 (by decide) ?_
  exact wj_Model_global_50 htr C hne h hP hS (lv_sub hl [0, 1] rfl)
set_option maxHeartbeats 4000000 in
set_option maxRecDepth 100000 in
theorem wj_Model_global_40 {p : Program} {l : Launch} {e : Env} {s : State} {m : MethodId} {args : Array Value} {below : List Frame} {meth : Method} {c : Code} {D : va_G} {ad : Nat → Nat} {ca : Nat → ClassId} {ads : List Nat} (htr : l.stackTraces = false) (C : xk_C D kx_cl (kx_ty ca) (kw_m ad ca) ads "ModuleHouseModel" prog_14_method_141_code 4 (some .long) p e s m args meth c) (hne : c.exceptionTable.isEmpty = true) {u' : xk_St} {r : Int64} {b1 : Int32} {s0 : Int32} {u : xk_St} {H : Heap} {locs : List Loc} {ls : Array Slot} (h : jb_Model_global_40  b1 s0 u = some (r, u')) (hP : va_P D kx_cl (kw_m ad ca u) H) (hS : va_S (xk_A ads s.heap.size) s.heap H locs) (hl : lv_has ls 4 [(0, .ref (ad 0)), (1, .int b1)]) : W p l e rm_Model_global s m args below meth c H locs 0 0 (xk_MQ below (xk_Qc D kx_cl (kw_m ad ca) ads (xo_l (.inl r)) u') args s (xk_A ads s.heap.size)) (F0 m 40 ls [.int s0, .ref (ad 20)]) := by
  have hx := C.1.1
  have hb := C.1.2.1
  have hok := C.2.2.1
  unfold jb_Model_global_40 at h
  obtain ⟨hi, h⟩ := xp_g h
  refine al_m_20 C hP hi dd_Model_global_40 ?_
  refine lv_iconst (v := 3) hx hb dd_Model_global_41 (by decide) ?_
  refine lv_icmp_ne (tgt := 49) hx hb dd_Model_global_42 (by decide) (fun hc => ?_) (fun hc => ?_)
  · have h := xp_f hc h
    exact wj_Model_global_49 htr C hne h hP hS (lv_sub hl [0, 1] rfl)
  · have h := xp_t hc h
    refine lv_iconst (v := 1) hx hb dd_Model_global_45 (by decide) ?_
    refine lv_goto (tgt := 50) hx hb dd_Model_global_46 (by decide) ?_
    exact wj_Model_global_50 htr C hne h hP hS (lv_sub hl [0, 1] rfl)
set_option maxHeartbeats 4000000 in
set_option maxRecDepth 100000 in
theorem wj_Model_global_39 {p : Program} {l : Launch} {e : Env} {s : State} {m : MethodId} {args : Array Value} {below : List Frame} {meth : Method} {c : Code} {D : va_G} {ad : Nat → Nat} {ca : Nat → ClassId} {ads : List Nat} (htr : l.stackTraces = false) (C : xk_C D kx_cl (kx_ty ca) (kw_m ad ca) ads "ModuleHouseModel" prog_14_method_141_code 4 (some .long) p e s m args meth c) (hne : c.exceptionTable.isEmpty = true) {u' : xk_St} {r : Int64} {b1 : Int32} {u : xk_St} {H : Heap} {locs : List Loc} {ls : Array Slot} (h : jb_Model_global_39  b1 u = some (r, u')) (hP : va_P D kx_cl (kw_m ad ca u) H) (hS : va_S (xk_A ads s.heap.size) s.heap H locs) (hl : lv_has ls 4 [(0, .ref (ad 0)), (1, .int b1)]) : W p l e rm_Model_global s m args below meth c H locs 0 0 (xk_MQ below (xk_Qc D kx_cl (kw_m ad ca) ads (xo_l (.inl r)) u') args s (xk_A ads s.heap.size)) (F0 m 39 ls [.ref (ad 20)]) := by
  have hx := C.1.1
  have hb := C.1.2.1
  have hok := C.2.2.1
  unfold jb_Model_global_39 at h
  refine lv_iconst (v := 0) hx hb dd_Model_global_39 (by decide) ?_
  exact wj_Model_global_40 htr C hne h hP hS (lv_sub hl [0, 1] rfl)
set_option maxHeartbeats 4000000 in
set_option maxRecDepth 100000 in
theorem ct_Model_global {l : Launch} {D : va_G} {ad : Nat → Nat} {ca : Nat → ClassId} {ads : List Nat} (htr : l.stackTraces = false) (hok : xk_ok (kw_m ad ca) ads) {x0 : Int32} {u u' : xk_St} {r : Int64} (h : fm_Model_global x0 u = some (r, u')) :
    ∀ sz, xk_Met l ⟨"ModuleHouseModel", "global", "(I)J"⟩ (Cond.code ⟨"ModuleHouseModel", "global", "(I)J"⟩ prog_14_method_141_code 4 (some .long) :: xk_gd) rm_Model_global (xk_Pc D kx_cl (kx_ty ca) (kw_m ad ca) ads xk_F sz [.ref (ad 0), .int x0] u) (xk_Qc D kx_cl (kw_m ad ca) ads (xo_l (.inl r)) u') (xk_A ads sz) := by
  unfold fm_Model_global at h
  refine xk_con (by decide) htr hok (Nat.le_of_ble_eq_true rfl) (fun p e s m below meth c ls C hne hl hP => ?_)
  have hx := C.1.1
  have hb := C.1.2.1
  have hS : va_S (xk_A ads s.heap.size) s.heap s.heap [] := va_S.rf
  have hl : lv_has ls 4 [(0, .ref (ad 0)), (1, .int x0)] := hl
  refine lv_aload_n hx hb dd_Model_global_0 rfl (lv_at hl 0 rfl) ?_
  refine gf_m_Model_0_isInstance C hP dd_Model_global_1 ?_
  refine lv_if_eq (tgt := 49) hx hb dd_Model_global_4 (by decide) (fun hc => ?_) (fun hc => ?_)
  · have h := xp_t hc h
    exact wj_Model_global_49 htr C hne h hP hS (lv_sub hl [0, 1] rfl)
  · have h := xp_f hc h
    refine lv_iload_n hx hb dd_Model_global_7 rfl (lv_at hl 1 rfl) ?_
    refine lv_if_lt (tgt := 49) hx hb dd_Model_global_8 (by decide) (fun hc => ?_) (fun hc => ?_)
    · have h := xp_t hc h
      exact wj_Model_global_49 htr C hne h hP hS (lv_sub hl [0, 1] rfl)
    · have h := xp_f hc h
      refine lv_iload_n hx hb dd_Model_global_11 rfl (lv_at hl 1 rfl) ?_
      refine lv_aload_n hx hb dd_Model_global_12 rfl (lv_at hl 0 rfl) ?_
      refine gf_m_Model_0_exports C hP dd_Model_global_13 ?_
      refine lv_icmp_ge (tgt := 49) hx hb dd_Model_global_16 (by decide) (fun hc => ?_) (fun hc => ?_)
      · have h := xp_t hc h
        exact wj_Model_global_49 htr C hne h hP hS (lv_sub hl [0, 1] rfl)
      · have h := xp_f hc h
        refine lv_aload_n hx hb dd_Model_global_19 rfl (lv_at hl 0 rfl) ?_
        refine gf_m_Model_0_exportKind C hP dd_Model_global_20 ?_
        refine lv_iload_n hx hb dd_Model_global_23 rfl (lv_at hl 1 rfl) ?_
        refine lv_if_lt (tgt := 39) hx hb dd_Model_global_24 (by decide) (fun hc => ?_) (fun hc => ?_)
        · have h := xp_t hc h
          exact wj_Model_global_39 htr C hne h hP hS (lv_sub hl [0, 1] rfl)
        · have h := xp_f hc h
          refine lv_iload_n hx hb dd_Model_global_27 rfl (lv_at hl 1 rfl) ?_
          refine lv_aload_n hx hb dd_Model_global_28 rfl (lv_at hl 0 rfl) ?_
          refine gf_m_Model_0_exports C hP dd_Model_global_29 ?_
          refine lv_icmp_ge (tgt := 39) hx hb dd_Model_global_32 (by decide) (fun hc => ?_) (fun hc => ?_)
          · have h := xp_t hc h
            exact wj_Model_global_39 htr C hne h hP hS (lv_sub hl [0, 1] rfl)
          · have h := xp_f hc h
            refine lv_iload_n hx hb dd_Model_global_35 rfl (lv_at hl 1 rfl) ?_
            refine lv_goto (tgt := 40) hx hb dd_Model_global_36 (by decide) ?_
            exact wj_Model_global_40 htr C hne h hP hS (lv_sub hl [0, 1] rfl)
abbrev rm_Model_at : Room := { frames := 2, cells := 1, slots := 6, locals := 22 }
noncomputable def jb_Model_at_29 (b1 : Int32) (s0 : Int32) (u : xk_St) : Option (Int32 × xk_St) :=
  (xs_seq (fm_Model_fails s0 (1 : Int32) u) fun a1 u2 => if a1 = (0 : Int32) then ((if b1 < 0 ∨ 65536 ≤ b1.toNatClampNeg then none else some (((u2.2.2.1 27 b1.toNatClampNeg) &&& (255 : Int32)), u2))) else (some ((0 : Int32), u2)))
noncomputable def jb_Model_at_24 (b1 : Int32) (u : xk_St) : Option (Int32 × xk_St) :=
  jb_Model_at_29 b1 (1 : Int32) u
noncomputable def fm_Model_at (x0 : Int32) (u : xk_St) : Option (Int32 × xk_St) :=
  if (u.1 25) = (0 : Int32) then (jb_Model_at_24 x0 u) else (if x0 < (0 : Int32) then (jb_Model_at_24 x0 u) else (if x0 < ((4096 : Int32) * (u.1 16)) then (jb_Model_at_29 x0 (0 : Int32) u) else (jb_Model_at_24 x0 u)))
set_option maxHeartbeats 4000000 in
set_option maxRecDepth 100000 in
theorem wj_Model_at_29 {p : Program} {l : Launch} {e : Env} {s : State} {m : MethodId} {args : Array Value} {below : List Frame} {meth : Method} {c : Code} {D : va_G} {ad : Nat → Nat} {ca : Nat → ClassId} {ads : List Nat} (htr : l.stackTraces = false) (C : xk_C D kx_cl (kx_ty ca) (kw_m ad ca) ads "ModuleHouseModel" prog_14_method_142_code 2 (some .int) p e s m args meth c) (hne : c.exceptionTable.isEmpty = true) {u' : xk_St} {r : Int32} {b1 : Int32} {s0 : Int32} {u : xk_St} {H : Heap} {locs : List Loc} {ls : Array Slot} (h : jb_Model_at_29  b1 s0 u = some (r, u')) (hP : va_P D kx_cl (kw_m ad ca u) H) (hS : va_S (xk_A ads s.heap.size) s.heap H locs) (hl : lv_has ls 2 [(0, .ref (ad 0)), (1, .int b1)]) : W p l e rm_Model_at s m args below meth c H locs 0 0 (xk_MQ below (xk_Qc D kx_cl (kw_m ad ca) ads (xo_i (.inl r)) u') args s (xk_A ads s.heap.size)) (F0 m 29 ls [.int s0, .ref (ad 0)]) := by
  have hx := C.1.1
  have hb := C.1.2.1
  have hok := C.2.2.1
  unfold jb_Model_at_29 at h
  refine lv_iconst (v := 1) hx hb dd_Model_at_29 (by decide) ?_
  obtain ⟨a1, u2, hq, h⟩ := xp_seq h
  refine xk_goesI (xr_V (As := [.int s0, .int (1 : Int32)]) (rest := []) C hP hS (ct_Model_fails htr hok hq) kq_Model_824 0 11 rfl rfl ⟨rfl, rfl, Nat.le_of_ble_eq_true rfl, Nat.le_of_ble_eq_true rfl⟩ ⟨Nat.le_of_ble_eq_true rfl, Nat.le_of_ble_eq_true rfl⟩ hl.1 rfl rfl (Nat.le_of_ble_eq_true rfl) dd_Model_at_30) hS (fun H locs hP hS => ?_)
  clear hq
  refine lv_if_eq (tgt := 40) hx hb dd_Model_at_33 (by decide) (fun hc => ?_) (fun hc => ?_)
  · have h := xp_t hc h
    refine lv_aload_n hx hb dd_Model_at_40 rfl (lv_at hl 0 rfl) ?_
    refine gf_m_Model_0_memory C hP dd_Model_at_41 ?_
    refine lv_iload_n hx hb dd_Model_at_44 rfl (lv_at hl 1 rfl) ?_
    obtain ⟨hi, h⟩ := xp_g h
    refine al_m_31 C hP hi dd_Model_at_45 ?_
    refine lv_sipush (v := 255) hx hb dd_Model_at_46 (by decide) ?_
    refine lv_iand hx hb dd_Model_at_49 ?_
    obtain ⟨rfl, rfl⟩ := xp_r h
    exact xr_iret C hP hS dd_Model_at_50
  · have h := xp_f hc h
    refine lv_iconst (v := 0) hx hb dd_Model_at_36 (by decide) ?_
    refine lv_goto (tgt := 50) hx hb dd_Model_at_37 (by decide) ?_
    obtain ⟨rfl, rfl⟩ := xp_r h
    exact xr_iret C hP hS dd_Model_at_50
set_option maxHeartbeats 4000000 in
set_option maxRecDepth 100000 in
theorem wj_Model_at_24 {p : Program} {l : Launch} {e : Env} {s : State} {m : MethodId} {args : Array Value} {below : List Frame} {meth : Method} {c : Code} {D : va_G} {ad : Nat → Nat} {ca : Nat → ClassId} {ads : List Nat} (htr : l.stackTraces = false) (C : xk_C D kx_cl (kx_ty ca) (kw_m ad ca) ads "ModuleHouseModel" prog_14_method_142_code 2 (some .int) p e s m args meth c) (hne : c.exceptionTable.isEmpty = true) {u' : xk_St} {r : Int32} {b1 : Int32} {u : xk_St} {H : Heap} {locs : List Loc} {ls : Array Slot} (h : jb_Model_at_24  b1 u = some (r, u')) (hP : va_P D kx_cl (kw_m ad ca u) H) (hS : va_S (xk_A ads s.heap.size) s.heap H locs) (hl : lv_has ls 2 [(0, .ref (ad 0)), (1, .int b1)]) : W p l e rm_Model_at s m args below meth c H locs 0 0 (xk_MQ below (xk_Qc D kx_cl (kw_m ad ca) ads (xo_i (.inl r)) u') args s (xk_A ads s.heap.size)) (F0 m 24 ls [.ref (ad 0)]) := by
  have hx := C.1.1
  have hb := C.1.2.1
  have hok := C.2.2.1
  unfold jb_Model_at_24 at h
  refine lv_iconst (v := 1) hx hb dd_Model_at_24 (by decide) ?_
  refine lv_goto (tgt := 29) hx hb dd_Model_at_25 (by decide) ?_
  exact wj_Model_at_29 htr C hne h hP hS (lv_sub hl [0, 1] rfl)
set_option maxHeartbeats 4000000 in
set_option maxRecDepth 100000 in
theorem ct_Model_at {l : Launch} {D : va_G} {ad : Nat → Nat} {ca : Nat → ClassId} {ads : List Nat} (htr : l.stackTraces = false) (hok : xk_ok (kw_m ad ca) ads) {x0 : Int32} {u u' : xk_St} {r : Int32} (h : fm_Model_at x0 u = some (r, u')) :
    ∀ sz, xk_Met l ⟨"ModuleHouseModel", "at", "(I)I"⟩ (Cond.code ⟨"ModuleHouseModel", "at", "(I)I"⟩ prog_14_method_142_code 2 (some .int) :: xk_gd) rm_Model_at (xk_Pc D kx_cl (kx_ty ca) (kw_m ad ca) ads xk_F sz [.ref (ad 0), .int x0] u) (xk_Qc D kx_cl (kw_m ad ca) ads (xo_i (.inl r)) u') (xk_A ads sz) := by
  unfold fm_Model_at at h
  refine xk_con (by decide) htr hok (Nat.le_of_ble_eq_true rfl) (fun p e s m below meth c ls C hne hl hP => ?_)
  have hx := C.1.1
  have hb := C.1.2.1
  have hS : va_S (xk_A ads s.heap.size) s.heap s.heap [] := va_S.rf
  have hl : lv_has ls 2 [(0, .ref (ad 0)), (1, .int x0)] := hl
  refine lv_aload_n hx hb dd_Model_at_0 rfl (lv_at hl 0 rfl) ?_
  refine lv_aload_n hx hb dd_Model_at_1 rfl (lv_at hl 0 rfl) ?_
  refine gf_m_Model_0_isInstance C hP dd_Model_at_2 ?_
  refine lv_if_eq (tgt := 24) hx hb dd_Model_at_5 (by decide) (fun hc => ?_) (fun hc => ?_)
  · have h := xp_t hc h
    exact wj_Model_at_24 htr C hne h hP hS (lv_sub hl [0, 1] rfl)
  · have h := xp_f hc h
    refine lv_iload_n hx hb dd_Model_at_8 rfl (lv_at hl 1 rfl) ?_
    refine lv_if_lt (tgt := 24) hx hb dd_Model_at_9 (by decide) (fun hc => ?_) (fun hc => ?_)
    · have h := xp_t hc h
      exact wj_Model_at_24 htr C hne h hP hS (lv_sub hl [0, 1] rfl)
    · have h := xp_f hc h
      refine lv_iload_n hx hb dd_Model_at_12 rfl (lv_at hl 1 rfl) ?_
      refine lv_sipush (v := 4096) hx hb dd_Model_at_13 (by decide) ?_
      refine lv_aload_n hx hb dd_Model_at_16 rfl (lv_at hl 0 rfl) ?_
      refine gf_m_Model_0_pages C hP dd_Model_at_17 ?_
      refine lv_imul hx hb dd_Model_at_20 ?_
      refine lv_icmp_lt (tgt := 28) hx hb dd_Model_at_21 (by decide) (fun hc => ?_) (fun hc => ?_)
      · have h := xp_t hc h
        refine lv_iconst (v := 0) hx hb dd_Model_at_28 (by decide) ?_
        exact wj_Model_at_29 htr C hne h hP hS (lv_sub hl [0, 1] rfl)
      · have h := xp_f hc h
        exact wj_Model_at_24 htr C hne h hP hS (lv_sub hl [0, 1] rfl)
abbrev rm_Model_look : Room := { frames := 3, cells := 1, slots := 6, locals := 49 }
noncomputable def jb_Model_look_16 (fu : Nat) (b1 : Int32) (s0 : Int32) (u : xk_St) : Option (Int32 × xk_St) :=
  (xs_seq (fm_Model_fails s0 (1 : Int32) u) fun a1 u2 => if a1 = (0 : Int32) then (if b1 = (8 : Int32) then (some ((u2.1 1), u2)) else (if b1 = (9 : Int32) then (some ((u2.1 2), u2)) else (if (u2.1 25) = (0 : Int32) then (some ((0 : Int32), u2)) else (if b1 = (0 : Int32) then (some ((1 : Int32), u2)) else if b1 = (1 : Int32) then (some ((u2.1 13), u2)) else if b1 = (2 : Int32) then (some ((u2.1 19), u2)) else if b1 = (3 : Int32) then (some ((u2.1 16), u2)) else if b1 = (4 : Int32) then (some ((u2.1 24), u2)) else if b1 = (5 : Int32) then (some ((u2.1 31), u2)) else if b1 = (6 : Int32) then (some ((u2.1 30), u2)) else if b1 = (7 : Int32) then ((xs_seq (fm_Model_collect fu u2) fun _ u3 => some ((u3.1 32), u3))) else (some ((u2.1 12), u2)))))) else (some ((0 : Int32), u2)))
noncomputable def jb_Model_look_11 (fu : Nat) (b1 : Int32) (u : xk_St) : Option (Int32 × xk_St) :=
  jb_Model_look_16 fu b1 (1 : Int32) u
noncomputable def fm_Model_look (fu : Nat) (x0 : Int32) (u : xk_St) : Option (Int32 × xk_St) :=
  if x0 < (0 : Int32) then (jb_Model_look_11 fu x0 u) else (if x0 ≤ (10 : Int32) then (jb_Model_look_16 fu x0 (0 : Int32) u) else (jb_Model_look_11 fu x0 u))
set_option maxHeartbeats 4000000 in
set_option maxRecDepth 100000 in
theorem wj_Model_look_16 {p : Program} {l : Launch} {e : Env} {s : State} {m : MethodId} {args : Array Value} {below : List Frame} {meth : Method} {c : Code} {D : va_G} {ad : Nat → Nat} {ca : Nat → ClassId} {ads : List Nat} {fu : Nat} (htr : l.stackTraces = false) (C : xk_C D kx_cl (kx_ty ca) (kw_m ad ca) ads "ModuleHouseModel" prog_14_method_143_code 2 (some .int) p e s m args meth c) (hne : c.exceptionTable.isEmpty = true) {u' : xk_St} {r : Int32} {b1 : Int32} {s0 : Int32} {u : xk_St} {H : Heap} {locs : List Loc} {ls : Array Slot} (h : jb_Model_look_16 fu  b1 s0 u = some (r, u')) (hP : va_P D kx_cl (kw_m ad ca u) H) (hS : va_S (xk_A ads s.heap.size) s.heap H locs) (hl : lv_has ls 2 [(0, .ref (ad 0)), (1, .int b1)]) : W p l e rm_Model_look s m args below meth c H locs 0 0 (xk_MQ below (xk_Qc D kx_cl (kw_m ad ca) ads (xo_i (.inl r)) u') args s (xk_A ads s.heap.size)) (F0 m 16 ls [.int s0, .ref (ad 0)]) := by
  have hx := C.1.1
  have hb := C.1.2.1
  have hok := C.2.2.1
  unfold jb_Model_look_16 at h
  refine lv_iconst (v := 1) hx hb dd_Model_look_16 (by decide) ?_
  obtain ⟨a1, u2, hq, h⟩ := xp_seq h
  refine xk_goesI (xr_V (As := [.int s0, .int (1 : Int32)]) (rest := []) C hP hS (ct_Model_fails htr hok hq) kq_Model_824 0 11 rfl rfl ⟨rfl, rfl, Nat.le_of_ble_eq_true rfl, Nat.le_of_ble_eq_true rfl⟩ ⟨Nat.le_of_ble_eq_true rfl, Nat.le_of_ble_eq_true rfl⟩ hl.1 rfl rfl (Nat.le_of_ble_eq_true rfl) dd_Model_look_17) hS (fun H locs hP hS => ?_)
  clear hq
  refine lv_if_eq (tgt := 25) hx hb dd_Model_look_20 (by decide) (fun hc => ?_) (fun hc => ?_)
  · have h := xp_t hc h
    refine lv_iload_n hx hb dd_Model_look_25 rfl (lv_at hl 1 rfl) ?_
    refine lv_bipush (v := 8) hx hb dd_Model_look_26 (by decide) ?_
    refine lv_icmp_ne (tgt := 36) hx hb dd_Model_look_28 (by decide) (fun hc => ?_) (fun hc => ?_)
    · have h := xp_f hc h
      refine lv_iload_n hx hb dd_Model_look_36 rfl (lv_at hl 1 rfl) ?_
      refine lv_bipush (v := 9) hx hb dd_Model_look_37 (by decide) ?_
      refine lv_icmp_ne (tgt := 47) hx hb dd_Model_look_39 (by decide) (fun hc => ?_) (fun hc => ?_)
      · have h := xp_f hc h
        refine lv_aload_n hx hb dd_Model_look_47 rfl (lv_at hl 0 rfl) ?_
        refine gf_m_Model_0_isInstance C hP dd_Model_look_48 ?_
        refine lv_if_ne (tgt := 56) hx hb dd_Model_look_51 (by decide) (fun hc => ?_) (fun hc => ?_)
        · have h := xp_f hc h
          refine lv_iload_n hx hb dd_Model_look_56 rfl (lv_at hl 1 rfl) ?_
          by_cases hc0 : b1 = (0 : Int32)
          · have h := xp_t hc0 h
            refine lv_tableIn (off := 47) (tgt := 104) hx hb dd_Model_look_57 (by rw [hc0]; decide) (by rw [hc0]; decide) (by rw [hc0]; rfl) (by decide) ?_
            refine lv_iconst (v := 1) hx hb dd_Model_look_104 (by decide) ?_
            obtain ⟨rfl, rfl⟩ := xp_r h
            exact xr_iret C hP hS dd_Model_look_105
          have h := xp_f hc0 h
          by_cases hc1 : b1 = (1 : Int32)
          · have h := xp_t hc1 h
            refine lv_tableIn (off := 49) (tgt := 106) hx hb dd_Model_look_57 (by rw [hc1]; decide) (by rw [hc1]; decide) (by rw [hc1]; rfl) (by decide) ?_
            refine lv_aload_n hx hb dd_Model_look_106 rfl (lv_at hl 0 rfl) ?_
            refine gf_m_Model_0_functions C hP dd_Model_look_107 ?_
            obtain ⟨rfl, rfl⟩ := xp_r h
            exact xr_iret C hP hS dd_Model_look_110
          have h := xp_f hc1 h
          by_cases hc2 : b1 = (2 : Int32)
          · have h := xp_t hc2 h
            refine lv_tableIn (off := 54) (tgt := 111) hx hb dd_Model_look_57 (by rw [hc2]; decide) (by rw [hc2]; decide) (by rw [hc2]; rfl) (by decide) ?_
            refine lv_aload_n hx hb dd_Model_look_111 rfl (lv_at hl 0 rfl) ?_
            refine gf_m_Model_0_exports C hP dd_Model_look_112 ?_
            obtain ⟨rfl, rfl⟩ := xp_r h
            exact xr_iret C hP hS dd_Model_look_115
          have h := xp_f hc2 h
          by_cases hc3 : b1 = (3 : Int32)
          · have h := xp_t hc3 h
            refine lv_tableIn (off := 59) (tgt := 116) hx hb dd_Model_look_57 (by rw [hc3]; decide) (by rw [hc3]; decide) (by rw [hc3]; rfl) (by decide) ?_
            refine lv_aload_n hx hb dd_Model_look_116 rfl (lv_at hl 0 rfl) ?_
            refine gf_m_Model_0_pages C hP dd_Model_look_117 ?_
            obtain ⟨rfl, rfl⟩ := xp_r h
            exact xr_iret C hP hS dd_Model_look_120
          have h := xp_f hc3 h
          by_cases hc4 : b1 = (4 : Int32)
          · have h := xp_t hc4 h
            refine lv_tableIn (off := 64) (tgt := 121) hx hb dd_Model_look_57 (by rw [hc4]; decide) (by rw [hc4]; decide) (by rw [hc4]; rfl) (by decide) ?_
            refine lv_aload_n hx hb dd_Model_look_121 rfl (lv_at hl 0 rfl) ?_
            refine gf_m_Model_0_table C hP dd_Model_look_122 ?_
            obtain ⟨rfl, rfl⟩ := xp_r h
            exact xr_iret C hP hS dd_Model_look_125
          have h := xp_f hc4 h
          by_cases hc5 : b1 = (5 : Int32)
          · have h := xp_t hc5 h
            refine lv_tableIn (off := 69) (tgt := 126) hx hb dd_Model_look_57 (by rw [hc5]; decide) (by rw [hc5]; decide) (by rw [hc5]; rfl) (by decide) ?_
            refine lv_aload_n hx hb dd_Model_look_126 rfl (lv_at hl 0 rfl) ?_
            refine gf_m_Model_0_resultMany C hP dd_Model_look_127 ?_
            obtain ⟨rfl, rfl⟩ := xp_r h
            exact xr_iret C hP hS dd_Model_look_130
          have h := xp_f hc5 h
          by_cases hc6 : b1 = (6 : Int32)
          · have h := xp_t hc6 h
            refine lv_tableIn (off := 74) (tgt := 131) hx hb dd_Model_look_57 (by rw [hc6]; decide) (by rw [hc6]; decide) (by rw [hc6]; rfl) (by decide) ?_
            refine lv_aload_n hx hb dd_Model_look_131 rfl (lv_at hl 0 rfl) ?_
            refine gf_m_Model_0_turnsOver C hP dd_Model_look_132 ?_
            obtain ⟨rfl, rfl⟩ := xp_r h
            exact xr_iret C hP hS dd_Model_look_135
          have h := xp_f hc6 h
          by_cases hc7 : b1 = (7 : Int32)
          · have h := xp_t hc7 h
            refine lv_tableIn (off := 79) (tgt := 136) hx hb dd_Model_look_57 (by rw [hc7]; decide) (by rw [hc7]; decide) (by rw [hc7]; rfl) (by decide) ?_
            refine lv_aload_n hx hb dd_Model_look_136 rfl (lv_at hl 0 rfl) ?_
            obtain ⟨rx, u3, hq, h⟩ := xp_seq h
            refine xk_goesV (xr_V (As := []) (rest := []) C hP hS (ct_Model_collect htr hok hq) kq_Model_670 0 11 rfl rfl ⟨rfl, rfl, Nat.le_of_ble_eq_true rfl, Nat.le_of_ble_eq_true rfl⟩ ⟨Nat.le_of_ble_eq_true rfl, Nat.le_of_ble_eq_true rfl⟩ hl.1 rfl rfl (Nat.le_of_ble_eq_true rfl) dd_Model_look_137) hS (fun H locs hP hS => ?_)
            clear hq
            refine lv_aload_n hx hb dd_Model_look_140 rfl (lv_at hl 0 rfl) ?_
            refine gf_m_Model_0_heap C hP dd_Model_look_141 ?_
            obtain ⟨rfl, rfl⟩ := xp_r h
            exact xr_iret C hP hS dd_Model_look_144
          have h := xp_f hc7 h
          have hd0 := lv_neT hc0 (a := 0) (by decide)
          have hd1 := lv_neT hc1 (a := 1) (by decide)
          have hd2 := lv_neT hc2 (a := 2) (by decide)
          have hd3 := lv_neT hc3 (a := 3) (by decide)
          have hd4 := lv_neT hc4 (a := 4) (by decide)
          have hd5 := lv_neT hc5 (a := 5) (by decide)
          have hd6 := lv_neT hc6 (a := 6) (by decide)
          have hd7 := lv_neT hc7 (a := 7) (by decide)
          refine lv_tableOut (tgt := 145) hx hb dd_Model_look_57 (by omega) (by decide) ?_
          refine lv_aload_n hx hb dd_Model_look_145 rfl (lv_at hl 0 rfl) ?_
          refine gf_m_Model_0_types C hP dd_Model_look_146 ?_
          obtain ⟨rfl, rfl⟩ := xp_r h
          exact xr_iret C hP hS dd_Model_look_149
        · have h := xp_t hc h
          refine lv_iconst (v := 0) hx hb dd_Model_look_54 (by decide) ?_
          obtain ⟨rfl, rfl⟩ := xp_r h
          exact xr_iret C hP hS dd_Model_look_55
      · have h := xp_t hc h
        refine lv_aload_n hx hb dd_Model_look_42 rfl (lv_at hl 0 rfl) ?_
        refine gf_m_Model_0_givenMany C hP dd_Model_look_43 ?_
        obtain ⟨rfl, rfl⟩ := xp_r h
        exact xr_iret C hP hS dd_Model_look_46
    · have h := xp_t hc h
      refine lv_aload_n hx hb dd_Model_look_31 rfl (lv_at hl 0 rfl) ?_
      refine gf_m_Model_0_tapeMany C hP dd_Model_look_32 ?_
      obtain ⟨rfl, rfl⟩ := xp_r h
      exact xr_iret C hP hS dd_Model_look_35
  · have h := xp_f hc h
    refine lv_iconst (v := 0) hx hb dd_Model_look_23 (by decide) ?_
    obtain ⟨rfl, rfl⟩ := xp_r h
    exact xr_iret C hP hS dd_Model_look_24
set_option maxHeartbeats 4000000 in
set_option maxRecDepth 100000 in
theorem wj_Model_look_11 {p : Program} {l : Launch} {e : Env} {s : State} {m : MethodId} {args : Array Value} {below : List Frame} {meth : Method} {c : Code} {D : va_G} {ad : Nat → Nat} {ca : Nat → ClassId} {ads : List Nat} {fu : Nat} (htr : l.stackTraces = false) (C : xk_C D kx_cl (kx_ty ca) (kw_m ad ca) ads "ModuleHouseModel" prog_14_method_143_code 2 (some .int) p e s m args meth c) (hne : c.exceptionTable.isEmpty = true) {u' : xk_St} {r : Int32} {b1 : Int32} {u : xk_St} {H : Heap} {locs : List Loc} {ls : Array Slot} (h : jb_Model_look_11 fu  b1 u = some (r, u')) (hP : va_P D kx_cl (kw_m ad ca u) H) (hS : va_S (xk_A ads s.heap.size) s.heap H locs) (hl : lv_has ls 2 [(0, .ref (ad 0)), (1, .int b1)]) : W p l e rm_Model_look s m args below meth c H locs 0 0 (xk_MQ below (xk_Qc D kx_cl (kw_m ad ca) ads (xo_i (.inl r)) u') args s (xk_A ads s.heap.size)) (F0 m 11 ls [.ref (ad 0)]) := by
  have hx := C.1.1
  have hb := C.1.2.1
  have hok := C.2.2.1
  unfold jb_Model_look_11 at h
  refine lv_iconst (v := 1) hx hb dd_Model_look_11 (by decide) ?_
  refine lv_goto (tgt := 16) hx hb dd_Model_look_12 (by decide) ?_
  exact wj_Model_look_16 htr C hne h hP hS (lv_sub hl [0, 1] rfl)
set_option maxHeartbeats 4000000 in
set_option maxRecDepth 100000 in
theorem ct_Model_look {l : Launch} {D : va_G} {ad : Nat → Nat} {ca : Nat → ClassId} {ads : List Nat} (htr : l.stackTraces = false) (hok : xk_ok (kw_m ad ca) ads) {fu : Nat} {x0 : Int32} {u u' : xk_St} {r : Int32} (h : fm_Model_look fu x0 u = some (r, u')) :
    ∀ sz, xk_Met l ⟨"ModuleHouseModel", "look", "(I)I"⟩ (Cond.code ⟨"ModuleHouseModel", "look", "(I)I"⟩ prog_14_method_143_code 2 (some .int) :: xk_gd) rm_Model_look (xk_Pc D kx_cl (kx_ty ca) (kw_m ad ca) ads xk_F sz [.ref (ad 0), .int x0] u) (xk_Qc D kx_cl (kw_m ad ca) ads (xo_i (.inl r)) u') (xk_A ads sz) := by
  unfold fm_Model_look at h
  refine xk_con (by decide) htr hok (Nat.le_of_ble_eq_true rfl) (fun p e s m below meth c ls C hne hl hP => ?_)
  have hx := C.1.1
  have hb := C.1.2.1
  have hS : va_S (xk_A ads s.heap.size) s.heap s.heap [] := va_S.rf
  have hl : lv_has ls 2 [(0, .ref (ad 0)), (1, .int x0)] := hl
  refine lv_aload_n hx hb dd_Model_look_0 rfl (lv_at hl 0 rfl) ?_
  refine lv_iload_n hx hb dd_Model_look_1 rfl (lv_at hl 1 rfl) ?_
  refine lv_if_lt (tgt := 11) hx hb dd_Model_look_2 (by decide) (fun hc => ?_) (fun hc => ?_)
  · have h := xp_t hc h
    exact wj_Model_look_11 htr C hne h hP hS (lv_sub hl [0, 1] rfl)
  · have h := xp_f hc h
    refine lv_iload_n hx hb dd_Model_look_5 rfl (lv_at hl 1 rfl) ?_
    refine lv_bipush (v := 10) hx hb dd_Model_look_6 (by decide) ?_
    refine lv_icmp_le (tgt := 15) hx hb dd_Model_look_8 (by decide) (fun hc => ?_) (fun hc => ?_)
    · have h := xp_t hc h
      refine lv_iconst (v := 0) hx hb dd_Model_look_15 (by decide) ?_
      exact wj_Model_look_16 htr C hne h hP hS (lv_sub hl [0, 1] rfl)
    · have h := xp_f hc h
      exact wj_Model_look_11 htr C hne h hP hS (lv_sub hl [0, 1] rfl)
