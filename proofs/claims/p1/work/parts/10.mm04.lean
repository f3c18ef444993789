abbrev rm_Model_walk : Room := { frames := 10, cells := 1, slots := 6, locals := 206 }
noncomputable def jb_Model_walk_211 (fu : Nat) (k63 : Int32 → xk_St → Option (Unit × xk_St)) (b1 : Int32) (u : xk_St) : Option (Unit × xk_St) :=
  k63 b1 u
noncomputable def jb_Model_walk_197 (fu : Nat) (k63 : Int32 → xk_St → Option (Unit × xk_St)) (b1 : Int32) (b5 : Int32) (u : xk_St) : Option (Unit × xk_St) :=
  if (u.1 4) = b5 then (jb_Model_walk_211 fu k63 b1 u) else ((xs_seq (fm_Model_fail (-1 : Int32) u) fun _ u14 => jb_Model_walk_211 fu k63 b1 u14))
noncomputable def jb_Model_walk_144 (fu : Nat) (k63 : Int32 → xk_St → Option (Unit × xk_St)) (b1 : Int32) (b2 : Int32) (b3 : Int64) (u : xk_St) : Option (Unit × xk_St) :=
  if (u.1 6) = (0 : Int32) then ((xs_let ((u.1 4) + (b3.toInt32)) fun a10 => xs_let (xs_I u 5 a10) fun u11 => if b2 = (0 : Int32) then ((xs_let (xs_I u11 4 a10) fun u15 => jb_Model_walk_197 fu k63 b1 a10 u15)) else ((if b2 < 0 ∨ 12 ≤ b2.toNatClampNeg then none else xs_let (xs_A u11 2 b2.toNatClampNeg (u11.1 4)) fun u12 => xs_seq (fm_Model_section fu b2 u12) fun _ u13 => jb_Model_walk_197 fu k63 b2 a10 u13)))) else (some ((()), u))
noncomputable def jb_Model_walk_119 (fu : Nat) (k63 : Int32 → xk_St → Option (Unit × xk_St)) (b1 : Int32) (b2 : Int32) (u : xk_St) : Option (Unit × xk_St) :=
  (xs_seq (fm_Model_number fu u) fun a8 u9 => if a8 ≤ (((u9.1 3) - (u9.1 4)).toInt64) then (jb_Model_walk_144 fu k63 b1 b2 a8 u9) else ((xs_seq (fm_Model_fail (-1 : Int32) u9) fun _ u16 => jb_Model_walk_144 fu k63 b1 b2 a8 u16)))
noncomputable def jb_Model_walk_114 (fu : Nat) (k63 : Int32 → xk_St → Option (Unit × xk_St)) (b1 : Int32) (b2 : Int32) (u : xk_St) : Option (Unit × xk_St) :=
  (xs_seq (fm_Model_fail (-1 : Int32) u) fun _ u7 => jb_Model_walk_119 fu k63 b1 b2 u7)
noncomputable def jb_Model_walk_63 (fu : Nat) : Nat → Int32 → xk_St → Option (Unit × xk_St)
  | 0 => fun _ _ => none
  | n + 1 => fun b1 u =>
    xs_let (jb_Model_walk_63 fu  n) fun k63 =>
    if (u.1 6) = (0 : Int32) then (if (u.1 3) ≤ (u.1 4) then (some ((()), u)) else ((xs_let (xs_I u 5 (u.1 3)) fun u4 => xs_seq (fm_Model_one u4) fun a5 u6 => if a5 = (2 : Int32) then (jb_Model_walk_114 fu k63 b1 a5 u6) else (if (11 : Int32) < a5 then (jb_Model_walk_114 fu k63 b1 a5 u6) else (if a5 ≤ (0 : Int32) then (jb_Model_walk_119 fu k63 b1 a5 u6) else (if b1 < a5 then (jb_Model_walk_119 fu k63 b1 a5 u6) else (jb_Model_walk_114 fu k63 b1 a5 u6))))))) else (some ((()), u))
noncomputable def jb_Model_walk_41 (fu : Nat) : Nat → Int32 → xk_St → Option (Unit × xk_St)
  | 0 => fun _ _ => none
  | n + 1 => fun b1 u =>
    xs_let (jb_Model_walk_41 fu  n) fun k41 =>
    if (8 : Int32) ≤ b1 then (jb_Model_walk_63 fu fu (0 : Int32) u) else ((xs_seq (fm_Model_magic b1 u) fun a17 u18 => xs_seq (fm_Model_needs a17 u18) fun _ u19 => xs_let (b1 + (1 : Int32)) fun a20 => k41 a20 u19))
noncomputable def jb_Model_walk_20 (fu : Nat) : Nat → Int32 → xk_St → Option (Unit × xk_St)
  | 0 => fun _ _ => none
  | n + 1 => fun b1 u =>
    xs_let (jb_Model_walk_20 fu  n) fun k20 =>
    if (12 : Int32) ≤ b1 then (jb_Model_walk_41 fu fu (0 : Int32) u) else ((if b1 < 0 ∨ 12 ≤ b1.toNatClampNeg then none else xs_let (xs_A u 2 b1.toNatClampNeg (-1 : Int32)) fun u21 => xs_let (b1 + (1 : Int32)) fun a22 => k20 a22 u21))
noncomputable def fm_Model_walk (fu : Nat) (u : xk_St) : Option (Unit × xk_St) :=
  (xs_let (xs_I u 6 (0 : Int32)) fun u1 => xs_let (xs_I u1 4 (0 : Int32)) fun u2 => xs_let (xs_I u2 5 (u2.1 3)) fun u3 => jb_Model_walk_20 fu fu (0 : Int32) u3)
set_option maxHeartbeats 4000000 in
set_option maxRecDepth 100000 in
theorem wj_Model_walk_211 {p : Program} {l : Launch} {e : Env} {s : State} {m : MethodId} {args : Array Value} {below : List Frame} {meth : Method} {c : Code} {D : va_G} {ad : Nat → Nat} {ca : Nat → ClassId} {ads : List Nat} {fu : Nat} (htr : l.stackTraces = false) (C : xk_C D kx_cl (kx_ty ca) (kw_m ad ca) ads "ModuleHouseModel" prog_14_method_28_code 6 none p e s m args meth c) (hne : c.exceptionTable.isEmpty = true) {u' : xk_St} {r : Unit} {k63 : Int32 → xk_St → Option (Unit × xk_St)} (hk63 : ∀ (c0 : Int32) (u : xk_St) (H : Heap) (locs : List Loc) (ls : Array Slot), k63 c0 u = some (r, u') → va_P D kx_cl (kw_m ad ca u) H → va_S (xk_A ads s.heap.size) s.heap H locs → lv_has ls 6 [(0, .ref (ad 0)), (1, .int c0)] → W p l e rm_Model_walk s m args below meth c H locs 0 0 (xk_MQ below (xk_Qc D kx_cl (kw_m ad ca) ads (xo_v (.inl r)) u') args s (xk_A ads s.heap.size)) (F0 m 63 ls [])) {b1 : Int32} {u : xk_St} {H : Heap} {locs : List Loc} {ls : Array Slot} (h : jb_Model_walk_211 fu k63 b1 u = some (r, u')) (hP : va_P D kx_cl (kw_m ad ca u) H) (hS : va_S (xk_A ads s.heap.size) s.heap H locs) (hl : lv_has ls 6 [(0, .ref (ad 0)), (1, .int b1)]) : W p l e rm_Model_walk s m args below meth c H locs 0 0 (xk_MQ below (xk_Qc D kx_cl (kw_m ad ca) ads (xo_v (.inl r)) u') args s (xk_A ads s.heap.size)) (F0 m 211 ls []) := by
  have hx := C.1.1
  have hb := C.1.2.1
  have hok := C.2.2.1
  unfold jb_Model_walk_211 at h
  refine lv_goto (tgt := 63) hx hb dd_Model_walk_211 (by decide) ?_
  exact hk63 b1 u _ _ _ h hP hS (lv_sub hl [0, 1] rfl)
set_option maxHeartbeats 4000000 in
set_option maxRecDepth 100000 in
theorem wj_Model_walk_197 {p : Program} {l : Launch} {e : Env} {s : State} {m : MethodId} {args : Array Value} {below : List Frame} {meth : Method} {c : Code} {D : va_G} {ad : Nat → Nat} {ca : Nat → ClassId} {ads : List Nat} {fu : Nat} (htr : l.stackTraces = false) (C : xk_C D kx_cl (kx_ty ca) (kw_m ad ca) ads "ModuleHouseModel" prog_14_method_28_code 6 none p e s m args meth c) (hne : c.exceptionTable.isEmpty = true) {u' : xk_St} {r : Unit} {k63 : Int32 → xk_St → Option (Unit × xk_St)} (hk63 : ∀ (c0 : Int32) (u : xk_St) (H : Heap) (locs : List Loc) (ls : Array Slot), k63 c0 u = some (r, u') → va_P D kx_cl (kw_m ad ca u) H → va_S (xk_A ads s.heap.size) s.heap H locs → lv_has ls 6 [(0, .ref (ad 0)), (1, .int c0)] → W p l e rm_Model_walk s m args below meth c H locs 0 0 (xk_MQ below (xk_Qc D kx_cl (kw_m ad ca) ads (xo_v (.inl r)) u') args s (xk_A ads s.heap.size)) (F0 m 63 ls [])) {b1 : Int32} {b5 : Int32} {u : xk_St} {H : Heap} {locs : List Loc} {ls : Array Slot} (h : jb_Model_walk_197 fu k63 b1 b5 u = some (r, u')) (hP : va_P D kx_cl (kw_m ad ca u) H) (hS : va_S (xk_A ads s.heap.size) s.heap H locs) (hl : lv_has ls 6 [(0, .ref (ad 0)), (1, .int b1), (5, .int b5)]) : W p l e rm_Model_walk s m args below meth c H locs 0 0 (xk_MQ below (xk_Qc D kx_cl (kw_m ad ca) ads (xo_v (.inl r)) u') args s (xk_A ads s.heap.size)) (F0 m 197 ls []) := by
  have hx := C.1.1
  have hb := C.1.2.1
  have hok := C.2.2.1
  unfold jb_Model_walk_197 at h
  refine lv_aload_n hx hb dd_Model_walk_197 rfl (lv_at hl 0 rfl) ?_
  refine gf_m_Model_0_at C hP dd_Model_walk_198 ?_
  refine lv_iload hx hb dd_Model_walk_201 (lv_at hl 2 rfl) ?_
  refine lv_icmp_eq (tgt := 211) hx hb dd_Model_walk_203 (by decide) (fun hc => ?_) (fun hc => ?_)
  · have h := xp_t hc h
    exact wj_Model_walk_211 htr C hne hk63 h hP hS (lv_sub hl [0, 1] rfl)
  · have h := xp_f hc h
    refine lv_aload_n hx hb dd_Model_walk_206 rfl (lv_at hl 0 rfl) ?_
    refine lv_iconst (v := (-1)) hx hb dd_Model_walk_207 (by decide) ?_
    obtain ⟨rx, u14, hq, h⟩ := xp_seq h
    refine xk_goesV (xr_V (As := [.int (-1 : Int32)]) (rest := []) C hP hS (ct_Model_fail htr hok hq) kq_Model_174 0 11 rfl rfl ⟨rfl, rfl, Nat.le_of_ble_eq_true rfl, Nat.le_of_ble_eq_true rfl⟩ ⟨Nat.le_of_ble_eq_true rfl, Nat.le_of_ble_eq_true rfl⟩ hl.1 rfl rfl (Nat.le_of_ble_eq_true rfl) dd_Model_walk_208) hS (fun H locs hP hS => ?_)
    clear hq
    exact wj_Model_walk_211 htr C hne hk63 h hP hS (lv_sub hl [0, 1] rfl)
set_option maxHeartbeats 4000000 in
set_option maxRecDepth 100000 in
theorem wj_Model_walk_144 {p : Program} {l : Launch} {e : Env} {s : State} {m : MethodId} {args : Array Value} {below : List Frame} {meth : Method} {c : Code} {D : va_G} {ad : Nat → Nat} {ca : Nat → ClassId} {ads : List Nat} {fu : Nat} (htr : l.stackTraces = false) (C : xk_C D kx_cl (kx_ty ca) (kw_m ad ca) ads "ModuleHouseModel" prog_14_method_28_code 6 none p e s m args meth c) (hne : c.exceptionTable.isEmpty = true) {u' : xk_St} {r : Unit} {k63 : Int32 → xk_St → Option (Unit × xk_St)} (hk63 : ∀ (c0 : Int32) (u : xk_St) (H : Heap) (locs : List Loc) (ls : Array Slot), k63 c0 u = some (r, u') → va_P D kx_cl (kw_m ad ca u) H → va_S (xk_A ads s.heap.size) s.heap H locs → lv_has ls 6 [(0, .ref (ad 0)), (1, .int c0)] → W p l e rm_Model_walk s m args below meth c H locs 0 0 (xk_MQ below (xk_Qc D kx_cl (kw_m ad ca) ads (xo_v (.inl r)) u') args s (xk_A ads s.heap.size)) (F0 m 63 ls [])) {b1 : Int32} {b2 : Int32} {b3 : Int64} {u : xk_St} {H : Heap} {locs : List Loc} {ls : Array Slot} (h : jb_Model_walk_144 fu k63 b1 b2 b3 u = some (r, u')) (hP : va_P D kx_cl (kw_m ad ca u) H) (hS : va_S (xk_A ads s.heap.size) s.heap H locs) (hl : lv_has ls 6 [(0, .ref (ad 0)), (1, .int b1), (2, .int b2), (3, .long b3)]) : W p l e rm_Model_walk s m args below meth c H locs 0 0 (xk_MQ below (xk_Qc D kx_cl (kw_m ad ca) ads (xo_v (.inl r)) u') args s (xk_A ads s.heap.size)) (F0 m 144 ls []) := by
  have hx := C.1.1
  have hb := C.1.2.1
  have hok := C.2.2.1
  unfold jb_Model_walk_144 at h
  refine lv_aload_n hx hb dd_Model_walk_144 rfl (lv_at hl 0 rfl) ?_
  refine gf_m_Model_0_bad C hP dd_Model_walk_145 ?_
  refine lv_if_eq (tgt := 152) hx hb dd_Model_walk_148 (by decide) (fun hc => ?_) (fun hc => ?_)
  · have h := xp_t hc h
    refine lv_aload_n hx hb dd_Model_walk_152 rfl (lv_at hl 0 rfl) ?_
    refine gf_m_Model_0_at C hP dd_Model_walk_153 ?_
    refine lv_lload_n hx hb dd_Model_walk_156 rfl (lv_at hl 3 rfl) ?_
    refine lv_l2i hx hb dd_Model_walk_157 rfl ?_
    refine lv_iadd hx hb dd_Model_walk_158 ?_
    obtain ⟨a10, ea10, h⟩ := xp_let h
    refine xr_nami ea10 ?_
    refine lv_istore (lv' := [(5, .int a10), (0, .ref (ad 0)), (1, .int b1), (2, .int b2), (3, .long b3)]) hx hb dd_Model_walk_159 hl (by decide) rfl (fun ls hl => ?_)
    refine lv_aload_n hx hb dd_Model_walk_161 rfl (lv_at hl 1 rfl) ?_
    refine lv_iload hx hb dd_Model_walk_162 (lv_at hl 0 rfl) ?_
    refine pf_m_Model_0_limit C hP hS dd_Model_walk_164 (fun H locs hP hS => ?_)
    obtain ⟨u11, eu11, h⟩ := xp_let h
    rw [← eu11] at hP
    refine lv_iload_n hx hb dd_Model_walk_167 rfl (lv_at hl 3 rfl) ?_
    refine lv_if_ne (tgt := 180) hx hb dd_Model_walk_168 (by decide) (fun hc => ?_) (fun hc => ?_)
    · have h := xp_f hc h
      refine lv_iload_n hx hb dd_Model_walk_180 rfl (lv_at hl 3 rfl) ?_
      refine lv_istore_n (lv' := [(1, .int b2), (5, .int a10), (0, .ref (ad 0)), (2, .int b2), (3, .long b3)]) hx hb dd_Model_walk_181 rfl hl (by decide) rfl (fun ls hl => ?_)
      refine lv_aload_n hx hb dd_Model_walk_182 rfl (lv_at hl 2 rfl) ?_
      refine gf_m_Model_0_sections C hP dd_Model_walk_183 ?_
      refine lv_iload_n hx hb dd_Model_walk_186 rfl (lv_at hl 3 rfl) ?_
      refine lv_aload_n hx hb dd_Model_walk_187 rfl (lv_at hl 2 rfl) ?_
      refine gf_m_Model_0_at C hP dd_Model_walk_188 ?_
      obtain ⟨hi, h⟩ := xp_g h
      refine as_m_4 C hP hS hi dd_Model_walk_191 (fun H locs hP hS => ?_)
      obtain ⟨u12, eu12, h⟩ := xp_let h
      rw [← eu12] at hP
      refine lv_aload_n hx hb dd_Model_walk_192 rfl (lv_at hl 2 rfl) ?_
      refine lv_iload_n hx hb dd_Model_walk_193 rfl (lv_at hl 3 rfl) ?_
      obtain ⟨rx, u13, hq, h⟩ := xp_seq h
      refine xk_goesV (xr_V (As := [.int b2]) (rest := []) C hP hS (ct_Model_section htr hok hq) kq_Model_348 0 11 rfl rfl ⟨rfl, rfl, Nat.le_of_ble_eq_true rfl, Nat.le_of_ble_eq_true rfl⟩ ⟨Nat.le_of_ble_eq_true rfl, Nat.le_of_ble_eq_true rfl⟩ hl.1 rfl rfl (Nat.le_of_ble_eq_true rfl) dd_Model_walk_194) hS (fun H locs hP hS => ?_)
      clear hq
      exact wj_Model_walk_197 htr C hne hk63 h hP hS (lv_sub hl [2, 0, 1] rfl)
    · have h := xp_t hc h
      refine lv_aload_n hx hb dd_Model_walk_171 rfl (lv_at hl 1 rfl) ?_
      refine lv_iload hx hb dd_Model_walk_172 (lv_at hl 0 rfl) ?_
      refine pf_m_Model_0_at C hP hS dd_Model_walk_174 (fun H locs hP hS => ?_)
      obtain ⟨u15, eu15, h⟩ := xp_let h
      rw [← eu15] at hP
      refine lv_goto (tgt := 197) hx hb dd_Model_walk_177 (by decide) ?_
      exact wj_Model_walk_197 htr C hne hk63 h hP hS (lv_sub hl [1, 2, 0] rfl)
  · have h := xp_f hc h
    obtain ⟨rfl, rfl⟩ := xp_r h
    exact xr_vret C hP hS dd_Model_walk_151
set_option maxHeartbeats 4000000 in
set_option maxRecDepth 100000 in
theorem wj_Model_walk_119 {p : Program} {l : Launch} {e : Env} {s : State} {m : MethodId} {args : Array Value} {below : List Frame} {meth : Method} {c : Code} {D : va_G} {ad : Nat → Nat} {ca : Nat → ClassId} {ads : List Nat} {fu : Nat} (htr : l.stackTraces = false) (C : xk_C D kx_cl (kx_ty ca) (kw_m ad ca) ads "ModuleHouseModel" prog_14_method_28_code 6 none p e s m args meth c) (hne : c.exceptionTable.isEmpty = true) {u' : xk_St} {r : Unit} {k63 : Int32 → xk_St → Option (Unit × xk_St)} (hk63 : ∀ (c0 : Int32) (u : xk_St) (H : Heap) (locs : List Loc) (ls : Array Slot), k63 c0 u = some (r, u') → va_P D kx_cl (kw_m ad ca u) H → va_S (xk_A ads s.heap.size) s.heap H locs → lv_has ls 6 [(0, .ref (ad 0)), (1, .int c0)] → W p l e rm_Model_walk s m args below meth c H locs 0 0 (xk_MQ below (xk_Qc D kx_cl (kw_m ad ca) ads (xo_v (.inl r)) u') args s (xk_A ads s.heap.size)) (F0 m 63 ls [])) {b1 : Int32} {b2 : Int32} {u : xk_St} {H : Heap} {locs : List Loc} {ls : Array Slot} (h : jb_Model_walk_119 fu k63 b1 b2 u = some (r, u')) (hP : va_P D kx_cl (kw_m ad ca u) H) (hS : va_S (xk_A ads s.heap.size) s.heap H locs) (hl : lv_has ls 6 [(0, .ref (ad 0)), (1, .int b1), (2, .int b2)]) : W p l e rm_Model_walk s m args below meth c H locs 0 0 (xk_MQ below (xk_Qc D kx_cl (kw_m ad ca) ads (xo_v (.inl r)) u') args s (xk_A ads s.heap.size)) (F0 m 119 ls []) := by
  have hx := C.1.1
  have hb := C.1.2.1
  have hok := C.2.2.1
  unfold jb_Model_walk_119 at h
  refine lv_aload_n hx hb dd_Model_walk_119 rfl (lv_at hl 0 rfl) ?_
  obtain ⟨a8, u9, hq, h⟩ := xp_seq h
  refine xk_goesL (xr_V (As := []) (rest := []) C hP hS (ct_Model_number htr hok hq) kq_Model_295 0 11 rfl rfl ⟨rfl, rfl, Nat.le_of_ble_eq_true rfl, Nat.le_of_ble_eq_true rfl⟩ ⟨Nat.le_of_ble_eq_true rfl, Nat.le_of_ble_eq_true rfl⟩ hl.1 rfl rfl (Nat.le_of_ble_eq_true rfl) dd_Model_walk_120) hS (fun H locs hP hS => ?_)
  clear hq
  refine lv_lstore_n (lv' := [(3, .long a8), (0, .ref (ad 0)), (1, .int b1), (2, .int b2)]) hx hb dd_Model_walk_123 rfl hl (by decide) rfl (fun ls hl => ?_)
  refine lv_lload_n hx hb dd_Model_walk_124 rfl (lv_at hl 0 rfl) ?_
  refine lv_aload_n hx hb dd_Model_walk_125 rfl (lv_at hl 1 rfl) ?_
  refine gf_m_Model_0_codeMany C hP dd_Model_walk_126 ?_
  refine lv_aload_n hx hb dd_Model_walk_129 rfl (lv_at hl 1 rfl) ?_
  refine gf_m_Model_0_at C hP dd_Model_walk_130 ?_
  refine lv_isub hx hb dd_Model_walk_133 ?_
  refine lv_i2l hx hb dd_Model_walk_134 rfl ?_
  refine xr_lc_le (tgt := 144) hx hb dd_Model_walk_135 dd_Model_walk_136 (by decide) (fun hc => ?_) (fun hc => ?_)
  · have h := xp_t hc h
    exact wj_Model_walk_144 htr C hne hk63 h hP hS (lv_sub hl [1, 2, 3, 0] rfl)
  · have h := xp_f hc h
    refine lv_aload_n hx hb dd_Model_walk_139 rfl (lv_at hl 1 rfl) ?_
    refine lv_iconst (v := (-1)) hx hb dd_Model_walk_140 (by decide) ?_
    obtain ⟨rx, u16, hq, h⟩ := xp_seq h
    refine xk_goesV (xr_V (As := [.int (-1 : Int32)]) (rest := []) C hP hS (ct_Model_fail htr hok hq) kq_Model_174 0 11 rfl rfl ⟨rfl, rfl, Nat.le_of_ble_eq_true rfl, Nat.le_of_ble_eq_true rfl⟩ ⟨Nat.le_of_ble_eq_true rfl, Nat.le_of_ble_eq_true rfl⟩ hl.1 rfl rfl (Nat.le_of_ble_eq_true rfl) dd_Model_walk_141) hS (fun H locs hP hS => ?_)
    clear hq
    exact wj_Model_walk_144 htr C hne hk63 h hP hS (lv_sub hl [1, 2, 3, 0] rfl)
set_option maxHeartbeats 4000000 in
set_option maxRecDepth 100000 in
theorem wj_Model_walk_114 {p : Program} {l : Launch} {e : Env} {s : State} {m : MethodId} {args : Array Value} {below : List Frame} {meth : Method} {c : Code} {D : va_G} {ad : Nat → Nat} {ca : Nat → ClassId} {ads : List Nat} {fu : Nat} (htr : l.stackTraces = false) (C : xk_C D kx_cl (kx_ty ca) (kw_m ad ca) ads "ModuleHouseModel" prog_14_method_28_code 6 none p e s m args meth c) (hne : c.exceptionTable.isEmpty = true) {u' : xk_St} {r : Unit} {k63 : Int32 → xk_St → Option (Unit × xk_St)} (hk63 : ∀ (c0 : Int32) (u : xk_St) (H : Heap) (locs : List Loc) (ls : Array Slot), k63 c0 u = some (r, u') → va_P D kx_cl (kw_m ad ca u) H → va_S (xk_A ads s.heap.size) s.heap H locs → lv_has ls 6 [(0, .ref (ad 0)), (1, .int c0)] → W p l e rm_Model_walk s m args below meth c H locs 0 0 (xk_MQ below (xk_Qc D kx_cl (kw_m ad ca) ads (xo_v (.inl r)) u') args s (xk_A ads s.heap.size)) (F0 m 63 ls [])) {b1 : Int32} {b2 : Int32} {u : xk_St} {H : Heap} {locs : List Loc} {ls : Array Slot} (h : jb_Model_walk_114 fu k63 b1 b2 u = some (r, u')) (hP : va_P D kx_cl (kw_m ad ca u) H) (hS : va_S (xk_A ads s.heap.size) s.heap H locs) (hl : lv_has ls 6 [(0, .ref (ad 0)), (1, .int b1), (2, .int b2)]) : W p l e rm_Model_walk s m args below meth c H locs 0 0 (xk_MQ below (xk_Qc D kx_cl (kw_m ad ca) ads (xo_v (.inl r)) u') args s (xk_A ads s.heap.size)) (F0 m 114 ls []) := by
  have hx := C.1.1
  have hb := C.1.2.1
  have hok := C.2.2.1
  unfold jb_Model_walk_114 at h
  refine lv_aload_n hx hb dd_Model_walk_114 rfl (lv_at hl 0 rfl) ?_
  refine lv_iconst (v := (-1)) hx hb dd_Model_walk_115 (by decide) ?_
  obtain ⟨rx, u7, hq, h⟩ := xp_seq h
  refine xk_goesV (xr_V (As := [.int (-1 : Int32)]) (rest := []) C hP hS (ct_Model_fail htr hok hq) kq_Model_174 0 11 rfl rfl ⟨rfl, rfl, Nat.le_of_ble_eq_true rfl, Nat.le_of_ble_eq_true rfl⟩ ⟨Nat.le_of_ble_eq_true rfl, Nat.le_of_ble_eq_true rfl⟩ hl.1 rfl rfl (Nat.le_of_ble_eq_true rfl) dd_Model_walk_116) hS (fun H locs hP hS => ?_)
  clear hq
  exact wj_Model_walk_119 htr C hne hk63 h hP hS (lv_sub hl [0, 1, 2] rfl)
set_option maxHeartbeats 4000000 in
set_option maxRecDepth 100000 in
theorem wj_Model_walk_63 {p : Program} {l : Launch} {e : Env} {s : State} {m : MethodId} {args : Array Value} {below : List Frame} {meth : Method} {c : Code} {D : va_G} {ad : Nat → Nat} {ca : Nat → ClassId} {ads : List Nat} {fu : Nat} (htr : l.stackTraces = false) (C : xk_C D kx_cl (kx_ty ca) (kw_m ad ca) ads "ModuleHouseModel" prog_14_method_28_code 6 none p e s m args meth c) (hne : c.exceptionTable.isEmpty = true) {u' : xk_St} {r : Unit} : ∀ {n : Nat} {b1 : Int32} {u : xk_St} {H : Heap} {locs : List Loc} {ls : Array Slot} (h : jb_Model_walk_63 fu  n b1 u = some (r, u')) (hP : va_P D kx_cl (kw_m ad ca u) H) (hS : va_S (xk_A ads s.heap.size) s.heap H locs) (hl : lv_has ls 6 [(0, .ref (ad 0)), (1, .int b1)]), W p l e rm_Model_walk s m args below meth c H locs 0 0 (xk_MQ below (xk_Qc D kx_cl (kw_m ad ca) ads (xo_v (.inl r)) u') args s (xk_A ads s.heap.size)) (F0 m 63 ls []) := by
  intro n
  have hx := C.1.1
  have hb := C.1.2.1
  have hok := C.2.2.1
  induction n with
  | zero =>
    intro _ u H locs ls h
    have h : none = some (r, u') := h
    cases h
  | succ n ih =>
    intro b1 u H locs ls h hP hS hl
    unfold jb_Model_walk_63 at h
    obtain ⟨k63, ek63, h⟩ := xp_let h
    have hk63 : ∀ (c0 : Int32) (u : xk_St) (H : Heap) (locs : List Loc) (ls : Array Slot), k63 c0 u = some (r, u') → va_P D kx_cl (kw_m ad ca u) H → va_S (xk_A ads s.heap.size) s.heap H locs → lv_has ls 6 [(0, .ref (ad 0)), (1, .int c0)] → W p l e rm_Model_walk s m args below meth c H locs 0 0 (xk_MQ below (xk_Qc D kx_cl (kw_m ad ca) ads (xo_v (.inl r)) u') args s (xk_A ads s.heap.size)) (F0 m 63 ls []) := by
      intro c0 u H locs ls h hP hS hl
      subst ek63
      exact ih h hP hS hl
    clear ih ek63
    refine lv_aload_n hx hb dd_Model_walk_63 rfl (lv_at hl 0 rfl) ?_
    refine gf_m_Model_0_bad C hP dd_Model_walk_64 ?_
    refine lv_if_ne (tgt := 214) hx hb dd_Model_walk_67 (by decide) (fun hc => ?_) (fun hc => ?_)
    · have h := xp_f hc h
      obtain ⟨rfl, rfl⟩ := xp_r h
      exact xr_vret C hP hS dd_Model_walk_214
    · have h := xp_t hc h
      refine lv_aload_n hx hb dd_Model_walk_70 rfl (lv_at hl 0 rfl) ?_
      refine gf_m_Model_0_at C hP dd_Model_walk_71 ?_
      refine lv_aload_n hx hb dd_Model_walk_74 rfl (lv_at hl 0 rfl) ?_
      refine gf_m_Model_0_codeMany C hP dd_Model_walk_75 ?_
      refine lv_icmp_ge (tgt := 214) hx hb dd_Model_walk_78 (by decide) (fun hc => ?_) (fun hc => ?_)
      · have h := xp_t hc h
        obtain ⟨rfl, rfl⟩ := xp_r h
        exact xr_vret C hP hS dd_Model_walk_214
      · have h := xp_f hc h
        refine lv_aload_n hx hb dd_Model_walk_81 rfl (lv_at hl 0 rfl) ?_
        refine lv_aload_n hx hb dd_Model_walk_82 rfl (lv_at hl 0 rfl) ?_
        refine gf_m_Model_0_codeMany C hP dd_Model_walk_83 ?_
        refine pf_m_Model_0_limit C hP hS dd_Model_walk_86 (fun H locs hP hS => ?_)
        obtain ⟨u4, eu4, h⟩ := xp_let h
        rw [← eu4] at hP
        refine lv_aload_n hx hb dd_Model_walk_89 rfl (lv_at hl 0 rfl) ?_
        obtain ⟨a5, u6, hq, h⟩ := xp_seq h
        refine xk_goesI (xr_V (As := []) (rest := []) C hP hS (ct_Model_one htr hok hq) kq_Model_178 0 11 rfl rfl ⟨rfl, rfl, Nat.le_of_ble_eq_true rfl, Nat.le_of_ble_eq_true rfl⟩ ⟨Nat.le_of_ble_eq_true rfl, Nat.le_of_ble_eq_true rfl⟩ hl.1 rfl rfl (Nat.le_of_ble_eq_true rfl) dd_Model_walk_90) hS (fun H locs hP hS => ?_)
        clear hq
        refine lv_istore_n (lv' := [(2, .int a5), (0, .ref (ad 0)), (1, .int b1)]) hx hb dd_Model_walk_93 rfl hl (by decide) rfl (fun ls hl => ?_)
        refine lv_iload_n hx hb dd_Model_walk_94 rfl (lv_at hl 0 rfl) ?_
        refine lv_iconst (v := 2) hx hb dd_Model_walk_95 (by decide) ?_
        refine lv_icmp_eq (tgt := 114) hx hb dd_Model_walk_96 (by decide) (fun hc => ?_) (fun hc => ?_)
        · have h := xp_t hc h
          exact wj_Model_walk_114 htr C hne hk63 h hP hS (lv_sub hl [1, 2, 0] rfl)
        · have h := xp_f hc h
          refine lv_iload_n hx hb dd_Model_walk_99 rfl (lv_at hl 0 rfl) ?_
          refine lv_bipush (v := 11) hx hb dd_Model_walk_100 (by decide) ?_
          refine lv_icmp_gt (tgt := 114) hx hb dd_Model_walk_102 (by decide) (fun hc => ?_) (fun hc => ?_)
          · have h := xp_t hc h
            exact wj_Model_walk_114 htr C hne hk63 h hP hS (lv_sub hl [1, 2, 0] rfl)
          · have h := xp_f hc h
            refine lv_iload_n hx hb dd_Model_walk_105 rfl (lv_at hl 0 rfl) ?_
            refine lv_if_le (tgt := 119) hx hb dd_Model_walk_106 (by decide) (fun hc => ?_) (fun hc => ?_)
            · have h := xp_t hc h
              exact wj_Model_walk_119 htr C hne hk63 h hP hS (lv_sub hl [1, 2, 0] rfl)
            · have h := xp_f hc h
              refine lv_iload_n hx hb dd_Model_walk_109 rfl (lv_at hl 0 rfl) ?_
              refine lv_iload_n hx hb dd_Model_walk_110 rfl (lv_at hl 2 rfl) ?_
              refine lv_icmp_gt (tgt := 119) hx hb dd_Model_walk_111 (by decide) (fun hc => ?_) (fun hc => ?_)
              · have h := xp_t hc h
                exact wj_Model_walk_119 htr C hne hk63 h hP hS (lv_sub hl [1, 2, 0] rfl)
              · have h := xp_f hc h
                exact wj_Model_walk_114 htr C hne hk63 h hP hS (lv_sub hl [1, 2, 0] rfl)
set_option maxHeartbeats 4000000 in
set_option maxRecDepth 100000 in
theorem wj_Model_walk_41 {p : Program} {l : Launch} {e : Env} {s : State} {m : MethodId} {args : Array Value} {below : List Frame} {meth : Method} {c : Code} {D : va_G} {ad : Nat → Nat} {ca : Nat → ClassId} {ads : List Nat} {fu : Nat} (htr : l.stackTraces = false) (C : xk_C D kx_cl (kx_ty ca) (kw_m ad ca) ads "ModuleHouseModel" prog_14_method_28_code 6 none p e s m args meth c) (hne : c.exceptionTable.isEmpty = true) {u' : xk_St} {r : Unit} : ∀ {n : Nat} {b1 : Int32} {u : xk_St} {H : Heap} {locs : List Loc} {ls : Array Slot} (h : jb_Model_walk_41 fu  n b1 u = some (r, u')) (hP : va_P D kx_cl (kw_m ad ca u) H) (hS : va_S (xk_A ads s.heap.size) s.heap H locs) (hl : lv_has ls 6 [(0, .ref (ad 0)), (1, .int b1)]), W p l e rm_Model_walk s m args below meth c H locs 0 0 (xk_MQ below (xk_Qc D kx_cl (kw_m ad ca) ads (xo_v (.inl r)) u') args s (xk_A ads s.heap.size)) (F0 m 41 ls []) := by
  intro n
  have hx := C.1.1
  have hb := C.1.2.1
  have hok := C.2.2.1
  induction n with
  | zero =>
    intro _ u H locs ls h
    have h : none = some (r, u') := h
    cases h
  | succ n ih =>
    intro b1 u H locs ls h hP hS hl
    unfold jb_Model_walk_41 at h
    obtain ⟨k41, ek41, h⟩ := xp_let h
    have hk41 : ∀ (c0 : Int32) (u : xk_St) (H : Heap) (locs : List Loc) (ls : Array Slot), k41 c0 u = some (r, u') → va_P D kx_cl (kw_m ad ca u) H → va_S (xk_A ads s.heap.size) s.heap H locs → lv_has ls 6 [(0, .ref (ad 0)), (1, .int c0)] → W p l e rm_Model_walk s m args below meth c H locs 0 0 (xk_MQ below (xk_Qc D kx_cl (kw_m ad ca) ads (xo_v (.inl r)) u') args s (xk_A ads s.heap.size)) (F0 m 41 ls []) := by
      intro c0 u H locs ls h hP hS hl
      subst ek41
      exact ih h hP hS hl
    clear ih ek41
    refine lv_iload_n hx hb dd_Model_walk_41 rfl (lv_at hl 1 rfl) ?_
    refine lv_bipush (v := 8) hx hb dd_Model_walk_42 (by decide) ?_
    refine lv_icmp_ge (tgt := 61) hx hb dd_Model_walk_44 (by decide) (fun hc => ?_) (fun hc => ?_)
    · have h := xp_t hc h
      refine lv_iconst (v := 0) hx hb dd_Model_walk_61 (by decide) ?_
      refine lv_istore_n (lv' := [(1, .int (0 : Int32)), (0, .ref (ad 0))]) hx hb dd_Model_walk_62 rfl hl (by decide) rfl (fun ls hl => ?_)
      exact wj_Model_walk_63 htr C hne h hP hS (lv_sub hl [1, 0] rfl)
    · have h := xp_f hc h
      refine lv_aload_n hx hb dd_Model_walk_47 rfl (lv_at hl 0 rfl) ?_
      refine lv_iload_n hx hb dd_Model_walk_48 rfl (lv_at hl 1 rfl) ?_
      obtain ⟨a17, u18, hq, h⟩ := xp_seq h
      refine xk_goesI (xr_S (As := [.int b1]) (rest := [.ref (ad 0)]) C hP hS (ct_Model_magic htr hok hq) kq_Model_344 ⟨rfl, rfl, Nat.le_of_ble_eq_true rfl, Nat.le_of_ble_eq_true rfl⟩ ⟨Nat.le_of_ble_eq_true rfl, Nat.le_of_ble_eq_true rfl⟩ hl.1 rfl rfl (Nat.le_of_ble_eq_true rfl) dd_Model_walk_49) hS (fun H locs hP hS => ?_)
      clear hq
      obtain ⟨rx, u19, hq, h⟩ := xp_seq h
      refine xk_goesV (xr_V (As := [.int a17]) (rest := []) C hP hS (ct_Model_needs htr hok hq) kq_Model_308 0 11 rfl rfl ⟨rfl, rfl, Nat.le_of_ble_eq_true rfl, Nat.le_of_ble_eq_true rfl⟩ ⟨Nat.le_of_ble_eq_true rfl, Nat.le_of_ble_eq_true rfl⟩ hl.1 rfl rfl (Nat.le_of_ble_eq_true rfl) dd_Model_walk_52) hS (fun H locs hP hS => ?_)
      clear hq
      obtain ⟨a20, ea20, h⟩ := xp_let h
      refine lv_iinc (v := a20) (lv' := [(1, .int a20), (0, .ref (ad 0))]) hx hb dd_Model_walk_55 hl (k := 1) rfl (by rw [ea20]; first | rfl | decide) (by decide) rfl (fun ls hl => ?_)
      refine lv_goto (tgt := 41) hx hb dd_Model_walk_58 (by decide) ?_
      exact hk41 a20 u19 _ _ _ h hP hS (lv_sub hl [1, 0] rfl)
set_option maxHeartbeats 4000000 in
set_option maxRecDepth 100000 in
theorem wj_Model_walk_20 {p : Program} {l : Launch} {e : Env} {s : State} {m : MethodId} {args : Array Value} {below : List Frame} {meth : Method} {c : Code} {D : va_G} {ad : Nat → Nat} {ca : Nat → ClassId} {ads : List Nat} {fu : Nat} (htr : l.stackTraces = false) (C : xk_C D kx_cl (kx_ty ca) (kw_m ad ca) ads "ModuleHouseModel" prog_14_method_28_code 6 none p e s m args meth c) (hne : c.exceptionTable.isEmpty = true) {u' : xk_St} {r : Unit} : ∀ {n : Nat} {b1 : Int32} {u : xk_St} {H : Heap} {locs : List Loc} {ls : Array Slot} (h : jb_Model_walk_20 fu  n b1 u = some (r, u')) (hP : va_P D kx_cl (kw_m ad ca u) H) (hS : va_S (xk_A ads s.heap.size) s.heap H locs) (hl : lv_has ls 6 [(0, .ref (ad 0)), (1, .int b1)]), W p l e rm_Model_walk s m args below meth c H locs 0 0 (xk_MQ below (xk_Qc D kx_cl (kw_m ad ca) ads (xo_v (.inl r)) u') args s (xk_A ads s.heap.size)) (F0 m 20 ls []) := by
  intro n
  have hx := C.1.1
  have hb := C.1.2.1
  have hok := C.2.2.1
  induction n with
  | zero =>
    intro _ u H locs ls h
    have h : none = some (r, u') := h
    cases h
  | succ n ih =>
    intro b1 u H locs ls h hP hS hl
    unfold jb_Model_walk_20 at h
    obtain ⟨k20, ek20, h⟩ := xp_let h
    have hk20 : ∀ (c0 : Int32) (u : xk_St) (H : Heap) (locs : List Loc) (ls : Array Slot), k20 c0 u = some (r, u') → va_P D kx_cl (kw_m ad ca u) H → va_S (xk_A ads s.heap.size) s.heap H locs → lv_has ls 6 [(0, .ref (ad 0)), (1, .int c0)] → W p l e rm_Model_walk s m args below meth c H locs 0 0 (xk_MQ below (xk_Qc D kx_cl (kw_m ad ca) ads (xo_v (.inl r)) u') args s (xk_A ads s.heap.size)) (F0 m 20 ls []) := by
      intro c0 u H locs ls h hP hS hl
      subst ek20
      exact ih h hP hS hl
    clear ih ek20
    refine lv_iload_n hx hb dd_Model_walk_20 rfl (lv_at hl 1 rfl) ?_
    refine lv_bipush (v := 12) hx hb dd_Model_walk_21 (by decide) ?_
    refine lv_icmp_ge (tgt := 39) hx hb dd_Model_walk_23 (by decide) (fun hc => ?_) (fun hc => ?_)
    · have h := xp_t hc h
      refine lv_iconst (v := 0) hx hb dd_Model_walk_39 (by decide) ?_
      refine lv_istore_n (lv' := [(1, .int (0 : Int32)), (0, .ref (ad 0))]) hx hb dd_Model_walk_40 rfl hl (by decide) rfl (fun ls hl => ?_)
      exact wj_Model_walk_41 htr C hne h hP hS (lv_sub hl [1, 0] rfl)
    · have h := xp_f hc h
      refine lv_aload_n hx hb dd_Model_walk_26 rfl (lv_at hl 0 rfl) ?_
      refine gf_m_Model_0_sections C hP dd_Model_walk_27 ?_
      refine lv_iload_n hx hb dd_Model_walk_30 rfl (lv_at hl 1 rfl) ?_
      refine lv_iconst (v := (-1)) hx hb dd_Model_walk_31 (by decide) ?_
      obtain ⟨hi, h⟩ := xp_g h
      refine as_m_4 C hP hS hi dd_Model_walk_32 (fun H locs hP hS => ?_)
      obtain ⟨u21, eu21, h⟩ := xp_let h
      rw [← eu21] at hP
      obtain ⟨a22, ea22, h⟩ := xp_let h
      refine lv_iinc (v := a22) (lv' := [(1, .int a22), (0, .ref (ad 0))]) hx hb dd_Model_walk_33 hl (k := 1) rfl (by rw [ea22]; first | rfl | decide) (by decide) rfl (fun ls hl => ?_)
      refine lv_goto (tgt := 20) hx hb dd_Model_walk_36 (by decide) ?_
      exact hk20 a22 u21 _ _ _ h hP hS (lv_sub hl [1, 0] rfl)
set_option maxHeartbeats 4000000 in
set_option maxRecDepth 100000 in
theorem ct_Model_walk {l : Launch} {D : va_G} {ad : Nat → Nat} {ca : Nat → ClassId} {ads : List Nat} (htr : l.stackTraces = false) (hok : xk_ok (kw_m ad ca) ads) {fu : Nat} {u u' : xk_St} {r : Unit} (h : fm_Model_walk fu u = some (r, u')) :
    ∀ sz, xk_Met l ⟨"ModuleHouseModel", "walk", "()V"⟩ (Cond.code ⟨"ModuleHouseModel", "walk", "()V"⟩ prog_14_method_28_code 6 none :: xk_gd) rm_Model_walk (xk_Pc D kx_cl (kx_ty ca) (kw_m ad ca) ads xk_F sz [.ref (ad 0)] u) (xk_Qc D kx_cl (kw_m ad ca) ads (xo_v (.inl r)) u') (xk_A ads sz) := by
  unfold fm_Model_walk at h
  refine xk_con (by decide) htr hok (Nat.le_of_ble_eq_true rfl) (fun p e s m below meth c ls C hne hl hP => ?_)
  have hx := C.1.1
  have hb := C.1.2.1
  have hS : va_S (xk_A ads s.heap.size) s.heap s.heap [] := va_S.rf
  have hl : lv_has ls 6 [(0, .ref (ad 0))] := hl
  refine lv_aload_n hx hb dd_Model_walk_0 rfl (lv_at hl 0 rfl) ?_
  refine lv_iconst (v := 0) hx hb dd_Model_walk_1 (by decide) ?_
  refine pf_m_Model_0_bad C hP hS dd_Model_walk_2 (fun H locs hP hS => ?_)
  obtain ⟨u1, eu1, h⟩ := xp_let h
  rw [← eu1] at hP
  refine lv_aload_n hx hb dd_Model_walk_5 rfl (lv_at hl 0 rfl) ?_
  refine lv_iconst (v := 0) hx hb dd_Model_walk_6 (by decide) ?_
  refine pf_m_Model_0_at C hP hS dd_Model_walk_7 (fun H locs hP hS => ?_)
  obtain ⟨u2, eu2, h⟩ := xp_let h
  rw [← eu2] at hP
  refine lv_aload_n hx hb dd_Model_walk_10 rfl (lv_at hl 0 rfl) ?_
  refine lv_aload_n hx hb dd_Model_walk_11 rfl (lv_at hl 0 rfl) ?_
  refine gf_m_Model_0_codeMany C hP dd_Model_walk_12 ?_
  refine pf_m_Model_0_limit C hP hS dd_Model_walk_15 (fun H locs hP hS => ?_)
  obtain ⟨u3, eu3, h⟩ := xp_let h
  rw [← eu3] at hP
  refine lv_iconst (v := 0) hx hb dd_Model_walk_18 (by decide) ?_
  refine lv_istore_n (lv' := [(1, .int (0 : Int32)), (0, .ref (ad 0))]) hx hb dd_Model_walk_19 rfl hl (by decide) rfl (fun ls hl => ?_)
  exact wj_Model_walk_20 htr C hne h hP hS (lv_sub hl [1, 0] rfl)
abbrev rm_Model_rowOf : Room := { frames := 4, cells := 1, slots := 6, locals := 65 }
noncomputable def jb_Model_rowOf_55 (fu : Nat) (b2 : Int64) (s0 : Int32) (u : xk_St) : Option (Int32 × xk_St) :=
  (if s0 = 0 ∨ s0 = 1 then ( xs_let (xs_I u 7 s0) fun u5 => if (u5.1 7) = (0 : Int32) then (some ((b2.toInt32), u5)) else (some ((0 : Int32), u5))  ) else none)
noncomputable def jb_Model_rowOf_50 (fu : Nat) (b2 : Int64) (u : xk_St) : Option (Int32 × xk_St) :=
  jb_Model_rowOf_55 fu b2 (1 : Int32) u
noncomputable def fm_Model_rowOf (fu : Nat) (x0 : Int32) (u : xk_St) : Option (Int32 × xk_St) :=
  (if x0 < 0 ∨ 12 ≤ x0.toNatClampNeg then none else if (0 : Int32) ≤ (u.2.2.1 2 x0.toNatClampNeg) then ((if x0 < 0 ∨ 12 ≤ x0.toNatClampNeg then none else xs_let (xs_I u 4 (u.2.2.1 2 x0.toNatClampNeg)) fun u1 => xs_let (xs_I u1 5 (u1.1 3)) fun u2 => xs_seq (fm_Model_number fu u2) fun a3 u4 => if (u4.1 7) = (0 : Int32) then (if a3 ≤ (64 : Int64) then (jb_Model_rowOf_55 fu a3 (0 : Int32) u4) else (jb_Model_rowOf_50 fu a3 u4)) else (jb_Model_rowOf_50 fu a3 u4))) else (some ((0 : Int32), u)))
set_option maxHeartbeats 4000000 in
set_option maxRecDepth 100000 in
theorem wj_Model_rowOf_55 {p : Program} {l : Launch} {e : Env} {s : State} {m : MethodId} {args : Array Value} {below : List Frame} {meth : Method} {c : Code} {D : va_G} {ad : Nat → Nat} {ca : Nat → ClassId} {ads : List Nat} {fu : Nat} (htr : l.stackTraces = false) (C : xk_C D kx_cl (kx_ty ca) (kw_m ad ca) ads "ModuleHouseModel" prog_14_method_46_code 4 (some .int) p e s m args meth c) (hne : c.exceptionTable.isEmpty = true) {u' : xk_St} {r : Int32} {b2 : Int64} {s0 : Int32} {u : xk_St} {H : Heap} {locs : List Loc} {ls : Array Slot} (h : jb_Model_rowOf_55 fu  b2 s0 u = some (r, u')) (hP : va_P D kx_cl (kw_m ad ca u) H) (hS : va_S (xk_A ads s.heap.size) s.heap H locs) (hl : lv_has ls 4 [(0, .ref (ad 0)), (2, .long b2)]) : W p l e rm_Model_rowOf s m args below meth c H locs 0 0 (xk_MQ below (xk_Qc D kx_cl (kw_m ad ca) ads (xo_i (.inl r)) u') args s (xk_A ads s.heap.size)) (F0 m 55 ls [.int s0, .ref (ad 0)]) := by
  have hx := C.1.1
  have hb := C.1.2.1
  have hok := C.2.2.1
  unfold jb_Model_rowOf_55 at h
  obtain ⟨hz, h⟩ := xp_p h
  refine pf_m_Model_0_wrong C hP hS hz dd_Model_rowOf_55 (fun H locs hP hS => ?_)
  obtain ⟨u5, eu5, h⟩ := xp_let h
  rw [← eu5] at hP
  refine lv_aload_n hx hb dd_Model_rowOf_58 rfl (lv_at hl 0 rfl) ?_
  refine gf_m_Model_0_wrong C hP dd_Model_rowOf_59 ?_
  refine lv_if_eq (tgt := 69) hx hb dd_Model_rowOf_62 (by decide) (fun hc => ?_) (fun hc => ?_)
  · have h := xp_t hc h
    refine lv_lload_n hx hb dd_Model_rowOf_69 rfl (lv_at hl 1 rfl) ?_
    refine lv_l2i hx hb dd_Model_rowOf_70 rfl ?_
    obtain ⟨rfl, rfl⟩ := xp_r h
    exact xr_iret C hP hS dd_Model_rowOf_71
  · have h := xp_f hc h
    refine lv_iconst (v := 0) hx hb dd_Model_rowOf_65 (by decide) ?_
    refine lv_goto (tgt := 71) hx hb dd_Model_rowOf_66 (by decide) ?_
    obtain ⟨rfl, rfl⟩ := xp_r h
    exact xr_iret C hP hS dd_Model_rowOf_71
set_option maxHeartbeats 4000000 in
set_option maxRecDepth 100000 in
theorem wj_Model_rowOf_50 {p : Program} {l : Launch} {e : Env} {s : State} {m : MethodId} {args : Array Value} {below : List Frame} {meth : Method} {c : Code} {D : va_G} {ad : Nat → Nat} {ca : Nat → ClassId} {ads : List Nat} {fu : Nat} (htr : l.stackTraces = false) (C : xk_C D kx_cl (kx_ty ca) (kw_m ad ca) ads "ModuleHouseModel" prog_14_method_46_code 4 (some .int) p e s m args meth c) (hne : c.exceptionTable.isEmpty = true) {u' : xk_St} {r : Int32} {b2 : Int64} {u : xk_St} {H : Heap} {locs : List Loc} {ls : Array Slot} (h : jb_Model_rowOf_50 fu  b2 u = some (r, u')) (hP : va_P D kx_cl (kw_m ad ca u) H) (hS : va_S (xk_A ads s.heap.size) s.heap H locs) (hl : lv_has ls 4 [(0, .ref (ad 0)), (2, .long b2)]) : W p l e rm_Model_rowOf s m args below meth c H locs 0 0 (xk_MQ below (xk_Qc D kx_cl (kw_m ad ca) ads (xo_i (.inl r)) u') args s (xk_A ads s.heap.size)) (F0 m 50 ls [.ref (ad 0)]) := by
  have hx := C.1.1
  have hb := C.1.2.1
  have hok := C.2.2.1
  unfold jb_Model_rowOf_50 at h
  refine lv_iconst (v := 1) hx hb dd_Model_rowOf_50 (by decide) ?_
  refine lv_goto (tgt := 55) hx hb dd_Model_rowOf_51 (by decide) ?_
  exact wj_Model_rowOf_55 htr C hne h hP hS (lv_sub hl [0, 1] rfl)
set_option maxHeartbeats 4000000 in
set_option maxRecDepth 100000 in
theorem ct_Model_rowOf {l : Launch} {D : va_G} {ad : Nat → Nat} {ca : Nat → ClassId} {ads : List Nat} (htr : l.stackTraces = false) (hok : xk_ok (kw_m ad ca) ads) {fu : Nat} {x0 : Int32} {u u' : xk_St} {r : Int32} (h : fm_Model_rowOf fu x0 u = some (r, u')) :
    ∀ sz, xk_Met l ⟨"ModuleHouseModel", "rowOf", "(I)I"⟩ (Cond.code ⟨"ModuleHouseModel", "rowOf", "(I)I"⟩ prog_14_method_46_code 4 (some .int) :: xk_gd) rm_Model_rowOf (xk_Pc D kx_cl (kx_ty ca) (kw_m ad ca) ads xk_F sz [.ref (ad 0), .int x0] u) (xk_Qc D kx_cl (kw_m ad ca) ads (xo_i (.inl r)) u') (xk_A ads sz) := by
  unfold fm_Model_rowOf at h
  refine xk_con (by decide) htr hok (Nat.le_of_ble_eq_true rfl) (fun p e s m below meth c ls C hne hl hP => ?_)
  have hx := C.1.1
  have hb := C.1.2.1
  have hS : va_S (xk_A ads s.heap.size) s.heap s.heap [] := va_S.rf
  have hl : lv_has ls 4 [(0, .ref (ad 0)), (1, .int x0)] := hl
  refine lv_aload_n hx hb dd_Model_rowOf_0 rfl (lv_at hl 0 rfl) ?_
  refine gf_m_Model_0_sections C hP dd_Model_rowOf_1 ?_
  refine lv_iload_n hx hb dd_Model_rowOf_4 rfl (lv_at hl 1 rfl) ?_
  obtain ⟨hi, h⟩ := xp_g h
  refine al_m_4 C hP hi dd_Model_rowOf_5 ?_
  refine lv_if_ge (tgt := 11) hx hb dd_Model_rowOf_6 (by decide) (fun hc => ?_) (fun hc => ?_)
  · have h := xp_t hc h
    refine lv_aload_n hx hb dd_Model_rowOf_11 rfl (lv_at hl 0 rfl) ?_
    refine lv_aload_n hx hb dd_Model_rowOf_12 rfl (lv_at hl 0 rfl) ?_
    refine gf_m_Model_0_sections C hP dd_Model_rowOf_13 ?_
    refine lv_iload_n hx hb dd_Model_rowOf_16 rfl (lv_at hl 1 rfl) ?_
    obtain ⟨hi, h⟩ := xp_g h
    refine al_m_4 C hP hi dd_Model_rowOf_17 ?_
    refine pf_m_Model_0_at C hP hS dd_Model_rowOf_18 (fun H locs hP hS => ?_)
    obtain ⟨u1, eu1, h⟩ := xp_let h
    rw [← eu1] at hP
    refine lv_aload_n hx hb dd_Model_rowOf_21 rfl (lv_at hl 0 rfl) ?_
    refine lv_aload_n hx hb dd_Model_rowOf_22 rfl (lv_at hl 0 rfl) ?_
    refine gf_m_Model_0_codeMany C hP dd_Model_rowOf_23 ?_
    refine pf_m_Model_0_limit C hP hS dd_Model_rowOf_26 (fun H locs hP hS => ?_)
    obtain ⟨u2, eu2, h⟩ := xp_let h
    rw [← eu2] at hP
    refine lv_aload_n hx hb dd_Model_rowOf_29 rfl (lv_at hl 0 rfl) ?_
    obtain ⟨a3, u4, hq, h⟩ := xp_seq h
    refine xk_goesL (xr_V (As := []) (rest := []) C hP hS (ct_Model_number htr hok hq) kq_Model_295 0 11 rfl rfl ⟨rfl, rfl, Nat.le_of_ble_eq_true rfl, Nat.le_of_ble_eq_true rfl⟩ ⟨Nat.le_of_ble_eq_true rfl, Nat.le_of_ble_eq_true rfl⟩ hl.1 rfl rfl (Nat.le_of_ble_eq_true rfl) dd_Model_rowOf_30) hS (fun H locs hP hS => ?_)
    clear hq
    refine lv_lstore_n (lv' := [(2, .long a3), (0, .ref (ad 0)), (1, .int x0)]) hx hb dd_Model_rowOf_33 rfl hl (by decide) rfl (fun ls hl => ?_)
    refine lv_aload_n hx hb dd_Model_rowOf_34 rfl (lv_at hl 1 rfl) ?_
    refine lv_aload_n hx hb dd_Model_rowOf_35 rfl (lv_at hl 1 rfl) ?_
    refine gf_m_Model_0_wrong C hP dd_Model_rowOf_36 ?_
    refine lv_if_ne (tgt := 50) hx hb dd_Model_rowOf_39 (by decide) (fun hc => ?_) (fun hc => ?_)
    · have h := xp_f hc h
      exact wj_Model_rowOf_50 htr C hne h hP hS (lv_sub hl [1, 0] rfl)
    · have h := xp_t hc h
      refine lv_lload_n hx hb dd_Model_rowOf_42 rfl (lv_at hl 0 rfl) ?_
      refine lv_ldc2 (v := 64) hx hb C.1.2.2.2.1 (C.1.2.2.2.2 _ (xk_c9 (w := Jvm.Cond.constantLong "ModuleHouseModel" 197 64) 142 rfl rfl)) dd_Model_rowOf_43 ?_
      refine xr_lc_le (tgt := 54) hx hb dd_Model_rowOf_46 dd_Model_rowOf_47 (by decide) (fun hc => ?_) (fun hc => ?_)
      · have h := xp_t hc h
        refine lv_iconst (v := 0) hx hb dd_Model_rowOf_54 (by decide) ?_
        exact wj_Model_rowOf_55 htr C hne h hP hS (lv_sub hl [1, 0] rfl)
      · have h := xp_f hc h
        exact wj_Model_rowOf_50 htr C hne h hP hS (lv_sub hl [1, 0] rfl)
  · have h := xp_f hc h
    refine lv_iconst (v := 0) hx hb dd_Model_rowOf_9 (by decide) ?_
    obtain ⟨rfl, rfl⟩ := xp_r h
    exact xr_iret C hP hS dd_Model_rowOf_10
abbrev rm_Model_dataRow : Room := { frames := 5, cells := 1, slots := 6, locals := 88 }
noncomputable def jb_Model_dataRow_26 (fu : Nat) (u : xk_St) : Option (Unit × xk_St) :=
  (xs_let (xs_I u 7 (1 : Int32)) fun u3 => some ((()), u3))
noncomputable def fm_Model_dataRow (fu : Nat) (u : xk_St) : Option (Unit × xk_St) :=
  (xs_seq (fm_Model_rowOf fu (11 : Int32) u) fun a1 u2 => if (u2.1 7) = (0 : Int32) then (if a1 ≤ (0 : Int32) then ((xs_let (xs_I u2 7 (0 : Int32)) fun u4 => some ((()), u4))) else (if (u2.1 15) = (0 : Int32) then (jb_Model_dataRow_26 fu u2) else ((xs_let (xs_I u2 7 (0 : Int32)) fun u5 => some ((()), u5))))) else (jb_Model_dataRow_26 fu u2))
set_option maxHeartbeats 4000000 in
set_option maxRecDepth 100000 in
theorem wj_Model_dataRow_26 {p : Program} {l : Launch} {e : Env} {s : State} {m : MethodId} {args : Array Value} {below : List Frame} {meth : Method} {c : Code} {D : va_G} {ad : Nat → Nat} {ca : Nat → ClassId} {ads : List Nat} {fu : Nat} (htr : l.stackTraces = false) (C : xk_C D kx_cl (kx_ty ca) (kw_m ad ca) ads "ModuleHouseModel" prog_14_method_55_code 2 none p e s m args meth c) (hne : c.exceptionTable.isEmpty = true) {u' : xk_St} {r : Unit} {u : xk_St} {H : Heap} {locs : List Loc} {ls : Array Slot} (h : jb_Model_dataRow_26 fu   u = some (r, u')) (hP : va_P D kx_cl (kw_m ad ca u) H) (hS : va_S (xk_A ads s.heap.size) s.heap H locs) (hl : lv_has ls 2 []) : W p l e rm_Model_dataRow s m args below meth c H locs 0 0 (xk_MQ below (xk_Qc D kx_cl (kw_m ad ca) ads (xo_v (.inl r)) u') args s (xk_A ads s.heap.size)) (F0 m 26 ls [.ref (ad 0)]) := by
  have hx := C.1.1
  have hb := C.1.2.1
  have hok := C.2.2.1
  unfold jb_Model_dataRow_26 at h
  refine lv_iconst (v := 1) hx hb dd_Model_dataRow_26 (by decide) ?_
  refine lv_goto (tgt := 31) hx hb dd_Model_dataRow_27 (by decide) ?_
  refine pf_m_Model_0_wrong C hP hS (by decide) dd_Model_dataRow_31 (fun H locs hP hS => ?_)
  obtain ⟨u3, eu3, h⟩ := xp_let h
  rw [← eu3] at hP
  obtain ⟨rfl, rfl⟩ := xp_r h
  exact xr_vret C hP hS dd_Model_dataRow_34
set_option maxHeartbeats 4000000 in
set_option maxRecDepth 100000 in
theorem ct_Model_dataRow {l : Launch} {D : va_G} {ad : Nat → Nat} {ca : Nat → ClassId} {ads : List Nat} (htr : l.stackTraces = false) (hok : xk_ok (kw_m ad ca) ads) {fu : Nat} {u u' : xk_St} {r : Unit} (h : fm_Model_dataRow fu u = some (r, u')) :
    ∀ sz, xk_Met l ⟨"ModuleHouseModel", "dataRow", "()V"⟩ (Cond.code ⟨"ModuleHouseModel", "dataRow", "()V"⟩ prog_14_method_55_code 2 none :: xk_gd) rm_Model_dataRow (xk_Pc D kx_cl (kx_ty ca) (kw_m ad ca) ads xk_F sz [.ref (ad 0)] u) (xk_Qc D kx_cl (kw_m ad ca) ads (xo_v (.inl r)) u') (xk_A ads sz) := by
  unfold fm_Model_dataRow at h
  refine xk_con (by decide) htr hok (Nat.le_of_ble_eq_true rfl) (fun p e s m below meth c ls C hne hl hP => ?_)
  have hx := C.1.1
  have hb := C.1.2.1
  have hS : va_S (xk_A ads s.heap.size) s.heap s.heap [] := va_S.rf
  have hl : lv_has ls 2 [(0, .ref (ad 0))] := hl
  refine lv_aload_n hx hb dd_Model_dataRow_0 rfl (lv_at hl 0 rfl) ?_
  refine lv_bipush (v := 11) hx hb dd_Model_dataRow_1 (by decide) ?_
  obtain ⟨a1, u2, hq, h⟩ := xp_seq h
  refine xk_goesI (xr_V (As := [.int (11 : Int32)]) (rest := []) C hP hS (ct_Model_rowOf htr hok hq) kq_Model_417 0 11 rfl rfl ⟨rfl, rfl, Nat.le_of_ble_eq_true rfl, Nat.le_of_ble_eq_true rfl⟩ ⟨Nat.le_of_ble_eq_true rfl, Nat.le_of_ble_eq_true rfl⟩ hl.1 rfl rfl (Nat.le_of_ble_eq_true rfl) dd_Model_dataRow_3) hS (fun H locs hP hS => ?_)
  clear hq
  refine lv_istore_n (lv' := [(1, .int a1), (0, .ref (ad 0))]) hx hb dd_Model_dataRow_6 rfl hl (by decide) rfl (fun ls hl => ?_)
  refine lv_aload_n hx hb dd_Model_dataRow_7 rfl (lv_at hl 1 rfl) ?_
  refine lv_aload_n hx hb dd_Model_dataRow_8 rfl (lv_at hl 1 rfl) ?_
  refine gf_m_Model_0_wrong C hP dd_Model_dataRow_9 ?_
  refine lv_if_ne (tgt := 26) hx hb dd_Model_dataRow_12 (by decide) (fun hc => ?_) (fun hc => ?_)
  · have h := xp_f hc h
    exact wj_Model_dataRow_26 htr C hne h hP hS (lv_sub hl [] rfl)
  · have h := xp_t hc h
    refine lv_iload_n hx hb dd_Model_dataRow_15 rfl (lv_at hl 0 rfl) ?_
    refine lv_if_le (tgt := 30) hx hb dd_Model_dataRow_16 (by decide) (fun hc => ?_) (fun hc => ?_)
    · have h := xp_t hc h
      refine lv_iconst (v := 0) hx hb dd_Model_dataRow_30 (by decide) ?_
      refine pf_m_Model_0_wrong C hP hS (by decide) dd_Model_dataRow_31 (fun H locs hP hS => ?_)
      obtain ⟨u4, eu4, h⟩ := xp_let h
      rw [← eu4] at hP
      obtain ⟨rfl, rfl⟩ := xp_r h
      exact xr_vret C hP hS dd_Model_dataRow_34
    · have h := xp_f hc h
      refine lv_aload_n hx hb dd_Model_dataRow_19 rfl (lv_at hl 1 rfl) ?_
      refine gf_m_Model_0_hasMemory C hP dd_Model_dataRow_20 ?_
      refine lv_if_ne (tgt := 30) hx hb dd_Model_dataRow_23 (by decide) (fun hc => ?_) (fun hc => ?_)
      · have h := xp_f hc h
        refine lv_iconst (v := 0) hx hb dd_Model_dataRow_30 (by decide) ?_
        refine pf_m_Model_0_wrong C hP hS (by decide) dd_Model_dataRow_31 (fun H locs hP hS => ?_)
        obtain ⟨u5, eu5, h⟩ := xp_let h
        rw [← eu5] at hP
        obtain ⟨rfl, rfl⟩ := xp_r h
        exact xr_vret C hP hS dd_Model_dataRow_34
      · have h := xp_t hc h
        exact wj_Model_dataRow_26 htr C hne h hP hS (lv_sub hl [] rfl)
abbrev rm_Model_isReference : Room := { frames := 1, cells := 1, slots := 6, locals := 0 }
noncomputable def fm_Model_isReference (x0 : Int32) (u : xk_St) : Option (Int32 × xk_St) :=
  if x0 < (16 : Int32) then (some ((0 : Int32), u)) else (some ((1 : Int32), u))
set_option maxHeartbeats 4000000 in
set_option maxRecDepth 100000 in
theorem ct_Model_isReference {l : Launch} {D : va_G} {ad : Nat → Nat} {ca : Nat → ClassId} {ads : List Nat} (htr : l.stackTraces = false) (hok : xk_ok (kw_m ad ca) ads) {x0 : Int32} {u u' : xk_St} {r : Int32} (h : fm_Model_isReference x0 u = some (r, u')) :
    ∀ sz, xk_Met l ⟨"ModuleHouseModel", "isReference", "(I)Z"⟩ (Cond.code ⟨"ModuleHouseModel", "isReference", "(I)Z"⟩ prog_14_method_6_code 1 (some .boolean) :: xk_gd) rm_Model_isReference (xk_Pc D kx_cl (kx_ty ca) (kw_m ad ca) ads xk_F sz [.int x0] u) (xk_Qc D kx_cl (kw_m ad ca) ads (xo_i (.inl r)) u') (xk_A ads sz) := by
  unfold fm_Model_isReference at h
  refine xk_con (by decide) htr hok (Nat.le_of_ble_eq_true rfl) (fun p e s m below meth c ls C hne hl hP => ?_)
  have hx := C.1.1
  have hb := C.1.2.1
  have hS : va_S (xk_A ads s.heap.size) s.heap s.heap [] := va_S.rf
  have hl : lv_has ls 1 [(0, .int x0)] := hl
  refine lv_iload_n hx hb dd_Model_isReference_0 rfl (lv_at hl 0 rfl) ?_
  refine lv_bipush (v := 16) hx hb dd_Model_isReference_1 (by decide) ?_
  refine lv_icmp_lt (tgt := 10) hx hb dd_Model_isReference_3 (by decide) (fun hc => ?_) (fun hc => ?_)
  · have h := xp_t hc h
    refine lv_iconst (v := 0) hx hb dd_Model_isReference_10 (by decide) ?_
    obtain ⟨rfl, rfl⟩ := xp_r h
    exact xr_zret C hP hS (by decide) dd_Model_isReference_11
  · have h := xp_f hc h
    refine lv_iconst (v := 1) hx hb dd_Model_isReference_6 (by decide) ?_
    refine lv_goto (tgt := 11) hx hb dd_Model_isReference_7 (by decide) ?_
    obtain ⟨rfl, rfl⟩ := xp_r h
    exact xr_zret C hP hS (by decide) dd_Model_isReference_11
abbrev rm_Model_targetOf : Room := { frames := 1, cells := 1, slots := 6, locals := 0 }
noncomputable def fm_Model_targetOf (x0 : Int32) (u : xk_St) : Option (Int32 × xk_St) :=
  (if (2 : Int32) = (0 : Int32) then none else some (((x0 - (16 : Int32)) / (2 : Int32)), u))
set_option maxHeartbeats 4000000 in
set_option maxRecDepth 100000 in
theorem ct_Model_targetOf {l : Launch} {D : va_G} {ad : Nat → Nat} {ca : Nat → ClassId} {ads : List Nat} (htr : l.stackTraces = false) (hok : xk_ok (kw_m ad ca) ads) {x0 : Int32} {u u' : xk_St} {r : Int32} (h : fm_Model_targetOf x0 u = some (r, u')) :
    ∀ sz, xk_Met l ⟨"ModuleHouseModel", "targetOf", "(I)I"⟩ (Cond.code ⟨"ModuleHouseModel", "targetOf", "(I)I"⟩ prog_14_method_7_code 1 (some .int) :: xk_gd) rm_Model_targetOf (xk_Pc D kx_cl (kx_ty ca) (kw_m ad ca) ads xk_F sz [.int x0] u) (xk_Qc D kx_cl (kw_m ad ca) ads (xo_i (.inl r)) u') (xk_A ads sz) := by
  unfold fm_Model_targetOf at h
  refine xk_con (by decide) htr hok (Nat.le_of_ble_eq_true rfl) (fun p e s m below meth c ls C hne hl hP => ?_)
  have hx := C.1.1
  have hb := C.1.2.1
  have hS : va_S (xk_A ads s.heap.size) s.heap s.heap [] := va_S.rf
  have hl : lv_has ls 1 [(0, .int x0)] := hl
  refine lv_iload_n hx hb dd_Model_targetOf_0 rfl (lv_at hl 0 rfl) ?_
  refine lv_bipush (v := 16) hx hb dd_Model_targetOf_1 (by decide) ?_
  refine lv_isub hx hb dd_Model_targetOf_3 ?_
  refine lv_iconst (v := 2) hx hb dd_Model_targetOf_4 (by decide) ?_
  obtain ⟨hz, h⟩ := xp_g h
  refine lv_idiv hx hb dd_Model_targetOf_5 hz ?_
  obtain ⟨rfl, rfl⟩ := xp_r h
  exact xr_iret C hP hS dd_Model_targetOf_6
abbrev rm_Model_isObjectType : Room := { frames := 1, cells := 1, slots := 6, locals := 0 }
noncomputable def jb_Model_isObjectType_23 (u : xk_St) : Option (Int32 × xk_St) :=
  some ((1 : Int32), u)
noncomputable def fm_Model_isObjectType (x0 : Int32) (x1 : Int32) (u : xk_St) : Option (Int32 × xk_St) :=
  if x0 < (2 : Int32) then (jb_Model_isObjectType_23 u) else (if x1 ≤ (x0 - (2 : Int32)) then (some ((0 : Int32), u)) else ((if (x0 - (2 : Int32)) < 0 ∨ 64 ≤ (x0 - (2 : Int32)).toNatClampNeg then none else if (u.2.2.1 4 (x0 - (2 : Int32)).toNatClampNeg) = (0 : Int32) then (some ((0 : Int32), u)) else (jb_Model_isObjectType_23 u))))
set_option maxHeartbeats 4000000 in
set_option maxRecDepth 100000 in
theorem wj_Model_isObjectType_23 {p : Program} {l : Launch} {e : Env} {s : State} {m : MethodId} {args : Array Value} {below : List Frame} {meth : Method} {c : Code} {D : va_G} {ad : Nat → Nat} {ca : Nat → ClassId} {ads : List Nat} (htr : l.stackTraces = false) (C : xk_C D kx_cl (kx_ty ca) (kw_m ad ca) ads "ModuleHouseModel" prog_14_method_38_code 3 (some .boolean) p e s m args meth c) (hne : c.exceptionTable.isEmpty = true) {u' : xk_St} {r : Int32} {u : xk_St} {H : Heap} {locs : List Loc} {ls : Array Slot} (h : jb_Model_isObjectType_23   u = some (r, u')) (hP : va_P D kx_cl (kw_m ad ca u) H) (hS : va_S (xk_A ads s.heap.size) s.heap H locs) (hl : lv_has ls 3 []) : W p l e rm_Model_isObjectType s m args below meth c H locs 0 0 (xk_MQ below (xk_Qc D kx_cl (kw_m ad ca) ads (xo_i (.inl r)) u') args s (xk_A ads s.heap.size)) (F0 m 23 ls []) := by
  have hx := C.1.1
  have hb := C.1.2.1
  have hok := C.2.2.1
  unfold jb_Model_isObjectType_23 at h
  refine lv_iconst (v := 1) hx hb dd_Model_isObjectType_23 (by decide) ?_
  refine lv_goto (tgt := 28) hx hb dd_Model_isObjectType_24 (by decide) ?_
  obtain ⟨rfl, rfl⟩ := xp_r h
  exact xr_zret C hP hS (by decide) dd_Model_isObjectType_28
set_option maxHeartbeats 4000000 in
set_option maxRecDepth 100000 in
theorem ct_Model_isObjectType {l : Launch} {D : va_G} {ad : Nat → Nat} {ca : Nat → ClassId} {ads : List Nat} (htr : l.stackTraces = false) (hok : xk_ok (kw_m ad ca) ads) {x0 : Int32} {x1 : Int32} {u u' : xk_St} {r : Int32} (h : fm_Model_isObjectType x0 x1 u = some (r, u')) :
    ∀ sz, xk_Met l ⟨"ModuleHouseModel", "isObjectType", "(II)Z"⟩ (Cond.code ⟨"ModuleHouseModel", "isObjectType", "(II)Z"⟩ prog_14_method_38_code 3 (some .boolean) :: xk_gd) rm_Model_isObjectType (xk_Pc D kx_cl (kx_ty ca) (kw_m ad ca) ads xk_F sz [.ref (ad 0), .int x0, .int x1] u) (xk_Qc D kx_cl (kw_m ad ca) ads (xo_i (.inl r)) u') (xk_A ads sz) := by
  unfold fm_Model_isObjectType at h
  refine xk_con (by decide) htr hok (Nat.le_of_ble_eq_true rfl) (fun p e s m below meth c ls C hne hl hP => ?_)
  have hx := C.1.1
  have hb := C.1.2.1
  have hS : va_S (xk_A ads s.heap.size) s.heap s.heap [] := va_S.rf
  have hl : lv_has ls 3 [(0, .ref (ad 0)), (1, .int x0), (2, .int x1)] := hl
  refine lv_iload_n hx hb dd_Model_isObjectType_0 rfl (lv_at hl 1 rfl) ?_
  refine lv_iconst (v := 2) hx hb dd_Model_isObjectType_1 (by decide) ?_
  refine lv_icmp_lt (tgt := 23) hx hb dd_Model_isObjectType_2 (by decide) (fun hc => ?_) (fun hc => ?_)
  · have h := xp_t hc h
    exact wj_Model_isObjectType_23 htr C hne h hP hS (lv_sub hl [] rfl)
  · have h := xp_f hc h
    refine lv_iload_n hx hb dd_Model_isObjectType_5 rfl (lv_at hl 1 rfl) ?_
    refine lv_iconst (v := 2) hx hb dd_Model_isObjectType_6 (by decide) ?_
    refine lv_isub hx hb dd_Model_isObjectType_7 ?_
    refine lv_iload_n hx hb dd_Model_isObjectType_8 rfl (lv_at hl 2 rfl) ?_
    refine lv_icmp_ge (tgt := 27) hx hb dd_Model_isObjectType_9 (by decide) (fun hc => ?_) (fun hc => ?_)
    · have h := xp_t hc h
      refine lv_iconst (v := 0) hx hb dd_Model_isObjectType_27 (by decide) ?_
      obtain ⟨rfl, rfl⟩ := xp_r h
      exact xr_zret C hP hS (by decide) dd_Model_isObjectType_28
    · have h := xp_f hc h
      refine lv_aload_n hx hb dd_Model_isObjectType_12 rfl (lv_at hl 0 rfl) ?_
      refine gf_m_Model_0_kinds C hP dd_Model_isObjectType_13 ?_
      refine lv_iload_n hx hb dd_Model_isObjectType_16 rfl (lv_at hl 1 rfl) ?_
      refine lv_iconst (v := 2) hx hb dd_Model_isObjectType_17 (by decide) ?_
      refine lv_isub hx hb dd_Model_isObjectType_18 ?_
      obtain ⟨hi, h⟩ := xp_g h
      refine al_m_6 C hP hi dd_Model_isObjectType_19 ?_
      refine lv_if_eq (tgt := 27) hx hb dd_Model_isObjectType_20 (by decide) (fun hc => ?_) (fun hc => ?_)
      · have h := xp_t hc h
        refine lv_iconst (v := 0) hx hb dd_Model_isObjectType_27 (by decide) ?_
        obtain ⟨rfl, rfl⟩ := xp_r h
        exact xr_zret C hP hS (by decide) dd_Model_isObjectType_28
      · have h := xp_f hc h
        exact wj_Model_isObjectType_23 htr C hne h hP hS (lv_sub hl [] rfl)
abbrev rm_Model_isThere : Room := { frames := 2, cells := 1, slots := 6, locals := 22 }
noncomputable def jb_Model_isThere_19 (u : xk_St) : Option (Int32 × xk_St) :=
  some ((1 : Int32), u)
noncomputable def fm_Model_isThere (x0 : Int32) (x1 : Int32) (u : xk_St) : Option (Int32 × xk_St) :=
  (xs_seq (fm_Model_isReference x0 u) fun a1 u2 => if a1 = (0 : Int32) then (jb_Model_isThere_19 u2) else ((xs_seq (fm_Model_targetOf x0 u2) fun a3 u4 => xs_seq (fm_Model_isObjectType a3 x1 u4) fun a5 u6 => if a5 = (0 : Int32) then (some ((0 : Int32), u6)) else (jb_Model_isThere_19 u6))))
set_option maxHeartbeats 4000000 in
set_option maxRecDepth 100000 in
theorem wj_Model_isThere_19 {p : Program} {l : Launch} {e : Env} {s : State} {m : MethodId} {args : Array Value} {below : List Frame} {meth : Method} {c : Code} {D : va_G} {ad : Nat → Nat} {ca : Nat → ClassId} {ads : List Nat} (htr : l.stackTraces = false) (C : xk_C D kx_cl (kx_ty ca) (kw_m ad ca) ads "ModuleHouseModel" prog_14_method_39_code 3 (some .boolean) p e s m args meth c) (hne : c.exceptionTable.isEmpty = true) {u' : xk_St} {r : Int32} {u : xk_St} {H : Heap} {locs : List Loc} {ls : Array Slot} (h : jb_Model_isThere_19   u = some (r, u')) (hP : va_P D kx_cl (kw_m ad ca u) H) (hS : va_S (xk_A ads s.heap.size) s.heap H locs) (hl : lv_has ls 3 []) : W p l e rm_Model_isThere s m args below meth c H locs 0 0 (xk_MQ below (xk_Qc D kx_cl (kw_m ad ca) ads (xo_i (.inl r)) u') args s (xk_A ads s.heap.size)) (F0 m 19 ls []) := by
  have hx := C.1.1
  have hb := C.1.2.1
  have hok := C.2.2.1
  unfold jb_Model_isThere_19 at h
  refine lv_iconst (v := 1) hx hb dd_Model_isThere_19 (by decide) ?_
  refine lv_goto (tgt := 24) hx hb dd_Model_isThere_20 (by decide) ?_
  obtain ⟨rfl, rfl⟩ := xp_r h
  exact xr_zret C hP hS (by decide) dd_Model_isThere_24
set_option maxHeartbeats 4000000 in
set_option maxRecDepth 100000 in
theorem ct_Model_isThere {l : Launch} {D : va_G} {ad : Nat → Nat} {ca : Nat → ClassId} {ads : List Nat} (htr : l.stackTraces = false) (hok : xk_ok (kw_m ad ca) ads) {x0 : Int32} {x1 : Int32} {u u' : xk_St} {r : Int32} (h : fm_Model_isThere x0 x1 u = some (r, u')) :
    ∀ sz, xk_Met l ⟨"ModuleHouseModel", "isThere", "(II)Z"⟩ (Cond.code ⟨"ModuleHouseModel", "isThere", "(II)Z"⟩ prog_14_method_39_code 3 (some .boolean) :: xk_gd) rm_Model_isThere (xk_Pc D kx_cl (kx_ty ca) (kw_m ad ca) ads xk_F sz [.ref (ad 0), .int x0, .int x1] u) (xk_Qc D kx_cl (kw_m ad ca) ads (xo_i (.inl r)) u') (xk_A ads sz) := by
  unfold fm_Model_isThere at h
  refine xk_con (by decide) htr hok (Nat.le_of_ble_eq_true rfl) (fun p e s m below meth c ls C hne hl hP => ?_)
  have hx := C.1.1
  have hb := C.1.2.1
  have hS : va_S (xk_A ads s.heap.size) s.heap s.heap [] := va_S.rf
  have hl : lv_has ls 3 [(0, .ref (ad 0)), (1, .int x0), (2, .int x1)] := hl
  refine lv_iload_n hx hb dd_Model_isThere_0 rfl (lv_at hl 1 rfl) ?_
  obtain ⟨a1, u2, hq, h⟩ := xp_seq h
  refine xk_goesI (xr_S (As := [.int x0]) (rest := []) C hP hS (ct_Model_isReference htr hok hq) kq_Model_384 ⟨rfl, rfl, Nat.le_of_ble_eq_true rfl, Nat.le_of_ble_eq_true rfl⟩ ⟨Nat.le_of_ble_eq_true rfl, Nat.le_of_ble_eq_true rfl⟩ hl.1 rfl rfl (Nat.le_of_ble_eq_true rfl) dd_Model_isThere_1) hS (fun H locs hP hS => ?_)
  clear hq
  refine lv_if_eq (tgt := 19) hx hb dd_Model_isThere_4 (by decide) (fun hc => ?_) (fun hc => ?_)
  · have h := xp_t hc h
    exact wj_Model_isThere_19 htr C hne h hP hS (lv_sub hl [] rfl)
  · have h := xp_f hc h
    refine lv_aload_n hx hb dd_Model_isThere_7 rfl (lv_at hl 0 rfl) ?_
    refine lv_iload_n hx hb dd_Model_isThere_8 rfl (lv_at hl 1 rfl) ?_
    obtain ⟨a3, u4, hq, h⟩ := xp_seq h
    refine xk_goesI (xr_S (As := [.int x0]) (rest := [.ref (ad 0)]) C hP hS (ct_Model_targetOf htr hok hq) kq_Model_387 ⟨rfl, rfl, Nat.le_of_ble_eq_true rfl, Nat.le_of_ble_eq_true rfl⟩ ⟨Nat.le_of_ble_eq_true rfl, Nat.le_of_ble_eq_true rfl⟩ hl.1 rfl rfl (Nat.le_of_ble_eq_true rfl) dd_Model_isThere_9) hS (fun H locs hP hS => ?_)
    clear hq
    refine lv_iload_n hx hb dd_Model_isThere_12 rfl (lv_at hl 2 rfl) ?_
    obtain ⟨a5, u6, hq, h⟩ := xp_seq h
    refine xk_goesI (xr_V (As := [.int a3, .int x1]) (rest := []) C hP hS (ct_Model_isObjectType htr hok hq) kq_Model_390 0 11 rfl rfl ⟨rfl, rfl, Nat.le_of_ble_eq_true rfl, Nat.le_of_ble_eq_true rfl⟩ ⟨Nat.le_of_ble_eq_true rfl, Nat.le_of_ble_eq_true rfl⟩ hl.1 rfl rfl (Nat.le_of_ble_eq_true rfl) dd_Model_isThere_13) hS (fun H locs hP hS => ?_)
    clear hq
    refine lv_if_eq (tgt := 23) hx hb dd_Model_isThere_16 (by decide) (fun hc => ?_) (fun hc => ?_)
    · have h := xp_t hc h
      refine lv_iconst (v := 0) hx hb dd_Model_isThere_23 (by decide) ?_
      obtain ⟨rfl, rfl⟩ := xp_r h
      exact xr_zret C hP hS (by decide) dd_Model_isThere_24
    · have h := xp_f hc h
      exact wj_Model_isThere_19 htr C hne h hP hS (lv_sub hl [] rfl)
abbrev rm_Model_localRow : Room := { frames := 6, cells := 1, slots := 6, locals := 110 }
noncomputable def jb_Model_localRow_192 (fu : Nat) (k60 : Int32 → Int32 → Int64 → xk_St → Option (Unit × xk_St)) (b1 : Int32) (b4 : Int64) (s0 : Int32) (s1 : Int32) (u : xk_St) : Option (Unit × xk_St) :=
  (xs_let (s1 + s0) fun a11 => xs_let (b4 - (1 : Int64)) fun a12 => k60 b1 a11 a12 u)
noncomputable def jb_Model_localRow_177 (fu : Nat) (k60 : Int32 → Int32 → Int64 → xk_St → Option (Unit × xk_St)) (b1 : Int32) (b3 : Int32) (b4 : Int64) (b6 : Int64) (u : xk_St) : Option (Unit × xk_St) :=
  if (u.1 7) = (0 : Int32) then (jb_Model_localRow_192 fu k60 b1 b4 (b6.toInt32) b3 u) else (jb_Model_localRow_192 fu k60 b1 b4 (0 : Int32) b3 u)
noncomputable def jb_Model_localRow_138 (fu : Nat) (k60 : Int32 → Int32 → Int64 → xk_St → Option (Unit × xk_St)) : Nat → Int32 → Int32 → Int64 → Int64 → Int32 → Int32 → xk_St → Option (Unit × xk_St)
  | 0 => fun _ _ _ _ _ _ _ => none
  | n + 1 => fun b1 b3 b4 b6 b8 b9 u =>
    xs_let (jb_Model_localRow_138 fu k60 n) fun k138 =>
    if b6 ≤ (b9.toInt64) then (jb_Model_localRow_177 fu k60 b1 b3 b4 b6 u) else (if (u.1 7) = (0 : Int32) then ((if ((((200 : Int32) * b1) + b3) + b9) < 0 ∨ 12800 ≤ ((((200 : Int32) * b1) + b3) + b9).toNatClampNeg then none else xs_let (xs_A u 13 ((((200 : Int32) * b1) + b3) + b9).toNatClampNeg b8) fun u13 => xs_let (b9 + (1 : Int32)) fun a14 => k138 b1 b3 b4 b6 b8 a14 u13)) else (jb_Model_localRow_177 fu k60 b1 b3 b4 b6 u))
noncomputable def jb_Model_localRow_132 (fu : Nat) (k60 : Int32 → Int32 → Int64 → xk_St → Option (Unit × xk_St)) (b1 : Int32) (b3 : Int32) (b4 : Int64) (b6 : Int64) (b8 : Int32) (s0 : Int32) (u : xk_St) : Option (Unit × xk_St) :=
  (if s0 = 0 ∨ s0 = 1 then ( xs_let (xs_I u 7 s0) fun u10 => jb_Model_localRow_138 fu k60 fu b1 b3 b4 b6 b8 (0 : Int32) u10  ) else none)
noncomputable def jb_Model_localRow_127 (fu : Nat) (k60 : Int32 → Int32 → Int64 → xk_St → Option (Unit × xk_St)) (b1 : Int32) (b3 : Int32) (b4 : Int64) (b6 : Int64) (b8 : Int32) (u : xk_St) : Option (Unit × xk_St) :=
  jb_Model_localRow_132 fu k60 b1 b3 b4 b6 b8 (1 : Int32) u
noncomputable def jb_Model_localRow_115 (fu : Nat) (k60 : Int32 → Int32 → Int64 → xk_St → Option (Unit × xk_St)) (b1 : Int32) (b3 : Int32) (b4 : Int64) (b6 : Int64) (b8 : Int32) (u : xk_St) : Option (Unit × xk_St) :=
  if b6 ≤ (((200 : Int32) - b3).toInt64) then (jb_Model_localRow_132 fu k60 b1 b3 b4 b6 b8 (0 : Int32) u) else (jb_Model_localRow_127 fu k60 b1 b3 b4 b6 b8 u)
noncomputable def jb_Model_localRow_60 (fu : Nat) : Nat → Int32 → Int32 → Int64 → xk_St → Option (Unit × xk_St)
  | 0 => fun _ _ _ _ => none
  | n + 1 => fun b1 b3 b4 u =>
    xs_let (jb_Model_localRow_60 fu  n) fun k60 =>
    if b4 ≤ (0 : Int64) then ((if b1 < 0 ∨ 64 ≤ b1.toNatClampNeg then none else xs_let (xs_A u 12 b1.toNatClampNeg b3) fun u5 => some ((()), u5))) else ((xs_seq (fm_Model_number fu u) fun a6 u7 => xs_seq (fm_Model_valueType fu u7) fun a8 u9 => if (u9.1 7) = (0 : Int32) then ((xs_seq (fm_Model_isThere a8 (u9.1 12) u9) fun a15 u16 => if a15 = (0 : Int32) then (jb_Model_localRow_127 fu k60 b1 b3 b4 a6 a8 u16) else ((xs_seq (fm_Model_isReference a8 u16) fun a17 u18 => if a17 = (0 : Int32) then (jb_Model_localRow_115 fu k60 b1 b3 b4 a6 a8 u18) else (if (a8 &&& (1 : Int32)) = (0 : Int32) then (jb_Model_localRow_127 fu k60 b1 b3 b4 a6 a8 u18) else (jb_Model_localRow_115 fu k60 b1 b3 b4 a6 a8 u18)))))) else (jb_Model_localRow_127 fu k60 b1 b3 b4 a6 a8 u9)))
noncomputable def jb_Model_localRow_17 (fu : Nat) : Nat → Int32 → Int32 → Int32 → Int32 → xk_St → Option (Unit × xk_St)
  | 0 => fun _ _ _ _ _ => none
  | n + 1 => fun b1 b2 b3 b4 u =>
    xs_let (jb_Model_localRow_17 fu  n) fun k17 =>
    if b3 ≤ b4 then ((xs_seq (fm_Model_number fu u) fun a3 u4 => jb_Model_localRow_60 fu fu b1 b3 a3 u4)) else ((if (((32 : Int32) * b2) + b4) < 0 ∨ 2048 ≤ (((32 : Int32) * b2) + b4).toNatClampNeg then none else if (((200 : Int32) * b1) + b4) < 0 ∨ 12800 ≤ (((200 : Int32) * b1) + b4).toNatClampNeg then none else xs_let (xs_A u 13 (((200 : Int32) * b1) + b4).toNatClampNeg (u.2.2.1 7 (((32 : Int32) * b2) + b4).toNatClampNeg)) fun u19 => xs_let (b4 + (1 : Int32)) fun a20 => k17 b1 b2 b3 a20 u19))
noncomputable def fm_Model_localRow (fu : Nat) (x0 : Int32) (u : xk_St) : Option (Unit × xk_St) :=
  (if x0 < 0 ∨ 64 ≤ x0.toNatClampNeg then none else xs_let (u.2.2.1 9 x0.toNatClampNeg) fun a1 => if a1 < 0 ∨ 64 ≤ a1.toNatClampNeg then none else xs_let (u.2.2.1 5 a1.toNatClampNeg) fun a2 => jb_Model_localRow_17 fu fu x0 a1 a2 (0 : Int32) u)
set_option maxHeartbeats 4000000 in
set_option maxRecDepth 100000 in
theorem wj_Model_localRow_192 {p : Program} {l : Launch} {e : Env} {s : State} {m : MethodId} {args : Array Value} {below : List Frame} {meth : Method} {c : Code} {D : va_G} {ad : Nat → Nat} {ca : Nat → ClassId} {ads : List Nat} {fu : Nat} (htr : l.stackTraces = false) (C : xk_C D kx_cl (kx_ty ca) (kw_m ad ca) ads "ModuleHouseModel" prog_14_method_57_code 10 none p e s m args meth c) (hne : c.exceptionTable.isEmpty = true) {u' : xk_St} {r : Unit} {k60 : Int32 → Int32 → Int64 → xk_St → Option (Unit × xk_St)} (hk60 : ∀ (c0 : Int32) (c1 : Int32) (c2 : Int64) (u : xk_St) (H : Heap) (locs : List Loc) (ls : Array Slot), k60 c0 c1 c2 u = some (r, u') → va_P D kx_cl (kw_m ad ca u) H → va_S (xk_A ads s.heap.size) s.heap H locs → lv_has ls 10 [(0, .ref (ad 0)), (1, .int c0), (3, .int c1), (4, .long c2)] → W p l e rm_Model_localRow s m args below meth c H locs 0 0 (xk_MQ below (xk_Qc D kx_cl (kw_m ad ca) ads (xo_v (.inl r)) u') args s (xk_A ads s.heap.size)) (F0 m 60 ls [])) {b1 : Int32} {b4 : Int64} {s0 : Int32} {s1 : Int32} {u : xk_St} {H : Heap} {locs : List Loc} {ls : Array Slot} (h : jb_Model_localRow_192 fu k60 b1 b4 s0 s1 u = some (r, u')) (hP : va_P D kx_cl (kw_m ad ca u) H) (hS : va_S (xk_A ads s.heap.size) s.heap H locs) (hl : lv_has ls 10 [(0, .ref (ad 0)), (1, .int b1), (4, .long b4)]) : W p l e rm_Model_localRow s m args below meth c H locs 0 0 (xk_MQ below (xk_Qc D kx_cl (kw_m ad ca) ads (xo_v (.inl r)) u') args s (xk_A ads s.heap.size)) (F0 m 192 ls [.int s0, .int s1]) := by
  have hx := C.1.1
  have hb := C.1.2.1
  have hok := C.2.2.1
  unfold jb_Model_localRow_192 at h
  refine lv_iadd hx hb dd_Model_localRow_192 ?_
  obtain ⟨a11, ea11, h⟩ := xp_let h
  refine xr_nami ea11 ?_
  refine lv_istore_n (lv' := [(3, .int a11), (0, .ref (ad 0)), (1, .int b1), (4, .long b4)]) hx hb dd_Model_localRow_193 rfl hl (by decide) rfl (fun ls hl => ?_)
  refine lv_lload hx hb dd_Model_localRow_194 (lv_at hl 3 rfl) ?_
  refine lv_lconst (v := 1) hx hb dd_Model_localRow_196 (by decide) ?_
  refine lv_lsub hx hb dd_Model_localRow_197 ?_
  obtain ⟨a12, ea12, h⟩ := xp_let h
  refine xr_naml ea12 ?_
  refine lv_lstore (lv' := [(4, .long a12), (3, .int a11), (0, .ref (ad 0)), (1, .int b1)]) hx hb dd_Model_localRow_198 hl (by decide) rfl (fun ls hl => ?_)
  refine lv_goto (tgt := 60) hx hb dd_Model_localRow_200 (by decide) ?_
  exact hk60 b1 a11 a12 u _ _ _ h hP hS (lv_sub hl [2, 3, 1, 0] rfl)
set_option maxHeartbeats 4000000 in
set_option maxRecDepth 100000 in
theorem wj_Model_localRow_177 {p : Program} {l : Launch} {e : Env} {s : State} {m : MethodId} {args : Array Value} {below : List Frame} {meth : Method} {c : Code} {D : va_G} {ad : Nat → Nat} {ca : Nat → ClassId} {ads : List Nat} {fu : Nat} (htr : l.stackTraces = false) (C : xk_C D kx_cl (kx_ty ca) (kw_m ad ca) ads "ModuleHouseModel" prog_14_method_57_code 10 none p e s m args meth c) (hne : c.exceptionTable.isEmpty = true) {u' : xk_St} {r : Unit} {k60 : Int32 → Int32 → Int64 → xk_St → Option (Unit × xk_St)} (hk60 : ∀ (c0 : Int32) (c1 : Int32) (c2 : Int64) (u : xk_St) (H : Heap) (locs : List Loc) (ls : Array Slot), k60 c0 c1 c2 u = some (r, u') → va_P D kx_cl (kw_m ad ca u) H → va_S (xk_A ads s.heap.size) s.heap H locs → lv_has ls 10 [(0, .ref (ad 0)), (1, .int c0), (3, .int c1), (4, .long c2)] → W p l e rm_Model_localRow s m args below meth c H locs 0 0 (xk_MQ below (xk_Qc D kx_cl (kw_m ad ca) ads (xo_v (.inl r)) u') args s (xk_A ads s.heap.size)) (F0 m 60 ls [])) {b1 : Int32} {b3 : Int32} {b4 : Int64} {b6 : Int64} {u : xk_St} {H : Heap} {locs : List Loc} {ls : Array Slot} (h : jb_Model_localRow_177 fu k60 b1 b3 b4 b6 u = some (r, u')) (hP : va_P D kx_cl (kw_m ad ca u) H) (hS : va_S (xk_A ads s.heap.size) s.heap H locs) (hl : lv_has ls 10 [(0, .ref (ad 0)), (1, .int b1), (3, .int b3), (4, .long b4), (6, .long b6)]) : W p l e rm_Model_localRow s m args below meth c H locs 0 0 (xk_MQ below (xk_Qc D kx_cl (kw_m ad ca) ads (xo_v (.inl r)) u') args s (xk_A ads s.heap.size)) (F0 m 177 ls []) := by
  have hx := C.1.1
  have hb := C.1.2.1
  have hok := C.2.2.1
  unfold jb_Model_localRow_177 at h
  refine lv_iload_n hx hb dd_Model_localRow_177 rfl (lv_at hl 2 rfl) ?_
  refine lv_aload_n hx hb dd_Model_localRow_178 rfl (lv_at hl 0 rfl) ?_
  refine gf_m_Model_0_wrong C hP dd_Model_localRow_179 ?_
  refine lv_if_eq (tgt := 189) hx hb dd_Model_localRow_182 (by decide) (fun hc => ?_) (fun hc => ?_)
  · have h := xp_t hc h
    refine lv_lload hx hb dd_Model_localRow_189 (lv_at hl 4 rfl) ?_
    refine lv_l2i hx hb dd_Model_localRow_191 rfl ?_
    exact wj_Model_localRow_192 htr C hne hk60 h hP hS (lv_sub hl [0, 1, 3] rfl)
  · have h := xp_f hc h
    refine lv_iconst (v := 0) hx hb dd_Model_localRow_185 (by decide) ?_
    refine lv_goto (tgt := 192) hx hb dd_Model_localRow_186 (by decide) ?_
    exact wj_Model_localRow_192 htr C hne hk60 h hP hS (lv_sub hl [0, 1, 3] rfl)
set_option maxHeartbeats 4000000 in
set_option maxRecDepth 100000 in
theorem wj_Model_localRow_138 {p : Program} {l : Launch} {e : Env} {s : State} {m : MethodId} {args : Array Value} {below : List Frame} {meth : Method} {c : Code} {D : va_G} {ad : Nat → Nat} {ca : Nat → ClassId} {ads : List Nat} {fu : Nat} (htr : l.stackTraces = false) (C : xk_C D kx_cl (kx_ty ca) (kw_m ad ca) ads "ModuleHouseModel" prog_14_method_57_code 10 none p e s m args meth c) (hne : c.exceptionTable.isEmpty = true) {u' : xk_St} {r : Unit} {k60 : Int32 → Int32 → Int64 → xk_St → Option (Unit × xk_St)} (hk60 : ∀ (c0 : Int32) (c1 : Int32) (c2 : Int64) (u : xk_St) (H : Heap) (locs : List Loc) (ls : Array Slot), k60 c0 c1 c2 u = some (r, u') → va_P D kx_cl (kw_m ad ca u) H → va_S (xk_A ads s.heap.size) s.heap H locs → lv_has ls 10 [(0, .ref (ad 0)), (1, .int c0), (3, .int c1), (4, .long c2)] → W p l e rm_Model_localRow s m args below meth c H locs 0 0 (xk_MQ below (xk_Qc D kx_cl (kw_m ad ca) ads (xo_v (.inl r)) u') args s (xk_A ads s.heap.size)) (F0 m 60 ls [])) : ∀ {n : Nat} {b1 : Int32} {b3 : Int32} {b4 : Int64} {b6 : Int64} {b8 : Int32} {b9 : Int32} {u : xk_St} {H : Heap} {locs : List Loc} {ls : Array Slot} (h : jb_Model_localRow_138 fu k60 n b1 b3 b4 b6 b8 b9 u = some (r, u')) (hP : va_P D kx_cl (kw_m ad ca u) H) (hS : va_S (xk_A ads s.heap.size) s.heap H locs) (hl : lv_has ls 10 [(0, .ref (ad 0)), (1, .int b1), (3, .int b3), (4, .long b4), (6, .long b6), (8, .int b8), (9, .int b9)]), W p l e rm_Model_localRow s m args below meth c H locs 0 0 (xk_MQ below (xk_Qc D kx_cl (kw_m ad ca) ads (xo_v (.inl r)) u') args s (xk_A ads s.heap.size)) (F0 m 138 ls []) := by
  intro n
  have hx := C.1.1
  have hb := C.1.2.1
  have hok := C.2.2.1
  induction n with
  | zero =>
    intro _ _ _ _ _ _ u H locs ls h
    have h : none = some (r, u') := h
    cases h
  | succ n ih =>
    intro b1 b3 b4 b6 b8 b9 u H locs ls h hP hS hl
    unfold jb_Model_localRow_138 at h
    obtain ⟨k138, ek138, h⟩ := xp_let h
    have hk138 : ∀ (c0 : Int32) (c1 : Int32) (c2 : Int64) (c3 : Int64) (c4 : Int32) (c5 : Int32) (u : xk_St) (H : Heap) (locs : List Loc) (ls : Array Slot), k138 c0 c1 c2 c3 c4 c5 u = some (r, u') → va_P D kx_cl (kw_m ad ca u) H → va_S (xk_A ads s.heap.size) s.heap H locs → lv_has ls 10 [(0, .ref (ad 0)), (1, .int c0), (3, .int c1), (4, .long c2), (6, .long c3), (8, .int c4), (9, .int c5)] → W p l e rm_Model_localRow s m args below meth c H locs 0 0 (xk_MQ below (xk_Qc D kx_cl (kw_m ad ca) ads (xo_v (.inl r)) u') args s (xk_A ads s.heap.size)) (F0 m 138 ls []) := by
      intro c0 c1 c2 c3 c4 c5 u H locs ls h hP hS hl
      subst ek138
      exact ih h hP hS hl
    clear ih ek138
    refine lv_iload hx hb dd_Model_localRow_138 (lv_at hl 6 rfl) ?_
    refine lv_i2l hx hb dd_Model_localRow_140 rfl ?_
    refine lv_lload hx hb dd_Model_localRow_141 (lv_at hl 4 rfl) ?_
    refine xr_lc_ge (tgt := 177) hx hb dd_Model_localRow_143 dd_Model_localRow_144 (by decide) (fun hc => ?_) (fun hc => ?_)
    · have h := xp_t hc h
      exact wj_Model_localRow_177 htr C hne hk60 h hP hS (lv_sub hl [0, 1, 2, 3, 4] rfl)
    · have h := xp_f hc h
      refine lv_aload_n hx hb dd_Model_localRow_147 rfl (lv_at hl 0 rfl) ?_
      refine gf_m_Model_0_wrong C hP dd_Model_localRow_148 ?_
      refine lv_if_ne (tgt := 177) hx hb dd_Model_localRow_151 (by decide) (fun hc => ?_) (fun hc => ?_)
      · have h := xp_f hc h
        exact wj_Model_localRow_177 htr C hne hk60 h hP hS (lv_sub hl [0, 1, 2, 3, 4] rfl)
      · have h := xp_t hc h
        refine lv_aload_n hx hb dd_Model_localRow_154 rfl (lv_at hl 0 rfl) ?_
        refine gf_m_Model_0_localTypes C hP dd_Model_localRow_155 ?_
        refine lv_sipush (v := 200) hx hb dd_Model_localRow_158 (by decide) ?_
        refine lv_iload_n hx hb dd_Model_localRow_161 rfl (lv_at hl 1 rfl) ?_
        refine lv_imul hx hb dd_Model_localRow_162 ?_
        refine lv_iload_n hx hb dd_Model_localRow_163 rfl (lv_at hl 2 rfl) ?_
        refine lv_iadd hx hb dd_Model_localRow_164 ?_
        refine lv_iload hx hb dd_Model_localRow_165 (lv_at hl 6 rfl) ?_
        refine lv_iadd hx hb dd_Model_localRow_167 ?_
        refine lv_iload hx hb dd_Model_localRow_168 (lv_at hl 5 rfl) ?_
        obtain ⟨hi, h⟩ := xp_g h
        refine as_m_15 C hP hS hi dd_Model_localRow_170 (fun H locs hP hS => ?_)
        obtain ⟨u13, eu13, h⟩ := xp_let h
        rw [← eu13] at hP
        obtain ⟨a14, ea14, h⟩ := xp_let h
        refine lv_iinc (v := a14) (lv' := [(9, .int a14), (0, .ref (ad 0)), (1, .int b1), (3, .int b3), (4, .long b4), (6, .long b6), (8, .int b8)]) hx hb dd_Model_localRow_171 hl (k := 6) rfl (by rw [ea14]; first | rfl | decide) (by decide) rfl (fun ls hl => ?_)
        refine lv_goto (tgt := 138) hx hb dd_Model_localRow_174 (by decide) ?_
        exact hk138 b1 b3 b4 b6 b8 a14 u13 _ _ _ h hP hS (lv_sub hl [1, 2, 3, 4, 5, 6, 0] rfl)
set_option maxHeartbeats 4000000 in
set_option maxRecDepth 100000 in
theorem wj_Model_localRow_132 {p : Program} {l : Launch} {e : Env} {s : State} {m : MethodId} {args : Array Value} {below : List Frame} {meth : Method} {c : Code} {D : va_G} {ad : Nat → Nat} {ca : Nat → ClassId} {ads : List Nat} {fu : Nat} (htr : l.stackTraces = false) (C : xk_C D kx_cl (kx_ty ca) (kw_m ad ca) ads "ModuleHouseModel" prog_14_method_57_code 10 none p e s m args meth c) (hne : c.exceptionTable.isEmpty = true) {u' : xk_St} {r : Unit} {k60 : Int32 → Int32 → Int64 → xk_St → Option (Unit × xk_St)} (hk60 : ∀ (c0 : Int32) (c1 : Int32) (c2 : Int64) (u : xk_St) (H : Heap) (locs : List Loc) (ls : Array Slot), k60 c0 c1 c2 u = some (r, u') → va_P D kx_cl (kw_m ad ca u) H → va_S (xk_A ads s.heap.size) s.heap H locs → lv_has ls 10 [(0, .ref (ad 0)), (1, .int c0), (3, .int c1), (4, .long c2)] → W p l e rm_Model_localRow s m args below meth c H locs 0 0 (xk_MQ below (xk_Qc D kx_cl (kw_m ad ca) ads (xo_v (.inl r)) u') args s (xk_A ads s.heap.size)) (F0 m 60 ls [])) {b1 : Int32} {b3 : Int32} {b4 : Int64} {b6 : Int64} {b8 : Int32} {s0 : Int32} {u : xk_St} {H : Heap} {locs : List Loc} {ls : Array Slot} (h : jb_Model_localRow_132 fu k60 b1 b3 b4 b6 b8 s0 u = some (r, u')) (hP : va_P D kx_cl (kw_m ad ca u) H) (hS : va_S (xk_A ads s.heap.size) s.heap H locs) (hl : lv_has ls 10 [(0, .ref (ad 0)), (1, .int b1), (3, .int b3), (4, .long b4), (6, .long b6), (8, .int b8)]) : W p l e rm_Model_localRow s m args below meth c H locs 0 0 (xk_MQ below (xk_Qc D kx_cl (kw_m ad ca) ads (xo_v (.inl r)) u') args s (xk_A ads s.heap.size)) (F0 m 132 ls [.int s0, .ref (ad 0)]) := by
  have hx := C.1.1
  have hb := C.1.2.1
  have hok := C.2.2.1
  unfold jb_Model_localRow_132 at h
  obtain ⟨hz, h⟩ := xp_p h
  refine pf_m_Model_0_wrong C hP hS hz dd_Model_localRow_132 (fun H locs hP hS => ?_)
  obtain ⟨u10, eu10, h⟩ := xp_let h
  rw [← eu10] at hP
  refine lv_iconst (v := 0) hx hb dd_Model_localRow_135 (by decide) ?_
  refine lv_istore (lv' := [(9, .int (0 : Int32)), (0, .ref (ad 0)), (1, .int b1), (3, .int b3), (4, .long b4), (6, .long b6), (8, .int b8)]) hx hb dd_Model_localRow_136 hl (by decide) rfl (fun ls hl => ?_)
  exact wj_Model_localRow_138 htr C hne hk60 h hP hS (lv_sub hl [1, 2, 3, 4, 5, 6, 0] rfl)
set_option maxHeartbeats 4000000 in
set_option maxRecDepth 100000 in
theorem wj_Model_localRow_127 {p : Program} {l : Launch} {e : Env} {s : State} {m : MethodId} {args : Array Value} {below : List Frame} {meth : Method} {c : Code} {D : va_G} {ad : Nat → Nat} {ca : Nat → ClassId} {ads : List Nat} {fu : Nat} (htr : l.stackTraces = false) (C : xk_C D kx_cl (kx_ty ca) (kw_m ad ca) ads "ModuleHouseModel" prog_14_method_57_code 10 none p e s m args meth c) (hne : c.exceptionTable.isEmpty = true) {u' : xk_St} {r : Unit} {k60 : Int32 → Int32 → Int64 → xk_St → Option (Unit × xk_St)} (hk60 : ∀ (c0 : Int32) (c1 : Int32) (c2 : Int64) (u : xk_St) (H : Heap) (locs : List Loc) (ls : Array Slot), k60 c0 c1 c2 u = some (r, u') → va_P D kx_cl (kw_m ad ca u) H → va_S (xk_A ads s.heap.size) s.heap H locs → lv_has ls 10 [(0, .ref (ad 0)), (1, .int c0), (3, .int c1), (4, .long c2)] → W p l e rm_Model_localRow s m args below meth c H locs 0 0 (xk_MQ below (xk_Qc D kx_cl (kw_m ad ca) ads (xo_v (.inl r)) u') args s (xk_A ads s.heap.size)) (F0 m 60 ls [])) {b1 : Int32} {b3 : Int32} {b4 : Int64} {b6 : Int64} {b8 : Int32} {u : xk_St} {H : Heap} {locs : List Loc} {ls : Array Slot} (h : jb_Model_localRow_127 fu k60 b1 b3 b4 b6 b8 u = some (r, u')) (hP : va_P D kx_cl (kw_m ad ca u) H) (hS : va_S (xk_A ads s.heap.size) s.heap H locs) (hl : lv_has ls 10 [(0, .ref (ad 0)), (1, .int b1), (3, .int b3), (4, .long b4), (6, .long b6), (8, .int b8)]) : W p l e rm_Model_localRow s m args below meth c H locs 0 0 (xk_MQ below (xk_Qc D kx_cl (kw_m ad ca) ads (xo_v (.inl r)) u') args s (xk_A ads s.heap.size)) (F0 m 127 ls [.ref (ad 0)]) := by
  have hx := C.1.1
  have hb := C.1.2.1
  have hok := C.2.2.1
  unfold jb_Model_localRow_127 at h
  refine lv_iconst (v := 1) hx hb dd_Model_localRow_127 (by decide) ?_
  refine lv_goto (tgt := 132) hx hb dd_Model_localRow_128 (by decide) ?_
  exact wj_Model_localRow_132 htr C hne hk60 h hP hS (lv_sub hl [0, 1, 2, 3, 4, 5] rfl)
set_option maxHeartbeats 4000000 in
set_option maxRecDepth 100000 in
theorem wj_Model_localRow_115 {p : Program} {l : Launch} {e : Env} {s : State} {m : MethodId} {args : Array Value} {below : List Frame} {meth : Method} {c : Code} {D : va_G} {ad : Nat → Nat} {ca : Nat → ClassId} {ads : List Nat} {fu : Nat} (htr : l.stackTraces = false) (C : xk_C D kx_cl (kx_ty ca) (kw_m ad ca) ads "ModuleHouseModel" prog_14_method_57_code 10 none p e s m args meth c) (hne : c.exceptionTable.isEmpty = true) {u' : xk_St} {r : Unit} {k60 : Int32 → Int32 → Int64 → xk_St → Option (Unit × xk_St)} (hk60 : ∀ (c0 : Int32) (c1 : Int32) (c2 : Int64) (u : xk_St) (H : Heap) (locs : List Loc) (ls : Array Slot), k60 c0 c1 c2 u = some (r, u') → va_P D kx_cl (kw_m ad ca u) H → va_S (xk_A ads s.heap.size) s.heap H locs → lv_has ls 10 [(0, .ref (ad 0)), (1, .int c0), (3, .int c1), (4, .long c2)] → W p l e rm_Model_localRow s m args below meth c H locs 0 0 (xk_MQ below (xk_Qc D kx_cl (kw_m ad ca) ads (xo_v (.inl r)) u') args s (xk_A ads s.heap.size)) (F0 m 60 ls [])) {b1 : Int32} {b3 : Int32} {b4 : Int64} {b6 : Int64} {b8 : Int32} {u : xk_St} {H : Heap} {locs : List Loc} {ls : Array Slot} (h : jb_Model_localRow_115 fu k60 b1 b3 b4 b6 b8 u = some (r, u')) (hP : va_P D kx_cl (kw_m ad ca u) H) (hS : va_S (xk_A ads s.heap.size) s.heap H locs) (hl : lv_has ls 10 [(0, .ref (ad 0)), (1, .int b1), (3, .int b3), (4, .long b4), (6, .long b6), (8, .int b8)]) : W p l e rm_Model_localRow s m args below meth c H locs 0 0 (xk_MQ below (xk_Qc D kx_cl (kw_m ad ca) ads (xo_v (.inl r)) u') args s (xk_A ads s.heap.size)) (F0 m 115 ls [.ref (ad 0)]) := by
  have hx := C.1.1
  have hb := C.1.2.1
  have hok := C.2.2.1
  unfold jb_Model_localRow_115 at h
  refine lv_lload hx hb dd_Model_localRow_115 (lv_at hl 4 rfl) ?_
  refine lv_sipush (v := 200) hx hb dd_Model_localRow_117 (by decide) ?_
  refine lv_iload_n hx hb dd_Model_localRow_120 rfl (lv_at hl 2 rfl) ?_
  refine lv_isub hx hb dd_Model_localRow_121 ?_
  refine lv_i2l hx hb dd_Model_localRow_122 rfl ?_
  refine xr_lc_le (tgt := 131) hx hb dd_Model_localRow_123 dd_Model_localRow_124 (by decide) (fun hc => ?_) (fun hc => ?_)
  · have h := xp_t hc h
    refine lv_iconst (v := 0) hx hb dd_Model_localRow_131 (by decide) ?_
    exact wj_Model_localRow_132 htr C hne hk60 h hP hS (lv_sub hl [0, 1, 2, 3, 4, 5] rfl)
  · have h := xp_f hc h
    exact wj_Model_localRow_127 htr C hne hk60 h hP hS (lv_sub hl [0, 1, 2, 3, 4, 5] rfl)
set_option maxHeartbeats 4000000 in
set_option maxRecDepth 100000 in
theorem wj_Model_localRow_60 {p : Program} {l : Launch} {e : Env} {s : State} {m : MethodId} {args : Array Value} {below : List Frame} {meth : Method} {c : Code} {D : va_G} {ad : Nat → Nat} {ca : Nat → ClassId} {ads : List Nat} {fu : Nat} (htr : l.stackTraces = false) (C : xk_C D kx_cl (kx_ty ca) (kw_m ad ca) ads "ModuleHouseModel" prog_14_method_57_code 10 none p e s m args meth c) (hne : c.exceptionTable.isEmpty = true) {u' : xk_St} {r : Unit} : ∀ {n : Nat} {b1 : Int32} {b3 : Int32} {b4 : Int64} {u : xk_St} {H : Heap} {locs : List Loc} {ls : Array Slot} (h : jb_Model_localRow_60 fu  n b1 b3 b4 u = some (r, u')) (hP : va_P D kx_cl (kw_m ad ca u) H) (hS : va_S (xk_A ads s.heap.size) s.heap H locs) (hl : lv_has ls 10 [(0, .ref (ad 0)), (1, .int b1), (3, .int b3), (4, .long b4)]), W p l e rm_Model_localRow s m args below meth c H locs 0 0 (xk_MQ below (xk_Qc D kx_cl (kw_m ad ca) ads (xo_v (.inl r)) u') args s (xk_A ads s.heap.size)) (F0 m 60 ls []) := by
  intro n
  have hx := C.1.1
  have hb := C.1.2.1
  have hok := C.2.2.1
  induction n with
  | zero =>
    intro _ _ _ u H locs ls h
    have h : none = some (r, u') := h
    cases h
  | succ n ih =>
    intro b1 b3 b4 u H locs ls h hP hS hl
    unfold jb_Model_localRow_60 at h
    obtain ⟨k60, ek60, h⟩ := xp_let h
    have hk60 : ∀ (c0 : Int32) (c1 : Int32) (c2 : Int64) (u : xk_St) (H : Heap) (locs : List Loc) (ls : Array Slot), k60 c0 c1 c2 u = some (r, u') → va_P D kx_cl (kw_m ad ca u) H → va_S (xk_A ads s.heap.size) s.heap H locs → lv_has ls 10 [(0, .ref (ad 0)), (1, .int c0), (3, .int c1), (4, .long c2)] → W p l e rm_Model_localRow s m args below meth c H locs 0 0 (xk_MQ below (xk_Qc D kx_cl (kw_m ad ca) ads (xo_v (.inl r)) u') args s (xk_A ads s.heap.size)) (F0 m 60 ls []) := by
      intro c0 c1 c2 u H locs ls h hP hS hl
      subst ek60
      exact ih h hP hS hl
    clear ih ek60
    refine lv_lload hx hb dd_Model_localRow_60 (lv_at hl 3 rfl) ?_
    refine lv_lconst (v := 0) hx hb dd_Model_localRow_62 (by decide) ?_
    refine xr_lc_le (tgt := 203) hx hb dd_Model_localRow_63 dd_Model_localRow_64 (by decide) (fun hc => ?_) (fun hc => ?_)
    · have h := xp_t hc h
      refine lv_aload_n hx hb dd_Model_localRow_203 rfl (lv_at hl 0 rfl) ?_
      refine gf_m_Model_0_localMany C hP dd_Model_localRow_204 ?_
      refine lv_iload_n hx hb dd_Model_localRow_207 rfl (lv_at hl 1 rfl) ?_
      refine lv_iload_n hx hb dd_Model_localRow_208 rfl (lv_at hl 2 rfl) ?_
      obtain ⟨hi, h⟩ := xp_g h
      refine as_m_14 C hP hS hi dd_Model_localRow_209 (fun H locs hP hS => ?_)
      obtain ⟨u5, eu5, h⟩ := xp_let h
      rw [← eu5] at hP
      obtain ⟨rfl, rfl⟩ := xp_r h
      exact xr_vret C hP hS dd_Model_localRow_210
    · have h := xp_f hc h
      refine lv_aload_n hx hb dd_Model_localRow_67 rfl (lv_at hl 0 rfl) ?_
      obtain ⟨a6, u7, hq, h⟩ := xp_seq h
      refine xk_goesL (xr_V (As := []) (rest := []) C hP hS (ct_Model_number htr hok hq) kq_Model_295 0 11 rfl rfl ⟨rfl, rfl, Nat.le_of_ble_eq_true rfl, Nat.le_of_ble_eq_true rfl⟩ ⟨Nat.le_of_ble_eq_true rfl, Nat.le_of_ble_eq_true rfl⟩ hl.1 rfl rfl (Nat.le_of_ble_eq_true rfl) dd_Model_localRow_68) hS (fun H locs hP hS => ?_)
      clear hq
      refine lv_lstore (lv' := [(6, .long a6), (0, .ref (ad 0)), (1, .int b1), (3, .int b3), (4, .long b4)]) hx hb dd_Model_localRow_71 hl (by decide) rfl (fun ls hl => ?_)
      refine lv_aload_n hx hb dd_Model_localRow_73 rfl (lv_at hl 1 rfl) ?_
      obtain ⟨a8, u9, hq, h⟩ := xp_seq h
      refine xk_goesI (xr_V (As := []) (rest := []) C hP hS (ct_Model_valueType htr hok hq) kq_Model_210 0 11 rfl rfl ⟨rfl, rfl, Nat.le_of_ble_eq_true rfl, Nat.le_of_ble_eq_true rfl⟩ ⟨Nat.le_of_ble_eq_true rfl, Nat.le_of_ble_eq_true rfl⟩ hl.1 rfl rfl (Nat.le_of_ble_eq_true rfl) dd_Model_localRow_74) hS (fun H locs hP hS => ?_)
      clear hq
      refine lv_istore (lv' := [(8, .int a8), (6, .long a6), (0, .ref (ad 0)), (1, .int b1), (3, .int b3), (4, .long b4)]) hx hb dd_Model_localRow_77 hl (by decide) rfl (fun ls hl => ?_)
      refine lv_aload_n hx hb dd_Model_localRow_79 rfl (lv_at hl 2 rfl) ?_
      refine lv_aload_n hx hb dd_Model_localRow_80 rfl (lv_at hl 2 rfl) ?_
      refine gf_m_Model_0_wrong C hP dd_Model_localRow_81 ?_
      refine lv_if_ne (tgt := 127) hx hb dd_Model_localRow_84 (by decide) (fun hc => ?_) (fun hc => ?_)
      · have h := xp_f hc h
        exact wj_Model_localRow_127 htr C hne hk60 h hP hS (lv_sub hl [2, 3, 4, 5, 1, 0] rfl)
      · have h := xp_t hc h
        refine lv_aload_n hx hb dd_Model_localRow_87 rfl (lv_at hl 2 rfl) ?_
        refine lv_iload hx hb dd_Model_localRow_88 (lv_at hl 0 rfl) ?_
        refine lv_aload_n hx hb dd_Model_localRow_90 rfl (lv_at hl 2 rfl) ?_
        refine gf_m_Model_0_types C hP dd_Model_localRow_91 ?_
        obtain ⟨a15, u16, hq, h⟩ := xp_seq h
        refine xk_goesI (xr_V (As := [.int a8, .int (u9.1 12)]) (rest := [.ref (ad 0)]) C hP hS (ct_Model_isThere htr hok hq) kq_Model_404 0 11 rfl rfl ⟨rfl, rfl, Nat.le_of_ble_eq_true rfl, Nat.le_of_ble_eq_true rfl⟩ ⟨Nat.le_of_ble_eq_true rfl, Nat.le_of_ble_eq_true rfl⟩ hl.1 rfl rfl (Nat.le_of_ble_eq_true rfl) dd_Model_localRow_94) hS (fun H locs hP hS => ?_)
        clear hq
        refine lv_if_eq (tgt := 127) hx hb dd_Model_localRow_97 (by decide) (fun hc => ?_) (fun hc => ?_)
        · have h := xp_t hc h
          exact wj_Model_localRow_127 htr C hne hk60 h hP hS (lv_sub hl [2, 3, 4, 5, 1, 0] rfl)
        · have h := xp_f hc h
          refine lv_iload hx hb dd_Model_localRow_100 (lv_at hl 0 rfl) ?_
          obtain ⟨a17, u18, hq, h⟩ := xp_seq h
          refine xk_goesI (xr_S (As := [.int a8]) (rest := [.ref (ad 0)]) C hP hS (ct_Model_isReference htr hok hq) kq_Model_384 ⟨rfl, rfl, Nat.le_of_ble_eq_true rfl, Nat.le_of_ble_eq_true rfl⟩ ⟨Nat.le_of_ble_eq_true rfl, Nat.le_of_ble_eq_true rfl⟩ hl.1 rfl rfl (Nat.le_of_ble_eq_true rfl) dd_Model_localRow_102) hS (fun H locs hP hS => ?_)
          clear hq
          refine lv_if_eq (tgt := 115) hx hb dd_Model_localRow_105 (by decide) (fun hc => ?_) (fun hc => ?_)
          · have h := xp_t hc h
            exact wj_Model_localRow_115 htr C hne hk60 h hP hS (lv_sub hl [2, 3, 4, 5, 1, 0] rfl)
          · have h := xp_f hc h
            refine lv_iload hx hb dd_Model_localRow_108 (lv_at hl 0 rfl) ?_
            refine lv_iconst (v := 1) hx hb dd_Model_localRow_110 (by decide) ?_
            refine lv_iand hx hb dd_Model_localRow_111 ?_
            refine lv_if_eq (tgt := 127) hx hb dd_Model_localRow_112 (by decide) (fun hc => ?_) (fun hc => ?_)
            · have h := xp_t hc h
              exact wj_Model_localRow_127 htr C hne hk60 h hP hS (lv_sub hl [2, 3, 4, 5, 1, 0] rfl)
            · have h := xp_f hc h
              exact wj_Model_localRow_115 htr C hne hk60 h hP hS (lv_sub hl [2, 3, 4, 5, 1, 0] rfl)
set_option maxHeartbeats 4000000 in
set_option maxRecDepth 100000 in
theorem wj_Model_localRow_17 {p : Program} {l : Launch} {e : Env} {s : State} {m : MethodId} {args : Array Value} {below : List Frame} {meth : Method} {c : Code} {D : va_G} {ad : Nat → Nat} {ca : Nat → ClassId} {ads : List Nat} {fu : Nat} (htr : l.stackTraces = false) (C : xk_C D kx_cl (kx_ty ca) (kw_m ad ca) ads "ModuleHouseModel" prog_14_method_57_code 10 none p e s m args meth c) (hne : c.exceptionTable.isEmpty = true) {u' : xk_St} {r : Unit} : ∀ {n : Nat} {b1 : Int32} {b2 : Int32} {b3 : Int32} {b4 : Int32} {u : xk_St} {H : Heap} {locs : List Loc} {ls : Array Slot} (h : jb_Model_localRow_17 fu  n b1 b2 b3 b4 u = some (r, u')) (hP : va_P D kx_cl (kw_m ad ca u) H) (hS : va_S (xk_A ads s.heap.size) s.heap H locs) (hl : lv_has ls 10 [(0, .ref (ad 0)), (1, .int b1), (2, .int b2), (3, .int b3), (4, .int b4)]), W p l e rm_Model_localRow s m args below meth c H locs 0 0 (xk_MQ below (xk_Qc D kx_cl (kw_m ad ca) ads (xo_v (.inl r)) u') args s (xk_A ads s.heap.size)) (F0 m 17 ls []) := by
  intro n
  have hx := C.1.1
  have hb := C.1.2.1
  have hok := C.2.2.1
  induction n with
  | zero =>
    intro _ _ _ _ u H locs ls h
    have h : none = some (r, u') := h
    cases h
  | succ n ih =>
    intro b1 b2 b3 b4 u H locs ls h hP hS hl
    unfold jb_Model_localRow_17 at h
    obtain ⟨k17, ek17, h⟩ := xp_let h
    have hk17 : ∀ (c0 : Int32) (c1 : Int32) (c2 : Int32) (c3 : Int32) (u : xk_St) (H : Heap) (locs : List Loc) (ls : Array Slot), k17 c0 c1 c2 c3 u = some (r, u') → va_P D kx_cl (kw_m ad ca u) H → va_S (xk_A ads s.heap.size) s.heap H locs → lv_has ls 10 [(0, .ref (ad 0)), (1, .int c0), (2, .int c1), (3, .int c2), (4, .int c3)] → W p l e rm_Model_localRow s m args below meth c H locs 0 0 (xk_MQ below (xk_Qc D kx_cl (kw_m ad ca) ads (xo_v (.inl r)) u') args s (xk_A ads s.heap.size)) (F0 m 17 ls []) := by
      intro c0 c1 c2 c3 u H locs ls h hP hS hl
      subst ek17
      exact ih h hP hS hl
    clear ih ek17
    refine lv_iload hx hb dd_Model_localRow_17 (lv_at hl 4 rfl) ?_
    refine lv_iload_n hx hb dd_Model_localRow_19 rfl (lv_at hl 3 rfl) ?_
    refine lv_icmp_ge (tgt := 54) hx hb dd_Model_localRow_20 (by decide) (fun hc => ?_) (fun hc => ?_)
    · have h := xp_t hc h
      refine lv_aload_n hx hb dd_Model_localRow_54 rfl (lv_at hl 0 rfl) ?_
      obtain ⟨a3, u4, hq, h⟩ := xp_seq h
      refine xk_goesL (xr_V (As := []) (rest := []) C hP hS (ct_Model_number htr hok hq) kq_Model_295 0 11 rfl rfl ⟨rfl, rfl, Nat.le_of_ble_eq_true rfl, Nat.le_of_ble_eq_true rfl⟩ ⟨Nat.le_of_ble_eq_true rfl, Nat.le_of_ble_eq_true rfl⟩ hl.1 rfl rfl (Nat.le_of_ble_eq_true rfl) dd_Model_localRow_55) hS (fun H locs hP hS => ?_)
      clear hq
      refine lv_lstore (lv' := [(4, .long a3), (0, .ref (ad 0)), (1, .int b1), (2, .int b2), (3, .int b3)]) hx hb dd_Model_localRow_58 hl (by decide) rfl (fun ls hl => ?_)
      exact wj_Model_localRow_60 htr C hne h hP hS (lv_sub hl [1, 2, 4, 0] rfl)
    · have h := xp_f hc h
      refine lv_aload_n hx hb dd_Model_localRow_23 rfl (lv_at hl 0 rfl) ?_
      refine gf_m_Model_0_localTypes C hP dd_Model_localRow_24 ?_
      refine lv_sipush (v := 200) hx hb dd_Model_localRow_27 (by decide) ?_
      refine lv_iload_n hx hb dd_Model_localRow_30 rfl (lv_at hl 1 rfl) ?_
      refine lv_imul hx hb dd_Model_localRow_31 ?_
      refine lv_iload hx hb dd_Model_localRow_32 (lv_at hl 4 rfl) ?_
      refine lv_iadd hx hb dd_Model_localRow_34 ?_
      refine lv_aload_n hx hb dd_Model_localRow_35 rfl (lv_at hl 0 rfl) ?_
      refine gf_m_Model_0_parts C hP dd_Model_localRow_36 ?_
      refine lv_bipush (v := 32) hx hb dd_Model_localRow_39 (by decide) ?_
      refine lv_iload_n hx hb dd_Model_localRow_41 rfl (lv_at hl 2 rfl) ?_
      refine lv_imul hx hb dd_Model_localRow_42 ?_
      refine lv_iload hx hb dd_Model_localRow_43 (lv_at hl 4 rfl) ?_
      refine lv_iadd hx hb dd_Model_localRow_45 ?_
      obtain ⟨hi, h⟩ := xp_g h
      refine al_m_9 C hP hi dd_Model_localRow_46 ?_
      obtain ⟨hi, h⟩ := xp_g h
      refine as_m_15 C hP hS hi dd_Model_localRow_47 (fun H locs hP hS => ?_)
      obtain ⟨u19, eu19, h⟩ := xp_let h
      rw [← eu19] at hP
      obtain ⟨a20, ea20, h⟩ := xp_let h
      refine lv_iinc (v := a20) (lv' := [(4, .int a20), (0, .ref (ad 0)), (1, .int b1), (2, .int b2), (3, .int b3)]) hx hb dd_Model_localRow_48 hl (k := 4) rfl (by rw [ea20]; first | rfl | decide) (by decide) rfl (fun ls hl => ?_)
      refine lv_goto (tgt := 17) hx hb dd_Model_localRow_51 (by decide) ?_
      exact hk17 b1 b2 b3 a20 u19 _ _ _ h hP hS (lv_sub hl [1, 2, 3, 4, 0] rfl)
set_option maxHeartbeats 4000000 in
set_option maxRecDepth 100000 in
theorem ct_Model_localRow {l : Launch} {D : va_G} {ad : Nat → Nat} {ca : Nat → ClassId} {ads : List Nat} (htr : l.stackTraces = false) (hok : xk_ok (kw_m ad ca) ads) {fu : Nat} {x0 : Int32} {u u' : xk_St} {r : Unit} (h : fm_Model_localRow fu x0 u = some (r, u')) :
    ∀ sz, xk_Met l ⟨"ModuleHouseModel", "localRow", "(I)V"⟩ (Cond.code ⟨"ModuleHouseModel", "localRow", "(I)V"⟩ prog_14_method_57_code 10 none :: xk_gd) rm_Model_localRow (xk_Pc D kx_cl (kx_ty ca) (kw_m ad ca) ads xk_F sz [.ref (ad 0), .int x0] u) (xk_Qc D kx_cl (kw_m ad ca) ads (xo_v (.inl r)) u') (xk_A ads sz) := by
  unfold fm_Model_localRow at h
  refine xk_con (by decide) htr hok (Nat.le_of_ble_eq_true rfl) (fun p e s m below meth c ls C hne hl hP => ?_)
  have hx := C.1.1
  have hb := C.1.2.1
  have hS : va_S (xk_A ads s.heap.size) s.heap s.heap [] := va_S.rf
  have hl : lv_has ls 10 [(0, .ref (ad 0)), (1, .int x0)] := hl
  refine lv_aload_n hx hb dd_Model_localRow_0 rfl (lv_at hl 0 rfl) ?_
  refine gf_m_Model_0_functionType C hP dd_Model_localRow_1 ?_
  refine lv_iload_n hx hb dd_Model_localRow_4 rfl (lv_at hl 1 rfl) ?_
  obtain ⟨hi, h⟩ := xp_g h
  refine al_m_11 C hP hi dd_Model_localRow_5 ?_
  obtain ⟨a1, ea1, h⟩ := xp_let h
  refine xr_nami ea1 ?_
  refine lv_istore_n (lv' := [(2, .int a1), (0, .ref (ad 0)), (1, .int x0)]) hx hb dd_Model_localRow_6 rfl hl (by decide) rfl (fun ls hl => ?_)
  refine lv_aload_n hx hb dd_Model_localRow_7 rfl (lv_at hl 1 rfl) ?_
  refine gf_m_Model_0_partMany C hP dd_Model_localRow_8 ?_
  refine lv_iload_n hx hb dd_Model_localRow_11 rfl (lv_at hl 0 rfl) ?_
  obtain ⟨hi, h⟩ := xp_g h
  refine al_m_7 C hP hi dd_Model_localRow_12 ?_
  obtain ⟨a2, ea2, h⟩ := xp_let h
  refine xr_nami ea2 ?_
  refine lv_istore_n (lv' := [(3, .int a2), (2, .int a1), (0, .ref (ad 0)), (1, .int x0)]) hx hb dd_Model_localRow_13 rfl hl (by decide) rfl (fun ls hl => ?_)
  refine lv_iconst (v := 0) hx hb dd_Model_localRow_14 (by decide) ?_
  refine lv_istore (lv' := [(4, .int (0 : Int32)), (3, .int a2), (2, .int a1), (0, .ref (ad 0)), (1, .int x0)]) hx hb dd_Model_localRow_15 hl (by decide) rfl (fun ls hl => ?_)
  exact wj_Model_localRow_17 htr C hne h hP hS (lv_sub hl [3, 4, 2, 1, 0] rfl)
abbrev rm_Model_open : Room := { frames := 1, cells := 1, slots := 6, locals := 0 }
noncomputable def fm_Model_open (x0 : Int32) (x1 : Int64) (u : xk_St) : Option (Unit × xk_St) :=
  if (u.1 22) = (100 : Int32) then ((xs_let (xs_I u 7 (1 : Int32)) fun u7 => some ((()), u7))) else ((if (u.1 22) < 0 ∨ 101 ≤ (u.1 22).toNatClampNeg then none else xs_let (xs_A u 24 (u.1 22).toNatClampNeg x0) fun u1 => if (u1.1 22) < 0 ∨ 101 ≤ (u1.1 22).toNatClampNeg then none else xs_let (xs_B u1 1 (u1.1 22).toNatClampNeg x1) fun u2 => if (u2.1 22) < 0 ∨ 101 ≤ (u2.1 22).toNatClampNeg then none else xs_let (xs_A u2 23 (u2.1 22).toNatClampNeg (u2.1 23)) fun u3 => if (u3.1 22) < 0 ∨ 101 ≤ (u3.1 22).toNatClampNeg then none else xs_let (xs_A u3 25 (u3.1 22).toNatClampNeg (u3.1 21)) fun u4 => if (u4.1 22) < 0 ∨ 101 ≤ (u4.1 22).toNatClampNeg then none else xs_let (xs_A u4 26 (u4.1 22).toNatClampNeg (vp_nar .boolean (0 : Int32))) fun u5 => xs_let (xs_I u5 22 ((u5.1 22) + (1 : Int32))) fun u6 => some ((()), u6)))
set_option maxHeartbeats 4000000 in
set_option maxRecDepth 100000 in
theorem ct_Model_open {l : Launch} {D : va_G} {ad : Nat → Nat} {ca : Nat → ClassId} {ads : List Nat} (htr : l.stackTraces = false) (hok : xk_ok (kw_m ad ca) ads) {x0 : Int32} {x1 : Int64} {u u' : xk_St} {r : Unit} (h : fm_Model_open x0 x1 u = some (r, u')) :
    ∀ sz, xk_Met l ⟨"ModuleHouseModel", "open", "(IJ)V"⟩ (Cond.code ⟨"ModuleHouseModel", "open", "(IJ)V"⟩ prog_14_method_67_code 4 none :: xk_gd) rm_Model_open (xk_Pc D kx_cl (kx_ty ca) (kw_m ad ca) ads xk_F sz [.ref (ad 0), .int x0, .long x1] u) (xk_Qc D kx_cl (kw_m ad ca) ads (xo_v (.inl r)) u') (xk_A ads sz) := by
  unfold fm_Model_open at h
  refine xk_con (by decide) htr hok (Nat.le_of_ble_eq_true rfl) (fun p e s m below meth c ls C hne hl hP => ?_)
  have hx := C.1.1
  have hb := C.1.2.1
  have hS : va_S (xk_A ads s.heap.size) s.heap s.heap [] := va_S.rf
  have hl : lv_has ls 4 [(0, .ref (ad 0)), (1, .int x0), (2, .long x1)] := hl
  refine lv_aload_n hx hb dd_Model_open_0 rfl (lv_at hl 0 rfl) ?_
  refine gf_m_Model_0_blocks C hP dd_Model_open_1 ?_
  refine lv_bipush (v := 100) hx hb dd_Model_open_4 (by decide) ?_
  refine lv_icmp_ne (tgt := 15) hx hb dd_Model_open_6 (by decide) (fun hc => ?_) (fun hc => ?_)
  · have h := xp_f hc h
    refine lv_aload_n hx hb dd_Model_open_15 rfl (lv_at hl 0 rfl) ?_
    refine gf_m_Model_0_blockOp C hP dd_Model_open_16 ?_
    refine lv_aload_n hx hb dd_Model_open_19 rfl (lv_at hl 0 rfl) ?_
    refine gf_m_Model_0_blocks C hP dd_Model_open_20 ?_
    refine lv_iload_n hx hb dd_Model_open_23 rfl (lv_at hl 1 rfl) ?_
    obtain ⟨hi, h⟩ := xp_g h
    refine as_m_26 C hP hS hi dd_Model_open_24 (fun H locs hP hS => ?_)
    obtain ⟨u1, eu1, h⟩ := xp_let h
    rw [← eu1] at hP
    refine lv_aload_n hx hb dd_Model_open_25 rfl (lv_at hl 0 rfl) ?_
    refine gf_m_Model_0_blockType C hP dd_Model_open_26 ?_
    refine lv_aload_n hx hb dd_Model_open_29 rfl (lv_at hl 0 rfl) ?_
    refine gf_m_Model_0_blocks C hP dd_Model_open_30 ?_
    refine lv_lload_n hx hb dd_Model_open_33 rfl (lv_at hl 2 rfl) ?_
    obtain ⟨hi, h⟩ := xp_g h
    refine as_m_27 C hP hS hi dd_Model_open_34 (fun H locs hP hS => ?_)
    obtain ⟨u2, eu2, h⟩ := xp_let h
    rw [← eu2] at hP
    refine lv_aload_n hx hb dd_Model_open_35 rfl (lv_at hl 0 rfl) ?_
    refine gf_m_Model_0_blockAt C hP dd_Model_open_36 ?_
    refine lv_aload_n hx hb dd_Model_open_39 rfl (lv_at hl 0 rfl) ?_
    refine gf_m_Model_0_blocks C hP dd_Model_open_40 ?_
    refine lv_aload_n hx hb dd_Model_open_43 rfl (lv_at hl 0 rfl) ?_
    refine gf_m_Model_0_here C hP dd_Model_open_44 ?_
    obtain ⟨hi, h⟩ := xp_g h
    refine as_m_25 C hP hS hi dd_Model_open_47 (fun H locs hP hS => ?_)
    obtain ⟨u3, eu3, h⟩ := xp_let h
    rw [← eu3] at hP
    refine lv_aload_n hx hb dd_Model_open_48 rfl (lv_at hl 0 rfl) ?_
    refine gf_m_Model_0_blockBase C hP dd_Model_open_49 ?_
    refine lv_aload_n hx hb dd_Model_open_52 rfl (lv_at hl 0 rfl) ?_
    refine gf_m_Model_0_blocks C hP dd_Model_open_53 ?_
    refine lv_aload_n hx hb dd_Model_open_56 rfl (lv_at hl 0 rfl) ?_
    refine gf_m_Model_0_high C hP dd_Model_open_57 ?_
    obtain ⟨hi, h⟩ := xp_g h
    refine as_m_28 C hP hS hi dd_Model_open_60 (fun H locs hP hS => ?_)
    obtain ⟨u4, eu4, h⟩ := xp_let h
    rw [← eu4] at hP
    refine lv_aload_n hx hb dd_Model_open_61 rfl (lv_at hl 0 rfl) ?_
    refine gf_m_Model_0_blockDead C hP dd_Model_open_62 ?_
    refine lv_aload_n hx hb dd_Model_open_65 rfl (lv_at hl 0 rfl) ?_
    refine gf_m_Model_0_blocks C hP dd_Model_open_66 ?_
    refine lv_iconst (v := 0) hx hb dd_Model_open_69 (by decide) ?_
    obtain ⟨hi, h⟩ := xp_g h
    refine as_m_29 C hP hS hi dd_Model_open_70 (fun H locs hP hS => ?_)
    obtain ⟨u5, eu5, h⟩ := xp_let h
    rw [← eu5] at hP
    refine lv_aload_n hx hb dd_Model_open_71 rfl (lv_at hl 0 rfl) ?_
    refine lv_dup hx hb dd_Model_open_72 rfl ?_
    refine gf_m_Model_0_blocks C hP dd_Model_open_73 ?_
    refine lv_iconst (v := 1) hx hb dd_Model_open_76 (by decide) ?_
    refine lv_iadd hx hb dd_Model_open_77 ?_
    refine pf_m_Model_0_blocks C hP hS dd_Model_open_78 (fun H locs hP hS => ?_)
    obtain ⟨u6, eu6, h⟩ := xp_let h
    rw [← eu6] at hP
    obtain ⟨rfl, rfl⟩ := xp_r h
    exact xr_vret C hP hS dd_Model_open_81
  · have h := xp_t hc h
    refine lv_aload_n hx hb dd_Model_open_9 rfl (lv_at hl 0 rfl) ?_
    refine lv_iconst (v := 1) hx hb dd_Model_open_10 (by decide) ?_
    refine pf_m_Model_0_wrong C hP hS (by decide) dd_Model_open_11 (fun H locs hP hS => ?_)
    obtain ⟨u7, eu7, h⟩ := xp_let h
    rw [← eu7] at hP
    obtain ⟨rfl, rfl⟩ := xp_r h
    exact xr_vret C hP hS dd_Model_open_14
abbrev rm_Model_pop : Room := { frames := 1, cells := 1, slots := 6, locals := 0 }
noncomputable def jb_Model_pop_40 (u : xk_St) : Option (Int32 × xk_St) :=
  (xs_let (xs_I u 7 (1 : Int32)) fun u2 => some ((0 : Int32), u2))
noncomputable def fm_Model_pop (u : xk_St) : Option (Int32 × xk_St) :=
  (if ((u.1 22) - (1 : Int32)) < 0 ∨ 101 ≤ ((u.1 22) - (1 : Int32)).toNatClampNeg then none else if (u.1 21) = (u.2.2.1 25 ((u.1 22) - (1 : Int32)).toNatClampNeg) then (if (u.1 7) = (0 : Int32) then ((if ((u.1 22) - (1 : Int32)) < 0 ∨ 101 ≤ ((u.1 22) - (1 : Int32)).toNatClampNeg then none else if (u.2.2.1 26 ((u.1 22) - (1 : Int32)).toNatClampNeg) = (0 : Int32) then (jb_Model_pop_40 u) else ((xs_let (xs_I u 7 (0 : Int32)) fun u3 => some ((0 : Int32), u3))))) else (jb_Model_pop_40 u)) else ((xs_let (xs_I u 21 ((u.1 21) - (1 : Int32))) fun u1 => if (u1.1 21) < 0 ∨ 101 ≤ (u1.1 21).toNatClampNeg then none else some ((u1.2.2.1 22 (u1.1 21).toNatClampNeg), u1))))
set_option maxHeartbeats 4000000 in
set_option maxRecDepth 100000 in
theorem wj_Model_pop_40 {p : Program} {l : Launch} {e : Env} {s : State} {m : MethodId} {args : Array Value} {below : List Frame} {meth : Method} {c : Code} {D : va_G} {ad : Nat → Nat} {ca : Nat → ClassId} {ads : List Nat} (htr : l.stackTraces = false) (C : xk_C D kx_cl (kx_ty ca) (kw_m ad ca) ads "ModuleHouseModel" prog_14_method_59_code 1 (some .int) p e s m args meth c) (hne : c.exceptionTable.isEmpty = true) {u' : xk_St} {r : Int32} {u : xk_St} {H : Heap} {locs : List Loc} {ls : Array Slot} (h : jb_Model_pop_40   u = some (r, u')) (hP : va_P D kx_cl (kw_m ad ca u) H) (hS : va_S (xk_A ads s.heap.size) s.heap H locs) (hl : lv_has ls 1 []) : W p l e rm_Model_pop s m args below meth c H locs 0 0 (xk_MQ below (xk_Qc D kx_cl (kw_m ad ca) ads (xo_i (.inl r)) u') args s (xk_A ads s.heap.size)) (F0 m 40 ls [.ref (ad 0)]) := by
  have hx := C.1.1
  have hb := C.1.2.1
  have hok := C.2.2.1
  unfold jb_Model_pop_40 at h
  refine lv_iconst (v := 1) hx hb dd_Model_pop_40 (by decide) ?_
  refine lv_goto (tgt := 45) hx hb dd_Model_pop_41 (by decide) ?_
  refine pf_m_Model_0_wrong C hP hS (by decide) dd_Model_pop_45 (fun H locs hP hS => ?_)
  obtain ⟨u2, eu2, h⟩ := xp_let h
  rw [← eu2] at hP
  refine lv_iconst (v := 0) hx hb dd_Model_pop_48 (by decide) ?_
  obtain ⟨rfl, rfl⟩ := xp_r h
  exact xr_iret C hP hS dd_Model_pop_49
set_option maxHeartbeats 4000000 in
set_option maxRecDepth 100000 in
theorem ct_Model_pop {l : Launch} {D : va_G} {ad : Nat → Nat} {ca : Nat → ClassId} {ads : List Nat} (htr : l.stackTraces = false) (hok : xk_ok (kw_m ad ca) ads) {u u' : xk_St} {r : Int32} (h : fm_Model_pop u = some (r, u')) :
    ∀ sz, xk_Met l ⟨"ModuleHouseModel", "pop", "()I"⟩ (Cond.code ⟨"ModuleHouseModel", "pop", "()I"⟩ prog_14_method_59_code 1 (some .int) :: xk_gd) rm_Model_pop (xk_Pc D kx_cl (kx_ty ca) (kw_m ad ca) ads xk_F sz [.ref (ad 0)] u) (xk_Qc D kx_cl (kw_m ad ca) ads (xo_i (.inl r)) u') (xk_A ads sz) := by
  unfold fm_Model_pop at h
  refine xk_con (by decide) htr hok (Nat.le_of_ble_eq_true rfl) (fun p e s m below meth c ls C hne hl hP => ?_)
  have hx := C.1.1
  have hb := C.1.2.1
  have hS : va_S (xk_A ads s.heap.size) s.heap s.heap [] := va_S.rf
  have hl : lv_has ls 1 [(0, .ref (ad 0))] := hl
  refine lv_aload_n hx hb dd_Model_pop_0 rfl (lv_at hl 0 rfl) ?_
  refine gf_m_Model_0_high C hP dd_Model_pop_1 ?_
  refine lv_aload_n hx hb dd_Model_pop_4 rfl (lv_at hl 0 rfl) ?_
  refine gf_m_Model_0_blockBase C hP dd_Model_pop_5 ?_
  refine lv_aload_n hx hb dd_Model_pop_8 rfl (lv_at hl 0 rfl) ?_
  refine gf_m_Model_0_blocks C hP dd_Model_pop_9 ?_
  refine lv_iconst (v := 1) hx hb dd_Model_pop_12 (by decide) ?_
  refine lv_isub hx hb dd_Model_pop_13 ?_
  obtain ⟨hi, h⟩ := xp_g h
  refine al_m_28 C hP hi dd_Model_pop_14 ?_
  refine lv_icmp_ne (tgt := 50) hx hb dd_Model_pop_15 (by decide) (fun hc => ?_) (fun hc => ?_)
  · have h := xp_f hc h
    refine lv_aload_n hx hb dd_Model_pop_50 rfl (lv_at hl 0 rfl) ?_
    refine lv_dup hx hb dd_Model_pop_51 rfl ?_
    refine gf_m_Model_0_high C hP dd_Model_pop_52 ?_
    refine lv_iconst (v := 1) hx hb dd_Model_pop_55 (by decide) ?_
    refine lv_isub hx hb dd_Model_pop_56 ?_
    refine pf_m_Model_0_high C hP hS dd_Model_pop_57 (fun H locs hP hS => ?_)
    obtain ⟨u1, eu1, h⟩ := xp_let h
    rw [← eu1] at hP
    refine lv_aload_n hx hb dd_Model_pop_60 rfl (lv_at hl 0 rfl) ?_
    refine gf_m_Model_0_stack C hP dd_Model_pop_61 ?_
    refine lv_aload_n hx hb dd_Model_pop_64 rfl (lv_at hl 0 rfl) ?_
    refine gf_m_Model_0_high C hP dd_Model_pop_65 ?_
    obtain ⟨hi, h⟩ := xp_g h
    refine al_m_24 C hP hi dd_Model_pop_68 ?_
    obtain ⟨rfl, rfl⟩ := xp_r h
    exact xr_iret C hP hS dd_Model_pop_69
  · have h := xp_t hc h
    refine lv_aload_n hx hb dd_Model_pop_18 rfl (lv_at hl 0 rfl) ?_
    refine lv_aload_n hx hb dd_Model_pop_19 rfl (lv_at hl 0 rfl) ?_
    refine gf_m_Model_0_wrong C hP dd_Model_pop_20 ?_
    refine lv_if_ne (tgt := 40) hx hb dd_Model_pop_23 (by decide) (fun hc => ?_) (fun hc => ?_)
    · have h := xp_f hc h
      exact wj_Model_pop_40 htr C hne h hP hS (lv_sub hl [] rfl)
    · have h := xp_t hc h
      refine lv_aload_n hx hb dd_Model_pop_26 rfl (lv_at hl 0 rfl) ?_
      refine gf_m_Model_0_blockDead C hP dd_Model_pop_27 ?_
      refine lv_aload_n hx hb dd_Model_pop_30 rfl (lv_at hl 0 rfl) ?_
      refine gf_m_Model_0_blocks C hP dd_Model_pop_31 ?_
      refine lv_iconst (v := 1) hx hb dd_Model_pop_34 (by decide) ?_
      refine lv_isub hx hb dd_Model_pop_35 ?_
      obtain ⟨hi, h⟩ := xp_g h
      refine al_m_29 C hP hi dd_Model_pop_36 ?_
      refine lv_if_ne (tgt := 44) hx hb dd_Model_pop_37 (by decide) (fun hc => ?_) (fun hc => ?_)
      · have h := xp_f hc h
        refine lv_iconst (v := 0) hx hb dd_Model_pop_44 (by decide) ?_
        refine pf_m_Model_0_wrong C hP hS (by decide) dd_Model_pop_45 (fun H locs hP hS => ?_)
        obtain ⟨u3, eu3, h⟩ := xp_let h
        rw [← eu3] at hP
        refine lv_iconst (v := 0) hx hb dd_Model_pop_48 (by decide) ?_
        obtain ⟨rfl, rfl⟩ := xp_r h
        exact xr_iret C hP hS dd_Model_pop_49
      · have h := xp_t hc h
        exact wj_Model_pop_40 htr C hne h hP hS (lv_sub hl [] rfl)
abbrev rm_Model_fits : Room := { frames := 2, cells := 1, slots := 6, locals := 20 }
noncomputable def jb_Model_fits_96 (u : xk_St) : Option (Int32 × xk_St) :=
  some ((1 : Int32), u)
noncomputable def fm_Model_fits (x0 : Int32) (x1 : Int32) (u : xk_St) : Option (Int32 × xk_St) :=
  if x0 = (0 : Int32) then (some ((1 : Int32), u)) else (if x0 = x1 then (some ((1 : Int32), u)) else ((xs_seq (fm_Model_isReference x0 u) fun a1 u2 => if a1 = (0 : Int32) then (some ((0 : Int32), u2)) else ((xs_seq (fm_Model_isReference x1 u2) fun a3 u4 => if a3 = (0 : Int32) then (some ((0 : Int32), u4)) else (if (x0 &&& (1 : Int32)) ≤ (x1 &&& (1 : Int32)) then ((xs_seq (fm_Model_targetOf x0 u4) fun a5 u6 => xs_seq (fm_Model_targetOf x1 u6) fun a7 u8 => if a5 = (400 : Int32) then (jb_Model_fits_96 u8) else (if a5 = a7 then (jb_Model_fits_96 u8) else (if a7 = (0 : Int32) then (jb_Model_fits_96 u8) else (if a5 < (2 : Int32) then (some ((0 : Int32), u8)) else (if a7 < (2 : Int32) then (some ((0 : Int32), u8)) else ((if (a5 - (2 : Int32)) < 0 ∨ 64 ≤ (a5 - (2 : Int32)).toNatClampNeg then none else if (a7 - (2 : Int32)) < 0 ∨ 64 ≤ (a7 - (2 : Int32)).toNatClampNeg then none else if (u8.2.2.1 8 (a5 - (2 : Int32)).toNatClampNeg) = (u8.2.2.1 8 (a7 - (2 : Int32)).toNatClampNeg) then (jb_Model_fits_96 u8) else (some ((0 : Int32), u8)))))))))) else (some ((0 : Int32), u4))))))))
set_option maxHeartbeats 4000000 in
set_option maxRecDepth 100000 in
theorem wj_Model_fits_96 {p : Program} {l : Launch} {e : Env} {s : State} {m : MethodId} {args : Array Value} {below : List Frame} {meth : Method} {c : Code} {D : va_G} {ad : Nat → Nat} {ca : Nat → ClassId} {ads : List Nat} (htr : l.stackTraces = false) (C : xk_C D kx_cl (kx_ty ca) (kw_m ad ca) ads "ModuleHouseModel" prog_14_method_40_code 5 (some .boolean) p e s m args meth c) (hne : c.exceptionTable.isEmpty = true) {u' : xk_St} {r : Int32} {u : xk_St} {H : Heap} {locs : List Loc} {ls : Array Slot} (h : jb_Model_fits_96   u = some (r, u')) (hP : va_P D kx_cl (kw_m ad ca u) H) (hS : va_S (xk_A ads s.heap.size) s.heap H locs) (hl : lv_has ls 5 []) : W p l e rm_Model_fits s m args below meth c H locs 0 0 (xk_MQ below (xk_Qc D kx_cl (kw_m ad ca) ads (xo_i (.inl r)) u') args s (xk_A ads s.heap.size)) (F0 m 96 ls []) := by
  have hx := C.1.1
  have hb := C.1.2.1
  have hok := C.2.2.1
  unfold jb_Model_fits_96 at h
  refine lv_iconst (v := 1) hx hb dd_Model_fits_96 (by decide) ?_
  refine lv_goto (tgt := 101) hx hb dd_Model_fits_97 (by decide) ?_
  obtain ⟨rfl, rfl⟩ := xp_r h
  exact xr_zret C hP hS (by decide) dd_Model_fits_101
set_option maxHeartbeats 4000000 in
set_option maxRecDepth 100000 in
theorem ct_Model_fits {l : Launch} {D : va_G} {ad : Nat → Nat} {ca : Nat → ClassId} {ads : List Nat} (htr : l.stackTraces = false) (hok : xk_ok (kw_m ad ca) ads) {x0 : Int32} {x1 : Int32} {u u' : xk_St} {r : Int32} (h : fm_Model_fits x0 x1 u = some (r, u')) :
    ∀ sz, xk_Met l ⟨"ModuleHouseModel", "fits", "(II)Z"⟩ (Cond.code ⟨"ModuleHouseModel", "fits", "(II)Z"⟩ prog_14_method_40_code 5 (some .boolean) :: xk_gd) rm_Model_fits (xk_Pc D kx_cl (kx_ty ca) (kw_m ad ca) ads xk_F sz [.ref (ad 0), .int x0, .int x1] u) (xk_Qc D kx_cl (kw_m ad ca) ads (xo_i (.inl r)) u') (xk_A ads sz) := by
  unfold fm_Model_fits at h
  refine xk_con (by decide) htr hok (Nat.le_of_ble_eq_true rfl) (fun p e s m below meth c ls C hne hl hP => ?_)
  have hx := C.1.1
  have hb := C.1.2.1
  have hS : va_S (xk_A ads s.heap.size) s.heap s.heap [] := va_S.rf
  have hl : lv_has ls 5 [(0, .ref (ad 0)), (1, .int x0), (2, .int x1)] := hl
  refine lv_iload_n hx hb dd_Model_fits_0 rfl (lv_at hl 1 rfl) ?_
  refine lv_if_eq (tgt := 9) hx hb dd_Model_fits_1 (by decide) (fun hc => ?_) (fun hc => ?_)
  · have h := xp_t hc h
    refine lv_iconst (v := 1) hx hb dd_Model_fits_9 (by decide) ?_
    obtain ⟨rfl, rfl⟩ := xp_r h
    exact xr_zret C hP hS (by decide) dd_Model_fits_10
  · have h := xp_f hc h
    refine lv_iload_n hx hb dd_Model_fits_4 rfl (lv_at hl 1 rfl) ?_
    refine lv_iload_n hx hb dd_Model_fits_5 rfl (lv_at hl 2 rfl) ?_
    refine lv_icmp_ne (tgt := 11) hx hb dd_Model_fits_6 (by decide) (fun hc => ?_) (fun hc => ?_)
    · have h := xp_f hc h
      refine lv_iload_n hx hb dd_Model_fits_11 rfl (lv_at hl 1 rfl) ?_
      obtain ⟨a1, u2, hq, h⟩ := xp_seq h
      refine xk_goesI (xr_S (As := [.int x0]) (rest := []) C hP hS (ct_Model_isReference htr hok hq) kq_Model_384 ⟨rfl, rfl, Nat.le_of_ble_eq_true rfl, Nat.le_of_ble_eq_true rfl⟩ ⟨Nat.le_of_ble_eq_true rfl, Nat.le_of_ble_eq_true rfl⟩ hl.1 rfl rfl (Nat.le_of_ble_eq_true rfl) dd_Model_fits_12) hS (fun H locs hP hS => ?_)
      clear hq
      refine lv_if_eq (tgt := 34) hx hb dd_Model_fits_15 (by decide) (fun hc => ?_) (fun hc => ?_)
      · have h := xp_t hc h
        refine lv_iconst (v := 0) hx hb dd_Model_fits_34 (by decide) ?_
        obtain ⟨rfl, rfl⟩ := xp_r h
        exact xr_zret C hP hS (by decide) dd_Model_fits_35
      · have h := xp_f hc h
        refine lv_iload_n hx hb dd_Model_fits_18 rfl (lv_at hl 2 rfl) ?_
        obtain ⟨a3, u4, hq, h⟩ := xp_seq h
        refine xk_goesI (xr_S (As := [.int x1]) (rest := []) C hP hS (ct_Model_isReference htr hok hq) kq_Model_384 ⟨rfl, rfl, Nat.le_of_ble_eq_true rfl, Nat.le_of_ble_eq_true rfl⟩ ⟨Nat.le_of_ble_eq_true rfl, Nat.le_of_ble_eq_true rfl⟩ hl.1 rfl rfl (Nat.le_of_ble_eq_true rfl) dd_Model_fits_19) hS (fun H locs hP hS => ?_)
        clear hq
        refine lv_if_eq (tgt := 34) hx hb dd_Model_fits_22 (by decide) (fun hc => ?_) (fun hc => ?_)
        · have h := xp_t hc h
          refine lv_iconst (v := 0) hx hb dd_Model_fits_34 (by decide) ?_
          obtain ⟨rfl, rfl⟩ := xp_r h
          exact xr_zret C hP hS (by decide) dd_Model_fits_35
        · have h := xp_f hc h
          refine lv_iload_n hx hb dd_Model_fits_25 rfl (lv_at hl 1 rfl) ?_
          refine lv_iconst (v := 1) hx hb dd_Model_fits_26 (by decide) ?_
          refine lv_iand hx hb dd_Model_fits_27 ?_
          refine lv_iload_n hx hb dd_Model_fits_28 rfl (lv_at hl 2 rfl) ?_
          refine lv_iconst (v := 1) hx hb dd_Model_fits_29 (by decide) ?_
          refine lv_iand hx hb dd_Model_fits_30 ?_
          refine lv_icmp_le (tgt := 36) hx hb dd_Model_fits_31 (by decide) (fun hc => ?_) (fun hc => ?_)
          · have h := xp_t hc h
            refine lv_iload_n hx hb dd_Model_fits_36 rfl (lv_at hl 1 rfl) ?_
            obtain ⟨a5, u6, hq, h⟩ := xp_seq h
            refine xk_goesI (xr_S (As := [.int x0]) (rest := []) C hP hS (ct_Model_targetOf htr hok hq) kq_Model_387 ⟨rfl, rfl, Nat.le_of_ble_eq_true rfl, Nat.le_of_ble_eq_true rfl⟩ ⟨Nat.le_of_ble_eq_true rfl, Nat.le_of_ble_eq_true rfl⟩ hl.1 rfl rfl (Nat.le_of_ble_eq_true rfl) dd_Model_fits_37) hS (fun H locs hP hS => ?_)
            clear hq
            refine lv_istore_n (lv' := [(3, .int a5), (0, .ref (ad 0)), (1, .int x0), (2, .int x1)]) hx hb dd_Model_fits_40 rfl hl (by decide) rfl (fun ls hl => ?_)
            refine lv_iload_n hx hb dd_Model_fits_41 rfl (lv_at hl 3 rfl) ?_
            obtain ⟨a7, u8, hq, h⟩ := xp_seq h
            refine xk_goesI (xr_S (As := [.int x1]) (rest := []) C hP hS (ct_Model_targetOf htr hok hq) kq_Model_387 ⟨rfl, rfl, Nat.le_of_ble_eq_true rfl, Nat.le_of_ble_eq_true rfl⟩ ⟨Nat.le_of_ble_eq_true rfl, Nat.le_of_ble_eq_true rfl⟩ hl.1 rfl rfl (Nat.le_of_ble_eq_true rfl) dd_Model_fits_42) hS (fun H locs hP hS => ?_)
            clear hq
            refine lv_istore (lv' := [(4, .int a7), (3, .int a5), (0, .ref (ad 0)), (1, .int x0), (2, .int x1)]) hx hb dd_Model_fits_45 hl (by decide) rfl (fun ls hl => ?_)
            refine lv_iload_n hx hb dd_Model_fits_47 rfl (lv_at hl 1 rfl) ?_
            refine lv_sipush (v := 400) hx hb dd_Model_fits_48 (by decide) ?_
            refine lv_icmp_eq (tgt := 96) hx hb dd_Model_fits_51 (by decide) (fun hc => ?_) (fun hc => ?_)
            · have h := xp_t hc h
              exact wj_Model_fits_96 htr C hne h hP hS (lv_sub hl [] rfl)
            · have h := xp_f hc h
              refine lv_iload_n hx hb dd_Model_fits_54 rfl (lv_at hl 1 rfl) ?_
              refine lv_iload hx hb dd_Model_fits_55 (lv_at hl 0 rfl) ?_
              refine lv_icmp_eq (tgt := 96) hx hb dd_Model_fits_57 (by decide) (fun hc => ?_) (fun hc => ?_)
              · have h := xp_t hc h
                exact wj_Model_fits_96 htr C hne h hP hS (lv_sub hl [] rfl)
              · have h := xp_f hc h
                refine lv_iload hx hb dd_Model_fits_60 (lv_at hl 0 rfl) ?_
                refine lv_if_eq (tgt := 96) hx hb dd_Model_fits_62 (by decide) (fun hc => ?_) (fun hc => ?_)
                · have h := xp_t hc h
                  exact wj_Model_fits_96 htr C hne h hP hS (lv_sub hl [] rfl)
                · have h := xp_f hc h
                  refine lv_iload_n hx hb dd_Model_fits_65 rfl (lv_at hl 1 rfl) ?_
                  refine lv_iconst (v := 2) hx hb dd_Model_fits_66 (by decide) ?_
                  refine lv_icmp_lt (tgt := 100) hx hb dd_Model_fits_67 (by decide) (fun hc => ?_) (fun hc => ?_)
                  · have h := xp_t hc h
                    refine lv_iconst (v := 0) hx hb dd_Model_fits_100 (by decide) ?_
                    obtain ⟨rfl, rfl⟩ := xp_r h
                    exact xr_zret C hP hS (by decide) dd_Model_fits_101
                  · have h := xp_f hc h
                    refine lv_iload hx hb dd_Model_fits_70 (lv_at hl 0 rfl) ?_
                    refine lv_iconst (v := 2) hx hb dd_Model_fits_72 (by decide) ?_
                    refine lv_icmp_lt (tgt := 100) hx hb dd_Model_fits_73 (by decide) (fun hc => ?_) (fun hc => ?_)
                    · have h := xp_t hc h
                      refine lv_iconst (v := 0) hx hb dd_Model_fits_100 (by decide) ?_
                      obtain ⟨rfl, rfl⟩ := xp_r h
                      exact xr_zret C hP hS (by decide) dd_Model_fits_101
                    · have h := xp_f hc h
                      refine lv_aload_n hx hb dd_Model_fits_76 rfl (lv_at hl 2 rfl) ?_
                      refine gf_m_Model_0_alike C hP dd_Model_fits_77 ?_
                      refine lv_iload_n hx hb dd_Model_fits_80 rfl (lv_at hl 1 rfl) ?_
                      refine lv_iconst (v := 2) hx hb dd_Model_fits_81 (by decide) ?_
                      refine lv_isub hx hb dd_Model_fits_82 ?_
                      obtain ⟨hi, h⟩ := xp_g h
                      refine al_m_10 C hP hi dd_Model_fits_83 ?_
                      refine lv_aload_n hx hb dd_Model_fits_84 rfl (lv_at hl 2 rfl) ?_
                      refine gf_m_Model_0_alike C hP dd_Model_fits_85 ?_
                      refine lv_iload hx hb dd_Model_fits_88 (lv_at hl 0 rfl) ?_
                      refine lv_iconst (v := 2) hx hb dd_Model_fits_90 (by decide) ?_
                      refine lv_isub hx hb dd_Model_fits_91 ?_
                      obtain ⟨hi, h⟩ := xp_g h
                      refine al_m_10 C hP hi dd_Model_fits_92 ?_
                      refine lv_icmp_ne (tgt := 100) hx hb dd_Model_fits_93 (by decide) (fun hc => ?_) (fun hc => ?_)
                      · have h := xp_f hc h
                        refine lv_iconst (v := 0) hx hb dd_Model_fits_100 (by decide) ?_
                        obtain ⟨rfl, rfl⟩ := xp_r h
                        exact xr_zret C hP hS (by decide) dd_Model_fits_101
                      · have h := xp_t hc h
                        exact wj_Model_fits_96 htr C hne h hP hS (lv_sub hl [] rfl)
          · have h := xp_f hc h
            refine lv_iconst (v := 0) hx hb dd_Model_fits_34 (by decide) ?_
            obtain ⟨rfl, rfl⟩ := xp_r h
            exact xr_zret C hP hS (by decide) dd_Model_fits_35
    · have h := xp_t hc h
      refine lv_iconst (v := 1) hx hb dd_Model_fits_9 (by decide) ?_
      obtain ⟨rfl, rfl⟩ := xp_r h
      exact xr_zret C hP hS (by decide) dd_Model_fits_10
abbrev rm_Model_take : Room := { frames := 3, cells := 1, slots := 6, locals := 44 }
noncomputable def jb_Model_take_20 (u : xk_St) : Option (Unit × xk_St) :=
  (xs_let (xs_I u 7 (1 : Int32)) fun u5 => some ((()), u5))
noncomputable def fm_Model_take (x0 : Int32) (u : xk_St) : Option (Unit × xk_St) :=
  (xs_seq (fm_Model_pop u) fun a1 u2 => xs_seq (fm_Model_fits a1 x0 u2) fun a3 u4 => if a3 = (0 : Int32) then (jb_Model_take_20 u4) else (if (u4.1 7) = (0 : Int32) then ((xs_let (xs_I u4 7 (0 : Int32)) fun u6 => some ((()), u6))) else (jb_Model_take_20 u4)))
set_option maxHeartbeats 4000000 in
set_option maxRecDepth 100000 in
theorem wj_Model_take_20 {p : Program} {l : Launch} {e : Env} {s : State} {m : MethodId} {args : Array Value} {below : List Frame} {meth : Method} {c : Code} {D : va_G} {ad : Nat → Nat} {ca : Nat → ClassId} {ads : List Nat} (htr : l.stackTraces = false) (C : xk_C D kx_cl (kx_ty ca) (kw_m ad ca) ads "ModuleHouseModel" prog_14_method_60_code 2 none p e s m args meth c) (hne : c.exceptionTable.isEmpty = true) {u' : xk_St} {r : Unit} {u : xk_St} {H : Heap} {locs : List Loc} {ls : Array Slot} (h : jb_Model_take_20   u = some (r, u')) (hP : va_P D kx_cl (kw_m ad ca u) H) (hS : va_S (xk_A ads s.heap.size) s.heap H locs) (hl : lv_has ls 2 []) : W p l e rm_Model_take s m args below meth c H locs 0 0 (xk_MQ below (xk_Qc D kx_cl (kw_m ad ca) ads (xo_v (.inl r)) u') args s (xk_A ads s.heap.size)) (F0 m 20 ls [.ref (ad 0)]) := by
  have hx := C.1.1
  have hb := C.1.2.1
  have hok := C.2.2.1
  unfold jb_Model_take_20 at h
  refine lv_iconst (v := 1) hx hb dd_Model_take_20 (by decide) ?_
  refine lv_goto (tgt := 25) hx hb dd_Model_take_21 (by decide) ?_
  refine pf_m_Model_0_wrong C hP hS (by decide) dd_Model_take_25 (fun H locs hP hS => ?_)
  obtain ⟨u5, eu5, h⟩ := xp_let h
  rw [← eu5] at hP
  obtain ⟨rfl, rfl⟩ := xp_r h
  exact xr_vret C hP hS dd_Model_take_28
set_option maxHeartbeats 4000000 in
set_option maxRecDepth 100000 in
theorem ct_Model_take {l : Launch} {D : va_G} {ad : Nat → Nat} {ca : Nat → ClassId} {ads : List Nat} (htr : l.stackTraces = false) (hok : xk_ok (kw_m ad ca) ads) {x0 : Int32} {u u' : xk_St} {r : Unit} (h : fm_Model_take x0 u = some (r, u')) :
    ∀ sz, xk_Met l ⟨"ModuleHouseModel", "take", "(I)V"⟩ (Cond.code ⟨"ModuleHouseModel", "take", "(I)V"⟩ prog_14_method_60_code 2 none :: xk_gd) rm_Model_take (xk_Pc D kx_cl (kx_ty ca) (kw_m ad ca) ads xk_F sz [.ref (ad 0), .int x0] u) (xk_Qc D kx_cl (kw_m ad ca) ads (xo_v (.inl r)) u') (xk_A ads sz) := by
  unfold fm_Model_take at h
  refine xk_con (by decide) htr hok (Nat.le_of_ble_eq_true rfl) (fun p e s m below meth c ls C hne hl hP => ?_)
  have hx := C.1.1
  have hb := C.1.2.1
  have hS : va_S (xk_A ads s.heap.size) s.heap s.heap [] := va_S.rf
  have hl : lv_has ls 2 [(0, .ref (ad 0)), (1, .int x0)] := hl
  refine lv_aload_n hx hb dd_Model_take_0 rfl (lv_at hl 0 rfl) ?_
  refine lv_aload_n hx hb dd_Model_take_1 rfl (lv_at hl 0 rfl) ?_
  refine lv_aload_n hx hb dd_Model_take_2 rfl (lv_at hl 0 rfl) ?_
  obtain ⟨a1, u2, hq, h⟩ := xp_seq h
  refine xk_goesI (xr_V (As := []) (rest := [.ref (ad 0), .ref (ad 0)]) C hP hS (ct_Model_pop htr hok hq) kq_Model_493 0 11 rfl rfl ⟨rfl, rfl, Nat.le_of_ble_eq_true rfl, Nat.le_of_ble_eq_true rfl⟩ ⟨Nat.le_of_ble_eq_true rfl, Nat.le_of_ble_eq_true rfl⟩ hl.1 rfl rfl (Nat.le_of_ble_eq_true rfl) dd_Model_take_3) hS (fun H locs hP hS => ?_)
  clear hq
  refine lv_iload_n hx hb dd_Model_take_6 rfl (lv_at hl 1 rfl) ?_
  obtain ⟨a3, u4, hq, h⟩ := xp_seq h
  refine xk_goesI (xr_V (As := [.int a1, .int x0]) (rest := [.ref (ad 0)]) C hP hS (ct_Model_fits htr hok hq) kq_Model_469 0 11 rfl rfl ⟨rfl, rfl, Nat.le_of_ble_eq_true rfl, Nat.le_of_ble_eq_true rfl⟩ ⟨Nat.le_of_ble_eq_true rfl, Nat.le_of_ble_eq_true rfl⟩ hl.1 rfl rfl (Nat.le_of_ble_eq_true rfl) dd_Model_take_7) hS (fun H locs hP hS => ?_)
  clear hq
  refine lv_if_eq (tgt := 20) hx hb dd_Model_take_10 (by decide) (fun hc => ?_) (fun hc => ?_)
  · have h := xp_t hc h
    exact wj_Model_take_20 htr C hne h hP hS (lv_sub hl [] rfl)
  · have h := xp_f hc h
    refine lv_aload_n hx hb dd_Model_take_13 rfl (lv_at hl 0 rfl) ?_
    refine gf_m_Model_0_wrong C hP dd_Model_take_14 ?_
    refine lv_if_eq (tgt := 24) hx hb dd_Model_take_17 (by decide) (fun hc => ?_) (fun hc => ?_)
    · have h := xp_t hc h
      refine lv_iconst (v := 0) hx hb dd_Model_take_24 (by decide) ?_
      refine pf_m_Model_0_wrong C hP hS (by decide) dd_Model_take_25 (fun H locs hP hS => ?_)
      obtain ⟨u6, eu6, h⟩ := xp_let h
      rw [← eu6] at hP
      obtain ⟨rfl, rfl⟩ := xp_r h
      exact xr_vret C hP hS dd_Model_take_28
    · have h := xp_f hc h
      exact wj_Model_take_20 htr C hne h hP hS (lv_sub hl [] rfl)
abbrev rm_Model_push : Room := { frames := 1, cells := 1, slots := 6, locals := 0 }
noncomputable def fm_Model_push (x0 : Int32) (u : xk_St) : Option (Unit × xk_St) :=
  if (u.1 21) = (100 : Int32) then ((xs_let (xs_I u 7 (1 : Int32)) fun u3 => some ((()), u3))) else ((if (u.1 21) < 0 ∨ 101 ≤ (u.1 21).toNatClampNeg then none else xs_let (xs_A u 22 (u.1 21).toNatClampNeg x0) fun u1 => xs_let (xs_I u1 21 ((u1.1 21) + (1 : Int32))) fun u2 => some ((()), u2)))
set_option maxHeartbeats 4000000 in
set_option maxRecDepth 100000 in
theorem ct_Model_push {l : Launch} {D : va_G} {ad : Nat → Nat} {ca : Nat → ClassId} {ads : List Nat} (htr : l.stackTraces = false) (hok : xk_ok (kw_m ad ca) ads) {x0 : Int32} {u u' : xk_St} {r : Unit} (h : fm_Model_push x0 u = some (r, u')) :
    ∀ sz, xk_Met l ⟨"ModuleHouseModel", "push", "(I)V"⟩ (Cond.code ⟨"ModuleHouseModel", "push", "(I)V"⟩ prog_14_method_58_code 2 none :: xk_gd) rm_Model_push (xk_Pc D kx_cl (kx_ty ca) (kw_m ad ca) ads xk_F sz [.ref (ad 0), .int x0] u) (xk_Qc D kx_cl (kw_m ad ca) ads (xo_v (.inl r)) u') (xk_A ads sz) := by
  unfold fm_Model_push at h
  refine xk_con (by decide) htr hok (Nat.le_of_ble_eq_true rfl) (fun p e s m below meth c ls C hne hl hP => ?_)
  have hx := C.1.1
  have hb := C.1.2.1
  have hS : va_S (xk_A ads s.heap.size) s.heap s.heap [] := va_S.rf
  have hl : lv_has ls 2 [(0, .ref (ad 0)), (1, .int x0)] := hl
  refine lv_aload_n hx hb dd_Model_push_0 rfl (lv_at hl 0 rfl) ?_
  refine gf_m_Model_0_high C hP dd_Model_push_1 ?_
  refine lv_bipush (v := 100) hx hb dd_Model_push_4 (by decide) ?_
  refine lv_icmp_ne (tgt := 15) hx hb dd_Model_push_6 (by decide) (fun hc => ?_) (fun hc => ?_)
  · have h := xp_f hc h
    refine lv_aload_n hx hb dd_Model_push_15 rfl (lv_at hl 0 rfl) ?_
    refine gf_m_Model_0_stack C hP dd_Model_push_16 ?_
    refine lv_aload_n hx hb dd_Model_push_19 rfl (lv_at hl 0 rfl) ?_
    refine gf_m_Model_0_high C hP dd_Model_push_20 ?_
    refine lv_iload_n hx hb dd_Model_push_23 rfl (lv_at hl 1 rfl) ?_
    obtain ⟨hi, h⟩ := xp_g h
    refine as_m_24 C hP hS hi dd_Model_push_24 (fun H locs hP hS => ?_)
    obtain ⟨u1, eu1, h⟩ := xp_let h
    rw [← eu1] at hP
    refine lv_aload_n hx hb dd_Model_push_25 rfl (lv_at hl 0 rfl) ?_
    refine lv_dup hx hb dd_Model_push_26 rfl ?_
    refine gf_m_Model_0_high C hP dd_Model_push_27 ?_
    refine lv_iconst (v := 1) hx hb dd_Model_push_30 (by decide) ?_
    refine lv_iadd hx hb dd_Model_push_31 ?_
    refine pf_m_Model_0_high C hP hS dd_Model_push_32 (fun H locs hP hS => ?_)
    obtain ⟨u2, eu2, h⟩ := xp_let h
    rw [← eu2] at hP
    obtain ⟨rfl, rfl⟩ := xp_r h
    exact xr_vret C hP hS dd_Model_push_35
  · have h := xp_t hc h
    refine lv_aload_n hx hb dd_Model_push_9 rfl (lv_at hl 0 rfl) ?_
    refine lv_iconst (v := 1) hx hb dd_Model_push_10 (by decide) ?_
    refine pf_m_Model_0_wrong C hP hS (by decide) dd_Model_push_11 (fun H locs hP hS => ?_)
    obtain ⟨u3, eu3, h⟩ := xp_let h
    rw [← eu3] at hP
    obtain ⟨rfl, rfl⟩ := xp_r h
    exact xr_vret C hP hS dd_Model_push_14
