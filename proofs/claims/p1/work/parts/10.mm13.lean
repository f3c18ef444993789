abbrev rm_Model_newArray : Room := { frames := 4, cells := 1, slots := 6, locals := 74 }
noncomputable def jb_Model_newArray_204 (fu : Nat) (b5 : Int64) (u : xk_St) : Option (Unit × xk_St) :=
  (xs_seq (fm_Model_lay b5 (1 : Int32) u) fun _ u7 => some ((()), u7))
noncomputable def jb_Model_newArray_174 (fu : Nat) : Nat → Int32 → Int64 → Int64 → Int32 → Int64 → Int32 → xk_St → Option (Unit × xk_St)
  | 0 => fun _ _ _ _ _ _ _ => none
  | n + 1 => fun b2 b3 b5 b7 b8 b10 u =>
    xs_let (jb_Model_newArray_174 fu  n) fun k174 =>
    if b3 ≤ (b10.toInt64) then (jb_Model_newArray_204 fu b5 u) else ((xs_seq (fm_Model_packed b2 b8 u) fun a10 u11 => if (b7 + b10) < 0 ∨ 2001 ≤ (b7 + b10).toNatClampNeg then none else xs_let (xs_B u11 5 (b7 + b10).toNatClampNeg a10) fun u12 => xs_let (b10 + (1 : Int32)) fun a13 => k174 b2 b3 b5 b7 b8 a13 u12))
noncomputable def jb_Model_newArray_156 (fu : Nat) (b2 : Int32) (b3 : Int64) (b5 : Int64) (b7 : Int32) (u : xk_St) : Option (Unit × xk_St) :=
  if (u.1 9) = (6 : Int32) then ((xs_seq (fm_Model_drop u) fun a8 u9 => jb_Model_newArray_174 fu fu b2 b3 b5 b7 a8 (0 : Int32) u9)) else (jb_Model_newArray_204 fu b5 u)
noncomputable def jb_Model_newArray_107 (fu : Nat) : Nat → Int32 → Int64 → Int64 → Int32 → Int32 → xk_St → Option (Unit × xk_St)
  | 0 => fun _ _ _ _ _ _ => none
  | n + 1 => fun b2 b3 b5 b7 b8 u =>
    xs_let (jb_Model_newArray_107 fu  n) fun k107 =>
    if b3 ≤ (b8.toInt64) then (jb_Model_newArray_156 fu b2 b3 b5 b7 u) else (if (u.1 9) = (8 : Int32) then ((if ((u.1 26) + b8) < 0 ∨ 19000 ≤ ((u.1 26) + b8).toNatClampNeg then none else xs_seq (fm_Model_packed b2 (u.2.2.2 3 ((u.1 26) + b8).toNatClampNeg) u) fun a14 u15 => if (b7 + b8) < 0 ∨ 2001 ≤ (b7 + b8).toNatClampNeg then none else xs_let (xs_B u15 5 (b7 + b8).toNatClampNeg a14) fun u16 => xs_let (b8 + (1 : Int32)) fun a17 => k107 b2 b3 b5 b7 a17 u16)) else (jb_Model_newArray_156 fu b2 b3 b5 b7 u))
noncomputable def jb_Model_newArray_100 (fu : Nat) (b2 : Int32) (b3 : Int64) (b5 : Int64) (b7 : Int32) (s0 : Int32) (s1 : Int32) (u : xk_St) : Option (Unit × xk_St) :=
  (xs_let (xs_I u 26 (s1 - s0)) fun u6 => jb_Model_newArray_107 fu fu b2 b3 b5 b7 (0 : Int32) u6)
noncomputable def jb_Model_newArray_47 (fu : Nat) (b1 : Int32) (b2 : Int32) (s0 : Int64) (u : xk_St) : Option (Unit × xk_St) :=
  (xs_seq (fm_Model_made fu b1 s0 u) fun a3 u4 => if (u4.1 29) = (0 : Int32) then ((if (2 : Int64) = (0 : Int64) then none else if (((a3 / (2 : Int64)).toInt32) - (1 : Int32)) < 0 ∨ 2001 ≤ (((a3 / (2 : Int64)).toInt32) - (1 : Int32)).toNatClampNeg then none else xs_let (u4.2.2.1 37 (((a3 / (2 : Int64)).toInt32) - (1 : Int32)).toNatClampNeg) fun a5 => if (u4.1 9) = (8 : Int32) then (jb_Model_newArray_100 fu b2 s0 a3 a5 (s0.toInt32) (u4.1 26) u4) else (jb_Model_newArray_100 fu b2 s0 a3 a5 (1 : Int32) (u4.1 26) u4))) else (some ((()), u4)))
noncomputable def fm_Model_newArray (fu : Nat) (u : xk_St) : Option (Unit × xk_St) :=
  (xs_let ((u.2.1 0).toInt32) fun a1 => if ((32 : Int32) * a1) < 0 ∨ 2048 ≤ ((32 : Int32) * a1).toNatClampNeg then none else xs_let (u.2.2.1 7 ((32 : Int32) * a1).toNatClampNeg) fun a2 => if (u.1 9) = (8 : Int32) then (jb_Model_newArray_47 fu a1 a2 (u.2.1 1) u) else ((if ((u.1 26) - (1 : Int32)) < 0 ∨ 19000 ≤ ((u.1 26) - (1 : Int32)).toNatClampNeg then none else jb_Model_newArray_47 fu a1 a2 ((u.2.2.2 3 ((u.1 26) - (1 : Int32)).toNatClampNeg) &&& (4294967295 : Int64)) u)))
set_option maxHeartbeats 4000000 in
set_option maxRecDepth 100000 in
theorem wj_Model_newArray_204 {p : Program} {l : Launch} {e : Env} {s : State} {m : MethodId} {args : Array Value} {below : List Frame} {meth : Method} {c : Code} {D : va_G} {ad : Nat → Nat} {ca : Nat → ClassId} {ads : List Nat} {fu : Nat} (htr : l.stackTraces = false) (C : xk_C D kx_cl (kx_ty ca) (kw_m ad ca) ads "ModuleHouseModel" prog_14_method_131_code 11 none p e s m args meth c) (hne : c.exceptionTable.isEmpty = true) {u' : xk_St} {r : Unit} {b5 : Int64} {u : xk_St} {H : Heap} {locs : List Loc} {ls : Array Slot} (h : jb_Model_newArray_204 fu  b5 u = some (r, u')) (hP : va_P D kx_cl (kw_m ad ca u) H) (hS : va_S (xk_A ads s.heap.size) s.heap H locs) (hl : lv_has ls 11 [(0, .ref (ad 0)), (5, .long b5)]) : W p l e rm_Model_newArray s m args below meth c H locs 0 0 (xk_MQ below (xk_Qc D kx_cl (kw_m ad ca) ads (xo_v (.inl r)) u') args s (xk_A ads s.heap.size)) (F0 m 204 ls []) := by
  have hx := C.1.1
  have hb := C.1.2.1
  have hok := C.2.2.1
  unfold jb_Model_newArray_204 at h
  refine lv_aload_n hx hb dd_Model_newArray_204 rfl (lv_at hl 0 rfl) ?_
  refine lv_lload hx hb dd_Model_newArray_205 (lv_at hl 1 rfl) ?_
  refine lv_iconst (v := 1) hx hb dd_Model_newArray_207 (by decide) ?_
  obtain ⟨rx, u7, hq, h⟩ := xp_seq h
  refine xk_goesV (xr_V (As := [.long b5, .int (1 : Int32)]) (rest := []) C hP hS (ct_Model_lay htr hok hq) kq_Model_676 0 11 rfl rfl ⟨rfl, rfl, Nat.le_of_ble_eq_true rfl, Nat.le_of_ble_eq_true rfl⟩ ⟨Nat.le_of_ble_eq_true rfl, Nat.le_of_ble_eq_true rfl⟩ hl.1 rfl rfl (Nat.le_of_ble_eq_true rfl) dd_Model_newArray_208) hS (fun H locs hP hS => ?_)
  clear hq
  obtain ⟨rfl, rfl⟩ := xp_r h
  exact xr_vret C hP hS dd_Model_newArray_211
set_option maxHeartbeats 4000000 in
set_option maxRecDepth 100000 in
theorem wj_Model_newArray_174 {p : Program} {l : Launch} {e : Env} {s : State} {m : MethodId} {args : Array Value} {below : List Frame} {meth : Method} {c : Code} {D : va_G} {ad : Nat → Nat} {ca : Nat → ClassId} {ads : List Nat} {fu : Nat} (htr : l.stackTraces = false) (C : xk_C D kx_cl (kx_ty ca) (kw_m ad ca) ads "ModuleHouseModel" prog_14_method_131_code 11 none p e s m args meth c) (hne : c.exceptionTable.isEmpty = true) {u' : xk_St} {r : Unit} : ∀ {n : Nat} {b2 : Int32} {b3 : Int64} {b5 : Int64} {b7 : Int32} {b8 : Int64} {b10 : Int32} {u : xk_St} {H : Heap} {locs : List Loc} {ls : Array Slot} (h : jb_Model_newArray_174 fu  n b2 b3 b5 b7 b8 b10 u = some (r, u')) (hP : va_P D kx_cl (kw_m ad ca u) H) (hS : va_S (xk_A ads s.heap.size) s.heap H locs) (hl : lv_has ls 11 [(0, .ref (ad 0)), (2, .int b2), (3, .long b3), (5, .long b5), (7, .int b7), (8, .long b8), (10, .int b10)]), W p l e rm_Model_newArray s m args below meth c H locs 0 0 (xk_MQ below (xk_Qc D kx_cl (kw_m ad ca) ads (xo_v (.inl r)) u') args s (xk_A ads s.heap.size)) (F0 m 174 ls []) := by
  intro n
  have hx := C.1.1
  have hb := C.1.2.1
  have hok := C.2.2.1
  induction n with
  | zero =>
    intro _ _ _ _ _ _ u H locs ls h
    have h : none = some (r, u') := h
    cases h
  | succ n ih =>
    intro b2 b3 b5 b7 b8 b10 u H locs ls h hP hS hl
    unfold jb_Model_newArray_174 at h
    obtain ⟨k174, ek174, h⟩ := xp_let h
    have hk174 : ∀ (c0 : Int32) (c1 : Int64) (c2 : Int64) (c3 : Int32) (c4 : Int64) (c5 : Int32) (u : xk_St) (H : Heap) (locs : List Loc) (ls : Array Slot), k174 c0 c1 c2 c3 c4 c5 u = some (r, u') → va_P D kx_cl (kw_m ad ca u) H → va_S (xk_A ads s.heap.size) s.heap H locs → lv_has ls 11 [(0, .ref (ad 0)), (2, .int c0), (3, .long c1), (5, .long c2), (7, .int c3), (8, .long c4), (10, .int c5)] → W p l e rm_Model_newArray s m args below meth c H locs 0 0 (xk_MQ below (xk_Qc D kx_cl (kw_m ad ca) ads (xo_v (.inl r)) u') args s (xk_A ads s.heap.size)) (F0 m 174 ls []) := by
      intro c0 c1 c2 c3 c4 c5 u H locs ls h hP hS hl
      subst ek174
      exact ih h hP hS hl
    clear ih ek174
    refine lv_iload hx hb dd_Model_newArray_174 (lv_at hl 6 rfl) ?_
    refine lv_i2l hx hb dd_Model_newArray_176 rfl ?_
    refine lv_lload_n hx hb dd_Model_newArray_177 rfl (lv_at hl 2 rfl) ?_
    refine xr_lc_ge (tgt := 204) hx hb dd_Model_newArray_178 dd_Model_newArray_179 (by decide) (fun hc => ?_) (fun hc => ?_)
    · have h := xp_t hc h
      exact wj_Model_newArray_204 htr C hne h hP hS (lv_sub hl [0, 3] rfl)
    · have h := xp_f hc h
      refine lv_aload_n hx hb dd_Model_newArray_182 rfl (lv_at hl 0 rfl) ?_
      refine gf_m_Model_0_cells C hP dd_Model_newArray_183 ?_
      refine lv_iload hx hb dd_Model_newArray_186 (lv_at hl 4 rfl) ?_
      refine lv_iload hx hb dd_Model_newArray_188 (lv_at hl 6 rfl) ?_
      refine lv_iadd hx hb dd_Model_newArray_190 ?_
      refine lv_iload_n hx hb dd_Model_newArray_191 rfl (lv_at hl 1 rfl) ?_
      refine lv_lload hx hb dd_Model_newArray_192 (lv_at hl 5 rfl) ?_
      obtain ⟨a10, u11, hq, h⟩ := xp_seq h
      refine xk_goesL (xr_S (As := [.int b2, .long b8]) (rest := [.int (b7 + b10), .ref (ad 43)]) C hP hS (ct_Model_packed htr hok hq) kq_Model_800 ⟨rfl, rfl, Nat.le_of_ble_eq_true rfl, Nat.le_of_ble_eq_true rfl⟩ ⟨Nat.le_of_ble_eq_true rfl, Nat.le_of_ble_eq_true rfl⟩ hl.1 rfl rfl (Nat.le_of_ble_eq_true rfl) dd_Model_newArray_194) hS (fun H locs hP hS => ?_)
      clear hq
      obtain ⟨hi, h⟩ := xp_g h
      refine as_m_43 C hP hS hi dd_Model_newArray_197 (fun H locs hP hS => ?_)
      obtain ⟨u12, eu12, h⟩ := xp_let h
      rw [← eu12] at hP
      obtain ⟨a13, ea13, h⟩ := xp_let h
      refine lv_iinc (v := a13) (lv' := [(10, .int a13), (0, .ref (ad 0)), (2, .int b2), (3, .long b3), (5, .long b5), (7, .int b7), (8, .long b8)]) hx hb dd_Model_newArray_198 hl (k := 6) rfl (by rw [ea13]; first | rfl | decide) (by decide) rfl (fun ls hl => ?_)
      refine lv_goto (tgt := 174) hx hb dd_Model_newArray_201 (by decide) ?_
      exact hk174 b2 b3 b5 b7 b8 a13 u12 _ _ _ h hP hS (lv_sub hl [1, 2, 3, 4, 5, 6, 0] rfl)
set_option maxHeartbeats 4000000 in
set_option maxRecDepth 100000 in
theorem wj_Model_newArray_156 {p : Program} {l : Launch} {e : Env} {s : State} {m : MethodId} {args : Array Value} {below : List Frame} {meth : Method} {c : Code} {D : va_G} {ad : Nat → Nat} {ca : Nat → ClassId} {ads : List Nat} {fu : Nat} (htr : l.stackTraces = false) (C : xk_C D kx_cl (kx_ty ca) (kw_m ad ca) ads "ModuleHouseModel" prog_14_method_131_code 11 none p e s m args meth c) (hne : c.exceptionTable.isEmpty = true) {u' : xk_St} {r : Unit} {b2 : Int32} {b3 : Int64} {b5 : Int64} {b7 : Int32} {u : xk_St} {H : Heap} {locs : List Loc} {ls : Array Slot} (h : jb_Model_newArray_156 fu  b2 b3 b5 b7 u = some (r, u')) (hP : va_P D kx_cl (kw_m ad ca u) H) (hS : va_S (xk_A ads s.heap.size) s.heap H locs) (hl : lv_has ls 11 [(0, .ref (ad 0)), (2, .int b2), (3, .long b3), (5, .long b5), (7, .int b7)]) : W p l e rm_Model_newArray s m args below meth c H locs 0 0 (xk_MQ below (xk_Qc D kx_cl (kw_m ad ca) ads (xo_v (.inl r)) u') args s (xk_A ads s.heap.size)) (F0 m 156 ls []) := by
  have hx := C.1.1
  have hb := C.1.2.1
  have hok := C.2.2.1
  unfold jb_Model_newArray_156 at h
  refine lv_aload_n hx hb dd_Model_newArray_156 rfl (lv_at hl 0 rfl) ?_
  refine gf_m_Model_0_sub C hP dd_Model_newArray_157 ?_
  refine lv_bipush (v := 6) hx hb dd_Model_newArray_160 (by decide) ?_
  refine lv_icmp_ne (tgt := 204) hx hb dd_Model_newArray_162 (by decide) (fun hc => ?_) (fun hc => ?_)
  · have h := xp_f hc h
    exact wj_Model_newArray_204 htr C hne h hP hS (lv_sub hl [0, 3] rfl)
  · have h := xp_t hc h
    refine lv_aload_n hx hb dd_Model_newArray_165 rfl (lv_at hl 0 rfl) ?_
    obtain ⟨a8, u9, hq, h⟩ := xp_seq h
    refine xk_goesL (xr_V (As := []) (rest := []) C hP hS (ct_Model_drop htr hok hq) kq_Model_725 0 11 rfl rfl ⟨rfl, rfl, Nat.le_of_ble_eq_true rfl, Nat.le_of_ble_eq_true rfl⟩ ⟨Nat.le_of_ble_eq_true rfl, Nat.le_of_ble_eq_true rfl⟩ hl.1 rfl rfl (Nat.le_of_ble_eq_true rfl) dd_Model_newArray_166) hS (fun H locs hP hS => ?_)
    clear hq
    refine lv_lstore (lv' := [(8, .long a8), (0, .ref (ad 0)), (2, .int b2), (3, .long b3), (5, .long b5), (7, .int b7)]) hx hb dd_Model_newArray_169 hl (by decide) rfl (fun ls hl => ?_)
    refine lv_iconst (v := 0) hx hb dd_Model_newArray_171 (by decide) ?_
    refine lv_istore (lv' := [(10, .int (0 : Int32)), (8, .long a8), (0, .ref (ad 0)), (2, .int b2), (3, .long b3), (5, .long b5), (7, .int b7)]) hx hb dd_Model_newArray_172 hl (by decide) rfl (fun ls hl => ?_)
    exact wj_Model_newArray_174 htr C hne h hP hS (lv_sub hl [2, 3, 4, 5, 6, 1, 0] rfl)
set_option maxHeartbeats 4000000 in
set_option maxRecDepth 100000 in
theorem wj_Model_newArray_107 {p : Program} {l : Launch} {e : Env} {s : State} {m : MethodId} {args : Array Value} {below : List Frame} {meth : Method} {c : Code} {D : va_G} {ad : Nat → Nat} {ca : Nat → ClassId} {ads : List Nat} {fu : Nat} (htr : l.stackTraces = false) (C : xk_C D kx_cl (kx_ty ca) (kw_m ad ca) ads "ModuleHouseModel" prog_14_method_131_code 11 none p e s m args meth c) (hne : c.exceptionTable.isEmpty = true) {u' : xk_St} {r : Unit} : ∀ {n : Nat} {b2 : Int32} {b3 : Int64} {b5 : Int64} {b7 : Int32} {b8 : Int32} {u : xk_St} {H : Heap} {locs : List Loc} {ls : Array Slot} (h : jb_Model_newArray_107 fu  n b2 b3 b5 b7 b8 u = some (r, u')) (hP : va_P D kx_cl (kw_m ad ca u) H) (hS : va_S (xk_A ads s.heap.size) s.heap H locs) (hl : lv_has ls 11 [(0, .ref (ad 0)), (2, .int b2), (3, .long b3), (5, .long b5), (7, .int b7), (8, .int b8)]), W p l e rm_Model_newArray s m args below meth c H locs 0 0 (xk_MQ below (xk_Qc D kx_cl (kw_m ad ca) ads (xo_v (.inl r)) u') args s (xk_A ads s.heap.size)) (F0 m 107 ls []) := by
  intro n
  have hx := C.1.1
  have hb := C.1.2.1
  have hok := C.2.2.1
  induction n with
  | zero =>
    intro _ _ _ _ _ u H locs ls h
    have h : none = some (r, u') := h
    cases h
  | succ n ih =>
    intro b2 b3 b5 b7 b8 u H locs ls h hP hS hl
    unfold jb_Model_newArray_107 at h
    obtain ⟨k107, ek107, h⟩ := xp_let h
    have hk107 : ∀ (c0 : Int32) (c1 : Int64) (c2 : Int64) (c3 : Int32) (c4 : Int32) (u : xk_St) (H : Heap) (locs : List Loc) (ls : Array Slot), k107 c0 c1 c2 c3 c4 u = some (r, u') → va_P D kx_cl (kw_m ad ca u) H → va_S (xk_A ads s.heap.size) s.heap H locs → lv_has ls 11 [(0, .ref (ad 0)), (2, .int c0), (3, .long c1), (5, .long c2), (7, .int c3), (8, .int c4)] → W p l e rm_Model_newArray s m args below meth c H locs 0 0 (xk_MQ below (xk_Qc D kx_cl (kw_m ad ca) ads (xo_v (.inl r)) u') args s (xk_A ads s.heap.size)) (F0 m 107 ls []) := by
      intro c0 c1 c2 c3 c4 u H locs ls h hP hS hl
      subst ek107
      exact ih h hP hS hl
    clear ih ek107
    refine lv_iload hx hb dd_Model_newArray_107 (lv_at hl 5 rfl) ?_
    refine lv_i2l hx hb dd_Model_newArray_109 rfl ?_
    refine lv_lload_n hx hb dd_Model_newArray_110 rfl (lv_at hl 2 rfl) ?_
    refine xr_lc_ge (tgt := 156) hx hb dd_Model_newArray_111 dd_Model_newArray_112 (by decide) (fun hc => ?_) (fun hc => ?_)
    · have h := xp_t hc h
      exact wj_Model_newArray_156 htr C hne h hP hS (lv_sub hl [0, 1, 2, 3, 4] rfl)
    · have h := xp_f hc h
      refine lv_aload_n hx hb dd_Model_newArray_115 rfl (lv_at hl 0 rfl) ?_
      refine gf_m_Model_0_sub C hP dd_Model_newArray_116 ?_
      refine lv_bipush (v := 8) hx hb dd_Model_newArray_119 (by decide) ?_
      refine lv_icmp_ne (tgt := 156) hx hb dd_Model_newArray_121 (by decide) (fun hc => ?_) (fun hc => ?_)
      · have h := xp_f hc h
        exact wj_Model_newArray_156 htr C hne h hP hS (lv_sub hl [0, 1, 2, 3, 4] rfl)
      · have h := xp_t hc h
        refine lv_aload_n hx hb dd_Model_newArray_124 rfl (lv_at hl 0 rfl) ?_
        refine gf_m_Model_0_cells C hP dd_Model_newArray_125 ?_
        refine lv_iload hx hb dd_Model_newArray_128 (lv_at hl 4 rfl) ?_
        refine lv_iload hx hb dd_Model_newArray_130 (lv_at hl 5 rfl) ?_
        refine lv_iadd hx hb dd_Model_newArray_132 ?_
        refine lv_iload_n hx hb dd_Model_newArray_133 rfl (lv_at hl 1 rfl) ?_
        refine lv_aload_n hx hb dd_Model_newArray_134 rfl (lv_at hl 0 rfl) ?_
        refine gf_m_Model_0_values C hP dd_Model_newArray_135 ?_
        refine lv_aload_n hx hb dd_Model_newArray_138 rfl (lv_at hl 0 rfl) ?_
        refine gf_m_Model_0_top C hP dd_Model_newArray_139 ?_
        refine lv_iload hx hb dd_Model_newArray_142 (lv_at hl 5 rfl) ?_
        refine lv_iadd hx hb dd_Model_newArray_144 ?_
        obtain ⟨hi, h⟩ := xp_g h
        refine al_m_33 C hP hi dd_Model_newArray_145 ?_
        obtain ⟨a14, u15, hq, h⟩ := xp_seq h
        refine xk_goesL (xr_S (As := [.int b2, .long (u.2.2.2 3 ((u.1 26) + b8).toNatClampNeg)]) (rest := [.int (b7 + b8), .ref (ad 43)]) C hP hS (ct_Model_packed htr hok hq) kq_Model_800 ⟨rfl, rfl, Nat.le_of_ble_eq_true rfl, Nat.le_of_ble_eq_true rfl⟩ ⟨Nat.le_of_ble_eq_true rfl, Nat.le_of_ble_eq_true rfl⟩ hl.1 rfl rfl (Nat.le_of_ble_eq_true rfl) dd_Model_newArray_146) hS (fun H locs hP hS => ?_)
        clear hq
        obtain ⟨hi, h⟩ := xp_g h
        refine as_m_43 C hP hS hi dd_Model_newArray_149 (fun H locs hP hS => ?_)
        obtain ⟨u16, eu16, h⟩ := xp_let h
        rw [← eu16] at hP
        obtain ⟨a17, ea17, h⟩ := xp_let h
        refine lv_iinc (v := a17) (lv' := [(8, .int a17), (0, .ref (ad 0)), (2, .int b2), (3, .long b3), (5, .long b5), (7, .int b7)]) hx hb dd_Model_newArray_150 hl (k := 5) rfl (by rw [ea17]; first | rfl | decide) (by decide) rfl (fun ls hl => ?_)
        refine lv_goto (tgt := 107) hx hb dd_Model_newArray_153 (by decide) ?_
        exact hk107 b2 b3 b5 b7 a17 u16 _ _ _ h hP hS (lv_sub hl [1, 2, 3, 4, 5, 0] rfl)
set_option maxHeartbeats 4000000 in
set_option maxRecDepth 100000 in
theorem wj_Model_newArray_100 {p : Program} {l : Launch} {e : Env} {s : State} {m : MethodId} {args : Array Value} {below : List Frame} {meth : Method} {c : Code} {D : va_G} {ad : Nat → Nat} {ca : Nat → ClassId} {ads : List Nat} {fu : Nat} (htr : l.stackTraces = false) (C : xk_C D kx_cl (kx_ty ca) (kw_m ad ca) ads "ModuleHouseModel" prog_14_method_131_code 11 none p e s m args meth c) (hne : c.exceptionTable.isEmpty = true) {u' : xk_St} {r : Unit} {b2 : Int32} {b3 : Int64} {b5 : Int64} {b7 : Int32} {s0 : Int32} {s1 : Int32} {u : xk_St} {H : Heap} {locs : List Loc} {ls : Array Slot} (h : jb_Model_newArray_100 fu  b2 b3 b5 b7 s0 s1 u = some (r, u')) (hP : va_P D kx_cl (kw_m ad ca u) H) (hS : va_S (xk_A ads s.heap.size) s.heap H locs) (hl : lv_has ls 11 [(0, .ref (ad 0)), (2, .int b2), (3, .long b3), (5, .long b5), (7, .int b7)]) : W p l e rm_Model_newArray s m args below meth c H locs 0 0 (xk_MQ below (xk_Qc D kx_cl (kw_m ad ca) ads (xo_v (.inl r)) u') args s (xk_A ads s.heap.size)) (F0 m 100 ls [.int s0, .int s1, .ref (ad 0)]) := by
  have hx := C.1.1
  have hb := C.1.2.1
  have hok := C.2.2.1
  unfold jb_Model_newArray_100 at h
  refine lv_isub hx hb dd_Model_newArray_100 ?_
  refine pf_m_Model_0_top C hP hS dd_Model_newArray_101 (fun H locs hP hS => ?_)
  obtain ⟨u6, eu6, h⟩ := xp_let h
  rw [← eu6] at hP
  refine lv_iconst (v := 0) hx hb dd_Model_newArray_104 (by decide) ?_
  refine lv_istore (lv' := [(8, .int (0 : Int32)), (0, .ref (ad 0)), (2, .int b2), (3, .long b3), (5, .long b5), (7, .int b7)]) hx hb dd_Model_newArray_105 hl (by decide) rfl (fun ls hl => ?_)
  exact wj_Model_newArray_107 htr C hne h hP hS (lv_sub hl [1, 2, 3, 4, 5, 0] rfl)
set_option maxHeartbeats 4000000 in
set_option maxRecDepth 100000 in
theorem wj_Model_newArray_47 {p : Program} {l : Launch} {e : Env} {s : State} {m : MethodId} {args : Array Value} {below : List Frame} {meth : Method} {c : Code} {D : va_G} {ad : Nat → Nat} {ca : Nat → ClassId} {ads : List Nat} {fu : Nat} (htr : l.stackTraces = false) (C : xk_C D kx_cl (kx_ty ca) (kw_m ad ca) ads "ModuleHouseModel" prog_14_method_131_code 11 none p e s m args meth c) (hne : c.exceptionTable.isEmpty = true) {u' : xk_St} {r : Unit} {b1 : Int32} {b2 : Int32} {s0 : Int64} {u : xk_St} {H : Heap} {locs : List Loc} {ls : Array Slot} (h : jb_Model_newArray_47 fu  b1 b2 s0 u = some (r, u')) (hP : va_P D kx_cl (kw_m ad ca u) H) (hS : va_S (xk_A ads s.heap.size) s.heap H locs) (hl : lv_has ls 11 [(0, .ref (ad 0)), (1, .int b1), (2, .int b2)]) : W p l e rm_Model_newArray s m args below meth c H locs 0 0 (xk_MQ below (xk_Qc D kx_cl (kw_m ad ca) ads (xo_v (.inl r)) u') args s (xk_A ads s.heap.size)) (F0 m 47 ls [.long s0]) := by
  have hx := C.1.1
  have hb := C.1.2.1
  have hok := C.2.2.1
  unfold jb_Model_newArray_47 at h
  refine lv_lstore_n (lv' := [(3, .long s0), (0, .ref (ad 0)), (1, .int b1), (2, .int b2)]) hx hb dd_Model_newArray_47 rfl hl (by decide) rfl (fun ls hl => ?_)
  refine lv_aload_n hx hb dd_Model_newArray_48 rfl (lv_at hl 1 rfl) ?_
  refine lv_iload_n hx hb dd_Model_newArray_49 rfl (lv_at hl 2 rfl) ?_
  refine lv_lload_n hx hb dd_Model_newArray_50 rfl (lv_at hl 0 rfl) ?_
  obtain ⟨a3, u4, hq, h⟩ := xp_seq h
  refine xk_goesL (xr_V (As := [.int b1, .long s0]) (rest := []) C hP hS (ct_Model_made htr hok hq) kq_Model_796 0 11 rfl rfl ⟨rfl, rfl, Nat.le_of_ble_eq_true rfl, Nat.le_of_ble_eq_true rfl⟩ ⟨Nat.le_of_ble_eq_true rfl, Nat.le_of_ble_eq_true rfl⟩ hl.1 rfl rfl (Nat.le_of_ble_eq_true rfl) dd_Model_newArray_51) hS (fun H locs hP hS => ?_)
  clear hq
  refine lv_lstore (lv' := [(5, .long a3), (3, .long s0), (0, .ref (ad 0)), (1, .int b1), (2, .int b2)]) hx hb dd_Model_newArray_54 hl (by decide) rfl (fun ls hl => ?_)
  refine lv_aload_n hx hb dd_Model_newArray_56 rfl (lv_at hl 2 rfl) ?_
  refine gf_m_Model_0_trap C hP dd_Model_newArray_57 ?_
  refine lv_if_eq (tgt := 64) hx hb dd_Model_newArray_60 (by decide) (fun hc => ?_) (fun hc => ?_)
  · have h := xp_t hc h
    refine lv_aload_n hx hb dd_Model_newArray_64 rfl (lv_at hl 2 rfl) ?_
    refine gf_m_Model_0_objectAt C hP dd_Model_newArray_65 ?_
    refine lv_lload hx hb dd_Model_newArray_68 (lv_at hl 0 rfl) ?_
    refine lv_ldc2 (v := 2) hx hb C.1.2.2.2.1 (C.1.2.2.2.2 _ (xk_c9 (w := Jvm.Cond.constantLong "ModuleHouseModel" 283 2) 200 rfl rfl)) dd_Model_newArray_70 ?_
    obtain ⟨hz, h⟩ := xp_g h
    refine lv_ldiv hx hb dd_Model_newArray_73 hz ?_
    refine lv_l2i hx hb dd_Model_newArray_74 rfl ?_
    refine lv_iconst (v := 1) hx hb dd_Model_newArray_75 (by decide) ?_
    refine lv_isub hx hb dd_Model_newArray_76 ?_
    obtain ⟨hi, h⟩ := xp_g h
    refine al_m_44 C hP hi dd_Model_newArray_77 ?_
    obtain ⟨a5, ea5, h⟩ := xp_let h
    refine xr_nami ea5 ?_
    refine lv_istore (lv' := [(7, .int a5), (5, .long a3), (3, .long s0), (0, .ref (ad 0)), (1, .int b1), (2, .int b2)]) hx hb dd_Model_newArray_78 hl (by decide) rfl (fun ls hl => ?_)
    refine lv_aload_n hx hb dd_Model_newArray_80 rfl (lv_at hl 3 rfl) ?_
    refine lv_dup hx hb dd_Model_newArray_81 rfl ?_
    refine gf_m_Model_0_top C hP dd_Model_newArray_82 ?_
    refine lv_aload_n hx hb dd_Model_newArray_85 rfl (lv_at hl 3 rfl) ?_
    refine gf_m_Model_0_sub C hP dd_Model_newArray_86 ?_
    refine lv_bipush (v := 8) hx hb dd_Model_newArray_89 (by decide) ?_
    refine lv_icmp_ne (tgt := 99) hx hb dd_Model_newArray_91 (by decide) (fun hc => ?_) (fun hc => ?_)
    · have h := xp_f hc h
      refine lv_iconst (v := 1) hx hb dd_Model_newArray_99 (by decide) ?_
      exact wj_Model_newArray_100 htr C hne h hP hS (lv_sub hl [3, 5, 2, 1, 0] rfl)
    · have h := xp_t hc h
      refine lv_lload_n hx hb dd_Model_newArray_94 rfl (lv_at hl 2 rfl) ?_
      refine lv_l2i hx hb dd_Model_newArray_95 rfl ?_
      refine lv_goto (tgt := 100) hx hb dd_Model_newArray_96 (by decide) ?_
      exact wj_Model_newArray_100 htr C hne h hP hS (lv_sub hl [3, 5, 2, 1, 0] rfl)
  · have h := xp_f hc h
    obtain ⟨rfl, rfl⟩ := xp_r h
    exact xr_vret C hP hS dd_Model_newArray_63
set_option maxHeartbeats 4000000 in
set_option maxRecDepth 100000 in
theorem ct_Model_newArray {l : Launch} {D : va_G} {ad : Nat → Nat} {ca : Nat → ClassId} {ads : List Nat} (htr : l.stackTraces = false) (hok : xk_ok (kw_m ad ca) ads) {fu : Nat} {u u' : xk_St} {r : Unit} (h : fm_Model_newArray fu u = some (r, u')) :
    ∀ sz, xk_Met l ⟨"ModuleHouseModel", "newArray", "()V"⟩ (Cond.code ⟨"ModuleHouseModel", "newArray", "()V"⟩ prog_14_method_131_code 11 none :: xk_gd) rm_Model_newArray (xk_Pc D kx_cl (kx_ty ca) (kw_m ad ca) ads xk_F sz [.ref (ad 0)] u) (xk_Qc D kx_cl (kw_m ad ca) ads (xo_v (.inl r)) u') (xk_A ads sz) := by
  unfold fm_Model_newArray at h
  refine xk_con (by decide) htr hok (Nat.le_of_ble_eq_true rfl) (fun p e s m below meth c ls C hne hl hP => ?_)
  have hx := C.1.1
  have hb := C.1.2.1
  have hS : va_S (xk_A ads s.heap.size) s.heap s.heap [] := va_S.rf
  have hl : lv_has ls 11 [(0, .ref (ad 0))] := hl
  refine lv_aload_n hx hb dd_Model_newArray_0 rfl (lv_at hl 0 rfl) ?_
  refine gf_m_Model_0_x C hP dd_Model_newArray_1 ?_
  refine lv_l2i hx hb dd_Model_newArray_4 rfl ?_
  obtain ⟨a1, ea1, h⟩ := xp_let h
  refine xr_nami ea1 ?_
  refine lv_istore_n (lv' := [(1, .int a1), (0, .ref (ad 0))]) hx hb dd_Model_newArray_5 rfl hl (by decide) rfl (fun ls hl => ?_)
  refine lv_aload_n hx hb dd_Model_newArray_6 rfl (lv_at hl 1 rfl) ?_
  refine gf_m_Model_0_parts C hP dd_Model_newArray_7 ?_
  refine lv_bipush (v := 32) hx hb dd_Model_newArray_10 (by decide) ?_
  refine lv_iload_n hx hb dd_Model_newArray_12 rfl (lv_at hl 0 rfl) ?_
  refine lv_imul hx hb dd_Model_newArray_13 ?_
  obtain ⟨hi, h⟩ := xp_g h
  refine al_m_9 C hP hi dd_Model_newArray_14 ?_
  obtain ⟨a2, ea2, h⟩ := xp_let h
  refine xr_nami ea2 ?_
  refine lv_istore_n (lv' := [(2, .int a2), (1, .int a1), (0, .ref (ad 0))]) hx hb dd_Model_newArray_15 rfl hl (by decide) rfl (fun ls hl => ?_)
  refine lv_aload_n hx hb dd_Model_newArray_16 rfl (lv_at hl 2 rfl) ?_
  refine gf_m_Model_0_sub C hP dd_Model_newArray_17 ?_
  refine lv_bipush (v := 8) hx hb dd_Model_newArray_20 (by decide) ?_
  refine lv_icmp_ne (tgt := 32) hx hb dd_Model_newArray_22 (by decide) (fun hc => ?_) (fun hc => ?_)
  · have h := xp_f hc h
    refine lv_aload_n hx hb dd_Model_newArray_32 rfl (lv_at hl 2 rfl) ?_
    refine gf_m_Model_0_values C hP dd_Model_newArray_33 ?_
    refine lv_aload_n hx hb dd_Model_newArray_36 rfl (lv_at hl 2 rfl) ?_
    refine gf_m_Model_0_top C hP dd_Model_newArray_37 ?_
    refine lv_iconst (v := 1) hx hb dd_Model_newArray_40 (by decide) ?_
    refine lv_isub hx hb dd_Model_newArray_41 ?_
    obtain ⟨hi, h⟩ := xp_g h
    refine al_m_33 C hP hi dd_Model_newArray_42 ?_
    refine lv_ldc2 (v := 4294967295) hx hb C.1.2.2.2.1 (C.1.2.2.2.2 _ (xk_c9 (w := Jvm.Cond.constantLong "ModuleHouseModel" 182 4294967295) 103 rfl rfl)) dd_Model_newArray_43 ?_
    refine lv_land hx hb dd_Model_newArray_46 ?_
    exact wj_Model_newArray_47 htr C hne h hP hS (lv_sub hl [2, 1, 0] rfl)
  · have h := xp_t hc h
    refine lv_aload_n hx hb dd_Model_newArray_25 rfl (lv_at hl 2 rfl) ?_
    refine gf_m_Model_0_y C hP dd_Model_newArray_26 ?_
    refine lv_goto (tgt := 47) hx hb dd_Model_newArray_29 (by decide) ?_
    exact wj_Model_newArray_47 htr C hne h hP hS (lv_sub hl [2, 1, 0] rfl)
abbrev rm_Model_doField : Room := { frames := 3, cells := 1, slots := 6, locals := 48 }
noncomputable def jb_Model_doField_124 (s0 : Int32) (s1 : Int64) (s2 : Int32) (u : xk_St) : Option (Unit × xk_St) :=
  (xs_seq (fm_Model_layPart s2 s1 s0 u) fun _ u5 => some ((()), u5))
noncomputable def jb_Model_doField_36 (b1 : Int32) (s0 : Int64) (u : xk_St) : Option (Unit × xk_St) :=
  (xs_seq (fm_Model_drop u) fun a2 u3 => if a2 = (0 : Int64) then ((xs_let (xs_I u3 29 (8 : Int32)) fun u9 => some ((()), u9))) else ((if (2 : Int64) = (0 : Int64) then none else if (((a2 / (2 : Int64)).toInt32) - (1 : Int32)) < 0 ∨ 2001 ≤ (((a2 / (2 : Int64)).toInt32) - (1 : Int32)).toNatClampNeg then none else xs_let ((u3.2.2.1 37 (((a2 / (2 : Int64)).toInt32) - (1 : Int32)).toNatClampNeg) + ((u3.2.1 1).toInt32)) fun a4 => if (u3.1 9) = (5 : Int32) then ((xs_seq (fm_Model_packed b1 s0 u3) fun a6 u7 => if a4 < 0 ∨ 2001 ≤ a4.toNatClampNeg then none else xs_let (xs_B u7 5 a4.toNatClampNeg a6) fun u8 => some ((()), u8))) else ((if a4 < 0 ∨ 2001 ≤ a4.toNatClampNeg then none else if (u3.1 9) = (3 : Int32) then (jb_Model_doField_124 (1 : Int32) (u3.2.2.2 5 a4.toNatClampNeg) b1 u3) else (jb_Model_doField_124 (0 : Int32) (u3.2.2.2 5 a4.toNatClampNeg) b1 u3))))))
noncomputable def fm_Model_doField (u : xk_St) : Option (Unit × xk_St) :=
  (if (((32 : Int32) * ((u.2.1 0).toInt32)) + ((u.2.1 1).toInt32)) < 0 ∨ 2048 ≤ (((32 : Int32) * ((u.2.1 0).toInt32)) + ((u.2.1 1).toInt32)).toNatClampNeg then none else xs_let (u.2.2.1 7 (((32 : Int32) * ((u.2.1 0).toInt32)) + ((u.2.1 1).toInt32)).toNatClampNeg) fun a1 => if (u.1 9) = (5 : Int32) then ((xs_seq (fm_Model_drop u) fun a10 u11 => jb_Model_doField_36 a1 a10 u11)) else (jb_Model_doField_36 a1 (0 : Int64) u))
set_option maxHeartbeats 4000000 in
set_option maxRecDepth 100000 in
theorem wj_Model_doField_124 {p : Program} {l : Launch} {e : Env} {s : State} {m : MethodId} {args : Array Value} {below : List Frame} {meth : Method} {c : Code} {D : va_G} {ad : Nat → Nat} {ca : Nat → ClassId} {ads : List Nat} (htr : l.stackTraces = false) (C : xk_C D kx_cl (kx_ty ca) (kw_m ad ca) ads "ModuleHouseModel" prog_14_method_130_code 7 none p e s m args meth c) (hne : c.exceptionTable.isEmpty = true) {u' : xk_St} {r : Unit} {s0 : Int32} {s1 : Int64} {s2 : Int32} {u : xk_St} {H : Heap} {locs : List Loc} {ls : Array Slot} (h : jb_Model_doField_124  s0 s1 s2 u = some (r, u')) (hP : va_P D kx_cl (kw_m ad ca u) H) (hS : va_S (xk_A ads s.heap.size) s.heap H locs) (hl : lv_has ls 7 []) : W p l e rm_Model_doField s m args below meth c H locs 0 0 (xk_MQ below (xk_Qc D kx_cl (kw_m ad ca) ads (xo_v (.inl r)) u') args s (xk_A ads s.heap.size)) (F0 m 124 ls [.int s0, .long s1, .int s2, .ref (ad 0)]) := by
  have hx := C.1.1
  have hb := C.1.2.1
  have hok := C.2.2.1
  unfold jb_Model_doField_124 at h
  obtain ⟨rx, u5, hq, h⟩ := xp_seq h
  refine xk_goesV (xr_V (As := [.int s2, .long s1, .int s0]) (rest := []) C hP hS (ct_Model_layPart htr hok hq) kq_Model_803 0 11 rfl rfl ⟨rfl, rfl, Nat.le_of_ble_eq_true rfl, Nat.le_of_ble_eq_true rfl⟩ ⟨Nat.le_of_ble_eq_true rfl, Nat.le_of_ble_eq_true rfl⟩ hl.1 rfl rfl (Nat.le_of_ble_eq_true rfl) dd_Model_doField_124) hS (fun H locs hP hS => ?_)
  clear hq
  obtain ⟨rfl, rfl⟩ := xp_r h
  exact xr_vret C hP hS dd_Model_doField_127
set_option maxHeartbeats 4000000 in
set_option maxRecDepth 100000 in
theorem wj_Model_doField_36 {p : Program} {l : Launch} {e : Env} {s : State} {m : MethodId} {args : Array Value} {below : List Frame} {meth : Method} {c : Code} {D : va_G} {ad : Nat → Nat} {ca : Nat → ClassId} {ads : List Nat} (htr : l.stackTraces = false) (C : xk_C D kx_cl (kx_ty ca) (kw_m ad ca) ads "ModuleHouseModel" prog_14_method_130_code 7 none p e s m args meth c) (hne : c.exceptionTable.isEmpty = true) {u' : xk_St} {r : Unit} {b1 : Int32} {s0 : Int64} {u : xk_St} {H : Heap} {locs : List Loc} {ls : Array Slot} (h : jb_Model_doField_36  b1 s0 u = some (r, u')) (hP : va_P D kx_cl (kw_m ad ca u) H) (hS : va_S (xk_A ads s.heap.size) s.heap H locs) (hl : lv_has ls 7 [(0, .ref (ad 0)), (1, .int b1)]) : W p l e rm_Model_doField s m args below meth c H locs 0 0 (xk_MQ below (xk_Qc D kx_cl (kw_m ad ca) ads (xo_v (.inl r)) u') args s (xk_A ads s.heap.size)) (F0 m 36 ls [.long s0]) := by
  have hx := C.1.1
  have hb := C.1.2.1
  have hok := C.2.2.1
  unfold jb_Model_doField_36 at h
  refine lv_lstore_n (lv' := [(2, .long s0), (0, .ref (ad 0)), (1, .int b1)]) hx hb dd_Model_doField_36 rfl hl (by decide) rfl (fun ls hl => ?_)
  refine lv_aload_n hx hb dd_Model_doField_37 rfl (lv_at hl 1 rfl) ?_
  obtain ⟨a2, u3, hq, h⟩ := xp_seq h
  refine xk_goesL (xr_V (As := []) (rest := []) C hP hS (ct_Model_drop htr hok hq) kq_Model_725 0 11 rfl rfl ⟨rfl, rfl, Nat.le_of_ble_eq_true rfl, Nat.le_of_ble_eq_true rfl⟩ ⟨Nat.le_of_ble_eq_true rfl, Nat.le_of_ble_eq_true rfl⟩ hl.1 rfl rfl (Nat.le_of_ble_eq_true rfl) dd_Model_doField_38) hS (fun H locs hP hS => ?_)
  clear hq
  refine lv_lstore (lv' := [(4, .long a2), (2, .long s0), (0, .ref (ad 0)), (1, .int b1)]) hx hb dd_Model_doField_41 hl (by decide) rfl (fun ls hl => ?_)
  refine lv_lload hx hb dd_Model_doField_43 (lv_at hl 0 rfl) ?_
  refine lv_lconst (v := 0) hx hb dd_Model_doField_45 (by decide) ?_
  refine xr_lc_ne (tgt := 57) hx hb dd_Model_doField_46 dd_Model_doField_47 (by decide) (fun hc => ?_) (fun hc => ?_)
  · have h := xp_f hc h
    refine lv_aload_n hx hb dd_Model_doField_57 rfl (lv_at hl 2 rfl) ?_
    refine gf_m_Model_0_objectAt C hP dd_Model_doField_58 ?_
    refine lv_lload hx hb dd_Model_doField_61 (lv_at hl 0 rfl) ?_
    refine lv_ldc2 (v := 2) hx hb C.1.2.2.2.1 (C.1.2.2.2.2 _ (xk_c9 (w := Jvm.Cond.constantLong "ModuleHouseModel" 283 2) 200 rfl rfl)) dd_Model_doField_63 ?_
    obtain ⟨hz, h⟩ := xp_g h
    refine lv_ldiv hx hb dd_Model_doField_66 hz ?_
    refine lv_l2i hx hb dd_Model_doField_67 rfl ?_
    refine lv_iconst (v := 1) hx hb dd_Model_doField_68 (by decide) ?_
    refine lv_isub hx hb dd_Model_doField_69 ?_
    obtain ⟨hi, h⟩ := xp_g h
    refine al_m_44 C hP hi dd_Model_doField_70 ?_
    refine lv_aload_n hx hb dd_Model_doField_71 rfl (lv_at hl 2 rfl) ?_
    refine gf_m_Model_0_y C hP dd_Model_doField_72 ?_
    refine lv_l2i hx hb dd_Model_doField_75 rfl ?_
    refine lv_iadd hx hb dd_Model_doField_76 ?_
    obtain ⟨a4, ea4, h⟩ := xp_let h
    refine xr_nami ea4 ?_
    refine lv_istore (lv' := [(6, .int a4), (4, .long a2), (2, .long s0), (0, .ref (ad 0)), (1, .int b1)]) hx hb dd_Model_doField_77 hl (by decide) rfl (fun ls hl => ?_)
    refine lv_aload_n hx hb dd_Model_doField_79 rfl (lv_at hl 3 rfl) ?_
    refine gf_m_Model_0_sub C hP dd_Model_doField_80 ?_
    refine lv_iconst (v := 5) hx hb dd_Model_doField_83 (by decide) ?_
    refine lv_icmp_ne (tgt := 102) hx hb dd_Model_doField_84 (by decide) (fun hc => ?_) (fun hc => ?_)
    · have h := xp_f hc h
      refine lv_aload_n hx hb dd_Model_doField_102 rfl (lv_at hl 3 rfl) ?_
      refine lv_iload_n hx hb dd_Model_doField_103 rfl (lv_at hl 4 rfl) ?_
      refine lv_aload_n hx hb dd_Model_doField_104 rfl (lv_at hl 3 rfl) ?_
      refine gf_m_Model_0_cells C hP dd_Model_doField_105 ?_
      refine lv_iload hx hb dd_Model_doField_108 (lv_at hl 0 rfl) ?_
      obtain ⟨hi, h⟩ := xp_g h
      refine al_m_43 C hP hi dd_Model_doField_110 ?_
      refine lv_aload_n hx hb dd_Model_doField_111 rfl (lv_at hl 3 rfl) ?_
      refine gf_m_Model_0_sub C hP dd_Model_doField_112 ?_
      refine lv_iconst (v := 3) hx hb dd_Model_doField_115 (by decide) ?_
      refine lv_icmp_ne (tgt := 123) hx hb dd_Model_doField_116 (by decide) (fun hc => ?_) (fun hc => ?_)
      · have h := xp_f hc h
        refine lv_iconst (v := 0) hx hb dd_Model_doField_123 (by decide) ?_
        exact wj_Model_doField_124 htr C hne h hP hS (lv_sub hl [] rfl)
      · have h := xp_t hc h
        refine lv_iconst (v := 1) hx hb dd_Model_doField_119 (by decide) ?_
        refine lv_goto (tgt := 124) hx hb dd_Model_doField_120 (by decide) ?_
        exact wj_Model_doField_124 htr C hne h hP hS (lv_sub hl [] rfl)
    · have h := xp_t hc h
      refine lv_aload_n hx hb dd_Model_doField_87 rfl (lv_at hl 3 rfl) ?_
      refine gf_m_Model_0_cells C hP dd_Model_doField_88 ?_
      refine lv_iload hx hb dd_Model_doField_91 (lv_at hl 0 rfl) ?_
      refine lv_iload_n hx hb dd_Model_doField_93 rfl (lv_at hl 4 rfl) ?_
      refine lv_lload_n hx hb dd_Model_doField_94 rfl (lv_at hl 2 rfl) ?_
      obtain ⟨a6, u7, hq, h⟩ := xp_seq h
      refine xk_goesL (xr_S (As := [.int b1, .long s0]) (rest := [.int a4, .ref (ad 43)]) C hP hS (ct_Model_packed htr hok hq) kq_Model_800 ⟨rfl, rfl, Nat.le_of_ble_eq_true rfl, Nat.le_of_ble_eq_true rfl⟩ ⟨Nat.le_of_ble_eq_true rfl, Nat.le_of_ble_eq_true rfl⟩ hl.1 rfl rfl (Nat.le_of_ble_eq_true rfl) dd_Model_doField_95) hS (fun H locs hP hS => ?_)
      clear hq
      obtain ⟨hi, h⟩ := xp_g h
      refine as_m_43 C hP hS hi dd_Model_doField_98 (fun H locs hP hS => ?_)
      obtain ⟨u8, eu8, h⟩ := xp_let h
      rw [← eu8] at hP
      refine lv_goto (tgt := 127) hx hb dd_Model_doField_99 (by decide) ?_
      obtain ⟨rfl, rfl⟩ := xp_r h
      exact xr_vret C hP hS dd_Model_doField_127
  · have h := xp_t hc h
    refine lv_aload_n hx hb dd_Model_doField_50 rfl (lv_at hl 2 rfl) ?_
    refine lv_bipush (v := 8) hx hb dd_Model_doField_51 (by decide) ?_
    refine pf_m_Model_0_trap C hP hS dd_Model_doField_53 (fun H locs hP hS => ?_)
    obtain ⟨u9, eu9, h⟩ := xp_let h
    rw [← eu9] at hP
    obtain ⟨rfl, rfl⟩ := xp_r h
    exact xr_vret C hP hS dd_Model_doField_56
set_option maxHeartbeats 4000000 in
set_option maxRecDepth 100000 in
theorem ct_Model_doField {l : Launch} {D : va_G} {ad : Nat → Nat} {ca : Nat → ClassId} {ads : List Nat} (htr : l.stackTraces = false) (hok : xk_ok (kw_m ad ca) ads) {u u' : xk_St} {r : Unit} (h : fm_Model_doField u = some (r, u')) :
    ∀ sz, xk_Met l ⟨"ModuleHouseModel", "doField", "()V"⟩ (Cond.code ⟨"ModuleHouseModel", "doField", "()V"⟩ prog_14_method_130_code 7 none :: xk_gd) rm_Model_doField (xk_Pc D kx_cl (kx_ty ca) (kw_m ad ca) ads xk_F sz [.ref (ad 0)] u) (xk_Qc D kx_cl (kw_m ad ca) ads (xo_v (.inl r)) u') (xk_A ads sz) := by
  unfold fm_Model_doField at h
  refine xk_con (by decide) htr hok (Nat.le_of_ble_eq_true rfl) (fun p e s m below meth c ls C hne hl hP => ?_)
  have hx := C.1.1
  have hb := C.1.2.1
  have hS : va_S (xk_A ads s.heap.size) s.heap s.heap [] := va_S.rf
  have hl : lv_has ls 7 [(0, .ref (ad 0))] := hl
  refine lv_aload_n hx hb dd_Model_doField_0 rfl (lv_at hl 0 rfl) ?_
  refine gf_m_Model_0_parts C hP dd_Model_doField_1 ?_
  refine lv_bipush (v := 32) hx hb dd_Model_doField_4 (by decide) ?_
  refine lv_aload_n hx hb dd_Model_doField_6 rfl (lv_at hl 0 rfl) ?_
  refine gf_m_Model_0_x C hP dd_Model_doField_7 ?_
  refine lv_l2i hx hb dd_Model_doField_10 rfl ?_
  refine lv_imul hx hb dd_Model_doField_11 ?_
  refine lv_aload_n hx hb dd_Model_doField_12 rfl (lv_at hl 0 rfl) ?_
  refine gf_m_Model_0_y C hP dd_Model_doField_13 ?_
  refine lv_l2i hx hb dd_Model_doField_16 rfl ?_
  refine lv_iadd hx hb dd_Model_doField_17 ?_
  obtain ⟨hi, h⟩ := xp_g h
  refine al_m_9 C hP hi dd_Model_doField_18 ?_
  obtain ⟨a1, ea1, h⟩ := xp_let h
  refine xr_nami ea1 ?_
  refine lv_istore_n (lv' := [(1, .int a1), (0, .ref (ad 0))]) hx hb dd_Model_doField_19 rfl hl (by decide) rfl (fun ls hl => ?_)
  refine lv_aload_n hx hb dd_Model_doField_20 rfl (lv_at hl 1 rfl) ?_
  refine gf_m_Model_0_sub C hP dd_Model_doField_21 ?_
  refine lv_iconst (v := 5) hx hb dd_Model_doField_24 (by decide) ?_
  refine lv_icmp_ne (tgt := 35) hx hb dd_Model_doField_25 (by decide) (fun hc => ?_) (fun hc => ?_)
  · have h := xp_f hc h
    refine lv_lconst (v := 0) hx hb dd_Model_doField_35 (by decide) ?_
    exact wj_Model_doField_36 htr C hne h hP hS (lv_sub hl [1, 0] rfl)
  · have h := xp_t hc h
    refine lv_aload_n hx hb dd_Model_doField_28 rfl (lv_at hl 1 rfl) ?_
    obtain ⟨a10, u11, hq, h⟩ := xp_seq h
    refine xk_goesL (xr_V (As := []) (rest := []) C hP hS (ct_Model_drop htr hok hq) kq_Model_725 0 11 rfl rfl ⟨rfl, rfl, Nat.le_of_ble_eq_true rfl, Nat.le_of_ble_eq_true rfl⟩ ⟨Nat.le_of_ble_eq_true rfl, Nat.le_of_ble_eq_true rfl⟩ hl.1 rfl rfl (Nat.le_of_ble_eq_true rfl) dd_Model_doField_29) hS (fun H locs hP hS => ?_)
    clear hq
    refine lv_goto (tgt := 36) hx hb dd_Model_doField_32 (by decide) ?_
    exact wj_Model_doField_36 htr C hne h hP hS (lv_sub hl [1, 0] rfl)
abbrev rm_Model_newStructure : Room := { frames := 4, cells := 1, slots := 6, locals := 74 }
noncomputable def jb_Model_newStructure_113 (fu : Nat) (b3 : Int64) (u : xk_St) : Option (Unit × xk_St) :=
  (xs_seq (fm_Model_lay b3 (1 : Int32) u) fun _ u5 => some ((()), u5))
noncomputable def jb_Model_newStructure_64 (fu : Nat) : Nat → Int32 → Int32 → Int64 → Int32 → Int32 → xk_St → Option (Unit × xk_St)
  | 0 => fun _ _ _ _ _ _ => none
  | n + 1 => fun b1 b2 b3 b5 b6 u =>
    xs_let (jb_Model_newStructure_64 fu  n) fun k64 =>
    if b2 ≤ b6 then (jb_Model_newStructure_113 fu b3 u) else ((if (((32 : Int32) * b1) + b6) < 0 ∨ 2048 ≤ (((32 : Int32) * b1) + b6).toNatClampNeg then none else if ((u.1 26) + b6) < 0 ∨ 19000 ≤ ((u.1 26) + b6).toNatClampNeg then none else xs_seq (fm_Model_packed (u.2.2.1 7 (((32 : Int32) * b1) + b6).toNatClampNeg) (u.2.2.2 3 ((u.1 26) + b6).toNatClampNeg) u) fun a8 u9 => if (b5 + b6) < 0 ∨ 2001 ≤ (b5 + b6).toNatClampNeg then none else xs_let (xs_B u9 5 (b5 + b6).toNatClampNeg a8) fun u10 => xs_let (b6 + (1 : Int32)) fun a11 => k64 b1 b2 b3 b5 a11 u10))
noncomputable def fm_Model_newStructure (fu : Nat) (u : xk_St) : Option (Unit × xk_St) :=
  (xs_let ((u.2.1 0).toInt32) fun a1 => if a1 < 0 ∨ 64 ≤ a1.toNatClampNeg then none else xs_let (u.2.2.1 5 a1.toNatClampNeg) fun a2 => xs_seq (fm_Model_made fu a1 (a2.toInt64) u) fun a3 u4 => if (u4.1 29) = (0 : Int32) then (if (u4.1 9) = (0 : Int32) then ((xs_let (xs_I u4 26 ((u4.1 26) - a2)) fun u6 => if (2 : Int64) = (0 : Int64) then none else if (((a3 / (2 : Int64)).toInt32) - (1 : Int32)) < 0 ∨ 2001 ≤ (((a3 / (2 : Int64)).toInt32) - (1 : Int32)).toNatClampNeg then none else xs_let (u6.2.2.1 37 (((a3 / (2 : Int64)).toInt32) - (1 : Int32)).toNatClampNeg) fun a7 => jb_Model_newStructure_64 fu fu a1 a2 a3 a7 (0 : Int32) u6)) else (jb_Model_newStructure_113 fu a3 u4)) else (some ((()), u4)))
set_option maxHeartbeats 4000000 in
set_option maxRecDepth 100000 in
theorem wj_Model_newStructure_113 {p : Program} {l : Launch} {e : Env} {s : State} {m : MethodId} {args : Array Value} {below : List Frame} {meth : Method} {c : Code} {D : va_G} {ad : Nat → Nat} {ca : Nat → ClassId} {ads : List Nat} {fu : Nat} (htr : l.stackTraces = false) (C : xk_C D kx_cl (kx_ty ca) (kw_m ad ca) ads "ModuleHouseModel" prog_14_method_129_code 7 none p e s m args meth c) (hne : c.exceptionTable.isEmpty = true) {u' : xk_St} {r : Unit} {b3 : Int64} {u : xk_St} {H : Heap} {locs : List Loc} {ls : Array Slot} (h : jb_Model_newStructure_113 fu  b3 u = some (r, u')) (hP : va_P D kx_cl (kw_m ad ca u) H) (hS : va_S (xk_A ads s.heap.size) s.heap H locs) (hl : lv_has ls 7 [(0, .ref (ad 0)), (3, .long b3)]) : W p l e rm_Model_newStructure s m args below meth c H locs 0 0 (xk_MQ below (xk_Qc D kx_cl (kw_m ad ca) ads (xo_v (.inl r)) u') args s (xk_A ads s.heap.size)) (F0 m 113 ls []) := by
  have hx := C.1.1
  have hb := C.1.2.1
  have hok := C.2.2.1
  unfold jb_Model_newStructure_113 at h
  refine lv_aload_n hx hb dd_Model_newStructure_113 rfl (lv_at hl 0 rfl) ?_
  refine lv_lload_n hx hb dd_Model_newStructure_114 rfl (lv_at hl 1 rfl) ?_
  refine lv_iconst (v := 1) hx hb dd_Model_newStructure_115 (by decide) ?_
  obtain ⟨rx, u5, hq, h⟩ := xp_seq h
  refine xk_goesV (xr_V (As := [.long b3, .int (1 : Int32)]) (rest := []) C hP hS (ct_Model_lay htr hok hq) kq_Model_676 0 11 rfl rfl ⟨rfl, rfl, Nat.le_of_ble_eq_true rfl, Nat.le_of_ble_eq_true rfl⟩ ⟨Nat.le_of_ble_eq_true rfl, Nat.le_of_ble_eq_true rfl⟩ hl.1 rfl rfl (Nat.le_of_ble_eq_true rfl) dd_Model_newStructure_116) hS (fun H locs hP hS => ?_)
  clear hq
  obtain ⟨rfl, rfl⟩ := xp_r h
  exact xr_vret C hP hS dd_Model_newStructure_119
set_option maxHeartbeats 4000000 in
set_option maxRecDepth 100000 in
theorem wj_Model_newStructure_64 {p : Program} {l : Launch} {e : Env} {s : State} {m : MethodId} {args : Array Value} {below : List Frame} {meth : Method} {c : Code} {D : va_G} {ad : Nat → Nat} {ca : Nat → ClassId} {ads : List Nat} {fu : Nat} (htr : l.stackTraces = false) (C : xk_C D kx_cl (kx_ty ca) (kw_m ad ca) ads "ModuleHouseModel" prog_14_method_129_code 7 none p e s m args meth c) (hne : c.exceptionTable.isEmpty = true) {u' : xk_St} {r : Unit} : ∀ {n : Nat} {b1 : Int32} {b2 : Int32} {b3 : Int64} {b5 : Int32} {b6 : Int32} {u : xk_St} {H : Heap} {locs : List Loc} {ls : Array Slot} (h : jb_Model_newStructure_64 fu  n b1 b2 b3 b5 b6 u = some (r, u')) (hP : va_P D kx_cl (kw_m ad ca u) H) (hS : va_S (xk_A ads s.heap.size) s.heap H locs) (hl : lv_has ls 7 [(0, .ref (ad 0)), (1, .int b1), (2, .int b2), (3, .long b3), (5, .int b5), (6, .int b6)]), W p l e rm_Model_newStructure s m args below meth c H locs 0 0 (xk_MQ below (xk_Qc D kx_cl (kw_m ad ca) ads (xo_v (.inl r)) u') args s (xk_A ads s.heap.size)) (F0 m 64 ls []) := by
  intro n
  have hx := C.1.1
  have hb := C.1.2.1
  have hok := C.2.2.1
  induction n with
  | zero =>
    intro _ _ _ _ _ u H locs ls h
    have h : none = some (r, u') := h
    cases h
  | succ n ih =>
    intro b1 b2 b3 b5 b6 u H locs ls h hP hS hl
    unfold jb_Model_newStructure_64 at h
    obtain ⟨k64, ek64, h⟩ := xp_let h
    have hk64 : ∀ (c0 : Int32) (c1 : Int32) (c2 : Int64) (c3 : Int32) (c4 : Int32) (u : xk_St) (H : Heap) (locs : List Loc) (ls : Array Slot), k64 c0 c1 c2 c3 c4 u = some (r, u') → va_P D kx_cl (kw_m ad ca u) H → va_S (xk_A ads s.heap.size) s.heap H locs → lv_has ls 7 [(0, .ref (ad 0)), (1, .int c0), (2, .int c1), (3, .long c2), (5, .int c3), (6, .int c4)] → W p l e rm_Model_newStructure s m args below meth c H locs 0 0 (xk_MQ below (xk_Qc D kx_cl (kw_m ad ca) ads (xo_v (.inl r)) u') args s (xk_A ads s.heap.size)) (F0 m 64 ls []) := by
      intro c0 c1 c2 c3 c4 u H locs ls h hP hS hl
      subst ek64
      exact ih h hP hS hl
    clear ih ek64
    refine lv_iload hx hb dd_Model_newStructure_64 (lv_at hl 5 rfl) ?_
    refine lv_iload_n hx hb dd_Model_newStructure_66 rfl (lv_at hl 2 rfl) ?_
    refine lv_icmp_ge (tgt := 113) hx hb dd_Model_newStructure_67 (by decide) (fun hc => ?_) (fun hc => ?_)
    · have h := xp_t hc h
      exact wj_Model_newStructure_113 htr C hne h hP hS (lv_sub hl [0, 3] rfl)
    · have h := xp_f hc h
      refine lv_aload_n hx hb dd_Model_newStructure_70 rfl (lv_at hl 0 rfl) ?_
      refine gf_m_Model_0_cells C hP dd_Model_newStructure_71 ?_
      refine lv_iload hx hb dd_Model_newStructure_74 (lv_at hl 4 rfl) ?_
      refine lv_iload hx hb dd_Model_newStructure_76 (lv_at hl 5 rfl) ?_
      refine lv_iadd hx hb dd_Model_newStructure_78 ?_
      refine lv_aload_n hx hb dd_Model_newStructure_79 rfl (lv_at hl 0 rfl) ?_
      refine gf_m_Model_0_parts C hP dd_Model_newStructure_80 ?_
      refine lv_bipush (v := 32) hx hb dd_Model_newStructure_83 (by decide) ?_
      refine lv_iload_n hx hb dd_Model_newStructure_85 rfl (lv_at hl 1 rfl) ?_
      refine lv_imul hx hb dd_Model_newStructure_86 ?_
      refine lv_iload hx hb dd_Model_newStructure_87 (lv_at hl 5 rfl) ?_
      refine lv_iadd hx hb dd_Model_newStructure_89 ?_
      obtain ⟨hi, h⟩ := xp_g h
      refine al_m_9 C hP hi dd_Model_newStructure_90 ?_
      refine lv_aload_n hx hb dd_Model_newStructure_91 rfl (lv_at hl 0 rfl) ?_
      refine gf_m_Model_0_values C hP dd_Model_newStructure_92 ?_
      refine lv_aload_n hx hb dd_Model_newStructure_95 rfl (lv_at hl 0 rfl) ?_
      refine gf_m_Model_0_top C hP dd_Model_newStructure_96 ?_
      refine lv_iload hx hb dd_Model_newStructure_99 (lv_at hl 5 rfl) ?_
      refine lv_iadd hx hb dd_Model_newStructure_101 ?_
      obtain ⟨hi, h⟩ := xp_g h
      refine al_m_33 C hP hi dd_Model_newStructure_102 ?_
      obtain ⟨a8, u9, hq, h⟩ := xp_seq h
      refine xk_goesL (xr_S (As := [.int (u.2.2.1 7 (((32 : Int32) * b1) + b6).toNatClampNeg), .long (u.2.2.2 3 ((u.1 26) + b6).toNatClampNeg)]) (rest := [.int (b5 + b6), .ref (ad 43)]) C hP hS (ct_Model_packed htr hok hq) kq_Model_800 ⟨rfl, rfl, Nat.le_of_ble_eq_true rfl, Nat.le_of_ble_eq_true rfl⟩ ⟨Nat.le_of_ble_eq_true rfl, Nat.le_of_ble_eq_true rfl⟩ hl.1 rfl rfl (Nat.le_of_ble_eq_true rfl) dd_Model_newStructure_103) hS (fun H locs hP hS => ?_)
      clear hq
      obtain ⟨hi, h⟩ := xp_g h
      refine as_m_43 C hP hS hi dd_Model_newStructure_106 (fun H locs hP hS => ?_)
      obtain ⟨u10, eu10, h⟩ := xp_let h
      rw [← eu10] at hP
      obtain ⟨a11, ea11, h⟩ := xp_let h
      refine lv_iinc (v := a11) (lv' := [(6, .int a11), (0, .ref (ad 0)), (1, .int b1), (2, .int b2), (3, .long b3), (5, .int b5)]) hx hb dd_Model_newStructure_107 hl (k := 5) rfl (by rw [ea11]; first | rfl | decide) (by decide) rfl (fun ls hl => ?_)
      refine lv_goto (tgt := 64) hx hb dd_Model_newStructure_110 (by decide) ?_
      exact hk64 b1 b2 b3 b5 a11 u10 _ _ _ h hP hS (lv_sub hl [1, 2, 3, 4, 5, 0] rfl)
set_option maxHeartbeats 4000000 in
set_option maxRecDepth 100000 in
theorem ct_Model_newStructure {l : Launch} {D : va_G} {ad : Nat → Nat} {ca : Nat → ClassId} {ads : List Nat} (htr : l.stackTraces = false) (hok : xk_ok (kw_m ad ca) ads) {fu : Nat} {u u' : xk_St} {r : Unit} (h : fm_Model_newStructure fu u = some (r, u')) :
    ∀ sz, xk_Met l ⟨"ModuleHouseModel", "newStructure", "()V"⟩ (Cond.code ⟨"ModuleHouseModel", "newStructure", "()V"⟩ prog_14_method_129_code 7 none :: xk_gd) rm_Model_newStructure (xk_Pc D kx_cl (kx_ty ca) (kw_m ad ca) ads xk_F sz [.ref (ad 0)] u) (xk_Qc D kx_cl (kw_m ad ca) ads (xo_v (.inl r)) u') (xk_A ads sz) := by
  unfold fm_Model_newStructure at h
  refine xk_con (by decide) htr hok (Nat.le_of_ble_eq_true rfl) (fun p e s m below meth c ls C hne hl hP => ?_)
  have hx := C.1.1
  have hb := C.1.2.1
  have hS : va_S (xk_A ads s.heap.size) s.heap s.heap [] := va_S.rf
  have hl : lv_has ls 7 [(0, .ref (ad 0))] := hl
  refine lv_aload_n hx hb dd_Model_newStructure_0 rfl (lv_at hl 0 rfl) ?_
  refine gf_m_Model_0_x C hP dd_Model_newStructure_1 ?_
  refine lv_l2i hx hb dd_Model_newStructure_4 rfl ?_
  obtain ⟨a1, ea1, h⟩ := xp_let h
  refine xr_nami ea1 ?_
  refine lv_istore_n (lv' := [(1, .int a1), (0, .ref (ad 0))]) hx hb dd_Model_newStructure_5 rfl hl (by decide) rfl (fun ls hl => ?_)
  refine lv_aload_n hx hb dd_Model_newStructure_6 rfl (lv_at hl 1 rfl) ?_
  refine gf_m_Model_0_partMany C hP dd_Model_newStructure_7 ?_
  refine lv_iload_n hx hb dd_Model_newStructure_10 rfl (lv_at hl 0 rfl) ?_
  obtain ⟨hi, h⟩ := xp_g h
  refine al_m_7 C hP hi dd_Model_newStructure_11 ?_
  obtain ⟨a2, ea2, h⟩ := xp_let h
  refine xr_nami ea2 ?_
  refine lv_istore_n (lv' := [(2, .int a2), (1, .int a1), (0, .ref (ad 0))]) hx hb dd_Model_newStructure_12 rfl hl (by decide) rfl (fun ls hl => ?_)
  refine lv_aload_n hx hb dd_Model_newStructure_13 rfl (lv_at hl 2 rfl) ?_
  refine lv_iload_n hx hb dd_Model_newStructure_14 rfl (lv_at hl 1 rfl) ?_
  refine lv_iload_n hx hb dd_Model_newStructure_15 rfl (lv_at hl 0 rfl) ?_
  refine lv_i2l hx hb dd_Model_newStructure_16 rfl ?_
  obtain ⟨a3, u4, hq, h⟩ := xp_seq h
  refine xk_goesL (xr_V (As := [.int a1, .long (a2.toInt64)]) (rest := []) C hP hS (ct_Model_made htr hok hq) kq_Model_796 0 11 rfl rfl ⟨rfl, rfl, Nat.le_of_ble_eq_true rfl, Nat.le_of_ble_eq_true rfl⟩ ⟨Nat.le_of_ble_eq_true rfl, Nat.le_of_ble_eq_true rfl⟩ hl.1 rfl rfl (Nat.le_of_ble_eq_true rfl) dd_Model_newStructure_17) hS (fun H locs hP hS => ?_)
  clear hq
  refine lv_lstore_n (lv' := [(3, .long a3), (2, .int a2), (1, .int a1), (0, .ref (ad 0))]) hx hb dd_Model_newStructure_20 rfl hl (by decide) rfl (fun ls hl => ?_)
  refine lv_aload_n hx hb dd_Model_newStructure_21 rfl (lv_at hl 3 rfl) ?_
  refine gf_m_Model_0_trap C hP dd_Model_newStructure_22 ?_
  refine lv_if_eq (tgt := 29) hx hb dd_Model_newStructure_25 (by decide) (fun hc => ?_) (fun hc => ?_)
  · have h := xp_t hc h
    refine lv_aload_n hx hb dd_Model_newStructure_29 rfl (lv_at hl 3 rfl) ?_
    refine gf_m_Model_0_sub C hP dd_Model_newStructure_30 ?_
    refine lv_if_ne (tgt := 113) hx hb dd_Model_newStructure_33 (by decide) (fun hc => ?_) (fun hc => ?_)
    · have h := xp_f hc h
      exact wj_Model_newStructure_113 htr C hne h hP hS (lv_sub hl [3, 0] rfl)
    · have h := xp_t hc h
      refine lv_aload_n hx hb dd_Model_newStructure_36 rfl (lv_at hl 3 rfl) ?_
      refine lv_dup hx hb dd_Model_newStructure_37 rfl ?_
      refine gf_m_Model_0_top C hP dd_Model_newStructure_38 ?_
      refine lv_iload_n hx hb dd_Model_newStructure_41 rfl (lv_at hl 1 rfl) ?_
      refine lv_isub hx hb dd_Model_newStructure_42 ?_
      refine pf_m_Model_0_top C hP hS dd_Model_newStructure_43 (fun H locs hP hS => ?_)
      obtain ⟨u6, eu6, h⟩ := xp_let h
      rw [← eu6] at hP
      refine lv_aload_n hx hb dd_Model_newStructure_46 rfl (lv_at hl 3 rfl) ?_
      refine gf_m_Model_0_objectAt C hP dd_Model_newStructure_47 ?_
      refine lv_lload_n hx hb dd_Model_newStructure_50 rfl (lv_at hl 0 rfl) ?_
      refine lv_ldc2 (v := 2) hx hb C.1.2.2.2.1 (C.1.2.2.2.2 _ (xk_c9 (w := Jvm.Cond.constantLong "ModuleHouseModel" 283 2) 200 rfl rfl)) dd_Model_newStructure_51 ?_
      obtain ⟨hz, h⟩ := xp_g h
      refine lv_ldiv hx hb dd_Model_newStructure_54 hz ?_
      refine lv_l2i hx hb dd_Model_newStructure_55 rfl ?_
      refine lv_iconst (v := 1) hx hb dd_Model_newStructure_56 (by decide) ?_
      refine lv_isub hx hb dd_Model_newStructure_57 ?_
      obtain ⟨hi, h⟩ := xp_g h
      refine al_m_44 C hP hi dd_Model_newStructure_58 ?_
      obtain ⟨a7, ea7, h⟩ := xp_let h
      refine xr_nami ea7 ?_
      refine lv_istore (lv' := [(5, .int a7), (3, .long a3), (2, .int a2), (1, .int a1), (0, .ref (ad 0))]) hx hb dd_Model_newStructure_59 hl (by decide) rfl (fun ls hl => ?_)
      refine lv_iconst (v := 0) hx hb dd_Model_newStructure_61 (by decide) ?_
      refine lv_istore (lv' := [(6, .int (0 : Int32)), (5, .int a7), (3, .long a3), (2, .int a2), (1, .int a1), (0, .ref (ad 0))]) hx hb dd_Model_newStructure_62 hl (by decide) rfl (fun ls hl => ?_)
      exact wj_Model_newStructure_64 htr C hne h hP hS (lv_sub hl [5, 4, 3, 2, 1, 0] rfl)
  · have h := xp_f hc h
    obtain ⟨rfl, rfl⟩ := xp_r h
    exact xr_vret C hP hS dd_Model_newStructure_28
abbrev rm_Model_doObjects : Room := { frames := 5, cells := 1, slots := 6, locals := 104 }
noncomputable def jb_Model_doObjects_155 (fu : Nat) (s0 : Int64) (u : xk_St) : Option (Unit × xk_St) :=
  (xs_seq (fm_Model_tell s0 u) fun _ u4 => some ((()), u4))
noncomputable def jb_Model_doObjects_128 (fu : Nat) (b1 : Int64) (s0 : Int32) (u : xk_St) : Option (Unit × xk_St) :=
  (xs_let (xs_I u 29 s0) fun u3 => if (u3.1 9) = (29 : Int32) then ((xs_seq (fm_Model_sx (b1 >>> ((1 : Int32).toInt64 &&& 63)) (31 : Int32) u3) fun a5 u6 => jb_Model_doObjects_155 fu a5 u6)) else (jb_Model_doObjects_155 fu (b1 >>> ((1 : Int32).toInt64 &&& 63)) u3))
noncomputable def fm_Model_doObjects (fu : Nat) (u : xk_St) : Option (Unit × xk_St) :=
  if (2 : Int32) ≤ (u.1 9) then (if (6 : Int32) ≤ (u.1 9) then (if (9 : Int32) ≤ (u.1 9) then (if (17 : Int32) ≤ (u.1 9) then (if (24 : Int32) ≤ (u.1 9) then (if (u.1 9) = (28 : Int32) then ((xs_seq (fm_Model_drop u) fun a7 u8 => xs_seq (fm_Model_lay (((2 : Int64) * (a7 &&& (2147483647 : Int64))) + (1 : Int64)) (1 : Int32) u8) fun _ u9 => some ((()), u9))) else ((xs_seq (fm_Model_drop u) fun a1 u2 => if a1 = (0 : Int64) then (jb_Model_doObjects_128 fu a1 (8 : Int32) u2) else (jb_Model_doObjects_128 fu a1 (0 : Int32) u2)))) else ((xs_seq (fm_Model_doKind u) fun _ u10 => some ((()), u10)))) else ((xs_seq (fm_Model_doArray fu u) fun _ u11 => some ((()), u11)))) else ((xs_seq (fm_Model_newArray fu u) fun _ u12 => some ((()), u12)))) else ((xs_seq (fm_Model_doField u) fun _ u13 => some ((()), u13)))) else ((xs_seq (fm_Model_newStructure fu u) fun _ u14 => some ((()), u14)))
set_option maxHeartbeats 4000000 in
set_option maxRecDepth 100000 in
theorem wj_Model_doObjects_155 {p : Program} {l : Launch} {e : Env} {s : State} {m : MethodId} {args : Array Value} {below : List Frame} {meth : Method} {c : Code} {D : va_G} {ad : Nat → Nat} {ca : Nat → ClassId} {ads : List Nat} {fu : Nat} (htr : l.stackTraces = false) (C : xk_C D kx_cl (kx_ty ca) (kw_m ad ca) ads "ModuleHouseModel" prog_14_method_128_code 3 none p e s m args meth c) (hne : c.exceptionTable.isEmpty = true) {u' : xk_St} {r : Unit} {s0 : Int64} {u : xk_St} {H : Heap} {locs : List Loc} {ls : Array Slot} (h : jb_Model_doObjects_155 fu  s0 u = some (r, u')) (hP : va_P D kx_cl (kw_m ad ca u) H) (hS : va_S (xk_A ads s.heap.size) s.heap H locs) (hl : lv_has ls 3 []) : W p l e rm_Model_doObjects s m args below meth c H locs 0 0 (xk_MQ below (xk_Qc D kx_cl (kw_m ad ca) ads (xo_v (.inl r)) u') args s (xk_A ads s.heap.size)) (F0 m 155 ls [.long s0, .ref (ad 0)]) := by
  have hx := C.1.1
  have hb := C.1.2.1
  have hok := C.2.2.1
  unfold jb_Model_doObjects_155 at h
  obtain ⟨rx, u4, hq, h⟩ := xp_seq h
  refine xk_goesV (xr_V (As := [.long s0]) (rest := []) C hP hS (ct_Model_tell htr hok hq) kq_Model_737 0 11 rfl rfl ⟨rfl, rfl, Nat.le_of_ble_eq_true rfl, Nat.le_of_ble_eq_true rfl⟩ ⟨Nat.le_of_ble_eq_true rfl, Nat.le_of_ble_eq_true rfl⟩ hl.1 rfl rfl (Nat.le_of_ble_eq_true rfl) dd_Model_doObjects_155) hS (fun H locs hP hS => ?_)
  clear hq
  obtain ⟨rfl, rfl⟩ := xp_r h
  exact xr_vret C hP hS dd_Model_doObjects_158
set_option maxHeartbeats 4000000 in
set_option maxRecDepth 100000 in
theorem wj_Model_doObjects_128 {p : Program} {l : Launch} {e : Env} {s : State} {m : MethodId} {args : Array Value} {below : List Frame} {meth : Method} {c : Code} {D : va_G} {ad : Nat → Nat} {ca : Nat → ClassId} {ads : List Nat} {fu : Nat} (htr : l.stackTraces = false) (C : xk_C D kx_cl (kx_ty ca) (kw_m ad ca) ads "ModuleHouseModel" prog_14_method_128_code 3 none p e s m args meth c) (hne : c.exceptionTable.isEmpty = true) {u' : xk_St} {r : Unit} {b1 : Int64} {s0 : Int32} {u : xk_St} {H : Heap} {locs : List Loc} {ls : Array Slot} (h : jb_Model_doObjects_128 fu  b1 s0 u = some (r, u')) (hP : va_P D kx_cl (kw_m ad ca u) H) (hS : va_S (xk_A ads s.heap.size) s.heap H locs) (hl : lv_has ls 3 [(0, .ref (ad 0)), (1, .long b1)]) : W p l e rm_Model_doObjects s m args below meth c H locs 0 0 (xk_MQ below (xk_Qc D kx_cl (kw_m ad ca) ads (xo_v (.inl r)) u') args s (xk_A ads s.heap.size)) (F0 m 128 ls [.int s0, .ref (ad 0)]) := by
  have hx := C.1.1
  have hb := C.1.2.1
  have hok := C.2.2.1
  unfold jb_Model_doObjects_128 at h
  refine pf_m_Model_0_trap C hP hS dd_Model_doObjects_128 (fun H locs hP hS => ?_)
  obtain ⟨u3, eu3, h⟩ := xp_let h
  rw [← eu3] at hP
  refine lv_aload_n hx hb dd_Model_doObjects_131 rfl (lv_at hl 0 rfl) ?_
  refine lv_aload_n hx hb dd_Model_doObjects_132 rfl (lv_at hl 0 rfl) ?_
  refine gf_m_Model_0_sub C hP dd_Model_doObjects_133 ?_
  refine lv_bipush (v := 29) hx hb dd_Model_doObjects_136 (by decide) ?_
  refine lv_icmp_ne (tgt := 152) hx hb dd_Model_doObjects_138 (by decide) (fun hc => ?_) (fun hc => ?_)
  · have h := xp_f hc h
    refine lv_lload_n hx hb dd_Model_doObjects_152 rfl (lv_at hl 1 rfl) ?_
    refine lv_iconst (v := 1) hx hb dd_Model_doObjects_153 (by decide) ?_
    refine lv_lshr hx hb dd_Model_doObjects_154 rfl ?_
    exact wj_Model_doObjects_155 htr C hne h hP hS (lv_sub hl [] rfl)
  · have h := xp_t hc h
    refine lv_lload_n hx hb dd_Model_doObjects_141 rfl (lv_at hl 1 rfl) ?_
    refine lv_iconst (v := 1) hx hb dd_Model_doObjects_142 (by decide) ?_
    refine lv_lshr hx hb dd_Model_doObjects_143 rfl ?_
    refine lv_bipush (v := 31) hx hb dd_Model_doObjects_144 (by decide) ?_
    obtain ⟨a5, u6, hq, h⟩ := xp_seq h
    refine xk_goesL (xr_S (As := [.long (b1 >>> ((1 : Int32).toInt64 &&& 63)), .int (31 : Int32)]) (rest := [.ref (ad 0)]) C hP hS (ct_Model_sx htr hok hq) kq_Model_186 ⟨rfl, rfl, Nat.le_of_ble_eq_true rfl, Nat.le_of_ble_eq_true rfl⟩ ⟨Nat.le_of_ble_eq_true rfl, Nat.le_of_ble_eq_true rfl⟩ hl.1 rfl rfl (Nat.le_of_ble_eq_true rfl) dd_Model_doObjects_146) hS (fun H locs hP hS => ?_)
    clear hq
    refine lv_goto (tgt := 155) hx hb dd_Model_doObjects_149 (by decide) ?_
    exact wj_Model_doObjects_155 htr C hne h hP hS (lv_sub hl [] rfl)
set_option maxHeartbeats 4000000 in
set_option maxRecDepth 100000 in
theorem ct_Model_doObjects {l : Launch} {D : va_G} {ad : Nat → Nat} {ca : Nat → ClassId} {ads : List Nat} (htr : l.stackTraces = false) (hok : xk_ok (kw_m ad ca) ads) {fu : Nat} {u u' : xk_St} {r : Unit} (h : fm_Model_doObjects fu u = some (r, u')) :
    ∀ sz, xk_Met l ⟨"ModuleHouseModel", "doObjects", "()V"⟩ (Cond.code ⟨"ModuleHouseModel", "doObjects", "()V"⟩ prog_14_method_128_code 3 none :: xk_gd) rm_Model_doObjects (xk_Pc D kx_cl (kx_ty ca) (kw_m ad ca) ads xk_F sz [.ref (ad 0)] u) (xk_Qc D kx_cl (kw_m ad ca) ads (xo_v (.inl r)) u') (xk_A ads sz) := by
  unfold fm_Model_doObjects at h
  refine xk_con (by decide) htr hok (Nat.le_of_ble_eq_true rfl) (fun p e s m below meth c ls C hne hl hP => ?_)
  have hx := C.1.1
  have hb := C.1.2.1
  have hS : va_S (xk_A ads s.heap.size) s.heap s.heap [] := va_S.rf
  have hl : lv_has ls 3 [(0, .ref (ad 0))] := hl
  refine lv_aload_n hx hb dd_Model_doObjects_0 rfl (lv_at hl 0 rfl) ?_
  refine gf_m_Model_0_sub C hP dd_Model_doObjects_1 ?_
  refine lv_iconst (v := 2) hx hb dd_Model_doObjects_4 (by decide) ?_
  refine lv_icmp_ge (tgt := 15) hx hb dd_Model_doObjects_5 (by decide) (fun hc => ?_) (fun hc => ?_)
  · have h := xp_t hc h
    refine lv_aload_n hx hb dd_Model_doObjects_15 rfl (lv_at hl 0 rfl) ?_
    refine gf_m_Model_0_sub C hP dd_Model_doObjects_16 ?_
    refine lv_bipush (v := 6) hx hb dd_Model_doObjects_19 (by decide) ?_
    refine lv_icmp_ge (tgt := 31) hx hb dd_Model_doObjects_21 (by decide) (fun hc => ?_) (fun hc => ?_)
    · have h := xp_t hc h
      refine lv_aload_n hx hb dd_Model_doObjects_31 rfl (lv_at hl 0 rfl) ?_
      refine gf_m_Model_0_sub C hP dd_Model_doObjects_32 ?_
      refine lv_bipush (v := 9) hx hb dd_Model_doObjects_35 (by decide) ?_
      refine lv_icmp_ge (tgt := 47) hx hb dd_Model_doObjects_37 (by decide) (fun hc => ?_) (fun hc => ?_)
      · have h := xp_t hc h
        refine lv_aload_n hx hb dd_Model_doObjects_47 rfl (lv_at hl 0 rfl) ?_
        refine gf_m_Model_0_sub C hP dd_Model_doObjects_48 ?_
        refine lv_bipush (v := 17) hx hb dd_Model_doObjects_51 (by decide) ?_
        refine lv_icmp_ge (tgt := 63) hx hb dd_Model_doObjects_53 (by decide) (fun hc => ?_) (fun hc => ?_)
        · have h := xp_t hc h
          refine lv_aload_n hx hb dd_Model_doObjects_63 rfl (lv_at hl 0 rfl) ?_
          refine gf_m_Model_0_sub C hP dd_Model_doObjects_64 ?_
          refine lv_bipush (v := 24) hx hb dd_Model_doObjects_67 (by decide) ?_
          refine lv_icmp_ge (tgt := 79) hx hb dd_Model_doObjects_69 (by decide) (fun hc => ?_) (fun hc => ?_)
          · have h := xp_t hc h
            refine lv_aload_n hx hb dd_Model_doObjects_79 rfl (lv_at hl 0 rfl) ?_
            refine gf_m_Model_0_sub C hP dd_Model_doObjects_80 ?_
            refine lv_bipush (v := 28) hx hb dd_Model_doObjects_83 (by decide) ?_
            refine lv_icmp_ne (tgt := 110) hx hb dd_Model_doObjects_85 (by decide) (fun hc => ?_) (fun hc => ?_)
            · have h := xp_f hc h
              refine lv_aload_n hx hb dd_Model_doObjects_110 rfl (lv_at hl 0 rfl) ?_
              obtain ⟨a1, u2, hq, h⟩ := xp_seq h
              refine xk_goesL (xr_V (As := []) (rest := []) C hP hS (ct_Model_drop htr hok hq) kq_Model_725 0 11 rfl rfl ⟨rfl, rfl, Nat.le_of_ble_eq_true rfl, Nat.le_of_ble_eq_true rfl⟩ ⟨Nat.le_of_ble_eq_true rfl, Nat.le_of_ble_eq_true rfl⟩ hl.1 rfl rfl (Nat.le_of_ble_eq_true rfl) dd_Model_doObjects_111) hS (fun H locs hP hS => ?_)
              clear hq
              refine lv_lstore_n (lv' := [(1, .long a1), (0, .ref (ad 0))]) hx hb dd_Model_doObjects_114 rfl hl (by decide) rfl (fun ls hl => ?_)
              refine lv_aload_n hx hb dd_Model_doObjects_115 rfl (lv_at hl 1 rfl) ?_
              refine lv_lload_n hx hb dd_Model_doObjects_116 rfl (lv_at hl 0 rfl) ?_
              refine lv_lconst (v := 0) hx hb dd_Model_doObjects_117 (by decide) ?_
              refine xr_lc_ne (tgt := 127) hx hb dd_Model_doObjects_118 dd_Model_doObjects_119 (by decide) (fun hc => ?_) (fun hc => ?_)
              · have h := xp_f hc h
                refine lv_iconst (v := 0) hx hb dd_Model_doObjects_127 (by decide) ?_
                exact wj_Model_doObjects_128 htr C hne h hP hS (lv_sub hl [1, 0] rfl)
              · have h := xp_t hc h
                refine lv_bipush (v := 8) hx hb dd_Model_doObjects_122 (by decide) ?_
                refine lv_goto (tgt := 128) hx hb dd_Model_doObjects_124 (by decide) ?_
                exact wj_Model_doObjects_128 htr C hne h hP hS (lv_sub hl [1, 0] rfl)
            · have h := xp_t hc h
              refine lv_aload_n hx hb dd_Model_doObjects_88 rfl (lv_at hl 0 rfl) ?_
              refine lv_ldc2 (v := 2) hx hb C.1.2.2.2.1 (C.1.2.2.2.2 _ (xk_c9 (w := Jvm.Cond.constantLong "ModuleHouseModel" 283 2) 200 rfl rfl)) dd_Model_doObjects_89 ?_
              refine lv_aload_n hx hb dd_Model_doObjects_92 rfl (lv_at hl 0 rfl) ?_
              obtain ⟨a7, u8, hq, h⟩ := xp_seq h
              refine xk_goesL (xr_V (As := []) (rest := [.long (2 : Int64), .ref (ad 0)]) C hP hS (ct_Model_drop htr hok hq) kq_Model_725 0 11 rfl rfl ⟨rfl, rfl, Nat.le_of_ble_eq_true rfl, Nat.le_of_ble_eq_true rfl⟩ ⟨Nat.le_of_ble_eq_true rfl, Nat.le_of_ble_eq_true rfl⟩ hl.1 rfl rfl (Nat.le_of_ble_eq_true rfl) dd_Model_doObjects_93) hS (fun H locs hP hS => ?_)
              clear hq
              refine lv_ldc2 (v := 2147483647) hx hb C.1.2.2.2.1 (C.1.2.2.2.2 _ (xk_c11 (w := Jvm.Cond.constantLong "ModuleHouseModel" 794 2147483647) 172 rfl rfl)) dd_Model_doObjects_96 ?_
              refine lv_land hx hb dd_Model_doObjects_99 ?_
              refine lv_lmul hx hb dd_Model_doObjects_100 ?_
              refine lv_lconst (v := 1) hx hb dd_Model_doObjects_101 (by decide) ?_
              refine lv_ladd hx hb dd_Model_doObjects_102 ?_
              refine lv_iconst (v := 1) hx hb dd_Model_doObjects_103 (by decide) ?_
              obtain ⟨rx, u9, hq, h⟩ := xp_seq h
              refine xk_goesV (xr_V (As := [.long (((2 : Int64) * (a7 &&& (2147483647 : Int64))) + (1 : Int64)), .int (1 : Int32)]) (rest := []) C hP hS (ct_Model_lay htr hok hq) kq_Model_676 0 11 rfl rfl ⟨rfl, rfl, Nat.le_of_ble_eq_true rfl, Nat.le_of_ble_eq_true rfl⟩ ⟨Nat.le_of_ble_eq_true rfl, Nat.le_of_ble_eq_true rfl⟩ hl.1 rfl rfl (Nat.le_of_ble_eq_true rfl) dd_Model_doObjects_104) hS (fun H locs hP hS => ?_)
              clear hq
              refine lv_goto (tgt := 158) hx hb dd_Model_doObjects_107 (by decide) ?_
              obtain ⟨rfl, rfl⟩ := xp_r h
              exact xr_vret C hP hS dd_Model_doObjects_158
          · have h := xp_f hc h
            refine lv_aload_n hx hb dd_Model_doObjects_72 rfl (lv_at hl 0 rfl) ?_
            obtain ⟨rx, u10, hq, h⟩ := xp_seq h
            refine xk_goesV (xr_V (As := []) (rest := []) C hP hS (ct_Model_doKind htr hok hq) kq_Model_791 0 11 rfl rfl ⟨rfl, rfl, Nat.le_of_ble_eq_true rfl, Nat.le_of_ble_eq_true rfl⟩ ⟨Nat.le_of_ble_eq_true rfl, Nat.le_of_ble_eq_true rfl⟩ hl.1 rfl rfl (Nat.le_of_ble_eq_true rfl) dd_Model_doObjects_73) hS (fun H locs hP hS => ?_)
            clear hq
            refine lv_goto (tgt := 158) hx hb dd_Model_doObjects_76 (by decide) ?_
            obtain ⟨rfl, rfl⟩ := xp_r h
            exact xr_vret C hP hS dd_Model_doObjects_158
        · have h := xp_f hc h
          refine lv_aload_n hx hb dd_Model_doObjects_56 rfl (lv_at hl 0 rfl) ?_
          obtain ⟨rx, u11, hq, h⟩ := xp_seq h
          refine xk_goesV (xr_V (As := []) (rest := []) C hP hS (ct_Model_doArray htr hok hq) kq_Model_788 0 11 rfl rfl ⟨rfl, rfl, Nat.le_of_ble_eq_true rfl, Nat.le_of_ble_eq_true rfl⟩ ⟨Nat.le_of_ble_eq_true rfl, Nat.le_of_ble_eq_true rfl⟩ hl.1 rfl rfl (Nat.le_of_ble_eq_true rfl) dd_Model_doObjects_57) hS (fun H locs hP hS => ?_)
          clear hq
          refine lv_goto (tgt := 158) hx hb dd_Model_doObjects_60 (by decide) ?_
          obtain ⟨rfl, rfl⟩ := xp_r h
          exact xr_vret C hP hS dd_Model_doObjects_158
      · have h := xp_f hc h
        refine lv_aload_n hx hb dd_Model_doObjects_40 rfl (lv_at hl 0 rfl) ?_
        obtain ⟨rx, u12, hq, h⟩ := xp_seq h
        refine xk_goesV (xr_V (As := []) (rest := []) C hP hS (ct_Model_newArray htr hok hq) kq_Model_785 0 11 rfl rfl ⟨rfl, rfl, Nat.le_of_ble_eq_true rfl, Nat.le_of_ble_eq_true rfl⟩ ⟨Nat.le_of_ble_eq_true rfl, Nat.le_of_ble_eq_true rfl⟩ hl.1 rfl rfl (Nat.le_of_ble_eq_true rfl) dd_Model_doObjects_41) hS (fun H locs hP hS => ?_)
        clear hq
        refine lv_goto (tgt := 158) hx hb dd_Model_doObjects_44 (by decide) ?_
        obtain ⟨rfl, rfl⟩ := xp_r h
        exact xr_vret C hP hS dd_Model_doObjects_158
    · have h := xp_f hc h
      refine lv_aload_n hx hb dd_Model_doObjects_24 rfl (lv_at hl 0 rfl) ?_
      obtain ⟨rx, u13, hq, h⟩ := xp_seq h
      refine xk_goesV (xr_V (As := []) (rest := []) C hP hS (ct_Model_doField htr hok hq) kq_Model_782 0 11 rfl rfl ⟨rfl, rfl, Nat.le_of_ble_eq_true rfl, Nat.le_of_ble_eq_true rfl⟩ ⟨Nat.le_of_ble_eq_true rfl, Nat.le_of_ble_eq_true rfl⟩ hl.1 rfl rfl (Nat.le_of_ble_eq_true rfl) dd_Model_doObjects_25) hS (fun H locs hP hS => ?_)
      clear hq
      refine lv_goto (tgt := 158) hx hb dd_Model_doObjects_28 (by decide) ?_
      obtain ⟨rfl, rfl⟩ := xp_r h
      exact xr_vret C hP hS dd_Model_doObjects_158
  · have h := xp_f hc h
    refine lv_aload_n hx hb dd_Model_doObjects_8 rfl (lv_at hl 0 rfl) ?_
    obtain ⟨rx, u14, hq, h⟩ := xp_seq h
    refine xk_goesV (xr_V (As := []) (rest := []) C hP hS (ct_Model_newStructure htr hok hq) kq_Model_779 0 11 rfl rfl ⟨rfl, rfl, Nat.le_of_ble_eq_true rfl, Nat.le_of_ble_eq_true rfl⟩ ⟨Nat.le_of_ble_eq_true rfl, Nat.le_of_ble_eq_true rfl⟩ hl.1 rfl rfl (Nat.le_of_ble_eq_true rfl) dd_Model_doObjects_9) hS (fun H locs hP hS => ?_)
    clear hq
    refine lv_goto (tgt := 158) hx hb dd_Model_doObjects_12 (by decide) ?_
    obtain ⟨rfl, rfl⟩ := xp_r h
    exact xr_vret C hP hS dd_Model_doObjects_158
abbrev rm_Model_comeDown : Room := { frames := 1, cells := 1, slots := 6, locals := 0 }
noncomputable def jb_Model_comeDown_10 (fu : Nat) : Nat → Int32 → Int32 → Int32 → Int32 → xk_St → Option (Unit × xk_St)
  | 0 => fun _ _ _ _ _ => none
  | n + 1 => fun b1 b2 b3 b4 u =>
    xs_let (jb_Model_comeDown_10 fu  n) fun k10 =>
    if b1 ≤ b4 then ((xs_let (xs_I u 26 (b2 + b1)) fun u2 => some ((()), u2))) else ((if (b3 + b4) < 0 ∨ 19000 ≤ (b3 + b4).toNatClampNeg then none else if (b2 + b4) < 0 ∨ 19000 ≤ (b2 + b4).toNatClampNeg then none else xs_let (xs_B u 3 (b2 + b4).toNatClampNeg (u.2.2.2 3 (b3 + b4).toNatClampNeg)) fun u3 => if (b3 + b4) < 0 ∨ 19000 ≤ (b3 + b4).toNatClampNeg then none else if (b2 + b4) < 0 ∨ 19000 ≤ (b2 + b4).toNatClampNeg then none else xs_let (xs_A u3 29 (b2 + b4).toNatClampNeg (vp_nar .boolean (u3.2.2.1 29 (b3 + b4).toNatClampNeg))) fun u4 => xs_let (b4 + (1 : Int32)) fun a5 => k10 b1 b2 b3 a5 u4))
noncomputable def fm_Model_comeDown (fu : Nat) (x0 : Int32) (x1 : Int32) (u : xk_St) : Option (Unit × xk_St) :=
  (xs_let ((u.1 26) - x0) fun a1 => jb_Model_comeDown_10 fu fu x0 x1 a1 (0 : Int32) u)
set_option maxHeartbeats 4000000 in
set_option maxRecDepth 100000 in
theorem wj_Model_comeDown_10 {p : Program} {l : Launch} {e : Env} {s : State} {m : MethodId} {args : Array Value} {below : List Frame} {meth : Method} {c : Code} {D : va_G} {ad : Nat → Nat} {ca : Nat → ClassId} {ads : List Nat} {fu : Nat} (htr : l.stackTraces = false) (C : xk_C D kx_cl (kx_ty ca) (kw_m ad ca) ads "ModuleHouseModel" prog_14_method_108_code 5 none p e s m args meth c) (hne : c.exceptionTable.isEmpty = true) {u' : xk_St} {r : Unit} : ∀ {n : Nat} {b1 : Int32} {b2 : Int32} {b3 : Int32} {b4 : Int32} {u : xk_St} {H : Heap} {locs : List Loc} {ls : Array Slot} (h : jb_Model_comeDown_10 fu  n b1 b2 b3 b4 u = some (r, u')) (hP : va_P D kx_cl (kw_m ad ca u) H) (hS : va_S (xk_A ads s.heap.size) s.heap H locs) (hl : lv_has ls 5 [(0, .ref (ad 0)), (1, .int b1), (2, .int b2), (3, .int b3), (4, .int b4)]), W p l e rm_Model_comeDown s m args below meth c H locs 0 0 (xk_MQ below (xk_Qc D kx_cl (kw_m ad ca) ads (xo_v (.inl r)) u') args s (xk_A ads s.heap.size)) (F0 m 10 ls []) := by
  intro n
  have hx := C.1.1
  have hb := C.1.2.1
  have hok := C.2.2.1
  induction n with
  | zero =>
    intro _ _ _ _ u H locs ls h
    have h : none = some (r, u') := h
    cases h
  | succ n ih =>
    intro b1 b2 b3 b4 u H locs ls h hP hS hl
    unfold jb_Model_comeDown_10 at h
    obtain ⟨k10, ek10, h⟩ := xp_let h
    have hk10 : ∀ (c0 : Int32) (c1 : Int32) (c2 : Int32) (c3 : Int32) (u : xk_St) (H : Heap) (locs : List Loc) (ls : Array Slot), k10 c0 c1 c2 c3 u = some (r, u') → va_P D kx_cl (kw_m ad ca u) H → va_S (xk_A ads s.heap.size) s.heap H locs → lv_has ls 5 [(0, .ref (ad 0)), (1, .int c0), (2, .int c1), (3, .int c2), (4, .int c3)] → W p l e rm_Model_comeDown s m args below meth c H locs 0 0 (xk_MQ below (xk_Qc D kx_cl (kw_m ad ca) ads (xo_v (.inl r)) u') args s (xk_A ads s.heap.size)) (F0 m 10 ls []) := by
      intro c0 c1 c2 c3 u H locs ls h hP hS hl
      subst ek10
      exact ih h hP hS hl
    clear ih ek10
    refine lv_iload hx hb dd_Model_comeDown_10 (lv_at hl 4 rfl) ?_
    refine lv_iload_n hx hb dd_Model_comeDown_12 rfl (lv_at hl 1 rfl) ?_
    refine lv_icmp_ge (tgt := 58) hx hb dd_Model_comeDown_13 (by decide) (fun hc => ?_) (fun hc => ?_)
    · have h := xp_t hc h
      refine lv_aload_n hx hb dd_Model_comeDown_58 rfl (lv_at hl 0 rfl) ?_
      refine lv_iload_n hx hb dd_Model_comeDown_59 rfl (lv_at hl 2 rfl) ?_
      refine lv_iload_n hx hb dd_Model_comeDown_60 rfl (lv_at hl 1 rfl) ?_
      refine lv_iadd hx hb dd_Model_comeDown_61 ?_
      refine pf_m_Model_0_top C hP hS dd_Model_comeDown_62 (fun H locs hP hS => ?_)
      obtain ⟨u2, eu2, h⟩ := xp_let h
      rw [← eu2] at hP
      obtain ⟨rfl, rfl⟩ := xp_r h
      exact xr_vret C hP hS dd_Model_comeDown_65
    · have h := xp_f hc h
      refine lv_aload_n hx hb dd_Model_comeDown_16 rfl (lv_at hl 0 rfl) ?_
      refine gf_m_Model_0_values C hP dd_Model_comeDown_17 ?_
      refine lv_iload_n hx hb dd_Model_comeDown_20 rfl (lv_at hl 2 rfl) ?_
      refine lv_iload hx hb dd_Model_comeDown_21 (lv_at hl 4 rfl) ?_
      refine lv_iadd hx hb dd_Model_comeDown_23 ?_
      refine lv_aload_n hx hb dd_Model_comeDown_24 rfl (lv_at hl 0 rfl) ?_
      refine gf_m_Model_0_values C hP dd_Model_comeDown_25 ?_
      refine lv_iload_n hx hb dd_Model_comeDown_28 rfl (lv_at hl 3 rfl) ?_
      refine lv_iload hx hb dd_Model_comeDown_29 (lv_at hl 4 rfl) ?_
      refine lv_iadd hx hb dd_Model_comeDown_31 ?_
      obtain ⟨hi, h⟩ := xp_g h
      refine al_m_33 C hP hi dd_Model_comeDown_32 ?_
      obtain ⟨hi, h⟩ := xp_g h
      refine as_m_33 C hP hS hi dd_Model_comeDown_33 (fun H locs hP hS => ?_)
      obtain ⟨u3, eu3, h⟩ := xp_let h
      rw [← eu3] at hP
      refine lv_aload_n hx hb dd_Model_comeDown_34 rfl (lv_at hl 0 rfl) ?_
      refine gf_m_Model_0_refers C hP dd_Model_comeDown_35 ?_
      refine lv_iload_n hx hb dd_Model_comeDown_38 rfl (lv_at hl 2 rfl) ?_
      refine lv_iload hx hb dd_Model_comeDown_39 (lv_at hl 4 rfl) ?_
      refine lv_iadd hx hb dd_Model_comeDown_41 ?_
      refine lv_aload_n hx hb dd_Model_comeDown_42 rfl (lv_at hl 0 rfl) ?_
      refine gf_m_Model_0_refers C hP dd_Model_comeDown_43 ?_
      refine lv_iload_n hx hb dd_Model_comeDown_46 rfl (lv_at hl 3 rfl) ?_
      refine lv_iload hx hb dd_Model_comeDown_47 (lv_at hl 4 rfl) ?_
      refine lv_iadd hx hb dd_Model_comeDown_49 ?_
      obtain ⟨hi, h⟩ := xp_g h
      refine al_m_34 C hP hi dd_Model_comeDown_50 ?_
      obtain ⟨hi, h⟩ := xp_g h
      refine as_m_34 C hP hS hi dd_Model_comeDown_51 (fun H locs hP hS => ?_)
      obtain ⟨u4, eu4, h⟩ := xp_let h
      rw [← eu4] at hP
      obtain ⟨a5, ea5, h⟩ := xp_let h
      refine lv_iinc (v := a5) (lv' := [(4, .int a5), (0, .ref (ad 0)), (1, .int b1), (2, .int b2), (3, .int b3)]) hx hb dd_Model_comeDown_52 hl (k := 4) rfl (by rw [ea5]; first | rfl | decide) (by decide) rfl (fun ls hl => ?_)
      refine lv_goto (tgt := 10) hx hb dd_Model_comeDown_55 (by decide) ?_
      exact hk10 b1 b2 b3 a5 u4 _ _ _ h hP hS (lv_sub hl [1, 2, 3, 4, 0] rfl)
set_option maxHeartbeats 4000000 in
set_option maxRecDepth 100000 in
theorem ct_Model_comeDown {l : Launch} {D : va_G} {ad : Nat → Nat} {ca : Nat → ClassId} {ads : List Nat} (htr : l.stackTraces = false) (hok : xk_ok (kw_m ad ca) ads) {fu : Nat} {x0 : Int32} {x1 : Int32} {u u' : xk_St} {r : Unit} (h : fm_Model_comeDown fu x0 x1 u = some (r, u')) :
    ∀ sz, xk_Met l ⟨"ModuleHouseModel", "comeDown", "(II)V"⟩ (Cond.code ⟨"ModuleHouseModel", "comeDown", "(II)V"⟩ prog_14_method_108_code 5 none :: xk_gd) rm_Model_comeDown (xk_Pc D kx_cl (kx_ty ca) (kw_m ad ca) ads xk_F sz [.ref (ad 0), .int x0, .int x1] u) (xk_Qc D kx_cl (kw_m ad ca) ads (xo_v (.inl r)) u') (xk_A ads sz) := by
  unfold fm_Model_comeDown at h
  refine xk_con (by decide) htr hok (Nat.le_of_ble_eq_true rfl) (fun p e s m below meth c ls C hne hl hP => ?_)
  have hx := C.1.1
  have hb := C.1.2.1
  have hS : va_S (xk_A ads s.heap.size) s.heap s.heap [] := va_S.rf
  have hl : lv_has ls 5 [(0, .ref (ad 0)), (1, .int x0), (2, .int x1)] := hl
  refine lv_aload_n hx hb dd_Model_comeDown_0 rfl (lv_at hl 0 rfl) ?_
  refine gf_m_Model_0_top C hP dd_Model_comeDown_1 ?_
  refine lv_iload_n hx hb dd_Model_comeDown_4 rfl (lv_at hl 1 rfl) ?_
  refine lv_isub hx hb dd_Model_comeDown_5 ?_
  obtain ⟨a1, ea1, h⟩ := xp_let h
  refine xr_nami ea1 ?_
  refine lv_istore_n (lv' := [(3, .int a1), (0, .ref (ad 0)), (1, .int x0), (2, .int x1)]) hx hb dd_Model_comeDown_6 rfl hl (by decide) rfl (fun ls hl => ?_)
  refine lv_iconst (v := 0) hx hb dd_Model_comeDown_7 (by decide) ?_
  refine lv_istore (lv' := [(4, .int (0 : Int32)), (3, .int a1), (0, .ref (ad 0)), (1, .int x0), (2, .int x1)]) hx hb dd_Model_comeDown_8 hl (by decide) rfl (fun ls hl => ?_)
  exact wj_Model_comeDown_10 htr C hne h hP hS (lv_sub hl [2, 3, 4, 1, 0] rfl)
abbrev rm_Model_leave : Room := { frames := 2, cells := 1, slots := 6, locals := 24 }
noncomputable def fm_Model_leave (fu : Nat) (u : xk_St) : Option (Unit × xk_St) :=
  (xs_let (xs_I u 27 ((u.1 27) - (1 : Int32))) fun u1 => if (u1.1 27) < 0 ∨ 61 ≤ (u1.1 27).toNatClampNeg then none else if (u1.2.2.1 32 (u1.1 27).toNatClampNeg) < 0 ∨ 6200 ≤ (u1.2.2.1 32 (u1.1 27).toNatClampNeg).toNatClampNeg then none else if (u1.1 27) < 0 ∨ 61 ≤ (u1.1 27).toNatClampNeg then none else xs_seq (fm_Model_comeDown fu (u1.2.2.1 34 (u1.2.2.1 32 (u1.1 27).toNatClampNeg).toNatClampNeg) (u1.2.2.1 31 (u1.1 27).toNatClampNeg) u1) fun _ u2 => if (u2.1 27) < 0 ∨ 61 ≤ (u2.1 27).toNatClampNeg then none else xs_let (xs_I u2 28 (u2.2.2.1 32 (u2.1 27).toNatClampNeg)) fun u3 => if (u3.1 27) < 0 ∨ 61 ≤ (u3.1 27).toNatClampNeg then none else xs_let (xs_I u3 4 (u3.2.2.1 30 (u3.1 27).toNatClampNeg)) fun u4 => some ((()), u4))
set_option maxHeartbeats 4000000 in
set_option maxRecDepth 100000 in
theorem ct_Model_leave {l : Launch} {D : va_G} {ad : Nat → Nat} {ca : Nat → ClassId} {ads : List Nat} (htr : l.stackTraces = false) (hok : xk_ok (kw_m ad ca) ads) {fu : Nat} {u u' : xk_St} {r : Unit} (h : fm_Model_leave fu u = some (r, u')) :
    ∀ sz, xk_Met l ⟨"ModuleHouseModel", "leave", "()V"⟩ (Cond.code ⟨"ModuleHouseModel", "leave", "()V"⟩ prog_14_method_109_code 1 none :: xk_gd) rm_Model_leave (xk_Pc D kx_cl (kx_ty ca) (kw_m ad ca) ads xk_F sz [.ref (ad 0)] u) (xk_Qc D kx_cl (kw_m ad ca) ads (xo_v (.inl r)) u') (xk_A ads sz) := by
  unfold fm_Model_leave at h
  refine xk_con (by decide) htr hok (Nat.le_of_ble_eq_true rfl) (fun p e s m below meth c ls C hne hl hP => ?_)
  have hx := C.1.1
  have hb := C.1.2.1
  have hS : va_S (xk_A ads s.heap.size) s.heap s.heap [] := va_S.rf
  have hl : lv_has ls 1 [(0, .ref (ad 0))] := hl
  refine lv_aload_n hx hb dd_Model_leave_0 rfl (lv_at hl 0 rfl) ?_
  refine lv_dup hx hb dd_Model_leave_1 rfl ?_
  refine gf_m_Model_0_calls C hP dd_Model_leave_2 ?_
  refine lv_iconst (v := 1) hx hb dd_Model_leave_5 (by decide) ?_
  refine lv_isub hx hb dd_Model_leave_6 ?_
  refine pf_m_Model_0_calls C hP hS dd_Model_leave_7 (fun H locs hP hS => ?_)
  obtain ⟨u1, eu1, h⟩ := xp_let h
  rw [← eu1] at hP
  refine lv_aload_n hx hb dd_Model_leave_10 rfl (lv_at hl 0 rfl) ?_
  refine lv_aload_n hx hb dd_Model_leave_11 rfl (lv_at hl 0 rfl) ?_
  refine gf_m_Model_0_wayMany C hP dd_Model_leave_12 ?_
  refine lv_aload_n hx hb dd_Model_leave_15 rfl (lv_at hl 0 rfl) ?_
  refine gf_m_Model_0_callWays C hP dd_Model_leave_16 ?_
  refine lv_aload_n hx hb dd_Model_leave_19 rfl (lv_at hl 0 rfl) ?_
  refine gf_m_Model_0_calls C hP dd_Model_leave_20 ?_
  obtain ⟨hi, h⟩ := xp_g h
  refine al_m_37 C hP hi dd_Model_leave_23 ?_
  obtain ⟨hi, h⟩ := xp_g h
  refine al_m_39 C hP hi dd_Model_leave_24 ?_
  refine lv_aload_n hx hb dd_Model_leave_25 rfl (lv_at hl 0 rfl) ?_
  refine gf_m_Model_0_callLocals C hP dd_Model_leave_26 ?_
  refine lv_aload_n hx hb dd_Model_leave_29 rfl (lv_at hl 0 rfl) ?_
  refine gf_m_Model_0_calls C hP dd_Model_leave_30 ?_
  obtain ⟨hi, h⟩ := xp_g h
  refine al_m_36 C hP hi dd_Model_leave_33 ?_
  obtain ⟨rx, u2, hq, h⟩ := xp_seq h
  refine xk_goesV (xr_V (As := [.int (u1.2.2.1 34 (u1.2.2.1 32 (u1.1 27).toNatClampNeg).toNatClampNeg), .int (u1.2.2.1 31 (u1.1 27).toNatClampNeg)]) (rest := []) C hP hS (ct_Model_comeDown htr hok hq) kq_Model_691 0 11 rfl rfl ⟨rfl, rfl, Nat.le_of_ble_eq_true rfl, Nat.le_of_ble_eq_true rfl⟩ ⟨Nat.le_of_ble_eq_true rfl, Nat.le_of_ble_eq_true rfl⟩ hl.1 rfl rfl (Nat.le_of_ble_eq_true rfl) dd_Model_leave_34) hS (fun H locs hP hS => ?_)
  clear hq
  refine lv_aload_n hx hb dd_Model_leave_37 rfl (lv_at hl 0 rfl) ?_
  refine lv_aload_n hx hb dd_Model_leave_38 rfl (lv_at hl 0 rfl) ?_
  refine gf_m_Model_0_callWays C hP dd_Model_leave_39 ?_
  refine lv_aload_n hx hb dd_Model_leave_42 rfl (lv_at hl 0 rfl) ?_
  refine gf_m_Model_0_calls C hP dd_Model_leave_43 ?_
  obtain ⟨hi, h⟩ := xp_g h
  refine al_m_37 C hP hi dd_Model_leave_46 ?_
  refine pf_m_Model_0_ways C hP hS dd_Model_leave_47 (fun H locs hP hS => ?_)
  obtain ⟨u3, eu3, h⟩ := xp_let h
  rw [← eu3] at hP
  refine lv_aload_n hx hb dd_Model_leave_50 rfl (lv_at hl 0 rfl) ?_
  refine lv_aload_n hx hb dd_Model_leave_51 rfl (lv_at hl 0 rfl) ?_
  refine gf_m_Model_0_callBack C hP dd_Model_leave_52 ?_
  refine lv_aload_n hx hb dd_Model_leave_55 rfl (lv_at hl 0 rfl) ?_
  refine gf_m_Model_0_calls C hP dd_Model_leave_56 ?_
  obtain ⟨hi, h⟩ := xp_g h
  refine al_m_35 C hP hi dd_Model_leave_59 ?_
  refine pf_m_Model_0_at C hP hS dd_Model_leave_60 (fun H locs hP hS => ?_)
  obtain ⟨u4, eu4, h⟩ := xp_let h
  rw [← eu4] at hP
  obtain ⟨rfl, rfl⟩ := xp_r h
  exact xr_vret C hP hS dd_Model_leave_63
abbrev rm_Model_goOut : Room := { frames := 3, cells := 1, slots := 6, locals := 44 }
noncomputable def jb_Model_goOut_97 (fu : Nat) (b2 : Int32) (s0 : Int32) (u : xk_St) : Option (Unit × xk_St) :=
  (xs_let (xs_I u 28 s0) fun u3 => if b2 < 0 ∨ 6200 ≤ b2.toNatClampNeg then none else xs_let (xs_I u3 4 (u3.2.2.1 33 b2.toNatClampNeg)) fun u4 => some ((()), u4))
noncomputable def jb_Model_goOut_64 (fu : Nat) (b2 : Int32) (u : xk_St) : Option (Unit × xk_St) :=
  (if b2 < 0 ∨ 6200 ≤ b2.toNatClampNeg then none else if b2 < 0 ∨ 6200 ≤ b2.toNatClampNeg then none else xs_seq (fm_Model_comeDown fu (u.2.2.1 34 b2.toNatClampNeg) (u.2.2.1 35 b2.toNatClampNeg) u) fun _ u2 => if b2 < 0 ∨ 6200 ≤ b2.toNatClampNeg then none else if (u2.2.2.1 36 b2.toNatClampNeg) = (0 : Int32) then (jb_Model_goOut_97 fu b2 b2 u2) else (jb_Model_goOut_97 fu b2 (b2 + (1 : Int32)) u2))
noncomputable def fm_Model_goOut (fu : Nat) (x0 : Int32) (u : xk_St) : Option (Unit × xk_St) :=
  (xs_let (((u.1 28) - (1 : Int32)) - x0) fun a1 => if ((u.1 27) - (1 : Int32)) < 0 ∨ 61 ≤ ((u.1 27) - (1 : Int32)).toNatClampNeg then none else if a1 = (u.2.2.1 32 ((u.1 27) - (1 : Int32)).toNatClampNeg) then ((xs_seq (fm_Model_leave fu u) fun _ u7 => some ((()), u7))) else ((if a1 < 0 ∨ 6200 ≤ a1.toNatClampNeg then none else if (u.2.2.1 36 a1.toNatClampNeg) = (0 : Int32) then (jb_Model_goOut_64 fu a1 u) else (if (u.2.1 2) = (0 : Int64) then ((xs_let (xs_I u 29 (13 : Int32)) fun u6 => some ((()), u6))) else ((xs_let (xs_J u 2 ((u.2.1 2) - (1 : Int64))) fun u5 => jb_Model_goOut_64 fu a1 u5))))))
set_option maxHeartbeats 4000000 in
set_option maxRecDepth 100000 in
theorem wj_Model_goOut_97 {p : Program} {l : Launch} {e : Env} {s : State} {m : MethodId} {args : Array Value} {below : List Frame} {meth : Method} {c : Code} {D : va_G} {ad : Nat → Nat} {ca : Nat → ClassId} {ads : List Nat} {fu : Nat} (htr : l.stackTraces = false) (C : xk_C D kx_cl (kx_ty ca) (kw_m ad ca) ads "ModuleHouseModel" prog_14_method_110_code 3 none p e s m args meth c) (hne : c.exceptionTable.isEmpty = true) {u' : xk_St} {r : Unit} {b2 : Int32} {s0 : Int32} {u : xk_St} {H : Heap} {locs : List Loc} {ls : Array Slot} (h : jb_Model_goOut_97 fu  b2 s0 u = some (r, u')) (hP : va_P D kx_cl (kw_m ad ca u) H) (hS : va_S (xk_A ads s.heap.size) s.heap H locs) (hl : lv_has ls 3 [(0, .ref (ad 0)), (2, .int b2)]) : W p l e rm_Model_goOut s m args below meth c H locs 0 0 (xk_MQ below (xk_Qc D kx_cl (kw_m ad ca) ads (xo_v (.inl r)) u') args s (xk_A ads s.heap.size)) (F0 m 97 ls [.int s0, .ref (ad 0)]) := by
  have hx := C.1.1
  have hb := C.1.2.1
  have hok := C.2.2.1
  unfold jb_Model_goOut_97 at h
  refine pf_m_Model_0_ways C hP hS dd_Model_goOut_97 (fun H locs hP hS => ?_)
  obtain ⟨u3, eu3, h⟩ := xp_let h
  rw [← eu3] at hP
  refine lv_aload_n hx hb dd_Model_goOut_100 rfl (lv_at hl 0 rfl) ?_
  refine lv_aload_n hx hb dd_Model_goOut_101 rfl (lv_at hl 0 rfl) ?_
  refine gf_m_Model_0_wayAt C hP dd_Model_goOut_102 ?_
  refine lv_iload_n hx hb dd_Model_goOut_105 rfl (lv_at hl 1 rfl) ?_
  obtain ⟨hi, h⟩ := xp_g h
  refine al_m_38 C hP hi dd_Model_goOut_106 ?_
  refine pf_m_Model_0_at C hP hS dd_Model_goOut_107 (fun H locs hP hS => ?_)
  obtain ⟨u4, eu4, h⟩ := xp_let h
  rw [← eu4] at hP
  obtain ⟨rfl, rfl⟩ := xp_r h
  exact xr_vret C hP hS dd_Model_goOut_110
set_option maxHeartbeats 4000000 in
set_option maxRecDepth 100000 in
theorem wj_Model_goOut_64 {p : Program} {l : Launch} {e : Env} {s : State} {m : MethodId} {args : Array Value} {below : List Frame} {meth : Method} {c : Code} {D : va_G} {ad : Nat → Nat} {ca : Nat → ClassId} {ads : List Nat} {fu : Nat} (htr : l.stackTraces = false) (C : xk_C D kx_cl (kx_ty ca) (kw_m ad ca) ads "ModuleHouseModel" prog_14_method_110_code 3 none p e s m args meth c) (hne : c.exceptionTable.isEmpty = true) {u' : xk_St} {r : Unit} {b2 : Int32} {u : xk_St} {H : Heap} {locs : List Loc} {ls : Array Slot} (h : jb_Model_goOut_64 fu  b2 u = some (r, u')) (hP : va_P D kx_cl (kw_m ad ca u) H) (hS : va_S (xk_A ads s.heap.size) s.heap H locs) (hl : lv_has ls 3 [(0, .ref (ad 0)), (2, .int b2)]) : W p l e rm_Model_goOut s m args below meth c H locs 0 0 (xk_MQ below (xk_Qc D kx_cl (kw_m ad ca) ads (xo_v (.inl r)) u') args s (xk_A ads s.heap.size)) (F0 m 64 ls []) := by
  have hx := C.1.1
  have hb := C.1.2.1
  have hok := C.2.2.1
  unfold jb_Model_goOut_64 at h
  refine lv_aload_n hx hb dd_Model_goOut_64 rfl (lv_at hl 0 rfl) ?_
  refine lv_aload_n hx hb dd_Model_goOut_65 rfl (lv_at hl 0 rfl) ?_
  refine gf_m_Model_0_wayMany C hP dd_Model_goOut_66 ?_
  refine lv_iload_n hx hb dd_Model_goOut_69 rfl (lv_at hl 1 rfl) ?_
  obtain ⟨hi, h⟩ := xp_g h
  refine al_m_39 C hP hi dd_Model_goOut_70 ?_
  refine lv_aload_n hx hb dd_Model_goOut_71 rfl (lv_at hl 0 rfl) ?_
  refine gf_m_Model_0_wayHigh C hP dd_Model_goOut_72 ?_
  refine lv_iload_n hx hb dd_Model_goOut_75 rfl (lv_at hl 1 rfl) ?_
  obtain ⟨hi, h⟩ := xp_g h
  refine al_m_40 C hP hi dd_Model_goOut_76 ?_
  obtain ⟨rx, u2, hq, h⟩ := xp_seq h
  refine xk_goesV (xr_V (As := [.int (u.2.2.1 34 b2.toNatClampNeg), .int (u.2.2.1 35 b2.toNatClampNeg)]) (rest := []) C hP hS (ct_Model_comeDown htr hok hq) kq_Model_691 0 11 rfl rfl ⟨rfl, rfl, Nat.le_of_ble_eq_true rfl, Nat.le_of_ble_eq_true rfl⟩ ⟨Nat.le_of_ble_eq_true rfl, Nat.le_of_ble_eq_true rfl⟩ hl.1 rfl rfl (Nat.le_of_ble_eq_true rfl) dd_Model_goOut_77) hS (fun H locs hP hS => ?_)
  clear hq
  refine lv_aload_n hx hb dd_Model_goOut_80 rfl (lv_at hl 0 rfl) ?_
  refine lv_aload_n hx hb dd_Model_goOut_81 rfl (lv_at hl 0 rfl) ?_
  refine gf_m_Model_0_wayLoops C hP dd_Model_goOut_82 ?_
  refine lv_iload_n hx hb dd_Model_goOut_85 rfl (lv_at hl 1 rfl) ?_
  obtain ⟨hi, h⟩ := xp_g h
  refine al_m_41 C hP hi dd_Model_goOut_86 ?_
  refine lv_if_eq (tgt := 96) hx hb dd_Model_goOut_87 (by decide) (fun hc => ?_) (fun hc => ?_)
  · have h := xp_t hc h
    refine lv_iload_n hx hb dd_Model_goOut_96 rfl (lv_at hl 1 rfl) ?_
    exact wj_Model_goOut_97 htr C hne h hP hS (lv_sub hl [0, 1] rfl)
  · have h := xp_f hc h
    refine lv_iload_n hx hb dd_Model_goOut_90 rfl (lv_at hl 1 rfl) ?_
    refine lv_iconst (v := 1) hx hb dd_Model_goOut_91 (by decide) ?_
    refine lv_iadd hx hb dd_Model_goOut_92 ?_
    refine lv_goto (tgt := 97) hx hb dd_Model_goOut_93 (by decide) ?_
    exact wj_Model_goOut_97 htr C hne h hP hS (lv_sub hl [0, 1] rfl)
set_option maxHeartbeats 4000000 in
set_option maxRecDepth 100000 in
theorem ct_Model_goOut {l : Launch} {D : va_G} {ad : Nat → Nat} {ca : Nat → ClassId} {ads : List Nat} (htr : l.stackTraces = false) (hok : xk_ok (kw_m ad ca) ads) {fu : Nat} {x0 : Int32} {u u' : xk_St} {r : Unit} (h : fm_Model_goOut fu x0 u = some (r, u')) :
    ∀ sz, xk_Met l ⟨"ModuleHouseModel", "goOut", "(I)V"⟩ (Cond.code ⟨"ModuleHouseModel", "goOut", "(I)V"⟩ prog_14_method_110_code 3 none :: xk_gd) rm_Model_goOut (xk_Pc D kx_cl (kx_ty ca) (kw_m ad ca) ads xk_F sz [.ref (ad 0), .int x0] u) (xk_Qc D kx_cl (kw_m ad ca) ads (xo_v (.inl r)) u') (xk_A ads sz) := by
  unfold fm_Model_goOut at h
  refine xk_con (by decide) htr hok (Nat.le_of_ble_eq_true rfl) (fun p e s m below meth c ls C hne hl hP => ?_)
  have hx := C.1.1
  have hb := C.1.2.1
  have hS : va_S (xk_A ads s.heap.size) s.heap s.heap [] := va_S.rf
  have hl : lv_has ls 3 [(0, .ref (ad 0)), (1, .int x0)] := hl
  refine lv_aload_n hx hb dd_Model_goOut_0 rfl (lv_at hl 0 rfl) ?_
  refine gf_m_Model_0_ways C hP dd_Model_goOut_1 ?_
  refine lv_iconst (v := 1) hx hb dd_Model_goOut_4 (by decide) ?_
  refine lv_isub hx hb dd_Model_goOut_5 ?_
  refine lv_iload_n hx hb dd_Model_goOut_6 rfl (lv_at hl 1 rfl) ?_
  refine lv_isub hx hb dd_Model_goOut_7 ?_
  obtain ⟨a1, ea1, h⟩ := xp_let h
  refine xr_nami ea1 ?_
  refine lv_istore_n (lv' := [(2, .int a1), (0, .ref (ad 0)), (1, .int x0)]) hx hb dd_Model_goOut_8 rfl hl (by decide) rfl (fun ls hl => ?_)
  refine lv_iload_n hx hb dd_Model_goOut_9 rfl (lv_at hl 0 rfl) ?_
  refine lv_aload_n hx hb dd_Model_goOut_10 rfl (lv_at hl 1 rfl) ?_
  refine gf_m_Model_0_callWays C hP dd_Model_goOut_11 ?_
  refine lv_aload_n hx hb dd_Model_goOut_14 rfl (lv_at hl 1 rfl) ?_
  refine gf_m_Model_0_calls C hP dd_Model_goOut_15 ?_
  refine lv_iconst (v := 1) hx hb dd_Model_goOut_18 (by decide) ?_
  refine lv_isub hx hb dd_Model_goOut_19 ?_
  obtain ⟨hi, h⟩ := xp_g h
  refine al_m_37 C hP hi dd_Model_goOut_20 ?_
  refine lv_icmp_ne (tgt := 29) hx hb dd_Model_goOut_21 (by decide) (fun hc => ?_) (fun hc => ?_)
  · have h := xp_f hc h
    refine lv_aload_n hx hb dd_Model_goOut_29 rfl (lv_at hl 1 rfl) ?_
    refine gf_m_Model_0_wayLoops C hP dd_Model_goOut_30 ?_
    refine lv_iload_n hx hb dd_Model_goOut_33 rfl (lv_at hl 0 rfl) ?_
    obtain ⟨hi, h⟩ := xp_g h
    refine al_m_41 C hP hi dd_Model_goOut_34 ?_
    refine lv_if_eq (tgt := 64) hx hb dd_Model_goOut_35 (by decide) (fun hc => ?_) (fun hc => ?_)
    · have h := xp_t hc h
      exact wj_Model_goOut_64 htr C hne h hP hS (lv_sub hl [1, 0] rfl)
    · have h := xp_f hc h
      refine lv_aload_n hx hb dd_Model_goOut_38 rfl (lv_at hl 1 rfl) ?_
      refine gf_m_Model_0_turnsLeft C hP dd_Model_goOut_39 ?_
      refine lv_lconst (v := 0) hx hb dd_Model_goOut_42 (by decide) ?_
      refine xr_lc_ne (tgt := 54) hx hb dd_Model_goOut_43 dd_Model_goOut_44 (by decide) (fun hc => ?_) (fun hc => ?_)
      · have h := xp_f hc h
        refine lv_aload_n hx hb dd_Model_goOut_54 rfl (lv_at hl 1 rfl) ?_
        refine lv_dup hx hb dd_Model_goOut_55 rfl ?_
        refine gf_m_Model_0_turnsLeft C hP dd_Model_goOut_56 ?_
        refine lv_lconst (v := 1) hx hb dd_Model_goOut_59 (by decide) ?_
        refine lv_lsub hx hb dd_Model_goOut_60 ?_
        refine pf_m_Model_0_turnsLeft C hP hS dd_Model_goOut_61 (fun H locs hP hS => ?_)
        obtain ⟨u5, eu5, h⟩ := xp_let h
        rw [← eu5] at hP
        exact wj_Model_goOut_64 htr C hne h hP hS (lv_sub hl [1, 0] rfl)
      · have h := xp_t hc h
        refine lv_aload_n hx hb dd_Model_goOut_47 rfl (lv_at hl 1 rfl) ?_
        refine lv_bipush (v := 13) hx hb dd_Model_goOut_48 (by decide) ?_
        refine pf_m_Model_0_trap C hP hS dd_Model_goOut_50 (fun H locs hP hS => ?_)
        obtain ⟨u6, eu6, h⟩ := xp_let h
        rw [← eu6] at hP
        obtain ⟨rfl, rfl⟩ := xp_r h
        exact xr_vret C hP hS dd_Model_goOut_53
  · have h := xp_t hc h
    refine lv_aload_n hx hb dd_Model_goOut_24 rfl (lv_at hl 1 rfl) ?_
    obtain ⟨rx, u7, hq, h⟩ := xp_seq h
    refine xk_goesV (xr_V (As := []) (rest := []) C hP hS (ct_Model_leave htr hok hq) kq_Model_695 0 11 rfl rfl ⟨rfl, rfl, Nat.le_of_ble_eq_true rfl, Nat.le_of_ble_eq_true rfl⟩ ⟨Nat.le_of_ble_eq_true rfl, Nat.le_of_ble_eq_true rfl⟩ hl.1 rfl rfl (Nat.le_of_ble_eq_true rfl) dd_Model_goOut_25) hS (fun H locs hP hS => ?_)
    clear hq
    obtain ⟨rfl, rfl⟩ := xp_r h
    exact xr_vret C hP hS dd_Model_goOut_28
abbrev rm_Model_doReferences : Room := { frames := 4, cells := 1, slots := 6, locals := 66 }
noncomputable def jb_Model_doReferences_90 (fu : Nat) (s0 : Int64) (u : xk_St) : Option (Unit × xk_St) :=
  (xs_seq (fm_Model_tell s0 u) fun _ u4 => some ((()), u4))
noncomputable def jb_Model_doReferences_182 (fu : Nat) (b1 : Int64) (u : xk_St) : Option (Unit × xk_St) :=
  if b1 = (0 : Int64) then ((xs_let (xs_I u 26 ((u.1 26) - (1 : Int32))) fun u6 => some ((()), u6))) else ((xs_seq (fm_Model_goOut fu ((u.2.1 0).toInt32) u) fun _ u5 => some ((()), u5)))
noncomputable def jb_Model_doReferences_126 (fu : Nat) (s0 : Int64) (u : xk_St) : Option (Unit × xk_St) :=
  (xs_seq (fm_Model_tell s0 u) fun _ u8 => some ((()), u8))
noncomputable def jb_Model_doReferences_145 (fu : Nat) (s0 : Int32) (u : xk_St) : Option (Unit × xk_St) :=
  (xs_let (xs_I u 29 s0) fun u9 => some ((()), u9))
noncomputable def fm_Model_doReferences (fu : Nat) (u : xk_St) : Option (Unit × xk_St) :=
  if (u.1 8) = (208 : Int32) then ((xs_seq (fm_Model_lay (0 : Int64) (1 : Int32) u) fun _ u12 => some ((()), u12))) else ((if ((u.1 26) - (1 : Int32)) < 0 ∨ 19000 ≤ ((u.1 26) - (1 : Int32)).toNatClampNeg then none else xs_let (u.2.2.2 3 ((u.1 26) - (1 : Int32)).toNatClampNeg) fun a1 => xs_let (u.1 8) fun a2 => if a2 = (209 : Int32) then ((xs_let (xs_I u 26 ((u.1 26) - (1 : Int32))) fun u3 => if a1 = (0 : Int64) then (jb_Model_doReferences_90 fu (1 : Int64) u3) else (jb_Model_doReferences_90 fu (0 : Int64) u3))) else if a2 = (210 : Int32) then (jb_Model_doReferences_182 fu a1 u) else if a2 = (211 : Int32) then ((xs_let (xs_I u 26 ((u.1 26) - (2 : Int32))) fun u7 => if (u7.1 26) < 0 ∨ 19000 ≤ (u7.1 26).toNatClampNeg then none else if (u7.2.2.2 3 (u7.1 26).toNatClampNeg) = a1 then (jb_Model_doReferences_126 fu (1 : Int64) u7) else (jb_Model_doReferences_126 fu (0 : Int64) u7))) else if a2 = (212 : Int32) then (if a1 = (0 : Int64) then (jb_Model_doReferences_145 fu (8 : Int32) u) else (jb_Model_doReferences_145 fu (0 : Int32) u)) else if a2 = (213 : Int32) then (if a1 = (0 : Int64) then ((xs_let (xs_I u 26 ((u.1 26) - (1 : Int32))) fun u10 => xs_seq (fm_Model_goOut fu ((u10.2.1 0).toInt32) u10) fun _ u11 => some ((()), u11))) else (some ((()), u))) else (jb_Model_doReferences_182 fu a1 u)))
set_option maxHeartbeats 4000000 in
set_option maxRecDepth 100000 in
theorem wj_Model_doReferences_90 {p : Program} {l : Launch} {e : Env} {s : State} {m : MethodId} {args : Array Value} {below : List Frame} {meth : Method} {c : Code} {D : va_G} {ad : Nat → Nat} {ca : Nat → ClassId} {ads : List Nat} {fu : Nat} (htr : l.stackTraces = false) (C : xk_C D kx_cl (kx_ty ca) (kw_m ad ca) ads "ModuleHouseModel" prog_14_method_124_code 3 none p e s m args meth c) (hne : c.exceptionTable.isEmpty = true) {u' : xk_St} {r : Unit} {s0 : Int64} {u : xk_St} {H : Heap} {locs : List Loc} {ls : Array Slot} (h : jb_Model_doReferences_90 fu  s0 u = some (r, u')) (hP : va_P D kx_cl (kw_m ad ca u) H) (hS : va_S (xk_A ads s.heap.size) s.heap H locs) (hl : lv_has ls 3 []) : W p l e rm_Model_doReferences s m args below meth c H locs 0 0 (xk_MQ below (xk_Qc D kx_cl (kw_m ad ca) ads (xo_v (.inl r)) u') args s (xk_A ads s.heap.size)) (F0 m 90 ls [.long s0, .ref (ad 0)]) := by
  have hx := C.1.1
  have hb := C.1.2.1
  have hok := C.2.2.1
  unfold jb_Model_doReferences_90 at h
  obtain ⟨rx, u4, hq, h⟩ := xp_seq h
  refine xk_goesV (xr_V (As := [.long s0]) (rest := []) C hP hS (ct_Model_tell htr hok hq) kq_Model_737 0 11 rfl rfl ⟨rfl, rfl, Nat.le_of_ble_eq_true rfl, Nat.le_of_ble_eq_true rfl⟩ ⟨Nat.le_of_ble_eq_true rfl, Nat.le_of_ble_eq_true rfl⟩ hl.1 rfl rfl (Nat.le_of_ble_eq_true rfl) dd_Model_doReferences_90) hS (fun H locs hP hS => ?_)
  clear hq
  refine lv_goto (tgt := 210) hx hb dd_Model_doReferences_93 (by decide) ?_
  obtain ⟨rfl, rfl⟩ := xp_r h
  exact xr_vret C hP hS dd_Model_doReferences_210
set_option maxHeartbeats 4000000 in
set_option maxRecDepth 100000 in
theorem wj_Model_doReferences_182 {p : Program} {l : Launch} {e : Env} {s : State} {m : MethodId} {args : Array Value} {below : List Frame} {meth : Method} {c : Code} {D : va_G} {ad : Nat → Nat} {ca : Nat → ClassId} {ads : List Nat} {fu : Nat} (htr : l.stackTraces = false) (C : xk_C D kx_cl (kx_ty ca) (kw_m ad ca) ads "ModuleHouseModel" prog_14_method_124_code 3 none p e s m args meth c) (hne : c.exceptionTable.isEmpty = true) {u' : xk_St} {r : Unit} {b1 : Int64} {u : xk_St} {H : Heap} {locs : List Loc} {ls : Array Slot} (h : jb_Model_doReferences_182 fu  b1 u = some (r, u')) (hP : va_P D kx_cl (kw_m ad ca u) H) (hS : va_S (xk_A ads s.heap.size) s.heap H locs) (hl : lv_has ls 3 [(0, .ref (ad 0)), (1, .long b1)]) : W p l e rm_Model_doReferences s m args below meth c H locs 0 0 (xk_MQ below (xk_Qc D kx_cl (kw_m ad ca) ads (xo_v (.inl r)) u') args s (xk_A ads s.heap.size)) (F0 m 182 ls []) := by
  have hx := C.1.1
  have hb := C.1.2.1
  have hok := C.2.2.1
  unfold jb_Model_doReferences_182 at h
  refine lv_lload_n hx hb dd_Model_doReferences_182 rfl (lv_at hl 1 rfl) ?_
  refine lv_lconst (v := 0) hx hb dd_Model_doReferences_183 (by decide) ?_
  refine xr_lc_ne (tgt := 201) hx hb dd_Model_doReferences_184 dd_Model_doReferences_185 (by decide) (fun hc => ?_) (fun hc => ?_)
  · have h := xp_f hc h
    refine lv_aload_n hx hb dd_Model_doReferences_201 rfl (lv_at hl 0 rfl) ?_
    refine lv_aload_n hx hb dd_Model_doReferences_202 rfl (lv_at hl 0 rfl) ?_
    refine gf_m_Model_0_x C hP dd_Model_doReferences_203 ?_
    refine lv_l2i hx hb dd_Model_doReferences_206 rfl ?_
    obtain ⟨rx, u5, hq, h⟩ := xp_seq h
    refine xk_goesV (xr_V (As := [.int ((u.2.1 0).toInt32)]) (rest := []) C hP hS (ct_Model_goOut htr hok hq) kq_Model_731 0 11 rfl rfl ⟨rfl, rfl, Nat.le_of_ble_eq_true rfl, Nat.le_of_ble_eq_true rfl⟩ ⟨Nat.le_of_ble_eq_true rfl, Nat.le_of_ble_eq_true rfl⟩ hl.1 rfl rfl (Nat.le_of_ble_eq_true rfl) dd_Model_doReferences_207) hS (fun H locs hP hS => ?_)
    clear hq
    obtain ⟨rfl, rfl⟩ := xp_r h
    exact xr_vret C hP hS dd_Model_doReferences_210
  · have h := xp_t hc h
    refine lv_aload_n hx hb dd_Model_doReferences_188 rfl (lv_at hl 0 rfl) ?_
    refine lv_dup hx hb dd_Model_doReferences_189 rfl ?_
    refine gf_m_Model_0_top C hP dd_Model_doReferences_190 ?_
    refine lv_iconst (v := 1) hx hb dd_Model_doReferences_193 (by decide) ?_
    refine lv_isub hx hb dd_Model_doReferences_194 ?_
    refine pf_m_Model_0_top C hP hS dd_Model_doReferences_195 (fun H locs hP hS => ?_)
    obtain ⟨u6, eu6, h⟩ := xp_let h
    rw [← eu6] at hP
    refine lv_goto (tgt := 210) hx hb dd_Model_doReferences_198 (by decide) ?_
    obtain ⟨rfl, rfl⟩ := xp_r h
    exact xr_vret C hP hS dd_Model_doReferences_210
set_option maxHeartbeats 4000000 in
set_option maxRecDepth 100000 in
theorem wj_Model_doReferences_126 {p : Program} {l : Launch} {e : Env} {s : State} {m : MethodId} {args : Array Value} {below : List Frame} {meth : Method} {c : Code} {D : va_G} {ad : Nat → Nat} {ca : Nat → ClassId} {ads : List Nat} {fu : Nat} (htr : l.stackTraces = false) (C : xk_C D kx_cl (kx_ty ca) (kw_m ad ca) ads "ModuleHouseModel" prog_14_method_124_code 3 none p e s m args meth c) (hne : c.exceptionTable.isEmpty = true) {u' : xk_St} {r : Unit} {s0 : Int64} {u : xk_St} {H : Heap} {locs : List Loc} {ls : Array Slot} (h : jb_Model_doReferences_126 fu  s0 u = some (r, u')) (hP : va_P D kx_cl (kw_m ad ca u) H) (hS : va_S (xk_A ads s.heap.size) s.heap H locs) (hl : lv_has ls 3 []) : W p l e rm_Model_doReferences s m args below meth c H locs 0 0 (xk_MQ below (xk_Qc D kx_cl (kw_m ad ca) ads (xo_v (.inl r)) u') args s (xk_A ads s.heap.size)) (F0 m 126 ls [.long s0, .ref (ad 0)]) := by
  have hx := C.1.1
  have hb := C.1.2.1
  have hok := C.2.2.1
  unfold jb_Model_doReferences_126 at h
  obtain ⟨rx, u8, hq, h⟩ := xp_seq h
  refine xk_goesV (xr_V (As := [.long s0]) (rest := []) C hP hS (ct_Model_tell htr hok hq) kq_Model_737 0 11 rfl rfl ⟨rfl, rfl, Nat.le_of_ble_eq_true rfl, Nat.le_of_ble_eq_true rfl⟩ ⟨Nat.le_of_ble_eq_true rfl, Nat.le_of_ble_eq_true rfl⟩ hl.1 rfl rfl (Nat.le_of_ble_eq_true rfl) dd_Model_doReferences_126) hS (fun H locs hP hS => ?_)
  clear hq
  refine lv_goto (tgt := 210) hx hb dd_Model_doReferences_129 (by decide) ?_
  obtain ⟨rfl, rfl⟩ := xp_r h
  exact xr_vret C hP hS dd_Model_doReferences_210
set_option maxHeartbeats 4000000 in
set_option maxRecDepth 100000 in
theorem wj_Model_doReferences_145 {p : Program} {l : Launch} {e : Env} {s : State} {m : MethodId} {args : Array Value} {below : List Frame} {meth : Method} {c : Code} {D : va_G} {ad : Nat → Nat} {ca : Nat → ClassId} {ads : List Nat} {fu : Nat} (htr : l.stackTraces = false) (C : xk_C D kx_cl (kx_ty ca) (kw_m ad ca) ads "ModuleHouseModel" prog_14_method_124_code 3 none p e s m args meth c) (hne : c.exceptionTable.isEmpty = true) {u' : xk_St} {r : Unit} {s0 : Int32} {u : xk_St} {H : Heap} {locs : List Loc} {ls : Array Slot} (h : jb_Model_doReferences_145 fu  s0 u = some (r, u')) (hP : va_P D kx_cl (kw_m ad ca u) H) (hS : va_S (xk_A ads s.heap.size) s.heap H locs) (hl : lv_has ls 3 []) : W p l e rm_Model_doReferences s m args below meth c H locs 0 0 (xk_MQ below (xk_Qc D kx_cl (kw_m ad ca) ads (xo_v (.inl r)) u') args s (xk_A ads s.heap.size)) (F0 m 145 ls [.int s0, .ref (ad 0)]) := by
  have hx := C.1.1
  have hb := C.1.2.1
  have hok := C.2.2.1
  unfold jb_Model_doReferences_145 at h
  refine pf_m_Model_0_trap C hP hS dd_Model_doReferences_145 (fun H locs hP hS => ?_)
  obtain ⟨u9, eu9, h⟩ := xp_let h
  rw [← eu9] at hP
  refine lv_goto (tgt := 210) hx hb dd_Model_doReferences_148 (by decide) ?_
  obtain ⟨rfl, rfl⟩ := xp_r h
  exact xr_vret C hP hS dd_Model_doReferences_210
set_option maxHeartbeats 4000000 in
set_option maxRecDepth 100000 in
theorem ct_Model_doReferences {l : Launch} {D : va_G} {ad : Nat → Nat} {ca : Nat → ClassId} {ads : List Nat} (htr : l.stackTraces = false) (hok : xk_ok (kw_m ad ca) ads) {fu : Nat} {u u' : xk_St} {r : Unit} (h : fm_Model_doReferences fu u = some (r, u')) :
    ∀ sz, xk_Met l ⟨"ModuleHouseModel", "doReferences", "()V"⟩ (Cond.code ⟨"ModuleHouseModel", "doReferences", "()V"⟩ prog_14_method_124_code 3 none :: xk_gd) rm_Model_doReferences (xk_Pc D kx_cl (kx_ty ca) (kw_m ad ca) ads xk_F sz [.ref (ad 0)] u) (xk_Qc D kx_cl (kw_m ad ca) ads (xo_v (.inl r)) u') (xk_A ads sz) := by
  unfold fm_Model_doReferences at h
  refine xk_con (by decide) htr hok (Nat.le_of_ble_eq_true rfl) (fun p e s m below meth c ls C hne hl hP => ?_)
  have hx := C.1.1
  have hb := C.1.2.1
  have hS : va_S (xk_A ads s.heap.size) s.heap s.heap [] := va_S.rf
  have hl : lv_has ls 3 [(0, .ref (ad 0))] := hl
  refine lv_aload_n hx hb dd_Model_doReferences_0 rfl (lv_at hl 0 rfl) ?_
  refine gf_m_Model_0_op C hP dd_Model_doReferences_1 ?_
  refine lv_sipush (v := 208) hx hb dd_Model_doReferences_4 (by decide) ?_
  refine lv_icmp_ne (tgt := 17) hx hb dd_Model_doReferences_7 (by decide) (fun hc => ?_) (fun hc => ?_)
  · have h := xp_f hc h
    refine lv_aload_n hx hb dd_Model_doReferences_17 rfl (lv_at hl 0 rfl) ?_
    refine gf_m_Model_0_values C hP dd_Model_doReferences_18 ?_
    refine lv_aload_n hx hb dd_Model_doReferences_21 rfl (lv_at hl 0 rfl) ?_
    refine gf_m_Model_0_top C hP dd_Model_doReferences_22 ?_
    refine lv_iconst (v := 1) hx hb dd_Model_doReferences_25 (by decide) ?_
    refine lv_isub hx hb dd_Model_doReferences_26 ?_
    obtain ⟨hi, h⟩ := xp_g h
    refine al_m_33 C hP hi dd_Model_doReferences_27 ?_
    obtain ⟨a1, ea1, h⟩ := xp_let h
    refine xr_naml ea1 ?_
    refine lv_lstore_n (lv' := [(1, .long a1), (0, .ref (ad 0))]) hx hb dd_Model_doReferences_28 rfl hl (by decide) rfl (fun ls hl => ?_)
    refine lv_aload_n hx hb dd_Model_doReferences_29 rfl (lv_at hl 1 rfl) ?_
    refine gf_m_Model_0_op C hP dd_Model_doReferences_30 ?_
    obtain ⟨a2, ea2, h⟩ := xp_let h
    refine xr_nami ea2 ?_
    by_cases hc0 : a2 = (209 : Int32)
    · have h := xp_t hc0 h
      refine lv_tableIn (off := 35) (tgt := 68) hx hb dd_Model_doReferences_33 (by rw [hc0]; decide) (by rw [hc0]; decide) (by rw [hc0]; rfl) (by decide) ?_
      refine lv_aload_n hx hb dd_Model_doReferences_68 rfl (lv_at hl 1 rfl) ?_
      refine lv_dup hx hb dd_Model_doReferences_69 rfl ?_
      refine gf_m_Model_0_top C hP dd_Model_doReferences_70 ?_
      refine lv_iconst (v := 1) hx hb dd_Model_doReferences_73 (by decide) ?_
      refine lv_isub hx hb dd_Model_doReferences_74 ?_
      refine pf_m_Model_0_top C hP hS dd_Model_doReferences_75 (fun H locs hP hS => ?_)
      obtain ⟨u3, eu3, h⟩ := xp_let h
      rw [← eu3] at hP
      refine lv_aload_n hx hb dd_Model_doReferences_78 rfl (lv_at hl 1 rfl) ?_
      refine lv_lload_n hx hb dd_Model_doReferences_79 rfl (lv_at hl 0 rfl) ?_
      refine lv_lconst (v := 0) hx hb dd_Model_doReferences_80 (by decide) ?_
      refine xr_lc_ne (tgt := 89) hx hb dd_Model_doReferences_81 dd_Model_doReferences_82 (by decide) (fun hc => ?_) (fun hc => ?_)
      · have h := xp_f hc h
        refine lv_lconst (v := 0) hx hb dd_Model_doReferences_89 (by decide) ?_
        exact wj_Model_doReferences_90 htr C hne h hP hS (lv_sub hl [] rfl)
      · have h := xp_t hc h
        refine lv_lconst (v := 1) hx hb dd_Model_doReferences_85 (by decide) ?_
        refine lv_goto (tgt := 90) hx hb dd_Model_doReferences_86 (by decide) ?_
        exact wj_Model_doReferences_90 htr C hne h hP hS (lv_sub hl [] rfl)
    have h := xp_f hc0 h
    by_cases hc1 : a2 = (210 : Int32)
    · have h := xp_t hc1 h
      refine lv_tableIn (off := 149) (tgt := 182) hx hb dd_Model_doReferences_33 (by rw [hc1]; decide) (by rw [hc1]; decide) (by rw [hc1]; rfl) (by decide) ?_
      exact wj_Model_doReferences_182 htr C hne h hP hS (lv_sub hl [1, 0] rfl)
    have h := xp_f hc1 h
    by_cases hc2 : a2 = (211 : Int32)
    · have h := xp_t hc2 h
      refine lv_tableIn (off := 63) (tgt := 96) hx hb dd_Model_doReferences_33 (by rw [hc2]; decide) (by rw [hc2]; decide) (by rw [hc2]; rfl) (by decide) ?_
      refine lv_aload_n hx hb dd_Model_doReferences_96 rfl (lv_at hl 1 rfl) ?_
      refine lv_dup hx hb dd_Model_doReferences_97 rfl ?_
      refine gf_m_Model_0_top C hP dd_Model_doReferences_98 ?_
      refine lv_iconst (v := 2) hx hb dd_Model_doReferences_101 (by decide) ?_
      refine lv_isub hx hb dd_Model_doReferences_102 ?_
      refine pf_m_Model_0_top C hP hS dd_Model_doReferences_103 (fun H locs hP hS => ?_)
      obtain ⟨u7, eu7, h⟩ := xp_let h
      rw [← eu7] at hP
      refine lv_aload_n hx hb dd_Model_doReferences_106 rfl (lv_at hl 1 rfl) ?_
      refine lv_aload_n hx hb dd_Model_doReferences_107 rfl (lv_at hl 1 rfl) ?_
      refine gf_m_Model_0_values C hP dd_Model_doReferences_108 ?_
      refine lv_aload_n hx hb dd_Model_doReferences_111 rfl (lv_at hl 1 rfl) ?_
      refine gf_m_Model_0_top C hP dd_Model_doReferences_112 ?_
      obtain ⟨hi, h⟩ := xp_g h
      refine al_m_33 C hP hi dd_Model_doReferences_115 ?_
      refine lv_lload_n hx hb dd_Model_doReferences_116 rfl (lv_at hl 0 rfl) ?_
      refine xr_lc_ne (tgt := 125) hx hb dd_Model_doReferences_117 dd_Model_doReferences_118 (by decide) (fun hc => ?_) (fun hc => ?_)
      · have h := xp_f hc h
        refine lv_lconst (v := 0) hx hb dd_Model_doReferences_125 (by decide) ?_
        exact wj_Model_doReferences_126 htr C hne h hP hS (lv_sub hl [] rfl)
      · have h := xp_t hc h
        refine lv_lconst (v := 1) hx hb dd_Model_doReferences_121 (by decide) ?_
        refine lv_goto (tgt := 126) hx hb dd_Model_doReferences_122 (by decide) ?_
        exact wj_Model_doReferences_126 htr C hne h hP hS (lv_sub hl [] rfl)
    have h := xp_f hc2 h
    by_cases hc3 : a2 = (212 : Int32)
    · have h := xp_t hc3 h
      refine lv_tableIn (off := 99) (tgt := 132) hx hb dd_Model_doReferences_33 (by rw [hc3]; decide) (by rw [hc3]; decide) (by rw [hc3]; rfl) (by decide) ?_
      refine lv_aload_n hx hb dd_Model_doReferences_132 rfl (lv_at hl 1 rfl) ?_
      refine lv_lload_n hx hb dd_Model_doReferences_133 rfl (lv_at hl 0 rfl) ?_
      refine lv_lconst (v := 0) hx hb dd_Model_doReferences_134 (by decide) ?_
      refine xr_lc_ne (tgt := 144) hx hb dd_Model_doReferences_135 dd_Model_doReferences_136 (by decide) (fun hc => ?_) (fun hc => ?_)
      · have h := xp_f hc h
        refine lv_iconst (v := 0) hx hb dd_Model_doReferences_144 (by decide) ?_
        exact wj_Model_doReferences_145 htr C hne h hP hS (lv_sub hl [] rfl)
      · have h := xp_t hc h
        refine lv_bipush (v := 8) hx hb dd_Model_doReferences_139 (by decide) ?_
        refine lv_goto (tgt := 145) hx hb dd_Model_doReferences_141 (by decide) ?_
        exact wj_Model_doReferences_145 htr C hne h hP hS (lv_sub hl [] rfl)
    have h := xp_f hc3 h
    by_cases hc4 : a2 = (213 : Int32)
    · have h := xp_t hc4 h
      refine lv_tableIn (off := 118) (tgt := 151) hx hb dd_Model_doReferences_33 (by rw [hc4]; decide) (by rw [hc4]; decide) (by rw [hc4]; rfl) (by decide) ?_
      refine lv_lload_n hx hb dd_Model_doReferences_151 rfl (lv_at hl 0 rfl) ?_
      refine lv_lconst (v := 0) hx hb dd_Model_doReferences_152 (by decide) ?_
      refine xr_lc_eq (tgt := 160) hx hb dd_Model_doReferences_153 dd_Model_doReferences_154 (by decide) (fun hc => ?_) (fun hc => ?_)
      · have h := xp_t hc h
        refine lv_aload_n hx hb dd_Model_doReferences_160 rfl (lv_at hl 1 rfl) ?_
        refine lv_dup hx hb dd_Model_doReferences_161 rfl ?_
        refine gf_m_Model_0_top C hP dd_Model_doReferences_162 ?_
        refine lv_iconst (v := 1) hx hb dd_Model_doReferences_165 (by decide) ?_
        refine lv_isub hx hb dd_Model_doReferences_166 ?_
        refine pf_m_Model_0_top C hP hS dd_Model_doReferences_167 (fun H locs hP hS => ?_)
        obtain ⟨u10, eu10, h⟩ := xp_let h
        rw [← eu10] at hP
        refine lv_aload_n hx hb dd_Model_doReferences_170 rfl (lv_at hl 1 rfl) ?_
        refine lv_aload_n hx hb dd_Model_doReferences_171 rfl (lv_at hl 1 rfl) ?_
        refine gf_m_Model_0_x C hP dd_Model_doReferences_172 ?_
        refine lv_l2i hx hb dd_Model_doReferences_175 rfl ?_
        obtain ⟨rx, u11, hq, h⟩ := xp_seq h
        refine xk_goesV (xr_V (As := [.int ((u10.2.1 0).toInt32)]) (rest := []) C hP hS (ct_Model_goOut htr hok hq) kq_Model_731 0 11 rfl rfl ⟨rfl, rfl, Nat.le_of_ble_eq_true rfl, Nat.le_of_ble_eq_true rfl⟩ ⟨Nat.le_of_ble_eq_true rfl, Nat.le_of_ble_eq_true rfl⟩ hl.1 rfl rfl (Nat.le_of_ble_eq_true rfl) dd_Model_doReferences_176) hS (fun H locs hP hS => ?_)
        clear hq
        refine lv_goto (tgt := 210) hx hb dd_Model_doReferences_179 (by decide) ?_
        obtain ⟨rfl, rfl⟩ := xp_r h
        exact xr_vret C hP hS dd_Model_doReferences_210
      · have h := xp_f hc h
        refine lv_goto (tgt := 210) hx hb dd_Model_doReferences_157 (by decide) ?_
        obtain ⟨rfl, rfl⟩ := xp_r h
        exact xr_vret C hP hS dd_Model_doReferences_210
    have h := xp_f hc4 h
    have hd0 := lv_neT hc0 (a := 209) (by decide)
    have hd1 := lv_neT hc1 (a := 210) (by decide)
    have hd2 := lv_neT hc2 (a := 211) (by decide)
    have hd3 := lv_neT hc3 (a := 212) (by decide)
    have hd4 := lv_neT hc4 (a := 213) (by decide)
    refine lv_tableOut (tgt := 182) hx hb dd_Model_doReferences_33 (by omega) (by decide) ?_
    exact wj_Model_doReferences_182 htr C hne h hP hS (lv_sub hl [1, 0] rfl)
  · have h := xp_t hc h
    refine lv_aload_n hx hb dd_Model_doReferences_10 rfl (lv_at hl 0 rfl) ?_
    refine lv_lconst (v := 0) hx hb dd_Model_doReferences_11 (by decide) ?_
    refine lv_iconst (v := 1) hx hb dd_Model_doReferences_12 (by decide) ?_
    obtain ⟨rx, u12, hq, h⟩ := xp_seq h
    refine xk_goesV (xr_V (As := [.long (0 : Int64), .int (1 : Int32)]) (rest := []) C hP hS (ct_Model_lay htr hok hq) kq_Model_676 0 11 rfl rfl ⟨rfl, rfl, Nat.le_of_ble_eq_true rfl, Nat.le_of_ble_eq_true rfl⟩ ⟨Nat.le_of_ble_eq_true rfl, Nat.le_of_ble_eq_true rfl⟩ hl.1 rfl rfl (Nat.le_of_ble_eq_true rfl) dd_Model_doReferences_13) hS (fun H locs hP hS => ?_)
    clear hq
    obtain ⟨rfl, rfl⟩ := xp_r h
    exact xr_vret C hP hS dd_Model_doReferences_16
abbrev rm_Long_remainderUnsigned__m : Room := { frames := 1, cells := 1, slots := 6, locals := 0 }
noncomputable def fm_Long_remainderUnsigned__m (x0 : Int64) (x1 : Int64) (u : xk_St) : Option (Int64 × xk_St) :=
  if x1 < (0 : Int64) then (some ((x0 - (((x0 &&& ((x0 - x1) ^^^ (-1 : Int64))) >>> ((63 : Int32).toInt64 &&& 63)) &&& x1)), u)) else ((if x1 = (0 : Int64) then none else xs_let ((((x0.toUInt64 >>> ((1 : Int32).toInt64.toUInt64 &&& Int64.toUInt64 63)).toInt64) / x1) <<< ((1 : Int32).toInt64 &&& 63)) fun a1 => xs_let (x0 - (a1 * x1)) fun a2 => some ((a2 - ((((a2 - x1) ^^^ (-1 : Int64)) >>> ((63 : Int32).toInt64 &&& 63)) &&& x1)), u)))
set_option maxHeartbeats 4000000 in
set_option maxRecDepth 100000 in
theorem ct_Long_remainderUnsigned__m {l : Launch} {D : va_G} {ad : Nat → Nat} {ca : Nat → ClassId} {ads : List Nat} (htr : l.stackTraces = false) (hok : xk_ok (kw_m ad ca) ads) {x0 : Int64} {x1 : Int64} {u u' : xk_St} {r : Int64} (h : fm_Long_remainderUnsigned__m x0 x1 u = some (r, u')) :
    ∀ sz, xk_Met l ⟨"java/lang/Long", "remainderUnsigned", "(JJ)J"⟩ (Cond.code ⟨"java/lang/Long", "remainderUnsigned", "(JJ)J"⟩ prog_21_method_45_code 8 (some .long) :: xk_gd) rm_Long_remainderUnsigned__m (xk_Pc D kx_cl (kx_ty ca) (kw_m ad ca) ads xk_F sz [.long x0, .long x1] u) (xk_Qc D kx_cl (kw_m ad ca) ads (xo_l (.inl r)) u') (xk_A ads sz) := by
  unfold fm_Long_remainderUnsigned__m at h
  refine xk_con (by decide) htr hok (Nat.le_of_ble_eq_true rfl) (fun p e s m below meth c ls C hne hl hP => ?_)
  have hx := C.1.1
  have hb := C.1.2.1
  have hS : va_S (xk_A ads s.heap.size) s.heap s.heap [] := va_S.rf
  have hl : lv_has ls 8 [(0, .long x0), (2, .long x1)] := hl
  refine lv_lload_n hx hb dd_Long_remainderUnsigned_0 rfl (lv_at hl 1 rfl) ?_
  refine lv_lconst (v := 0) hx hb dd_Long_remainderUnsigned_1 (by decide) ?_
  refine xr_lc_lt (tgt := 40) hx hb dd_Long_remainderUnsigned_2 dd_Long_remainderUnsigned_3 (by decide) (fun hc => ?_) (fun hc => ?_)
  · have h := xp_t hc h
    refine lv_lload_n hx hb dd_Long_remainderUnsigned_40 rfl (lv_at hl 0 rfl) ?_
    refine lv_lload_n hx hb dd_Long_remainderUnsigned_41 rfl (lv_at hl 0 rfl) ?_
    refine lv_lload_n hx hb dd_Long_remainderUnsigned_42 rfl (lv_at hl 0 rfl) ?_
    refine lv_lload_n hx hb dd_Long_remainderUnsigned_43 rfl (lv_at hl 1 rfl) ?_
    refine lv_lsub hx hb dd_Long_remainderUnsigned_44 ?_
    refine lv_ldc2 (v := (-1)) hx hb C.1.2.2.2.1 (C.1.2.2.2.2 _ (xk_c11 (w := Jvm.Cond.constantLong "java/lang/Long" 306 (-1)) 108 rfl rfl)) dd_Long_remainderUnsigned_45 ?_
    refine lv_lxor hx hb dd_Long_remainderUnsigned_48 ?_
    refine lv_land hx hb dd_Long_remainderUnsigned_49 ?_
    refine lv_bipush (v := 63) hx hb dd_Long_remainderUnsigned_50 (by decide) ?_
    refine lv_lshr hx hb dd_Long_remainderUnsigned_52 rfl ?_
    refine lv_lload_n hx hb dd_Long_remainderUnsigned_53 rfl (lv_at hl 1 rfl) ?_
    refine lv_land hx hb dd_Long_remainderUnsigned_54 ?_
    refine lv_lsub hx hb dd_Long_remainderUnsigned_55 ?_
    obtain ⟨rfl, rfl⟩ := xp_r h
    exact xr_lret C hP hS dd_Long_remainderUnsigned_56
  · have h := xp_f hc h
    refine lv_lload_n hx hb dd_Long_remainderUnsigned_6 rfl (lv_at hl 0 rfl) ?_
    refine lv_iconst (v := 1) hx hb dd_Long_remainderUnsigned_7 (by decide) ?_
    refine lv_lushr hx hb dd_Long_remainderUnsigned_8 rfl ?_
    refine lv_lload_n hx hb dd_Long_remainderUnsigned_9 rfl (lv_at hl 1 rfl) ?_
    obtain ⟨hz, h⟩ := xp_g h
    refine lv_ldiv hx hb dd_Long_remainderUnsigned_10 hz ?_
    refine lv_iconst (v := 1) hx hb dd_Long_remainderUnsigned_11 (by decide) ?_
    refine lv_lshl hx hb dd_Long_remainderUnsigned_12 rfl ?_
    obtain ⟨a1, ea1, h⟩ := xp_let h
    refine xr_naml ea1 ?_
    refine lv_lstore (lv' := [(4, .long a1), (0, .long x0), (2, .long x1)]) hx hb dd_Long_remainderUnsigned_13 hl (by decide) rfl (fun ls hl => ?_)
    refine lv_lload_n hx hb dd_Long_remainderUnsigned_15 rfl (lv_at hl 1 rfl) ?_
    refine lv_lload hx hb dd_Long_remainderUnsigned_16 (lv_at hl 0 rfl) ?_
    refine lv_lload_n hx hb dd_Long_remainderUnsigned_18 rfl (lv_at hl 2 rfl) ?_
    refine lv_lmul hx hb dd_Long_remainderUnsigned_19 ?_
    refine lv_lsub hx hb dd_Long_remainderUnsigned_20 ?_
    obtain ⟨a2, ea2, h⟩ := xp_let h
    refine xr_naml ea2 ?_
    refine lv_lstore (lv' := [(6, .long a2), (4, .long a1), (0, .long x0), (2, .long x1)]) hx hb dd_Long_remainderUnsigned_21 hl (by decide) rfl (fun ls hl => ?_)
    refine lv_lload hx hb dd_Long_remainderUnsigned_23 (lv_at hl 0 rfl) ?_
    refine lv_lload hx hb dd_Long_remainderUnsigned_25 (lv_at hl 0 rfl) ?_
    refine lv_lload_n hx hb dd_Long_remainderUnsigned_27 rfl (lv_at hl 3 rfl) ?_
    refine lv_lsub hx hb dd_Long_remainderUnsigned_28 ?_
    refine lv_ldc2 (v := (-1)) hx hb C.1.2.2.2.1 (C.1.2.2.2.2 _ (xk_c11 (w := Jvm.Cond.constantLong "java/lang/Long" 306 (-1)) 108 rfl rfl)) dd_Long_remainderUnsigned_29 ?_
    refine lv_lxor hx hb dd_Long_remainderUnsigned_32 ?_
    refine lv_bipush (v := 63) hx hb dd_Long_remainderUnsigned_33 (by decide) ?_
    refine lv_lshr hx hb dd_Long_remainderUnsigned_35 rfl ?_
    refine lv_lload_n hx hb dd_Long_remainderUnsigned_36 rfl (lv_at hl 3 rfl) ?_
    refine lv_land hx hb dd_Long_remainderUnsigned_37 ?_
    refine lv_lsub hx hb dd_Long_remainderUnsigned_38 ?_
    obtain ⟨rfl, rfl⟩ := xp_r h
    exact xr_lret C hP hS dd_Long_remainderUnsigned_39
abbrev rm_Long_divideUnsigned__m : Room := { frames := 1, cells := 1, slots := 6, locals := 0 }
noncomputable def fm_Long_divideUnsigned__m (x0 : Int64) (x1 : Int64) (u : xk_St) : Option (Int64 × xk_St) :=
  if x1 < (0 : Int64) then (some ((((x0 &&& ((x0 - x1) ^^^ (-1 : Int64))).toUInt64 >>> ((63 : Int32).toInt64.toUInt64 &&& Int64.toUInt64 63)).toInt64), u)) else ((if x1 = (0 : Int64) then none else xs_let ((((x0.toUInt64 >>> ((1 : Int32).toInt64.toUInt64 &&& Int64.toUInt64 63)).toInt64) / x1) <<< ((1 : Int32).toInt64 &&& 63)) fun a1 => xs_let (x0 - (a1 * x1)) fun a2 => some ((a1 + (((a2 ||| ((a2 - x1) ^^^ (-1 : Int64))).toUInt64 >>> ((63 : Int32).toInt64.toUInt64 &&& Int64.toUInt64 63)).toInt64)), u)))
set_option maxHeartbeats 4000000 in
set_option maxRecDepth 100000 in
theorem ct_Long_divideUnsigned__m {l : Launch} {D : va_G} {ad : Nat → Nat} {ca : Nat → ClassId} {ads : List Nat} (htr : l.stackTraces = false) (hok : xk_ok (kw_m ad ca) ads) {x0 : Int64} {x1 : Int64} {u u' : xk_St} {r : Int64} (h : fm_Long_divideUnsigned__m x0 x1 u = some (r, u')) :
    ∀ sz, xk_Met l ⟨"java/lang/Long", "divideUnsigned", "(JJ)J"⟩ (Cond.code ⟨"java/lang/Long", "divideUnsigned", "(JJ)J"⟩ prog_21_method_44_code 8 (some .long) :: xk_gd) rm_Long_divideUnsigned__m (xk_Pc D kx_cl (kx_ty ca) (kw_m ad ca) ads xk_F sz [.long x0, .long x1] u) (xk_Qc D kx_cl (kw_m ad ca) ads (xo_l (.inl r)) u') (xk_A ads sz) := by
  unfold fm_Long_divideUnsigned__m at h
  refine xk_con (by decide) htr hok (Nat.le_of_ble_eq_true rfl) (fun p e s m below meth c ls C hne hl hP => ?_)
  have hx := C.1.1
  have hb := C.1.2.1
  have hS : va_S (xk_A ads s.heap.size) s.heap s.heap [] := va_S.rf
  have hl : lv_has ls 8 [(0, .long x0), (2, .long x1)] := hl
  refine lv_lload_n hx hb dd_Long_divideUnsigned_0 rfl (lv_at hl 1 rfl) ?_
  refine lv_lconst (v := 0) hx hb dd_Long_divideUnsigned_1 (by decide) ?_
  refine xr_lc_lt (tgt := 41) hx hb dd_Long_divideUnsigned_2 dd_Long_divideUnsigned_3 (by decide) (fun hc => ?_) (fun hc => ?_)
  · have h := xp_t hc h
    refine lv_lload_n hx hb dd_Long_divideUnsigned_41 rfl (lv_at hl 0 rfl) ?_
    refine lv_lload_n hx hb dd_Long_divideUnsigned_42 rfl (lv_at hl 0 rfl) ?_
    refine lv_lload_n hx hb dd_Long_divideUnsigned_43 rfl (lv_at hl 1 rfl) ?_
    refine lv_lsub hx hb dd_Long_divideUnsigned_44 ?_
    refine lv_ldc2 (v := (-1)) hx hb C.1.2.2.2.1 (C.1.2.2.2.2 _ (xk_c11 (w := Jvm.Cond.constantLong "java/lang/Long" 306 (-1)) 108 rfl rfl)) dd_Long_divideUnsigned_45 ?_
    refine lv_lxor hx hb dd_Long_divideUnsigned_48 ?_
    refine lv_land hx hb dd_Long_divideUnsigned_49 ?_
    refine lv_bipush (v := 63) hx hb dd_Long_divideUnsigned_50 (by decide) ?_
    refine lv_lushr hx hb dd_Long_divideUnsigned_52 rfl ?_
    obtain ⟨rfl, rfl⟩ := xp_r h
    exact xr_lret C hP hS dd_Long_divideUnsigned_53
  · have h := xp_f hc h
    refine lv_lload_n hx hb dd_Long_divideUnsigned_6 rfl (lv_at hl 0 rfl) ?_
    refine lv_iconst (v := 1) hx hb dd_Long_divideUnsigned_7 (by decide) ?_
    refine lv_lushr hx hb dd_Long_divideUnsigned_8 rfl ?_
    refine lv_lload_n hx hb dd_Long_divideUnsigned_9 rfl (lv_at hl 1 rfl) ?_
    obtain ⟨hz, h⟩ := xp_g h
    refine lv_ldiv hx hb dd_Long_divideUnsigned_10 hz ?_
    refine lv_iconst (v := 1) hx hb dd_Long_divideUnsigned_11 (by decide) ?_
    refine lv_lshl hx hb dd_Long_divideUnsigned_12 rfl ?_
    obtain ⟨a1, ea1, h⟩ := xp_let h
    refine xr_naml ea1 ?_
    refine lv_lstore (lv' := [(4, .long a1), (0, .long x0), (2, .long x1)]) hx hb dd_Long_divideUnsigned_13 hl (by decide) rfl (fun ls hl => ?_)
    refine lv_lload_n hx hb dd_Long_divideUnsigned_15 rfl (lv_at hl 1 rfl) ?_
    refine lv_lload hx hb dd_Long_divideUnsigned_16 (lv_at hl 0 rfl) ?_
    refine lv_lload_n hx hb dd_Long_divideUnsigned_18 rfl (lv_at hl 2 rfl) ?_
    refine lv_lmul hx hb dd_Long_divideUnsigned_19 ?_
    refine lv_lsub hx hb dd_Long_divideUnsigned_20 ?_
    obtain ⟨a2, ea2, h⟩ := xp_let h
    refine xr_naml ea2 ?_
    refine lv_lstore (lv' := [(6, .long a2), (4, .long a1), (0, .long x0), (2, .long x1)]) hx hb dd_Long_divideUnsigned_21 hl (by decide) rfl (fun ls hl => ?_)
    refine lv_lload hx hb dd_Long_divideUnsigned_23 (lv_at hl 1 rfl) ?_
    refine lv_lload hx hb dd_Long_divideUnsigned_25 (lv_at hl 0 rfl) ?_
    refine lv_lload hx hb dd_Long_divideUnsigned_27 (lv_at hl 0 rfl) ?_
    refine lv_lload_n hx hb dd_Long_divideUnsigned_29 rfl (lv_at hl 3 rfl) ?_
    refine lv_lsub hx hb dd_Long_divideUnsigned_30 ?_
    refine lv_ldc2 (v := (-1)) hx hb C.1.2.2.2.1 (C.1.2.2.2.2 _ (xk_c11 (w := Jvm.Cond.constantLong "java/lang/Long" 306 (-1)) 108 rfl rfl)) dd_Long_divideUnsigned_31 ?_
    refine lv_lxor hx hb dd_Long_divideUnsigned_34 ?_
    refine lv_lor hx hb dd_Long_divideUnsigned_35 ?_
    refine lv_bipush (v := 63) hx hb dd_Long_divideUnsigned_36 (by decide) ?_
    refine lv_lushr hx hb dd_Long_divideUnsigned_38 rfl ?_
    refine lv_ladd hx hb dd_Long_divideUnsigned_39 ?_
    obtain ⟨rfl, rfl⟩ := xp_r h
    exact xr_lret C hP hS dd_Long_divideUnsigned_40
