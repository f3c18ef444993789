abbrev rm_Checker_checkStructure : Room := { frames := 8, cells := 1, slots := 6, locals := 141 }
noncomputable def jb_Checker_checkStructure_199 (fu : Nat) (b2 : Int32) (b6 : Int32) (s0 : Int32) (u : xk_St) : Option ((Unit ⊕ Nat) × xk_St) :=
  (xs_try (fm_Checker_need s0 u) fun _ u10 => xs_seq (fm_Types_reference ((3 : Int32) + b2) (1 : Int32) u10) fun a11 u12 => xs_try (fm_Checker_pop_I a11 u12) fun _ u13 => xs_seq (fm_Types_unpacked b6 u13) fun a14 u15 => xs_try (fm_Checker_push a14 u15) fun _ u16 => some (.inl (()), u16))
noncomputable def jb_Checker_checkStructure_191 (fu : Nat) (b2 : Int32) (b6 : Int32) (s0 : Int32) (s1 : Int32) (u : xk_St) : Option ((Unit ⊕ Nat) × xk_St) :=
  if s1 = s0 then (jb_Checker_checkStructure_199 fu b2 b6 (1 : Int32) u) else (jb_Checker_checkStructure_199 fu b2 b6 (0 : Int32) u)
noncomputable def jb_Checker_checkStructure_120 (fu : Nat) (b1 : Int32) (b2 : Int32) (b3 : Int64) (s0 : Int32) (u : xk_St) : Option ((Unit ⊕ Nat) × xk_St) :=
  (xs_try (fm_Checker_need s0 u) fun _ u5 => xs_seq (fm_Types_member b2 (b3.toInt32) u5) fun a6 u7 => if b1 = (5 : Int32) then ((xs_seq (fm_Types_canBeSet b2 (b3.toInt32) u7) fun a17 u18 => xs_try (fm_Checker_need a17 u18) fun _ u19 => xs_seq (fm_Types_unpacked a6 u19) fun a20 u21 => xs_try (fm_Checker_pop_I a20 u21) fun _ u22 => xs_seq (fm_Types_reference ((3 : Int32) + b2) (1 : Int32) u22) fun a23 u24 => xs_try (fm_Checker_pop_I a23 u24) fun _ u25 => some (.inl (()), u25))) else ((xs_seq (fm_Types_isPacked a6 u7) fun a8 u9 => if b1 ≤ (2 : Int32) then (jb_Checker_checkStructure_191 fu b2 a6 (0 : Int32) a8 u9) else (jb_Checker_checkStructure_191 fu b2 a6 (1 : Int32) a8 u9))))
noncomputable def jb_Checker_checkStructure_89 (fu : Nat) (k35 : Int32 → Int32 → Int32 → xk_St → Option ((Unit ⊕ Nat) × xk_St)) (b1 : Int32) (b2 : Int32) (b6 : Int32) (u : xk_St) : Option ((Unit ⊕ Nat) × xk_St) :=
  (xs_let (b6 + (-1 : Int32)) fun a31 => k35 b1 b2 a31 u)
noncomputable def jb_Checker_checkStructure_65 (fu : Nat) (k35 : Int32 → Int32 → Int32 → xk_St → Option ((Unit ⊕ Nat) × xk_St)) (b1 : Int32) (b2 : Int32) (b6 : Int32) (s0 : Int32) (u : xk_St) : Option ((Unit ⊕ Nat) × xk_St) :=
  (xs_try (fm_Checker_need s0 u) fun _ u30 => if b1 = (0 : Int32) then ((xs_seq (fm_Types_member b2 b6 u30) fun a32 u33 => xs_seq (fm_Types_unpacked a32 u33) fun a34 u35 => xs_try (fm_Checker_pop_I a34 u35) fun _ u36 => jb_Checker_checkStructure_89 fu k35 b1 b2 b6 u36)) else (jb_Checker_checkStructure_89 fu k35 b1 b2 b6 u30))
noncomputable def jb_Checker_checkStructure_60 (fu : Nat) (k35 : Int32 → Int32 → Int32 → xk_St → Option ((Unit ⊕ Nat) × xk_St)) (b1 : Int32) (b2 : Int32) (b6 : Int32) (u : xk_St) : Option ((Unit ⊕ Nat) × xk_St) :=
  jb_Checker_checkStructure_65 fu k35 b1 b2 b6 (1 : Int32) u
noncomputable def jb_Checker_checkStructure_35 (fu : Nat) : Nat → Int32 → Int32 → Int32 → xk_St → Option ((Unit ⊕ Nat) × xk_St)
  | 0 => fun _ _ _ _ => none
  | n + 1 => fun b1 b2 b6 u =>
    xs_let (jb_Checker_checkStructure_35 fu  n) fun k35 =>
    if b6 < (0 : Int32) then ((xs_seq (fm_Types_reference ((3 : Int32) + b2) (0 : Int32) u) fun a27 u28 => xs_try (fm_Checker_push a27 u28) fun _ u29 => some (.inl (()), u29))) else (if b1 = (0 : Int32) then (jb_Checker_checkStructure_60 fu k35 b1 b2 b6 u) else ((xs_seq (fm_Types_member b2 b6 u) fun a37 u38 => xs_seq (fm_Types_hasDefault a37 u38) fun a39 u40 => if a39 = (0 : Int32) then (jb_Checker_checkStructure_65 fu k35 b1 b2 b6 (0 : Int32) u40) else (jb_Checker_checkStructure_60 fu k35 b1 b2 b6 u40))))
noncomputable def fm_Checker_checkStructure (fu : Nat) (x0 : Int32) (x1 : Int32) (x2 : Int64) (u : xk_St) : Option ((Unit ⊕ Nat) × xk_St) :=
  (xs_seq (fm_Types_is x1 (95 : Int32) u) fun a1 u2 => xs_try (fm_Checker_need a1 u2) fun _ u3 => if x1 < 0 ∨ 65 ≤ x1.toNatClampNeg then none else xs_let (u3.2.2.1 3 x1.toNatClampNeg) fun a4 => if (1 : Int32) < x0 then (if (a4.toInt64) ≤ x2 then (jb_Checker_checkStructure_120 fu x0 x1 x2 (0 : Int32) u3) else (jb_Checker_checkStructure_120 fu x0 x1 x2 (1 : Int32) u3)) else ((xs_let (a4 - (1 : Int32)) fun a26 => jb_Checker_checkStructure_35 fu fu x0 x1 a26 u3)))
set_option maxHeartbeats 4000000 in
set_option maxRecDepth 100000 in
theorem wj_Checker_checkStructure_199 {p : Program} {l : Launch} {e : Env} {s : State} {m : MethodId} {args : Array Value} {below : List Frame} {meth : Method} {c : Code} {D : va_G} {ad : Nat → Nat} {ca : Nat → ClassId} {ads : List Nat} {fu : Nat} (htr : l.stackTraces = false) (C : xk_C D kx_cl (kx_ty ca) (kw_h ad ca) ads "ModuleHouse$Checker" prog_2_method_48_code 7 none p e s m args meth c) (hne : c.exceptionTable.isEmpty = true) {u' : xk_St} {r : (Unit ⊕ Nat)} {b2 : Int32} {b6 : Int32} {s0 : Int32} {u : xk_St} {H : Heap} {locs : List Loc} {ls : Array Slot} (h : jb_Checker_checkStructure_199 fu  b2 b6 s0 u = some (r, u')) (hP : va_P D kx_cl (kw_h ad ca u) H) (hS : va_S (xk_A ads s.heap.size) s.heap H locs) (hl : lv_has ls 7 [(0, .ref (ad 55)), (2, .int b2), (6, .int b6)]) : W p l e rm_Checker_checkStructure s m args below meth c H locs 0 0 (xk_MQ below (xk_Qc D kx_cl (kw_h ad ca) ads (xo_v r) u') args s (xk_A ads s.heap.size)) (F0 m 199 ls [.int s0]) := by
  have hx := C.1.1
  have hb := C.1.2.1
  have hok := C.2.2.1
  unfold jb_Checker_checkStructure_199 at h
  rcases xp_try h with ⟨rx, u10, hq, h⟩ | ⟨kx, ux, hq, h⟩
  rotate_left
  · obtain ⟨rfl, rfl⟩ := xp_q h
    exact xk_up (xr_S (As := [.int s0]) (rest := []) C hP hS (ct_Checker_need htr hok hq) kq_Checker_60 ⟨rfl, rfl, Nat.le_of_ble_eq_true rfl, Nat.le_of_ble_eq_true rfl⟩ ⟨Nat.le_of_ble_eq_true rfl, Nat.le_of_ble_eq_true rfl⟩ hl.1 rfl rfl (Nat.le_of_ble_eq_true rfl) dd_Checker_checkStructure_199) hS hne C.2.2.2.2.2.2.1
  refine xk_goesV (xr_S (As := [.int s0]) (rest := []) C hP hS (ct_Checker_need htr hok hq) kq_Checker_60 ⟨rfl, rfl, Nat.le_of_ble_eq_true rfl, Nat.le_of_ble_eq_true rfl⟩ ⟨Nat.le_of_ble_eq_true rfl, Nat.le_of_ble_eq_true rfl⟩ hl.1 rfl rfl (Nat.le_of_ble_eq_true rfl) dd_Checker_checkStructure_199) hS (fun H locs hP hS => ?_)
  clear hq
  refine lv_aload_n hx hb dd_Checker_checkStructure_202 rfl (lv_at hl 0 rfl) ?_
  refine lv_iconst (v := 3) hx hb dd_Checker_checkStructure_203 (by decide) ?_
  refine lv_iload_n hx hb dd_Checker_checkStructure_204 rfl (lv_at hl 1 rfl) ?_
  refine lv_iadd hx hb dd_Checker_checkStructure_205 ?_
  refine lv_iconst (v := 1) hx hb dd_Checker_checkStructure_206 (by decide) ?_
  obtain ⟨a11, u12, hq, h⟩ := xp_seq h
  refine xk_goesI (xr_S (As := [.int ((3 : Int32) + b2), .int (1 : Int32)]) (rest := [.ref (ad 55)]) C hP hS (ct_Types_reference htr hok hq) kq_Checker_231 ⟨rfl, rfl, Nat.le_of_ble_eq_true rfl, Nat.le_of_ble_eq_true rfl⟩ ⟨Nat.le_of_ble_eq_true rfl, Nat.le_of_ble_eq_true rfl⟩ hl.1 rfl rfl (Nat.le_of_ble_eq_true rfl) dd_Checker_checkStructure_207) hS (fun H locs hP hS => ?_)
  clear hq
  rcases xp_try h with ⟨rx, u13, hq, h⟩ | ⟨kx, ux, hq, h⟩
  rotate_left
  · obtain ⟨rfl, rfl⟩ := xp_q h
    exact xk_up (xr_V (As := [.int a11]) (rest := []) C hP hS (ct_Checker_pop_I htr hok hq) kq_Checker_238 55 1 rfl rfl ⟨rfl, rfl, Nat.le_of_ble_eq_true rfl, Nat.le_of_ble_eq_true rfl⟩ ⟨Nat.le_of_ble_eq_true rfl, Nat.le_of_ble_eq_true rfl⟩ hl.1 rfl rfl (Nat.le_of_ble_eq_true rfl) dd_Checker_checkStructure_210) hS hne C.2.2.2.2.2.2.1
  refine xk_goesV (xr_V (As := [.int a11]) (rest := []) C hP hS (ct_Checker_pop_I htr hok hq) kq_Checker_238 55 1 rfl rfl ⟨rfl, rfl, Nat.le_of_ble_eq_true rfl, Nat.le_of_ble_eq_true rfl⟩ ⟨Nat.le_of_ble_eq_true rfl, Nat.le_of_ble_eq_true rfl⟩ hl.1 rfl rfl (Nat.le_of_ble_eq_true rfl) dd_Checker_checkStructure_210) hS (fun H locs hP hS => ?_)
  clear hq
  refine lv_aload_n hx hb dd_Checker_checkStructure_213 rfl (lv_at hl 0 rfl) ?_
  refine lv_iload hx hb dd_Checker_checkStructure_214 (lv_at hl 2 rfl) ?_
  obtain ⟨a14, u15, hq, h⟩ := xp_seq h
  refine xk_goesI (xr_S (As := [.int b6]) (rest := [.ref (ad 55)]) C hP hS (ct_Types_unpacked htr hok hq) kq_Checker_346 ⟨rfl, rfl, Nat.le_of_ble_eq_true rfl, Nat.le_of_ble_eq_true rfl⟩ ⟨Nat.le_of_ble_eq_true rfl, Nat.le_of_ble_eq_true rfl⟩ hl.1 rfl rfl (Nat.le_of_ble_eq_true rfl) dd_Checker_checkStructure_216) hS (fun H locs hP hS => ?_)
  clear hq
  rcases xp_try h with ⟨rx, u16, hq, h⟩ | ⟨kx, ux, hq, h⟩
  rotate_left
  · obtain ⟨rfl, rfl⟩ := xp_q h
    exact xk_up (xr_V (As := [.int a14]) (rest := []) C hP hS (ct_Checker_push htr hok hq) kq_Checker_203 55 1 rfl rfl ⟨rfl, rfl, Nat.le_of_ble_eq_true rfl, Nat.le_of_ble_eq_true rfl⟩ ⟨Nat.le_of_ble_eq_true rfl, Nat.le_of_ble_eq_true rfl⟩ hl.1 rfl rfl (Nat.le_of_ble_eq_true rfl) dd_Checker_checkStructure_219) hS hne C.2.2.2.2.2.2.1
  refine xk_goesV (xr_V (As := [.int a14]) (rest := []) C hP hS (ct_Checker_push htr hok hq) kq_Checker_203 55 1 rfl rfl ⟨rfl, rfl, Nat.le_of_ble_eq_true rfl, Nat.le_of_ble_eq_true rfl⟩ ⟨Nat.le_of_ble_eq_true rfl, Nat.le_of_ble_eq_true rfl⟩ hl.1 rfl rfl (Nat.le_of_ble_eq_true rfl) dd_Checker_checkStructure_219) hS (fun H locs hP hS => ?_)
  clear hq
  obtain ⟨rfl, rfl⟩ := xp_r h
  exact xr_vret C hP hS dd_Checker_checkStructure_222
set_option maxHeartbeats 4000000 in
set_option maxRecDepth 100000 in
theorem wj_Checker_checkStructure_191 {p : Program} {l : Launch} {e : Env} {s : State} {m : MethodId} {args : Array Value} {below : List Frame} {meth : Method} {c : Code} {D : va_G} {ad : Nat → Nat} {ca : Nat → ClassId} {ads : List Nat} {fu : Nat} (htr : l.stackTraces = false) (C : xk_C D kx_cl (kx_ty ca) (kw_h ad ca) ads "ModuleHouse$Checker" prog_2_method_48_code 7 none p e s m args meth c) (hne : c.exceptionTable.isEmpty = true) {u' : xk_St} {r : (Unit ⊕ Nat)} {b2 : Int32} {b6 : Int32} {s0 : Int32} {s1 : Int32} {u : xk_St} {H : Heap} {locs : List Loc} {ls : Array Slot} (h : jb_Checker_checkStructure_191 fu  b2 b6 s0 s1 u = some (r, u')) (hP : va_P D kx_cl (kw_h ad ca u) H) (hS : va_S (xk_A ads s.heap.size) s.heap H locs) (hl : lv_has ls 7 [(0, .ref (ad 55)), (2, .int b2), (6, .int b6)]) : W p l e rm_Checker_checkStructure s m args below meth c H locs 0 0 (xk_MQ below (xk_Qc D kx_cl (kw_h ad ca) ads (xo_v r) u') args s (xk_A ads s.heap.size)) (F0 m 191 ls [.int s0, .int s1]) := by
  have hx := C.1.1
  have hb := C.1.2.1
  have hok := C.2.2.1
  unfold jb_Checker_checkStructure_191 at h
  refine lv_icmp_ne (tgt := 198) hx hb dd_Checker_checkStructure_191 (by decide) (fun hc => ?_) (fun hc => ?_)
  · have h := xp_f hc h
    refine lv_iconst (v := 0) hx hb dd_Checker_checkStructure_198 (by decide) ?_
    exact wj_Checker_checkStructure_199 htr C hne h hP hS (lv_sub hl [0, 1, 2] rfl)
  · have h := xp_t hc h
    refine lv_iconst (v := 1) hx hb dd_Checker_checkStructure_194 (by decide) ?_
    refine lv_goto (tgt := 199) hx hb dd_Checker_checkStructure_195 (by decide) ?_
    exact wj_Checker_checkStructure_199 htr C hne h hP hS (lv_sub hl [0, 1, 2] rfl)
set_option maxHeartbeats 4000000 in
set_option maxRecDepth 100000 in
theorem wj_Checker_checkStructure_120 {p : Program} {l : Launch} {e : Env} {s : State} {m : MethodId} {args : Array Value} {below : List Frame} {meth : Method} {c : Code} {D : va_G} {ad : Nat → Nat} {ca : Nat → ClassId} {ads : List Nat} {fu : Nat} (htr : l.stackTraces = false) (C : xk_C D kx_cl (kx_ty ca) (kw_h ad ca) ads "ModuleHouse$Checker" prog_2_method_48_code 7 none p e s m args meth c) (hne : c.exceptionTable.isEmpty = true) {u' : xk_St} {r : (Unit ⊕ Nat)} {b1 : Int32} {b2 : Int32} {b3 : Int64} {s0 : Int32} {u : xk_St} {H : Heap} {locs : List Loc} {ls : Array Slot} (h : jb_Checker_checkStructure_120 fu  b1 b2 b3 s0 u = some (r, u')) (hP : va_P D kx_cl (kw_h ad ca u) H) (hS : va_S (xk_A ads s.heap.size) s.heap H locs) (hl : lv_has ls 7 [(0, .ref (ad 55)), (1, .int b1), (2, .int b2), (3, .long b3)]) : W p l e rm_Checker_checkStructure s m args below meth c H locs 0 0 (xk_MQ below (xk_Qc D kx_cl (kw_h ad ca) ads (xo_v r) u') args s (xk_A ads s.heap.size)) (F0 m 120 ls [.int s0]) := by
  have hx := C.1.1
  have hb := C.1.2.1
  have hok := C.2.2.1
  unfold jb_Checker_checkStructure_120 at h
  rcases xp_try h with ⟨rx, u5, hq, h⟩ | ⟨kx, ux, hq, h⟩
  rotate_left
  · obtain ⟨rfl, rfl⟩ := xp_q h
    exact xk_up (xr_S (As := [.int s0]) (rest := []) C hP hS (ct_Checker_need htr hok hq) kq_Checker_60 ⟨rfl, rfl, Nat.le_of_ble_eq_true rfl, Nat.le_of_ble_eq_true rfl⟩ ⟨Nat.le_of_ble_eq_true rfl, Nat.le_of_ble_eq_true rfl⟩ hl.1 rfl rfl (Nat.le_of_ble_eq_true rfl) dd_Checker_checkStructure_120) hS hne C.2.2.2.2.2.2.1
  refine xk_goesV (xr_S (As := [.int s0]) (rest := []) C hP hS (ct_Checker_need htr hok hq) kq_Checker_60 ⟨rfl, rfl, Nat.le_of_ble_eq_true rfl, Nat.le_of_ble_eq_true rfl⟩ ⟨Nat.le_of_ble_eq_true rfl, Nat.le_of_ble_eq_true rfl⟩ hl.1 rfl rfl (Nat.le_of_ble_eq_true rfl) dd_Checker_checkStructure_120) hS (fun H locs hP hS => ?_)
  clear hq
  refine lv_aload_n hx hb dd_Checker_checkStructure_123 rfl (lv_at hl 0 rfl) ?_
  refine gf_h_Checker_55_types C hP dd_Checker_checkStructure_124 ?_
  refine lv_iload_n hx hb dd_Checker_checkStructure_127 rfl (lv_at hl 2 rfl) ?_
  refine lv_lload_n hx hb dd_Checker_checkStructure_128 rfl (lv_at hl 3 rfl) ?_
  refine lv_l2i hx hb dd_Checker_checkStructure_129 rfl ?_
  obtain ⟨a6, u7, hq, h⟩ := xp_seq h
  refine xk_goesI (xr_V (As := [.int b2, .int (b3.toInt32)]) (rest := []) C hP hS (ct_Types_member htr hok hq) kq_Checker_107 6 9 rfl rfl ⟨rfl, rfl, Nat.le_of_ble_eq_true rfl, Nat.le_of_ble_eq_true rfl⟩ ⟨Nat.le_of_ble_eq_true rfl, Nat.le_of_ble_eq_true rfl⟩ hl.1 rfl rfl (Nat.le_of_ble_eq_true rfl) dd_Checker_checkStructure_130) hS (fun H locs hP hS => ?_)
  clear hq
  refine lv_istore (lv' := [(6, .int a6), (0, .ref (ad 55)), (1, .int b1), (2, .int b2), (3, .long b3)]) hx hb dd_Checker_checkStructure_133 hl (by decide) rfl (fun ls hl => ?_)
  refine lv_iload_n hx hb dd_Checker_checkStructure_135 rfl (lv_at hl 2 rfl) ?_
  refine lv_iconst (v := 5) hx hb dd_Checker_checkStructure_136 (by decide) ?_
  refine lv_icmp_ne (tgt := 176) hx hb dd_Checker_checkStructure_137 (by decide) (fun hc => ?_) (fun hc => ?_)
  · have h := xp_f hc h
    refine lv_iload hx hb dd_Checker_checkStructure_176 (lv_at hl 0 rfl) ?_
    obtain ⟨a8, u9, hq, h⟩ := xp_seq h
    refine xk_goesI (xr_S (As := [.int a6]) (rest := []) C hP hS (ct_Types_isPacked htr hok hq) kq_Checker_352 ⟨rfl, rfl, Nat.le_of_ble_eq_true rfl, Nat.le_of_ble_eq_true rfl⟩ ⟨Nat.le_of_ble_eq_true rfl, Nat.le_of_ble_eq_true rfl⟩ hl.1 rfl rfl (Nat.le_of_ble_eq_true rfl) dd_Checker_checkStructure_178) hS (fun H locs hP hS => ?_)
    clear hq
    refine lv_iload_n hx hb dd_Checker_checkStructure_181 rfl (lv_at hl 2 rfl) ?_
    refine lv_iconst (v := 2) hx hb dd_Checker_checkStructure_182 (by decide) ?_
    refine lv_icmp_le (tgt := 190) hx hb dd_Checker_checkStructure_183 (by decide) (fun hc => ?_) (fun hc => ?_)
    · have h := xp_t hc h
      refine lv_iconst (v := 0) hx hb dd_Checker_checkStructure_190 (by decide) ?_
      exact wj_Checker_checkStructure_191 htr C hne h hP hS (lv_sub hl [1, 3, 0] rfl)
    · have h := xp_f hc h
      refine lv_iconst (v := 1) hx hb dd_Checker_checkStructure_186 (by decide) ?_
      refine lv_goto (tgt := 191) hx hb dd_Checker_checkStructure_187 (by decide) ?_
      exact wj_Checker_checkStructure_191 htr C hne h hP hS (lv_sub hl [1, 3, 0] rfl)
  · have h := xp_t hc h
    refine lv_aload_n hx hb dd_Checker_checkStructure_140 rfl (lv_at hl 1 rfl) ?_
    refine gf_h_Checker_55_types C hP dd_Checker_checkStructure_141 ?_
    refine lv_iload_n hx hb dd_Checker_checkStructure_144 rfl (lv_at hl 3 rfl) ?_
    refine lv_lload_n hx hb dd_Checker_checkStructure_145 rfl (lv_at hl 4 rfl) ?_
    refine lv_l2i hx hb dd_Checker_checkStructure_146 rfl ?_
    obtain ⟨a17, u18, hq, h⟩ := xp_seq h
    refine xk_goesI (xr_V (As := [.int b2, .int (b3.toInt32)]) (rest := []) C hP hS (ct_Types_canBeSet htr hok hq) kq_Checker_349 6 9 rfl rfl ⟨rfl, rfl, Nat.le_of_ble_eq_true rfl, Nat.le_of_ble_eq_true rfl⟩ ⟨Nat.le_of_ble_eq_true rfl, Nat.le_of_ble_eq_true rfl⟩ hl.1 rfl rfl (Nat.le_of_ble_eq_true rfl) dd_Checker_checkStructure_147) hS (fun H locs hP hS => ?_)
    clear hq
    rcases xp_try h with ⟨rx, u19, hq, h⟩ | ⟨kx, ux, hq, h⟩
    rotate_left
    · obtain ⟨rfl, rfl⟩ := xp_q h
      exact xk_up (xr_S (As := [.int a17]) (rest := []) C hP hS (ct_Checker_need htr hok hq) kq_Checker_60 ⟨rfl, rfl, Nat.le_of_ble_eq_true rfl, Nat.le_of_ble_eq_true rfl⟩ ⟨Nat.le_of_ble_eq_true rfl, Nat.le_of_ble_eq_true rfl⟩ hl.1 rfl rfl (Nat.le_of_ble_eq_true rfl) dd_Checker_checkStructure_150) hS hne C.2.2.2.2.2.2.1
    refine xk_goesV (xr_S (As := [.int a17]) (rest := []) C hP hS (ct_Checker_need htr hok hq) kq_Checker_60 ⟨rfl, rfl, Nat.le_of_ble_eq_true rfl, Nat.le_of_ble_eq_true rfl⟩ ⟨Nat.le_of_ble_eq_true rfl, Nat.le_of_ble_eq_true rfl⟩ hl.1 rfl rfl (Nat.le_of_ble_eq_true rfl) dd_Checker_checkStructure_150) hS (fun H locs hP hS => ?_)
    clear hq
    refine lv_aload_n hx hb dd_Checker_checkStructure_153 rfl (lv_at hl 1 rfl) ?_
    refine lv_iload hx hb dd_Checker_checkStructure_154 (lv_at hl 0 rfl) ?_
    obtain ⟨a20, u21, hq, h⟩ := xp_seq h
    refine xk_goesI (xr_S (As := [.int a6]) (rest := [.ref (ad 55)]) C hP hS (ct_Types_unpacked htr hok hq) kq_Checker_346 ⟨rfl, rfl, Nat.le_of_ble_eq_true rfl, Nat.le_of_ble_eq_true rfl⟩ ⟨Nat.le_of_ble_eq_true rfl, Nat.le_of_ble_eq_true rfl⟩ hl.1 rfl rfl (Nat.le_of_ble_eq_true rfl) dd_Checker_checkStructure_156) hS (fun H locs hP hS => ?_)
    clear hq
    rcases xp_try h with ⟨rx, u22, hq, h⟩ | ⟨kx, ux, hq, h⟩
    rotate_left
    · obtain ⟨rfl, rfl⟩ := xp_q h
      exact xk_up (xr_V (As := [.int a20]) (rest := []) C hP hS (ct_Checker_pop_I htr hok hq) kq_Checker_238 55 1 rfl rfl ⟨rfl, rfl, Nat.le_of_ble_eq_true rfl, Nat.le_of_ble_eq_true rfl⟩ ⟨Nat.le_of_ble_eq_true rfl, Nat.le_of_ble_eq_true rfl⟩ hl.1 rfl rfl (Nat.le_of_ble_eq_true rfl) dd_Checker_checkStructure_159) hS hne C.2.2.2.2.2.2.1
    refine xk_goesV (xr_V (As := [.int a20]) (rest := []) C hP hS (ct_Checker_pop_I htr hok hq) kq_Checker_238 55 1 rfl rfl ⟨rfl, rfl, Nat.le_of_ble_eq_true rfl, Nat.le_of_ble_eq_true rfl⟩ ⟨Nat.le_of_ble_eq_true rfl, Nat.le_of_ble_eq_true rfl⟩ hl.1 rfl rfl (Nat.le_of_ble_eq_true rfl) dd_Checker_checkStructure_159) hS (fun H locs hP hS => ?_)
    clear hq
    refine lv_aload_n hx hb dd_Checker_checkStructure_162 rfl (lv_at hl 1 rfl) ?_
    refine lv_iconst (v := 3) hx hb dd_Checker_checkStructure_163 (by decide) ?_
    refine lv_iload_n hx hb dd_Checker_checkStructure_164 rfl (lv_at hl 3 rfl) ?_
    refine lv_iadd hx hb dd_Checker_checkStructure_165 ?_
    refine lv_iconst (v := 1) hx hb dd_Checker_checkStructure_166 (by decide) ?_
    obtain ⟨a23, u24, hq, h⟩ := xp_seq h
    refine xk_goesI (xr_S (As := [.int ((3 : Int32) + b2), .int (1 : Int32)]) (rest := [.ref (ad 55)]) C hP hS (ct_Types_reference htr hok hq) kq_Checker_231 ⟨rfl, rfl, Nat.le_of_ble_eq_true rfl, Nat.le_of_ble_eq_true rfl⟩ ⟨Nat.le_of_ble_eq_true rfl, Nat.le_of_ble_eq_true rfl⟩ hl.1 rfl rfl (Nat.le_of_ble_eq_true rfl) dd_Checker_checkStructure_167) hS (fun H locs hP hS => ?_)
    clear hq
    rcases xp_try h with ⟨rx, u25, hq, h⟩ | ⟨kx, ux, hq, h⟩
    rotate_left
    · obtain ⟨rfl, rfl⟩ := xp_q h
      exact xk_up (xr_V (As := [.int a23]) (rest := []) C hP hS (ct_Checker_pop_I htr hok hq) kq_Checker_238 55 1 rfl rfl ⟨rfl, rfl, Nat.le_of_ble_eq_true rfl, Nat.le_of_ble_eq_true rfl⟩ ⟨Nat.le_of_ble_eq_true rfl, Nat.le_of_ble_eq_true rfl⟩ hl.1 rfl rfl (Nat.le_of_ble_eq_true rfl) dd_Checker_checkStructure_170) hS hne C.2.2.2.2.2.2.1
    refine xk_goesV (xr_V (As := [.int a23]) (rest := []) C hP hS (ct_Checker_pop_I htr hok hq) kq_Checker_238 55 1 rfl rfl ⟨rfl, rfl, Nat.le_of_ble_eq_true rfl, Nat.le_of_ble_eq_true rfl⟩ ⟨Nat.le_of_ble_eq_true rfl, Nat.le_of_ble_eq_true rfl⟩ hl.1 rfl rfl (Nat.le_of_ble_eq_true rfl) dd_Checker_checkStructure_170) hS (fun H locs hP hS => ?_)
    clear hq
    refine lv_goto (tgt := 222) hx hb dd_Checker_checkStructure_173 (by decide) ?_
    obtain ⟨rfl, rfl⟩ := xp_r h
    exact xr_vret C hP hS dd_Checker_checkStructure_222
set_option maxHeartbeats 4000000 in
set_option maxRecDepth 100000 in
theorem wj_Checker_checkStructure_89 {p : Program} {l : Launch} {e : Env} {s : State} {m : MethodId} {args : Array Value} {below : List Frame} {meth : Method} {c : Code} {D : va_G} {ad : Nat → Nat} {ca : Nat → ClassId} {ads : List Nat} {fu : Nat} (htr : l.stackTraces = false) (C : xk_C D kx_cl (kx_ty ca) (kw_h ad ca) ads "ModuleHouse$Checker" prog_2_method_48_code 7 none p e s m args meth c) (hne : c.exceptionTable.isEmpty = true) {u' : xk_St} {r : (Unit ⊕ Nat)} {k35 : Int32 → Int32 → Int32 → xk_St → Option ((Unit ⊕ Nat) × xk_St)} (hk35 : ∀ (c0 : Int32) (c1 : Int32) (c2 : Int32) (u : xk_St) (H : Heap) (locs : List Loc) (ls : Array Slot), k35 c0 c1 c2 u = some (r, u') → va_P D kx_cl (kw_h ad ca u) H → va_S (xk_A ads s.heap.size) s.heap H locs → lv_has ls 7 [(0, .ref (ad 55)), (1, .int c0), (2, .int c1), (6, .int c2)] → W p l e rm_Checker_checkStructure s m args below meth c H locs 0 0 (xk_MQ below (xk_Qc D kx_cl (kw_h ad ca) ads (xo_v r) u') args s (xk_A ads s.heap.size)) (F0 m 35 ls [])) {b1 : Int32} {b2 : Int32} {b6 : Int32} {u : xk_St} {H : Heap} {locs : List Loc} {ls : Array Slot} (h : jb_Checker_checkStructure_89 fu k35 b1 b2 b6 u = some (r, u')) (hP : va_P D kx_cl (kw_h ad ca u) H) (hS : va_S (xk_A ads s.heap.size) s.heap H locs) (hl : lv_has ls 7 [(0, .ref (ad 55)), (1, .int b1), (2, .int b2), (6, .int b6)]) : W p l e rm_Checker_checkStructure s m args below meth c H locs 0 0 (xk_MQ below (xk_Qc D kx_cl (kw_h ad ca) ads (xo_v r) u') args s (xk_A ads s.heap.size)) (F0 m 89 ls []) := by
  have hx := C.1.1
  have hb := C.1.2.1
  have hok := C.2.2.1
  unfold jb_Checker_checkStructure_89 at h
  obtain ⟨a31, ea31, h⟩ := xp_let h
  refine lv_iinc (v := a31) (lv' := [(6, .int a31), (0, .ref (ad 55)), (1, .int b1), (2, .int b2)]) hx hb dd_Checker_checkStructure_89 hl (k := 3) rfl (by rw [ea31]; first | rfl | decide) (by decide) rfl (fun ls hl => ?_)
  refine lv_goto (tgt := 35) hx hb dd_Checker_checkStructure_92 (by decide) ?_
  exact hk35 b1 b2 a31 u _ _ _ h hP hS (lv_sub hl [1, 2, 3, 0] rfl)
set_option maxHeartbeats 4000000 in
set_option maxRecDepth 100000 in
theorem wj_Checker_checkStructure_65 {p : Program} {l : Launch} {e : Env} {s : State} {m : MethodId} {args : Array Value} {below : List Frame} {meth : Method} {c : Code} {D : va_G} {ad : Nat → Nat} {ca : Nat → ClassId} {ads : List Nat} {fu : Nat} (htr : l.stackTraces = false) (C : xk_C D kx_cl (kx_ty ca) (kw_h ad ca) ads "ModuleHouse$Checker" prog_2_method_48_code 7 none p e s m args meth c) (hne : c.exceptionTable.isEmpty = true) {u' : xk_St} {r : (Unit ⊕ Nat)} {k35 : Int32 → Int32 → Int32 → xk_St → Option ((Unit ⊕ Nat) × xk_St)} (hk35 : ∀ (c0 : Int32) (c1 : Int32) (c2 : Int32) (u : xk_St) (H : Heap) (locs : List Loc) (ls : Array Slot), k35 c0 c1 c2 u = some (r, u') → va_P D kx_cl (kw_h ad ca u) H → va_S (xk_A ads s.heap.size) s.heap H locs → lv_has ls 7 [(0, .ref (ad 55)), (1, .int c0), (2, .int c1), (6, .int c2)] → W p l e rm_Checker_checkStructure s m args below meth c H locs 0 0 (xk_MQ below (xk_Qc D kx_cl (kw_h ad ca) ads (xo_v r) u') args s (xk_A ads s.heap.size)) (F0 m 35 ls [])) {b1 : Int32} {b2 : Int32} {b6 : Int32} {s0 : Int32} {u : xk_St} {H : Heap} {locs : List Loc} {ls : Array Slot} (h : jb_Checker_checkStructure_65 fu k35 b1 b2 b6 s0 u = some (r, u')) (hP : va_P D kx_cl (kw_h ad ca u) H) (hS : va_S (xk_A ads s.heap.size) s.heap H locs) (hl : lv_has ls 7 [(0, .ref (ad 55)), (1, .int b1), (2, .int b2), (6, .int b6)]) : W p l e rm_Checker_checkStructure s m args below meth c H locs 0 0 (xk_MQ below (xk_Qc D kx_cl (kw_h ad ca) ads (xo_v r) u') args s (xk_A ads s.heap.size)) (F0 m 65 ls [.int s0]) := by
  have hx := C.1.1
  have hb := C.1.2.1
  have hok := C.2.2.1
  unfold jb_Checker_checkStructure_65 at h
  rcases xp_try h with ⟨rx, u30, hq, h⟩ | ⟨kx, ux, hq, h⟩
  rotate_left
  · obtain ⟨rfl, rfl⟩ := xp_q h
    exact xk_up (xr_S (As := [.int s0]) (rest := []) C hP hS (ct_Checker_need htr hok hq) kq_Checker_60 ⟨rfl, rfl, Nat.le_of_ble_eq_true rfl, Nat.le_of_ble_eq_true rfl⟩ ⟨Nat.le_of_ble_eq_true rfl, Nat.le_of_ble_eq_true rfl⟩ hl.1 rfl rfl (Nat.le_of_ble_eq_true rfl) dd_Checker_checkStructure_65) hS hne C.2.2.2.2.2.2.1
  refine xk_goesV (xr_S (As := [.int s0]) (rest := []) C hP hS (ct_Checker_need htr hok hq) kq_Checker_60 ⟨rfl, rfl, Nat.le_of_ble_eq_true rfl, Nat.le_of_ble_eq_true rfl⟩ ⟨Nat.le_of_ble_eq_true rfl, Nat.le_of_ble_eq_true rfl⟩ hl.1 rfl rfl (Nat.le_of_ble_eq_true rfl) dd_Checker_checkStructure_65) hS (fun H locs hP hS => ?_)
  clear hq
  refine lv_iload_n hx hb dd_Checker_checkStructure_68 rfl (lv_at hl 1 rfl) ?_
  refine lv_if_ne (tgt := 89) hx hb dd_Checker_checkStructure_69 (by decide) (fun hc => ?_) (fun hc => ?_)
  · have h := xp_f hc h
    exact wj_Checker_checkStructure_89 htr C hne hk35 h hP hS (lv_sub hl [0, 1, 2, 3] rfl)
  · have h := xp_t hc h
    refine lv_aload_n hx hb dd_Checker_checkStructure_72 rfl (lv_at hl 0 rfl) ?_
    refine lv_aload_n hx hb dd_Checker_checkStructure_73 rfl (lv_at hl 0 rfl) ?_
    refine gf_h_Checker_55_types C hP dd_Checker_checkStructure_74 ?_
    refine lv_iload_n hx hb dd_Checker_checkStructure_77 rfl (lv_at hl 2 rfl) ?_
    refine lv_iload hx hb dd_Checker_checkStructure_78 (lv_at hl 3 rfl) ?_
    obtain ⟨a32, u33, hq, h⟩ := xp_seq h
    refine xk_goesI (xr_V (As := [.int b2, .int b6]) (rest := [.ref (ad 55)]) C hP hS (ct_Types_member htr hok hq) kq_Checker_107 6 9 rfl rfl ⟨rfl, rfl, Nat.le_of_ble_eq_true rfl, Nat.le_of_ble_eq_true rfl⟩ ⟨Nat.le_of_ble_eq_true rfl, Nat.le_of_ble_eq_true rfl⟩ hl.1 rfl rfl (Nat.le_of_ble_eq_true rfl) dd_Checker_checkStructure_80) hS (fun H locs hP hS => ?_)
    clear hq
    obtain ⟨a34, u35, hq, h⟩ := xp_seq h
    refine xk_goesI (xr_S (As := [.int a32]) (rest := [.ref (ad 55)]) C hP hS (ct_Types_unpacked htr hok hq) kq_Checker_346 ⟨rfl, rfl, Nat.le_of_ble_eq_true rfl, Nat.le_of_ble_eq_true rfl⟩ ⟨Nat.le_of_ble_eq_true rfl, Nat.le_of_ble_eq_true rfl⟩ hl.1 rfl rfl (Nat.le_of_ble_eq_true rfl) dd_Checker_checkStructure_83) hS (fun H locs hP hS => ?_)
    clear hq
    rcases xp_try h with ⟨rx, u36, hq, h⟩ | ⟨kx, ux, hq, h⟩
    rotate_left
    · obtain ⟨rfl, rfl⟩ := xp_q h
      exact xk_up (xr_V (As := [.int a34]) (rest := []) C hP hS (ct_Checker_pop_I htr hok hq) kq_Checker_238 55 1 rfl rfl ⟨rfl, rfl, Nat.le_of_ble_eq_true rfl, Nat.le_of_ble_eq_true rfl⟩ ⟨Nat.le_of_ble_eq_true rfl, Nat.le_of_ble_eq_true rfl⟩ hl.1 rfl rfl (Nat.le_of_ble_eq_true rfl) dd_Checker_checkStructure_86) hS hne C.2.2.2.2.2.2.1
    refine xk_goesV (xr_V (As := [.int a34]) (rest := []) C hP hS (ct_Checker_pop_I htr hok hq) kq_Checker_238 55 1 rfl rfl ⟨rfl, rfl, Nat.le_of_ble_eq_true rfl, Nat.le_of_ble_eq_true rfl⟩ ⟨Nat.le_of_ble_eq_true rfl, Nat.le_of_ble_eq_true rfl⟩ hl.1 rfl rfl (Nat.le_of_ble_eq_true rfl) dd_Checker_checkStructure_86) hS (fun H locs hP hS => ?_)
    clear hq
    exact wj_Checker_checkStructure_89 htr C hne hk35 h hP hS (lv_sub hl [0, 1, 2, 3] rfl)
set_option maxHeartbeats 4000000 in
set_option maxRecDepth 100000 in
theorem wj_Checker_checkStructure_60 {p : Program} {l : Launch} {e : Env} {s : State} {m : MethodId} {args : Array Value} {below : List Frame} {meth : Method} {c : Code} {D : va_G} {ad : Nat → Nat} {ca : Nat → ClassId} {ads : List Nat} {fu : Nat} (htr : l.stackTraces = false) (C : xk_C D kx_cl (kx_ty ca) (kw_h ad ca) ads "ModuleHouse$Checker" prog_2_method_48_code 7 none p e s m args meth c) (hne : c.exceptionTable.isEmpty = true) {u' : xk_St} {r : (Unit ⊕ Nat)} {k35 : Int32 → Int32 → Int32 → xk_St → Option ((Unit ⊕ Nat) × xk_St)} (hk35 : ∀ (c0 : Int32) (c1 : Int32) (c2 : Int32) (u : xk_St) (H : Heap) (locs : List Loc) (ls : Array Slot), k35 c0 c1 c2 u = some (r, u') → va_P D kx_cl (kw_h ad ca u) H → va_S (xk_A ads s.heap.size) s.heap H locs → lv_has ls 7 [(0, .ref (ad 55)), (1, .int c0), (2, .int c1), (6, .int c2)] → W p l e rm_Checker_checkStructure s m args below meth c H locs 0 0 (xk_MQ below (xk_Qc D kx_cl (kw_h ad ca) ads (xo_v r) u') args s (xk_A ads s.heap.size)) (F0 m 35 ls [])) {b1 : Int32} {b2 : Int32} {b6 : Int32} {u : xk_St} {H : Heap} {locs : List Loc} {ls : Array Slot} (h : jb_Checker_checkStructure_60 fu k35 b1 b2 b6 u = some (r, u')) (hP : va_P D kx_cl (kw_h ad ca u) H) (hS : va_S (xk_A ads s.heap.size) s.heap H locs) (hl : lv_has ls 7 [(0, .ref (ad 55)), (1, .int b1), (2, .int b2), (6, .int b6)]) : W p l e rm_Checker_checkStructure s m args below meth c H locs 0 0 (xk_MQ below (xk_Qc D kx_cl (kw_h ad ca) ads (xo_v r) u') args s (xk_A ads s.heap.size)) (F0 m 60 ls []) := by
  have hx := C.1.1
  have hb := C.1.2.1
  have hok := C.2.2.1
  unfold jb_Checker_checkStructure_60 at h
  refine lv_iconst (v := 1) hx hb dd_Checker_checkStructure_60 (by decide) ?_
  refine lv_goto (tgt := 65) hx hb dd_Checker_checkStructure_61 (by decide) ?_
  exact wj_Checker_checkStructure_65 htr C hne hk35 h hP hS (lv_sub hl [0, 1, 2, 3] rfl)
set_option maxHeartbeats 4000000 in
set_option maxRecDepth 100000 in
theorem wj_Checker_checkStructure_35 {p : Program} {l : Launch} {e : Env} {s : State} {m : MethodId} {args : Array Value} {below : List Frame} {meth : Method} {c : Code} {D : va_G} {ad : Nat → Nat} {ca : Nat → ClassId} {ads : List Nat} {fu : Nat} (htr : l.stackTraces = false) (C : xk_C D kx_cl (kx_ty ca) (kw_h ad ca) ads "ModuleHouse$Checker" prog_2_method_48_code 7 none p e s m args meth c) (hne : c.exceptionTable.isEmpty = true) {u' : xk_St} {r : (Unit ⊕ Nat)} : ∀ {n : Nat} {b1 : Int32} {b2 : Int32} {b6 : Int32} {u : xk_St} {H : Heap} {locs : List Loc} {ls : Array Slot} (h : jb_Checker_checkStructure_35 fu  n b1 b2 b6 u = some (r, u')) (hP : va_P D kx_cl (kw_h ad ca u) H) (hS : va_S (xk_A ads s.heap.size) s.heap H locs) (hl : lv_has ls 7 [(0, .ref (ad 55)), (1, .int b1), (2, .int b2), (6, .int b6)]), W p l e rm_Checker_checkStructure s m args below meth c H locs 0 0 (xk_MQ below (xk_Qc D kx_cl (kw_h ad ca) ads (xo_v r) u') args s (xk_A ads s.heap.size)) (F0 m 35 ls []) := by
  intro n
  have hx := C.1.1
  have hb := C.1.2.1
  have hok := C.2.2.1
  induction n with
  | zero =>
    intro _ _ _ u H locs ls h
    have h : none = some (r, u') := h
    cases h
  | succ n ih =>
    intro b1 b2 b6 u H locs ls h hP hS hl
    unfold jb_Checker_checkStructure_35 at h
    obtain ⟨k35, ek35, h⟩ := xp_let h
    have hk35 : ∀ (c0 : Int32) (c1 : Int32) (c2 : Int32) (u : xk_St) (H : Heap) (locs : List Loc) (ls : Array Slot), k35 c0 c1 c2 u = some (r, u') → va_P D kx_cl (kw_h ad ca u) H → va_S (xk_A ads s.heap.size) s.heap H locs → lv_has ls 7 [(0, .ref (ad 55)), (1, .int c0), (2, .int c1), (6, .int c2)] → W p l e rm_Checker_checkStructure s m args below meth c H locs 0 0 (xk_MQ below (xk_Qc D kx_cl (kw_h ad ca) ads (xo_v r) u') args s (xk_A ads s.heap.size)) (F0 m 35 ls []) := by
      intro c0 c1 c2 u H locs ls h hP hS hl
      subst ek35
      exact ih h hP hS hl
    clear ih ek35
    refine lv_iload hx hb dd_Checker_checkStructure_35 (lv_at hl 3 rfl) ?_
    refine lv_if_lt (tgt := 95) hx hb dd_Checker_checkStructure_37 (by decide) (fun hc => ?_) (fun hc => ?_)
    · have h := xp_t hc h
      refine lv_aload_n hx hb dd_Checker_checkStructure_95 rfl (lv_at hl 0 rfl) ?_
      refine lv_iconst (v := 3) hx hb dd_Checker_checkStructure_96 (by decide) ?_
      refine lv_iload_n hx hb dd_Checker_checkStructure_97 rfl (lv_at hl 2 rfl) ?_
      refine lv_iadd hx hb dd_Checker_checkStructure_98 ?_
      refine lv_iconst (v := 0) hx hb dd_Checker_checkStructure_99 (by decide) ?_
      obtain ⟨a27, u28, hq, h⟩ := xp_seq h
      refine xk_goesI (xr_S (As := [.int ((3 : Int32) + b2), .int (0 : Int32)]) (rest := [.ref (ad 55)]) C hP hS (ct_Types_reference htr hok hq) kq_Checker_231 ⟨rfl, rfl, Nat.le_of_ble_eq_true rfl, Nat.le_of_ble_eq_true rfl⟩ ⟨Nat.le_of_ble_eq_true rfl, Nat.le_of_ble_eq_true rfl⟩ hl.1 rfl rfl (Nat.le_of_ble_eq_true rfl) dd_Checker_checkStructure_100) hS (fun H locs hP hS => ?_)
      clear hq
      rcases xp_try h with ⟨rx, u29, hq, h⟩ | ⟨kx, ux, hq, h⟩
      rotate_left
      · obtain ⟨rfl, rfl⟩ := xp_q h
        exact xk_up (xr_V (As := [.int a27]) (rest := []) C hP hS (ct_Checker_push htr hok hq) kq_Checker_203 55 1 rfl rfl ⟨rfl, rfl, Nat.le_of_ble_eq_true rfl, Nat.le_of_ble_eq_true rfl⟩ ⟨Nat.le_of_ble_eq_true rfl, Nat.le_of_ble_eq_true rfl⟩ hl.1 rfl rfl (Nat.le_of_ble_eq_true rfl) dd_Checker_checkStructure_103) hS hne C.2.2.2.2.2.2.1
      refine xk_goesV (xr_V (As := [.int a27]) (rest := []) C hP hS (ct_Checker_push htr hok hq) kq_Checker_203 55 1 rfl rfl ⟨rfl, rfl, Nat.le_of_ble_eq_true rfl, Nat.le_of_ble_eq_true rfl⟩ ⟨Nat.le_of_ble_eq_true rfl, Nat.le_of_ble_eq_true rfl⟩ hl.1 rfl rfl (Nat.le_of_ble_eq_true rfl) dd_Checker_checkStructure_103) hS (fun H locs hP hS => ?_)
      clear hq
      obtain ⟨rfl, rfl⟩ := xp_r h
      exact xr_vret C hP hS dd_Checker_checkStructure_106
    · have h := xp_f hc h
      refine lv_iload_n hx hb dd_Checker_checkStructure_40 rfl (lv_at hl 1 rfl) ?_
      refine lv_if_eq (tgt := 60) hx hb dd_Checker_checkStructure_41 (by decide) (fun hc => ?_) (fun hc => ?_)
      · have h := xp_t hc h
        exact wj_Checker_checkStructure_60 htr C hne hk35 h hP hS (lv_sub hl [0, 1, 2, 3] rfl)
      · have h := xp_f hc h
        refine lv_aload_n hx hb dd_Checker_checkStructure_44 rfl (lv_at hl 0 rfl) ?_
        refine gf_h_Checker_55_types C hP dd_Checker_checkStructure_45 ?_
        refine lv_iload_n hx hb dd_Checker_checkStructure_48 rfl (lv_at hl 2 rfl) ?_
        refine lv_iload hx hb dd_Checker_checkStructure_49 (lv_at hl 3 rfl) ?_
        obtain ⟨a37, u38, hq, h⟩ := xp_seq h
        refine xk_goesI (xr_V (As := [.int b2, .int b6]) (rest := []) C hP hS (ct_Types_member htr hok hq) kq_Checker_107 6 9 rfl rfl ⟨rfl, rfl, Nat.le_of_ble_eq_true rfl, Nat.le_of_ble_eq_true rfl⟩ ⟨Nat.le_of_ble_eq_true rfl, Nat.le_of_ble_eq_true rfl⟩ hl.1 rfl rfl (Nat.le_of_ble_eq_true rfl) dd_Checker_checkStructure_51) hS (fun H locs hP hS => ?_)
        clear hq
        obtain ⟨a39, u40, hq, h⟩ := xp_seq h
        refine xk_goesI (xr_S (As := [.int a37]) (rest := []) C hP hS (ct_Types_hasDefault htr hok hq) kq_Checker_276 ⟨rfl, rfl, Nat.le_of_ble_eq_true rfl, Nat.le_of_ble_eq_true rfl⟩ ⟨Nat.le_of_ble_eq_true rfl, Nat.le_of_ble_eq_true rfl⟩ hl.1 rfl rfl (Nat.le_of_ble_eq_true rfl) dd_Checker_checkStructure_54) hS (fun H locs hP hS => ?_)
        clear hq
        refine lv_if_eq (tgt := 64) hx hb dd_Checker_checkStructure_57 (by decide) (fun hc => ?_) (fun hc => ?_)
        · have h := xp_t hc h
          refine lv_iconst (v := 0) hx hb dd_Checker_checkStructure_64 (by decide) ?_
          exact wj_Checker_checkStructure_65 htr C hne hk35 h hP hS (lv_sub hl [0, 1, 2, 3] rfl)
        · have h := xp_f hc h
          exact wj_Checker_checkStructure_60 htr C hne hk35 h hP hS (lv_sub hl [0, 1, 2, 3] rfl)
set_option maxHeartbeats 4000000 in
set_option maxRecDepth 100000 in
theorem ct_Checker_checkStructure {l : Launch} {D : va_G} {ad : Nat → Nat} {ca : Nat → ClassId} {ads : List Nat} (htr : l.stackTraces = false) (hok : xk_ok (kw_h ad ca) ads) {fu : Nat} {x0 : Int32} {x1 : Int32} {x2 : Int64} {u u' : xk_St} {r : (Unit ⊕ Nat)} (h : fm_Checker_checkStructure fu x0 x1 x2 u = some (r, u')) :
    ∀ sz, xk_Met l ⟨"ModuleHouse$Checker", "checkStructure", "(IIJ)V"⟩ (Cond.code ⟨"ModuleHouse$Checker", "checkStructure", "(IIJ)V"⟩ prog_2_method_48_code 7 none :: xk_gd) rm_Checker_checkStructure (xk_Pc D kx_cl (kx_ty ca) (kw_h ad ca) ads xk_F sz [.ref (ad 55), .int x0, .int x1, .long x2] u) (xk_Qc D kx_cl (kw_h ad ca) ads (xo_v r) u') (xk_A ads sz) := by
  unfold fm_Checker_checkStructure at h
  refine xk_con (by decide) htr hok (Nat.le_of_ble_eq_true rfl) (fun p e s m below meth c ls C hne hl hP => ?_)
  have hx := C.1.1
  have hb := C.1.2.1
  have hS : va_S (xk_A ads s.heap.size) s.heap s.heap [] := va_S.rf
  have hl : lv_has ls 7 [(0, .ref (ad 55)), (1, .int x0), (2, .int x1), (3, .long x2)] := hl
  refine lv_aload_n hx hb dd_Checker_checkStructure_0 rfl (lv_at hl 0 rfl) ?_
  refine gf_h_Checker_55_types C hP dd_Checker_checkStructure_1 ?_
  refine lv_iload_n hx hb dd_Checker_checkStructure_4 rfl (lv_at hl 2 rfl) ?_
  refine lv_bipush (v := 95) hx hb dd_Checker_checkStructure_5 (by decide) ?_
  obtain ⟨a1, u2, hq, h⟩ := xp_seq h
  refine xk_goesI (xr_V (As := [.int x1, .int (95 : Int32)]) (rest := []) C hP hS (ct_Types_is htr hok hq) kq_Checker_135 6 9 rfl rfl ⟨rfl, rfl, Nat.le_of_ble_eq_true rfl, Nat.le_of_ble_eq_true rfl⟩ ⟨Nat.le_of_ble_eq_true rfl, Nat.le_of_ble_eq_true rfl⟩ hl.1 rfl rfl (Nat.le_of_ble_eq_true rfl) dd_Checker_checkStructure_7) hS (fun H locs hP hS => ?_)
  clear hq
  rcases xp_try h with ⟨rx, u3, hq, h⟩ | ⟨kx, ux, hq, h⟩
  rotate_left
  · obtain ⟨rfl, rfl⟩ := xp_q h
    exact xk_up (xr_S (As := [.int a1]) (rest := []) C hP hS (ct_Checker_need htr hok hq) kq_Checker_60 ⟨rfl, rfl, Nat.le_of_ble_eq_true rfl, Nat.le_of_ble_eq_true rfl⟩ ⟨Nat.le_of_ble_eq_true rfl, Nat.le_of_ble_eq_true rfl⟩ hl.1 rfl rfl (Nat.le_of_ble_eq_true rfl) dd_Checker_checkStructure_10) hS hne C.2.2.2.2.2.2.1
  refine xk_goesV (xr_S (As := [.int a1]) (rest := []) C hP hS (ct_Checker_need htr hok hq) kq_Checker_60 ⟨rfl, rfl, Nat.le_of_ble_eq_true rfl, Nat.le_of_ble_eq_true rfl⟩ ⟨Nat.le_of_ble_eq_true rfl, Nat.le_of_ble_eq_true rfl⟩ hl.1 rfl rfl (Nat.le_of_ble_eq_true rfl) dd_Checker_checkStructure_10) hS (fun H locs hP hS => ?_)
  clear hq
  refine lv_aload_n hx hb dd_Checker_checkStructure_13 rfl (lv_at hl 0 rfl) ?_
  refine gf_h_Checker_55_types C hP dd_Checker_checkStructure_14 ?_
  refine gf_h_Checker_6_members C hP dd_Checker_checkStructure_17 ?_
  refine lv_iload_n hx hb dd_Checker_checkStructure_20 rfl (lv_at hl 2 rfl) ?_
  obtain ⟨hi, h⟩ := xp_g h
  refine al_h_8 C hP hi dd_Checker_checkStructure_21 ?_
  obtain ⟨a4, ea4, h⟩ := xp_let h
  refine xr_nami ea4 ?_
  refine lv_istore (lv' := [(5, .int a4), (0, .ref (ad 55)), (1, .int x0), (2, .int x1), (3, .long x2)]) hx hb dd_Checker_checkStructure_22 hl (by decide) rfl (fun ls hl => ?_)
  refine lv_iload_n hx hb dd_Checker_checkStructure_24 rfl (lv_at hl 2 rfl) ?_
  refine lv_iconst (v := 1) hx hb dd_Checker_checkStructure_25 (by decide) ?_
  refine lv_icmp_gt (tgt := 107) hx hb dd_Checker_checkStructure_26 (by decide) (fun hc => ?_) (fun hc => ?_)
  · have h := xp_t hc h
    refine lv_lload_n hx hb dd_Checker_checkStructure_107 rfl (lv_at hl 4 rfl) ?_
    refine lv_iload hx hb dd_Checker_checkStructure_108 (lv_at hl 0 rfl) ?_
    refine lv_i2l hx hb dd_Checker_checkStructure_110 rfl ?_
    refine xr_lc_ge (tgt := 119) hx hb dd_Checker_checkStructure_111 dd_Checker_checkStructure_112 (by decide) (fun hc => ?_) (fun hc => ?_)
    · have h := xp_t hc h
      refine lv_iconst (v := 0) hx hb dd_Checker_checkStructure_119 (by decide) ?_
      exact wj_Checker_checkStructure_120 htr C hne h hP hS (lv_sub hl [1, 2, 3, 4] rfl)
    · have h := xp_f hc h
      refine lv_iconst (v := 1) hx hb dd_Checker_checkStructure_115 (by decide) ?_
      refine lv_goto (tgt := 120) hx hb dd_Checker_checkStructure_116 (by decide) ?_
      exact wj_Checker_checkStructure_120 htr C hne h hP hS (lv_sub hl [1, 2, 3, 4] rfl)
  · have h := xp_f hc h
    refine lv_iload hx hb dd_Checker_checkStructure_29 (lv_at hl 0 rfl) ?_
    refine lv_iconst (v := 1) hx hb dd_Checker_checkStructure_31 (by decide) ?_
    refine lv_isub hx hb dd_Checker_checkStructure_32 ?_
    obtain ⟨a26, ea26, h⟩ := xp_let h
    refine xr_nami ea26 ?_
    refine lv_istore (lv' := [(6, .int a26), (5, .int a4), (0, .ref (ad 55)), (1, .int x0), (2, .int x1), (3, .long x2)]) hx hb dd_Checker_checkStructure_33 hl (by decide) rfl (fun ls hl => ?_)
    exact wj_Checker_checkStructure_35 htr C hne h hP hS (lv_sub hl [2, 3, 4, 0] rfl)
abbrev rm_Checker_blockAt : Room := { frames := 7, cells := 1, slots := 6, locals := 120 }
noncomputable def jb_Checker_blockAt_13 (b1 : Int32) (s0 : Int32) (u : xk_St) : Option ((Int32 ⊕ Nat) × xk_St) :=
  (xs_try (fm_Checker_need s0 u) fun _ u1 => if (((u1.1 21) - (1 : Int32)) - b1) < 0 ∨ 100 ≤ (((u1.1 21) - (1 : Int32)) - b1).toNatClampNeg then none else some (.inl (u1.2.2.1 34 (((u1.1 21) - (1 : Int32)) - b1).toNatClampNeg), u1))
noncomputable def fm_Checker_blockAt (x0 : Int32) (u : xk_St) : Option ((Int32 ⊕ Nat) × xk_St) :=
  if (u.1 21) ≤ x0 then (jb_Checker_blockAt_13 x0 (0 : Int32) u) else (jb_Checker_blockAt_13 x0 (1 : Int32) u)
set_option maxHeartbeats 4000000 in
set_option maxRecDepth 100000 in
theorem wj_Checker_blockAt_13 {p : Program} {l : Launch} {e : Env} {s : State} {m : MethodId} {args : Array Value} {below : List Frame} {meth : Method} {c : Code} {D : va_G} {ad : Nat → Nat} {ca : Nat → ClassId} {ads : List Nat} (htr : l.stackTraces = false) (C : xk_C D kx_cl (kx_ty ca) (kw_h ad ca) ads "ModuleHouse$Checker" prog_2_method_24_code 2 (some .int) p e s m args meth c) (hne : c.exceptionTable.isEmpty = true) {u' : xk_St} {r : (Int32 ⊕ Nat)} {b1 : Int32} {s0 : Int32} {u : xk_St} {H : Heap} {locs : List Loc} {ls : Array Slot} (h : jb_Checker_blockAt_13  b1 s0 u = some (r, u')) (hP : va_P D kx_cl (kw_h ad ca u) H) (hS : va_S (xk_A ads s.heap.size) s.heap H locs) (hl : lv_has ls 2 [(0, .ref (ad 55)), (1, .int b1)]) : W p l e rm_Checker_blockAt s m args below meth c H locs 0 0 (xk_MQ below (xk_Qc D kx_cl (kw_h ad ca) ads (xo_i r) u') args s (xk_A ads s.heap.size)) (F0 m 13 ls [.int s0]) := by
  have hx := C.1.1
  have hb := C.1.2.1
  have hok := C.2.2.1
  unfold jb_Checker_blockAt_13 at h
  rcases xp_try h with ⟨rx, u1, hq, h⟩ | ⟨kx, ux, hq, h⟩
  rotate_left
  · obtain ⟨rfl, rfl⟩ := xp_q h
    exact xk_up (xr_S (As := [.int s0]) (rest := []) C hP hS (ct_Checker_need htr hok hq) kq_Checker_60 ⟨rfl, rfl, Nat.le_of_ble_eq_true rfl, Nat.le_of_ble_eq_true rfl⟩ ⟨Nat.le_of_ble_eq_true rfl, Nat.le_of_ble_eq_true rfl⟩ hl.1 rfl rfl (Nat.le_of_ble_eq_true rfl) dd_Checker_blockAt_13) hS hne C.2.2.2.2.2.2.1
  refine xk_goesV (xr_S (As := [.int s0]) (rest := []) C hP hS (ct_Checker_need htr hok hq) kq_Checker_60 ⟨rfl, rfl, Nat.le_of_ble_eq_true rfl, Nat.le_of_ble_eq_true rfl⟩ ⟨Nat.le_of_ble_eq_true rfl, Nat.le_of_ble_eq_true rfl⟩ hl.1 rfl rfl (Nat.le_of_ble_eq_true rfl) dd_Checker_blockAt_13) hS (fun H locs hP hS => ?_)
  clear hq
  refine lv_aload_n hx hb dd_Checker_blockAt_16 rfl (lv_at hl 0 rfl) ?_
  refine gf_h_Checker_55_opened C hP dd_Checker_blockAt_17 ?_
  refine lv_aload_n hx hb dd_Checker_blockAt_20 rfl (lv_at hl 0 rfl) ?_
  refine gf_h_Checker_55_depth C hP dd_Checker_blockAt_21 ?_
  refine lv_iconst (v := 1) hx hb dd_Checker_blockAt_24 (by decide) ?_
  refine lv_isub hx hb dd_Checker_blockAt_25 ?_
  refine lv_iload_n hx hb dd_Checker_blockAt_26 rfl (lv_at hl 1 rfl) ?_
  refine lv_isub hx hb dd_Checker_blockAt_27 ?_
  obtain ⟨hi, h⟩ := xp_g h
  refine al_h_57 C hP hi dd_Checker_blockAt_28 ?_
  obtain ⟨rfl, rfl⟩ := xp_r h
  exact xr_iret C hP hS dd_Checker_blockAt_29
set_option maxHeartbeats 4000000 in
set_option maxRecDepth 100000 in
theorem ct_Checker_blockAt {l : Launch} {D : va_G} {ad : Nat → Nat} {ca : Nat → ClassId} {ads : List Nat} (htr : l.stackTraces = false) (hok : xk_ok (kw_h ad ca) ads) {x0 : Int32} {u u' : xk_St} {r : (Int32 ⊕ Nat)} (h : fm_Checker_blockAt x0 u = some (r, u')) :
    ∀ sz, xk_Met l ⟨"ModuleHouse$Checker", "blockAt", "(I)I"⟩ (Cond.code ⟨"ModuleHouse$Checker", "blockAt", "(I)I"⟩ prog_2_method_24_code 2 (some .int) :: xk_gd) rm_Checker_blockAt (xk_Pc D kx_cl (kx_ty ca) (kw_h ad ca) ads xk_F sz [.ref (ad 55), .int x0] u) (xk_Qc D kx_cl (kw_h ad ca) ads (xo_i r) u') (xk_A ads sz) := by
  unfold fm_Checker_blockAt at h
  refine xk_con (by decide) htr hok (Nat.le_of_ble_eq_true rfl) (fun p e s m below meth c ls C hne hl hP => ?_)
  have hx := C.1.1
  have hb := C.1.2.1
  have hS : va_S (xk_A ads s.heap.size) s.heap s.heap [] := va_S.rf
  have hl : lv_has ls 2 [(0, .ref (ad 55)), (1, .int x0)] := hl
  refine lv_iload_n hx hb dd_Checker_blockAt_0 rfl (lv_at hl 1 rfl) ?_
  refine lv_aload_n hx hb dd_Checker_blockAt_1 rfl (lv_at hl 0 rfl) ?_
  refine gf_h_Checker_55_depth C hP dd_Checker_blockAt_2 ?_
  refine lv_icmp_ge (tgt := 12) hx hb dd_Checker_blockAt_5 (by decide) (fun hc => ?_) (fun hc => ?_)
  · have h := xp_t hc h
    refine lv_iconst (v := 0) hx hb dd_Checker_blockAt_12 (by decide) ?_
    exact wj_Checker_blockAt_13 htr C hne h hP hS (lv_sub hl [0, 1] rfl)
  · have h := xp_f hc h
    refine lv_iconst (v := 1) hx hb dd_Checker_blockAt_8 (by decide) ?_
    refine lv_goto (tgt := 13) hx hb dd_Checker_blockAt_9 (by decide) ?_
    exact wj_Checker_blockAt_13 htr C hne h hP hS (lv_sub hl [0, 1] rfl)
abbrev rm_Checker_branch : Room := { frames := 8, cells := 1, slots := 6, locals := 141 }
noncomputable def fm_Checker_branch (x0 : Int32) (u : xk_St) : Option ((Int32 ⊕ Nat) × xk_St) :=
  (if x0 < 0 ∨ 8192 ≤ x0.toNatClampNeg then none else xs_try (fm_Checker_blockAt (u.2.2.1 8 x0.toNatClampNeg) u) fun a1 u2 => if x0 < 0 ∨ 8192 ≤ x0.toNatClampNeg then none else xs_let (xs_A u2 9 x0.toNatClampNeg a1) fun u3 => some (.inl a1, u3))
set_option maxHeartbeats 4000000 in
set_option maxRecDepth 100000 in
theorem ct_Checker_branch {l : Launch} {D : va_G} {ad : Nat → Nat} {ca : Nat → ClassId} {ads : List Nat} (htr : l.stackTraces = false) (hok : xk_ok (kw_h ad ca) ads) {x0 : Int32} {u u' : xk_St} {r : (Int32 ⊕ Nat)} (h : fm_Checker_branch x0 u = some (r, u')) :
    ∀ sz, xk_Met l ⟨"ModuleHouse$Checker", "branch", "(I)I"⟩ (Cond.code ⟨"ModuleHouse$Checker", "branch", "(I)I"⟩ prog_2_method_29_code 3 (some .int) :: xk_gd) rm_Checker_branch (xk_Pc D kx_cl (kx_ty ca) (kw_h ad ca) ads xk_F sz [.ref (ad 55), .int x0] u) (xk_Qc D kx_cl (kw_h ad ca) ads (xo_i r) u') (xk_A ads sz) := by
  unfold fm_Checker_branch at h
  refine xk_con (by decide) htr hok (Nat.le_of_ble_eq_true rfl) (fun p e s m below meth c ls C hne hl hP => ?_)
  have hx := C.1.1
  have hb := C.1.2.1
  have hS : va_S (xk_A ads s.heap.size) s.heap s.heap [] := va_S.rf
  have hl : lv_has ls 3 [(0, .ref (ad 55)), (1, .int x0)] := hl
  refine lv_aload_n hx hb dd_Checker_branch_0 rfl (lv_at hl 0 rfl) ?_
  refine lv_aload_n hx hb dd_Checker_branch_1 rfl (lv_at hl 0 rfl) ?_
  refine gf_h_Checker_55_code C hP dd_Checker_branch_2 ?_
  refine gf_h_Checker_12_first C hP dd_Checker_branch_5 ?_
  refine lv_iload_n hx hb dd_Checker_branch_8 rfl (lv_at hl 1 rfl) ?_
  obtain ⟨hi, h⟩ := xp_g h
  refine al_h_14 C hP hi dd_Checker_branch_9 ?_
  rcases xp_try h with ⟨a1, u2, hq, h⟩ | ⟨kx, ux, hq, h⟩
  rotate_left
  · obtain ⟨rfl, rfl⟩ := xp_q h
    exact xk_up (xr_V (As := [.int (u.2.2.1 8 x0.toNatClampNeg)]) (rest := []) C hP hS (ct_Checker_blockAt htr hok hq) kq_Checker_270 55 1 rfl rfl ⟨rfl, rfl, Nat.le_of_ble_eq_true rfl, Nat.le_of_ble_eq_true rfl⟩ ⟨Nat.le_of_ble_eq_true rfl, Nat.le_of_ble_eq_true rfl⟩ hl.1 rfl rfl (Nat.le_of_ble_eq_true rfl) dd_Checker_branch_10) hS hne C.2.2.2.2.2.2.1
  refine xk_goesI (xr_V (As := [.int (u.2.2.1 8 x0.toNatClampNeg)]) (rest := []) C hP hS (ct_Checker_blockAt htr hok hq) kq_Checker_270 55 1 rfl rfl ⟨rfl, rfl, Nat.le_of_ble_eq_true rfl, Nat.le_of_ble_eq_true rfl⟩ ⟨Nat.le_of_ble_eq_true rfl, Nat.le_of_ble_eq_true rfl⟩ hl.1 rfl rfl (Nat.le_of_ble_eq_true rfl) dd_Checker_branch_10) hS (fun H locs hP hS => ?_)
  clear hq
  refine lv_istore_n (lv' := [(2, .int a1), (0, .ref (ad 55)), (1, .int x0)]) hx hb dd_Checker_branch_13 rfl hl (by decide) rfl (fun ls hl => ?_)
  refine lv_aload_n hx hb dd_Checker_branch_14 rfl (lv_at hl 1 rfl) ?_
  refine gf_h_Checker_55_code C hP dd_Checker_branch_15 ?_
  refine gf_h_Checker_12_mate C hP dd_Checker_branch_18 ?_
  refine lv_iload_n hx hb dd_Checker_branch_21 rfl (lv_at hl 2 rfl) ?_
  refine lv_iload_n hx hb dd_Checker_branch_22 rfl (lv_at hl 0 rfl) ?_
  obtain ⟨hi, h⟩ := xp_g h
  refine as_h_16 C hP hS hi dd_Checker_branch_23 (fun H locs hP hS => ?_)
  obtain ⟨u3, eu3, h⟩ := xp_let h
  rw [← eu3] at hP
  refine lv_iload_n hx hb dd_Checker_branch_24 rfl (lv_at hl 0 rfl) ?_
  obtain ⟨rfl, rfl⟩ := xp_r h
  exact xr_iret C hP hS dd_Checker_branch_25
abbrev rm_Checker_wayCount : Room := { frames := 1, cells := 1, slots := 6, locals := 0 }
noncomputable def fm_Checker_wayCount (x0 : Int32) (u : xk_St) : Option (Int32 × xk_St) :=
  (if x0 < 0 ∨ 8192 ≤ x0.toNatClampNeg then none else some (((u.2.2.2 2 x0.toNatClampNeg).toInt32), u))
set_option maxHeartbeats 4000000 in
set_option maxRecDepth 100000 in
theorem ct_Checker_wayCount {l : Launch} {D : va_G} {ad : Nat → Nat} {ca : Nat → ClassId} {ads : List Nat} (htr : l.stackTraces = false) (hok : xk_ok (kw_h ad ca) ads) {x0 : Int32} {u u' : xk_St} {r : Int32} (h : fm_Checker_wayCount x0 u = some (r, u')) :
    ∀ sz, xk_Met l ⟨"ModuleHouse$Checker", "wayCount", "(I)I"⟩ (Cond.code ⟨"ModuleHouse$Checker", "wayCount", "(I)I"⟩ prog_2_method_27_code 2 (some .int) :: xk_gd) rm_Checker_wayCount (xk_Pc D kx_cl (kx_ty ca) (kw_h ad ca) ads xk_F sz [.ref (ad 55), .int x0] u) (xk_Qc D kx_cl (kw_h ad ca) ads (xo_i (.inl r)) u') (xk_A ads sz) := by
  unfold fm_Checker_wayCount at h
  refine xk_con (by decide) htr hok (Nat.le_of_ble_eq_true rfl) (fun p e s m below meth c ls C hne hl hP => ?_)
  have hx := C.1.1
  have hb := C.1.2.1
  have hS : va_S (xk_A ads s.heap.size) s.heap s.heap [] := va_S.rf
  have hl : lv_has ls 2 [(0, .ref (ad 55)), (1, .int x0)] := hl
  refine lv_aload_n hx hb dd_Checker_wayCount_0 rfl (lv_at hl 0 rfl) ?_
  refine gf_h_Checker_55_code C hP dd_Checker_wayCount_1 ?_
  refine gf_h_Checker_12_second C hP dd_Checker_wayCount_4 ?_
  refine lv_iload_n hx hb dd_Checker_wayCount_7 rfl (lv_at hl 1 rfl) ?_
  obtain ⟨hi, h⟩ := xp_g h
  refine al_h_15 C hP hi dd_Checker_wayCount_8 ?_
  refine lv_l2i hx hb dd_Checker_wayCount_9 rfl ?_
  obtain ⟨rfl, rfl⟩ := xp_r h
  exact xr_iret C hP hS dd_Checker_wayCount_10
abbrev rm_Checker_wayType : Room := { frames := 2, cells := 1, slots := 6, locals := 22 }
noncomputable def fm_Checker_wayType (x0 : Int32) (x1 : Int32) (u : xk_St) : Option (Int32 × xk_St) :=
  (if x0 < 0 ∨ 8192 ≤ x0.toNatClampNeg then none else xs_let (u.2.2.1 8 x0.toNatClampNeg) fun a1 => if (1024 : Int32) ≤ a1 then ((xs_let (a1 - (1024 : Int32)) fun a2 => if x0 < 0 ∨ 8192 ≤ x0.toNatClampNeg then none else if (u.2.2.1 7 x0.toNatClampNeg) = (3 : Int32) then ((xs_seq (fm_Types_member a2 x1 u) fun a5 u6 => some (a5, u6))) else ((xs_seq (fm_Types_outcome a2 x1 u) fun a3 u4 => some (a3, u4))))) else (some (a1, u)))
set_option maxHeartbeats 4000000 in
set_option maxRecDepth 100000 in
theorem ct_Checker_wayType {l : Launch} {D : va_G} {ad : Nat → Nat} {ca : Nat → ClassId} {ads : List Nat} (htr : l.stackTraces = false) (hok : xk_ok (kw_h ad ca) ads) {x0 : Int32} {x1 : Int32} {u u' : xk_St} {r : Int32} (h : fm_Checker_wayType x0 x1 u = some (r, u')) :
    ∀ sz, xk_Met l ⟨"ModuleHouse$Checker", "wayType", "(II)I"⟩ (Cond.code ⟨"ModuleHouse$Checker", "wayType", "(II)I"⟩ prog_2_method_23_code 5 (some .int) :: xk_gd) rm_Checker_wayType (xk_Pc D kx_cl (kx_ty ca) (kw_h ad ca) ads xk_F sz [.ref (ad 55), .int x0, .int x1] u) (xk_Qc D kx_cl (kw_h ad ca) ads (xo_i (.inl r)) u') (xk_A ads sz) := by
  unfold fm_Checker_wayType at h
  refine xk_con (by decide) htr hok (Nat.le_of_ble_eq_true rfl) (fun p e s m below meth c ls C hne hl hP => ?_)
  have hx := C.1.1
  have hb := C.1.2.1
  have hS : va_S (xk_A ads s.heap.size) s.heap s.heap [] := va_S.rf
  have hl : lv_has ls 5 [(0, .ref (ad 55)), (1, .int x0), (2, .int x1)] := hl
  refine lv_aload_n hx hb dd_Checker_wayType_0 rfl (lv_at hl 0 rfl) ?_
  refine gf_h_Checker_55_code C hP dd_Checker_wayType_1 ?_
  refine gf_h_Checker_12_first C hP dd_Checker_wayType_4 ?_
  refine lv_iload_n hx hb dd_Checker_wayType_7 rfl (lv_at hl 1 rfl) ?_
  obtain ⟨hi, h⟩ := xp_g h
  refine al_h_14 C hP hi dd_Checker_wayType_8 ?_
  obtain ⟨a1, ea1, h⟩ := xp_let h
  refine xr_nami ea1 ?_
  refine lv_istore_n (lv' := [(3, .int a1), (0, .ref (ad 55)), (1, .int x0), (2, .int x1)]) hx hb dd_Checker_wayType_9 rfl hl (by decide) rfl (fun ls hl => ?_)
  refine lv_iload_n hx hb dd_Checker_wayType_10 rfl (lv_at hl 0 rfl) ?_
  refine lv_sipush (v := 1024) hx hb dd_Checker_wayType_11 (by decide) ?_
  refine lv_icmp_ge (tgt := 19) hx hb dd_Checker_wayType_14 (by decide) (fun hc => ?_) (fun hc => ?_)
  · have h := xp_t hc h
    refine lv_iload_n hx hb dd_Checker_wayType_19 rfl (lv_at hl 0 rfl) ?_
    refine lv_sipush (v := 1024) hx hb dd_Checker_wayType_20 (by decide) ?_
    refine lv_isub hx hb dd_Checker_wayType_23 ?_
    obtain ⟨a2, ea2, h⟩ := xp_let h
    refine xr_nami ea2 ?_
    refine lv_istore (lv' := [(4, .int a2), (3, .int a1), (0, .ref (ad 55)), (1, .int x0), (2, .int x1)]) hx hb dd_Checker_wayType_24 hl (by decide) rfl (fun ls hl => ?_)
    refine lv_aload_n hx hb dd_Checker_wayType_26 rfl (lv_at hl 2 rfl) ?_
    refine gf_h_Checker_55_code C hP dd_Checker_wayType_27 ?_
    refine gf_h_Checker_12_op C hP dd_Checker_wayType_30 ?_
    refine lv_iload_n hx hb dd_Checker_wayType_33 rfl (lv_at hl 3 rfl) ?_
    obtain ⟨hi, h⟩ := xp_g h
    refine al_h_13 C hP hi dd_Checker_wayType_34 ?_
    refine lv_iconst (v := 3) hx hb dd_Checker_wayType_35 (by decide) ?_
    refine lv_icmp_ne (tgt := 52) hx hb dd_Checker_wayType_36 (by decide) (fun hc => ?_) (fun hc => ?_)
    · have h := xp_f hc h
      refine lv_aload_n hx hb dd_Checker_wayType_52 rfl (lv_at hl 2 rfl) ?_
      refine gf_h_Checker_55_types C hP dd_Checker_wayType_53 ?_
      refine lv_iload hx hb dd_Checker_wayType_56 (lv_at hl 0 rfl) ?_
      refine lv_iload_n hx hb dd_Checker_wayType_58 rfl (lv_at hl 4 rfl) ?_
      obtain ⟨a3, u4, hq, h⟩ := xp_seq h
      refine xk_goesI (xr_V (As := [.int a2, .int x1]) (rest := []) C hP hS (ct_Types_outcome htr hok hq) kq_Checker_115 6 9 rfl rfl ⟨rfl, rfl, Nat.le_of_ble_eq_true rfl, Nat.le_of_ble_eq_true rfl⟩ ⟨Nat.le_of_ble_eq_true rfl, Nat.le_of_ble_eq_true rfl⟩ hl.1 rfl rfl (Nat.le_of_ble_eq_true rfl) dd_Checker_wayType_59) hS (fun H locs hP hS => ?_)
      clear hq
      obtain ⟨rfl, rfl⟩ := xp_r h
      exact xr_iret C hP hS dd_Checker_wayType_62
    · have h := xp_t hc h
      refine lv_aload_n hx hb dd_Checker_wayType_39 rfl (lv_at hl 2 rfl) ?_
      refine gf_h_Checker_55_types C hP dd_Checker_wayType_40 ?_
      refine lv_iload hx hb dd_Checker_wayType_43 (lv_at hl 0 rfl) ?_
      refine lv_iload_n hx hb dd_Checker_wayType_45 rfl (lv_at hl 4 rfl) ?_
      obtain ⟨a5, u6, hq, h⟩ := xp_seq h
      refine xk_goesI (xr_V (As := [.int a2, .int x1]) (rest := []) C hP hS (ct_Types_member htr hok hq) kq_Checker_107 6 9 rfl rfl ⟨rfl, rfl, Nat.le_of_ble_eq_true rfl, Nat.le_of_ble_eq_true rfl⟩ ⟨Nat.le_of_ble_eq_true rfl, Nat.le_of_ble_eq_true rfl⟩ hl.1 rfl rfl (Nat.le_of_ble_eq_true rfl) dd_Checker_wayType_46) hS (fun H locs hP hS => ?_)
      clear hq
      refine lv_goto (tgt := 62) hx hb dd_Checker_wayType_49 (by decide) ?_
      obtain ⟨rfl, rfl⟩ := xp_r h
      exact xr_iret C hP hS dd_Checker_wayType_62
  · have h := xp_f hc h
    refine lv_iload_n hx hb dd_Checker_wayType_17 rfl (lv_at hl 0 rfl) ?_
    obtain ⟨rfl, rfl⟩ := xp_r h
    exact xr_iret C hP hS dd_Checker_wayType_18
abbrev rm_Checker_popWay : Room := { frames := 8, cells := 1, slots := 6, locals := 141 }
noncomputable def jb_Checker_popWay_4 (fu : Nat) : Nat → Int32 → Int32 → xk_St → Option ((Unit ⊕ Nat) × xk_St)
  | 0 => fun _ _ _ => none
  | n + 1 => fun b1 b3 u =>
    xs_let (jb_Checker_popWay_4 fu  n) fun k4 =>
    if b3 < (0 : Int32) then (some (.inl (()), u)) else ((xs_seq (fm_Checker_wayType b1 b3 u) fun a2 u3 => xs_try (fm_Checker_pop_I a2 u3) fun _ u4 => xs_let (b3 + (-1 : Int32)) fun a5 => k4 b1 a5 u4))
noncomputable def fm_Checker_popWay (fu : Nat) (x0 : Int32) (x1 : Int32) (u : xk_St) : Option ((Unit ⊕ Nat) × xk_St) :=
  (xs_let (x1 - (1 : Int32)) fun a1 => jb_Checker_popWay_4 fu fu x0 a1 u)
set_option maxHeartbeats 4000000 in
set_option maxRecDepth 100000 in
theorem wj_Checker_popWay_4 {p : Program} {l : Launch} {e : Env} {s : State} {m : MethodId} {args : Array Value} {below : List Frame} {meth : Method} {c : Code} {D : va_G} {ad : Nat → Nat} {ca : Nat → ClassId} {ads : List Nat} {fu : Nat} (htr : l.stackTraces = false) (C : xk_C D kx_cl (kx_ty ca) (kw_h ad ca) ads "ModuleHouse$Checker" prog_2_method_25_code 4 none p e s m args meth c) (hne : c.exceptionTable.isEmpty = true) {u' : xk_St} {r : (Unit ⊕ Nat)} : ∀ {n : Nat} {b1 : Int32} {b3 : Int32} {u : xk_St} {H : Heap} {locs : List Loc} {ls : Array Slot} (h : jb_Checker_popWay_4 fu  n b1 b3 u = some (r, u')) (hP : va_P D kx_cl (kw_h ad ca u) H) (hS : va_S (xk_A ads s.heap.size) s.heap H locs) (hl : lv_has ls 4 [(0, .ref (ad 55)), (1, .int b1), (3, .int b3)]), W p l e rm_Checker_popWay s m args below meth c H locs 0 0 (xk_MQ below (xk_Qc D kx_cl (kw_h ad ca) ads (xo_v r) u') args s (xk_A ads s.heap.size)) (F0 m 4 ls []) := by
  intro n
  have hx := C.1.1
  have hb := C.1.2.1
  have hok := C.2.2.1
  induction n with
  | zero =>
    intro _ _ u H locs ls h
    have h : none = some (r, u') := h
    cases h
  | succ n ih =>
    intro b1 b3 u H locs ls h hP hS hl
    unfold jb_Checker_popWay_4 at h
    obtain ⟨k4, ek4, h⟩ := xp_let h
    have hk4 : ∀ (c0 : Int32) (c1 : Int32) (u : xk_St) (H : Heap) (locs : List Loc) (ls : Array Slot), k4 c0 c1 u = some (r, u') → va_P D kx_cl (kw_h ad ca u) H → va_S (xk_A ads s.heap.size) s.heap H locs → lv_has ls 4 [(0, .ref (ad 55)), (1, .int c0), (3, .int c1)] → W p l e rm_Checker_popWay s m args below meth c H locs 0 0 (xk_MQ below (xk_Qc D kx_cl (kw_h ad ca) ads (xo_v r) u') args s (xk_A ads s.heap.size)) (F0 m 4 ls []) := by
      intro c0 c1 u H locs ls h hP hS hl
      subst ek4
      exact ih h hP hS hl
    clear ih ek4
    refine lv_iload_n hx hb dd_Checker_popWay_4 rfl (lv_at hl 2 rfl) ?_
    refine lv_if_lt (tgt := 24) hx hb dd_Checker_popWay_5 (by decide) (fun hc => ?_) (fun hc => ?_)
    · have h := xp_t hc h
      obtain ⟨rfl, rfl⟩ := xp_r h
      exact xr_vret C hP hS dd_Checker_popWay_24
    · have h := xp_f hc h
      refine lv_aload_n hx hb dd_Checker_popWay_8 rfl (lv_at hl 0 rfl) ?_
      refine lv_aload_n hx hb dd_Checker_popWay_9 rfl (lv_at hl 0 rfl) ?_
      refine lv_iload_n hx hb dd_Checker_popWay_10 rfl (lv_at hl 1 rfl) ?_
      refine lv_iload_n hx hb dd_Checker_popWay_11 rfl (lv_at hl 2 rfl) ?_
      obtain ⟨a2, u3, hq, h⟩ := xp_seq h
      refine xk_goesI (xr_V (As := [.int b1, .int b3]) (rest := [.ref (ad 55)]) C hP hS (ct_Checker_wayType htr hok hq) kq_Checker_235 55 1 rfl rfl ⟨rfl, rfl, Nat.le_of_ble_eq_true rfl, Nat.le_of_ble_eq_true rfl⟩ ⟨Nat.le_of_ble_eq_true rfl, Nat.le_of_ble_eq_true rfl⟩ hl.1 rfl rfl (Nat.le_of_ble_eq_true rfl) dd_Checker_popWay_12) hS (fun H locs hP hS => ?_)
      clear hq
      rcases xp_try h with ⟨rx, u4, hq, h⟩ | ⟨kx, ux, hq, h⟩
      rotate_left
      · obtain ⟨rfl, rfl⟩ := xp_q h
        exact xk_up (xr_V (As := [.int a2]) (rest := []) C hP hS (ct_Checker_pop_I htr hok hq) kq_Checker_238 55 1 rfl rfl ⟨rfl, rfl, Nat.le_of_ble_eq_true rfl, Nat.le_of_ble_eq_true rfl⟩ ⟨Nat.le_of_ble_eq_true rfl, Nat.le_of_ble_eq_true rfl⟩ hl.1 rfl rfl (Nat.le_of_ble_eq_true rfl) dd_Checker_popWay_15) hS hne C.2.2.2.2.2.2.1
      refine xk_goesV (xr_V (As := [.int a2]) (rest := []) C hP hS (ct_Checker_pop_I htr hok hq) kq_Checker_238 55 1 rfl rfl ⟨rfl, rfl, Nat.le_of_ble_eq_true rfl, Nat.le_of_ble_eq_true rfl⟩ ⟨Nat.le_of_ble_eq_true rfl, Nat.le_of_ble_eq_true rfl⟩ hl.1 rfl rfl (Nat.le_of_ble_eq_true rfl) dd_Checker_popWay_15) hS (fun H locs hP hS => ?_)
      clear hq
      obtain ⟨a5, ea5, h⟩ := xp_let h
      refine lv_iinc (v := a5) (lv' := [(3, .int a5), (0, .ref (ad 55)), (1, .int b1)]) hx hb dd_Checker_popWay_18 hl (k := 2) rfl (by rw [ea5]; first | rfl | decide) (by decide) rfl (fun ls hl => ?_)
      refine lv_goto (tgt := 4) hx hb dd_Checker_popWay_21 (by decide) ?_
      exact hk4 b1 a5 u4 _ _ _ h hP hS (lv_sub hl [1, 2, 0] rfl)
set_option maxHeartbeats 4000000 in
set_option maxRecDepth 100000 in
theorem ct_Checker_popWay {l : Launch} {D : va_G} {ad : Nat → Nat} {ca : Nat → ClassId} {ads : List Nat} (htr : l.stackTraces = false) (hok : xk_ok (kw_h ad ca) ads) {fu : Nat} {x0 : Int32} {x1 : Int32} {u u' : xk_St} {r : (Unit ⊕ Nat)} (h : fm_Checker_popWay fu x0 x1 u = some (r, u')) :
    ∀ sz, xk_Met l ⟨"ModuleHouse$Checker", "popWay", "(II)V"⟩ (Cond.code ⟨"ModuleHouse$Checker", "popWay", "(II)V"⟩ prog_2_method_25_code 4 none :: xk_gd) rm_Checker_popWay (xk_Pc D kx_cl (kx_ty ca) (kw_h ad ca) ads xk_F sz [.ref (ad 55), .int x0, .int x1] u) (xk_Qc D kx_cl (kw_h ad ca) ads (xo_v r) u') (xk_A ads sz) := by
  unfold fm_Checker_popWay at h
  refine xk_con (by decide) htr hok (Nat.le_of_ble_eq_true rfl) (fun p e s m below meth c ls C hne hl hP => ?_)
  have hx := C.1.1
  have hb := C.1.2.1
  have hS : va_S (xk_A ads s.heap.size) s.heap s.heap [] := va_S.rf
  have hl : lv_has ls 4 [(0, .ref (ad 55)), (1, .int x0), (2, .int x1)] := hl
  refine lv_iload_n hx hb dd_Checker_popWay_0 rfl (lv_at hl 2 rfl) ?_
  refine lv_iconst (v := 1) hx hb dd_Checker_popWay_1 (by decide) ?_
  refine lv_isub hx hb dd_Checker_popWay_2 ?_
  obtain ⟨a1, ea1, h⟩ := xp_let h
  refine xr_nami ea1 ?_
  refine lv_istore_n (lv' := [(3, .int a1), (0, .ref (ad 55)), (1, .int x0), (2, .int x1)]) hx hb dd_Checker_popWay_3 rfl hl (by decide) rfl (fun ls hl => ?_)
  exact wj_Checker_popWay_4 htr C hne h hP hS (lv_sub hl [1, 2, 0] rfl)
abbrev rm_Checker_pushWay : Room := { frames := 8, cells := 1, slots := 6, locals := 141 }
noncomputable def jb_Checker_pushWay_2 (fu : Nat) : Nat → Int32 → Int32 → Int32 → xk_St → Option ((Unit ⊕ Nat) × xk_St)
  | 0 => fun _ _ _ _ => none
  | n + 1 => fun b1 b2 b3 u =>
    xs_let (jb_Checker_pushWay_2 fu  n) fun k2 =>
    if b2 ≤ b3 then (some (.inl (()), u)) else ((xs_seq (fm_Checker_wayType b1 b3 u) fun a1 u2 => xs_try (fm_Checker_push a1 u2) fun _ u3 => xs_let (b3 + (1 : Int32)) fun a4 => k2 b1 b2 a4 u3))
noncomputable def fm_Checker_pushWay (fu : Nat) (x0 : Int32) (x1 : Int32) (u : xk_St) : Option ((Unit ⊕ Nat) × xk_St) :=
  jb_Checker_pushWay_2 fu fu x0 x1 (0 : Int32) u
set_option maxHeartbeats 4000000 in
set_option maxRecDepth 100000 in
theorem wj_Checker_pushWay_2 {p : Program} {l : Launch} {e : Env} {s : State} {m : MethodId} {args : Array Value} {below : List Frame} {meth : Method} {c : Code} {D : va_G} {ad : Nat → Nat} {ca : Nat → ClassId} {ads : List Nat} {fu : Nat} (htr : l.stackTraces = false) (C : xk_C D kx_cl (kx_ty ca) (kw_h ad ca) ads "ModuleHouse$Checker" prog_2_method_26_code 4 none p e s m args meth c) (hne : c.exceptionTable.isEmpty = true) {u' : xk_St} {r : (Unit ⊕ Nat)} : ∀ {n : Nat} {b1 : Int32} {b2 : Int32} {b3 : Int32} {u : xk_St} {H : Heap} {locs : List Loc} {ls : Array Slot} (h : jb_Checker_pushWay_2 fu  n b1 b2 b3 u = some (r, u')) (hP : va_P D kx_cl (kw_h ad ca u) H) (hS : va_S (xk_A ads s.heap.size) s.heap H locs) (hl : lv_has ls 4 [(0, .ref (ad 55)), (1, .int b1), (2, .int b2), (3, .int b3)]), W p l e rm_Checker_pushWay s m args below meth c H locs 0 0 (xk_MQ below (xk_Qc D kx_cl (kw_h ad ca) ads (xo_v r) u') args s (xk_A ads s.heap.size)) (F0 m 2 ls []) := by
  intro n
  have hx := C.1.1
  have hb := C.1.2.1
  have hok := C.2.2.1
  induction n with
  | zero =>
    intro _ _ _ u H locs ls h
    have h : none = some (r, u') := h
    cases h
  | succ n ih =>
    intro b1 b2 b3 u H locs ls h hP hS hl
    unfold jb_Checker_pushWay_2 at h
    obtain ⟨k2, ek2, h⟩ := xp_let h
    have hk2 : ∀ (c0 : Int32) (c1 : Int32) (c2 : Int32) (u : xk_St) (H : Heap) (locs : List Loc) (ls : Array Slot), k2 c0 c1 c2 u = some (r, u') → va_P D kx_cl (kw_h ad ca u) H → va_S (xk_A ads s.heap.size) s.heap H locs → lv_has ls 4 [(0, .ref (ad 55)), (1, .int c0), (2, .int c1), (3, .int c2)] → W p l e rm_Checker_pushWay s m args below meth c H locs 0 0 (xk_MQ below (xk_Qc D kx_cl (kw_h ad ca) ads (xo_v r) u') args s (xk_A ads s.heap.size)) (F0 m 2 ls []) := by
      intro c0 c1 c2 u H locs ls h hP hS hl
      subst ek2
      exact ih h hP hS hl
    clear ih ek2
    refine lv_iload_n hx hb dd_Checker_pushWay_2 rfl (lv_at hl 3 rfl) ?_
    refine lv_iload_n hx hb dd_Checker_pushWay_3 rfl (lv_at hl 2 rfl) ?_
    refine lv_icmp_ge (tgt := 23) hx hb dd_Checker_pushWay_4 (by decide) (fun hc => ?_) (fun hc => ?_)
    · have h := xp_t hc h
      obtain ⟨rfl, rfl⟩ := xp_r h
      exact xr_vret C hP hS dd_Checker_pushWay_23
    · have h := xp_f hc h
      refine lv_aload_n hx hb dd_Checker_pushWay_7 rfl (lv_at hl 0 rfl) ?_
      refine lv_aload_n hx hb dd_Checker_pushWay_8 rfl (lv_at hl 0 rfl) ?_
      refine lv_iload_n hx hb dd_Checker_pushWay_9 rfl (lv_at hl 1 rfl) ?_
      refine lv_iload_n hx hb dd_Checker_pushWay_10 rfl (lv_at hl 3 rfl) ?_
      obtain ⟨a1, u2, hq, h⟩ := xp_seq h
      refine xk_goesI (xr_V (As := [.int b1, .int b3]) (rest := [.ref (ad 55)]) C hP hS (ct_Checker_wayType htr hok hq) kq_Checker_235 55 1 rfl rfl ⟨rfl, rfl, Nat.le_of_ble_eq_true rfl, Nat.le_of_ble_eq_true rfl⟩ ⟨Nat.le_of_ble_eq_true rfl, Nat.le_of_ble_eq_true rfl⟩ hl.1 rfl rfl (Nat.le_of_ble_eq_true rfl) dd_Checker_pushWay_11) hS (fun H locs hP hS => ?_)
      clear hq
      rcases xp_try h with ⟨rx, u3, hq, h⟩ | ⟨kx, ux, hq, h⟩
      rotate_left
      · obtain ⟨rfl, rfl⟩ := xp_q h
        exact xk_up (xr_V (As := [.int a1]) (rest := []) C hP hS (ct_Checker_push htr hok hq) kq_Checker_203 55 1 rfl rfl ⟨rfl, rfl, Nat.le_of_ble_eq_true rfl, Nat.le_of_ble_eq_true rfl⟩ ⟨Nat.le_of_ble_eq_true rfl, Nat.le_of_ble_eq_true rfl⟩ hl.1 rfl rfl (Nat.le_of_ble_eq_true rfl) dd_Checker_pushWay_14) hS hne C.2.2.2.2.2.2.1
      refine xk_goesV (xr_V (As := [.int a1]) (rest := []) C hP hS (ct_Checker_push htr hok hq) kq_Checker_203 55 1 rfl rfl ⟨rfl, rfl, Nat.le_of_ble_eq_true rfl, Nat.le_of_ble_eq_true rfl⟩ ⟨Nat.le_of_ble_eq_true rfl, Nat.le_of_ble_eq_true rfl⟩ hl.1 rfl rfl (Nat.le_of_ble_eq_true rfl) dd_Checker_pushWay_14) hS (fun H locs hP hS => ?_)
      clear hq
      obtain ⟨a4, ea4, h⟩ := xp_let h
      refine lv_iinc (v := a4) (lv' := [(3, .int a4), (0, .ref (ad 55)), (1, .int b1), (2, .int b2)]) hx hb dd_Checker_pushWay_17 hl (k := 3) rfl (by rw [ea4]; first | rfl | decide) (by decide) rfl (fun ls hl => ?_)
      refine lv_goto (tgt := 2) hx hb dd_Checker_pushWay_20 (by decide) ?_
      exact hk2 b1 b2 a4 u3 _ _ _ h hP hS (lv_sub hl [1, 2, 3, 0] rfl)
set_option maxHeartbeats 4000000 in
set_option maxRecDepth 100000 in
theorem ct_Checker_pushWay {l : Launch} {D : va_G} {ad : Nat → Nat} {ca : Nat → ClassId} {ads : List Nat} (htr : l.stackTraces = false) (hok : xk_ok (kw_h ad ca) ads) {fu : Nat} {x0 : Int32} {x1 : Int32} {u u' : xk_St} {r : (Unit ⊕ Nat)} (h : fm_Checker_pushWay fu x0 x1 u = some (r, u')) :
    ∀ sz, xk_Met l ⟨"ModuleHouse$Checker", "pushWay", "(II)V"⟩ (Cond.code ⟨"ModuleHouse$Checker", "pushWay", "(II)V"⟩ prog_2_method_26_code 4 none :: xk_gd) rm_Checker_pushWay (xk_Pc D kx_cl (kx_ty ca) (kw_h ad ca) ads xk_F sz [.ref (ad 55), .int x0, .int x1] u) (xk_Qc D kx_cl (kw_h ad ca) ads (xo_v r) u') (xk_A ads sz) := by
  unfold fm_Checker_pushWay at h
  refine xk_con (by decide) htr hok (Nat.le_of_ble_eq_true rfl) (fun p e s m below meth c ls C hne hl hP => ?_)
  have hx := C.1.1
  have hb := C.1.2.1
  have hS : va_S (xk_A ads s.heap.size) s.heap s.heap [] := va_S.rf
  have hl : lv_has ls 4 [(0, .ref (ad 55)), (1, .int x0), (2, .int x1)] := hl
  refine lv_iconst (v := 0) hx hb dd_Checker_pushWay_0 (by decide) ?_
  refine lv_istore_n (lv' := [(3, .int (0 : Int32)), (0, .ref (ad 55)), (1, .int x0), (2, .int x1)]) hx hb dd_Checker_pushWay_1 rfl hl (by decide) rfl (fun ls hl => ?_)
  exact wj_Checker_pushWay_2 htr C hne h hP hS (lv_sub hl [1, 2, 3, 0] rfl)
abbrev rm_Checker_compute : Room := { frames := 8, cells := 1, slots := 6, locals := 141 }
noncomputable def jb_Checker_compute_3 (fu : Nat) : Nat → Int32 → Int32 → Int32 → Int32 → xk_St → Option ((Unit ⊕ Nat) × xk_St)
  | 0 => fun _ _ _ _ _ => none
  | n + 1 => fun b1 b2 b3 b4 u =>
    xs_let (jb_Checker_compute_3 fu  n) fun k3 =>
    if b1 ≤ b4 then ((xs_try (fm_Checker_push b3 u) fun _ u1 => some (.inl (()), u1))) else ((xs_try (fm_Checker_pop_I b2 u) fun _ u2 => xs_let (b4 + (1 : Int32)) fun a3 => k3 b1 b2 b3 a3 u2))
noncomputable def fm_Checker_compute (fu : Nat) (x0 : Int32) (x1 : Int32) (x2 : Int32) (u : xk_St) : Option ((Unit ⊕ Nat) × xk_St) :=
  jb_Checker_compute_3 fu fu x0 x1 x2 (0 : Int32) u
set_option maxHeartbeats 4000000 in
set_option maxRecDepth 100000 in
theorem wj_Checker_compute_3 {p : Program} {l : Launch} {e : Env} {s : State} {m : MethodId} {args : Array Value} {below : List Frame} {meth : Method} {c : Code} {D : va_G} {ad : Nat → Nat} {ca : Nat → ClassId} {ads : List Nat} {fu : Nat} (htr : l.stackTraces = false) (C : xk_C D kx_cl (kx_ty ca) (kw_h ad ca) ads "ModuleHouse$Checker" prog_2_method_46_code 5 none p e s m args meth c) (hne : c.exceptionTable.isEmpty = true) {u' : xk_St} {r : (Unit ⊕ Nat)} : ∀ {n : Nat} {b1 : Int32} {b2 : Int32} {b3 : Int32} {b4 : Int32} {u : xk_St} {H : Heap} {locs : List Loc} {ls : Array Slot} (h : jb_Checker_compute_3 fu  n b1 b2 b3 b4 u = some (r, u')) (hP : va_P D kx_cl (kw_h ad ca u) H) (hS : va_S (xk_A ads s.heap.size) s.heap H locs) (hl : lv_has ls 5 [(0, .ref (ad 55)), (1, .int b1), (2, .int b2), (3, .int b3), (4, .int b4)]), W p l e rm_Checker_compute s m args below meth c H locs 0 0 (xk_MQ below (xk_Qc D kx_cl (kw_h ad ca) ads (xo_v r) u') args s (xk_A ads s.heap.size)) (F0 m 3 ls []) := by
  intro n
  have hx := C.1.1
  have hb := C.1.2.1
  have hok := C.2.2.1
  induction n with
  | zero =>
    intro _ _ _ _ u H locs ls h
    have h : none = some (r, u') := h
    cases h
  | succ n ih =>
    intro b1 b2 b3 b4 u H locs ls h hP hS hl
    unfold jb_Checker_compute_3 at h
    obtain ⟨k3, ek3, h⟩ := xp_let h
    have hk3 : ∀ (c0 : Int32) (c1 : Int32) (c2 : Int32) (c3 : Int32) (u : xk_St) (H : Heap) (locs : List Loc) (ls : Array Slot), k3 c0 c1 c2 c3 u = some (r, u') → va_P D kx_cl (kw_h ad ca u) H → va_S (xk_A ads s.heap.size) s.heap H locs → lv_has ls 5 [(0, .ref (ad 55)), (1, .int c0), (2, .int c1), (3, .int c2), (4, .int c3)] → W p l e rm_Checker_compute s m args below meth c H locs 0 0 (xk_MQ below (xk_Qc D kx_cl (kw_h ad ca) ads (xo_v r) u') args s (xk_A ads s.heap.size)) (F0 m 3 ls []) := by
      intro c0 c1 c2 c3 u H locs ls h hP hS hl
      subst ek3
      exact ih h hP hS hl
    clear ih ek3
    refine lv_iload hx hb dd_Checker_compute_3 (lv_at hl 4 rfl) ?_
    refine lv_iload_n hx hb dd_Checker_compute_5 rfl (lv_at hl 1 rfl) ?_
    refine lv_icmp_ge (tgt := 20) hx hb dd_Checker_compute_6 (by decide) (fun hc => ?_) (fun hc => ?_)
    · have h := xp_t hc h
      refine lv_aload_n hx hb dd_Checker_compute_20 rfl (lv_at hl 0 rfl) ?_
      refine lv_iload_n hx hb dd_Checker_compute_21 rfl (lv_at hl 3 rfl) ?_
      rcases xp_try h with ⟨rx, u1, hq, h⟩ | ⟨kx, ux, hq, h⟩
      rotate_left
      · obtain ⟨rfl, rfl⟩ := xp_q h
        exact xk_up (xr_V (As := [.int b3]) (rest := []) C hP hS (ct_Checker_push htr hok hq) kq_Checker_203 55 1 rfl rfl ⟨rfl, rfl, Nat.le_of_ble_eq_true rfl, Nat.le_of_ble_eq_true rfl⟩ ⟨Nat.le_of_ble_eq_true rfl, Nat.le_of_ble_eq_true rfl⟩ hl.1 rfl rfl (Nat.le_of_ble_eq_true rfl) dd_Checker_compute_22) hS hne C.2.2.2.2.2.2.1
      refine xk_goesV (xr_V (As := [.int b3]) (rest := []) C hP hS (ct_Checker_push htr hok hq) kq_Checker_203 55 1 rfl rfl ⟨rfl, rfl, Nat.le_of_ble_eq_true rfl, Nat.le_of_ble_eq_true rfl⟩ ⟨Nat.le_of_ble_eq_true rfl, Nat.le_of_ble_eq_true rfl⟩ hl.1 rfl rfl (Nat.le_of_ble_eq_true rfl) dd_Checker_compute_22) hS (fun H locs hP hS => ?_)
      clear hq
      obtain ⟨rfl, rfl⟩ := xp_r h
      exact xr_vret C hP hS dd_Checker_compute_25
    · have h := xp_f hc h
      refine lv_aload_n hx hb dd_Checker_compute_9 rfl (lv_at hl 0 rfl) ?_
      refine lv_iload_n hx hb dd_Checker_compute_10 rfl (lv_at hl 2 rfl) ?_
      rcases xp_try h with ⟨rx, u2, hq, h⟩ | ⟨kx, ux, hq, h⟩
      rotate_left
      · obtain ⟨rfl, rfl⟩ := xp_q h
        exact xk_up (xr_V (As := [.int b2]) (rest := []) C hP hS (ct_Checker_pop_I htr hok hq) kq_Checker_238 55 1 rfl rfl ⟨rfl, rfl, Nat.le_of_ble_eq_true rfl, Nat.le_of_ble_eq_true rfl⟩ ⟨Nat.le_of_ble_eq_true rfl, Nat.le_of_ble_eq_true rfl⟩ hl.1 rfl rfl (Nat.le_of_ble_eq_true rfl) dd_Checker_compute_11) hS hne C.2.2.2.2.2.2.1
      refine xk_goesV (xr_V (As := [.int b2]) (rest := []) C hP hS (ct_Checker_pop_I htr hok hq) kq_Checker_238 55 1 rfl rfl ⟨rfl, rfl, Nat.le_of_ble_eq_true rfl, Nat.le_of_ble_eq_true rfl⟩ ⟨Nat.le_of_ble_eq_true rfl, Nat.le_of_ble_eq_true rfl⟩ hl.1 rfl rfl (Nat.le_of_ble_eq_true rfl) dd_Checker_compute_11) hS (fun H locs hP hS => ?_)
      clear hq
      obtain ⟨a3, ea3, h⟩ := xp_let h
      refine lv_iinc (v := a3) (lv' := [(4, .int a3), (0, .ref (ad 55)), (1, .int b1), (2, .int b2), (3, .int b3)]) hx hb dd_Checker_compute_14 hl (k := 4) rfl (by rw [ea3]; first | rfl | decide) (by decide) rfl (fun ls hl => ?_)
      refine lv_goto (tgt := 3) hx hb dd_Checker_compute_17 (by decide) ?_
      exact hk3 b1 b2 b3 a3 u2 _ _ _ h hP hS (lv_sub hl [1, 2, 3, 4, 0] rfl)
set_option maxHeartbeats 4000000 in
set_option maxRecDepth 100000 in
theorem ct_Checker_compute {l : Launch} {D : va_G} {ad : Nat → Nat} {ca : Nat → ClassId} {ads : List Nat} (htr : l.stackTraces = false) (hok : xk_ok (kw_h ad ca) ads) {fu : Nat} {x0 : Int32} {x1 : Int32} {x2 : Int32} {u u' : xk_St} {r : (Unit ⊕ Nat)} (h : fm_Checker_compute fu x0 x1 x2 u = some (r, u')) :
    ∀ sz, xk_Met l ⟨"ModuleHouse$Checker", "compute", "(III)V"⟩ (Cond.code ⟨"ModuleHouse$Checker", "compute", "(III)V"⟩ prog_2_method_46_code 5 none :: xk_gd) rm_Checker_compute (xk_Pc D kx_cl (kx_ty ca) (kw_h ad ca) ads xk_F sz [.ref (ad 55), .int x0, .int x1, .int x2] u) (xk_Qc D kx_cl (kw_h ad ca) ads (xo_v r) u') (xk_A ads sz) := by
  unfold fm_Checker_compute at h
  refine xk_con (by decide) htr hok (Nat.le_of_ble_eq_true rfl) (fun p e s m below meth c ls C hne hl hP => ?_)
  have hx := C.1.1
  have hb := C.1.2.1
  have hS : va_S (xk_A ads s.heap.size) s.heap s.heap [] := va_S.rf
  have hl : lv_has ls 5 [(0, .ref (ad 55)), (1, .int x0), (2, .int x1), (3, .int x2)] := hl
  refine lv_iconst (v := 0) hx hb dd_Checker_compute_0 (by decide) ?_
  refine lv_istore (lv' := [(4, .int (0 : Int32)), (0, .ref (ad 55)), (1, .int x0), (2, .int x1), (3, .int x2)]) hx hb dd_Checker_compute_1 hl (by decide) rfl (fun ls hl => ?_)
  exact wj_Checker_compute_3 htr C hne h hP hS (lv_sub hl [1, 2, 3, 4, 0] rfl)
abbrev rm_Checker_checkReference : Room := { frames := 9, cells := 1, slots := 6, locals := 165 }
noncomputable def jb_Checker_checkReference_218 (fu : Nat) (b4 : Int32) (b5 : Int32) (s0 : Int32) (u : xk_St) : Option ((Unit ⊕ Nat) × xk_St) :=
  (xs_try (fm_Checker_need s0 u) fun _ u19 => xs_try (fm_Checker_popWay fu b4 b5 u19) fun _ u20 => xs_try (fm_Checker_pushWay fu b4 b5 u20) fun _ u21 => some (.inl (()), u21))
noncomputable def jb_Checker_checkReference_217 (fu : Nat) (b4 : Int32) (b5 : Int32) (u : xk_St) : Option ((Unit ⊕ Nat) × xk_St) :=
  jb_Checker_checkReference_218 fu b4 b5 (0 : Int32) u
noncomputable def jb_Checker_checkReference_164 (fu : Nat) (b2 : Int32) (u : xk_St) : Option ((Unit ⊕ Nat) × xk_St) :=
  (xs_try (fm_Checker_popReference u) fun a10 u11 => xs_seq (fm_Types_notNull a10 u11) fun a12 u13 => xs_try (fm_Checker_branch b2 u13) fun a14 u15 => xs_seq (fm_Checker_wayCount a14 u15) fun a16 u17 => xs_let (a16 - (1 : Int32)) fun a18 => if a18 < (0 : Int32) then (jb_Checker_checkReference_217 fu a14 a18 u17) else ((xs_seq (fm_Checker_wayType a14 a18 u17) fun a22 u23 => xs_seq (fm_Types_fits a12 a22 u23) fun a24 u25 => if a24 = (0 : Int32) then (jb_Checker_checkReference_217 fu a14 a18 u25) else (jb_Checker_checkReference_218 fu a14 a18 (1 : Int32) u25))))
noncomputable def fm_Checker_checkReference (fu : Nat) (x0 : Int32) (x1 : Int32) (u : xk_St) : Option ((Unit ⊕ Nat) × xk_St) :=
  if x0 = (208 : Int32) then ((if x1 < 0 ∨ 8192 ≤ x1.toNatClampNeg then none else xs_seq (fm_Types_knowsTarget (u.2.2.1 8 x1.toNatClampNeg) u) fun a1 u2 => xs_try (fm_Checker_need a1 u2) fun _ u3 => if x1 < 0 ∨ 8192 ≤ x1.toNatClampNeg then none else xs_seq (fm_Types_reference (u3.2.2.1 8 x1.toNatClampNeg) (1 : Int32) u3) fun a4 u5 => xs_try (fm_Checker_push a4 u5) fun _ u6 => some (.inl (()), u6))) else if x0 = (209 : Int32) then ((xs_try (fm_Checker_popReference u) fun a7 u8 => xs_try (fm_Checker_push (1 : Int32) u8) fun _ u9 => some (.inl (()), u9))) else if x0 = (210 : Int32) then (jb_Checker_checkReference_164 fu x1 u) else if x0 = (211 : Int32) then ((xs_try (fm_Checker_compute fu (2 : Int32) (17 : Int32) (1 : Int32) u) fun _ u26 => some (.inl (()), u26))) else if x0 = (212 : Int32) then ((xs_try (fm_Checker_popReference u) fun a27 u28 => xs_seq (fm_Types_notNull a27 u28) fun a29 u30 => xs_try (fm_Checker_push a29 u30) fun _ u31 => some (.inl (()), u31))) else if x0 = (213 : Int32) then ((xs_try (fm_Checker_popReference u) fun a32 u33 => xs_seq (fm_Types_notNull a32 u33) fun a34 u35 => xs_try (fm_Checker_branch x1 u35) fun a36 u37 => xs_seq (fm_Checker_wayCount a36 u37) fun a38 u39 => xs_try (fm_Checker_popWay fu a36 a38 u39) fun _ u40 => xs_seq (fm_Checker_wayCount a36 u40) fun a41 u42 => xs_try (fm_Checker_pushWay fu a36 a41 u42) fun _ u43 => xs_try (fm_Checker_push a34 u43) fun _ u44 => some (.inl (()), u44))) else (jb_Checker_checkReference_164 fu x1 u)
set_option maxHeartbeats 4000000 in
set_option maxRecDepth 100000 in
theorem wj_Checker_checkReference_218 {p : Program} {l : Launch} {e : Env} {s : State} {m : MethodId} {args : Array Value} {below : List Frame} {meth : Method} {c : Code} {D : va_G} {ad : Nat → Nat} {ca : Nat → ClassId} {ads : List Nat} {fu : Nat} (htr : l.stackTraces = false) (C : xk_C D kx_cl (kx_ty ca) (kw_h ad ca) ads "ModuleHouse$Checker" prog_2_method_47_code 6 none p e s m args meth c) (hne : c.exceptionTable.isEmpty = true) {u' : xk_St} {r : (Unit ⊕ Nat)} {b4 : Int32} {b5 : Int32} {s0 : Int32} {u : xk_St} {H : Heap} {locs : List Loc} {ls : Array Slot} (h : jb_Checker_checkReference_218 fu  b4 b5 s0 u = some (r, u')) (hP : va_P D kx_cl (kw_h ad ca u) H) (hS : va_S (xk_A ads s.heap.size) s.heap H locs) (hl : lv_has ls 6 [(0, .ref (ad 55)), (4, .int b4), (5, .int b5)]) : W p l e rm_Checker_checkReference s m args below meth c H locs 0 0 (xk_MQ below (xk_Qc D kx_cl (kw_h ad ca) ads (xo_v r) u') args s (xk_A ads s.heap.size)) (F0 m 218 ls [.int s0]) := by
  have hx := C.1.1
  have hb := C.1.2.1
  have hok := C.2.2.1
  unfold jb_Checker_checkReference_218 at h
  rcases xp_try h with ⟨rx, u19, hq, h⟩ | ⟨kx, ux, hq, h⟩
  rotate_left
  · obtain ⟨rfl, rfl⟩ := xp_q h
    exact xk_up (xr_S (As := [.int s0]) (rest := []) C hP hS (ct_Checker_need htr hok hq) kq_Checker_60 ⟨rfl, rfl, Nat.le_of_ble_eq_true rfl, Nat.le_of_ble_eq_true rfl⟩ ⟨Nat.le_of_ble_eq_true rfl, Nat.le_of_ble_eq_true rfl⟩ hl.1 rfl rfl (Nat.le_of_ble_eq_true rfl) dd_Checker_checkReference_218) hS hne C.2.2.2.2.2.2.1
  refine xk_goesV (xr_S (As := [.int s0]) (rest := []) C hP hS (ct_Checker_need htr hok hq) kq_Checker_60 ⟨rfl, rfl, Nat.le_of_ble_eq_true rfl, Nat.le_of_ble_eq_true rfl⟩ ⟨Nat.le_of_ble_eq_true rfl, Nat.le_of_ble_eq_true rfl⟩ hl.1 rfl rfl (Nat.le_of_ble_eq_true rfl) dd_Checker_checkReference_218) hS (fun H locs hP hS => ?_)
  clear hq
  refine lv_aload_n hx hb dd_Checker_checkReference_221 rfl (lv_at hl 0 rfl) ?_
  refine lv_iload hx hb dd_Checker_checkReference_222 (lv_at hl 1 rfl) ?_
  refine lv_iload hx hb dd_Checker_checkReference_224 (lv_at hl 2 rfl) ?_
  rcases xp_try h with ⟨rx, u20, hq, h⟩ | ⟨kx, ux, hq, h⟩
  rotate_left
  · obtain ⟨rfl, rfl⟩ := xp_q h
    exact xk_up (xr_V (As := [.int b4, .int b5]) (rest := []) C hP hS (ct_Checker_popWay htr hok hq) kq_Checker_261 55 1 rfl rfl ⟨rfl, rfl, Nat.le_of_ble_eq_true rfl, Nat.le_of_ble_eq_true rfl⟩ ⟨Nat.le_of_ble_eq_true rfl, Nat.le_of_ble_eq_true rfl⟩ hl.1 rfl rfl (Nat.le_of_ble_eq_true rfl) dd_Checker_checkReference_226) hS hne C.2.2.2.2.2.2.1
  refine xk_goesV (xr_V (As := [.int b4, .int b5]) (rest := []) C hP hS (ct_Checker_popWay htr hok hq) kq_Checker_261 55 1 rfl rfl ⟨rfl, rfl, Nat.le_of_ble_eq_true rfl, Nat.le_of_ble_eq_true rfl⟩ ⟨Nat.le_of_ble_eq_true rfl, Nat.le_of_ble_eq_true rfl⟩ hl.1 rfl rfl (Nat.le_of_ble_eq_true rfl) dd_Checker_checkReference_226) hS (fun H locs hP hS => ?_)
  clear hq
  refine lv_aload_n hx hb dd_Checker_checkReference_229 rfl (lv_at hl 0 rfl) ?_
  refine lv_iload hx hb dd_Checker_checkReference_230 (lv_at hl 1 rfl) ?_
  refine lv_iload hx hb dd_Checker_checkReference_232 (lv_at hl 2 rfl) ?_
  rcases xp_try h with ⟨rx, u21, hq, h⟩ | ⟨kx, ux, hq, h⟩
  rotate_left
  · obtain ⟨rfl, rfl⟩ := xp_q h
    exact xk_up (xr_V (As := [.int b4, .int b5]) (rest := []) C hP hS (ct_Checker_pushWay htr hok hq) kq_Checker_264 55 1 rfl rfl ⟨rfl, rfl, Nat.le_of_ble_eq_true rfl, Nat.le_of_ble_eq_true rfl⟩ ⟨Nat.le_of_ble_eq_true rfl, Nat.le_of_ble_eq_true rfl⟩ hl.1 rfl rfl (Nat.le_of_ble_eq_true rfl) dd_Checker_checkReference_234) hS hne C.2.2.2.2.2.2.1
  refine xk_goesV (xr_V (As := [.int b4, .int b5]) (rest := []) C hP hS (ct_Checker_pushWay htr hok hq) kq_Checker_264 55 1 rfl rfl ⟨rfl, rfl, Nat.le_of_ble_eq_true rfl, Nat.le_of_ble_eq_true rfl⟩ ⟨Nat.le_of_ble_eq_true rfl, Nat.le_of_ble_eq_true rfl⟩ hl.1 rfl rfl (Nat.le_of_ble_eq_true rfl) dd_Checker_checkReference_234) hS (fun H locs hP hS => ?_)
  clear hq
  obtain ⟨rfl, rfl⟩ := xp_r h
  exact xr_vret C hP hS dd_Checker_checkReference_237
set_option maxHeartbeats 4000000 in
set_option maxRecDepth 100000 in
theorem wj_Checker_checkReference_217 {p : Program} {l : Launch} {e : Env} {s : State} {m : MethodId} {args : Array Value} {below : List Frame} {meth : Method} {c : Code} {D : va_G} {ad : Nat → Nat} {ca : Nat → ClassId} {ads : List Nat} {fu : Nat} (htr : l.stackTraces = false) (C : xk_C D kx_cl (kx_ty ca) (kw_h ad ca) ads "ModuleHouse$Checker" prog_2_method_47_code 6 none p e s m args meth c) (hne : c.exceptionTable.isEmpty = true) {u' : xk_St} {r : (Unit ⊕ Nat)} {b4 : Int32} {b5 : Int32} {u : xk_St} {H : Heap} {locs : List Loc} {ls : Array Slot} (h : jb_Checker_checkReference_217 fu  b4 b5 u = some (r, u')) (hP : va_P D kx_cl (kw_h ad ca u) H) (hS : va_S (xk_A ads s.heap.size) s.heap H locs) (hl : lv_has ls 6 [(0, .ref (ad 55)), (4, .int b4), (5, .int b5)]) : W p l e rm_Checker_checkReference s m args below meth c H locs 0 0 (xk_MQ below (xk_Qc D kx_cl (kw_h ad ca) ads (xo_v r) u') args s (xk_A ads s.heap.size)) (F0 m 217 ls []) := by
  have hx := C.1.1
  have hb := C.1.2.1
  have hok := C.2.2.1
  unfold jb_Checker_checkReference_217 at h
  refine lv_iconst (v := 0) hx hb dd_Checker_checkReference_217 (by decide) ?_
  exact wj_Checker_checkReference_218 htr C hne h hP hS (lv_sub hl [0, 1, 2] rfl)
set_option maxHeartbeats 4000000 in
set_option maxRecDepth 100000 in
theorem wj_Checker_checkReference_164 {p : Program} {l : Launch} {e : Env} {s : State} {m : MethodId} {args : Array Value} {below : List Frame} {meth : Method} {c : Code} {D : va_G} {ad : Nat → Nat} {ca : Nat → ClassId} {ads : List Nat} {fu : Nat} (htr : l.stackTraces = false) (C : xk_C D kx_cl (kx_ty ca) (kw_h ad ca) ads "ModuleHouse$Checker" prog_2_method_47_code 6 none p e s m args meth c) (hne : c.exceptionTable.isEmpty = true) {u' : xk_St} {r : (Unit ⊕ Nat)} {b2 : Int32} {u : xk_St} {H : Heap} {locs : List Loc} {ls : Array Slot} (h : jb_Checker_checkReference_164 fu  b2 u = some (r, u')) (hP : va_P D kx_cl (kw_h ad ca u) H) (hS : va_S (xk_A ads s.heap.size) s.heap H locs) (hl : lv_has ls 6 [(0, .ref (ad 55)), (2, .int b2)]) : W p l e rm_Checker_checkReference s m args below meth c H locs 0 0 (xk_MQ below (xk_Qc D kx_cl (kw_h ad ca) ads (xo_v r) u') args s (xk_A ads s.heap.size)) (F0 m 164 ls []) := by
  have hx := C.1.1
  have hb := C.1.2.1
  have hok := C.2.2.1
  unfold jb_Checker_checkReference_164 at h
  refine lv_aload_n hx hb dd_Checker_checkReference_164 rfl (lv_at hl 0 rfl) ?_
  rcases xp_try h with ⟨a10, u11, hq, h⟩ | ⟨kx, ux, hq, h⟩
  rotate_left
  · obtain ⟨rfl, rfl⟩ := xp_q h
    exact xk_up (xr_V (As := []) (rest := []) C hP hS (ct_Checker_popReference htr hok hq) kq_Checker_340 55 1 rfl rfl ⟨rfl, rfl, Nat.le_of_ble_eq_true rfl, Nat.le_of_ble_eq_true rfl⟩ ⟨Nat.le_of_ble_eq_true rfl, Nat.le_of_ble_eq_true rfl⟩ hl.1 rfl rfl (Nat.le_of_ble_eq_true rfl) dd_Checker_checkReference_165) hS hne C.2.2.2.2.2.2.1
  refine xk_goesI (xr_V (As := []) (rest := []) C hP hS (ct_Checker_popReference htr hok hq) kq_Checker_340 55 1 rfl rfl ⟨rfl, rfl, Nat.le_of_ble_eq_true rfl, Nat.le_of_ble_eq_true rfl⟩ ⟨Nat.le_of_ble_eq_true rfl, Nat.le_of_ble_eq_true rfl⟩ hl.1 rfl rfl (Nat.le_of_ble_eq_true rfl) dd_Checker_checkReference_165) hS (fun H locs hP hS => ?_)
  clear hq
  obtain ⟨a12, u13, hq, h⟩ := xp_seq h
  refine xk_goesI (xr_S (As := [.int a10]) (rest := []) C hP hS (ct_Types_notNull htr hok hq) kq_Checker_343 ⟨rfl, rfl, Nat.le_of_ble_eq_true rfl, Nat.le_of_ble_eq_true rfl⟩ ⟨Nat.le_of_ble_eq_true rfl, Nat.le_of_ble_eq_true rfl⟩ hl.1 rfl rfl (Nat.le_of_ble_eq_true rfl) dd_Checker_checkReference_168) hS (fun H locs hP hS => ?_)
  clear hq
  refine lv_istore_n (lv' := [(3, .int a12), (0, .ref (ad 55)), (2, .int b2)]) hx hb dd_Checker_checkReference_171 rfl hl (by decide) rfl (fun ls hl => ?_)
  refine lv_aload_n hx hb dd_Checker_checkReference_172 rfl (lv_at hl 1 rfl) ?_
  refine lv_iload_n hx hb dd_Checker_checkReference_173 rfl (lv_at hl 2 rfl) ?_
  rcases xp_try h with ⟨a14, u15, hq, h⟩ | ⟨kx, ux, hq, h⟩
  rotate_left
  · obtain ⟨rfl, rfl⟩ := xp_q h
    exact xk_up (xr_V (As := [.int b2]) (rest := []) C hP hS (ct_Checker_branch htr hok hq) kq_Checker_255 55 1 rfl rfl ⟨rfl, rfl, Nat.le_of_ble_eq_true rfl, Nat.le_of_ble_eq_true rfl⟩ ⟨Nat.le_of_ble_eq_true rfl, Nat.le_of_ble_eq_true rfl⟩ hl.1 rfl rfl (Nat.le_of_ble_eq_true rfl) dd_Checker_checkReference_174) hS hne C.2.2.2.2.2.2.1
  refine xk_goesI (xr_V (As := [.int b2]) (rest := []) C hP hS (ct_Checker_branch htr hok hq) kq_Checker_255 55 1 rfl rfl ⟨rfl, rfl, Nat.le_of_ble_eq_true rfl, Nat.le_of_ble_eq_true rfl⟩ ⟨Nat.le_of_ble_eq_true rfl, Nat.le_of_ble_eq_true rfl⟩ hl.1 rfl rfl (Nat.le_of_ble_eq_true rfl) dd_Checker_checkReference_174) hS (fun H locs hP hS => ?_)
  clear hq
  refine lv_istore (lv' := [(4, .int a14), (3, .int a12), (0, .ref (ad 55)), (2, .int b2)]) hx hb dd_Checker_checkReference_177 hl (by decide) rfl (fun ls hl => ?_)
  refine lv_aload_n hx hb dd_Checker_checkReference_179 rfl (lv_at hl 2 rfl) ?_
  refine lv_iload hx hb dd_Checker_checkReference_180 (lv_at hl 0 rfl) ?_
  obtain ⟨a16, u17, hq, h⟩ := xp_seq h
  refine xk_goesI (xr_V (As := [.int a14]) (rest := []) C hP hS (ct_Checker_wayCount htr hok hq) kq_Checker_258 55 1 rfl rfl ⟨rfl, rfl, Nat.le_of_ble_eq_true rfl, Nat.le_of_ble_eq_true rfl⟩ ⟨Nat.le_of_ble_eq_true rfl, Nat.le_of_ble_eq_true rfl⟩ hl.1 rfl rfl (Nat.le_of_ble_eq_true rfl) dd_Checker_checkReference_182) hS (fun H locs hP hS => ?_)
  clear hq
  refine lv_iconst (v := 1) hx hb dd_Checker_checkReference_185 (by decide) ?_
  refine lv_isub hx hb dd_Checker_checkReference_186 ?_
  obtain ⟨a18, ea18, h⟩ := xp_let h
  refine xr_nami ea18 ?_
  refine lv_istore (lv' := [(5, .int a18), (4, .int a14), (3, .int a12), (0, .ref (ad 55)), (2, .int b2)]) hx hb dd_Checker_checkReference_187 hl (by decide) rfl (fun ls hl => ?_)
  refine lv_iload hx hb dd_Checker_checkReference_189 (lv_at hl 0 rfl) ?_
  refine lv_if_lt (tgt := 217) hx hb dd_Checker_checkReference_191 (by decide) (fun hc => ?_) (fun hc => ?_)
  · have h := xp_t hc h
    exact wj_Checker_checkReference_217 htr C hne h hP hS (lv_sub hl [3, 1, 0] rfl)
  · have h := xp_f hc h
    refine lv_aload_n hx hb dd_Checker_checkReference_194 rfl (lv_at hl 3 rfl) ?_
    refine gf_h_Checker_55_types C hP dd_Checker_checkReference_195 ?_
    refine lv_iload_n hx hb dd_Checker_checkReference_198 rfl (lv_at hl 2 rfl) ?_
    refine lv_aload_n hx hb dd_Checker_checkReference_199 rfl (lv_at hl 3 rfl) ?_
    refine lv_iload hx hb dd_Checker_checkReference_200 (lv_at hl 1 rfl) ?_
    refine lv_iload hx hb dd_Checker_checkReference_202 (lv_at hl 0 rfl) ?_
    obtain ⟨a22, u23, hq, h⟩ := xp_seq h
    refine xk_goesI (xr_V (As := [.int a14, .int a18]) (rest := [.int a12, .ref (ad 6)]) C hP hS (ct_Checker_wayType htr hok hq) kq_Checker_235 55 1 rfl rfl ⟨rfl, rfl, Nat.le_of_ble_eq_true rfl, Nat.le_of_ble_eq_true rfl⟩ ⟨Nat.le_of_ble_eq_true rfl, Nat.le_of_ble_eq_true rfl⟩ hl.1 rfl rfl (Nat.le_of_ble_eq_true rfl) dd_Checker_checkReference_204) hS (fun H locs hP hS => ?_)
    clear hq
    obtain ⟨a24, u25, hq, h⟩ := xp_seq h
    refine xk_goesI (xr_V (As := [.int a12, .int a22]) (rest := []) C hP hS (ct_Types_fits htr hok hq) kq_Checker_148 6 9 rfl rfl ⟨rfl, rfl, Nat.le_of_ble_eq_true rfl, Nat.le_of_ble_eq_true rfl⟩ ⟨Nat.le_of_ble_eq_true rfl, Nat.le_of_ble_eq_true rfl⟩ hl.1 rfl rfl (Nat.le_of_ble_eq_true rfl) dd_Checker_checkReference_207) hS (fun H locs hP hS => ?_)
    clear hq
    refine lv_if_eq (tgt := 217) hx hb dd_Checker_checkReference_210 (by decide) (fun hc => ?_) (fun hc => ?_)
    · have h := xp_t hc h
      exact wj_Checker_checkReference_217 htr C hne h hP hS (lv_sub hl [3, 1, 0] rfl)
    · have h := xp_f hc h
      refine lv_iconst (v := 1) hx hb dd_Checker_checkReference_213 (by decide) ?_
      refine lv_goto (tgt := 218) hx hb dd_Checker_checkReference_214 (by decide) ?_
      exact wj_Checker_checkReference_218 htr C hne h hP hS (lv_sub hl [3, 1, 0] rfl)
set_option maxHeartbeats 4000000 in
set_option maxRecDepth 100000 in
theorem ct_Checker_checkReference {l : Launch} {D : va_G} {ad : Nat → Nat} {ca : Nat → ClassId} {ads : List Nat} (htr : l.stackTraces = false) (hok : xk_ok (kw_h ad ca) ads) {fu : Nat} {x0 : Int32} {x1 : Int32} {u u' : xk_St} {r : (Unit ⊕ Nat)} (h : fm_Checker_checkReference fu x0 x1 u = some (r, u')) :
    ∀ sz, xk_Met l ⟨"ModuleHouse$Checker", "checkReference", "(II)V"⟩ (Cond.code ⟨"ModuleHouse$Checker", "checkReference", "(II)V"⟩ prog_2_method_47_code 6 none :: xk_gd) rm_Checker_checkReference (xk_Pc D kx_cl (kx_ty ca) (kw_h ad ca) ads xk_F sz [.ref (ad 55), .int x0, .int x1] u) (xk_Qc D kx_cl (kw_h ad ca) ads (xo_v r) u') (xk_A ads sz) := by
  unfold fm_Checker_checkReference at h
  refine xk_con (by decide) htr hok (Nat.le_of_ble_eq_true rfl) (fun p e s m below meth c ls C hne hl hP => ?_)
  have hx := C.1.1
  have hb := C.1.2.1
  have hS : va_S (xk_A ads s.heap.size) s.heap s.heap [] := va_S.rf
  have hl : lv_has ls 6 [(0, .ref (ad 55)), (1, .int x0), (2, .int x1)] := hl
  refine lv_iload_n hx hb dd_Checker_checkReference_0 rfl (lv_at hl 1 rfl) ?_
  by_cases hc0 : x0 = (208 : Int32)
  · have h := xp_t hc0 h
    refine lv_tableIn (off := 39) (tgt := 40) hx hb dd_Checker_checkReference_1 (by rw [hc0]; decide) (by rw [hc0]; decide) (by rw [hc0]; rfl) (by decide) ?_
    refine lv_aload_n hx hb dd_Checker_checkReference_40 rfl (lv_at hl 0 rfl) ?_
    refine gf_h_Checker_55_types C hP dd_Checker_checkReference_41 ?_
    refine lv_aload_n hx hb dd_Checker_checkReference_44 rfl (lv_at hl 0 rfl) ?_
    refine gf_h_Checker_55_code C hP dd_Checker_checkReference_45 ?_
    refine gf_h_Checker_12_first C hP dd_Checker_checkReference_48 ?_
    refine lv_iload_n hx hb dd_Checker_checkReference_51 rfl (lv_at hl 2 rfl) ?_
    obtain ⟨hi, h⟩ := xp_g h
    refine al_h_14 C hP hi dd_Checker_checkReference_52 ?_
    obtain ⟨a1, u2, hq, h⟩ := xp_seq h
    refine xk_goesI (xr_V (As := [.int (u.2.2.1 8 x1.toNatClampNeg)]) (rest := []) C hP hS (ct_Types_knowsTarget htr hok hq) kq_Checker_337 6 9 rfl rfl ⟨rfl, rfl, Nat.le_of_ble_eq_true rfl, Nat.le_of_ble_eq_true rfl⟩ ⟨Nat.le_of_ble_eq_true rfl, Nat.le_of_ble_eq_true rfl⟩ hl.1 rfl rfl (Nat.le_of_ble_eq_true rfl) dd_Checker_checkReference_53) hS (fun H locs hP hS => ?_)
    clear hq
    rcases xp_try h with ⟨rx, u3, hq, h⟩ | ⟨kx, ux, hq, h⟩
    rotate_left
    · obtain ⟨rfl, rfl⟩ := xp_q h
      exact xk_up (xr_S (As := [.int a1]) (rest := []) C hP hS (ct_Checker_need htr hok hq) kq_Checker_60 ⟨rfl, rfl, Nat.le_of_ble_eq_true rfl, Nat.le_of_ble_eq_true rfl⟩ ⟨Nat.le_of_ble_eq_true rfl, Nat.le_of_ble_eq_true rfl⟩ hl.1 rfl rfl (Nat.le_of_ble_eq_true rfl) dd_Checker_checkReference_56) hS hne C.2.2.2.2.2.2.1
    refine xk_goesV (xr_S (As := [.int a1]) (rest := []) C hP hS (ct_Checker_need htr hok hq) kq_Checker_60 ⟨rfl, rfl, Nat.le_of_ble_eq_true rfl, Nat.le_of_ble_eq_true rfl⟩ ⟨Nat.le_of_ble_eq_true rfl, Nat.le_of_ble_eq_true rfl⟩ hl.1 rfl rfl (Nat.le_of_ble_eq_true rfl) dd_Checker_checkReference_56) hS (fun H locs hP hS => ?_)
    clear hq
    refine lv_aload_n hx hb dd_Checker_checkReference_59 rfl (lv_at hl 0 rfl) ?_
    refine lv_aload_n hx hb dd_Checker_checkReference_60 rfl (lv_at hl 0 rfl) ?_
    refine gf_h_Checker_55_code C hP dd_Checker_checkReference_61 ?_
    refine gf_h_Checker_12_first C hP dd_Checker_checkReference_64 ?_
    refine lv_iload_n hx hb dd_Checker_checkReference_67 rfl (lv_at hl 2 rfl) ?_
    obtain ⟨hi, h⟩ := xp_g h
    refine al_h_14 C hP hi dd_Checker_checkReference_68 ?_
    refine lv_iconst (v := 1) hx hb dd_Checker_checkReference_69 (by decide) ?_
    obtain ⟨a4, u5, hq, h⟩ := xp_seq h
    refine xk_goesI (xr_S (As := [.int (u3.2.2.1 8 x1.toNatClampNeg), .int (1 : Int32)]) (rest := [.ref (ad 55)]) C hP hS (ct_Types_reference htr hok hq) kq_Checker_231 ⟨rfl, rfl, Nat.le_of_ble_eq_true rfl, Nat.le_of_ble_eq_true rfl⟩ ⟨Nat.le_of_ble_eq_true rfl, Nat.le_of_ble_eq_true rfl⟩ hl.1 rfl rfl (Nat.le_of_ble_eq_true rfl) dd_Checker_checkReference_70) hS (fun H locs hP hS => ?_)
    clear hq
    rcases xp_try h with ⟨rx, u6, hq, h⟩ | ⟨kx, ux, hq, h⟩
    rotate_left
    · obtain ⟨rfl, rfl⟩ := xp_q h
      exact xk_up (xr_V (As := [.int a4]) (rest := []) C hP hS (ct_Checker_push htr hok hq) kq_Checker_203 55 1 rfl rfl ⟨rfl, rfl, Nat.le_of_ble_eq_true rfl, Nat.le_of_ble_eq_true rfl⟩ ⟨Nat.le_of_ble_eq_true rfl, Nat.le_of_ble_eq_true rfl⟩ hl.1 rfl rfl (Nat.le_of_ble_eq_true rfl) dd_Checker_checkReference_73) hS hne C.2.2.2.2.2.2.1
    refine xk_goesV (xr_V (As := [.int a4]) (rest := []) C hP hS (ct_Checker_push htr hok hq) kq_Checker_203 55 1 rfl rfl ⟨rfl, rfl, Nat.le_of_ble_eq_true rfl, Nat.le_of_ble_eq_true rfl⟩ ⟨Nat.le_of_ble_eq_true rfl, Nat.le_of_ble_eq_true rfl⟩ hl.1 rfl rfl (Nat.le_of_ble_eq_true rfl) dd_Checker_checkReference_73) hS (fun H locs hP hS => ?_)
    clear hq
    refine lv_goto (tgt := 237) hx hb dd_Checker_checkReference_76 (by decide) ?_
    obtain ⟨rfl, rfl⟩ := xp_r h
    exact xr_vret C hP hS dd_Checker_checkReference_237
  have h := xp_f hc0 h
  by_cases hc1 : x0 = (209 : Int32)
  · have h := xp_t hc1 h
    refine lv_tableIn (off := 78) (tgt := 79) hx hb dd_Checker_checkReference_1 (by rw [hc1]; decide) (by rw [hc1]; decide) (by rw [hc1]; rfl) (by decide) ?_
    refine lv_aload_n hx hb dd_Checker_checkReference_79 rfl (lv_at hl 0 rfl) ?_
    rcases xp_try h with ⟨a7, u8, hq, h⟩ | ⟨kx, ux, hq, h⟩
    rotate_left
    · obtain ⟨rfl, rfl⟩ := xp_q h
      exact xk_up (xr_V (As := []) (rest := []) C hP hS (ct_Checker_popReference htr hok hq) kq_Checker_340 55 1 rfl rfl ⟨rfl, rfl, Nat.le_of_ble_eq_true rfl, Nat.le_of_ble_eq_true rfl⟩ ⟨Nat.le_of_ble_eq_true rfl, Nat.le_of_ble_eq_true rfl⟩ hl.1 rfl rfl (Nat.le_of_ble_eq_true rfl) dd_Checker_checkReference_80) hS hne C.2.2.2.2.2.2.1
    refine xk_goesI (xr_V (As := []) (rest := []) C hP hS (ct_Checker_popReference htr hok hq) kq_Checker_340 55 1 rfl rfl ⟨rfl, rfl, Nat.le_of_ble_eq_true rfl, Nat.le_of_ble_eq_true rfl⟩ ⟨Nat.le_of_ble_eq_true rfl, Nat.le_of_ble_eq_true rfl⟩ hl.1 rfl rfl (Nat.le_of_ble_eq_true rfl) dd_Checker_checkReference_80) hS (fun H locs hP hS => ?_)
    clear hq
    refine lv_pop hx hb dd_Checker_checkReference_83 rfl ?_
    refine lv_aload_n hx hb dd_Checker_checkReference_84 rfl (lv_at hl 0 rfl) ?_
    refine lv_iconst (v := 1) hx hb dd_Checker_checkReference_85 (by decide) ?_
    rcases xp_try h with ⟨rx, u9, hq, h⟩ | ⟨kx, ux, hq, h⟩
    rotate_left
    · obtain ⟨rfl, rfl⟩ := xp_q h
      exact xk_up (xr_V (As := [.int (1 : Int32)]) (rest := []) C hP hS (ct_Checker_push htr hok hq) kq_Checker_203 55 1 rfl rfl ⟨rfl, rfl, Nat.le_of_ble_eq_true rfl, Nat.le_of_ble_eq_true rfl⟩ ⟨Nat.le_of_ble_eq_true rfl, Nat.le_of_ble_eq_true rfl⟩ hl.1 rfl rfl (Nat.le_of_ble_eq_true rfl) dd_Checker_checkReference_86) hS hne C.2.2.2.2.2.2.1
    refine xk_goesV (xr_V (As := [.int (1 : Int32)]) (rest := []) C hP hS (ct_Checker_push htr hok hq) kq_Checker_203 55 1 rfl rfl ⟨rfl, rfl, Nat.le_of_ble_eq_true rfl, Nat.le_of_ble_eq_true rfl⟩ ⟨Nat.le_of_ble_eq_true rfl, Nat.le_of_ble_eq_true rfl⟩ hl.1 rfl rfl (Nat.le_of_ble_eq_true rfl) dd_Checker_checkReference_86) hS (fun H locs hP hS => ?_)
    clear hq
    refine lv_goto (tgt := 237) hx hb dd_Checker_checkReference_89 (by decide) ?_
    obtain ⟨rfl, rfl⟩ := xp_r h
    exact xr_vret C hP hS dd_Checker_checkReference_237
  have h := xp_f hc1 h
  by_cases hc2 : x0 = (210 : Int32)
  · have h := xp_t hc2 h
    refine lv_tableIn (off := 163) (tgt := 164) hx hb dd_Checker_checkReference_1 (by rw [hc2]; decide) (by rw [hc2]; decide) (by rw [hc2]; rfl) (by decide) ?_
    exact wj_Checker_checkReference_164 htr C hne h hP hS (lv_sub hl [0, 2] rfl)
  have h := xp_f hc2 h
  by_cases hc3 : x0 = (211 : Int32)
  · have h := xp_t hc3 h
    refine lv_tableIn (off := 91) (tgt := 92) hx hb dd_Checker_checkReference_1 (by rw [hc3]; decide) (by rw [hc3]; decide) (by rw [hc3]; rfl) (by decide) ?_
    refine lv_aload_n hx hb dd_Checker_checkReference_92 rfl (lv_at hl 0 rfl) ?_
    refine lv_iconst (v := 2) hx hb dd_Checker_checkReference_93 (by decide) ?_
    refine lv_bipush (v := 17) hx hb dd_Checker_checkReference_94 (by decide) ?_
    refine lv_iconst (v := 1) hx hb dd_Checker_checkReference_96 (by decide) ?_
    rcases xp_try h with ⟨rx, u26, hq, h⟩ | ⟨kx, ux, hq, h⟩
    rotate_left
    · obtain ⟨rfl, rfl⟩ := xp_q h
      exact xk_up (xr_V (As := [.int (2 : Int32), .int (17 : Int32), .int (1 : Int32)]) (rest := []) C hP hS (ct_Checker_compute htr hok hq) kq_Checker_334 55 1 rfl rfl ⟨rfl, rfl, Nat.le_of_ble_eq_true rfl, Nat.le_of_ble_eq_true rfl⟩ ⟨Nat.le_of_ble_eq_true rfl, Nat.le_of_ble_eq_true rfl⟩ hl.1 rfl rfl (Nat.le_of_ble_eq_true rfl) dd_Checker_checkReference_97) hS hne C.2.2.2.2.2.2.1
    refine xk_goesV (xr_V (As := [.int (2 : Int32), .int (17 : Int32), .int (1 : Int32)]) (rest := []) C hP hS (ct_Checker_compute htr hok hq) kq_Checker_334 55 1 rfl rfl ⟨rfl, rfl, Nat.le_of_ble_eq_true rfl, Nat.le_of_ble_eq_true rfl⟩ ⟨Nat.le_of_ble_eq_true rfl, Nat.le_of_ble_eq_true rfl⟩ hl.1 rfl rfl (Nat.le_of_ble_eq_true rfl) dd_Checker_checkReference_97) hS (fun H locs hP hS => ?_)
    clear hq
    refine lv_goto (tgt := 237) hx hb dd_Checker_checkReference_100 (by decide) ?_
    obtain ⟨rfl, rfl⟩ := xp_r h
    exact xr_vret C hP hS dd_Checker_checkReference_237
  have h := xp_f hc3 h
  by_cases hc4 : x0 = (212 : Int32)
  · have h := xp_t hc4 h
    refine lv_tableIn (off := 102) (tgt := 103) hx hb dd_Checker_checkReference_1 (by rw [hc4]; decide) (by rw [hc4]; decide) (by rw [hc4]; rfl) (by decide) ?_
    refine lv_aload_n hx hb dd_Checker_checkReference_103 rfl (lv_at hl 0 rfl) ?_
    refine lv_aload_n hx hb dd_Checker_checkReference_104 rfl (lv_at hl 0 rfl) ?_
    rcases xp_try h with ⟨a27, u28, hq, h⟩ | ⟨kx, ux, hq, h⟩
    rotate_left
    · obtain ⟨rfl, rfl⟩ := xp_q h
      exact xk_up (xr_V (As := []) (rest := [.ref (ad 55)]) C hP hS (ct_Checker_popReference htr hok hq) kq_Checker_340 55 1 rfl rfl ⟨rfl, rfl, Nat.le_of_ble_eq_true rfl, Nat.le_of_ble_eq_true rfl⟩ ⟨Nat.le_of_ble_eq_true rfl, Nat.le_of_ble_eq_true rfl⟩ hl.1 rfl rfl (Nat.le_of_ble_eq_true rfl) dd_Checker_checkReference_105) hS hne C.2.2.2.2.2.2.1
    refine xk_goesI (xr_V (As := []) (rest := [.ref (ad 55)]) C hP hS (ct_Checker_popReference htr hok hq) kq_Checker_340 55 1 rfl rfl ⟨rfl, rfl, Nat.le_of_ble_eq_true rfl, Nat.le_of_ble_eq_true rfl⟩ ⟨Nat.le_of_ble_eq_true rfl, Nat.le_of_ble_eq_true rfl⟩ hl.1 rfl rfl (Nat.le_of_ble_eq_true rfl) dd_Checker_checkReference_105) hS (fun H locs hP hS => ?_)
    clear hq
    obtain ⟨a29, u30, hq, h⟩ := xp_seq h
    refine xk_goesI (xr_S (As := [.int a27]) (rest := [.ref (ad 55)]) C hP hS (ct_Types_notNull htr hok hq) kq_Checker_343 ⟨rfl, rfl, Nat.le_of_ble_eq_true rfl, Nat.le_of_ble_eq_true rfl⟩ ⟨Nat.le_of_ble_eq_true rfl, Nat.le_of_ble_eq_true rfl⟩ hl.1 rfl rfl (Nat.le_of_ble_eq_true rfl) dd_Checker_checkReference_108) hS (fun H locs hP hS => ?_)
    clear hq
    rcases xp_try h with ⟨rx, u31, hq, h⟩ | ⟨kx, ux, hq, h⟩
    rotate_left
    · obtain ⟨rfl, rfl⟩ := xp_q h
      exact xk_up (xr_V (As := [.int a29]) (rest := []) C hP hS (ct_Checker_push htr hok hq) kq_Checker_203 55 1 rfl rfl ⟨rfl, rfl, Nat.le_of_ble_eq_true rfl, Nat.le_of_ble_eq_true rfl⟩ ⟨Nat.le_of_ble_eq_true rfl, Nat.le_of_ble_eq_true rfl⟩ hl.1 rfl rfl (Nat.le_of_ble_eq_true rfl) dd_Checker_checkReference_111) hS hne C.2.2.2.2.2.2.1
    refine xk_goesV (xr_V (As := [.int a29]) (rest := []) C hP hS (ct_Checker_push htr hok hq) kq_Checker_203 55 1 rfl rfl ⟨rfl, rfl, Nat.le_of_ble_eq_true rfl, Nat.le_of_ble_eq_true rfl⟩ ⟨Nat.le_of_ble_eq_true rfl, Nat.le_of_ble_eq_true rfl⟩ hl.1 rfl rfl (Nat.le_of_ble_eq_true rfl) dd_Checker_checkReference_111) hS (fun H locs hP hS => ?_)
    clear hq
    refine lv_goto (tgt := 237) hx hb dd_Checker_checkReference_114 (by decide) ?_
    obtain ⟨rfl, rfl⟩ := xp_r h
    exact xr_vret C hP hS dd_Checker_checkReference_237
  have h := xp_f hc4 h
  by_cases hc5 : x0 = (213 : Int32)
  · have h := xp_t hc5 h
    refine lv_tableIn (off := 116) (tgt := 117) hx hb dd_Checker_checkReference_1 (by rw [hc5]; decide) (by rw [hc5]; decide) (by rw [hc5]; rfl) (by decide) ?_
    refine lv_aload_n hx hb dd_Checker_checkReference_117 rfl (lv_at hl 0 rfl) ?_
    rcases xp_try h with ⟨a32, u33, hq, h⟩ | ⟨kx, ux, hq, h⟩
    rotate_left
    · obtain ⟨rfl, rfl⟩ := xp_q h
      exact xk_up (xr_V (As := []) (rest := []) C hP hS (ct_Checker_popReference htr hok hq) kq_Checker_340 55 1 rfl rfl ⟨rfl, rfl, Nat.le_of_ble_eq_true rfl, Nat.le_of_ble_eq_true rfl⟩ ⟨Nat.le_of_ble_eq_true rfl, Nat.le_of_ble_eq_true rfl⟩ hl.1 rfl rfl (Nat.le_of_ble_eq_true rfl) dd_Checker_checkReference_118) hS hne C.2.2.2.2.2.2.1
    refine xk_goesI (xr_V (As := []) (rest := []) C hP hS (ct_Checker_popReference htr hok hq) kq_Checker_340 55 1 rfl rfl ⟨rfl, rfl, Nat.le_of_ble_eq_true rfl, Nat.le_of_ble_eq_true rfl⟩ ⟨Nat.le_of_ble_eq_true rfl, Nat.le_of_ble_eq_true rfl⟩ hl.1 rfl rfl (Nat.le_of_ble_eq_true rfl) dd_Checker_checkReference_118) hS (fun H locs hP hS => ?_)
    clear hq
    obtain ⟨a34, u35, hq, h⟩ := xp_seq h
    refine xk_goesI (xr_S (As := [.int a32]) (rest := []) C hP hS (ct_Types_notNull htr hok hq) kq_Checker_343 ⟨rfl, rfl, Nat.le_of_ble_eq_true rfl, Nat.le_of_ble_eq_true rfl⟩ ⟨Nat.le_of_ble_eq_true rfl, Nat.le_of_ble_eq_true rfl⟩ hl.1 rfl rfl (Nat.le_of_ble_eq_true rfl) dd_Checker_checkReference_121) hS (fun H locs hP hS => ?_)
    clear hq
    refine lv_istore_n (lv' := [(3, .int a34), (0, .ref (ad 55)), (1, .int x0), (2, .int x1)]) hx hb dd_Checker_checkReference_124 rfl hl (by decide) rfl (fun ls hl => ?_)
    refine lv_aload_n hx hb dd_Checker_checkReference_125 rfl (lv_at hl 1 rfl) ?_
    refine lv_iload_n hx hb dd_Checker_checkReference_126 rfl (lv_at hl 3 rfl) ?_
    rcases xp_try h with ⟨a36, u37, hq, h⟩ | ⟨kx, ux, hq, h⟩
    rotate_left
    · obtain ⟨rfl, rfl⟩ := xp_q h
      exact xk_up (xr_V (As := [.int x1]) (rest := []) C hP hS (ct_Checker_branch htr hok hq) kq_Checker_255 55 1 rfl rfl ⟨rfl, rfl, Nat.le_of_ble_eq_true rfl, Nat.le_of_ble_eq_true rfl⟩ ⟨Nat.le_of_ble_eq_true rfl, Nat.le_of_ble_eq_true rfl⟩ hl.1 rfl rfl (Nat.le_of_ble_eq_true rfl) dd_Checker_checkReference_127) hS hne C.2.2.2.2.2.2.1
    refine xk_goesI (xr_V (As := [.int x1]) (rest := []) C hP hS (ct_Checker_branch htr hok hq) kq_Checker_255 55 1 rfl rfl ⟨rfl, rfl, Nat.le_of_ble_eq_true rfl, Nat.le_of_ble_eq_true rfl⟩ ⟨Nat.le_of_ble_eq_true rfl, Nat.le_of_ble_eq_true rfl⟩ hl.1 rfl rfl (Nat.le_of_ble_eq_true rfl) dd_Checker_checkReference_127) hS (fun H locs hP hS => ?_)
    clear hq
    refine lv_istore (lv' := [(4, .int a36), (3, .int a34), (0, .ref (ad 55)), (1, .int x0), (2, .int x1)]) hx hb dd_Checker_checkReference_130 hl (by decide) rfl (fun ls hl => ?_)
    refine lv_aload_n hx hb dd_Checker_checkReference_132 rfl (lv_at hl 2 rfl) ?_
    refine lv_iload hx hb dd_Checker_checkReference_133 (lv_at hl 0 rfl) ?_
    refine lv_aload_n hx hb dd_Checker_checkReference_135 rfl (lv_at hl 2 rfl) ?_
    refine lv_iload hx hb dd_Checker_checkReference_136 (lv_at hl 0 rfl) ?_
    obtain ⟨a38, u39, hq, h⟩ := xp_seq h
    refine xk_goesI (xr_V (As := [.int a36]) (rest := [.int a36, .ref (ad 55)]) C hP hS (ct_Checker_wayCount htr hok hq) kq_Checker_258 55 1 rfl rfl ⟨rfl, rfl, Nat.le_of_ble_eq_true rfl, Nat.le_of_ble_eq_true rfl⟩ ⟨Nat.le_of_ble_eq_true rfl, Nat.le_of_ble_eq_true rfl⟩ hl.1 rfl rfl (Nat.le_of_ble_eq_true rfl) dd_Checker_checkReference_138) hS (fun H locs hP hS => ?_)
    clear hq
    rcases xp_try h with ⟨rx, u40, hq, h⟩ | ⟨kx, ux, hq, h⟩
    rotate_left
    · obtain ⟨rfl, rfl⟩ := xp_q h
      exact xk_up (xr_V (As := [.int a36, .int a38]) (rest := []) C hP hS (ct_Checker_popWay htr hok hq) kq_Checker_261 55 1 rfl rfl ⟨rfl, rfl, Nat.le_of_ble_eq_true rfl, Nat.le_of_ble_eq_true rfl⟩ ⟨Nat.le_of_ble_eq_true rfl, Nat.le_of_ble_eq_true rfl⟩ hl.1 rfl rfl (Nat.le_of_ble_eq_true rfl) dd_Checker_checkReference_141) hS hne C.2.2.2.2.2.2.1
    refine xk_goesV (xr_V (As := [.int a36, .int a38]) (rest := []) C hP hS (ct_Checker_popWay htr hok hq) kq_Checker_261 55 1 rfl rfl ⟨rfl, rfl, Nat.le_of_ble_eq_true rfl, Nat.le_of_ble_eq_true rfl⟩ ⟨Nat.le_of_ble_eq_true rfl, Nat.le_of_ble_eq_true rfl⟩ hl.1 rfl rfl (Nat.le_of_ble_eq_true rfl) dd_Checker_checkReference_141) hS (fun H locs hP hS => ?_)
    clear hq
    refine lv_aload_n hx hb dd_Checker_checkReference_144 rfl (lv_at hl 2 rfl) ?_
    refine lv_iload hx hb dd_Checker_checkReference_145 (lv_at hl 0 rfl) ?_
    refine lv_aload_n hx hb dd_Checker_checkReference_147 rfl (lv_at hl 2 rfl) ?_
    refine lv_iload hx hb dd_Checker_checkReference_148 (lv_at hl 0 rfl) ?_
    obtain ⟨a41, u42, hq, h⟩ := xp_seq h
    refine xk_goesI (xr_V (As := [.int a36]) (rest := [.int a36, .ref (ad 55)]) C hP hS (ct_Checker_wayCount htr hok hq) kq_Checker_258 55 1 rfl rfl ⟨rfl, rfl, Nat.le_of_ble_eq_true rfl, Nat.le_of_ble_eq_true rfl⟩ ⟨Nat.le_of_ble_eq_true rfl, Nat.le_of_ble_eq_true rfl⟩ hl.1 rfl rfl (Nat.le_of_ble_eq_true rfl) dd_Checker_checkReference_150) hS (fun H locs hP hS => ?_)
    clear hq
    rcases xp_try h with ⟨rx, u43, hq, h⟩ | ⟨kx, ux, hq, h⟩
    rotate_left
    · obtain ⟨rfl, rfl⟩ := xp_q h
      exact xk_up (xr_V (As := [.int a36, .int a41]) (rest := []) C hP hS (ct_Checker_pushWay htr hok hq) kq_Checker_264 55 1 rfl rfl ⟨rfl, rfl, Nat.le_of_ble_eq_true rfl, Nat.le_of_ble_eq_true rfl⟩ ⟨Nat.le_of_ble_eq_true rfl, Nat.le_of_ble_eq_true rfl⟩ hl.1 rfl rfl (Nat.le_of_ble_eq_true rfl) dd_Checker_checkReference_153) hS hne C.2.2.2.2.2.2.1
    refine xk_goesV (xr_V (As := [.int a36, .int a41]) (rest := []) C hP hS (ct_Checker_pushWay htr hok hq) kq_Checker_264 55 1 rfl rfl ⟨rfl, rfl, Nat.le_of_ble_eq_true rfl, Nat.le_of_ble_eq_true rfl⟩ ⟨Nat.le_of_ble_eq_true rfl, Nat.le_of_ble_eq_true rfl⟩ hl.1 rfl rfl (Nat.le_of_ble_eq_true rfl) dd_Checker_checkReference_153) hS (fun H locs hP hS => ?_)
    clear hq
    refine lv_aload_n hx hb dd_Checker_checkReference_156 rfl (lv_at hl 2 rfl) ?_
    refine lv_iload_n hx hb dd_Checker_checkReference_157 rfl (lv_at hl 1 rfl) ?_
    rcases xp_try h with ⟨rx, u44, hq, h⟩ | ⟨kx, ux, hq, h⟩
    rotate_left
    · obtain ⟨rfl, rfl⟩ := xp_q h
      exact xk_up (xr_V (As := [.int a34]) (rest := []) C hP hS (ct_Checker_push htr hok hq) kq_Checker_203 55 1 rfl rfl ⟨rfl, rfl, Nat.le_of_ble_eq_true rfl, Nat.le_of_ble_eq_true rfl⟩ ⟨Nat.le_of_ble_eq_true rfl, Nat.le_of_ble_eq_true rfl⟩ hl.1 rfl rfl (Nat.le_of_ble_eq_true rfl) dd_Checker_checkReference_158) hS hne C.2.2.2.2.2.2.1
    refine xk_goesV (xr_V (As := [.int a34]) (rest := []) C hP hS (ct_Checker_push htr hok hq) kq_Checker_203 55 1 rfl rfl ⟨rfl, rfl, Nat.le_of_ble_eq_true rfl, Nat.le_of_ble_eq_true rfl⟩ ⟨Nat.le_of_ble_eq_true rfl, Nat.le_of_ble_eq_true rfl⟩ hl.1 rfl rfl (Nat.le_of_ble_eq_true rfl) dd_Checker_checkReference_158) hS (fun H locs hP hS => ?_)
    clear hq
    refine lv_goto (tgt := 237) hx hb dd_Checker_checkReference_161 (by decide) ?_
    obtain ⟨rfl, rfl⟩ := xp_r h
    exact xr_vret C hP hS dd_Checker_checkReference_237
  have h := xp_f hc5 h
  have hd0 := lv_neT hc0 (a := 208) (by decide)
  have hd1 := lv_neT hc1 (a := 209) (by decide)
  have hd2 := lv_neT hc2 (a := 210) (by decide)
  have hd3 := lv_neT hc3 (a := 211) (by decide)
  have hd4 := lv_neT hc4 (a := 212) (by decide)
  have hd5 := lv_neT hc5 (a := 213) (by decide)
  refine lv_tableOut (tgt := 164) hx hb dd_Checker_checkReference_1 (by omega) (by decide) ?_
  exact wj_Checker_checkReference_164 htr C hne h hP hS (lv_sub hl [0, 2] rfl)
