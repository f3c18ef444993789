abbrev rm_Checker_pop_I : Room := { frames := 7, cells := 1, slots := 6, locals := 120 }
noncomputable def fm_Checker_pop_I (x0 : Int32) (u : xk_St) : Option ((Unit ⊕ Nat) × xk_St) :=
  (xs_try (fm_Checker_pop_ u) fun a1 u2 => xs_seq (fm_Types_fits a1 x0 u2) fun a3 u4 => xs_try (fm_Checker_need a3 u4) fun _ u5 => some (.inl (()), u5))
set_option maxHeartbeats 4000000 in
set_option maxRecDepth 100000 in
theorem ct_Checker_pop_I {l : Launch} {D : va_G} {ad : Nat → Nat} {ca : Nat → ClassId} {ads : List Nat} (htr : l.stackTraces = false) (hok : xk_ok (kw_h ad ca) ads) {x0 : Int32} {u u' : xk_St} {r : (Unit ⊕ Nat)} (h : fm_Checker_pop_I x0 u = some (r, u')) :
    ∀ sz, xk_Met l ⟨"ModuleHouse$Checker", "pop", "(I)V"⟩ (Cond.code ⟨"ModuleHouse$Checker", "pop", "(I)V"⟩ prog_2_method_16_code 2 none :: xk_gd) rm_Checker_pop_I (xk_Pc D kx_cl (kx_ty ca) (kw_h ad ca) ads xk_F sz [.ref (ad 55), .int x0] u) (xk_Qc D kx_cl (kw_h ad ca) ads (xo_v r) u') (xk_A ads sz) := by
  unfold fm_Checker_pop_I at h
  refine xk_con (by decide) htr hok (Nat.le_of_ble_eq_true rfl) (fun p e s m below meth c ls C hne hl hP => ?_)
  have hx := C.1.1
  have hb := C.1.2.1
  have hS : va_S (xk_A ads s.heap.size) s.heap s.heap [] := va_S.rf
  have hl : lv_has ls 2 [(0, .ref (ad 55)), (1, .int x0)] := hl
  refine lv_aload_n hx hb dd_Checker_pop_I_0 rfl (lv_at hl 0 rfl) ?_
  refine gf_h_Checker_55_types C hP dd_Checker_pop_I_1 ?_
  refine lv_aload_n hx hb dd_Checker_pop_I_4 rfl (lv_at hl 0 rfl) ?_
  rcases xp_try h with ⟨a1, u2, hq, h⟩ | ⟨kx, ux, hq, h⟩
  rotate_left
  · obtain ⟨rfl, rfl⟩ := xp_q h
    exact xk_up (xr_V (As := []) (rest := [.ref (ad 6)]) C hP hS (ct_Checker_pop_ htr hok hq) kq_Checker_227 55 1 rfl rfl ⟨rfl, rfl, Nat.le_of_ble_eq_true rfl, Nat.le_of_ble_eq_true rfl⟩ ⟨Nat.le_of_ble_eq_true rfl, Nat.le_of_ble_eq_true rfl⟩ hl.1 rfl rfl (Nat.le_of_ble_eq_true rfl) dd_Checker_pop_I_5) hS hne C.2.2.2.2.2.2.1
  refine xk_goesI (xr_V (As := []) (rest := [.ref (ad 6)]) C hP hS (ct_Checker_pop_ htr hok hq) kq_Checker_227 55 1 rfl rfl ⟨rfl, rfl, Nat.le_of_ble_eq_true rfl, Nat.le_of_ble_eq_true rfl⟩ ⟨Nat.le_of_ble_eq_true rfl, Nat.le_of_ble_eq_true rfl⟩ hl.1 rfl rfl (Nat.le_of_ble_eq_true rfl) dd_Checker_pop_I_5) hS (fun H locs hP hS => ?_)
  clear hq
  refine lv_iload_n hx hb dd_Checker_pop_I_8 rfl (lv_at hl 1 rfl) ?_
  obtain ⟨a3, u4, hq, h⟩ := xp_seq h
  refine xk_goesI (xr_V (As := [.int a1, .int x0]) (rest := []) C hP hS (ct_Types_fits htr hok hq) kq_Checker_148 6 9 rfl rfl ⟨rfl, rfl, Nat.le_of_ble_eq_true rfl, Nat.le_of_ble_eq_true rfl⟩ ⟨Nat.le_of_ble_eq_true rfl, Nat.le_of_ble_eq_true rfl⟩ hl.1 rfl rfl (Nat.le_of_ble_eq_true rfl) dd_Checker_pop_I_9) hS (fun H locs hP hS => ?_)
  clear hq
  rcases xp_try h with ⟨rx, u5, hq, h⟩ | ⟨kx, ux, hq, h⟩
  rotate_left
  · obtain ⟨rfl, rfl⟩ := xp_q h
    exact xk_up (xr_S (As := [.int a3]) (rest := []) C hP hS (ct_Checker_need htr hok hq) kq_Checker_60 ⟨rfl, rfl, Nat.le_of_ble_eq_true rfl, Nat.le_of_ble_eq_true rfl⟩ ⟨Nat.le_of_ble_eq_true rfl, Nat.le_of_ble_eq_true rfl⟩ hl.1 rfl rfl (Nat.le_of_ble_eq_true rfl) dd_Checker_pop_I_12) hS hne C.2.2.2.2.2.2.1
  refine xk_goesV (xr_S (As := [.int a3]) (rest := []) C hP hS (ct_Checker_need htr hok hq) kq_Checker_60 ⟨rfl, rfl, Nat.le_of_ble_eq_true rfl, Nat.le_of_ble_eq_true rfl⟩ ⟨Nat.le_of_ble_eq_true rfl, Nat.le_of_ble_eq_true rfl⟩ hl.1 rfl rfl (Nat.le_of_ble_eq_true rfl) dd_Checker_pop_I_12) hS (fun H locs hP hS => ?_)
  clear hq
  obtain ⟨rfl, rfl⟩ := xp_r h
  exact xr_vret C hP hS dd_Checker_pop_I_15
abbrev rm_Checker_push : Room := { frames := 7, cells := 1, slots := 6, locals := 120 }
noncomputable def jb_Checker_push_14 (b1 : Int32) (s0 : Int32) (u : xk_St) : Option ((Unit ⊕ Nat) × xk_St) :=
  (xs_try (fm_Checker_need s0 u) fun _ u1 => if (u1.1 19) < 0 ∨ 100 ≤ (u1.1 19).toNatClampNeg then none else xs_let (xs_A u1 33 (u1.1 19).toNatClampNeg b1) fun u2 => xs_let (xs_I u2 19 ((u2.1 19) + (1 : Int32))) fun u3 => some (.inl (()), u3))
noncomputable def fm_Checker_push (x0 : Int32) (u : xk_St) : Option ((Unit ⊕ Nat) × xk_St) :=
  if (100 : Int32) ≤ (u.1 19) then (jb_Checker_push_14 x0 (0 : Int32) u) else (jb_Checker_push_14 x0 (1 : Int32) u)
set_option maxHeartbeats 4000000 in
set_option maxRecDepth 100000 in
theorem wj_Checker_push_14 {p : Program} {l : Launch} {e : Env} {s : State} {m : MethodId} {args : Array Value} {below : List Frame} {meth : Method} {c : Code} {D : va_G} {ad : Nat → Nat} {ca : Nat → ClassId} {ads : List Nat} (htr : l.stackTraces = false) (C : xk_C D kx_cl (kx_ty ca) (kw_h ad ca) ads "ModuleHouse$Checker" prog_2_method_14_code 2 none p e s m args meth c) (hne : c.exceptionTable.isEmpty = true) {u' : xk_St} {r : (Unit ⊕ Nat)} {b1 : Int32} {s0 : Int32} {u : xk_St} {H : Heap} {locs : List Loc} {ls : Array Slot} (h : jb_Checker_push_14  b1 s0 u = some (r, u')) (hP : va_P D kx_cl (kw_h ad ca u) H) (hS : va_S (xk_A ads s.heap.size) s.heap H locs) (hl : lv_has ls 2 [(0, .ref (ad 55)), (1, .int b1)]) : W p l e rm_Checker_push s m args below meth c H locs 0 0 (xk_MQ below (xk_Qc D kx_cl (kw_h ad ca) ads (xo_v r) u') args s (xk_A ads s.heap.size)) (F0 m 14 ls [.int s0]) := by
  have hx := C.1.1
  have hb := C.1.2.1
  have hok := C.2.2.1
  unfold jb_Checker_push_14 at h
  rcases xp_try h with ⟨rx, u1, hq, h⟩ | ⟨kx, ux, hq, h⟩
  rotate_left
  · obtain ⟨rfl, rfl⟩ := xp_q h
    exact xk_up (xr_S (As := [.int s0]) (rest := []) C hP hS (ct_Checker_need htr hok hq) kq_Checker_60 ⟨rfl, rfl, Nat.le_of_ble_eq_true rfl, Nat.le_of_ble_eq_true rfl⟩ ⟨Nat.le_of_ble_eq_true rfl, Nat.le_of_ble_eq_true rfl⟩ hl.1 rfl rfl (Nat.le_of_ble_eq_true rfl) dd_Checker_push_14) hS hne C.2.2.2.2.2.2.1
  refine xk_goesV (xr_S (As := [.int s0]) (rest := []) C hP hS (ct_Checker_need htr hok hq) kq_Checker_60 ⟨rfl, rfl, Nat.le_of_ble_eq_true rfl, Nat.le_of_ble_eq_true rfl⟩ ⟨Nat.le_of_ble_eq_true rfl, Nat.le_of_ble_eq_true rfl⟩ hl.1 rfl rfl (Nat.le_of_ble_eq_true rfl) dd_Checker_push_14) hS (fun H locs hP hS => ?_)
  clear hq
  refine lv_aload_n hx hb dd_Checker_push_17 rfl (lv_at hl 0 rfl) ?_
  refine gf_h_Checker_55_stack C hP dd_Checker_push_18 ?_
  refine lv_aload_n hx hb dd_Checker_push_21 rfl (lv_at hl 0 rfl) ?_
  refine gf_h_Checker_55_height C hP dd_Checker_push_22 ?_
  refine lv_iload_n hx hb dd_Checker_push_25 rfl (lv_at hl 1 rfl) ?_
  obtain ⟨hi, h⟩ := xp_g h
  refine as_h_56 C hP hS hi dd_Checker_push_26 (fun H locs hP hS => ?_)
  obtain ⟨u2, eu2, h⟩ := xp_let h
  rw [← eu2] at hP
  refine lv_aload_n hx hb dd_Checker_push_27 rfl (lv_at hl 0 rfl) ?_
  refine lv_dup hx hb dd_Checker_push_28 rfl ?_
  refine gf_h_Checker_55_height C hP dd_Checker_push_29 ?_
  refine lv_iconst (v := 1) hx hb dd_Checker_push_32 (by decide) ?_
  refine lv_iadd hx hb dd_Checker_push_33 ?_
  refine pf_h_Checker_55_height C hP hS dd_Checker_push_34 (fun H locs hP hS => ?_)
  obtain ⟨u3, eu3, h⟩ := xp_let h
  rw [← eu3] at hP
  obtain ⟨rfl, rfl⟩ := xp_r h
  exact xr_vret C hP hS dd_Checker_push_37
set_option maxHeartbeats 4000000 in
set_option maxRecDepth 100000 in
theorem ct_Checker_push {l : Launch} {D : va_G} {ad : Nat → Nat} {ca : Nat → ClassId} {ads : List Nat} (htr : l.stackTraces = false) (hok : xk_ok (kw_h ad ca) ads) {x0 : Int32} {u u' : xk_St} {r : (Unit ⊕ Nat)} (h : fm_Checker_push x0 u = some (r, u')) :
    ∀ sz, xk_Met l ⟨"ModuleHouse$Checker", "push", "(I)V"⟩ (Cond.code ⟨"ModuleHouse$Checker", "push", "(I)V"⟩ prog_2_method_14_code 2 none :: xk_gd) rm_Checker_push (xk_Pc D kx_cl (kx_ty ca) (kw_h ad ca) ads xk_F sz [.ref (ad 55), .int x0] u) (xk_Qc D kx_cl (kw_h ad ca) ads (xo_v r) u') (xk_A ads sz) := by
  unfold fm_Checker_push at h
  refine xk_con (by decide) htr hok (Nat.le_of_ble_eq_true rfl) (fun p e s m below meth c ls C hne hl hP => ?_)
  have hx := C.1.1
  have hb := C.1.2.1
  have hS : va_S (xk_A ads s.heap.size) s.heap s.heap [] := va_S.rf
  have hl : lv_has ls 2 [(0, .ref (ad 55)), (1, .int x0)] := hl
  refine lv_aload_n hx hb dd_Checker_push_0 rfl (lv_at hl 0 rfl) ?_
  refine gf_h_Checker_55_height C hP dd_Checker_push_1 ?_
  refine lv_bipush (v := 100) hx hb dd_Checker_push_4 (by decide) ?_
  refine lv_icmp_ge (tgt := 13) hx hb dd_Checker_push_6 (by decide) (fun hc => ?_) (fun hc => ?_)
  · have h := xp_t hc h
    refine lv_iconst (v := 0) hx hb dd_Checker_push_13 (by decide) ?_
    exact wj_Checker_push_14 htr C hne h hP hS (lv_sub hl [0, 1] rfl)
  · have h := xp_f hc h
    refine lv_iconst (v := 1) hx hb dd_Checker_push_9 (by decide) ?_
    refine lv_goto (tgt := 14) hx hb dd_Checker_push_10 (by decide) ?_
    exact wj_Checker_push_14 htr C hne h hP hS (lv_sub hl [0, 1] rfl)
abbrev rm_Types_notNull : Room := { frames := 1, cells := 1, slots := 6, locals := 0 }
noncomputable def fm_Types_notNull (x0 : Int32) (u : xk_St) : Option (Int32 × xk_St) :=
  some ((x0 &&& (-2 : Int32)), u)
set_option maxHeartbeats 4000000 in
set_option maxRecDepth 100000 in
theorem ct_Types_notNull {l : Launch} {D : va_G} {ad : Nat → Nat} {ca : Nat → ClassId} {ads : List Nat} (htr : l.stackTraces = false) (hok : xk_ok (kw_h ad ca) ads) {x0 : Int32} {u u' : xk_St} {r : Int32} (h : fm_Types_notNull x0 u = some (r, u')) :
    ∀ sz, xk_Met l ⟨"ModuleHouse$Types", "notNull", "(I)I"⟩ (Cond.code ⟨"ModuleHouse$Types", "notNull", "(I)I"⟩ prog_11_method_7_code 1 (some .int) :: xk_gd) rm_Types_notNull (xk_Pc D kx_cl (kx_ty ca) (kw_h ad ca) ads xk_F sz [.int x0] u) (xk_Qc D kx_cl (kw_h ad ca) ads (xo_i (.inl r)) u') (xk_A ads sz) := by
  unfold fm_Types_notNull at h
  refine xk_con (by decide) htr hok (Nat.le_of_ble_eq_true rfl) (fun p e s m below meth c ls C hne hl hP => ?_)
  have hx := C.1.1
  have hb := C.1.2.1
  have hS : va_S (xk_A ads s.heap.size) s.heap s.heap [] := va_S.rf
  have hl : lv_has ls 1 [(0, .int x0)] := hl
  refine lv_iload_n hx hb dd_Types_notNull_0 rfl (lv_at hl 0 rfl) ?_
  refine lv_bipush (v := (-2)) hx hb dd_Types_notNull_1 (by decide) ?_
  refine lv_iand hx hb dd_Types_notNull_3 ?_
  obtain ⟨rfl, rfl⟩ := xp_r h
  exact xr_iret C hP hS dd_Types_notNull_4
abbrev rm_Checker_checkKind : Room := { frames := 8, cells := 1, slots := 6, locals := 141 }
noncomputable def jb_Checker_checkKind_86 (s0 : Int32) (u : xk_St) : Option ((Unit ⊕ Nat) × xk_St) :=
  (xs_try (fm_Checker_push s0 u) fun _ u7 => some (.inl (()), u7))
noncomputable def jb_Checker_checkKind_83 (s0 : Int32) (s1 : Int32) (u : xk_St) : Option ((Unit ⊕ Nat) × xk_St) :=
  (xs_seq (fm_Types_reference s1 s0 u) fun a5 u6 => jb_Checker_checkKind_86 a5 u6)
noncomputable def fm_Checker_checkKind (x0 : Int32) (x1 : Int32) (u : xk_St) : Option ((Unit ⊕ Nat) × xk_St) :=
  if x0 = (28 : Int32) then ((xs_try (fm_Checker_pop_I (1 : Int32) u) fun _ u10 => xs_seq (fm_Types_notNull (19 : Int32) u10) fun a11 u12 => xs_try (fm_Checker_push a11 u12) fun _ u13 => some (.inl (()), u13))) else (if x0 ≤ (28 : Int32) then ((xs_seq (fm_Types_knowsTarget x1 u) fun a1 u2 => xs_try (fm_Checker_need a1 u2) fun _ u3 => xs_try (fm_Checker_pop_I (17 : Int32) u3) fun _ u4 => if (22 : Int32) ≤ x0 then (if x0 = (23 : Int32) then (jb_Checker_checkKind_83 (1 : Int32) x1 u4) else (jb_Checker_checkKind_83 (0 : Int32) x1 u4)) else (jb_Checker_checkKind_86 (1 : Int32) u4))) else ((xs_try (fm_Checker_pop_I (19 : Int32) u) fun _ u8 => xs_try (fm_Checker_push (1 : Int32) u8) fun _ u9 => some (.inl (()), u9))))
set_option maxHeartbeats 4000000 in
set_option maxRecDepth 100000 in
theorem wj_Checker_checkKind_86 {p : Program} {l : Launch} {e : Env} {s : State} {m : MethodId} {args : Array Value} {below : List Frame} {meth : Method} {c : Code} {D : va_G} {ad : Nat → Nat} {ca : Nat → ClassId} {ads : List Nat} (htr : l.stackTraces = false) (C : xk_C D kx_cl (kx_ty ca) (kw_h ad ca) ads "ModuleHouse$Checker" prog_2_method_52_code 3 none p e s m args meth c) (hne : c.exceptionTable.isEmpty = true) {u' : xk_St} {r : (Unit ⊕ Nat)} {s0 : Int32} {u : xk_St} {H : Heap} {locs : List Loc} {ls : Array Slot} (h : jb_Checker_checkKind_86  s0 u = some (r, u')) (hP : va_P D kx_cl (kw_h ad ca u) H) (hS : va_S (xk_A ads s.heap.size) s.heap H locs) (hl : lv_has ls 3 []) : W p l e rm_Checker_checkKind s m args below meth c H locs 0 0 (xk_MQ below (xk_Qc D kx_cl (kw_h ad ca) ads (xo_v r) u') args s (xk_A ads s.heap.size)) (F0 m 86 ls [.int s0, .ref (ad 55)]) := by
  have hx := C.1.1
  have hb := C.1.2.1
  have hok := C.2.2.1
  unfold jb_Checker_checkKind_86 at h
  rcases xp_try h with ⟨rx, u7, hq, h⟩ | ⟨kx, ux, hq, h⟩
  rotate_left
  · obtain ⟨rfl, rfl⟩ := xp_q h
    exact xk_up (xr_V (As := [.int s0]) (rest := []) C hP hS (ct_Checker_push htr hok hq) kq_Checker_203 55 1 rfl rfl ⟨rfl, rfl, Nat.le_of_ble_eq_true rfl, Nat.le_of_ble_eq_true rfl⟩ ⟨Nat.le_of_ble_eq_true rfl, Nat.le_of_ble_eq_true rfl⟩ hl.1 rfl rfl (Nat.le_of_ble_eq_true rfl) dd_Checker_checkKind_86) hS hne C.2.2.2.2.2.2.1
  refine xk_goesV (xr_V (As := [.int s0]) (rest := []) C hP hS (ct_Checker_push htr hok hq) kq_Checker_203 55 1 rfl rfl ⟨rfl, rfl, Nat.le_of_ble_eq_true rfl, Nat.le_of_ble_eq_true rfl⟩ ⟨Nat.le_of_ble_eq_true rfl, Nat.le_of_ble_eq_true rfl⟩ hl.1 rfl rfl (Nat.le_of_ble_eq_true rfl) dd_Checker_checkKind_86) hS (fun H locs hP hS => ?_)
  clear hq
  obtain ⟨rfl, rfl⟩ := xp_r h
  exact xr_vret C hP hS dd_Checker_checkKind_89
set_option maxHeartbeats 4000000 in
set_option maxRecDepth 100000 in
theorem wj_Checker_checkKind_83 {p : Program} {l : Launch} {e : Env} {s : State} {m : MethodId} {args : Array Value} {below : List Frame} {meth : Method} {c : Code} {D : va_G} {ad : Nat → Nat} {ca : Nat → ClassId} {ads : List Nat} (htr : l.stackTraces = false) (C : xk_C D kx_cl (kx_ty ca) (kw_h ad ca) ads "ModuleHouse$Checker" prog_2_method_52_code 3 none p e s m args meth c) (hne : c.exceptionTable.isEmpty = true) {u' : xk_St} {r : (Unit ⊕ Nat)} {s0 : Int32} {s1 : Int32} {u : xk_St} {H : Heap} {locs : List Loc} {ls : Array Slot} (h : jb_Checker_checkKind_83  s0 s1 u = some (r, u')) (hP : va_P D kx_cl (kw_h ad ca u) H) (hS : va_S (xk_A ads s.heap.size) s.heap H locs) (hl : lv_has ls 3 []) : W p l e rm_Checker_checkKind s m args below meth c H locs 0 0 (xk_MQ below (xk_Qc D kx_cl (kw_h ad ca) ads (xo_v r) u') args s (xk_A ads s.heap.size)) (F0 m 83 ls [.int s0, .int s1, .ref (ad 55)]) := by
  have hx := C.1.1
  have hb := C.1.2.1
  have hok := C.2.2.1
  unfold jb_Checker_checkKind_83 at h
  obtain ⟨a5, u6, hq, h⟩ := xp_seq h
  refine xk_goesI (xr_S (As := [.int s1, .int s0]) (rest := [.ref (ad 55)]) C hP hS (ct_Types_reference htr hok hq) kq_Checker_231 ⟨rfl, rfl, Nat.le_of_ble_eq_true rfl, Nat.le_of_ble_eq_true rfl⟩ ⟨Nat.le_of_ble_eq_true rfl, Nat.le_of_ble_eq_true rfl⟩ hl.1 rfl rfl (Nat.le_of_ble_eq_true rfl) dd_Checker_checkKind_83) hS (fun H locs hP hS => ?_)
  clear hq
  exact wj_Checker_checkKind_86 htr C hne h hP hS (lv_sub hl [] rfl)
set_option maxHeartbeats 4000000 in
set_option maxRecDepth 100000 in
theorem ct_Checker_checkKind {l : Launch} {D : va_G} {ad : Nat → Nat} {ca : Nat → ClassId} {ads : List Nat} (htr : l.stackTraces = false) (hok : xk_ok (kw_h ad ca) ads) {x0 : Int32} {x1 : Int32} {u u' : xk_St} {r : (Unit ⊕ Nat)} (h : fm_Checker_checkKind x0 x1 u = some (r, u')) :
    ∀ sz, xk_Met l ⟨"ModuleHouse$Checker", "checkKind", "(II)V"⟩ (Cond.code ⟨"ModuleHouse$Checker", "checkKind", "(II)V"⟩ prog_2_method_52_code 3 none :: xk_gd) rm_Checker_checkKind (xk_Pc D kx_cl (kx_ty ca) (kw_h ad ca) ads xk_F sz [.ref (ad 55), .int x0, .int x1] u) (xk_Qc D kx_cl (kw_h ad ca) ads (xo_v r) u') (xk_A ads sz) := by
  unfold fm_Checker_checkKind at h
  refine xk_con (by decide) htr hok (Nat.le_of_ble_eq_true rfl) (fun p e s m below meth c ls C hne hl hP => ?_)
  have hx := C.1.1
  have hb := C.1.2.1
  have hS : va_S (xk_A ads s.heap.size) s.heap s.heap [] := va_S.rf
  have hl : lv_has ls 3 [(0, .ref (ad 55)), (1, .int x0), (2, .int x1)] := hl
  refine lv_iload_n hx hb dd_Checker_checkKind_0 rfl (lv_at hl 1 rfl) ?_
  refine lv_bipush (v := 28) hx hb dd_Checker_checkKind_1 (by decide) ?_
  refine lv_icmp_ne (tgt := 23) hx hb dd_Checker_checkKind_3 (by decide) (fun hc => ?_) (fun hc => ?_)
  · have h := xp_f hc h
    refine lv_iload_n hx hb dd_Checker_checkKind_23 rfl (lv_at hl 1 rfl) ?_
    refine lv_bipush (v := 28) hx hb dd_Checker_checkKind_24 (by decide) ?_
    refine lv_icmp_le (tgt := 43) hx hb dd_Checker_checkKind_26 (by decide) (fun hc => ?_) (fun hc => ?_)
    · have h := xp_t hc h
      refine lv_aload_n hx hb dd_Checker_checkKind_43 rfl (lv_at hl 0 rfl) ?_
      refine gf_h_Checker_55_types C hP dd_Checker_checkKind_44 ?_
      refine lv_iload_n hx hb dd_Checker_checkKind_47 rfl (lv_at hl 2 rfl) ?_
      obtain ⟨a1, u2, hq, h⟩ := xp_seq h
      refine xk_goesI (xr_V (As := [.int x1]) (rest := []) C hP hS (ct_Types_knowsTarget htr hok hq) kq_Checker_337 6 9 rfl rfl ⟨rfl, rfl, Nat.le_of_ble_eq_true rfl, Nat.le_of_ble_eq_true rfl⟩ ⟨Nat.le_of_ble_eq_true rfl, Nat.le_of_ble_eq_true rfl⟩ hl.1 rfl rfl (Nat.le_of_ble_eq_true rfl) dd_Checker_checkKind_48) hS (fun H locs hP hS => ?_)
      clear hq
      rcases xp_try h with ⟨rx, u3, hq, h⟩ | ⟨kx, ux, hq, h⟩
      rotate_left
      · obtain ⟨rfl, rfl⟩ := xp_q h
        exact xk_up (xr_S (As := [.int a1]) (rest := []) C hP hS (ct_Checker_need htr hok hq) kq_Checker_60 ⟨rfl, rfl, Nat.le_of_ble_eq_true rfl, Nat.le_of_ble_eq_true rfl⟩ ⟨Nat.le_of_ble_eq_true rfl, Nat.le_of_ble_eq_true rfl⟩ hl.1 rfl rfl (Nat.le_of_ble_eq_true rfl) dd_Checker_checkKind_51) hS hne C.2.2.2.2.2.2.1
      refine xk_goesV (xr_S (As := [.int a1]) (rest := []) C hP hS (ct_Checker_need htr hok hq) kq_Checker_60 ⟨rfl, rfl, Nat.le_of_ble_eq_true rfl, Nat.le_of_ble_eq_true rfl⟩ ⟨Nat.le_of_ble_eq_true rfl, Nat.le_of_ble_eq_true rfl⟩ hl.1 rfl rfl (Nat.le_of_ble_eq_true rfl) dd_Checker_checkKind_51) hS (fun H locs hP hS => ?_)
      clear hq
      refine lv_aload_n hx hb dd_Checker_checkKind_54 rfl (lv_at hl 0 rfl) ?_
      refine lv_bipush (v := 17) hx hb dd_Checker_checkKind_55 (by decide) ?_
      rcases xp_try h with ⟨rx, u4, hq, h⟩ | ⟨kx, ux, hq, h⟩
      rotate_left
      · obtain ⟨rfl, rfl⟩ := xp_q h
        exact xk_up (xr_V (As := [.int (17 : Int32)]) (rest := []) C hP hS (ct_Checker_pop_I htr hok hq) kq_Checker_238 55 1 rfl rfl ⟨rfl, rfl, Nat.le_of_ble_eq_true rfl, Nat.le_of_ble_eq_true rfl⟩ ⟨Nat.le_of_ble_eq_true rfl, Nat.le_of_ble_eq_true rfl⟩ hl.1 rfl rfl (Nat.le_of_ble_eq_true rfl) dd_Checker_checkKind_57) hS hne C.2.2.2.2.2.2.1
      refine xk_goesV (xr_V (As := [.int (17 : Int32)]) (rest := []) C hP hS (ct_Checker_pop_I htr hok hq) kq_Checker_238 55 1 rfl rfl ⟨rfl, rfl, Nat.le_of_ble_eq_true rfl, Nat.le_of_ble_eq_true rfl⟩ ⟨Nat.le_of_ble_eq_true rfl, Nat.le_of_ble_eq_true rfl⟩ hl.1 rfl rfl (Nat.le_of_ble_eq_true rfl) dd_Checker_checkKind_57) hS (fun H locs hP hS => ?_)
      clear hq
      refine lv_aload_n hx hb dd_Checker_checkKind_60 rfl (lv_at hl 0 rfl) ?_
      refine lv_iload_n hx hb dd_Checker_checkKind_61 rfl (lv_at hl 1 rfl) ?_
      refine lv_bipush (v := 22) hx hb dd_Checker_checkKind_62 (by decide) ?_
      refine lv_icmp_ge (tgt := 71) hx hb dd_Checker_checkKind_64 (by decide) (fun hc => ?_) (fun hc => ?_)
      · have h := xp_t hc h
        refine lv_iload_n hx hb dd_Checker_checkKind_71 rfl (lv_at hl 2 rfl) ?_
        refine lv_iload_n hx hb dd_Checker_checkKind_72 rfl (lv_at hl 1 rfl) ?_
        refine lv_bipush (v := 23) hx hb dd_Checker_checkKind_73 (by decide) ?_
        refine lv_icmp_ne (tgt := 82) hx hb dd_Checker_checkKind_75 (by decide) (fun hc => ?_) (fun hc => ?_)
        · have h := xp_f hc h
          refine lv_iconst (v := 0) hx hb dd_Checker_checkKind_82 (by decide) ?_
          exact wj_Checker_checkKind_83 htr C hne h hP hS (lv_sub hl [] rfl)
        · have h := xp_t hc h
          refine lv_iconst (v := 1) hx hb dd_Checker_checkKind_78 (by decide) ?_
          refine lv_goto (tgt := 83) hx hb dd_Checker_checkKind_79 (by decide) ?_
          exact wj_Checker_checkKind_83 htr C hne h hP hS (lv_sub hl [] rfl)
      · have h := xp_f hc h
        refine lv_iconst (v := 1) hx hb dd_Checker_checkKind_67 (by decide) ?_
        refine lv_goto (tgt := 86) hx hb dd_Checker_checkKind_68 (by decide) ?_
        exact wj_Checker_checkKind_86 htr C hne h hP hS (lv_sub hl [] rfl)
    · have h := xp_f hc h
      refine lv_aload_n hx hb dd_Checker_checkKind_29 rfl (lv_at hl 0 rfl) ?_
      refine lv_bipush (v := 19) hx hb dd_Checker_checkKind_30 (by decide) ?_
      rcases xp_try h with ⟨rx, u8, hq, h⟩ | ⟨kx, ux, hq, h⟩
      rotate_left
      · obtain ⟨rfl, rfl⟩ := xp_q h
        exact xk_up (xr_V (As := [.int (19 : Int32)]) (rest := []) C hP hS (ct_Checker_pop_I htr hok hq) kq_Checker_238 55 1 rfl rfl ⟨rfl, rfl, Nat.le_of_ble_eq_true rfl, Nat.le_of_ble_eq_true rfl⟩ ⟨Nat.le_of_ble_eq_true rfl, Nat.le_of_ble_eq_true rfl⟩ hl.1 rfl rfl (Nat.le_of_ble_eq_true rfl) dd_Checker_checkKind_32) hS hne C.2.2.2.2.2.2.1
      refine xk_goesV (xr_V (As := [.int (19 : Int32)]) (rest := []) C hP hS (ct_Checker_pop_I htr hok hq) kq_Checker_238 55 1 rfl rfl ⟨rfl, rfl, Nat.le_of_ble_eq_true rfl, Nat.le_of_ble_eq_true rfl⟩ ⟨Nat.le_of_ble_eq_true rfl, Nat.le_of_ble_eq_true rfl⟩ hl.1 rfl rfl (Nat.le_of_ble_eq_true rfl) dd_Checker_checkKind_32) hS (fun H locs hP hS => ?_)
      clear hq
      refine lv_aload_n hx hb dd_Checker_checkKind_35 rfl (lv_at hl 0 rfl) ?_
      refine lv_iconst (v := 1) hx hb dd_Checker_checkKind_36 (by decide) ?_
      rcases xp_try h with ⟨rx, u9, hq, h⟩ | ⟨kx, ux, hq, h⟩
      rotate_left
      · obtain ⟨rfl, rfl⟩ := xp_q h
        exact xk_up (xr_V (As := [.int (1 : Int32)]) (rest := []) C hP hS (ct_Checker_push htr hok hq) kq_Checker_203 55 1 rfl rfl ⟨rfl, rfl, Nat.le_of_ble_eq_true rfl, Nat.le_of_ble_eq_true rfl⟩ ⟨Nat.le_of_ble_eq_true rfl, Nat.le_of_ble_eq_true rfl⟩ hl.1 rfl rfl (Nat.le_of_ble_eq_true rfl) dd_Checker_checkKind_37) hS hne C.2.2.2.2.2.2.1
      refine xk_goesV (xr_V (As := [.int (1 : Int32)]) (rest := []) C hP hS (ct_Checker_push htr hok hq) kq_Checker_203 55 1 rfl rfl ⟨rfl, rfl, Nat.le_of_ble_eq_true rfl, Nat.le_of_ble_eq_true rfl⟩ ⟨Nat.le_of_ble_eq_true rfl, Nat.le_of_ble_eq_true rfl⟩ hl.1 rfl rfl (Nat.le_of_ble_eq_true rfl) dd_Checker_checkKind_37) hS (fun H locs hP hS => ?_)
      clear hq
      refine lv_goto (tgt := 89) hx hb dd_Checker_checkKind_40 (by decide) ?_
      obtain ⟨rfl, rfl⟩ := xp_r h
      exact xr_vret C hP hS dd_Checker_checkKind_89
  · have h := xp_t hc h
    refine lv_aload_n hx hb dd_Checker_checkKind_6 rfl (lv_at hl 0 rfl) ?_
    refine lv_iconst (v := 1) hx hb dd_Checker_checkKind_7 (by decide) ?_
    rcases xp_try h with ⟨rx, u10, hq, h⟩ | ⟨kx, ux, hq, h⟩
    rotate_left
    · obtain ⟨rfl, rfl⟩ := xp_q h
      exact xk_up (xr_V (As := [.int (1 : Int32)]) (rest := []) C hP hS (ct_Checker_pop_I htr hok hq) kq_Checker_238 55 1 rfl rfl ⟨rfl, rfl, Nat.le_of_ble_eq_true rfl, Nat.le_of_ble_eq_true rfl⟩ ⟨Nat.le_of_ble_eq_true rfl, Nat.le_of_ble_eq_true rfl⟩ hl.1 rfl rfl (Nat.le_of_ble_eq_true rfl) dd_Checker_checkKind_8) hS hne C.2.2.2.2.2.2.1
    refine xk_goesV (xr_V (As := [.int (1 : Int32)]) (rest := []) C hP hS (ct_Checker_pop_I htr hok hq) kq_Checker_238 55 1 rfl rfl ⟨rfl, rfl, Nat.le_of_ble_eq_true rfl, Nat.le_of_ble_eq_true rfl⟩ ⟨Nat.le_of_ble_eq_true rfl, Nat.le_of_ble_eq_true rfl⟩ hl.1 rfl rfl (Nat.le_of_ble_eq_true rfl) dd_Checker_checkKind_8) hS (fun H locs hP hS => ?_)
    clear hq
    refine lv_aload_n hx hb dd_Checker_checkKind_11 rfl (lv_at hl 0 rfl) ?_
    refine lv_bipush (v := 19) hx hb dd_Checker_checkKind_12 (by decide) ?_
    obtain ⟨a11, u12, hq, h⟩ := xp_seq h
    refine xk_goesI (xr_S (As := [.int (19 : Int32)]) (rest := [.ref (ad 55)]) C hP hS (ct_Types_notNull htr hok hq) kq_Checker_343 ⟨rfl, rfl, Nat.le_of_ble_eq_true rfl, Nat.le_of_ble_eq_true rfl⟩ ⟨Nat.le_of_ble_eq_true rfl, Nat.le_of_ble_eq_true rfl⟩ hl.1 rfl rfl (Nat.le_of_ble_eq_true rfl) dd_Checker_checkKind_14) hS (fun H locs hP hS => ?_)
    clear hq
    rcases xp_try h with ⟨rx, u13, hq, h⟩ | ⟨kx, ux, hq, h⟩
    rotate_left
    · obtain ⟨rfl, rfl⟩ := xp_q h
      exact xk_up (xr_V (As := [.int a11]) (rest := []) C hP hS (ct_Checker_push htr hok hq) kq_Checker_203 55 1 rfl rfl ⟨rfl, rfl, Nat.le_of_ble_eq_true rfl, Nat.le_of_ble_eq_true rfl⟩ ⟨Nat.le_of_ble_eq_true rfl, Nat.le_of_ble_eq_true rfl⟩ hl.1 rfl rfl (Nat.le_of_ble_eq_true rfl) dd_Checker_checkKind_17) hS hne C.2.2.2.2.2.2.1
    refine xk_goesV (xr_V (As := [.int a11]) (rest := []) C hP hS (ct_Checker_push htr hok hq) kq_Checker_203 55 1 rfl rfl ⟨rfl, rfl, Nat.le_of_ble_eq_true rfl, Nat.le_of_ble_eq_true rfl⟩ ⟨Nat.le_of_ble_eq_true rfl, Nat.le_of_ble_eq_true rfl⟩ hl.1 rfl rfl (Nat.le_of_ble_eq_true rfl) dd_Checker_checkKind_17) hS (fun H locs hP hS => ?_)
    clear hq
    refine lv_goto (tgt := 89) hx hb dd_Checker_checkKind_20 (by decide) ?_
    obtain ⟨rfl, rfl⟩ := xp_r h
    exact xr_vret C hP hS dd_Checker_checkKind_89
abbrev rm_Types_isPacked : Room := { frames := 1, cells := 1, slots := 6, locals := 0 }
noncomputable def jb_Types_isPacked_10 (u : xk_St) : Option (Int32 × xk_St) :=
  some ((1 : Int32), u)
noncomputable def fm_Types_isPacked (x0 : Int32) (u : xk_St) : Option (Int32 × xk_St) :=
  if x0 = (3 : Int32) then (jb_Types_isPacked_10 u) else (if x0 = (4 : Int32) then (jb_Types_isPacked_10 u) else (some ((0 : Int32), u)))
set_option maxHeartbeats 4000000 in
set_option maxRecDepth 100000 in
theorem wj_Types_isPacked_10 {p : Program} {l : Launch} {e : Env} {s : State} {m : MethodId} {args : Array Value} {below : List Frame} {meth : Method} {c : Code} {D : va_G} {ad : Nat → Nat} {ca : Nat → ClassId} {ads : List Nat} (htr : l.stackTraces = false) (C : xk_C D kx_cl (kx_ty ca) (kw_h ad ca) ads "ModuleHouse$Types" prog_11_method_8_code 1 (some .boolean) p e s m args meth c) (hne : c.exceptionTable.isEmpty = true) {u' : xk_St} {r : Int32} {u : xk_St} {H : Heap} {locs : List Loc} {ls : Array Slot} (h : jb_Types_isPacked_10   u = some (r, u')) (hP : va_P D kx_cl (kw_h ad ca u) H) (hS : va_S (xk_A ads s.heap.size) s.heap H locs) (hl : lv_has ls 1 []) : W p l e rm_Types_isPacked s m args below meth c H locs 0 0 (xk_MQ below (xk_Qc D kx_cl (kw_h ad ca) ads (xo_i (.inl r)) u') args s (xk_A ads s.heap.size)) (F0 m 10 ls []) := by
  have hx := C.1.1
  have hb := C.1.2.1
  have hok := C.2.2.1
  unfold jb_Types_isPacked_10 at h
  refine lv_iconst (v := 1) hx hb dd_Types_isPacked_10 (by decide) ?_
  refine lv_goto (tgt := 15) hx hb dd_Types_isPacked_11 (by decide) ?_
  obtain ⟨rfl, rfl⟩ := xp_r h
  exact xr_zret C hP hS (by decide) dd_Types_isPacked_15
set_option maxHeartbeats 4000000 in
set_option maxRecDepth 100000 in
theorem ct_Types_isPacked {l : Launch} {D : va_G} {ad : Nat → Nat} {ca : Nat → ClassId} {ads : List Nat} (htr : l.stackTraces = false) (hok : xk_ok (kw_h ad ca) ads) {x0 : Int32} {u u' : xk_St} {r : Int32} (h : fm_Types_isPacked x0 u = some (r, u')) :
    ∀ sz, xk_Met l ⟨"ModuleHouse$Types", "isPacked", "(I)Z"⟩ (Cond.code ⟨"ModuleHouse$Types", "isPacked", "(I)Z"⟩ prog_11_method_8_code 1 (some .boolean) :: xk_gd) rm_Types_isPacked (xk_Pc D kx_cl (kx_ty ca) (kw_h ad ca) ads xk_F sz [.int x0] u) (xk_Qc D kx_cl (kw_h ad ca) ads (xo_i (.inl r)) u') (xk_A ads sz) := by
  unfold fm_Types_isPacked at h
  refine xk_con (by decide) htr hok (Nat.le_of_ble_eq_true rfl) (fun p e s m below meth c ls C hne hl hP => ?_)
  have hx := C.1.1
  have hb := C.1.2.1
  have hS : va_S (xk_A ads s.heap.size) s.heap s.heap [] := va_S.rf
  have hl : lv_has ls 1 [(0, .int x0)] := hl
  refine lv_iload_n hx hb dd_Types_isPacked_0 rfl (lv_at hl 0 rfl) ?_
  refine lv_iconst (v := 3) hx hb dd_Types_isPacked_1 (by decide) ?_
  refine lv_icmp_eq (tgt := 10) hx hb dd_Types_isPacked_2 (by decide) (fun hc => ?_) (fun hc => ?_)
  · have h := xp_t hc h
    exact wj_Types_isPacked_10 htr C hne h hP hS (lv_sub hl [] rfl)
  · have h := xp_f hc h
    refine lv_iload_n hx hb dd_Types_isPacked_5 rfl (lv_at hl 0 rfl) ?_
    refine lv_iconst (v := 4) hx hb dd_Types_isPacked_6 (by decide) ?_
    refine lv_icmp_ne (tgt := 14) hx hb dd_Types_isPacked_7 (by decide) (fun hc => ?_) (fun hc => ?_)
    · have h := xp_f hc h
      refine lv_iconst (v := 0) hx hb dd_Types_isPacked_14 (by decide) ?_
      obtain ⟨rfl, rfl⟩ := xp_r h
      exact xr_zret C hP hS (by decide) dd_Types_isPacked_15
    · have h := xp_t hc h
      exact wj_Types_isPacked_10 htr C hne h hP hS (lv_sub hl [] rfl)
abbrev rm_Types_unpacked : Room := { frames := 2, cells := 1, slots := 6, locals := 20 }
noncomputable def fm_Types_unpacked (x0 : Int32) (u : xk_St) : Option (Int32 × xk_St) :=
  (xs_seq (fm_Types_isPacked x0 u) fun a1 u2 => if a1 = (0 : Int32) then (some (x0, u2)) else (some ((1 : Int32), u2)))
set_option maxHeartbeats 4000000 in
set_option maxRecDepth 100000 in
theorem ct_Types_unpacked {l : Launch} {D : va_G} {ad : Nat → Nat} {ca : Nat → ClassId} {ads : List Nat} (htr : l.stackTraces = false) (hok : xk_ok (kw_h ad ca) ads) {x0 : Int32} {u u' : xk_St} {r : Int32} (h : fm_Types_unpacked x0 u = some (r, u')) :
    ∀ sz, xk_Met l ⟨"ModuleHouse$Types", "unpacked", "(I)I"⟩ (Cond.code ⟨"ModuleHouse$Types", "unpacked", "(I)I"⟩ prog_11_method_9_code 1 (some .int) :: xk_gd) rm_Types_unpacked (xk_Pc D kx_cl (kx_ty ca) (kw_h ad ca) ads xk_F sz [.int x0] u) (xk_Qc D kx_cl (kw_h ad ca) ads (xo_i (.inl r)) u') (xk_A ads sz) := by
  unfold fm_Types_unpacked at h
  refine xk_con (by decide) htr hok (Nat.le_of_ble_eq_true rfl) (fun p e s m below meth c ls C hne hl hP => ?_)
  have hx := C.1.1
  have hb := C.1.2.1
  have hS : va_S (xk_A ads s.heap.size) s.heap s.heap [] := va_S.rf
  have hl : lv_has ls 1 [(0, .int x0)] := hl
  refine lv_iload_n hx hb dd_Types_unpacked_0 rfl (lv_at hl 0 rfl) ?_
  obtain ⟨a1, u2, hq, h⟩ := xp_seq h
  refine xk_goesI (xr_S (As := [.int x0]) (rest := []) C hP hS (ct_Types_isPacked htr hok hq) kq_Types_34 ⟨rfl, rfl, Nat.le_of_ble_eq_true rfl, Nat.le_of_ble_eq_true rfl⟩ ⟨Nat.le_of_ble_eq_true rfl, Nat.le_of_ble_eq_true rfl⟩ hl.1 rfl rfl (Nat.le_of_ble_eq_true rfl) dd_Types_unpacked_1) hS (fun H locs hP hS => ?_)
  clear hq
  refine lv_if_eq (tgt := 11) hx hb dd_Types_unpacked_4 (by decide) (fun hc => ?_) (fun hc => ?_)
  · have h := xp_t hc h
    refine lv_iload_n hx hb dd_Types_unpacked_11 rfl (lv_at hl 0 rfl) ?_
    obtain ⟨rfl, rfl⟩ := xp_r h
    exact xr_iret C hP hS dd_Types_unpacked_12
  · have h := xp_f hc h
    refine lv_iconst (v := 1) hx hb dd_Types_unpacked_7 (by decide) ?_
    refine lv_goto (tgt := 12) hx hb dd_Types_unpacked_8 (by decide) ?_
    obtain ⟨rfl, rfl⟩ := xp_r h
    exact xr_iret C hP hS dd_Types_unpacked_12
abbrev rm_Types_canBeSet : Room := { frames := 2, cells := 1, slots := 6, locals := 22 }
noncomputable def fm_Types_canBeSet (x0 : Int32) (x1 : Int32) (u : xk_St) : Option (Int32 × xk_St) :=
  (xs_seq (fm_Types_outcome x0 x1 u) fun a1 u2 => if a1 = (1 : Int32) then (some ((1 : Int32), u2)) else (some ((0 : Int32), u2)))
set_option maxHeartbeats 4000000 in
set_option maxRecDepth 100000 in
theorem ct_Types_canBeSet {l : Launch} {D : va_G} {ad : Nat → Nat} {ca : Nat → ClassId} {ads : List Nat} (htr : l.stackTraces = false) (hok : xk_ok (kw_h ad ca) ads) {x0 : Int32} {x1 : Int32} {u u' : xk_St} {r : Int32} (h : fm_Types_canBeSet x0 x1 u = some (r, u')) :
    ∀ sz, xk_Met l ⟨"ModuleHouse$Types", "canBeSet", "(II)Z"⟩ (Cond.code ⟨"ModuleHouse$Types", "canBeSet", "(II)Z"⟩ prog_11_method_12_code 3 (some .boolean) :: xk_gd) rm_Types_canBeSet (xk_Pc D kx_cl (kx_ty ca) (kw_h ad ca) ads xk_F sz [.ref (ad 6), .int x0, .int x1] u) (xk_Qc D kx_cl (kw_h ad ca) ads (xo_i (.inl r)) u') (xk_A ads sz) := by
  unfold fm_Types_canBeSet at h
  refine xk_con (by decide) htr hok (Nat.le_of_ble_eq_true rfl) (fun p e s m below meth c ls C hne hl hP => ?_)
  have hx := C.1.1
  have hb := C.1.2.1
  have hS : va_S (xk_A ads s.heap.size) s.heap s.heap [] := va_S.rf
  have hl : lv_has ls 3 [(0, .ref (ad 6)), (1, .int x0), (2, .int x1)] := hl
  refine lv_aload_n hx hb dd_Types_canBeSet_0 rfl (lv_at hl 0 rfl) ?_
  refine lv_iload_n hx hb dd_Types_canBeSet_1 rfl (lv_at hl 1 rfl) ?_
  refine lv_iload_n hx hb dd_Types_canBeSet_2 rfl (lv_at hl 2 rfl) ?_
  obtain ⟨a1, u2, hq, h⟩ := xp_seq h
  refine xk_goesI (xr_V (As := [.int x0, .int x1]) (rest := []) C hP hS (ct_Types_outcome htr hok hq) kq_Types_37 6 9 rfl rfl ⟨rfl, rfl, Nat.le_of_ble_eq_true rfl, Nat.le_of_ble_eq_true rfl⟩ ⟨Nat.le_of_ble_eq_true rfl, Nat.le_of_ble_eq_true rfl⟩ hl.1 rfl rfl (Nat.le_of_ble_eq_true rfl) dd_Types_canBeSet_3) hS (fun H locs hP hS => ?_)
  clear hq
  refine lv_iconst (v := 1) hx hb dd_Types_canBeSet_6 (by decide) ?_
  refine lv_icmp_ne (tgt := 14) hx hb dd_Types_canBeSet_7 (by decide) (fun hc => ?_) (fun hc => ?_)
  · have h := xp_f hc h
    refine lv_iconst (v := 0) hx hb dd_Types_canBeSet_14 (by decide) ?_
    obtain ⟨rfl, rfl⟩ := xp_r h
    exact xr_zret C hP hS (by decide) dd_Types_canBeSet_15
  · have h := xp_t hc h
    refine lv_iconst (v := 1) hx hb dd_Types_canBeSet_10 (by decide) ?_
    refine lv_goto (tgt := 15) hx hb dd_Types_canBeSet_11 (by decide) ?_
    obtain ⟨rfl, rfl⟩ := xp_r h
    exact xr_zret C hP hS (by decide) dd_Types_canBeSet_15
abbrev rm_Types_hasDefault : Room := { frames := 3, cells := 1, slots := 6, locals := 40 }
noncomputable def jb_Types_hasDefault_14 (u : xk_St) : Option (Int32 × xk_St) :=
  some ((1 : Int32), u)
noncomputable def fm_Types_hasDefault (x0 : Int32) (u : xk_St) : Option (Int32 × xk_St) :=
  (xs_seq (fm_Types_isReference x0 u) fun a1 u2 => if a1 = (0 : Int32) then (jb_Types_hasDefault_14 u2) else ((xs_seq (fm_Types_orNull x0 u2) fun a3 u4 => if a3 = (0 : Int32) then (some ((0 : Int32), u4)) else (jb_Types_hasDefault_14 u4))))
set_option maxHeartbeats 4000000 in
set_option maxRecDepth 100000 in
theorem wj_Types_hasDefault_14 {p : Program} {l : Launch} {e : Env} {s : State} {m : MethodId} {args : Array Value} {below : List Frame} {meth : Method} {c : Code} {D : va_G} {ad : Nat → Nat} {ca : Nat → ClassId} {ads : List Nat} (htr : l.stackTraces = false) (C : xk_C D kx_cl (kx_ty ca) (kw_h ad ca) ads "ModuleHouse$Types" prog_11_method_6_code 1 (some .boolean) p e s m args meth c) (hne : c.exceptionTable.isEmpty = true) {u' : xk_St} {r : Int32} {u : xk_St} {H : Heap} {locs : List Loc} {ls : Array Slot} (h : jb_Types_hasDefault_14   u = some (r, u')) (hP : va_P D kx_cl (kw_h ad ca u) H) (hS : va_S (xk_A ads s.heap.size) s.heap H locs) (hl : lv_has ls 1 []) : W p l e rm_Types_hasDefault s m args below meth c H locs 0 0 (xk_MQ below (xk_Qc D kx_cl (kw_h ad ca) ads (xo_i (.inl r)) u') args s (xk_A ads s.heap.size)) (F0 m 14 ls []) := by
  have hx := C.1.1
  have hb := C.1.2.1
  have hok := C.2.2.1
  unfold jb_Types_hasDefault_14 at h
  refine lv_iconst (v := 1) hx hb dd_Types_hasDefault_14 (by decide) ?_
  refine lv_goto (tgt := 19) hx hb dd_Types_hasDefault_15 (by decide) ?_
  obtain ⟨rfl, rfl⟩ := xp_r h
  exact xr_zret C hP hS (by decide) dd_Types_hasDefault_19
set_option maxHeartbeats 4000000 in
set_option maxRecDepth 100000 in
theorem ct_Types_hasDefault {l : Launch} {D : va_G} {ad : Nat → Nat} {ca : Nat → ClassId} {ads : List Nat} (htr : l.stackTraces = false) (hok : xk_ok (kw_h ad ca) ads) {x0 : Int32} {u u' : xk_St} {r : Int32} (h : fm_Types_hasDefault x0 u = some (r, u')) :
    ∀ sz, xk_Met l ⟨"ModuleHouse$Types", "hasDefault", "(I)Z"⟩ (Cond.code ⟨"ModuleHouse$Types", "hasDefault", "(I)Z"⟩ prog_11_method_6_code 1 (some .boolean) :: xk_gd) rm_Types_hasDefault (xk_Pc D kx_cl (kx_ty ca) (kw_h ad ca) ads xk_F sz [.int x0] u) (xk_Qc D kx_cl (kw_h ad ca) ads (xo_i (.inl r)) u') (xk_A ads sz) := by
  unfold fm_Types_hasDefault at h
  refine xk_con (by decide) htr hok (Nat.le_of_ble_eq_true rfl) (fun p e s m below meth c ls C hne hl hP => ?_)
  have hx := C.1.1
  have hb := C.1.2.1
  have hS : va_S (xk_A ads s.heap.size) s.heap s.heap [] := va_S.rf
  have hl : lv_has ls 1 [(0, .int x0)] := hl
  refine lv_iload_n hx hb dd_Types_hasDefault_0 rfl (lv_at hl 0 rfl) ?_
  obtain ⟨a1, u2, hq, h⟩ := xp_seq h
  refine xk_goesI (xr_S (As := [.int x0]) (rest := []) C hP hS (ct_Types_isReference htr hok hq) kq_Types_27 ⟨rfl, rfl, Nat.le_of_ble_eq_true rfl, Nat.le_of_ble_eq_true rfl⟩ ⟨Nat.le_of_ble_eq_true rfl, Nat.le_of_ble_eq_true rfl⟩ hl.1 rfl rfl (Nat.le_of_ble_eq_true rfl) dd_Types_hasDefault_1) hS (fun H locs hP hS => ?_)
  clear hq
  refine lv_if_eq (tgt := 14) hx hb dd_Types_hasDefault_4 (by decide) (fun hc => ?_) (fun hc => ?_)
  · have h := xp_t hc h
    exact wj_Types_hasDefault_14 htr C hne h hP hS (lv_sub hl [] rfl)
  · have h := xp_f hc h
    refine lv_iload_n hx hb dd_Types_hasDefault_7 rfl (lv_at hl 0 rfl) ?_
    obtain ⟨a3, u4, hq, h⟩ := xp_seq h
    refine xk_goesI (xr_S (As := [.int x0]) (rest := []) C hP hS (ct_Types_orNull htr hok hq) kq_Types_31 ⟨rfl, rfl, Nat.le_of_ble_eq_true rfl, Nat.le_of_ble_eq_true rfl⟩ ⟨Nat.le_of_ble_eq_true rfl, Nat.le_of_ble_eq_true rfl⟩ hl.1 rfl rfl (Nat.le_of_ble_eq_true rfl) dd_Types_hasDefault_8) hS (fun H locs hP hS => ?_)
    clear hq
    refine lv_if_eq (tgt := 18) hx hb dd_Types_hasDefault_11 (by decide) (fun hc => ?_) (fun hc => ?_)
    · have h := xp_t hc h
      refine lv_iconst (v := 0) hx hb dd_Types_hasDefault_18 (by decide) ?_
      obtain ⟨rfl, rfl⟩ := xp_r h
      exact xr_zret C hP hS (by decide) dd_Types_hasDefault_19
    · have h := xp_f hc h
      exact wj_Types_hasDefault_14 htr C hne h hP hS (lv_sub hl [] rfl)
abbrev rm_Checker_checkNewArray : Room := { frames := 8, cells := 1, slots := 6, locals := 141 }
noncomputable def jb_Checker_checkNewArray_25 (fu : Nat) : Nat → Int32 → Int64 → Int32 → xk_St → Option ((Unit ⊕ Nat) × xk_St)
  | 0 => fun _ _ _ _ => none
  | n + 1 => fun b2 b3 b5 u =>
    xs_let (jb_Checker_checkNewArray_25 fu  n) fun k25 =>
    if b3 ≤ (b5.toInt64) then (some (.inl (()), u)) else ((xs_seq (fm_Types_unpacked b2 u) fun a9 u10 => xs_try (fm_Checker_pop_I a9 u10) fun _ u11 => xs_let (b5 + (1 : Int32)) fun a12 => k25 b2 b3 a12 u11))
noncomputable def jb_Checker_checkNewArray_19 (fu : Nat) (b2 : Int32) (b3 : Int64) (s0 : Int32) (u : xk_St) : Option ((Unit ⊕ Nat) × xk_St) :=
  (xs_try (fm_Checker_need s0 u) fun _ u8 => jb_Checker_checkNewArray_25 fu fu b2 b3 (0 : Int32) u8)
noncomputable def fm_Checker_checkNewArray (fu : Nat) (x0 : Int32) (x1 : Int32) (x2 : Int64) (u : xk_St) : Option ((Unit ⊕ Nat) × xk_St) :=
  if x0 = (8 : Int32) then (if (64 : Int64) < x2 then (jb_Checker_checkNewArray_19 fu x1 x2 (0 : Int32) u) else (jb_Checker_checkNewArray_19 fu x1 x2 (1 : Int32) u)) else ((xs_try (fm_Checker_pop_I (1 : Int32) u) fun _ u1 => if x0 = (6 : Int32) then ((xs_seq (fm_Types_unpacked x1 u1) fun a5 u6 => xs_try (fm_Checker_pop_I a5 u6) fun _ u7 => some (.inl (()), u7))) else ((xs_seq (fm_Types_hasDefault x1 u1) fun a2 u3 => xs_try (fm_Checker_need a2 u3) fun _ u4 => some (.inl (()), u4)))))
set_option maxHeartbeats 4000000 in
set_option maxRecDepth 100000 in
theorem wj_Checker_checkNewArray_25 {p : Program} {l : Launch} {e : Env} {s : State} {m : MethodId} {args : Array Value} {below : List Frame} {meth : Method} {c : Code} {D : va_G} {ad : Nat → Nat} {ca : Nat → ClassId} {ads : List Nat} {fu : Nat} (htr : l.stackTraces = false) (C : xk_C D kx_cl (kx_ty ca) (kw_h ad ca) ads "ModuleHouse$Checker" prog_2_method_50_code 6 none p e s m args meth c) (hne : c.exceptionTable.isEmpty = true) {u' : xk_St} {r : (Unit ⊕ Nat)} : ∀ {n : Nat} {b2 : Int32} {b3 : Int64} {b5 : Int32} {u : xk_St} {H : Heap} {locs : List Loc} {ls : Array Slot} (h : jb_Checker_checkNewArray_25 fu  n b2 b3 b5 u = some (r, u')) (hP : va_P D kx_cl (kw_h ad ca u) H) (hS : va_S (xk_A ads s.heap.size) s.heap H locs) (hl : lv_has ls 6 [(0, .ref (ad 55)), (2, .int b2), (3, .long b3), (5, .int b5)]), W p l e rm_Checker_checkNewArray s m args below meth c H locs 0 0 (xk_MQ below (xk_Qc D kx_cl (kw_h ad ca) ads (xo_v r) u') args s (xk_A ads s.heap.size)) (F0 m 25 ls []) := by
  intro n
  have hx := C.1.1
  have hb := C.1.2.1
  have hok := C.2.2.1
  induction n with
  | zero =>
    intro _ _ _ u H locs ls h
    have h : none = some (r, u') := h
    cases h
  | succ n ih =>
    intro b2 b3 b5 u H locs ls h hP hS hl
    unfold jb_Checker_checkNewArray_25 at h
    obtain ⟨k25, ek25, h⟩ := xp_let h
    have hk25 : ∀ (c0 : Int32) (c1 : Int64) (c2 : Int32) (u : xk_St) (H : Heap) (locs : List Loc) (ls : Array Slot), k25 c0 c1 c2 u = some (r, u') → va_P D kx_cl (kw_h ad ca u) H → va_S (xk_A ads s.heap.size) s.heap H locs → lv_has ls 6 [(0, .ref (ad 55)), (2, .int c0), (3, .long c1), (5, .int c2)] → W p l e rm_Checker_checkNewArray s m args below meth c H locs 0 0 (xk_MQ below (xk_Qc D kx_cl (kw_h ad ca) ads (xo_v r) u') args s (xk_A ads s.heap.size)) (F0 m 25 ls []) := by
      intro c0 c1 c2 u H locs ls h hP hS hl
      subst ek25
      exact ih h hP hS hl
    clear ih ek25
    refine lv_iload hx hb dd_Checker_checkNewArray_25 (lv_at hl 3 rfl) ?_
    refine lv_i2l hx hb dd_Checker_checkNewArray_27 rfl ?_
    refine lv_lload_n hx hb dd_Checker_checkNewArray_28 rfl (lv_at hl 2 rfl) ?_
    refine xr_lc_ge (tgt := 47) hx hb dd_Checker_checkNewArray_29 dd_Checker_checkNewArray_30 (by decide) (fun hc => ?_) (fun hc => ?_)
    · have h := xp_t hc h
      obtain ⟨rfl, rfl⟩ := xp_r h
      exact xr_vret C hP hS dd_Checker_checkNewArray_47
    · have h := xp_f hc h
      refine lv_aload_n hx hb dd_Checker_checkNewArray_33 rfl (lv_at hl 0 rfl) ?_
      refine lv_iload_n hx hb dd_Checker_checkNewArray_34 rfl (lv_at hl 1 rfl) ?_
      obtain ⟨a9, u10, hq, h⟩ := xp_seq h
      refine xk_goesI (xr_S (As := [.int b2]) (rest := [.ref (ad 55)]) C hP hS (ct_Types_unpacked htr hok hq) kq_Checker_346 ⟨rfl, rfl, Nat.le_of_ble_eq_true rfl, Nat.le_of_ble_eq_true rfl⟩ ⟨Nat.le_of_ble_eq_true rfl, Nat.le_of_ble_eq_true rfl⟩ hl.1 rfl rfl (Nat.le_of_ble_eq_true rfl) dd_Checker_checkNewArray_35) hS (fun H locs hP hS => ?_)
      clear hq
      rcases xp_try h with ⟨rx, u11, hq, h⟩ | ⟨kx, ux, hq, h⟩
      rotate_left
      · obtain ⟨rfl, rfl⟩ := xp_q h
        exact xk_up (xr_V (As := [.int a9]) (rest := []) C hP hS (ct_Checker_pop_I htr hok hq) kq_Checker_238 55 1 rfl rfl ⟨rfl, rfl, Nat.le_of_ble_eq_true rfl, Nat.le_of_ble_eq_true rfl⟩ ⟨Nat.le_of_ble_eq_true rfl, Nat.le_of_ble_eq_true rfl⟩ hl.1 rfl rfl (Nat.le_of_ble_eq_true rfl) dd_Checker_checkNewArray_38) hS hne C.2.2.2.2.2.2.1
      refine xk_goesV (xr_V (As := [.int a9]) (rest := []) C hP hS (ct_Checker_pop_I htr hok hq) kq_Checker_238 55 1 rfl rfl ⟨rfl, rfl, Nat.le_of_ble_eq_true rfl, Nat.le_of_ble_eq_true rfl⟩ ⟨Nat.le_of_ble_eq_true rfl, Nat.le_of_ble_eq_true rfl⟩ hl.1 rfl rfl (Nat.le_of_ble_eq_true rfl) dd_Checker_checkNewArray_38) hS (fun H locs hP hS => ?_)
      clear hq
      obtain ⟨a12, ea12, h⟩ := xp_let h
      refine lv_iinc (v := a12) (lv' := [(5, .int a12), (0, .ref (ad 55)), (2, .int b2), (3, .long b3)]) hx hb dd_Checker_checkNewArray_41 hl (k := 3) rfl (by rw [ea12]; first | rfl | decide) (by decide) rfl (fun ls hl => ?_)
      refine lv_goto (tgt := 25) hx hb dd_Checker_checkNewArray_44 (by decide) ?_
      exact hk25 b2 b3 a12 u11 _ _ _ h hP hS (lv_sub hl [1, 2, 3, 0] rfl)
set_option maxHeartbeats 4000000 in
set_option maxRecDepth 100000 in
theorem wj_Checker_checkNewArray_19 {p : Program} {l : Launch} {e : Env} {s : State} {m : MethodId} {args : Array Value} {below : List Frame} {meth : Method} {c : Code} {D : va_G} {ad : Nat → Nat} {ca : Nat → ClassId} {ads : List Nat} {fu : Nat} (htr : l.stackTraces = false) (C : xk_C D kx_cl (kx_ty ca) (kw_h ad ca) ads "ModuleHouse$Checker" prog_2_method_50_code 6 none p e s m args meth c) (hne : c.exceptionTable.isEmpty = true) {u' : xk_St} {r : (Unit ⊕ Nat)} {b2 : Int32} {b3 : Int64} {s0 : Int32} {u : xk_St} {H : Heap} {locs : List Loc} {ls : Array Slot} (h : jb_Checker_checkNewArray_19 fu  b2 b3 s0 u = some (r, u')) (hP : va_P D kx_cl (kw_h ad ca u) H) (hS : va_S (xk_A ads s.heap.size) s.heap H locs) (hl : lv_has ls 6 [(0, .ref (ad 55)), (2, .int b2), (3, .long b3)]) : W p l e rm_Checker_checkNewArray s m args below meth c H locs 0 0 (xk_MQ below (xk_Qc D kx_cl (kw_h ad ca) ads (xo_v r) u') args s (xk_A ads s.heap.size)) (F0 m 19 ls [.int s0]) := by
  have hx := C.1.1
  have hb := C.1.2.1
  have hok := C.2.2.1
  unfold jb_Checker_checkNewArray_19 at h
  rcases xp_try h with ⟨rx, u8, hq, h⟩ | ⟨kx, ux, hq, h⟩
  rotate_left
  · obtain ⟨rfl, rfl⟩ := xp_q h
    exact xk_up (xr_S (As := [.int s0]) (rest := []) C hP hS (ct_Checker_need htr hok hq) kq_Checker_60 ⟨rfl, rfl, Nat.le_of_ble_eq_true rfl, Nat.le_of_ble_eq_true rfl⟩ ⟨Nat.le_of_ble_eq_true rfl, Nat.le_of_ble_eq_true rfl⟩ hl.1 rfl rfl (Nat.le_of_ble_eq_true rfl) dd_Checker_checkNewArray_19) hS hne C.2.2.2.2.2.2.1
  refine xk_goesV (xr_S (As := [.int s0]) (rest := []) C hP hS (ct_Checker_need htr hok hq) kq_Checker_60 ⟨rfl, rfl, Nat.le_of_ble_eq_true rfl, Nat.le_of_ble_eq_true rfl⟩ ⟨Nat.le_of_ble_eq_true rfl, Nat.le_of_ble_eq_true rfl⟩ hl.1 rfl rfl (Nat.le_of_ble_eq_true rfl) dd_Checker_checkNewArray_19) hS (fun H locs hP hS => ?_)
  clear hq
  refine lv_iconst (v := 0) hx hb dd_Checker_checkNewArray_22 (by decide) ?_
  refine lv_istore (lv' := [(5, .int (0 : Int32)), (0, .ref (ad 55)), (2, .int b2), (3, .long b3)]) hx hb dd_Checker_checkNewArray_23 hl (by decide) rfl (fun ls hl => ?_)
  exact wj_Checker_checkNewArray_25 htr C hne h hP hS (lv_sub hl [1, 2, 3, 0] rfl)
set_option maxHeartbeats 4000000 in
set_option maxRecDepth 100000 in
theorem ct_Checker_checkNewArray {l : Launch} {D : va_G} {ad : Nat → Nat} {ca : Nat → ClassId} {ads : List Nat} (htr : l.stackTraces = false) (hok : xk_ok (kw_h ad ca) ads) {fu : Nat} {x0 : Int32} {x1 : Int32} {x2 : Int64} {u u' : xk_St} {r : (Unit ⊕ Nat)} (h : fm_Checker_checkNewArray fu x0 x1 x2 u = some (r, u')) :
    ∀ sz, xk_Met l ⟨"ModuleHouse$Checker", "checkNewArray", "(IIJ)V"⟩ (Cond.code ⟨"ModuleHouse$Checker", "checkNewArray", "(IIJ)V"⟩ prog_2_method_50_code 6 none :: xk_gd) rm_Checker_checkNewArray (xk_Pc D kx_cl (kx_ty ca) (kw_h ad ca) ads xk_F sz [.ref (ad 55), .int x0, .int x1, .long x2] u) (xk_Qc D kx_cl (kw_h ad ca) ads (xo_v r) u') (xk_A ads sz) := by
  unfold fm_Checker_checkNewArray at h
  refine xk_con (by decide) htr hok (Nat.le_of_ble_eq_true rfl) (fun p e s m below meth c ls C hne hl hP => ?_)
  have hx := C.1.1
  have hb := C.1.2.1
  have hS : va_S (xk_A ads s.heap.size) s.heap s.heap [] := va_S.rf
  have hl : lv_has ls 6 [(0, .ref (ad 55)), (1, .int x0), (2, .int x1), (3, .long x2)] := hl
  refine lv_iload_n hx hb dd_Checker_checkNewArray_0 rfl (lv_at hl 1 rfl) ?_
  refine lv_bipush (v := 8) hx hb dd_Checker_checkNewArray_1 (by decide) ?_
  refine lv_icmp_ne (tgt := 48) hx hb dd_Checker_checkNewArray_3 (by decide) (fun hc => ?_) (fun hc => ?_)
  · have h := xp_f hc h
    refine lv_aload_n hx hb dd_Checker_checkNewArray_48 rfl (lv_at hl 0 rfl) ?_
    refine lv_iconst (v := 1) hx hb dd_Checker_checkNewArray_49 (by decide) ?_
    rcases xp_try h with ⟨rx, u1, hq, h⟩ | ⟨kx, ux, hq, h⟩
    rotate_left
    · obtain ⟨rfl, rfl⟩ := xp_q h
      exact xk_up (xr_V (As := [.int (1 : Int32)]) (rest := []) C hP hS (ct_Checker_pop_I htr hok hq) kq_Checker_238 55 1 rfl rfl ⟨rfl, rfl, Nat.le_of_ble_eq_true rfl, Nat.le_of_ble_eq_true rfl⟩ ⟨Nat.le_of_ble_eq_true rfl, Nat.le_of_ble_eq_true rfl⟩ hl.1 rfl rfl (Nat.le_of_ble_eq_true rfl) dd_Checker_checkNewArray_50) hS hne C.2.2.2.2.2.2.1
    refine xk_goesV (xr_V (As := [.int (1 : Int32)]) (rest := []) C hP hS (ct_Checker_pop_I htr hok hq) kq_Checker_238 55 1 rfl rfl ⟨rfl, rfl, Nat.le_of_ble_eq_true rfl, Nat.le_of_ble_eq_true rfl⟩ ⟨Nat.le_of_ble_eq_true rfl, Nat.le_of_ble_eq_true rfl⟩ hl.1 rfl rfl (Nat.le_of_ble_eq_true rfl) dd_Checker_checkNewArray_50) hS (fun H locs hP hS => ?_)
    clear hq
    refine lv_iload_n hx hb dd_Checker_checkNewArray_53 rfl (lv_at hl 1 rfl) ?_
    refine lv_bipush (v := 6) hx hb dd_Checker_checkNewArray_54 (by decide) ?_
    refine lv_icmp_ne (tgt := 70) hx hb dd_Checker_checkNewArray_56 (by decide) (fun hc => ?_) (fun hc => ?_)
    · have h := xp_f hc h
      refine lv_iload_n hx hb dd_Checker_checkNewArray_70 rfl (lv_at hl 2 rfl) ?_
      obtain ⟨a2, u3, hq, h⟩ := xp_seq h
      refine xk_goesI (xr_S (As := [.int x1]) (rest := []) C hP hS (ct_Types_hasDefault htr hok hq) kq_Checker_276 ⟨rfl, rfl, Nat.le_of_ble_eq_true rfl, Nat.le_of_ble_eq_true rfl⟩ ⟨Nat.le_of_ble_eq_true rfl, Nat.le_of_ble_eq_true rfl⟩ hl.1 rfl rfl (Nat.le_of_ble_eq_true rfl) dd_Checker_checkNewArray_71) hS (fun H locs hP hS => ?_)
      clear hq
      rcases xp_try h with ⟨rx, u4, hq, h⟩ | ⟨kx, ux, hq, h⟩
      rotate_left
      · obtain ⟨rfl, rfl⟩ := xp_q h
        exact xk_up (xr_S (As := [.int a2]) (rest := []) C hP hS (ct_Checker_need htr hok hq) kq_Checker_60 ⟨rfl, rfl, Nat.le_of_ble_eq_true rfl, Nat.le_of_ble_eq_true rfl⟩ ⟨Nat.le_of_ble_eq_true rfl, Nat.le_of_ble_eq_true rfl⟩ hl.1 rfl rfl (Nat.le_of_ble_eq_true rfl) dd_Checker_checkNewArray_74) hS hne C.2.2.2.2.2.2.1
      refine xk_goesV (xr_S (As := [.int a2]) (rest := []) C hP hS (ct_Checker_need htr hok hq) kq_Checker_60 ⟨rfl, rfl, Nat.le_of_ble_eq_true rfl, Nat.le_of_ble_eq_true rfl⟩ ⟨Nat.le_of_ble_eq_true rfl, Nat.le_of_ble_eq_true rfl⟩ hl.1 rfl rfl (Nat.le_of_ble_eq_true rfl) dd_Checker_checkNewArray_74) hS (fun H locs hP hS => ?_)
      clear hq
      obtain ⟨rfl, rfl⟩ := xp_r h
      exact xr_vret C hP hS dd_Checker_checkNewArray_77
    · have h := xp_t hc h
      refine lv_aload_n hx hb dd_Checker_checkNewArray_59 rfl (lv_at hl 0 rfl) ?_
      refine lv_iload_n hx hb dd_Checker_checkNewArray_60 rfl (lv_at hl 2 rfl) ?_
      obtain ⟨a5, u6, hq, h⟩ := xp_seq h
      refine xk_goesI (xr_S (As := [.int x1]) (rest := [.ref (ad 55)]) C hP hS (ct_Types_unpacked htr hok hq) kq_Checker_346 ⟨rfl, rfl, Nat.le_of_ble_eq_true rfl, Nat.le_of_ble_eq_true rfl⟩ ⟨Nat.le_of_ble_eq_true rfl, Nat.le_of_ble_eq_true rfl⟩ hl.1 rfl rfl (Nat.le_of_ble_eq_true rfl) dd_Checker_checkNewArray_61) hS (fun H locs hP hS => ?_)
      clear hq
      rcases xp_try h with ⟨rx, u7, hq, h⟩ | ⟨kx, ux, hq, h⟩
      rotate_left
      · obtain ⟨rfl, rfl⟩ := xp_q h
        exact xk_up (xr_V (As := [.int a5]) (rest := []) C hP hS (ct_Checker_pop_I htr hok hq) kq_Checker_238 55 1 rfl rfl ⟨rfl, rfl, Nat.le_of_ble_eq_true rfl, Nat.le_of_ble_eq_true rfl⟩ ⟨Nat.le_of_ble_eq_true rfl, Nat.le_of_ble_eq_true rfl⟩ hl.1 rfl rfl (Nat.le_of_ble_eq_true rfl) dd_Checker_checkNewArray_64) hS hne C.2.2.2.2.2.2.1
      refine xk_goesV (xr_V (As := [.int a5]) (rest := []) C hP hS (ct_Checker_pop_I htr hok hq) kq_Checker_238 55 1 rfl rfl ⟨rfl, rfl, Nat.le_of_ble_eq_true rfl, Nat.le_of_ble_eq_true rfl⟩ ⟨Nat.le_of_ble_eq_true rfl, Nat.le_of_ble_eq_true rfl⟩ hl.1 rfl rfl (Nat.le_of_ble_eq_true rfl) dd_Checker_checkNewArray_64) hS (fun H locs hP hS => ?_)
      clear hq
      refine lv_goto (tgt := 77) hx hb dd_Checker_checkNewArray_67 (by decide) ?_
      obtain ⟨rfl, rfl⟩ := xp_r h
      exact xr_vret C hP hS dd_Checker_checkNewArray_77
  · have h := xp_t hc h
    refine lv_lload_n hx hb dd_Checker_checkNewArray_6 rfl (lv_at hl 3 rfl) ?_
    refine lv_ldc2 (v := 64) hx hb C.1.2.2.2.1 (C.1.2.2.2.2 _ (xk_c6 (w := Jvm.Cond.constantLong "ModuleHouse$Checker" 361 64) 114 rfl rfl)) dd_Checker_checkNewArray_7 ?_
    refine xr_lc_gt (tgt := 18) hx hb dd_Checker_checkNewArray_10 dd_Checker_checkNewArray_11 (by decide) (fun hc => ?_) (fun hc => ?_)
    · have h := xp_t hc h
      refine lv_iconst (v := 0) hx hb dd_Checker_checkNewArray_18 (by decide) ?_
      exact wj_Checker_checkNewArray_19 htr C hne h hP hS (lv_sub hl [0, 2, 3] rfl)
    · have h := xp_f hc h
      refine lv_iconst (v := 1) hx hb dd_Checker_checkNewArray_14 (by decide) ?_
      refine lv_goto (tgt := 19) hx hb dd_Checker_checkNewArray_15 (by decide) ?_
      exact wj_Checker_checkNewArray_19 htr C hne h hP hS (lv_sub hl [0, 2, 3] rfl)
abbrev rm_Checker_popReference : Room := { frames := 7, cells := 1, slots := 6, locals := 120 }
noncomputable def fm_Checker_popReference (u : xk_St) : Option ((Int32 ⊕ Nat) × xk_St) :=
  (xs_try (fm_Checker_pop_ u) fun a1 u2 => if a1 = (0 : Int32) then ((xs_seq (fm_Types_reference (2 : Int32) (0 : Int32) u2) fun a6 u7 => some (.inl a6, u7))) else ((xs_seq (fm_Types_isReference a1 u2) fun a3 u4 => xs_try (fm_Checker_need a3 u4) fun _ u5 => some (.inl a1, u5))))
set_option maxHeartbeats 4000000 in
set_option maxRecDepth 100000 in
theorem ct_Checker_popReference {l : Launch} {D : va_G} {ad : Nat → Nat} {ca : Nat → ClassId} {ads : List Nat} (htr : l.stackTraces = false) (hok : xk_ok (kw_h ad ca) ads) {u u' : xk_St} {r : (Int32 ⊕ Nat)} (h : fm_Checker_popReference u = some (r, u')) :
    ∀ sz, xk_Met l ⟨"ModuleHouse$Checker", "popReference", "()I"⟩ (Cond.code ⟨"ModuleHouse$Checker", "popReference", "()I"⟩ prog_2_method_17_code 2 (some .int) :: xk_gd) rm_Checker_popReference (xk_Pc D kx_cl (kx_ty ca) (kw_h ad ca) ads xk_F sz [.ref (ad 55)] u) (xk_Qc D kx_cl (kw_h ad ca) ads (xo_i r) u') (xk_A ads sz) := by
  unfold fm_Checker_popReference at h
  refine xk_con (by decide) htr hok (Nat.le_of_ble_eq_true rfl) (fun p e s m below meth c ls C hne hl hP => ?_)
  have hx := C.1.1
  have hb := C.1.2.1
  have hS : va_S (xk_A ads s.heap.size) s.heap s.heap [] := va_S.rf
  have hl : lv_has ls 2 [(0, .ref (ad 55))] := hl
  refine lv_aload_n hx hb dd_Checker_popReference_0 rfl (lv_at hl 0 rfl) ?_
  rcases xp_try h with ⟨a1, u2, hq, h⟩ | ⟨kx, ux, hq, h⟩
  rotate_left
  · obtain ⟨rfl, rfl⟩ := xp_q h
    exact xk_up (xr_V (As := []) (rest := []) C hP hS (ct_Checker_pop_ htr hok hq) kq_Checker_227 55 1 rfl rfl ⟨rfl, rfl, Nat.le_of_ble_eq_true rfl, Nat.le_of_ble_eq_true rfl⟩ ⟨Nat.le_of_ble_eq_true rfl, Nat.le_of_ble_eq_true rfl⟩ hl.1 rfl rfl (Nat.le_of_ble_eq_true rfl) dd_Checker_popReference_1) hS hne C.2.2.2.2.2.2.1
  refine xk_goesI (xr_V (As := []) (rest := []) C hP hS (ct_Checker_pop_ htr hok hq) kq_Checker_227 55 1 rfl rfl ⟨rfl, rfl, Nat.le_of_ble_eq_true rfl, Nat.le_of_ble_eq_true rfl⟩ ⟨Nat.le_of_ble_eq_true rfl, Nat.le_of_ble_eq_true rfl⟩ hl.1 rfl rfl (Nat.le_of_ble_eq_true rfl) dd_Checker_popReference_1) hS (fun H locs hP hS => ?_)
  clear hq
  refine lv_istore_n (lv' := [(1, .int a1), (0, .ref (ad 55))]) hx hb dd_Checker_popReference_4 rfl hl (by decide) rfl (fun ls hl => ?_)
  refine lv_iload_n hx hb dd_Checker_popReference_5 rfl (lv_at hl 0 rfl) ?_
  refine lv_if_ne (tgt := 15) hx hb dd_Checker_popReference_6 (by decide) (fun hc => ?_) (fun hc => ?_)
  · have h := xp_f hc h
    refine lv_iload_n hx hb dd_Checker_popReference_15 rfl (lv_at hl 0 rfl) ?_
    obtain ⟨a3, u4, hq, h⟩ := xp_seq h
    refine xk_goesI (xr_S (As := [.int a1]) (rest := []) C hP hS (ct_Types_isReference htr hok hq) kq_Checker_125 ⟨rfl, rfl, Nat.le_of_ble_eq_true rfl, Nat.le_of_ble_eq_true rfl⟩ ⟨Nat.le_of_ble_eq_true rfl, Nat.le_of_ble_eq_true rfl⟩ hl.1 rfl rfl (Nat.le_of_ble_eq_true rfl) dd_Checker_popReference_16) hS (fun H locs hP hS => ?_)
    clear hq
    rcases xp_try h with ⟨rx, u5, hq, h⟩ | ⟨kx, ux, hq, h⟩
    rotate_left
    · obtain ⟨rfl, rfl⟩ := xp_q h
      exact xk_up (xr_S (As := [.int a3]) (rest := []) C hP hS (ct_Checker_need htr hok hq) kq_Checker_60 ⟨rfl, rfl, Nat.le_of_ble_eq_true rfl, Nat.le_of_ble_eq_true rfl⟩ ⟨Nat.le_of_ble_eq_true rfl, Nat.le_of_ble_eq_true rfl⟩ hl.1 rfl rfl (Nat.le_of_ble_eq_true rfl) dd_Checker_popReference_19) hS hne C.2.2.2.2.2.2.1
    refine xk_goesV (xr_S (As := [.int a3]) (rest := []) C hP hS (ct_Checker_need htr hok hq) kq_Checker_60 ⟨rfl, rfl, Nat.le_of_ble_eq_true rfl, Nat.le_of_ble_eq_true rfl⟩ ⟨Nat.le_of_ble_eq_true rfl, Nat.le_of_ble_eq_true rfl⟩ hl.1 rfl rfl (Nat.le_of_ble_eq_true rfl) dd_Checker_popReference_19) hS (fun H locs hP hS => ?_)
    clear hq
    refine lv_iload_n hx hb dd_Checker_popReference_22 rfl (lv_at hl 0 rfl) ?_
    obtain ⟨rfl, rfl⟩ := xp_r h
    exact xr_iret C hP hS dd_Checker_popReference_23
  · have h := xp_t hc h
    refine lv_iconst (v := 2) hx hb dd_Checker_popReference_9 (by decide) ?_
    refine lv_iconst (v := 0) hx hb dd_Checker_popReference_10 (by decide) ?_
    obtain ⟨a6, u7, hq, h⟩ := xp_seq h
    refine xk_goesI (xr_S (As := [.int (2 : Int32), .int (0 : Int32)]) (rest := []) C hP hS (ct_Types_reference htr hok hq) kq_Checker_231 ⟨rfl, rfl, Nat.le_of_ble_eq_true rfl, Nat.le_of_ble_eq_true rfl⟩ ⟨Nat.le_of_ble_eq_true rfl, Nat.le_of_ble_eq_true rfl⟩ hl.1 rfl rfl (Nat.le_of_ble_eq_true rfl) dd_Checker_popReference_11) hS (fun H locs hP hS => ?_)
    clear hq
    obtain ⟨rfl, rfl⟩ := xp_r h
    exact xr_iret C hP hS dd_Checker_popReference_14
abbrev rm_Checker_checkLength : Room := { frames := 8, cells := 1, slots := 6, locals := 141 }
noncomputable def jb_Checker_checkLength_38 (s0 : Int32) (u : xk_St) : Option ((Unit ⊕ Nat) × xk_St) :=
  (xs_try (fm_Checker_need s0 u) fun _ u5 => xs_try (fm_Checker_push (1 : Int32) u5) fun _ u6 => some (.inl (()), u6))
noncomputable def jb_Checker_checkLength_33 (u : xk_St) : Option ((Unit ⊕ Nat) × xk_St) :=
  jb_Checker_checkLength_38 (1 : Int32) u
noncomputable def jb_Checker_checkLength_37 (u : xk_St) : Option ((Unit ⊕ Nat) × xk_St) :=
  jb_Checker_checkLength_38 (0 : Int32) u
noncomputable def fm_Checker_checkLength (u : xk_St) : Option ((Unit ⊕ Nat) × xk_St) :=
  (xs_try (fm_Checker_popReference u) fun a1 u2 => xs_seq (fm_Types_target a1 u2) fun a3 u4 => if a3 = (2 : Int32) then (jb_Checker_checkLength_33 u4) else (if a3 < (3 : Int32) then (jb_Checker_checkLength_37 u4) else ((xs_seq (fm_Types_is (a3 - (3 : Int32)) (94 : Int32) u4) fun a7 u8 => if a7 = (0 : Int32) then (jb_Checker_checkLength_37 u8) else (jb_Checker_checkLength_33 u8)))))
set_option maxHeartbeats 4000000 in
set_option maxRecDepth 100000 in
theorem wj_Checker_checkLength_38 {p : Program} {l : Launch} {e : Env} {s : State} {m : MethodId} {args : Array Value} {below : List Frame} {meth : Method} {c : Code} {D : va_G} {ad : Nat → Nat} {ca : Nat → ClassId} {ads : List Nat} (htr : l.stackTraces = false) (C : xk_C D kx_cl (kx_ty ca) (kw_h ad ca) ads "ModuleHouse$Checker" prog_2_method_51_code 2 none p e s m args meth c) (hne : c.exceptionTable.isEmpty = true) {u' : xk_St} {r : (Unit ⊕ Nat)} {s0 : Int32} {u : xk_St} {H : Heap} {locs : List Loc} {ls : Array Slot} (h : jb_Checker_checkLength_38  s0 u = some (r, u')) (hP : va_P D kx_cl (kw_h ad ca u) H) (hS : va_S (xk_A ads s.heap.size) s.heap H locs) (hl : lv_has ls 2 [(0, .ref (ad 55))]) : W p l e rm_Checker_checkLength s m args below meth c H locs 0 0 (xk_MQ below (xk_Qc D kx_cl (kw_h ad ca) ads (xo_v r) u') args s (xk_A ads s.heap.size)) (F0 m 38 ls [.int s0]) := by
  have hx := C.1.1
  have hb := C.1.2.1
  have hok := C.2.2.1
  unfold jb_Checker_checkLength_38 at h
  rcases xp_try h with ⟨rx, u5, hq, h⟩ | ⟨kx, ux, hq, h⟩
  rotate_left
  · obtain ⟨rfl, rfl⟩ := xp_q h
    exact xk_up (xr_S (As := [.int s0]) (rest := []) C hP hS (ct_Checker_need htr hok hq) kq_Checker_60 ⟨rfl, rfl, Nat.le_of_ble_eq_true rfl, Nat.le_of_ble_eq_true rfl⟩ ⟨Nat.le_of_ble_eq_true rfl, Nat.le_of_ble_eq_true rfl⟩ hl.1 rfl rfl (Nat.le_of_ble_eq_true rfl) dd_Checker_checkLength_38) hS hne C.2.2.2.2.2.2.1
  refine xk_goesV (xr_S (As := [.int s0]) (rest := []) C hP hS (ct_Checker_need htr hok hq) kq_Checker_60 ⟨rfl, rfl, Nat.le_of_ble_eq_true rfl, Nat.le_of_ble_eq_true rfl⟩ ⟨Nat.le_of_ble_eq_true rfl, Nat.le_of_ble_eq_true rfl⟩ hl.1 rfl rfl (Nat.le_of_ble_eq_true rfl) dd_Checker_checkLength_38) hS (fun H locs hP hS => ?_)
  clear hq
  refine lv_aload_n hx hb dd_Checker_checkLength_41 rfl (lv_at hl 0 rfl) ?_
  refine lv_iconst (v := 1) hx hb dd_Checker_checkLength_42 (by decide) ?_
  rcases xp_try h with ⟨rx, u6, hq, h⟩ | ⟨kx, ux, hq, h⟩
  rotate_left
  · obtain ⟨rfl, rfl⟩ := xp_q h
    exact xk_up (xr_V (As := [.int (1 : Int32)]) (rest := []) C hP hS (ct_Checker_push htr hok hq) kq_Checker_203 55 1 rfl rfl ⟨rfl, rfl, Nat.le_of_ble_eq_true rfl, Nat.le_of_ble_eq_true rfl⟩ ⟨Nat.le_of_ble_eq_true rfl, Nat.le_of_ble_eq_true rfl⟩ hl.1 rfl rfl (Nat.le_of_ble_eq_true rfl) dd_Checker_checkLength_43) hS hne C.2.2.2.2.2.2.1
  refine xk_goesV (xr_V (As := [.int (1 : Int32)]) (rest := []) C hP hS (ct_Checker_push htr hok hq) kq_Checker_203 55 1 rfl rfl ⟨rfl, rfl, Nat.le_of_ble_eq_true rfl, Nat.le_of_ble_eq_true rfl⟩ ⟨Nat.le_of_ble_eq_true rfl, Nat.le_of_ble_eq_true rfl⟩ hl.1 rfl rfl (Nat.le_of_ble_eq_true rfl) dd_Checker_checkLength_43) hS (fun H locs hP hS => ?_)
  clear hq
  obtain ⟨rfl, rfl⟩ := xp_r h
  exact xr_vret C hP hS dd_Checker_checkLength_46
set_option maxHeartbeats 4000000 in
set_option maxRecDepth 100000 in
theorem wj_Checker_checkLength_33 {p : Program} {l : Launch} {e : Env} {s : State} {m : MethodId} {args : Array Value} {below : List Frame} {meth : Method} {c : Code} {D : va_G} {ad : Nat → Nat} {ca : Nat → ClassId} {ads : List Nat} (htr : l.stackTraces = false) (C : xk_C D kx_cl (kx_ty ca) (kw_h ad ca) ads "ModuleHouse$Checker" prog_2_method_51_code 2 none p e s m args meth c) (hne : c.exceptionTable.isEmpty = true) {u' : xk_St} {r : (Unit ⊕ Nat)} {u : xk_St} {H : Heap} {locs : List Loc} {ls : Array Slot} (h : jb_Checker_checkLength_33   u = some (r, u')) (hP : va_P D kx_cl (kw_h ad ca u) H) (hS : va_S (xk_A ads s.heap.size) s.heap H locs) (hl : lv_has ls 2 [(0, .ref (ad 55))]) : W p l e rm_Checker_checkLength s m args below meth c H locs 0 0 (xk_MQ below (xk_Qc D kx_cl (kw_h ad ca) ads (xo_v r) u') args s (xk_A ads s.heap.size)) (F0 m 33 ls []) := by
  have hx := C.1.1
  have hb := C.1.2.1
  have hok := C.2.2.1
  unfold jb_Checker_checkLength_33 at h
  refine lv_iconst (v := 1) hx hb dd_Checker_checkLength_33 (by decide) ?_
  refine lv_goto (tgt := 38) hx hb dd_Checker_checkLength_34 (by decide) ?_
  exact wj_Checker_checkLength_38 htr C hne h hP hS (lv_sub hl [0] rfl)
set_option maxHeartbeats 4000000 in
set_option maxRecDepth 100000 in
theorem wj_Checker_checkLength_37 {p : Program} {l : Launch} {e : Env} {s : State} {m : MethodId} {args : Array Value} {below : List Frame} {meth : Method} {c : Code} {D : va_G} {ad : Nat → Nat} {ca : Nat → ClassId} {ads : List Nat} (htr : l.stackTraces = false) (C : xk_C D kx_cl (kx_ty ca) (kw_h ad ca) ads "ModuleHouse$Checker" prog_2_method_51_code 2 none p e s m args meth c) (hne : c.exceptionTable.isEmpty = true) {u' : xk_St} {r : (Unit ⊕ Nat)} {u : xk_St} {H : Heap} {locs : List Loc} {ls : Array Slot} (h : jb_Checker_checkLength_37   u = some (r, u')) (hP : va_P D kx_cl (kw_h ad ca u) H) (hS : va_S (xk_A ads s.heap.size) s.heap H locs) (hl : lv_has ls 2 [(0, .ref (ad 55))]) : W p l e rm_Checker_checkLength s m args below meth c H locs 0 0 (xk_MQ below (xk_Qc D kx_cl (kw_h ad ca) ads (xo_v r) u') args s (xk_A ads s.heap.size)) (F0 m 37 ls []) := by
  have hx := C.1.1
  have hb := C.1.2.1
  have hok := C.2.2.1
  unfold jb_Checker_checkLength_37 at h
  refine lv_iconst (v := 0) hx hb dd_Checker_checkLength_37 (by decide) ?_
  exact wj_Checker_checkLength_38 htr C hne h hP hS (lv_sub hl [0] rfl)
set_option maxHeartbeats 4000000 in
set_option maxRecDepth 100000 in
theorem ct_Checker_checkLength {l : Launch} {D : va_G} {ad : Nat → Nat} {ca : Nat → ClassId} {ads : List Nat} (htr : l.stackTraces = false) (hok : xk_ok (kw_h ad ca) ads) {u u' : xk_St} {r : (Unit ⊕ Nat)} (h : fm_Checker_checkLength u = some (r, u')) :
    ∀ sz, xk_Met l ⟨"ModuleHouse$Checker", "checkLength", "()V"⟩ (Cond.code ⟨"ModuleHouse$Checker", "checkLength", "()V"⟩ prog_2_method_51_code 2 none :: xk_gd) rm_Checker_checkLength (xk_Pc D kx_cl (kx_ty ca) (kw_h ad ca) ads xk_F sz [.ref (ad 55)] u) (xk_Qc D kx_cl (kw_h ad ca) ads (xo_v r) u') (xk_A ads sz) := by
  unfold fm_Checker_checkLength at h
  refine xk_con (by decide) htr hok (Nat.le_of_ble_eq_true rfl) (fun p e s m below meth c ls C hne hl hP => ?_)
  have hx := C.1.1
  have hb := C.1.2.1
  have hS : va_S (xk_A ads s.heap.size) s.heap s.heap [] := va_S.rf
  have hl : lv_has ls 2 [(0, .ref (ad 55))] := hl
  refine lv_aload_n hx hb dd_Checker_checkLength_0 rfl (lv_at hl 0 rfl) ?_
  rcases xp_try h with ⟨a1, u2, hq, h⟩ | ⟨kx, ux, hq, h⟩
  rotate_left
  · obtain ⟨rfl, rfl⟩ := xp_q h
    exact xk_up (xr_V (As := []) (rest := []) C hP hS (ct_Checker_popReference htr hok hq) kq_Checker_340 55 1 rfl rfl ⟨rfl, rfl, Nat.le_of_ble_eq_true rfl, Nat.le_of_ble_eq_true rfl⟩ ⟨Nat.le_of_ble_eq_true rfl, Nat.le_of_ble_eq_true rfl⟩ hl.1 rfl rfl (Nat.le_of_ble_eq_true rfl) dd_Checker_checkLength_1) hS hne C.2.2.2.2.2.2.1
  refine xk_goesI (xr_V (As := []) (rest := []) C hP hS (ct_Checker_popReference htr hok hq) kq_Checker_340 55 1 rfl rfl ⟨rfl, rfl, Nat.le_of_ble_eq_true rfl, Nat.le_of_ble_eq_true rfl⟩ ⟨Nat.le_of_ble_eq_true rfl, Nat.le_of_ble_eq_true rfl⟩ hl.1 rfl rfl (Nat.le_of_ble_eq_true rfl) dd_Checker_checkLength_1) hS (fun H locs hP hS => ?_)
  clear hq
  obtain ⟨a3, u4, hq, h⟩ := xp_seq h
  refine xk_goesI (xr_S (As := [.int a1]) (rest := []) C hP hS (ct_Types_target htr hok hq) kq_Checker_128 ⟨rfl, rfl, Nat.le_of_ble_eq_true rfl, Nat.le_of_ble_eq_true rfl⟩ ⟨Nat.le_of_ble_eq_true rfl, Nat.le_of_ble_eq_true rfl⟩ hl.1 rfl rfl (Nat.le_of_ble_eq_true rfl) dd_Checker_checkLength_4) hS (fun H locs hP hS => ?_)
  clear hq
  refine lv_istore_n (lv' := [(1, .int a3), (0, .ref (ad 55))]) hx hb dd_Checker_checkLength_7 rfl hl (by decide) rfl (fun ls hl => ?_)
  refine lv_iload_n hx hb dd_Checker_checkLength_8 rfl (lv_at hl 0 rfl) ?_
  refine lv_iconst (v := 2) hx hb dd_Checker_checkLength_9 (by decide) ?_
  refine lv_icmp_eq (tgt := 33) hx hb dd_Checker_checkLength_10 (by decide) (fun hc => ?_) (fun hc => ?_)
  · have h := xp_t hc h
    exact wj_Checker_checkLength_33 htr C hne h hP hS (lv_sub hl [1] rfl)
  · have h := xp_f hc h
    refine lv_iload_n hx hb dd_Checker_checkLength_13 rfl (lv_at hl 0 rfl) ?_
    refine lv_iconst (v := 3) hx hb dd_Checker_checkLength_14 (by decide) ?_
    refine lv_icmp_lt (tgt := 37) hx hb dd_Checker_checkLength_15 (by decide) (fun hc => ?_) (fun hc => ?_)
    · have h := xp_t hc h
      exact wj_Checker_checkLength_37 htr C hne h hP hS (lv_sub hl [1] rfl)
    · have h := xp_f hc h
      refine lv_aload_n hx hb dd_Checker_checkLength_18 rfl (lv_at hl 1 rfl) ?_
      refine gf_h_Checker_55_types C hP dd_Checker_checkLength_19 ?_
      refine lv_iload_n hx hb dd_Checker_checkLength_22 rfl (lv_at hl 0 rfl) ?_
      refine lv_iconst (v := 3) hx hb dd_Checker_checkLength_23 (by decide) ?_
      refine lv_isub hx hb dd_Checker_checkLength_24 ?_
      refine lv_bipush (v := 94) hx hb dd_Checker_checkLength_25 (by decide) ?_
      obtain ⟨a7, u8, hq, h⟩ := xp_seq h
      refine xk_goesI (xr_V (As := [.int (a3 - (3 : Int32)), .int (94 : Int32)]) (rest := []) C hP hS (ct_Types_is htr hok hq) kq_Checker_135 6 9 rfl rfl ⟨rfl, rfl, Nat.le_of_ble_eq_true rfl, Nat.le_of_ble_eq_true rfl⟩ ⟨Nat.le_of_ble_eq_true rfl, Nat.le_of_ble_eq_true rfl⟩ hl.1 rfl rfl (Nat.le_of_ble_eq_true rfl) dd_Checker_checkLength_27) hS (fun H locs hP hS => ?_)
      clear hq
      refine lv_if_eq (tgt := 37) hx hb dd_Checker_checkLength_30 (by decide) (fun hc => ?_) (fun hc => ?_)
      · have h := xp_t hc h
        exact wj_Checker_checkLength_37 htr C hne h hP hS (lv_sub hl [1] rfl)
      · have h := xp_f hc h
        exact wj_Checker_checkLength_33 htr C hne h hP hS (lv_sub hl [1] rfl)
abbrev rm_Checker_checkArray : Room := { frames := 9, cells := 1, slots := 6, locals := 166 }
noncomputable def jb_Checker_checkArray_145 (fu : Nat) (b5 : Int32) (s0 : Int32) (u : xk_St) : Option ((Unit ⊕ Nat) × xk_St) :=
  (xs_try (fm_Checker_need s0 u) fun _ u12 => xs_seq (fm_Types_unpacked b5 u12) fun a13 u14 => xs_try (fm_Checker_push a13 u14) fun _ u15 => some (.inl (()), u15))
noncomputable def jb_Checker_checkArray_137 (fu : Nat) (b5 : Int32) (s0 : Int32) (s1 : Int32) (u : xk_St) : Option ((Unit ⊕ Nat) × xk_St) :=
  if s1 = s0 then (jb_Checker_checkArray_145 fu b5 (1 : Int32) u) else (jb_Checker_checkArray_145 fu b5 (0 : Int32) u)
noncomputable def jb_Checker_checkArray_99 (fu : Nat) (b1 : Int32) (b2 : Int32) (b5 : Int32) (u : xk_St) : Option ((Unit ⊕ Nat) × xk_St) :=
  (xs_try (fm_Checker_pop_I (1 : Int32) u) fun _ u6 => xs_seq (fm_Types_reference ((3 : Int32) + b2) (1 : Int32) u6) fun a7 u8 => xs_try (fm_Checker_pop_I a7 u8) fun _ u9 => if (13 : Int32) < b1 then (some (.inl (()), u9)) else ((xs_seq (fm_Types_isPacked b5 u9) fun a10 u11 => if b1 ≤ (11 : Int32) then (jb_Checker_checkArray_137 fu b5 (0 : Int32) a10 u11) else (jb_Checker_checkArray_137 fu b5 (1 : Int32) a10 u11))))
noncomputable def jb_Checker_checkArray_72 (fu : Nat) (b1 : Int32) (b2 : Int32) (b5 : Int32) (u : xk_St) : Option ((Unit ⊕ Nat) × xk_St) :=
  if b1 < (14 : Int32) then (jb_Checker_checkArray_99 fu b1 b2 b5 u) else ((xs_seq (fm_Types_canBeSet b2 (0 : Int32) u) fun a16 u17 => xs_try (fm_Checker_need a16 u17) fun _ u18 => xs_seq (fm_Types_unpacked b5 u18) fun a19 u20 => xs_try (fm_Checker_pop_I a19 u20) fun _ u21 => jb_Checker_checkArray_99 fu b1 b2 b5 u21))
noncomputable def fm_Checker_checkArray (fu : Nat) (x0 : Int32) (x1 : Int32) (x2 : Int64) (u : xk_St) : Option ((Unit ⊕ Nat) × xk_St) :=
  if x0 = (15 : Int32) then ((xs_try (fm_Checker_checkLength u) fun _ u27 => some (.inl (()), u27))) else ((xs_seq (fm_Types_is x1 (94 : Int32) u) fun a1 u2 => xs_try (fm_Checker_need a1 u2) fun _ u3 => xs_seq (fm_Types_member x1 (0 : Int32) u3) fun a4 u5 => if (8 : Int32) < x0 then (if x0 = (16 : Int32) then ((xs_try (fm_Checker_pop_I (1 : Int32) u5) fun _ u22 => jb_Checker_checkArray_72 fu x0 x1 a4 u22)) else (jb_Checker_checkArray_72 fu x0 x1 a4 u5)) else ((xs_try (fm_Checker_checkNewArray fu x0 a4 x2 u5) fun _ u23 => xs_seq (fm_Types_reference ((3 : Int32) + x1) (0 : Int32) u23) fun a24 u25 => xs_try (fm_Checker_push a24 u25) fun _ u26 => some (.inl (()), u26)))))
set_option maxHeartbeats 4000000 in
set_option maxRecDepth 100000 in
theorem wj_Checker_checkArray_145 {p : Program} {l : Launch} {e : Env} {s : State} {m : MethodId} {args : Array Value} {below : List Frame} {meth : Method} {c : Code} {D : va_G} {ad : Nat → Nat} {ca : Nat → ClassId} {ads : List Nat} {fu : Nat} (htr : l.stackTraces = false) (C : xk_C D kx_cl (kx_ty ca) (kw_h ad ca) ads "ModuleHouse$Checker" prog_2_method_49_code 6 none p e s m args meth c) (hne : c.exceptionTable.isEmpty = true) {u' : xk_St} {r : (Unit ⊕ Nat)} {b5 : Int32} {s0 : Int32} {u : xk_St} {H : Heap} {locs : List Loc} {ls : Array Slot} (h : jb_Checker_checkArray_145 fu  b5 s0 u = some (r, u')) (hP : va_P D kx_cl (kw_h ad ca u) H) (hS : va_S (xk_A ads s.heap.size) s.heap H locs) (hl : lv_has ls 6 [(0, .ref (ad 55)), (5, .int b5)]) : W p l e rm_Checker_checkArray s m args below meth c H locs 0 0 (xk_MQ below (xk_Qc D kx_cl (kw_h ad ca) ads (xo_v r) u') args s (xk_A ads s.heap.size)) (F0 m 145 ls [.int s0]) := by
  have hx := C.1.1
  have hb := C.1.2.1
  have hok := C.2.2.1
  unfold jb_Checker_checkArray_145 at h
  rcases xp_try h with ⟨rx, u12, hq, h⟩ | ⟨kx, ux, hq, h⟩
  rotate_left
  · obtain ⟨rfl, rfl⟩ := xp_q h
    exact xk_up (xr_S (As := [.int s0]) (rest := []) C hP hS (ct_Checker_need htr hok hq) kq_Checker_60 ⟨rfl, rfl, Nat.le_of_ble_eq_true rfl, Nat.le_of_ble_eq_true rfl⟩ ⟨Nat.le_of_ble_eq_true rfl, Nat.le_of_ble_eq_true rfl⟩ hl.1 rfl rfl (Nat.le_of_ble_eq_true rfl) dd_Checker_checkArray_145) hS hne C.2.2.2.2.2.2.1
  refine xk_goesV (xr_S (As := [.int s0]) (rest := []) C hP hS (ct_Checker_need htr hok hq) kq_Checker_60 ⟨rfl, rfl, Nat.le_of_ble_eq_true rfl, Nat.le_of_ble_eq_true rfl⟩ ⟨Nat.le_of_ble_eq_true rfl, Nat.le_of_ble_eq_true rfl⟩ hl.1 rfl rfl (Nat.le_of_ble_eq_true rfl) dd_Checker_checkArray_145) hS (fun H locs hP hS => ?_)
  clear hq
  refine lv_aload_n hx hb dd_Checker_checkArray_148 rfl (lv_at hl 0 rfl) ?_
  refine lv_iload hx hb dd_Checker_checkArray_149 (lv_at hl 1 rfl) ?_
  obtain ⟨a13, u14, hq, h⟩ := xp_seq h
  refine xk_goesI (xr_S (As := [.int b5]) (rest := [.ref (ad 55)]) C hP hS (ct_Types_unpacked htr hok hq) kq_Checker_346 ⟨rfl, rfl, Nat.le_of_ble_eq_true rfl, Nat.le_of_ble_eq_true rfl⟩ ⟨Nat.le_of_ble_eq_true rfl, Nat.le_of_ble_eq_true rfl⟩ hl.1 rfl rfl (Nat.le_of_ble_eq_true rfl) dd_Checker_checkArray_151) hS (fun H locs hP hS => ?_)
  clear hq
  rcases xp_try h with ⟨rx, u15, hq, h⟩ | ⟨kx, ux, hq, h⟩
  rotate_left
  · obtain ⟨rfl, rfl⟩ := xp_q h
    exact xk_up (xr_V (As := [.int a13]) (rest := []) C hP hS (ct_Checker_push htr hok hq) kq_Checker_203 55 1 rfl rfl ⟨rfl, rfl, Nat.le_of_ble_eq_true rfl, Nat.le_of_ble_eq_true rfl⟩ ⟨Nat.le_of_ble_eq_true rfl, Nat.le_of_ble_eq_true rfl⟩ hl.1 rfl rfl (Nat.le_of_ble_eq_true rfl) dd_Checker_checkArray_154) hS hne C.2.2.2.2.2.2.1
  refine xk_goesV (xr_V (As := [.int a13]) (rest := []) C hP hS (ct_Checker_push htr hok hq) kq_Checker_203 55 1 rfl rfl ⟨rfl, rfl, Nat.le_of_ble_eq_true rfl, Nat.le_of_ble_eq_true rfl⟩ ⟨Nat.le_of_ble_eq_true rfl, Nat.le_of_ble_eq_true rfl⟩ hl.1 rfl rfl (Nat.le_of_ble_eq_true rfl) dd_Checker_checkArray_154) hS (fun H locs hP hS => ?_)
  clear hq
  obtain ⟨rfl, rfl⟩ := xp_r h
  exact xr_vret C hP hS dd_Checker_checkArray_157
set_option maxHeartbeats 4000000 in
set_option maxRecDepth 100000 in
theorem wj_Checker_checkArray_137 {p : Program} {l : Launch} {e : Env} {s : State} {m : MethodId} {args : Array Value} {below : List Frame} {meth : Method} {c : Code} {D : va_G} {ad : Nat → Nat} {ca : Nat → ClassId} {ads : List Nat} {fu : Nat} (htr : l.stackTraces = false) (C : xk_C D kx_cl (kx_ty ca) (kw_h ad ca) ads "ModuleHouse$Checker" prog_2_method_49_code 6 none p e s m args meth c) (hne : c.exceptionTable.isEmpty = true) {u' : xk_St} {r : (Unit ⊕ Nat)} {b5 : Int32} {s0 : Int32} {s1 : Int32} {u : xk_St} {H : Heap} {locs : List Loc} {ls : Array Slot} (h : jb_Checker_checkArray_137 fu  b5 s0 s1 u = some (r, u')) (hP : va_P D kx_cl (kw_h ad ca u) H) (hS : va_S (xk_A ads s.heap.size) s.heap H locs) (hl : lv_has ls 6 [(0, .ref (ad 55)), (5, .int b5)]) : W p l e rm_Checker_checkArray s m args below meth c H locs 0 0 (xk_MQ below (xk_Qc D kx_cl (kw_h ad ca) ads (xo_v r) u') args s (xk_A ads s.heap.size)) (F0 m 137 ls [.int s0, .int s1]) := by
  have hx := C.1.1
  have hb := C.1.2.1
  have hok := C.2.2.1
  unfold jb_Checker_checkArray_137 at h
  refine lv_icmp_ne (tgt := 144) hx hb dd_Checker_checkArray_137 (by decide) (fun hc => ?_) (fun hc => ?_)
  · have h := xp_f hc h
    refine lv_iconst (v := 0) hx hb dd_Checker_checkArray_144 (by decide) ?_
    exact wj_Checker_checkArray_145 htr C hne h hP hS (lv_sub hl [0, 1] rfl)
  · have h := xp_t hc h
    refine lv_iconst (v := 1) hx hb dd_Checker_checkArray_140 (by decide) ?_
    refine lv_goto (tgt := 145) hx hb dd_Checker_checkArray_141 (by decide) ?_
    exact wj_Checker_checkArray_145 htr C hne h hP hS (lv_sub hl [0, 1] rfl)
set_option maxHeartbeats 4000000 in
set_option maxRecDepth 100000 in
theorem wj_Checker_checkArray_99 {p : Program} {l : Launch} {e : Env} {s : State} {m : MethodId} {args : Array Value} {below : List Frame} {meth : Method} {c : Code} {D : va_G} {ad : Nat → Nat} {ca : Nat → ClassId} {ads : List Nat} {fu : Nat} (htr : l.stackTraces = false) (C : xk_C D kx_cl (kx_ty ca) (kw_h ad ca) ads "ModuleHouse$Checker" prog_2_method_49_code 6 none p e s m args meth c) (hne : c.exceptionTable.isEmpty = true) {u' : xk_St} {r : (Unit ⊕ Nat)} {b1 : Int32} {b2 : Int32} {b5 : Int32} {u : xk_St} {H : Heap} {locs : List Loc} {ls : Array Slot} (h : jb_Checker_checkArray_99 fu  b1 b2 b5 u = some (r, u')) (hP : va_P D kx_cl (kw_h ad ca u) H) (hS : va_S (xk_A ads s.heap.size) s.heap H locs) (hl : lv_has ls 6 [(0, .ref (ad 55)), (1, .int b1), (2, .int b2), (5, .int b5)]) : W p l e rm_Checker_checkArray s m args below meth c H locs 0 0 (xk_MQ below (xk_Qc D kx_cl (kw_h ad ca) ads (xo_v r) u') args s (xk_A ads s.heap.size)) (F0 m 99 ls []) := by
  have hx := C.1.1
  have hb := C.1.2.1
  have hok := C.2.2.1
  unfold jb_Checker_checkArray_99 at h
  refine lv_aload_n hx hb dd_Checker_checkArray_99 rfl (lv_at hl 0 rfl) ?_
  refine lv_iconst (v := 1) hx hb dd_Checker_checkArray_100 (by decide) ?_
  rcases xp_try h with ⟨rx, u6, hq, h⟩ | ⟨kx, ux, hq, h⟩
  rotate_left
  · obtain ⟨rfl, rfl⟩ := xp_q h
    exact xk_up (xr_V (As := [.int (1 : Int32)]) (rest := []) C hP hS (ct_Checker_pop_I htr hok hq) kq_Checker_238 55 1 rfl rfl ⟨rfl, rfl, Nat.le_of_ble_eq_true rfl, Nat.le_of_ble_eq_true rfl⟩ ⟨Nat.le_of_ble_eq_true rfl, Nat.le_of_ble_eq_true rfl⟩ hl.1 rfl rfl (Nat.le_of_ble_eq_true rfl) dd_Checker_checkArray_101) hS hne C.2.2.2.2.2.2.1
  refine xk_goesV (xr_V (As := [.int (1 : Int32)]) (rest := []) C hP hS (ct_Checker_pop_I htr hok hq) kq_Checker_238 55 1 rfl rfl ⟨rfl, rfl, Nat.le_of_ble_eq_true rfl, Nat.le_of_ble_eq_true rfl⟩ ⟨Nat.le_of_ble_eq_true rfl, Nat.le_of_ble_eq_true rfl⟩ hl.1 rfl rfl (Nat.le_of_ble_eq_true rfl) dd_Checker_checkArray_101) hS (fun H locs hP hS => ?_)
  clear hq
  refine lv_aload_n hx hb dd_Checker_checkArray_104 rfl (lv_at hl 0 rfl) ?_
  refine lv_iconst (v := 3) hx hb dd_Checker_checkArray_105 (by decide) ?_
  refine lv_iload_n hx hb dd_Checker_checkArray_106 rfl (lv_at hl 2 rfl) ?_
  refine lv_iadd hx hb dd_Checker_checkArray_107 ?_
  refine lv_iconst (v := 1) hx hb dd_Checker_checkArray_108 (by decide) ?_
  obtain ⟨a7, u8, hq, h⟩ := xp_seq h
  refine xk_goesI (xr_S (As := [.int ((3 : Int32) + b2), .int (1 : Int32)]) (rest := [.ref (ad 55)]) C hP hS (ct_Types_reference htr hok hq) kq_Checker_231 ⟨rfl, rfl, Nat.le_of_ble_eq_true rfl, Nat.le_of_ble_eq_true rfl⟩ ⟨Nat.le_of_ble_eq_true rfl, Nat.le_of_ble_eq_true rfl⟩ hl.1 rfl rfl (Nat.le_of_ble_eq_true rfl) dd_Checker_checkArray_109) hS (fun H locs hP hS => ?_)
  clear hq
  rcases xp_try h with ⟨rx, u9, hq, h⟩ | ⟨kx, ux, hq, h⟩
  rotate_left
  · obtain ⟨rfl, rfl⟩ := xp_q h
    exact xk_up (xr_V (As := [.int a7]) (rest := []) C hP hS (ct_Checker_pop_I htr hok hq) kq_Checker_238 55 1 rfl rfl ⟨rfl, rfl, Nat.le_of_ble_eq_true rfl, Nat.le_of_ble_eq_true rfl⟩ ⟨Nat.le_of_ble_eq_true rfl, Nat.le_of_ble_eq_true rfl⟩ hl.1 rfl rfl (Nat.le_of_ble_eq_true rfl) dd_Checker_checkArray_112) hS hne C.2.2.2.2.2.2.1
  refine xk_goesV (xr_V (As := [.int a7]) (rest := []) C hP hS (ct_Checker_pop_I htr hok hq) kq_Checker_238 55 1 rfl rfl ⟨rfl, rfl, Nat.le_of_ble_eq_true rfl, Nat.le_of_ble_eq_true rfl⟩ ⟨Nat.le_of_ble_eq_true rfl, Nat.le_of_ble_eq_true rfl⟩ hl.1 rfl rfl (Nat.le_of_ble_eq_true rfl) dd_Checker_checkArray_112) hS (fun H locs hP hS => ?_)
  clear hq
  refine lv_iload_n hx hb dd_Checker_checkArray_115 rfl (lv_at hl 1 rfl) ?_
  refine lv_bipush (v := 13) hx hb dd_Checker_checkArray_116 (by decide) ?_
  refine lv_icmp_gt (tgt := 157) hx hb dd_Checker_checkArray_118 (by decide) (fun hc => ?_) (fun hc => ?_)
  · have h := xp_t hc h
    obtain ⟨rfl, rfl⟩ := xp_r h
    exact xr_vret C hP hS dd_Checker_checkArray_157
  · have h := xp_f hc h
    refine lv_iload hx hb dd_Checker_checkArray_121 (lv_at hl 3 rfl) ?_
    obtain ⟨a10, u11, hq, h⟩ := xp_seq h
    refine xk_goesI (xr_S (As := [.int b5]) (rest := []) C hP hS (ct_Types_isPacked htr hok hq) kq_Checker_352 ⟨rfl, rfl, Nat.le_of_ble_eq_true rfl, Nat.le_of_ble_eq_true rfl⟩ ⟨Nat.le_of_ble_eq_true rfl, Nat.le_of_ble_eq_true rfl⟩ hl.1 rfl rfl (Nat.le_of_ble_eq_true rfl) dd_Checker_checkArray_123) hS (fun H locs hP hS => ?_)
    clear hq
    refine lv_iload_n hx hb dd_Checker_checkArray_126 rfl (lv_at hl 1 rfl) ?_
    refine lv_bipush (v := 11) hx hb dd_Checker_checkArray_127 (by decide) ?_
    refine lv_icmp_le (tgt := 136) hx hb dd_Checker_checkArray_129 (by decide) (fun hc => ?_) (fun hc => ?_)
    · have h := xp_t hc h
      refine lv_iconst (v := 0) hx hb dd_Checker_checkArray_136 (by decide) ?_
      exact wj_Checker_checkArray_137 htr C hne h hP hS (lv_sub hl [0, 3] rfl)
    · have h := xp_f hc h
      refine lv_iconst (v := 1) hx hb dd_Checker_checkArray_132 (by decide) ?_
      refine lv_goto (tgt := 137) hx hb dd_Checker_checkArray_133 (by decide) ?_
      exact wj_Checker_checkArray_137 htr C hne h hP hS (lv_sub hl [0, 3] rfl)
set_option maxHeartbeats 4000000 in
set_option maxRecDepth 100000 in
theorem wj_Checker_checkArray_72 {p : Program} {l : Launch} {e : Env} {s : State} {m : MethodId} {args : Array Value} {below : List Frame} {meth : Method} {c : Code} {D : va_G} {ad : Nat → Nat} {ca : Nat → ClassId} {ads : List Nat} {fu : Nat} (htr : l.stackTraces = false) (C : xk_C D kx_cl (kx_ty ca) (kw_h ad ca) ads "ModuleHouse$Checker" prog_2_method_49_code 6 none p e s m args meth c) (hne : c.exceptionTable.isEmpty = true) {u' : xk_St} {r : (Unit ⊕ Nat)} {b1 : Int32} {b2 : Int32} {b5 : Int32} {u : xk_St} {H : Heap} {locs : List Loc} {ls : Array Slot} (h : jb_Checker_checkArray_72 fu  b1 b2 b5 u = some (r, u')) (hP : va_P D kx_cl (kw_h ad ca u) H) (hS : va_S (xk_A ads s.heap.size) s.heap H locs) (hl : lv_has ls 6 [(0, .ref (ad 55)), (1, .int b1), (2, .int b2), (5, .int b5)]) : W p l e rm_Checker_checkArray s m args below meth c H locs 0 0 (xk_MQ below (xk_Qc D kx_cl (kw_h ad ca) ads (xo_v r) u') args s (xk_A ads s.heap.size)) (F0 m 72 ls []) := by
  have hx := C.1.1
  have hb := C.1.2.1
  have hok := C.2.2.1
  unfold jb_Checker_checkArray_72 at h
  refine lv_iload_n hx hb dd_Checker_checkArray_72 rfl (lv_at hl 1 rfl) ?_
  refine lv_bipush (v := 14) hx hb dd_Checker_checkArray_73 (by decide) ?_
  refine lv_icmp_lt (tgt := 99) hx hb dd_Checker_checkArray_75 (by decide) (fun hc => ?_) (fun hc => ?_)
  · have h := xp_t hc h
    exact wj_Checker_checkArray_99 htr C hne h hP hS (lv_sub hl [0, 1, 2, 3] rfl)
  · have h := xp_f hc h
    refine lv_aload_n hx hb dd_Checker_checkArray_78 rfl (lv_at hl 0 rfl) ?_
    refine gf_h_Checker_55_types C hP dd_Checker_checkArray_79 ?_
    refine lv_iload_n hx hb dd_Checker_checkArray_82 rfl (lv_at hl 2 rfl) ?_
    refine lv_iconst (v := 0) hx hb dd_Checker_checkArray_83 (by decide) ?_
    obtain ⟨a16, u17, hq, h⟩ := xp_seq h
    refine xk_goesI (xr_V (As := [.int b2, .int (0 : Int32)]) (rest := []) C hP hS (ct_Types_canBeSet htr hok hq) kq_Checker_349 6 9 rfl rfl ⟨rfl, rfl, Nat.le_of_ble_eq_true rfl, Nat.le_of_ble_eq_true rfl⟩ ⟨Nat.le_of_ble_eq_true rfl, Nat.le_of_ble_eq_true rfl⟩ hl.1 rfl rfl (Nat.le_of_ble_eq_true rfl) dd_Checker_checkArray_84) hS (fun H locs hP hS => ?_)
    clear hq
    rcases xp_try h with ⟨rx, u18, hq, h⟩ | ⟨kx, ux, hq, h⟩
    rotate_left
    · obtain ⟨rfl, rfl⟩ := xp_q h
      exact xk_up (xr_S (As := [.int a16]) (rest := []) C hP hS (ct_Checker_need htr hok hq) kq_Checker_60 ⟨rfl, rfl, Nat.le_of_ble_eq_true rfl, Nat.le_of_ble_eq_true rfl⟩ ⟨Nat.le_of_ble_eq_true rfl, Nat.le_of_ble_eq_true rfl⟩ hl.1 rfl rfl (Nat.le_of_ble_eq_true rfl) dd_Checker_checkArray_87) hS hne C.2.2.2.2.2.2.1
    refine xk_goesV (xr_S (As := [.int a16]) (rest := []) C hP hS (ct_Checker_need htr hok hq) kq_Checker_60 ⟨rfl, rfl, Nat.le_of_ble_eq_true rfl, Nat.le_of_ble_eq_true rfl⟩ ⟨Nat.le_of_ble_eq_true rfl, Nat.le_of_ble_eq_true rfl⟩ hl.1 rfl rfl (Nat.le_of_ble_eq_true rfl) dd_Checker_checkArray_87) hS (fun H locs hP hS => ?_)
    clear hq
    refine lv_aload_n hx hb dd_Checker_checkArray_90 rfl (lv_at hl 0 rfl) ?_
    refine lv_iload hx hb dd_Checker_checkArray_91 (lv_at hl 3 rfl) ?_
    obtain ⟨a19, u20, hq, h⟩ := xp_seq h
    refine xk_goesI (xr_S (As := [.int b5]) (rest := [.ref (ad 55)]) C hP hS (ct_Types_unpacked htr hok hq) kq_Checker_346 ⟨rfl, rfl, Nat.le_of_ble_eq_true rfl, Nat.le_of_ble_eq_true rfl⟩ ⟨Nat.le_of_ble_eq_true rfl, Nat.le_of_ble_eq_true rfl⟩ hl.1 rfl rfl (Nat.le_of_ble_eq_true rfl) dd_Checker_checkArray_93) hS (fun H locs hP hS => ?_)
    clear hq
    rcases xp_try h with ⟨rx, u21, hq, h⟩ | ⟨kx, ux, hq, h⟩
    rotate_left
    · obtain ⟨rfl, rfl⟩ := xp_q h
      exact xk_up (xr_V (As := [.int a19]) (rest := []) C hP hS (ct_Checker_pop_I htr hok hq) kq_Checker_238 55 1 rfl rfl ⟨rfl, rfl, Nat.le_of_ble_eq_true rfl, Nat.le_of_ble_eq_true rfl⟩ ⟨Nat.le_of_ble_eq_true rfl, Nat.le_of_ble_eq_true rfl⟩ hl.1 rfl rfl (Nat.le_of_ble_eq_true rfl) dd_Checker_checkArray_96) hS hne C.2.2.2.2.2.2.1
    refine xk_goesV (xr_V (As := [.int a19]) (rest := []) C hP hS (ct_Checker_pop_I htr hok hq) kq_Checker_238 55 1 rfl rfl ⟨rfl, rfl, Nat.le_of_ble_eq_true rfl, Nat.le_of_ble_eq_true rfl⟩ ⟨Nat.le_of_ble_eq_true rfl, Nat.le_of_ble_eq_true rfl⟩ hl.1 rfl rfl (Nat.le_of_ble_eq_true rfl) dd_Checker_checkArray_96) hS (fun H locs hP hS => ?_)
    clear hq
    exact wj_Checker_checkArray_99 htr C hne h hP hS (lv_sub hl [0, 1, 2, 3] rfl)
set_option maxHeartbeats 4000000 in
set_option maxRecDepth 100000 in
theorem ct_Checker_checkArray {l : Launch} {D : va_G} {ad : Nat → Nat} {ca : Nat → ClassId} {ads : List Nat} (htr : l.stackTraces = false) (hok : xk_ok (kw_h ad ca) ads) {fu : Nat} {x0 : Int32} {x1 : Int32} {x2 : Int64} {u u' : xk_St} {r : (Unit ⊕ Nat)} (h : fm_Checker_checkArray fu x0 x1 x2 u = some (r, u')) :
    ∀ sz, xk_Met l ⟨"ModuleHouse$Checker", "checkArray", "(IIJ)V"⟩ (Cond.code ⟨"ModuleHouse$Checker", "checkArray", "(IIJ)V"⟩ prog_2_method_49_code 6 none :: xk_gd) rm_Checker_checkArray (xk_Pc D kx_cl (kx_ty ca) (kw_h ad ca) ads xk_F sz [.ref (ad 55), .int x0, .int x1, .long x2] u) (xk_Qc D kx_cl (kw_h ad ca) ads (xo_v r) u') (xk_A ads sz) := by
  unfold fm_Checker_checkArray at h
  refine xk_con (by decide) htr hok (Nat.le_of_ble_eq_true rfl) (fun p e s m below meth c ls C hne hl hP => ?_)
  have hx := C.1.1
  have hb := C.1.2.1
  have hS : va_S (xk_A ads s.heap.size) s.heap s.heap [] := va_S.rf
  have hl : lv_has ls 6 [(0, .ref (ad 55)), (1, .int x0), (2, .int x1), (3, .long x2)] := hl
  refine lv_iload_n hx hb dd_Checker_checkArray_0 rfl (lv_at hl 1 rfl) ?_
  refine lv_bipush (v := 15) hx hb dd_Checker_checkArray_1 (by decide) ?_
  refine lv_icmp_ne (tgt := 11) hx hb dd_Checker_checkArray_3 (by decide) (fun hc => ?_) (fun hc => ?_)
  · have h := xp_f hc h
    refine lv_aload_n hx hb dd_Checker_checkArray_11 rfl (lv_at hl 0 rfl) ?_
    refine gf_h_Checker_55_types C hP dd_Checker_checkArray_12 ?_
    refine lv_iload_n hx hb dd_Checker_checkArray_15 rfl (lv_at hl 2 rfl) ?_
    refine lv_bipush (v := 94) hx hb dd_Checker_checkArray_16 (by decide) ?_
    obtain ⟨a1, u2, hq, h⟩ := xp_seq h
    refine xk_goesI (xr_V (As := [.int x1, .int (94 : Int32)]) (rest := []) C hP hS (ct_Types_is htr hok hq) kq_Checker_135 6 9 rfl rfl ⟨rfl, rfl, Nat.le_of_ble_eq_true rfl, Nat.le_of_ble_eq_true rfl⟩ ⟨Nat.le_of_ble_eq_true rfl, Nat.le_of_ble_eq_true rfl⟩ hl.1 rfl rfl (Nat.le_of_ble_eq_true rfl) dd_Checker_checkArray_18) hS (fun H locs hP hS => ?_)
    clear hq
    rcases xp_try h with ⟨rx, u3, hq, h⟩ | ⟨kx, ux, hq, h⟩
    rotate_left
    · obtain ⟨rfl, rfl⟩ := xp_q h
      exact xk_up (xr_S (As := [.int a1]) (rest := []) C hP hS (ct_Checker_need htr hok hq) kq_Checker_60 ⟨rfl, rfl, Nat.le_of_ble_eq_true rfl, Nat.le_of_ble_eq_true rfl⟩ ⟨Nat.le_of_ble_eq_true rfl, Nat.le_of_ble_eq_true rfl⟩ hl.1 rfl rfl (Nat.le_of_ble_eq_true rfl) dd_Checker_checkArray_21) hS hne C.2.2.2.2.2.2.1
    refine xk_goesV (xr_S (As := [.int a1]) (rest := []) C hP hS (ct_Checker_need htr hok hq) kq_Checker_60 ⟨rfl, rfl, Nat.le_of_ble_eq_true rfl, Nat.le_of_ble_eq_true rfl⟩ ⟨Nat.le_of_ble_eq_true rfl, Nat.le_of_ble_eq_true rfl⟩ hl.1 rfl rfl (Nat.le_of_ble_eq_true rfl) dd_Checker_checkArray_21) hS (fun H locs hP hS => ?_)
    clear hq
    refine lv_aload_n hx hb dd_Checker_checkArray_24 rfl (lv_at hl 0 rfl) ?_
    refine gf_h_Checker_55_types C hP dd_Checker_checkArray_25 ?_
    refine lv_iload_n hx hb dd_Checker_checkArray_28 rfl (lv_at hl 2 rfl) ?_
    refine lv_iconst (v := 0) hx hb dd_Checker_checkArray_29 (by decide) ?_
    obtain ⟨a4, u5, hq, h⟩ := xp_seq h
    refine xk_goesI (xr_V (As := [.int x1, .int (0 : Int32)]) (rest := []) C hP hS (ct_Types_member htr hok hq) kq_Checker_107 6 9 rfl rfl ⟨rfl, rfl, Nat.le_of_ble_eq_true rfl, Nat.le_of_ble_eq_true rfl⟩ ⟨Nat.le_of_ble_eq_true rfl, Nat.le_of_ble_eq_true rfl⟩ hl.1 rfl rfl (Nat.le_of_ble_eq_true rfl) dd_Checker_checkArray_30) hS (fun H locs hP hS => ?_)
    clear hq
    refine lv_istore (lv' := [(5, .int a4), (0, .ref (ad 55)), (1, .int x0), (2, .int x1), (3, .long x2)]) hx hb dd_Checker_checkArray_33 hl (by decide) rfl (fun ls hl => ?_)
    refine lv_iload_n hx hb dd_Checker_checkArray_35 rfl (lv_at hl 2 rfl) ?_
    refine lv_bipush (v := 8) hx hb dd_Checker_checkArray_36 (by decide) ?_
    refine lv_icmp_gt (tgt := 61) hx hb dd_Checker_checkArray_38 (by decide) (fun hc => ?_) (fun hc => ?_)
    · have h := xp_t hc h
      refine lv_iload_n hx hb dd_Checker_checkArray_61 rfl (lv_at hl 2 rfl) ?_
      refine lv_bipush (v := 16) hx hb dd_Checker_checkArray_62 (by decide) ?_
      refine lv_icmp_ne (tgt := 72) hx hb dd_Checker_checkArray_64 (by decide) (fun hc => ?_) (fun hc => ?_)
      · have h := xp_f hc h
        exact wj_Checker_checkArray_72 htr C hne h hP hS (lv_sub hl [1, 2, 3, 0] rfl)
      · have h := xp_t hc h
        refine lv_aload_n hx hb dd_Checker_checkArray_67 rfl (lv_at hl 1 rfl) ?_
        refine lv_iconst (v := 1) hx hb dd_Checker_checkArray_68 (by decide) ?_
        rcases xp_try h with ⟨rx, u22, hq, h⟩ | ⟨kx, ux, hq, h⟩
        rotate_left
        · obtain ⟨rfl, rfl⟩ := xp_q h
          exact xk_up (xr_V (As := [.int (1 : Int32)]) (rest := []) C hP hS (ct_Checker_pop_I htr hok hq) kq_Checker_238 55 1 rfl rfl ⟨rfl, rfl, Nat.le_of_ble_eq_true rfl, Nat.le_of_ble_eq_true rfl⟩ ⟨Nat.le_of_ble_eq_true rfl, Nat.le_of_ble_eq_true rfl⟩ hl.1 rfl rfl (Nat.le_of_ble_eq_true rfl) dd_Checker_checkArray_69) hS hne C.2.2.2.2.2.2.1
        refine xk_goesV (xr_V (As := [.int (1 : Int32)]) (rest := []) C hP hS (ct_Checker_pop_I htr hok hq) kq_Checker_238 55 1 rfl rfl ⟨rfl, rfl, Nat.le_of_ble_eq_true rfl, Nat.le_of_ble_eq_true rfl⟩ ⟨Nat.le_of_ble_eq_true rfl, Nat.le_of_ble_eq_true rfl⟩ hl.1 rfl rfl (Nat.le_of_ble_eq_true rfl) dd_Checker_checkArray_69) hS (fun H locs hP hS => ?_)
        clear hq
        exact wj_Checker_checkArray_72 htr C hne h hP hS (lv_sub hl [1, 2, 3, 0] rfl)
    · have h := xp_f hc h
      refine lv_aload_n hx hb dd_Checker_checkArray_41 rfl (lv_at hl 1 rfl) ?_
      refine lv_iload_n hx hb dd_Checker_checkArray_42 rfl (lv_at hl 2 rfl) ?_
      refine lv_iload hx hb dd_Checker_checkArray_43 (lv_at hl 0 rfl) ?_
      refine lv_lload_n hx hb dd_Checker_checkArray_45 rfl (lv_at hl 4 rfl) ?_
      rcases xp_try h with ⟨rx, u23, hq, h⟩ | ⟨kx, ux, hq, h⟩
      rotate_left
      · obtain ⟨rfl, rfl⟩ := xp_q h
        exact xk_up (xr_V (As := [.int x0, .int a4, .long x2]) (rest := []) C hP hS (ct_Checker_checkNewArray htr hok hq) kq_Checker_358 55 1 rfl rfl ⟨rfl, rfl, Nat.le_of_ble_eq_true rfl, Nat.le_of_ble_eq_true rfl⟩ ⟨Nat.le_of_ble_eq_true rfl, Nat.le_of_ble_eq_true rfl⟩ hl.1 rfl rfl (Nat.le_of_ble_eq_true rfl) dd_Checker_checkArray_46) hS hne C.2.2.2.2.2.2.1
      refine xk_goesV (xr_V (As := [.int x0, .int a4, .long x2]) (rest := []) C hP hS (ct_Checker_checkNewArray htr hok hq) kq_Checker_358 55 1 rfl rfl ⟨rfl, rfl, Nat.le_of_ble_eq_true rfl, Nat.le_of_ble_eq_true rfl⟩ ⟨Nat.le_of_ble_eq_true rfl, Nat.le_of_ble_eq_true rfl⟩ hl.1 rfl rfl (Nat.le_of_ble_eq_true rfl) dd_Checker_checkArray_46) hS (fun H locs hP hS => ?_)
      clear hq
      refine lv_aload_n hx hb dd_Checker_checkArray_49 rfl (lv_at hl 1 rfl) ?_
      refine lv_iconst (v := 3) hx hb dd_Checker_checkArray_50 (by decide) ?_
      refine lv_iload_n hx hb dd_Checker_checkArray_51 rfl (lv_at hl 3 rfl) ?_
      refine lv_iadd hx hb dd_Checker_checkArray_52 ?_
      refine lv_iconst (v := 0) hx hb dd_Checker_checkArray_53 (by decide) ?_
      obtain ⟨a24, u25, hq, h⟩ := xp_seq h
      refine xk_goesI (xr_S (As := [.int ((3 : Int32) + x1), .int (0 : Int32)]) (rest := [.ref (ad 55)]) C hP hS (ct_Types_reference htr hok hq) kq_Checker_231 ⟨rfl, rfl, Nat.le_of_ble_eq_true rfl, Nat.le_of_ble_eq_true rfl⟩ ⟨Nat.le_of_ble_eq_true rfl, Nat.le_of_ble_eq_true rfl⟩ hl.1 rfl rfl (Nat.le_of_ble_eq_true rfl) dd_Checker_checkArray_54) hS (fun H locs hP hS => ?_)
      clear hq
      rcases xp_try h with ⟨rx, u26, hq, h⟩ | ⟨kx, ux, hq, h⟩
      rotate_left
      · obtain ⟨rfl, rfl⟩ := xp_q h
        exact xk_up (xr_V (As := [.int a24]) (rest := []) C hP hS (ct_Checker_push htr hok hq) kq_Checker_203 55 1 rfl rfl ⟨rfl, rfl, Nat.le_of_ble_eq_true rfl, Nat.le_of_ble_eq_true rfl⟩ ⟨Nat.le_of_ble_eq_true rfl, Nat.le_of_ble_eq_true rfl⟩ hl.1 rfl rfl (Nat.le_of_ble_eq_true rfl) dd_Checker_checkArray_57) hS hne C.2.2.2.2.2.2.1
      refine xk_goesV (xr_V (As := [.int a24]) (rest := []) C hP hS (ct_Checker_push htr hok hq) kq_Checker_203 55 1 rfl rfl ⟨rfl, rfl, Nat.le_of_ble_eq_true rfl, Nat.le_of_ble_eq_true rfl⟩ ⟨Nat.le_of_ble_eq_true rfl, Nat.le_of_ble_eq_true rfl⟩ hl.1 rfl rfl (Nat.le_of_ble_eq_true rfl) dd_Checker_checkArray_57) hS (fun H locs hP hS => ?_)
      clear hq
      obtain ⟨rfl, rfl⟩ := xp_r h
      exact xr_vret C hP hS dd_Checker_checkArray_60
  · have h := xp_t hc h
    refine lv_aload_n hx hb dd_Checker_checkArray_6 rfl (lv_at hl 0 rfl) ?_
    rcases xp_try h with ⟨rx, u27, hq, h⟩ | ⟨kx, ux, hq, h⟩
    rotate_left
    · obtain ⟨rfl, rfl⟩ := xp_q h
      exact xk_up (xr_V (As := []) (rest := []) C hP hS (ct_Checker_checkLength htr hok hq) kq_Checker_355 55 1 rfl rfl ⟨rfl, rfl, Nat.le_of_ble_eq_true rfl, Nat.le_of_ble_eq_true rfl⟩ ⟨Nat.le_of_ble_eq_true rfl, Nat.le_of_ble_eq_true rfl⟩ hl.1 rfl rfl (Nat.le_of_ble_eq_true rfl) dd_Checker_checkArray_7) hS hne C.2.2.2.2.2.2.1
    refine xk_goesV (xr_V (As := []) (rest := []) C hP hS (ct_Checker_checkLength htr hok hq) kq_Checker_355 55 1 rfl rfl ⟨rfl, rfl, Nat.le_of_ble_eq_true rfl, Nat.le_of_ble_eq_true rfl⟩ ⟨Nat.le_of_ble_eq_true rfl, Nat.le_of_ble_eq_true rfl⟩ hl.1 rfl rfl (Nat.le_of_ble_eq_true rfl) dd_Checker_checkArray_7) hS (fun H locs hP hS => ?_)
    clear hq
    obtain ⟨rfl, rfl⟩ := xp_r h
    exact xr_vret C hP hS dd_Checker_checkArray_10
