abbrev rm_Checker_checkControl : Room := { frames := 10, cells := 1, slots := 6, locals := 188 }
noncomputable def jb_Checker_checkControl_113 (fu : Nat) (b2 : Int32) (u : xk_St) : Option ((Unit ⊕ Nat) × xk_St) :=
  (xs_try (fm_Checker_open fu b2 u) fun _ u2 => some (.inl (()), u2))
noncomputable def jb_Checker_checkControl_141 (fu : Nat) (u : xk_St) : Option ((Unit ⊕ Nat) × xk_St) :=
  (xs_try (fm_Checker_close fu u) fun _ u6 => some (.inl (()), u6))
noncomputable def fm_Checker_checkControl (fu : Nat) (x0 : Int32) (x1 : Int32) (u : xk_St) : Option ((Unit ⊕ Nat) × xk_St) :=
  if x0 = (0 : Int32) then ((xs_seq (fm_Checker_lose u) fun _ u1 => some (.inl (()), u1))) else if x0 = (1 : Int32) then (some (.inl (()), u)) else if x0 = (2 : Int32) then (jb_Checker_checkControl_113 fu x1 u) else if x0 = (3 : Int32) then (jb_Checker_checkControl_113 fu x1 u) else if x0 = (4 : Int32) then ((xs_try (fm_Checker_pop_I (1 : Int32) u) fun _ u3 => xs_try (fm_Checker_open fu x1 u3) fun _ u4 => some (.inl (()), u4))) else if x0 = (5 : Int32) then ((xs_try (fm_Checker_turn fu u) fun _ u5 => some (.inl (()), u5))) else if x0 = (6 : Int32) then (some (.inl (()), u)) else if x0 = (7 : Int32) then (jb_Checker_checkControl_141 fu u) else if x0 = (8 : Int32) then ((if x1 < 0 ∨ 8192 ≤ x1.toNatClampNeg then none else if x1 < 0 ∨ 8192 ≤ x1.toNatClampNeg then none else xs_try (fm_Checker_declare fu (u.2.2.1 8 x1.toNatClampNeg) ((u.2.2.2 2 x1.toNatClampNeg).toInt32) u) fun _ u7 => some (.inl (()), u7))) else if x0 = (9 : Int32) then (some (.inl (()), u)) else if x0 = (10 : Int32) then (some (.inl (()), u)) else if x0 = (11 : Int32) then (jb_Checker_checkControl_141 fu u) else if x0 = (12 : Int32) then ((xs_try (fm_Checker_branch x1 u) fun a8 u9 => xs_seq (fm_Checker_wayCount a8 u9) fun a10 u11 => xs_try (fm_Checker_popWay fu a8 a10 u11) fun _ u12 => xs_seq (fm_Checker_lose u12) fun _ u13 => some (.inl (()), u13))) else if x0 = (13 : Int32) then ((xs_try (fm_Checker_pop_I (1 : Int32) u) fun _ u14 => xs_try (fm_Checker_branch x1 u14) fun a15 u16 => xs_seq (fm_Checker_wayCount a15 u16) fun a17 u18 => xs_try (fm_Checker_popWay fu a15 a17 u18) fun _ u19 => xs_seq (fm_Checker_wayCount a15 u19) fun a20 u21 => xs_try (fm_Checker_pushWay fu a15 a20 u21) fun _ u22 => some (.inl (()), u22))) else if x0 = (14 : Int32) then ((if x1 < 0 ∨ 8192 ≤ x1.toNatClampNeg then none else if x1 < 0 ∨ 8192 ≤ x1.toNatClampNeg then none else xs_try (fm_Checker_checkWays fu (u.2.2.1 8 x1.toNatClampNeg) ((u.2.2.2 2 x1.toNatClampNeg).toInt32) u) fun _ u23 => some (.inl (()), u23))) else if x0 = (15 : Int32) then ((if (0 : Int32) < 0 ∨ 100 ≤ (0 : Int32).toNatClampNeg then none else if (0 : Int32) < 0 ∨ 100 ≤ (0 : Int32).toNatClampNeg then none else xs_seq (fm_Checker_wayCount (u.2.2.1 34 (0 : Int32).toNatClampNeg) u) fun a24 u25 => xs_try (fm_Checker_popWay fu (u.2.2.1 34 (0 : Int32).toNatClampNeg) a24 u25) fun _ u26 => xs_seq (fm_Checker_lose u26) fun _ u27 => some (.inl (()), u27))) else (some (.inl (()), u))
set_option maxHeartbeats 4000000 in
set_option maxRecDepth 100000 in
theorem wj_Checker_checkControl_113 {p : Program} {l : Launch} {e : Env} {s : State} {m : MethodId} {args : Array Value} {below : List Frame} {meth : Method} {c : Code} {D : va_G} {ad : Nat → Nat} {ca : Nat → ClassId} {ads : List Nat} {fu : Nat} (htr : l.stackTraces = false) (C : xk_C D kx_cl (kx_ty ca) (kw_h ad ca) ads "ModuleHouse$Checker" prog_2_method_28_code 4 none p e s m args meth c) (hne : c.exceptionTable.isEmpty = true) {u' : xk_St} {r : (Unit ⊕ Nat)} {b2 : Int32} {u : xk_St} {H : Heap} {locs : List Loc} {ls : Array Slot} (h : jb_Checker_checkControl_113 fu  b2 u = some (r, u')) (hP : va_P D kx_cl (kw_h ad ca u) H) (hS : va_S (xk_A ads s.heap.size) s.heap H locs) (hl : lv_has ls 4 [(0, .ref (ad 55)), (2, .int b2)]) : W p l e rm_Checker_checkControl s m args below meth c H locs 0 0 (xk_MQ below (xk_Qc D kx_cl (kw_h ad ca) ads (xo_v r) u') args s (xk_A ads s.heap.size)) (F0 m 113 ls []) := by
  have hx := C.1.1
  have hb := C.1.2.1
  have hok := C.2.2.1
  unfold jb_Checker_checkControl_113 at h
  refine lv_aload_n hx hb dd_Checker_checkControl_113 rfl (lv_at hl 0 rfl) ?_
  refine lv_iload_n hx hb dd_Checker_checkControl_114 rfl (lv_at hl 1 rfl) ?_
  rcases xp_try h with ⟨rx, u2, hq, h⟩ | ⟨kx, ux, hq, h⟩
  rotate_left
  · obtain ⟨rfl, rfl⟩ := xp_q h
    exact xk_up (xr_V (As := [.int b2]) (rest := []) C hP hS (ct_Checker_open htr hok hq) kq_Checker_246 55 1 rfl rfl ⟨rfl, rfl, Nat.le_of_ble_eq_true rfl, Nat.le_of_ble_eq_true rfl⟩ ⟨Nat.le_of_ble_eq_true rfl, Nat.le_of_ble_eq_true rfl⟩ hl.1 rfl rfl (Nat.le_of_ble_eq_true rfl) dd_Checker_checkControl_115) hS hne C.2.2.2.2.2.2.1
  refine xk_goesV (xr_V (As := [.int b2]) (rest := []) C hP hS (ct_Checker_open htr hok hq) kq_Checker_246 55 1 rfl rfl ⟨rfl, rfl, Nat.le_of_ble_eq_true rfl, Nat.le_of_ble_eq_true rfl⟩ ⟨Nat.le_of_ble_eq_true rfl, Nat.le_of_ble_eq_true rfl⟩ hl.1 rfl rfl (Nat.le_of_ble_eq_true rfl) dd_Checker_checkControl_115) hS (fun H locs hP hS => ?_)
  clear hq
  refine lv_goto (tgt := 258) hx hb dd_Checker_checkControl_118 (by decide) ?_
  obtain ⟨rfl, rfl⟩ := xp_r h
  exact xr_vret C hP hS dd_Checker_checkControl_258
set_option maxHeartbeats 4000000 in
set_option maxRecDepth 100000 in
theorem wj_Checker_checkControl_141 {p : Program} {l : Launch} {e : Env} {s : State} {m : MethodId} {args : Array Value} {below : List Frame} {meth : Method} {c : Code} {D : va_G} {ad : Nat → Nat} {ca : Nat → ClassId} {ads : List Nat} {fu : Nat} (htr : l.stackTraces = false) (C : xk_C D kx_cl (kx_ty ca) (kw_h ad ca) ads "ModuleHouse$Checker" prog_2_method_28_code 4 none p e s m args meth c) (hne : c.exceptionTable.isEmpty = true) {u' : xk_St} {r : (Unit ⊕ Nat)} {u : xk_St} {H : Heap} {locs : List Loc} {ls : Array Slot} (h : jb_Checker_checkControl_141 fu   u = some (r, u')) (hP : va_P D kx_cl (kw_h ad ca u) H) (hS : va_S (xk_A ads s.heap.size) s.heap H locs) (hl : lv_has ls 4 [(0, .ref (ad 55))]) : W p l e rm_Checker_checkControl s m args below meth c H locs 0 0 (xk_MQ below (xk_Qc D kx_cl (kw_h ad ca) ads (xo_v r) u') args s (xk_A ads s.heap.size)) (F0 m 141 ls []) := by
  have hx := C.1.1
  have hb := C.1.2.1
  have hok := C.2.2.1
  unfold jb_Checker_checkControl_141 at h
  refine lv_aload_n hx hb dd_Checker_checkControl_141 rfl (lv_at hl 0 rfl) ?_
  rcases xp_try h with ⟨rx, u6, hq, h⟩ | ⟨kx, ux, hq, h⟩
  rotate_left
  · obtain ⟨rfl, rfl⟩ := xp_q h
    exact xk_up (xr_V (As := []) (rest := []) C hP hS (ct_Checker_close htr hok hq) kq_Checker_252 55 1 rfl rfl ⟨rfl, rfl, Nat.le_of_ble_eq_true rfl, Nat.le_of_ble_eq_true rfl⟩ ⟨Nat.le_of_ble_eq_true rfl, Nat.le_of_ble_eq_true rfl⟩ hl.1 rfl rfl (Nat.le_of_ble_eq_true rfl) dd_Checker_checkControl_142) hS hne C.2.2.2.2.2.2.1
  refine xk_goesV (xr_V (As := []) (rest := []) C hP hS (ct_Checker_close htr hok hq) kq_Checker_252 55 1 rfl rfl ⟨rfl, rfl, Nat.le_of_ble_eq_true rfl, Nat.le_of_ble_eq_true rfl⟩ ⟨Nat.le_of_ble_eq_true rfl, Nat.le_of_ble_eq_true rfl⟩ hl.1 rfl rfl (Nat.le_of_ble_eq_true rfl) dd_Checker_checkControl_142) hS (fun H locs hP hS => ?_)
  clear hq
  refine lv_goto (tgt := 258) hx hb dd_Checker_checkControl_145 (by decide) ?_
  obtain ⟨rfl, rfl⟩ := xp_r h
  exact xr_vret C hP hS dd_Checker_checkControl_258
set_option maxHeartbeats 4000000 in
set_option maxRecDepth 100000 in
theorem ct_Checker_checkControl {l : Launch} {D : va_G} {ad : Nat → Nat} {ca : Nat → ClassId} {ads : List Nat} (htr : l.stackTraces = false) (hok : xk_ok (kw_h ad ca) ads) {fu : Nat} {x0 : Int32} {x1 : Int32} {u u' : xk_St} {r : (Unit ⊕ Nat)} (h : fm_Checker_checkControl fu x0 x1 u = some (r, u')) :
    ∀ sz, xk_Met l ⟨"ModuleHouse$Checker", "checkControl", "(II)V"⟩ (Cond.code ⟨"ModuleHouse$Checker", "checkControl", "(II)V"⟩ prog_2_method_28_code 4 none :: xk_gd) rm_Checker_checkControl (xk_Pc D kx_cl (kx_ty ca) (kw_h ad ca) ads xk_F sz [.ref (ad 55), .int x0, .int x1] u) (xk_Qc D kx_cl (kw_h ad ca) ads (xo_v r) u') (xk_A ads sz) := by
  unfold fm_Checker_checkControl at h
  refine xk_con (by decide) htr hok (Nat.le_of_ble_eq_true rfl) (fun p e s m below meth c ls C hne hl hP => ?_)
  have hx := C.1.1
  have hb := C.1.2.1
  have hS : va_S (xk_A ads s.heap.size) s.heap s.heap [] := va_S.rf
  have hl : lv_has ls 4 [(0, .ref (ad 55)), (1, .int x0), (2, .int x1)] := hl
  refine lv_iload_n hx hb dd_Checker_checkControl_0 rfl (lv_at hl 1 rfl) ?_
  by_cases hc0 : x0 = (0 : Int32)
  · have h := xp_t hc0 h
    refine lv_tableIn (off := 79) (tgt := 80) hx hb dd_Checker_checkControl_1 (by rw [hc0]; decide) (by rw [hc0]; decide) (by rw [hc0]; rfl) (by decide) ?_
    refine lv_aload_n hx hb dd_Checker_checkControl_80 rfl (lv_at hl 0 rfl) ?_
    obtain ⟨rx, u1, hq, h⟩ := xp_seq h
    refine xk_goesV (xr_V (As := []) (rest := []) C hP hS (ct_Checker_lose htr hok hq) kq_Checker_240 55 1 rfl rfl ⟨rfl, rfl, Nat.le_of_ble_eq_true rfl, Nat.le_of_ble_eq_true rfl⟩ ⟨Nat.le_of_ble_eq_true rfl, Nat.le_of_ble_eq_true rfl⟩ hl.1 rfl rfl (Nat.le_of_ble_eq_true rfl) dd_Checker_checkControl_81) hS (fun H locs hP hS => ?_)
    clear hq
    refine lv_goto (tgt := 258) hx hb dd_Checker_checkControl_84 (by decide) ?_
    obtain ⟨rfl, rfl⟩ := xp_r h
    exact xr_vret C hP hS dd_Checker_checkControl_258
  have h := xp_f hc0 h
  by_cases hc1 : x0 = (1 : Int32)
  · have h := xp_t hc1 h
    refine lv_tableIn (off := 257) (tgt := 258) hx hb dd_Checker_checkControl_1 (by rw [hc1]; decide) (by rw [hc1]; decide) (by rw [hc1]; rfl) (by decide) ?_
    obtain ⟨rfl, rfl⟩ := xp_r h
    exact xr_vret C hP hS dd_Checker_checkControl_258
  have h := xp_f hc1 h
  by_cases hc2 : x0 = (2 : Int32)
  · have h := xp_t hc2 h
    refine lv_tableIn (off := 112) (tgt := 113) hx hb dd_Checker_checkControl_1 (by rw [hc2]; decide) (by rw [hc2]; decide) (by rw [hc2]; rfl) (by decide) ?_
    exact wj_Checker_checkControl_113 htr C hne h hP hS (lv_sub hl [0, 2] rfl)
  have h := xp_f hc2 h
  by_cases hc3 : x0 = (3 : Int32)
  · have h := xp_t hc3 h
    refine lv_tableIn (off := 112) (tgt := 113) hx hb dd_Checker_checkControl_1 (by rw [hc3]; decide) (by rw [hc3]; decide) (by rw [hc3]; rfl) (by decide) ?_
    exact wj_Checker_checkControl_113 htr C hne h hP hS (lv_sub hl [0, 2] rfl)
  have h := xp_f hc3 h
  by_cases hc4 : x0 = (4 : Int32)
  · have h := xp_t hc4 h
    refine lv_tableIn (off := 120) (tgt := 121) hx hb dd_Checker_checkControl_1 (by rw [hc4]; decide) (by rw [hc4]; decide) (by rw [hc4]; rfl) (by decide) ?_
    refine lv_aload_n hx hb dd_Checker_checkControl_121 rfl (lv_at hl 0 rfl) ?_
    refine lv_iconst (v := 1) hx hb dd_Checker_checkControl_122 (by decide) ?_
    rcases xp_try h with ⟨rx, u3, hq, h⟩ | ⟨kx, ux, hq, h⟩
    rotate_left
    · obtain ⟨rfl, rfl⟩ := xp_q h
      exact xk_up (xr_V (As := [.int (1 : Int32)]) (rest := []) C hP hS (ct_Checker_pop_I htr hok hq) kq_Checker_238 55 1 rfl rfl ⟨rfl, rfl, Nat.le_of_ble_eq_true rfl, Nat.le_of_ble_eq_true rfl⟩ ⟨Nat.le_of_ble_eq_true rfl, Nat.le_of_ble_eq_true rfl⟩ hl.1 rfl rfl (Nat.le_of_ble_eq_true rfl) dd_Checker_checkControl_123) hS hne C.2.2.2.2.2.2.1
    refine xk_goesV (xr_V (As := [.int (1 : Int32)]) (rest := []) C hP hS (ct_Checker_pop_I htr hok hq) kq_Checker_238 55 1 rfl rfl ⟨rfl, rfl, Nat.le_of_ble_eq_true rfl, Nat.le_of_ble_eq_true rfl⟩ ⟨Nat.le_of_ble_eq_true rfl, Nat.le_of_ble_eq_true rfl⟩ hl.1 rfl rfl (Nat.le_of_ble_eq_true rfl) dd_Checker_checkControl_123) hS (fun H locs hP hS => ?_)
    clear hq
    refine lv_aload_n hx hb dd_Checker_checkControl_126 rfl (lv_at hl 0 rfl) ?_
    refine lv_iload_n hx hb dd_Checker_checkControl_127 rfl (lv_at hl 2 rfl) ?_
    rcases xp_try h with ⟨rx, u4, hq, h⟩ | ⟨kx, ux, hq, h⟩
    rotate_left
    · obtain ⟨rfl, rfl⟩ := xp_q h
      exact xk_up (xr_V (As := [.int x1]) (rest := []) C hP hS (ct_Checker_open htr hok hq) kq_Checker_246 55 1 rfl rfl ⟨rfl, rfl, Nat.le_of_ble_eq_true rfl, Nat.le_of_ble_eq_true rfl⟩ ⟨Nat.le_of_ble_eq_true rfl, Nat.le_of_ble_eq_true rfl⟩ hl.1 rfl rfl (Nat.le_of_ble_eq_true rfl) dd_Checker_checkControl_128) hS hne C.2.2.2.2.2.2.1
    refine xk_goesV (xr_V (As := [.int x1]) (rest := []) C hP hS (ct_Checker_open htr hok hq) kq_Checker_246 55 1 rfl rfl ⟨rfl, rfl, Nat.le_of_ble_eq_true rfl, Nat.le_of_ble_eq_true rfl⟩ ⟨Nat.le_of_ble_eq_true rfl, Nat.le_of_ble_eq_true rfl⟩ hl.1 rfl rfl (Nat.le_of_ble_eq_true rfl) dd_Checker_checkControl_128) hS (fun H locs hP hS => ?_)
    clear hq
    refine lv_goto (tgt := 258) hx hb dd_Checker_checkControl_131 (by decide) ?_
    obtain ⟨rfl, rfl⟩ := xp_r h
    exact xr_vret C hP hS dd_Checker_checkControl_258
  have h := xp_f hc4 h
  by_cases hc5 : x0 = (5 : Int32)
  · have h := xp_t hc5 h
    refine lv_tableIn (off := 133) (tgt := 134) hx hb dd_Checker_checkControl_1 (by rw [hc5]; decide) (by rw [hc5]; decide) (by rw [hc5]; rfl) (by decide) ?_
    refine lv_aload_n hx hb dd_Checker_checkControl_134 rfl (lv_at hl 0 rfl) ?_
    rcases xp_try h with ⟨rx, u5, hq, h⟩ | ⟨kx, ux, hq, h⟩
    rotate_left
    · obtain ⟨rfl, rfl⟩ := xp_q h
      exact xk_up (xr_V (As := []) (rest := []) C hP hS (ct_Checker_turn htr hok hq) kq_Checker_249 55 1 rfl rfl ⟨rfl, rfl, Nat.le_of_ble_eq_true rfl, Nat.le_of_ble_eq_true rfl⟩ ⟨Nat.le_of_ble_eq_true rfl, Nat.le_of_ble_eq_true rfl⟩ hl.1 rfl rfl (Nat.le_of_ble_eq_true rfl) dd_Checker_checkControl_135) hS hne C.2.2.2.2.2.2.1
    refine xk_goesV (xr_V (As := []) (rest := []) C hP hS (ct_Checker_turn htr hok hq) kq_Checker_249 55 1 rfl rfl ⟨rfl, rfl, Nat.le_of_ble_eq_true rfl, Nat.le_of_ble_eq_true rfl⟩ ⟨Nat.le_of_ble_eq_true rfl, Nat.le_of_ble_eq_true rfl⟩ hl.1 rfl rfl (Nat.le_of_ble_eq_true rfl) dd_Checker_checkControl_135) hS (fun H locs hP hS => ?_)
    clear hq
    refine lv_goto (tgt := 258) hx hb dd_Checker_checkControl_138 (by decide) ?_
    obtain ⟨rfl, rfl⟩ := xp_r h
    exact xr_vret C hP hS dd_Checker_checkControl_258
  have h := xp_f hc5 h
  by_cases hc6 : x0 = (6 : Int32)
  · have h := xp_t hc6 h
    refine lv_tableIn (off := 257) (tgt := 258) hx hb dd_Checker_checkControl_1 (by rw [hc6]; decide) (by rw [hc6]; decide) (by rw [hc6]; rfl) (by decide) ?_
    obtain ⟨rfl, rfl⟩ := xp_r h
    exact xr_vret C hP hS dd_Checker_checkControl_258
  have h := xp_f hc6 h
  by_cases hc7 : x0 = (7 : Int32)
  · have h := xp_t hc7 h
    refine lv_tableIn (off := 140) (tgt := 141) hx hb dd_Checker_checkControl_1 (by rw [hc7]; decide) (by rw [hc7]; decide) (by rw [hc7]; rfl) (by decide) ?_
    exact wj_Checker_checkControl_141 htr C hne h hP hS (lv_sub hl [0] rfl)
  have h := xp_f hc7 h
  by_cases hc8 : x0 = (8 : Int32)
  · have h := xp_t hc8 h
    refine lv_tableIn (off := 86) (tgt := 87) hx hb dd_Checker_checkControl_1 (by rw [hc8]; decide) (by rw [hc8]; decide) (by rw [hc8]; rfl) (by decide) ?_
    refine lv_aload_n hx hb dd_Checker_checkControl_87 rfl (lv_at hl 0 rfl) ?_
    refine lv_aload_n hx hb dd_Checker_checkControl_88 rfl (lv_at hl 0 rfl) ?_
    refine gf_h_Checker_55_code C hP dd_Checker_checkControl_89 ?_
    refine gf_h_Checker_12_first C hP dd_Checker_checkControl_92 ?_
    refine lv_iload_n hx hb dd_Checker_checkControl_95 rfl (lv_at hl 2 rfl) ?_
    obtain ⟨hi, h⟩ := xp_g h
    refine al_h_14 C hP hi dd_Checker_checkControl_96 ?_
    refine lv_aload_n hx hb dd_Checker_checkControl_97 rfl (lv_at hl 0 rfl) ?_
    refine gf_h_Checker_55_code C hP dd_Checker_checkControl_98 ?_
    refine gf_h_Checker_12_second C hP dd_Checker_checkControl_101 ?_
    refine lv_iload_n hx hb dd_Checker_checkControl_104 rfl (lv_at hl 2 rfl) ?_
    obtain ⟨hi, h⟩ := xp_g h
    refine al_h_15 C hP hi dd_Checker_checkControl_105 ?_
    refine lv_l2i hx hb dd_Checker_checkControl_106 rfl ?_
    rcases xp_try h with ⟨rx, u7, hq, h⟩ | ⟨kx, ux, hq, h⟩
    rotate_left
    · obtain ⟨rfl, rfl⟩ := xp_q h
      exact xk_up (xr_V (As := [.int (u.2.2.1 8 x1.toNatClampNeg), .int ((u.2.2.2 2 x1.toNatClampNeg).toInt32)]) (rest := []) C hP hS (ct_Checker_declare htr hok hq) kq_Checker_243 55 1 rfl rfl ⟨rfl, rfl, Nat.le_of_ble_eq_true rfl, Nat.le_of_ble_eq_true rfl⟩ ⟨Nat.le_of_ble_eq_true rfl, Nat.le_of_ble_eq_true rfl⟩ hl.1 rfl rfl (Nat.le_of_ble_eq_true rfl) dd_Checker_checkControl_107) hS hne C.2.2.2.2.2.2.1
    refine xk_goesV (xr_V (As := [.int (u.2.2.1 8 x1.toNatClampNeg), .int ((u.2.2.2 2 x1.toNatClampNeg).toInt32)]) (rest := []) C hP hS (ct_Checker_declare htr hok hq) kq_Checker_243 55 1 rfl rfl ⟨rfl, rfl, Nat.le_of_ble_eq_true rfl, Nat.le_of_ble_eq_true rfl⟩ ⟨Nat.le_of_ble_eq_true rfl, Nat.le_of_ble_eq_true rfl⟩ hl.1 rfl rfl (Nat.le_of_ble_eq_true rfl) dd_Checker_checkControl_107) hS (fun H locs hP hS => ?_)
    clear hq
    refine lv_goto (tgt := 258) hx hb dd_Checker_checkControl_110 (by decide) ?_
    obtain ⟨rfl, rfl⟩ := xp_r h
    exact xr_vret C hP hS dd_Checker_checkControl_258
  have h := xp_f hc8 h
  by_cases hc9 : x0 = (9 : Int32)
  · have h := xp_t hc9 h
    refine lv_tableIn (off := 257) (tgt := 258) hx hb dd_Checker_checkControl_1 (by rw [hc9]; decide) (by rw [hc9]; decide) (by rw [hc9]; rfl) (by decide) ?_
    obtain ⟨rfl, rfl⟩ := xp_r h
    exact xr_vret C hP hS dd_Checker_checkControl_258
  have h := xp_f hc9 h
  by_cases hc10 : x0 = (10 : Int32)
  · have h := xp_t hc10 h
    refine lv_tableIn (off := 257) (tgt := 258) hx hb dd_Checker_checkControl_1 (by rw [hc10]; decide) (by rw [hc10]; decide) (by rw [hc10]; rfl) (by decide) ?_
    obtain ⟨rfl, rfl⟩ := xp_r h
    exact xr_vret C hP hS dd_Checker_checkControl_258
  have h := xp_f hc10 h
  by_cases hc11 : x0 = (11 : Int32)
  · have h := xp_t hc11 h
    refine lv_tableIn (off := 140) (tgt := 141) hx hb dd_Checker_checkControl_1 (by rw [hc11]; decide) (by rw [hc11]; decide) (by rw [hc11]; rfl) (by decide) ?_
    exact wj_Checker_checkControl_141 htr C hne h hP hS (lv_sub hl [0] rfl)
  have h := xp_f hc11 h
  by_cases hc12 : x0 = (12 : Int32)
  · have h := xp_t hc12 h
    refine lv_tableIn (off := 147) (tgt := 148) hx hb dd_Checker_checkControl_1 (by rw [hc12]; decide) (by rw [hc12]; decide) (by rw [hc12]; rfl) (by decide) ?_
    refine lv_aload_n hx hb dd_Checker_checkControl_148 rfl (lv_at hl 0 rfl) ?_
    refine lv_iload_n hx hb dd_Checker_checkControl_149 rfl (lv_at hl 2 rfl) ?_
    rcases xp_try h with ⟨a8, u9, hq, h⟩ | ⟨kx, ux, hq, h⟩
    rotate_left
    · obtain ⟨rfl, rfl⟩ := xp_q h
      exact xk_up (xr_V (As := [.int x1]) (rest := []) C hP hS (ct_Checker_branch htr hok hq) kq_Checker_255 55 1 rfl rfl ⟨rfl, rfl, Nat.le_of_ble_eq_true rfl, Nat.le_of_ble_eq_true rfl⟩ ⟨Nat.le_of_ble_eq_true rfl, Nat.le_of_ble_eq_true rfl⟩ hl.1 rfl rfl (Nat.le_of_ble_eq_true rfl) dd_Checker_checkControl_150) hS hne C.2.2.2.2.2.2.1
    refine xk_goesI (xr_V (As := [.int x1]) (rest := []) C hP hS (ct_Checker_branch htr hok hq) kq_Checker_255 55 1 rfl rfl ⟨rfl, rfl, Nat.le_of_ble_eq_true rfl, Nat.le_of_ble_eq_true rfl⟩ ⟨Nat.le_of_ble_eq_true rfl, Nat.le_of_ble_eq_true rfl⟩ hl.1 rfl rfl (Nat.le_of_ble_eq_true rfl) dd_Checker_checkControl_150) hS (fun H locs hP hS => ?_)
    clear hq
    refine lv_istore_n (lv' := [(3, .int a8), (0, .ref (ad 55)), (1, .int x0), (2, .int x1)]) hx hb dd_Checker_checkControl_153 rfl hl (by decide) rfl (fun ls hl => ?_)
    refine lv_aload_n hx hb dd_Checker_checkControl_154 rfl (lv_at hl 1 rfl) ?_
    refine lv_iload_n hx hb dd_Checker_checkControl_155 rfl (lv_at hl 0 rfl) ?_
    refine lv_aload_n hx hb dd_Checker_checkControl_156 rfl (lv_at hl 1 rfl) ?_
    refine lv_iload_n hx hb dd_Checker_checkControl_157 rfl (lv_at hl 0 rfl) ?_
    obtain ⟨a10, u11, hq, h⟩ := xp_seq h
    refine xk_goesI (xr_V (As := [.int a8]) (rest := [.int a8, .ref (ad 55)]) C hP hS (ct_Checker_wayCount htr hok hq) kq_Checker_258 55 1 rfl rfl ⟨rfl, rfl, Nat.le_of_ble_eq_true rfl, Nat.le_of_ble_eq_true rfl⟩ ⟨Nat.le_of_ble_eq_true rfl, Nat.le_of_ble_eq_true rfl⟩ hl.1 rfl rfl (Nat.le_of_ble_eq_true rfl) dd_Checker_checkControl_158) hS (fun H locs hP hS => ?_)
    clear hq
    rcases xp_try h with ⟨rx, u12, hq, h⟩ | ⟨kx, ux, hq, h⟩
    rotate_left
    · obtain ⟨rfl, rfl⟩ := xp_q h
      exact xk_up (xr_V (As := [.int a8, .int a10]) (rest := []) C hP hS (ct_Checker_popWay htr hok hq) kq_Checker_261 55 1 rfl rfl ⟨rfl, rfl, Nat.le_of_ble_eq_true rfl, Nat.le_of_ble_eq_true rfl⟩ ⟨Nat.le_of_ble_eq_true rfl, Nat.le_of_ble_eq_true rfl⟩ hl.1 rfl rfl (Nat.le_of_ble_eq_true rfl) dd_Checker_checkControl_161) hS hne C.2.2.2.2.2.2.1
    refine xk_goesV (xr_V (As := [.int a8, .int a10]) (rest := []) C hP hS (ct_Checker_popWay htr hok hq) kq_Checker_261 55 1 rfl rfl ⟨rfl, rfl, Nat.le_of_ble_eq_true rfl, Nat.le_of_ble_eq_true rfl⟩ ⟨Nat.le_of_ble_eq_true rfl, Nat.le_of_ble_eq_true rfl⟩ hl.1 rfl rfl (Nat.le_of_ble_eq_true rfl) dd_Checker_checkControl_161) hS (fun H locs hP hS => ?_)
    clear hq
    refine lv_aload_n hx hb dd_Checker_checkControl_164 rfl (lv_at hl 1 rfl) ?_
    obtain ⟨rx, u13, hq, h⟩ := xp_seq h
    refine xk_goesV (xr_V (As := []) (rest := []) C hP hS (ct_Checker_lose htr hok hq) kq_Checker_240 55 1 rfl rfl ⟨rfl, rfl, Nat.le_of_ble_eq_true rfl, Nat.le_of_ble_eq_true rfl⟩ ⟨Nat.le_of_ble_eq_true rfl, Nat.le_of_ble_eq_true rfl⟩ hl.1 rfl rfl (Nat.le_of_ble_eq_true rfl) dd_Checker_checkControl_165) hS (fun H locs hP hS => ?_)
    clear hq
    refine lv_goto (tgt := 258) hx hb dd_Checker_checkControl_168 (by decide) ?_
    obtain ⟨rfl, rfl⟩ := xp_r h
    exact xr_vret C hP hS dd_Checker_checkControl_258
  have h := xp_f hc12 h
  by_cases hc13 : x0 = (13 : Int32)
  · have h := xp_t hc13 h
    refine lv_tableIn (off := 170) (tgt := 171) hx hb dd_Checker_checkControl_1 (by rw [hc13]; decide) (by rw [hc13]; decide) (by rw [hc13]; rfl) (by decide) ?_
    refine lv_aload_n hx hb dd_Checker_checkControl_171 rfl (lv_at hl 0 rfl) ?_
    refine lv_iconst (v := 1) hx hb dd_Checker_checkControl_172 (by decide) ?_
    rcases xp_try h with ⟨rx, u14, hq, h⟩ | ⟨kx, ux, hq, h⟩
    rotate_left
    · obtain ⟨rfl, rfl⟩ := xp_q h
      exact xk_up (xr_V (As := [.int (1 : Int32)]) (rest := []) C hP hS (ct_Checker_pop_I htr hok hq) kq_Checker_238 55 1 rfl rfl ⟨rfl, rfl, Nat.le_of_ble_eq_true rfl, Nat.le_of_ble_eq_true rfl⟩ ⟨Nat.le_of_ble_eq_true rfl, Nat.le_of_ble_eq_true rfl⟩ hl.1 rfl rfl (Nat.le_of_ble_eq_true rfl) dd_Checker_checkControl_173) hS hne C.2.2.2.2.2.2.1
    refine xk_goesV (xr_V (As := [.int (1 : Int32)]) (rest := []) C hP hS (ct_Checker_pop_I htr hok hq) kq_Checker_238 55 1 rfl rfl ⟨rfl, rfl, Nat.le_of_ble_eq_true rfl, Nat.le_of_ble_eq_true rfl⟩ ⟨Nat.le_of_ble_eq_true rfl, Nat.le_of_ble_eq_true rfl⟩ hl.1 rfl rfl (Nat.le_of_ble_eq_true rfl) dd_Checker_checkControl_173) hS (fun H locs hP hS => ?_)
    clear hq
    refine lv_aload_n hx hb dd_Checker_checkControl_176 rfl (lv_at hl 0 rfl) ?_
    refine lv_iload_n hx hb dd_Checker_checkControl_177 rfl (lv_at hl 2 rfl) ?_
    rcases xp_try h with ⟨a15, u16, hq, h⟩ | ⟨kx, ux, hq, h⟩
    rotate_left
    · obtain ⟨rfl, rfl⟩ := xp_q h
      exact xk_up (xr_V (As := [.int x1]) (rest := []) C hP hS (ct_Checker_branch htr hok hq) kq_Checker_255 55 1 rfl rfl ⟨rfl, rfl, Nat.le_of_ble_eq_true rfl, Nat.le_of_ble_eq_true rfl⟩ ⟨Nat.le_of_ble_eq_true rfl, Nat.le_of_ble_eq_true rfl⟩ hl.1 rfl rfl (Nat.le_of_ble_eq_true rfl) dd_Checker_checkControl_178) hS hne C.2.2.2.2.2.2.1
    refine xk_goesI (xr_V (As := [.int x1]) (rest := []) C hP hS (ct_Checker_branch htr hok hq) kq_Checker_255 55 1 rfl rfl ⟨rfl, rfl, Nat.le_of_ble_eq_true rfl, Nat.le_of_ble_eq_true rfl⟩ ⟨Nat.le_of_ble_eq_true rfl, Nat.le_of_ble_eq_true rfl⟩ hl.1 rfl rfl (Nat.le_of_ble_eq_true rfl) dd_Checker_checkControl_178) hS (fun H locs hP hS => ?_)
    clear hq
    refine lv_istore_n (lv' := [(3, .int a15), (0, .ref (ad 55)), (1, .int x0), (2, .int x1)]) hx hb dd_Checker_checkControl_181 rfl hl (by decide) rfl (fun ls hl => ?_)
    refine lv_aload_n hx hb dd_Checker_checkControl_182 rfl (lv_at hl 1 rfl) ?_
    refine lv_iload_n hx hb dd_Checker_checkControl_183 rfl (lv_at hl 0 rfl) ?_
    refine lv_aload_n hx hb dd_Checker_checkControl_184 rfl (lv_at hl 1 rfl) ?_
    refine lv_iload_n hx hb dd_Checker_checkControl_185 rfl (lv_at hl 0 rfl) ?_
    obtain ⟨a17, u18, hq, h⟩ := xp_seq h
    refine xk_goesI (xr_V (As := [.int a15]) (rest := [.int a15, .ref (ad 55)]) C hP hS (ct_Checker_wayCount htr hok hq) kq_Checker_258 55 1 rfl rfl ⟨rfl, rfl, Nat.le_of_ble_eq_true rfl, Nat.le_of_ble_eq_true rfl⟩ ⟨Nat.le_of_ble_eq_true rfl, Nat.le_of_ble_eq_true rfl⟩ hl.1 rfl rfl (Nat.le_of_ble_eq_true rfl) dd_Checker_checkControl_186) hS (fun H locs hP hS => ?_)
    clear hq
    rcases xp_try h with ⟨rx, u19, hq, h⟩ | ⟨kx, ux, hq, h⟩
    rotate_left
    · obtain ⟨rfl, rfl⟩ := xp_q h
      exact xk_up (xr_V (As := [.int a15, .int a17]) (rest := []) C hP hS (ct_Checker_popWay htr hok hq) kq_Checker_261 55 1 rfl rfl ⟨rfl, rfl, Nat.le_of_ble_eq_true rfl, Nat.le_of_ble_eq_true rfl⟩ ⟨Nat.le_of_ble_eq_true rfl, Nat.le_of_ble_eq_true rfl⟩ hl.1 rfl rfl (Nat.le_of_ble_eq_true rfl) dd_Checker_checkControl_189) hS hne C.2.2.2.2.2.2.1
    refine xk_goesV (xr_V (As := [.int a15, .int a17]) (rest := []) C hP hS (ct_Checker_popWay htr hok hq) kq_Checker_261 55 1 rfl rfl ⟨rfl, rfl, Nat.le_of_ble_eq_true rfl, Nat.le_of_ble_eq_true rfl⟩ ⟨Nat.le_of_ble_eq_true rfl, Nat.le_of_ble_eq_true rfl⟩ hl.1 rfl rfl (Nat.le_of_ble_eq_true rfl) dd_Checker_checkControl_189) hS (fun H locs hP hS => ?_)
    clear hq
    refine lv_aload_n hx hb dd_Checker_checkControl_192 rfl (lv_at hl 1 rfl) ?_
    refine lv_iload_n hx hb dd_Checker_checkControl_193 rfl (lv_at hl 0 rfl) ?_
    refine lv_aload_n hx hb dd_Checker_checkControl_194 rfl (lv_at hl 1 rfl) ?_
    refine lv_iload_n hx hb dd_Checker_checkControl_195 rfl (lv_at hl 0 rfl) ?_
    obtain ⟨a20, u21, hq, h⟩ := xp_seq h
    refine xk_goesI (xr_V (As := [.int a15]) (rest := [.int a15, .ref (ad 55)]) C hP hS (ct_Checker_wayCount htr hok hq) kq_Checker_258 55 1 rfl rfl ⟨rfl, rfl, Nat.le_of_ble_eq_true rfl, Nat.le_of_ble_eq_true rfl⟩ ⟨Nat.le_of_ble_eq_true rfl, Nat.le_of_ble_eq_true rfl⟩ hl.1 rfl rfl (Nat.le_of_ble_eq_true rfl) dd_Checker_checkControl_196) hS (fun H locs hP hS => ?_)
    clear hq
    rcases xp_try h with ⟨rx, u22, hq, h⟩ | ⟨kx, ux, hq, h⟩
    rotate_left
    · obtain ⟨rfl, rfl⟩ := xp_q h
      exact xk_up (xr_V (As := [.int a15, .int a20]) (rest := []) C hP hS (ct_Checker_pushWay htr hok hq) kq_Checker_264 55 1 rfl rfl ⟨rfl, rfl, Nat.le_of_ble_eq_true rfl, Nat.le_of_ble_eq_true rfl⟩ ⟨Nat.le_of_ble_eq_true rfl, Nat.le_of_ble_eq_true rfl⟩ hl.1 rfl rfl (Nat.le_of_ble_eq_true rfl) dd_Checker_checkControl_199) hS hne C.2.2.2.2.2.2.1
    refine xk_goesV (xr_V (As := [.int a15, .int a20]) (rest := []) C hP hS (ct_Checker_pushWay htr hok hq) kq_Checker_264 55 1 rfl rfl ⟨rfl, rfl, Nat.le_of_ble_eq_true rfl, Nat.le_of_ble_eq_true rfl⟩ ⟨Nat.le_of_ble_eq_true rfl, Nat.le_of_ble_eq_true rfl⟩ hl.1 rfl rfl (Nat.le_of_ble_eq_true rfl) dd_Checker_checkControl_199) hS (fun H locs hP hS => ?_)
    clear hq
    refine lv_goto (tgt := 258) hx hb dd_Checker_checkControl_202 (by decide) ?_
    obtain ⟨rfl, rfl⟩ := xp_r h
    exact xr_vret C hP hS dd_Checker_checkControl_258
  have h := xp_f hc13 h
  by_cases hc14 : x0 = (14 : Int32)
  · have h := xp_t hc14 h
    refine lv_tableIn (off := 204) (tgt := 205) hx hb dd_Checker_checkControl_1 (by rw [hc14]; decide) (by rw [hc14]; decide) (by rw [hc14]; rfl) (by decide) ?_
    refine lv_aload_n hx hb dd_Checker_checkControl_205 rfl (lv_at hl 0 rfl) ?_
    refine lv_aload_n hx hb dd_Checker_checkControl_206 rfl (lv_at hl 0 rfl) ?_
    refine gf_h_Checker_55_code C hP dd_Checker_checkControl_207 ?_
    refine gf_h_Checker_12_first C hP dd_Checker_checkControl_210 ?_
    refine lv_iload_n hx hb dd_Checker_checkControl_213 rfl (lv_at hl 2 rfl) ?_
    obtain ⟨hi, h⟩ := xp_g h
    refine al_h_14 C hP hi dd_Checker_checkControl_214 ?_
    refine lv_aload_n hx hb dd_Checker_checkControl_215 rfl (lv_at hl 0 rfl) ?_
    refine gf_h_Checker_55_code C hP dd_Checker_checkControl_216 ?_
    refine gf_h_Checker_12_second C hP dd_Checker_checkControl_219 ?_
    refine lv_iload_n hx hb dd_Checker_checkControl_222 rfl (lv_at hl 2 rfl) ?_
    obtain ⟨hi, h⟩ := xp_g h
    refine al_h_15 C hP hi dd_Checker_checkControl_223 ?_
    refine lv_l2i hx hb dd_Checker_checkControl_224 rfl ?_
    rcases xp_try h with ⟨rx, u23, hq, h⟩ | ⟨kx, ux, hq, h⟩
    rotate_left
    · obtain ⟨rfl, rfl⟩ := xp_q h
      exact xk_up (xr_V (As := [.int (u.2.2.1 8 x1.toNatClampNeg), .int ((u.2.2.2 2 x1.toNatClampNeg).toInt32)]) (rest := []) C hP hS (ct_Checker_checkWays htr hok hq) kq_Checker_267 55 1 rfl rfl ⟨rfl, rfl, Nat.le_of_ble_eq_true rfl, Nat.le_of_ble_eq_true rfl⟩ ⟨Nat.le_of_ble_eq_true rfl, Nat.le_of_ble_eq_true rfl⟩ hl.1 rfl rfl (Nat.le_of_ble_eq_true rfl) dd_Checker_checkControl_225) hS hne C.2.2.2.2.2.2.1
    refine xk_goesV (xr_V (As := [.int (u.2.2.1 8 x1.toNatClampNeg), .int ((u.2.2.2 2 x1.toNatClampNeg).toInt32)]) (rest := []) C hP hS (ct_Checker_checkWays htr hok hq) kq_Checker_267 55 1 rfl rfl ⟨rfl, rfl, Nat.le_of_ble_eq_true rfl, Nat.le_of_ble_eq_true rfl⟩ ⟨Nat.le_of_ble_eq_true rfl, Nat.le_of_ble_eq_true rfl⟩ hl.1 rfl rfl (Nat.le_of_ble_eq_true rfl) dd_Checker_checkControl_225) hS (fun H locs hP hS => ?_)
    clear hq
    refine lv_goto (tgt := 258) hx hb dd_Checker_checkControl_228 (by decide) ?_
    obtain ⟨rfl, rfl⟩ := xp_r h
    exact xr_vret C hP hS dd_Checker_checkControl_258
  have h := xp_f hc14 h
  by_cases hc15 : x0 = (15 : Int32)
  · have h := xp_t hc15 h
    refine lv_tableIn (off := 230) (tgt := 231) hx hb dd_Checker_checkControl_1 (by rw [hc15]; decide) (by rw [hc15]; decide) (by rw [hc15]; rfl) (by decide) ?_
    refine lv_aload_n hx hb dd_Checker_checkControl_231 rfl (lv_at hl 0 rfl) ?_
    refine lv_aload_n hx hb dd_Checker_checkControl_232 rfl (lv_at hl 0 rfl) ?_
    refine gf_h_Checker_55_opened C hP dd_Checker_checkControl_233 ?_
    refine lv_iconst (v := 0) hx hb dd_Checker_checkControl_236 (by decide) ?_
    obtain ⟨hi, h⟩ := xp_g h
    refine al_h_57 C hP hi dd_Checker_checkControl_237 ?_
    refine lv_aload_n hx hb dd_Checker_checkControl_238 rfl (lv_at hl 0 rfl) ?_
    refine lv_aload_n hx hb dd_Checker_checkControl_239 rfl (lv_at hl 0 rfl) ?_
    refine gf_h_Checker_55_opened C hP dd_Checker_checkControl_240 ?_
    refine lv_iconst (v := 0) hx hb dd_Checker_checkControl_243 (by decide) ?_
    obtain ⟨hi, h⟩ := xp_g h
    refine al_h_57 C hP hi dd_Checker_checkControl_244 ?_
    obtain ⟨a24, u25, hq, h⟩ := xp_seq h
    refine xk_goesI (xr_V (As := [.int (u.2.2.1 34 (0 : Int32).toNatClampNeg)]) (rest := [.int (u.2.2.1 34 (0 : Int32).toNatClampNeg), .ref (ad 55)]) C hP hS (ct_Checker_wayCount htr hok hq) kq_Checker_258 55 1 rfl rfl ⟨rfl, rfl, Nat.le_of_ble_eq_true rfl, Nat.le_of_ble_eq_true rfl⟩ ⟨Nat.le_of_ble_eq_true rfl, Nat.le_of_ble_eq_true rfl⟩ hl.1 rfl rfl (Nat.le_of_ble_eq_true rfl) dd_Checker_checkControl_245) hS (fun H locs hP hS => ?_)
    clear hq
    rcases xp_try h with ⟨rx, u26, hq, h⟩ | ⟨kx, ux, hq, h⟩
    rotate_left
    · obtain ⟨rfl, rfl⟩ := xp_q h
      exact xk_up (xr_V (As := [.int (u.2.2.1 34 (0 : Int32).toNatClampNeg), .int a24]) (rest := []) C hP hS (ct_Checker_popWay htr hok hq) kq_Checker_261 55 1 rfl rfl ⟨rfl, rfl, Nat.le_of_ble_eq_true rfl, Nat.le_of_ble_eq_true rfl⟩ ⟨Nat.le_of_ble_eq_true rfl, Nat.le_of_ble_eq_true rfl⟩ hl.1 rfl rfl (Nat.le_of_ble_eq_true rfl) dd_Checker_checkControl_248) hS hne C.2.2.2.2.2.2.1
    refine xk_goesV (xr_V (As := [.int (u.2.2.1 34 (0 : Int32).toNatClampNeg), .int a24]) (rest := []) C hP hS (ct_Checker_popWay htr hok hq) kq_Checker_261 55 1 rfl rfl ⟨rfl, rfl, Nat.le_of_ble_eq_true rfl, Nat.le_of_ble_eq_true rfl⟩ ⟨Nat.le_of_ble_eq_true rfl, Nat.le_of_ble_eq_true rfl⟩ hl.1 rfl rfl (Nat.le_of_ble_eq_true rfl) dd_Checker_checkControl_248) hS (fun H locs hP hS => ?_)
    clear hq
    refine lv_aload_n hx hb dd_Checker_checkControl_251 rfl (lv_at hl 0 rfl) ?_
    obtain ⟨rx, u27, hq, h⟩ := xp_seq h
    refine xk_goesV (xr_V (As := []) (rest := []) C hP hS (ct_Checker_lose htr hok hq) kq_Checker_240 55 1 rfl rfl ⟨rfl, rfl, Nat.le_of_ble_eq_true rfl, Nat.le_of_ble_eq_true rfl⟩ ⟨Nat.le_of_ble_eq_true rfl, Nat.le_of_ble_eq_true rfl⟩ hl.1 rfl rfl (Nat.le_of_ble_eq_true rfl) dd_Checker_checkControl_252) hS (fun H locs hP hS => ?_)
    clear hq
    refine lv_goto (tgt := 258) hx hb dd_Checker_checkControl_255 (by decide) ?_
    obtain ⟨rfl, rfl⟩ := xp_r h
    exact xr_vret C hP hS dd_Checker_checkControl_258
  have h := xp_f hc15 h
  have hd0 := lv_neT hc0 (a := 0) (by decide)
  have hd1 := lv_neT hc1 (a := 1) (by decide)
  have hd2 := lv_neT hc2 (a := 2) (by decide)
  have hd3 := lv_neT hc3 (a := 3) (by decide)
  have hd4 := lv_neT hc4 (a := 4) (by decide)
  have hd5 := lv_neT hc5 (a := 5) (by decide)
  have hd6 := lv_neT hc6 (a := 6) (by decide)
  have hd7 := lv_neT hc7 (a := 7) (by decide)
  have hd8 := lv_neT hc8 (a := 8) (by decide)
  have hd9 := lv_neT hc9 (a := 9) (by decide)
  have hd10 := lv_neT hc10 (a := 10) (by decide)
  have hd11 := lv_neT hc11 (a := 11) (by decide)
  have hd12 := lv_neT hc12 (a := 12) (by decide)
  have hd13 := lv_neT hc13 (a := 13) (by decide)
  have hd14 := lv_neT hc14 (a := 14) (by decide)
  have hd15 := lv_neT hc15 (a := 15) (by decide)
  refine lv_tableOut (tgt := 258) hx hb dd_Checker_checkControl_1 (by omega) (by decide) ?_
  obtain ⟨rfl, rfl⟩ := xp_r h
  exact xr_vret C hP hS dd_Checker_checkControl_258
abbrev rm_Checker_checkInstruction : Room := { frames := 11, cells := 1, slots := 6, locals := 211 }
noncomputable def jb_Checker_checkInstruction_90 (fu : Nat) (s0 : Int32) (u : xk_St) : Option ((Unit ⊕ Nat) × xk_St) :=
  (xs_try (fm_Checker_push s0 u) fun _ u7 => some (.inl (()), u7))
noncomputable def fm_Checker_checkInstruction (fu : Nat) (x0 : Int32) (u : xk_St) : Option ((Unit ⊕ Nat) × xk_St) :=
  (if x0 < 0 ∨ 8192 ≤ x0.toNatClampNeg then none else xs_let (u.2.2.1 7 x0.toNatClampNeg) fun a1 => if (16 : Int32) ≤ a1 then (if (40 : Int32) ≤ a1 then (if (64 : Int32) < a1 then (if (66 : Int32) < a1 then (if (208 : Int32) ≤ a1 then (if (256 : Int32) ≤ a1 then (if (262 : Int32) ≤ a1 then (if (276 : Int32) ≤ a1 then ((if x0 < 0 ∨ 8192 ≤ x0.toNatClampNeg then none else xs_try (fm_Checker_checkKind (a1 - (256 : Int32)) (u.2.2.1 8 x0.toNatClampNeg) u) fun _ u2 => some (.inl (()), u2))) else ((if x0 < 0 ∨ 8192 ≤ x0.toNatClampNeg then none else if x0 < 0 ∨ 8192 ≤ x0.toNatClampNeg then none else xs_try (fm_Checker_checkArray fu (a1 - (256 : Int32)) (u.2.2.1 8 x0.toNatClampNeg) (u.2.2.2 2 x0.toNatClampNeg) u) fun _ u3 => some (.inl (()), u3)))) else ((if x0 < 0 ∨ 8192 ≤ x0.toNatClampNeg then none else if x0 < 0 ∨ 8192 ≤ x0.toNatClampNeg then none else xs_try (fm_Checker_checkStructure fu (a1 - (256 : Int32)) (u.2.2.1 8 x0.toNatClampNeg) (u.2.2.2 2 x0.toNatClampNeg) u) fun _ u4 => some (.inl (()), u4)))) else ((xs_try (fm_Checker_checkReference fu a1 x0 u) fun _ u5 => some (.inl (()), u5)))) else ((xs_try (fm_Checker_checkNumeric fu a1 u) fun _ u6 => some (.inl (()), u6)))) else (if a1 = (65 : Int32) then (jb_Checker_checkInstruction_90 fu (1 : Int32) u) else (jb_Checker_checkInstruction_90 fu (2 : Int32) u))) else ((if x0 < 0 ∨ 8192 ≤ x0.toNatClampNeg then none else xs_try (fm_Checker_checkMemory a1 (u.2.2.1 8 x0.toNatClampNeg) u) fun _ u8 => some (.inl (()), u8)))) else ((if x0 < 0 ∨ 8192 ≤ x0.toNatClampNeg then none else xs_try (fm_Checker_checkSimple fu a1 (u.2.2.1 8 x0.toNatClampNeg) x0 u) fun _ u9 => some (.inl (()), u9)))) else ((xs_try (fm_Checker_checkControl fu a1 x0 u) fun _ u10 => some (.inl (()), u10))))
set_option maxHeartbeats 4000000 in
set_option maxRecDepth 100000 in
theorem wj_Checker_checkInstruction_90 {p : Program} {l : Launch} {e : Env} {s : State} {m : MethodId} {args : Array Value} {below : List Frame} {meth : Method} {c : Code} {D : va_G} {ad : Nat → Nat} {ca : Nat → ClassId} {ads : List Nat} {fu : Nat} (htr : l.stackTraces = false) (C : xk_C D kx_cl (kx_ty ca) (kw_h ad ca) ads "ModuleHouse$Checker" prog_2_method_13_code 3 none p e s m args meth c) (hne : c.exceptionTable.isEmpty = true) {u' : xk_St} {r : (Unit ⊕ Nat)} {s0 : Int32} {u : xk_St} {H : Heap} {locs : List Loc} {ls : Array Slot} (h : jb_Checker_checkInstruction_90 fu  s0 u = some (r, u')) (hP : va_P D kx_cl (kw_h ad ca u) H) (hS : va_S (xk_A ads s.heap.size) s.heap H locs) (hl : lv_has ls 3 []) : W p l e rm_Checker_checkInstruction s m args below meth c H locs 0 0 (xk_MQ below (xk_Qc D kx_cl (kw_h ad ca) ads (xo_v r) u') args s (xk_A ads s.heap.size)) (F0 m 90 ls [.int s0, .ref (ad 55)]) := by
  have hx := C.1.1
  have hb := C.1.2.1
  have hok := C.2.2.1
  unfold jb_Checker_checkInstruction_90 at h
  rcases xp_try h with ⟨rx, u7, hq, h⟩ | ⟨kx, ux, hq, h⟩
  rotate_left
  · obtain ⟨rfl, rfl⟩ := xp_q h
    exact xk_up (xr_V (As := [.int s0]) (rest := []) C hP hS (ct_Checker_push htr hok hq) kq_Checker_203 55 1 rfl rfl ⟨rfl, rfl, Nat.le_of_ble_eq_true rfl, Nat.le_of_ble_eq_true rfl⟩ ⟨Nat.le_of_ble_eq_true rfl, Nat.le_of_ble_eq_true rfl⟩ hl.1 rfl rfl (Nat.le_of_ble_eq_true rfl) dd_Checker_checkInstruction_90) hS hne C.2.2.2.2.2.2.1
  refine xk_goesV (xr_V (As := [.int s0]) (rest := []) C hP hS (ct_Checker_push htr hok hq) kq_Checker_203 55 1 rfl rfl ⟨rfl, rfl, Nat.le_of_ble_eq_true rfl, Nat.le_of_ble_eq_true rfl⟩ ⟨Nat.le_of_ble_eq_true rfl, Nat.le_of_ble_eq_true rfl⟩ hl.1 rfl rfl (Nat.le_of_ble_eq_true rfl) dd_Checker_checkInstruction_90) hS (fun H locs hP hS => ?_)
  clear hq
  refine lv_goto (tgt := 219) hx hb dd_Checker_checkInstruction_93 (by decide) ?_
  obtain ⟨rfl, rfl⟩ := xp_r h
  exact xr_vret C hP hS dd_Checker_checkInstruction_219
set_option maxHeartbeats 4000000 in
set_option maxRecDepth 100000 in
theorem ct_Checker_checkInstruction {l : Launch} {D : va_G} {ad : Nat → Nat} {ca : Nat → ClassId} {ads : List Nat} (htr : l.stackTraces = false) (hok : xk_ok (kw_h ad ca) ads) {fu : Nat} {x0 : Int32} {u u' : xk_St} {r : (Unit ⊕ Nat)} (h : fm_Checker_checkInstruction fu x0 u = some (r, u')) :
    ∀ sz, xk_Met l ⟨"ModuleHouse$Checker", "checkInstruction", "(I)V"⟩ (Cond.code ⟨"ModuleHouse$Checker", "checkInstruction", "(I)V"⟩ prog_2_method_13_code 3 none :: xk_gd) rm_Checker_checkInstruction (xk_Pc D kx_cl (kx_ty ca) (kw_h ad ca) ads xk_F sz [.ref (ad 55), .int x0] u) (xk_Qc D kx_cl (kw_h ad ca) ads (xo_v r) u') (xk_A ads sz) := by
  unfold fm_Checker_checkInstruction at h
  refine xk_con (by decide) htr hok (Nat.le_of_ble_eq_true rfl) (fun p e s m below meth c ls C hne hl hP => ?_)
  have hx := C.1.1
  have hb := C.1.2.1
  have hS : va_S (xk_A ads s.heap.size) s.heap s.heap [] := va_S.rf
  have hl : lv_has ls 3 [(0, .ref (ad 55)), (1, .int x0)] := hl
  refine lv_aload_n hx hb dd_Checker_checkInstruction_0 rfl (lv_at hl 0 rfl) ?_
  refine gf_h_Checker_55_code C hP dd_Checker_checkInstruction_1 ?_
  refine gf_h_Checker_12_op C hP dd_Checker_checkInstruction_4 ?_
  refine lv_iload_n hx hb dd_Checker_checkInstruction_7 rfl (lv_at hl 1 rfl) ?_
  obtain ⟨hi, h⟩ := xp_g h
  refine al_h_13 C hP hi dd_Checker_checkInstruction_8 ?_
  obtain ⟨a1, ea1, h⟩ := xp_let h
  refine xr_nami ea1 ?_
  refine lv_istore_n (lv' := [(2, .int a1), (0, .ref (ad 55)), (1, .int x0)]) hx hb dd_Checker_checkInstruction_9 rfl hl (by decide) rfl (fun ls hl => ?_)
  refine lv_iload_n hx hb dd_Checker_checkInstruction_10 rfl (lv_at hl 0 rfl) ?_
  refine lv_bipush (v := 16) hx hb dd_Checker_checkInstruction_11 (by decide) ?_
  refine lv_icmp_ge (tgt := 25) hx hb dd_Checker_checkInstruction_13 (by decide) (fun hc => ?_) (fun hc => ?_)
  · have h := xp_t hc h
    refine lv_iload_n hx hb dd_Checker_checkInstruction_25 rfl (lv_at hl 0 rfl) ?_
    refine lv_bipush (v := 40) hx hb dd_Checker_checkInstruction_26 (by decide) ?_
    refine lv_icmp_ge (tgt := 49) hx hb dd_Checker_checkInstruction_28 (by decide) (fun hc => ?_) (fun hc => ?_)
    · have h := xp_t hc h
      refine lv_iload_n hx hb dd_Checker_checkInstruction_49 rfl (lv_at hl 0 rfl) ?_
      refine lv_bipush (v := 64) hx hb dd_Checker_checkInstruction_50 (by decide) ?_
      refine lv_icmp_gt (tgt := 72) hx hb dd_Checker_checkInstruction_52 (by decide) (fun hc => ?_) (fun hc => ?_)
      · have h := xp_t hc h
        refine lv_iload_n hx hb dd_Checker_checkInstruction_72 rfl (lv_at hl 0 rfl) ?_
        refine lv_bipush (v := 66) hx hb dd_Checker_checkInstruction_73 (by decide) ?_
        refine lv_icmp_gt (tgt := 96) hx hb dd_Checker_checkInstruction_75 (by decide) (fun hc => ?_) (fun hc => ?_)
        · have h := xp_t hc h
          refine lv_iload_n hx hb dd_Checker_checkInstruction_96 rfl (lv_at hl 0 rfl) ?_
          refine lv_sipush (v := 208) hx hb dd_Checker_checkInstruction_97 (by decide) ?_
          refine lv_icmp_ge (tgt := 111) hx hb dd_Checker_checkInstruction_100 (by decide) (fun hc => ?_) (fun hc => ?_)
          · have h := xp_t hc h
            refine lv_iload_n hx hb dd_Checker_checkInstruction_111 rfl (lv_at hl 0 rfl) ?_
            refine lv_sipush (v := 256) hx hb dd_Checker_checkInstruction_112 (by decide) ?_
            refine lv_icmp_ge (tgt := 127) hx hb dd_Checker_checkInstruction_115 (by decide) (fun hc => ?_) (fun hc => ?_)
            · have h := xp_t hc h
              refine lv_iload_n hx hb dd_Checker_checkInstruction_127 rfl (lv_at hl 0 rfl) ?_
              refine lv_sipush (v := 262) hx hb dd_Checker_checkInstruction_128 (by decide) ?_
              refine lv_icmp_ge (tgt := 164) hx hb dd_Checker_checkInstruction_131 (by decide) (fun hc => ?_) (fun hc => ?_)
              · have h := xp_t hc h
                refine lv_iload_n hx hb dd_Checker_checkInstruction_164 rfl (lv_at hl 0 rfl) ?_
                refine lv_sipush (v := 276) hx hb dd_Checker_checkInstruction_165 (by decide) ?_
                refine lv_icmp_ge (tgt := 201) hx hb dd_Checker_checkInstruction_168 (by decide) (fun hc => ?_) (fun hc => ?_)
                · have h := xp_t hc h
                  refine lv_aload_n hx hb dd_Checker_checkInstruction_201 rfl (lv_at hl 1 rfl) ?_
                  refine lv_iload_n hx hb dd_Checker_checkInstruction_202 rfl (lv_at hl 0 rfl) ?_
                  refine lv_sipush (v := 256) hx hb dd_Checker_checkInstruction_203 (by decide) ?_
                  refine lv_isub hx hb dd_Checker_checkInstruction_206 ?_
                  refine lv_aload_n hx hb dd_Checker_checkInstruction_207 rfl (lv_at hl 1 rfl) ?_
                  refine gf_h_Checker_55_code C hP dd_Checker_checkInstruction_208 ?_
                  refine gf_h_Checker_12_first C hP dd_Checker_checkInstruction_211 ?_
                  refine lv_iload_n hx hb dd_Checker_checkInstruction_214 rfl (lv_at hl 2 rfl) ?_
                  obtain ⟨hi, h⟩ := xp_g h
                  refine al_h_14 C hP hi dd_Checker_checkInstruction_215 ?_
                  rcases xp_try h with ⟨rx, u2, hq, h⟩ | ⟨kx, ux, hq, h⟩
                  rotate_left
                  · obtain ⟨rfl, rfl⟩ := xp_q h
                    exact xk_up (xr_V (As := [.int (a1 - (256 : Int32)), .int (u.2.2.1 8 x0.toNatClampNeg)]) (rest := []) C hP hS (ct_Checker_checkKind htr hok hq) kq_Checker_221 55 1 rfl rfl ⟨rfl, rfl, Nat.le_of_ble_eq_true rfl, Nat.le_of_ble_eq_true rfl⟩ ⟨Nat.le_of_ble_eq_true rfl, Nat.le_of_ble_eq_true rfl⟩ hl.1 rfl rfl (Nat.le_of_ble_eq_true rfl) dd_Checker_checkInstruction_216) hS hne C.2.2.2.2.2.2.1
                  refine xk_goesV (xr_V (As := [.int (a1 - (256 : Int32)), .int (u.2.2.1 8 x0.toNatClampNeg)]) (rest := []) C hP hS (ct_Checker_checkKind htr hok hq) kq_Checker_221 55 1 rfl rfl ⟨rfl, rfl, Nat.le_of_ble_eq_true rfl, Nat.le_of_ble_eq_true rfl⟩ ⟨Nat.le_of_ble_eq_true rfl, Nat.le_of_ble_eq_true rfl⟩ hl.1 rfl rfl (Nat.le_of_ble_eq_true rfl) dd_Checker_checkInstruction_216) hS (fun H locs hP hS => ?_)
                  clear hq
                  obtain ⟨rfl, rfl⟩ := xp_r h
                  exact xr_vret C hP hS dd_Checker_checkInstruction_219
                · have h := xp_f hc h
                  refine lv_aload_n hx hb dd_Checker_checkInstruction_171 rfl (lv_at hl 1 rfl) ?_
                  refine lv_iload_n hx hb dd_Checker_checkInstruction_172 rfl (lv_at hl 0 rfl) ?_
                  refine lv_sipush (v := 256) hx hb dd_Checker_checkInstruction_173 (by decide) ?_
                  refine lv_isub hx hb dd_Checker_checkInstruction_176 ?_
                  refine lv_aload_n hx hb dd_Checker_checkInstruction_177 rfl (lv_at hl 1 rfl) ?_
                  refine gf_h_Checker_55_code C hP dd_Checker_checkInstruction_178 ?_
                  refine gf_h_Checker_12_first C hP dd_Checker_checkInstruction_181 ?_
                  refine lv_iload_n hx hb dd_Checker_checkInstruction_184 rfl (lv_at hl 2 rfl) ?_
                  obtain ⟨hi, h⟩ := xp_g h
                  refine al_h_14 C hP hi dd_Checker_checkInstruction_185 ?_
                  refine lv_aload_n hx hb dd_Checker_checkInstruction_186 rfl (lv_at hl 1 rfl) ?_
                  refine gf_h_Checker_55_code C hP dd_Checker_checkInstruction_187 ?_
                  refine gf_h_Checker_12_second C hP dd_Checker_checkInstruction_190 ?_
                  refine lv_iload_n hx hb dd_Checker_checkInstruction_193 rfl (lv_at hl 2 rfl) ?_
                  obtain ⟨hi, h⟩ := xp_g h
                  refine al_h_15 C hP hi dd_Checker_checkInstruction_194 ?_
                  rcases xp_try h with ⟨rx, u3, hq, h⟩ | ⟨kx, ux, hq, h⟩
                  rotate_left
                  · obtain ⟨rfl, rfl⟩ := xp_q h
                    exact xk_up (xr_V (As := [.int (a1 - (256 : Int32)), .int (u.2.2.1 8 x0.toNatClampNeg), .long (u.2.2.2 2 x0.toNatClampNeg)]) (rest := []) C hP hS (ct_Checker_checkArray htr hok hq) kq_Checker_218 55 1 rfl rfl ⟨rfl, rfl, Nat.le_of_ble_eq_true rfl, Nat.le_of_ble_eq_true rfl⟩ ⟨Nat.le_of_ble_eq_true rfl, Nat.le_of_ble_eq_true rfl⟩ hl.1 rfl rfl (Nat.le_of_ble_eq_true rfl) dd_Checker_checkInstruction_195) hS hne C.2.2.2.2.2.2.1
                  refine xk_goesV (xr_V (As := [.int (a1 - (256 : Int32)), .int (u.2.2.1 8 x0.toNatClampNeg), .long (u.2.2.2 2 x0.toNatClampNeg)]) (rest := []) C hP hS (ct_Checker_checkArray htr hok hq) kq_Checker_218 55 1 rfl rfl ⟨rfl, rfl, Nat.le_of_ble_eq_true rfl, Nat.le_of_ble_eq_true rfl⟩ ⟨Nat.le_of_ble_eq_true rfl, Nat.le_of_ble_eq_true rfl⟩ hl.1 rfl rfl (Nat.le_of_ble_eq_true rfl) dd_Checker_checkInstruction_195) hS (fun H locs hP hS => ?_)
                  clear hq
                  refine lv_goto (tgt := 219) hx hb dd_Checker_checkInstruction_198 (by decide) ?_
                  obtain ⟨rfl, rfl⟩ := xp_r h
                  exact xr_vret C hP hS dd_Checker_checkInstruction_219
              · have h := xp_f hc h
                refine lv_aload_n hx hb dd_Checker_checkInstruction_134 rfl (lv_at hl 1 rfl) ?_
                refine lv_iload_n hx hb dd_Checker_checkInstruction_135 rfl (lv_at hl 0 rfl) ?_
                refine lv_sipush (v := 256) hx hb dd_Checker_checkInstruction_136 (by decide) ?_
                refine lv_isub hx hb dd_Checker_checkInstruction_139 ?_
                refine lv_aload_n hx hb dd_Checker_checkInstruction_140 rfl (lv_at hl 1 rfl) ?_
                refine gf_h_Checker_55_code C hP dd_Checker_checkInstruction_141 ?_
                refine gf_h_Checker_12_first C hP dd_Checker_checkInstruction_144 ?_
                refine lv_iload_n hx hb dd_Checker_checkInstruction_147 rfl (lv_at hl 2 rfl) ?_
                obtain ⟨hi, h⟩ := xp_g h
                refine al_h_14 C hP hi dd_Checker_checkInstruction_148 ?_
                refine lv_aload_n hx hb dd_Checker_checkInstruction_149 rfl (lv_at hl 1 rfl) ?_
                refine gf_h_Checker_55_code C hP dd_Checker_checkInstruction_150 ?_
                refine gf_h_Checker_12_second C hP dd_Checker_checkInstruction_153 ?_
                refine lv_iload_n hx hb dd_Checker_checkInstruction_156 rfl (lv_at hl 2 rfl) ?_
                obtain ⟨hi, h⟩ := xp_g h
                refine al_h_15 C hP hi dd_Checker_checkInstruction_157 ?_
                rcases xp_try h with ⟨rx, u4, hq, h⟩ | ⟨kx, ux, hq, h⟩
                rotate_left
                · obtain ⟨rfl, rfl⟩ := xp_q h
                  exact xk_up (xr_V (As := [.int (a1 - (256 : Int32)), .int (u.2.2.1 8 x0.toNatClampNeg), .long (u.2.2.2 2 x0.toNatClampNeg)]) (rest := []) C hP hS (ct_Checker_checkStructure htr hok hq) kq_Checker_214 55 1 rfl rfl ⟨rfl, rfl, Nat.le_of_ble_eq_true rfl, Nat.le_of_ble_eq_true rfl⟩ ⟨Nat.le_of_ble_eq_true rfl, Nat.le_of_ble_eq_true rfl⟩ hl.1 rfl rfl (Nat.le_of_ble_eq_true rfl) dd_Checker_checkInstruction_158) hS hne C.2.2.2.2.2.2.1
                refine xk_goesV (xr_V (As := [.int (a1 - (256 : Int32)), .int (u.2.2.1 8 x0.toNatClampNeg), .long (u.2.2.2 2 x0.toNatClampNeg)]) (rest := []) C hP hS (ct_Checker_checkStructure htr hok hq) kq_Checker_214 55 1 rfl rfl ⟨rfl, rfl, Nat.le_of_ble_eq_true rfl, Nat.le_of_ble_eq_true rfl⟩ ⟨Nat.le_of_ble_eq_true rfl, Nat.le_of_ble_eq_true rfl⟩ hl.1 rfl rfl (Nat.le_of_ble_eq_true rfl) dd_Checker_checkInstruction_158) hS (fun H locs hP hS => ?_)
                clear hq
                refine lv_goto (tgt := 219) hx hb dd_Checker_checkInstruction_161 (by decide) ?_
                obtain ⟨rfl, rfl⟩ := xp_r h
                exact xr_vret C hP hS dd_Checker_checkInstruction_219
            · have h := xp_f hc h
              refine lv_aload_n hx hb dd_Checker_checkInstruction_118 rfl (lv_at hl 1 rfl) ?_
              refine lv_iload_n hx hb dd_Checker_checkInstruction_119 rfl (lv_at hl 0 rfl) ?_
              refine lv_iload_n hx hb dd_Checker_checkInstruction_120 rfl (lv_at hl 2 rfl) ?_
              rcases xp_try h with ⟨rx, u5, hq, h⟩ | ⟨kx, ux, hq, h⟩
              rotate_left
              · obtain ⟨rfl, rfl⟩ := xp_q h
                exact xk_up (xr_V (As := [.int a1, .int x0]) (rest := []) C hP hS (ct_Checker_checkReference htr hok hq) kq_Checker_209 55 1 rfl rfl ⟨rfl, rfl, Nat.le_of_ble_eq_true rfl, Nat.le_of_ble_eq_true rfl⟩ ⟨Nat.le_of_ble_eq_true rfl, Nat.le_of_ble_eq_true rfl⟩ hl.1 rfl rfl (Nat.le_of_ble_eq_true rfl) dd_Checker_checkInstruction_121) hS hne C.2.2.2.2.2.2.1
              refine xk_goesV (xr_V (As := [.int a1, .int x0]) (rest := []) C hP hS (ct_Checker_checkReference htr hok hq) kq_Checker_209 55 1 rfl rfl ⟨rfl, rfl, Nat.le_of_ble_eq_true rfl, Nat.le_of_ble_eq_true rfl⟩ ⟨Nat.le_of_ble_eq_true rfl, Nat.le_of_ble_eq_true rfl⟩ hl.1 rfl rfl (Nat.le_of_ble_eq_true rfl) dd_Checker_checkInstruction_121) hS (fun H locs hP hS => ?_)
              clear hq
              refine lv_goto (tgt := 219) hx hb dd_Checker_checkInstruction_124 (by decide) ?_
              obtain ⟨rfl, rfl⟩ := xp_r h
              exact xr_vret C hP hS dd_Checker_checkInstruction_219
          · have h := xp_f hc h
            refine lv_aload_n hx hb dd_Checker_checkInstruction_103 rfl (lv_at hl 1 rfl) ?_
            refine lv_iload_n hx hb dd_Checker_checkInstruction_104 rfl (lv_at hl 0 rfl) ?_
            rcases xp_try h with ⟨rx, u6, hq, h⟩ | ⟨kx, ux, hq, h⟩
            rotate_left
            · obtain ⟨rfl, rfl⟩ := xp_q h
              exact xk_up (xr_V (As := [.int a1]) (rest := []) C hP hS (ct_Checker_checkNumeric htr hok hq) kq_Checker_206 55 1 rfl rfl ⟨rfl, rfl, Nat.le_of_ble_eq_true rfl, Nat.le_of_ble_eq_true rfl⟩ ⟨Nat.le_of_ble_eq_true rfl, Nat.le_of_ble_eq_true rfl⟩ hl.1 rfl rfl (Nat.le_of_ble_eq_true rfl) dd_Checker_checkInstruction_105) hS hne C.2.2.2.2.2.2.1
            refine xk_goesV (xr_V (As := [.int a1]) (rest := []) C hP hS (ct_Checker_checkNumeric htr hok hq) kq_Checker_206 55 1 rfl rfl ⟨rfl, rfl, Nat.le_of_ble_eq_true rfl, Nat.le_of_ble_eq_true rfl⟩ ⟨Nat.le_of_ble_eq_true rfl, Nat.le_of_ble_eq_true rfl⟩ hl.1 rfl rfl (Nat.le_of_ble_eq_true rfl) dd_Checker_checkInstruction_105) hS (fun H locs hP hS => ?_)
            clear hq
            refine lv_goto (tgt := 219) hx hb dd_Checker_checkInstruction_108 (by decide) ?_
            obtain ⟨rfl, rfl⟩ := xp_r h
            exact xr_vret C hP hS dd_Checker_checkInstruction_219
        · have h := xp_f hc h
          refine lv_aload_n hx hb dd_Checker_checkInstruction_78 rfl (lv_at hl 1 rfl) ?_
          refine lv_iload_n hx hb dd_Checker_checkInstruction_79 rfl (lv_at hl 0 rfl) ?_
          refine lv_bipush (v := 65) hx hb dd_Checker_checkInstruction_80 (by decide) ?_
          refine lv_icmp_ne (tgt := 89) hx hb dd_Checker_checkInstruction_82 (by decide) (fun hc => ?_) (fun hc => ?_)
          · have h := xp_f hc h
            refine lv_iconst (v := 2) hx hb dd_Checker_checkInstruction_89 (by decide) ?_
            exact wj_Checker_checkInstruction_90 htr C hne h hP hS (lv_sub hl [] rfl)
          · have h := xp_t hc h
            refine lv_iconst (v := 1) hx hb dd_Checker_checkInstruction_85 (by decide) ?_
            refine lv_goto (tgt := 90) hx hb dd_Checker_checkInstruction_86 (by decide) ?_
            exact wj_Checker_checkInstruction_90 htr C hne h hP hS (lv_sub hl [] rfl)
      · have h := xp_f hc h
        refine lv_aload_n hx hb dd_Checker_checkInstruction_55 rfl (lv_at hl 1 rfl) ?_
        refine lv_iload_n hx hb dd_Checker_checkInstruction_56 rfl (lv_at hl 0 rfl) ?_
        refine lv_aload_n hx hb dd_Checker_checkInstruction_57 rfl (lv_at hl 1 rfl) ?_
        refine gf_h_Checker_55_code C hP dd_Checker_checkInstruction_58 ?_
        refine gf_h_Checker_12_first C hP dd_Checker_checkInstruction_61 ?_
        refine lv_iload_n hx hb dd_Checker_checkInstruction_64 rfl (lv_at hl 2 rfl) ?_
        obtain ⟨hi, h⟩ := xp_g h
        refine al_h_14 C hP hi dd_Checker_checkInstruction_65 ?_
        rcases xp_try h with ⟨rx, u8, hq, h⟩ | ⟨kx, ux, hq, h⟩
        rotate_left
        · obtain ⟨rfl, rfl⟩ := xp_q h
          exact xk_up (xr_V (As := [.int a1, .int (u.2.2.1 8 x0.toNatClampNeg)]) (rest := []) C hP hS (ct_Checker_checkMemory htr hok hq) kq_Checker_200 55 1 rfl rfl ⟨rfl, rfl, Nat.le_of_ble_eq_true rfl, Nat.le_of_ble_eq_true rfl⟩ ⟨Nat.le_of_ble_eq_true rfl, Nat.le_of_ble_eq_true rfl⟩ hl.1 rfl rfl (Nat.le_of_ble_eq_true rfl) dd_Checker_checkInstruction_66) hS hne C.2.2.2.2.2.2.1
        refine xk_goesV (xr_V (As := [.int a1, .int (u.2.2.1 8 x0.toNatClampNeg)]) (rest := []) C hP hS (ct_Checker_checkMemory htr hok hq) kq_Checker_200 55 1 rfl rfl ⟨rfl, rfl, Nat.le_of_ble_eq_true rfl, Nat.le_of_ble_eq_true rfl⟩ ⟨Nat.le_of_ble_eq_true rfl, Nat.le_of_ble_eq_true rfl⟩ hl.1 rfl rfl (Nat.le_of_ble_eq_true rfl) dd_Checker_checkInstruction_66) hS (fun H locs hP hS => ?_)
        clear hq
        refine lv_goto (tgt := 219) hx hb dd_Checker_checkInstruction_69 (by decide) ?_
        obtain ⟨rfl, rfl⟩ := xp_r h
        exact xr_vret C hP hS dd_Checker_checkInstruction_219
    · have h := xp_f hc h
      refine lv_aload_n hx hb dd_Checker_checkInstruction_31 rfl (lv_at hl 1 rfl) ?_
      refine lv_iload_n hx hb dd_Checker_checkInstruction_32 rfl (lv_at hl 0 rfl) ?_
      refine lv_aload_n hx hb dd_Checker_checkInstruction_33 rfl (lv_at hl 1 rfl) ?_
      refine gf_h_Checker_55_code C hP dd_Checker_checkInstruction_34 ?_
      refine gf_h_Checker_12_first C hP dd_Checker_checkInstruction_37 ?_
      refine lv_iload_n hx hb dd_Checker_checkInstruction_40 rfl (lv_at hl 2 rfl) ?_
      obtain ⟨hi, h⟩ := xp_g h
      refine al_h_14 C hP hi dd_Checker_checkInstruction_41 ?_
      refine lv_iload_n hx hb dd_Checker_checkInstruction_42 rfl (lv_at hl 2 rfl) ?_
      rcases xp_try h with ⟨rx, u9, hq, h⟩ | ⟨kx, ux, hq, h⟩
      rotate_left
      · obtain ⟨rfl, rfl⟩ := xp_q h
        exact xk_up (xr_V (As := [.int a1, .int (u.2.2.1 8 x0.toNatClampNeg), .int x0]) (rest := []) C hP hS (ct_Checker_checkSimple htr hok hq) kq_Checker_196 55 1 rfl rfl ⟨rfl, rfl, Nat.le_of_ble_eq_true rfl, Nat.le_of_ble_eq_true rfl⟩ ⟨Nat.le_of_ble_eq_true rfl, Nat.le_of_ble_eq_true rfl⟩ hl.1 rfl rfl (Nat.le_of_ble_eq_true rfl) dd_Checker_checkInstruction_43) hS hne C.2.2.2.2.2.2.1
      refine xk_goesV (xr_V (As := [.int a1, .int (u.2.2.1 8 x0.toNatClampNeg), .int x0]) (rest := []) C hP hS (ct_Checker_checkSimple htr hok hq) kq_Checker_196 55 1 rfl rfl ⟨rfl, rfl, Nat.le_of_ble_eq_true rfl, Nat.le_of_ble_eq_true rfl⟩ ⟨Nat.le_of_ble_eq_true rfl, Nat.le_of_ble_eq_true rfl⟩ hl.1 rfl rfl (Nat.le_of_ble_eq_true rfl) dd_Checker_checkInstruction_43) hS (fun H locs hP hS => ?_)
      clear hq
      refine lv_goto (tgt := 219) hx hb dd_Checker_checkInstruction_46 (by decide) ?_
      obtain ⟨rfl, rfl⟩ := xp_r h
      exact xr_vret C hP hS dd_Checker_checkInstruction_219
  · have h := xp_f hc h
    refine lv_aload_n hx hb dd_Checker_checkInstruction_16 rfl (lv_at hl 1 rfl) ?_
    refine lv_iload_n hx hb dd_Checker_checkInstruction_17 rfl (lv_at hl 0 rfl) ?_
    refine lv_iload_n hx hb dd_Checker_checkInstruction_18 rfl (lv_at hl 2 rfl) ?_
    rcases xp_try h with ⟨rx, u10, hq, h⟩ | ⟨kx, ux, hq, h⟩
    rotate_left
    · obtain ⟨rfl, rfl⟩ := xp_q h
      exact xk_up (xr_V (As := [.int a1, .int x0]) (rest := []) C hP hS (ct_Checker_checkControl htr hok hq) kq_Checker_191 55 1 rfl rfl ⟨rfl, rfl, Nat.le_of_ble_eq_true rfl, Nat.le_of_ble_eq_true rfl⟩ ⟨Nat.le_of_ble_eq_true rfl, Nat.le_of_ble_eq_true rfl⟩ hl.1 rfl rfl (Nat.le_of_ble_eq_true rfl) dd_Checker_checkInstruction_19) hS hne C.2.2.2.2.2.2.1
    refine xk_goesV (xr_V (As := [.int a1, .int x0]) (rest := []) C hP hS (ct_Checker_checkControl htr hok hq) kq_Checker_191 55 1 rfl rfl ⟨rfl, rfl, Nat.le_of_ble_eq_true rfl, Nat.le_of_ble_eq_true rfl⟩ ⟨Nat.le_of_ble_eq_true rfl, Nat.le_of_ble_eq_true rfl⟩ hl.1 rfl rfl (Nat.le_of_ble_eq_true rfl) dd_Checker_checkInstruction_19) hS (fun H locs hP hS => ?_)
    clear hq
    refine lv_goto (tgt := 219) hx hb dd_Checker_checkInstruction_22 (by decide) ?_
    obtain ⟨rfl, rfl⟩ := xp_r h
    exact xr_vret C hP hS dd_Checker_checkInstruction_219
abbrev rm_Checker_checkBody : Room := { frames := 12, cells := 1, slots := 6, locals := 233 }
noncomputable def jb_Checker_checkBody_139 (fu : Nat) (b1 : Int32) (u : xk_St) : Option ((Unit ⊕ Nat) × xk_St) :=
  (if b1 < 0 ∨ 65 ≤ b1.toNatClampNeg then none else xs_let (xs_A u 14 b1.toNatClampNeg (u.1 22)) fun u9 => some (.inl (()), u9))
noncomputable def jb_Checker_checkBody_108 (fu : Nat) : Nat → Int32 → Int32 → xk_St → Option ((Unit ⊕ Nat) × xk_St)
  | 0 => fun _ _ _ => none
  | n + 1 => fun b1 b4 u =>
    xs_let (jb_Checker_checkBody_108 fu  n) fun k108 =>
    if (u.1 8) ≤ b4 then (jb_Checker_checkBody_139 fu b1 u) else (if (u.1 21) ≤ (0 : Int32) then (jb_Checker_checkBody_139 fu b1 u) else ((xs_try (fm_Checker_checkInstruction fu b4 u) fun _ u10 => xs_let (b4 + (1 : Int32)) fun a11 => k108 b1 a11 u10)))
noncomputable def jb_Checker_checkBody_42 (fu : Nat) : Nat → Int32 → Int32 → Int32 → Int32 → xk_St → Option ((Unit ⊕ Nat) × xk_St)
  | 0 => fun _ _ _ _ _ => none
  | n + 1 => fun b1 b2 b3 b4 u =>
    xs_let (jb_Checker_checkBody_42 fu  n) fun k42 =>
    if (u.1 22) ≤ b4 then ((xs_let (xs_I u 19 (0 : Int32)) fun u4 => xs_let (xs_I u4 21 (0 : Int32)) fun u5 => if b3 < 0 ∨ 8192 ≤ b3.toNatClampNeg then none else xs_let (xs_A u5 8 b3.toNatClampNeg ((1024 : Int32) + b2)) fun u6 => xs_try (fm_Checker_openPart b3 u6) fun _ u7 => xs_let (b3 + (1 : Int32)) fun a8 => jb_Checker_checkBody_108 fu fu b1 a8 u7)) else ((xs_seq (fm_Types_member b2 b4 u) fun a12 u13 => if b4 < 0 ∨ 200 ≤ b4.toNatClampNeg then none else xs_let (xs_A u13 36 b4.toNatClampNeg a12) fun u14 => xs_let (b4 + (1 : Int32)) fun a15 => k42 b1 b2 b3 a15 u14))
noncomputable def fm_Checker_checkBody (fu : Nat) (x0 : Int32) (u : xk_St) : Option ((Unit ⊕ Nat) × xk_St) :=
  (if x0 < 0 ∨ 65 ≤ x0.toNatClampNeg then none else xs_let (u.2.2.1 12 x0.toNatClampNeg) fun a1 => if x0 < 0 ∨ 65 ≤ x0.toNatClampNeg then none else xs_let (u.2.2.1 13 x0.toNatClampNeg) fun a2 => if a1 < 0 ∨ 65 ≤ a1.toNatClampNeg then none else xs_let (xs_I u 22 (u.2.2.1 3 a1.toNatClampNeg)) fun u3 => jb_Checker_checkBody_42 fu fu x0 a1 a2 (0 : Int32) u3)
set_option maxHeartbeats 4000000 in
set_option maxRecDepth 100000 in
theorem wj_Checker_checkBody_139 {p : Program} {l : Launch} {e : Env} {s : State} {m : MethodId} {args : Array Value} {below : List Frame} {meth : Method} {c : Code} {D : va_G} {ad : Nat → Nat} {ca : Nat → ClassId} {ads : List Nat} {fu : Nat} (htr : l.stackTraces = false) (C : xk_C D kx_cl (kx_ty ca) (kw_h ad ca) ads "ModuleHouse$Checker" prog_2_method_12_code 5 none p e s m args meth c) (hne : c.exceptionTable.isEmpty = true) {u' : xk_St} {r : (Unit ⊕ Nat)} {b1 : Int32} {u : xk_St} {H : Heap} {locs : List Loc} {ls : Array Slot} (h : jb_Checker_checkBody_139 fu  b1 u = some (r, u')) (hP : va_P D kx_cl (kw_h ad ca u) H) (hS : va_S (xk_A ads s.heap.size) s.heap H locs) (hl : lv_has ls 5 [(0, .ref (ad 55)), (1, .int b1)]) : W p l e rm_Checker_checkBody s m args below meth c H locs 0 0 (xk_MQ below (xk_Qc D kx_cl (kw_h ad ca) ads (xo_v r) u') args s (xk_A ads s.heap.size)) (F0 m 139 ls []) := by
  have hx := C.1.1
  have hb := C.1.2.1
  have hok := C.2.2.1
  unfold jb_Checker_checkBody_139 at h
  refine lv_aload_n hx hb dd_Checker_checkBody_139 rfl (lv_at hl 0 rfl) ?_
  refine gf_h_Checker_55_module C hP dd_Checker_checkBody_140 ?_
  refine gf_h_Checker_4_functions C hP dd_Checker_checkBody_143 ?_
  refine gf_h_Checker_19_second C hP dd_Checker_checkBody_146 ?_
  refine lv_iload_n hx hb dd_Checker_checkBody_149 rfl (lv_at hl 1 rfl) ?_
  refine lv_aload_n hx hb dd_Checker_checkBody_150 rfl (lv_at hl 0 rfl) ?_
  refine gf_h_Checker_55_locals C hP dd_Checker_checkBody_151 ?_
  obtain ⟨hi, h⟩ := xp_g h
  refine as_h_22 C hP hS hi dd_Checker_checkBody_154 (fun H locs hP hS => ?_)
  obtain ⟨u9, eu9, h⟩ := xp_let h
  rw [← eu9] at hP
  obtain ⟨rfl, rfl⟩ := xp_r h
  exact xr_vret C hP hS dd_Checker_checkBody_155
set_option maxHeartbeats 4000000 in
set_option maxRecDepth 100000 in
theorem wj_Checker_checkBody_108 {p : Program} {l : Launch} {e : Env} {s : State} {m : MethodId} {args : Array Value} {below : List Frame} {meth : Method} {c : Code} {D : va_G} {ad : Nat → Nat} {ca : Nat → ClassId} {ads : List Nat} {fu : Nat} (htr : l.stackTraces = false) (C : xk_C D kx_cl (kx_ty ca) (kw_h ad ca) ads "ModuleHouse$Checker" prog_2_method_12_code 5 none p e s m args meth c) (hne : c.exceptionTable.isEmpty = true) {u' : xk_St} {r : (Unit ⊕ Nat)} : ∀ {n : Nat} {b1 : Int32} {b4 : Int32} {u : xk_St} {H : Heap} {locs : List Loc} {ls : Array Slot} (h : jb_Checker_checkBody_108 fu  n b1 b4 u = some (r, u')) (hP : va_P D kx_cl (kw_h ad ca u) H) (hS : va_S (xk_A ads s.heap.size) s.heap H locs) (hl : lv_has ls 5 [(0, .ref (ad 55)), (1, .int b1), (4, .int b4)]), W p l e rm_Checker_checkBody s m args below meth c H locs 0 0 (xk_MQ below (xk_Qc D kx_cl (kw_h ad ca) ads (xo_v r) u') args s (xk_A ads s.heap.size)) (F0 m 108 ls []) := by
  intro n
  have hx := C.1.1
  have hb := C.1.2.1
  have hok := C.2.2.1
  induction n with
  | zero =>
    intro _ _ u H locs ls h
    have h : none = some (r, u') := h
    cases h
  | succ n ih =>
    intro b1 b4 u H locs ls h hP hS hl
    unfold jb_Checker_checkBody_108 at h
    obtain ⟨k108, ek108, h⟩ := xp_let h
    have hk108 : ∀ (c0 : Int32) (c1 : Int32) (u : xk_St) (H : Heap) (locs : List Loc) (ls : Array Slot), k108 c0 c1 u = some (r, u') → va_P D kx_cl (kw_h ad ca u) H → va_S (xk_A ads s.heap.size) s.heap H locs → lv_has ls 5 [(0, .ref (ad 55)), (1, .int c0), (4, .int c1)] → W p l e rm_Checker_checkBody s m args below meth c H locs 0 0 (xk_MQ below (xk_Qc D kx_cl (kw_h ad ca) ads (xo_v r) u') args s (xk_A ads s.heap.size)) (F0 m 108 ls []) := by
      intro c0 c1 u H locs ls h hP hS hl
      subst ek108
      exact ih h hP hS hl
    clear ih ek108
    refine lv_iload hx hb dd_Checker_checkBody_108 (lv_at hl 2 rfl) ?_
    refine lv_aload_n hx hb dd_Checker_checkBody_110 rfl (lv_at hl 0 rfl) ?_
    refine gf_h_Checker_55_code C hP dd_Checker_checkBody_111 ?_
    refine gf_h_Checker_12_size C hP dd_Checker_checkBody_114 ?_
    refine lv_icmp_ge (tgt := 139) hx hb dd_Checker_checkBody_117 (by decide) (fun hc => ?_) (fun hc => ?_)
    · have h := xp_t hc h
      exact wj_Checker_checkBody_139 htr C hne h hP hS (lv_sub hl [0, 1] rfl)
    · have h := xp_f hc h
      refine lv_aload_n hx hb dd_Checker_checkBody_120 rfl (lv_at hl 0 rfl) ?_
      refine gf_h_Checker_55_depth C hP dd_Checker_checkBody_121 ?_
      refine lv_if_le (tgt := 139) hx hb dd_Checker_checkBody_124 (by decide) (fun hc => ?_) (fun hc => ?_)
      · have h := xp_t hc h
        exact wj_Checker_checkBody_139 htr C hne h hP hS (lv_sub hl [0, 1] rfl)
      · have h := xp_f hc h
        refine lv_aload_n hx hb dd_Checker_checkBody_127 rfl (lv_at hl 0 rfl) ?_
        refine lv_iload hx hb dd_Checker_checkBody_128 (lv_at hl 2 rfl) ?_
        rcases xp_try h with ⟨rx, u10, hq, h⟩ | ⟨kx, ux, hq, h⟩
        rotate_left
        · obtain ⟨rfl, rfl⟩ := xp_q h
          exact xk_up (xr_V (As := [.int b4]) (rest := []) C hP hS (ct_Checker_checkInstruction htr hok hq) kq_Checker_184 55 1 rfl rfl ⟨rfl, rfl, Nat.le_of_ble_eq_true rfl, Nat.le_of_ble_eq_true rfl⟩ ⟨Nat.le_of_ble_eq_true rfl, Nat.le_of_ble_eq_true rfl⟩ hl.1 rfl rfl (Nat.le_of_ble_eq_true rfl) dd_Checker_checkBody_130) hS hne C.2.2.2.2.2.2.1
        refine xk_goesV (xr_V (As := [.int b4]) (rest := []) C hP hS (ct_Checker_checkInstruction htr hok hq) kq_Checker_184 55 1 rfl rfl ⟨rfl, rfl, Nat.le_of_ble_eq_true rfl, Nat.le_of_ble_eq_true rfl⟩ ⟨Nat.le_of_ble_eq_true rfl, Nat.le_of_ble_eq_true rfl⟩ hl.1 rfl rfl (Nat.le_of_ble_eq_true rfl) dd_Checker_checkBody_130) hS (fun H locs hP hS => ?_)
        clear hq
        obtain ⟨a11, ea11, h⟩ := xp_let h
        refine lv_iinc (v := a11) (lv' := [(4, .int a11), (0, .ref (ad 55)), (1, .int b1)]) hx hb dd_Checker_checkBody_133 hl (k := 2) rfl (by rw [ea11]; first | rfl | decide) (by decide) rfl (fun ls hl => ?_)
        refine lv_goto (tgt := 108) hx hb dd_Checker_checkBody_136 (by decide) ?_
        exact hk108 b1 a11 u10 _ _ _ h hP hS (lv_sub hl [1, 2, 0] rfl)
set_option maxHeartbeats 4000000 in
set_option maxRecDepth 100000 in
theorem wj_Checker_checkBody_42 {p : Program} {l : Launch} {e : Env} {s : State} {m : MethodId} {args : Array Value} {below : List Frame} {meth : Method} {c : Code} {D : va_G} {ad : Nat → Nat} {ca : Nat → ClassId} {ads : List Nat} {fu : Nat} (htr : l.stackTraces = false) (C : xk_C D kx_cl (kx_ty ca) (kw_h ad ca) ads "ModuleHouse$Checker" prog_2_method_12_code 5 none p e s m args meth c) (hne : c.exceptionTable.isEmpty = true) {u' : xk_St} {r : (Unit ⊕ Nat)} : ∀ {n : Nat} {b1 : Int32} {b2 : Int32} {b3 : Int32} {b4 : Int32} {u : xk_St} {H : Heap} {locs : List Loc} {ls : Array Slot} (h : jb_Checker_checkBody_42 fu  n b1 b2 b3 b4 u = some (r, u')) (hP : va_P D kx_cl (kw_h ad ca u) H) (hS : va_S (xk_A ads s.heap.size) s.heap H locs) (hl : lv_has ls 5 [(0, .ref (ad 55)), (1, .int b1), (2, .int b2), (3, .int b3), (4, .int b4)]), W p l e rm_Checker_checkBody s m args below meth c H locs 0 0 (xk_MQ below (xk_Qc D kx_cl (kw_h ad ca) ads (xo_v r) u') args s (xk_A ads s.heap.size)) (F0 m 42 ls []) := by
  intro n
  have hx := C.1.1
  have hb := C.1.2.1
  have hok := C.2.2.1
  induction n with
  | zero =>
    intro _ _ _ _ u H locs ls h
    have h : none = some (r, u') := h
    cases h
  | succ n ih =>
    intro b1 b2 b3 b4 u H locs ls h hP hS hl
    unfold jb_Checker_checkBody_42 at h
    obtain ⟨k42, ek42, h⟩ := xp_let h
    have hk42 : ∀ (c0 : Int32) (c1 : Int32) (c2 : Int32) (c3 : Int32) (u : xk_St) (H : Heap) (locs : List Loc) (ls : Array Slot), k42 c0 c1 c2 c3 u = some (r, u') → va_P D kx_cl (kw_h ad ca u) H → va_S (xk_A ads s.heap.size) s.heap H locs → lv_has ls 5 [(0, .ref (ad 55)), (1, .int c0), (2, .int c1), (3, .int c2), (4, .int c3)] → W p l e rm_Checker_checkBody s m args below meth c H locs 0 0 (xk_MQ below (xk_Qc D kx_cl (kw_h ad ca) ads (xo_v r) u') args s (xk_A ads s.heap.size)) (F0 m 42 ls []) := by
      intro c0 c1 c2 c3 u H locs ls h hP hS hl
      subst ek42
      exact ih h hP hS hl
    clear ih ek42
    refine lv_iload hx hb dd_Checker_checkBody_42 (lv_at hl 4 rfl) ?_
    refine lv_aload_n hx hb dd_Checker_checkBody_44 rfl (lv_at hl 0 rfl) ?_
    refine gf_h_Checker_55_locals C hP dd_Checker_checkBody_45 ?_
    refine lv_icmp_ge (tgt := 74) hx hb dd_Checker_checkBody_48 (by decide) (fun hc => ?_) (fun hc => ?_)
    · have h := xp_t hc h
      refine lv_aload_n hx hb dd_Checker_checkBody_74 rfl (lv_at hl 0 rfl) ?_
      refine lv_iconst (v := 0) hx hb dd_Checker_checkBody_75 (by decide) ?_
      refine pf_h_Checker_55_height C hP hS dd_Checker_checkBody_76 (fun H locs hP hS => ?_)
      obtain ⟨u4, eu4, h⟩ := xp_let h
      rw [← eu4] at hP
      refine lv_aload_n hx hb dd_Checker_checkBody_79 rfl (lv_at hl 0 rfl) ?_
      refine lv_iconst (v := 0) hx hb dd_Checker_checkBody_80 (by decide) ?_
      refine pf_h_Checker_55_depth C hP hS dd_Checker_checkBody_81 (fun H locs hP hS => ?_)
      obtain ⟨u5, eu5, h⟩ := xp_let h
      rw [← eu5] at hP
      refine lv_aload_n hx hb dd_Checker_checkBody_84 rfl (lv_at hl 0 rfl) ?_
      refine gf_h_Checker_55_code C hP dd_Checker_checkBody_85 ?_
      refine gf_h_Checker_12_first C hP dd_Checker_checkBody_88 ?_
      refine lv_iload_n hx hb dd_Checker_checkBody_91 rfl (lv_at hl 3 rfl) ?_
      refine lv_sipush (v := 1024) hx hb dd_Checker_checkBody_92 (by decide) ?_
      refine lv_iload_n hx hb dd_Checker_checkBody_95 rfl (lv_at hl 2 rfl) ?_
      refine lv_iadd hx hb dd_Checker_checkBody_96 ?_
      obtain ⟨hi, h⟩ := xp_g h
      refine as_h_14 C hP hS hi dd_Checker_checkBody_97 (fun H locs hP hS => ?_)
      obtain ⟨u6, eu6, h⟩ := xp_let h
      rw [← eu6] at hP
      refine lv_aload_n hx hb dd_Checker_checkBody_98 rfl (lv_at hl 0 rfl) ?_
      refine lv_iload_n hx hb dd_Checker_checkBody_99 rfl (lv_at hl 3 rfl) ?_
      rcases xp_try h with ⟨rx, u7, hq, h⟩ | ⟨kx, ux, hq, h⟩
      rotate_left
      · obtain ⟨rfl, rfl⟩ := xp_q h
        exact xk_up (xr_V (As := [.int b3]) (rest := []) C hP hS (ct_Checker_openPart htr hok hq) kq_Checker_177 55 1 rfl rfl ⟨rfl, rfl, Nat.le_of_ble_eq_true rfl, Nat.le_of_ble_eq_true rfl⟩ ⟨Nat.le_of_ble_eq_true rfl, Nat.le_of_ble_eq_true rfl⟩ hl.1 rfl rfl (Nat.le_of_ble_eq_true rfl) dd_Checker_checkBody_100) hS hne C.2.2.2.2.2.2.1
      refine xk_goesV (xr_V (As := [.int b3]) (rest := []) C hP hS (ct_Checker_openPart htr hok hq) kq_Checker_177 55 1 rfl rfl ⟨rfl, rfl, Nat.le_of_ble_eq_true rfl, Nat.le_of_ble_eq_true rfl⟩ ⟨Nat.le_of_ble_eq_true rfl, Nat.le_of_ble_eq_true rfl⟩ hl.1 rfl rfl (Nat.le_of_ble_eq_true rfl) dd_Checker_checkBody_100) hS (fun H locs hP hS => ?_)
      clear hq
      refine lv_iload_n hx hb dd_Checker_checkBody_103 rfl (lv_at hl 3 rfl) ?_
      refine lv_iconst (v := 1) hx hb dd_Checker_checkBody_104 (by decide) ?_
      refine lv_iadd hx hb dd_Checker_checkBody_105 ?_
      obtain ⟨a8, ea8, h⟩ := xp_let h
      refine xr_nami ea8 ?_
      refine lv_istore (lv' := [(4, .int a8), (0, .ref (ad 55)), (1, .int b1), (2, .int b2), (3, .int b3)]) hx hb dd_Checker_checkBody_106 hl (by decide) rfl (fun ls hl => ?_)
      exact wj_Checker_checkBody_108 htr C hne h hP hS (lv_sub hl [1, 2, 0] rfl)
    · have h := xp_f hc h
      refine lv_aload_n hx hb dd_Checker_checkBody_51 rfl (lv_at hl 0 rfl) ?_
      refine gf_h_Checker_55_local C hP dd_Checker_checkBody_52 ?_
      refine lv_iload hx hb dd_Checker_checkBody_55 (lv_at hl 4 rfl) ?_
      refine lv_aload_n hx hb dd_Checker_checkBody_57 rfl (lv_at hl 0 rfl) ?_
      refine gf_h_Checker_55_types C hP dd_Checker_checkBody_58 ?_
      refine lv_iload_n hx hb dd_Checker_checkBody_61 rfl (lv_at hl 2 rfl) ?_
      refine lv_iload hx hb dd_Checker_checkBody_62 (lv_at hl 4 rfl) ?_
      obtain ⟨a12, u13, hq, h⟩ := xp_seq h
      refine xk_goesI (xr_V (As := [.int b2, .int b4]) (rest := [.int b4, .ref (ad 59)]) C hP hS (ct_Types_member htr hok hq) kq_Checker_107 6 9 rfl rfl ⟨rfl, rfl, Nat.le_of_ble_eq_true rfl, Nat.le_of_ble_eq_true rfl⟩ ⟨Nat.le_of_ble_eq_true rfl, Nat.le_of_ble_eq_true rfl⟩ hl.1 rfl rfl (Nat.le_of_ble_eq_true rfl) dd_Checker_checkBody_64) hS (fun H locs hP hS => ?_)
      clear hq
      obtain ⟨hi, h⟩ := xp_g h
      refine as_h_59 C hP hS hi dd_Checker_checkBody_67 (fun H locs hP hS => ?_)
      obtain ⟨u14, eu14, h⟩ := xp_let h
      rw [← eu14] at hP
      obtain ⟨a15, ea15, h⟩ := xp_let h
      refine lv_iinc (v := a15) (lv' := [(4, .int a15), (0, .ref (ad 55)), (1, .int b1), (2, .int b2), (3, .int b3)]) hx hb dd_Checker_checkBody_68 hl (k := 4) rfl (by rw [ea15]; first | rfl | decide) (by decide) rfl (fun ls hl => ?_)
      refine lv_goto (tgt := 42) hx hb dd_Checker_checkBody_71 (by decide) ?_
      exact hk42 b1 b2 b3 a15 u14 _ _ _ h hP hS (lv_sub hl [1, 2, 3, 4, 0] rfl)
set_option maxHeartbeats 4000000 in
set_option maxRecDepth 100000 in
theorem ct_Checker_checkBody {l : Launch} {D : va_G} {ad : Nat → Nat} {ca : Nat → ClassId} {ads : List Nat} (htr : l.stackTraces = false) (hok : xk_ok (kw_h ad ca) ads) {fu : Nat} {x0 : Int32} {u u' : xk_St} {r : (Unit ⊕ Nat)} (h : fm_Checker_checkBody fu x0 u = some (r, u')) :
    ∀ sz, xk_Met l ⟨"ModuleHouse$Checker", "checkBody", "(I)V"⟩ (Cond.code ⟨"ModuleHouse$Checker", "checkBody", "(I)V"⟩ prog_2_method_12_code 5 none :: xk_gd) rm_Checker_checkBody (xk_Pc D kx_cl (kx_ty ca) (kw_h ad ca) ads xk_F sz [.ref (ad 55), .int x0] u) (xk_Qc D kx_cl (kw_h ad ca) ads (xo_v r) u') (xk_A ads sz) := by
  unfold fm_Checker_checkBody at h
  refine xk_con (by decide) htr hok (Nat.le_of_ble_eq_true rfl) (fun p e s m below meth c ls C hne hl hP => ?_)
  have hx := C.1.1
  have hb := C.1.2.1
  have hS : va_S (xk_A ads s.heap.size) s.heap s.heap [] := va_S.rf
  have hl : lv_has ls 5 [(0, .ref (ad 55)), (1, .int x0)] := hl
  refine lv_aload_n hx hb dd_Checker_checkBody_0 rfl (lv_at hl 0 rfl) ?_
  refine gf_h_Checker_55_module C hP dd_Checker_checkBody_1 ?_
  refine gf_h_Checker_4_functions C hP dd_Checker_checkBody_4 ?_
  refine gf_h_Checker_19_kind C hP dd_Checker_checkBody_7 ?_
  refine lv_iload_n hx hb dd_Checker_checkBody_10 rfl (lv_at hl 1 rfl) ?_
  obtain ⟨hi, h⟩ := xp_g h
  refine al_h_20 C hP hi dd_Checker_checkBody_11 ?_
  obtain ⟨a1, ea1, h⟩ := xp_let h
  refine xr_nami ea1 ?_
  refine lv_istore_n (lv' := [(2, .int a1), (0, .ref (ad 55)), (1, .int x0)]) hx hb dd_Checker_checkBody_12 rfl hl (by decide) rfl (fun ls hl => ?_)
  refine lv_aload_n hx hb dd_Checker_checkBody_13 rfl (lv_at hl 1 rfl) ?_
  refine gf_h_Checker_55_module C hP dd_Checker_checkBody_14 ?_
  refine gf_h_Checker_4_functions C hP dd_Checker_checkBody_17 ?_
  refine gf_h_Checker_19_first C hP dd_Checker_checkBody_20 ?_
  refine lv_iload_n hx hb dd_Checker_checkBody_23 rfl (lv_at hl 2 rfl) ?_
  obtain ⟨hi, h⟩ := xp_g h
  refine al_h_21 C hP hi dd_Checker_checkBody_24 ?_
  obtain ⟨a2, ea2, h⟩ := xp_let h
  refine xr_nami ea2 ?_
  refine lv_istore_n (lv' := [(3, .int a2), (2, .int a1), (0, .ref (ad 55)), (1, .int x0)]) hx hb dd_Checker_checkBody_25 rfl hl (by decide) rfl (fun ls hl => ?_)
  refine lv_aload_n hx hb dd_Checker_checkBody_26 rfl (lv_at hl 2 rfl) ?_
  refine lv_aload_n hx hb dd_Checker_checkBody_27 rfl (lv_at hl 2 rfl) ?_
  refine gf_h_Checker_55_types C hP dd_Checker_checkBody_28 ?_
  refine gf_h_Checker_6_members C hP dd_Checker_checkBody_31 ?_
  refine lv_iload_n hx hb dd_Checker_checkBody_34 rfl (lv_at hl 1 rfl) ?_
  obtain ⟨hi, h⟩ := xp_g h
  refine al_h_8 C hP hi dd_Checker_checkBody_35 ?_
  refine pf_h_Checker_55_locals C hP hS dd_Checker_checkBody_36 (fun H locs hP hS => ?_)
  obtain ⟨u3, eu3, h⟩ := xp_let h
  rw [← eu3] at hP
  refine lv_iconst (v := 0) hx hb dd_Checker_checkBody_39 (by decide) ?_
  refine lv_istore (lv' := [(4, .int (0 : Int32)), (3, .int a2), (2, .int a1), (0, .ref (ad 55)), (1, .int x0)]) hx hb dd_Checker_checkBody_40 hl (by decide) rfl (fun ls hl => ?_)
  exact wj_Checker_checkBody_42 htr C hne h hP hS (lv_sub hl [3, 4, 2, 1, 0] rfl)
abbrev rm_Arrays_fill_AII__h79 : Room := { frames := 1, cells := 1, slots := 6, locals := 0 }
noncomputable def jb_Arrays_fill_AII__h79_5 (fu : Nat) : Nat → Int32 → Int32 → Int32 → xk_St → Option (Unit × xk_St)
  | 0 => fun _ _ _ _ => none
  | n + 1 => fun b1 b2 b3 u =>
    xs_let (jb_Arrays_fill_AII__h79_5 fu  n) fun k5 =>
    if b3 ≤ b2 then (some ((()), u)) else ((if b2 < 0 ∨ 64 ≤ b2.toNatClampNeg then none else xs_let (xs_A u 47 b2.toNatClampNeg b1) fun u1 => xs_let (b2 + (1 : Int32)) fun a2 => k5 b1 a2 b3 u1))
noncomputable def fm_Arrays_fill_AII__h79 (fu : Nat) (x1 : Int32) (u : xk_St) : Option (Unit × xk_St) :=
  jb_Arrays_fill_AII__h79_5 fu fu x1 (0 : Int32) (64 : Int32) u
set_option maxHeartbeats 4000000 in
set_option maxRecDepth 100000 in
theorem wj_Arrays_fill_AII__h79_5 {p : Program} {l : Launch} {e : Env} {s : State} {m : MethodId} {args : Array Value} {below : List Frame} {meth : Method} {c : Code} {D : va_G} {ad : Nat → Nat} {ca : Nat → ClassId} {ads : List Nat} {fu : Nat} (htr : l.stackTraces = false) (C : xk_C D kx_cl (kx_ty ca) (kw_h ad ca) ads "java/util/Arrays" prog_31_method_103_code 4 none p e s m args meth c) (hne : c.exceptionTable.isEmpty = true) {u' : xk_St} {r : Unit} : ∀ {n : Nat} {b1 : Int32} {b2 : Int32} {b3 : Int32} {u : xk_St} {H : Heap} {locs : List Loc} {ls : Array Slot} (h : jb_Arrays_fill_AII__h79_5 fu  n b1 b2 b3 u = some (r, u')) (hP : va_P D kx_cl (kw_h ad ca u) H) (hS : va_S (xk_A ads s.heap.size) s.heap H locs) (hl : lv_has ls 4 [(0, .ref (ad 79)), (1, .int b1), (2, .int b2), (3, .int b3)]), W p l e rm_Arrays_fill_AII__h79 s m args below meth c H locs 0 0 (xk_MQ below (xk_Qc D kx_cl (kw_h ad ca) ads (xo_v (.inl r)) u') args s (xk_A ads s.heap.size)) (F0 m 5 ls []) := by
  intro n
  have hx := C.1.1
  have hb := C.1.2.1
  have hok := C.2.2.1
  induction n with
  | zero =>
    intro _ _ _ u H locs ls h
    have h : none = some (r, u') := h
    cases h
  | succ n ih =>
    intro b1 b2 b3 u H locs ls h hP hS hl
    unfold jb_Arrays_fill_AII__h79_5 at h
    obtain ⟨k5, ek5, h⟩ := xp_let h
    have hk5 : ∀ (c0 : Int32) (c1 : Int32) (c2 : Int32) (u : xk_St) (H : Heap) (locs : List Loc) (ls : Array Slot), k5 c0 c1 c2 u = some (r, u') → va_P D kx_cl (kw_h ad ca u) H → va_S (xk_A ads s.heap.size) s.heap H locs → lv_has ls 4 [(0, .ref (ad 79)), (1, .int c0), (2, .int c1), (3, .int c2)] → W p l e rm_Arrays_fill_AII__h79 s m args below meth c H locs 0 0 (xk_MQ below (xk_Qc D kx_cl (kw_h ad ca) ads (xo_v (.inl r)) u') args s (xk_A ads s.heap.size)) (F0 m 5 ls []) := by
      intro c0 c1 c2 u H locs ls h hP hS hl
      subst ek5
      exact ih h hP hS hl
    clear ih ek5
    refine lv_iload_n hx hb dd_Arrays_fill_AII_5 rfl (lv_at hl 2 rfl) ?_
    refine lv_iload_n hx hb dd_Arrays_fill_AII_6 rfl (lv_at hl 3 rfl) ?_
    refine lv_icmp_ge (tgt := 20) hx hb dd_Arrays_fill_AII_7 (by decide) (fun hc => ?_) (fun hc => ?_)
    · have h := xp_t hc h
      obtain ⟨rfl, rfl⟩ := xp_r h
      exact xr_vret C hP hS dd_Arrays_fill_AII_20
    · have h := xp_f hc h
      refine lv_aload_n hx hb dd_Arrays_fill_AII_10 rfl (lv_at hl 0 rfl) ?_
      refine lv_iload_n hx hb dd_Arrays_fill_AII_11 rfl (lv_at hl 2 rfl) ?_
      refine lv_iload_n hx hb dd_Arrays_fill_AII_12 rfl (lv_at hl 1 rfl) ?_
      obtain ⟨hi, h⟩ := xp_g h
      refine as_h_79 C hP hS hi dd_Arrays_fill_AII_13 (fun H locs hP hS => ?_)
      obtain ⟨u1, eu1, h⟩ := xp_let h
      rw [← eu1] at hP
      obtain ⟨a2, ea2, h⟩ := xp_let h
      refine lv_iinc (v := a2) (lv' := [(2, .int a2), (0, .ref (ad 79)), (1, .int b1), (3, .int b3)]) hx hb dd_Arrays_fill_AII_14 hl (k := 2) rfl (by rw [ea2]; first | rfl | decide) (by decide) rfl (fun ls hl => ?_)
      refine lv_goto (tgt := 5) hx hb dd_Arrays_fill_AII_17 (by decide) ?_
      exact hk5 b1 a2 b3 u1 _ _ _ h hP hS (lv_sub hl [1, 2, 0, 3] rfl)
set_option maxHeartbeats 4000000 in
set_option maxRecDepth 100000 in
theorem ct_Arrays_fill_AII__h79 {l : Launch} {D : va_G} {ad : Nat → Nat} {ca : Nat → ClassId} {ads : List Nat} (htr : l.stackTraces = false) (hok : xk_ok (kw_h ad ca) ads) {fu : Nat} {x1 : Int32} {u u' : xk_St} {r : Unit} (h : fm_Arrays_fill_AII__h79 fu x1 u = some (r, u')) :
    ∀ sz, xk_Met l ⟨"java/util/Arrays", "fill", "([II)V"⟩ (Cond.code ⟨"java/util/Arrays", "fill", "([II)V"⟩ prog_31_method_103_code 4 none :: xk_gd) rm_Arrays_fill_AII__h79 (xk_Pc D kx_cl (kx_ty ca) (kw_h ad ca) ads xk_F sz [.ref (ad 79), .int x1] u) (xk_Qc D kx_cl (kw_h ad ca) ads (xo_v (.inl r)) u') (xk_A ads sz) := by
  unfold fm_Arrays_fill_AII__h79 at h
  refine xk_con (by decide) htr hok (Nat.le_of_ble_eq_true rfl) (fun p e s m below meth c ls C hne hl hP => ?_)
  have hx := C.1.1
  have hb := C.1.2.1
  have hS : va_S (xk_A ads s.heap.size) s.heap s.heap [] := va_S.rf
  have hl : lv_has ls 4 [(0, .ref (ad 79)), (1, .int x1)] := hl
  refine lv_iconst (v := 0) hx hb dd_Arrays_fill_AII_0 (by decide) ?_
  refine lv_istore_n (lv' := [(2, .int (0 : Int32)), (0, .ref (ad 79)), (1, .int x1)]) hx hb dd_Arrays_fill_AII_1 rfl hl (by decide) rfl (fun ls hl => ?_)
  refine lv_aload_n hx hb dd_Arrays_fill_AII_2 rfl (lv_at hl 1 rfl) ?_
  refine va_alen (v := 64) hx hb C.2.1 hP 79 1 rfl rfl rfl dd_Arrays_fill_AII_3 ?_
  refine lv_istore_n (lv' := [(3, .int (64 : Int32)), (2, .int (0 : Int32)), (0, .ref (ad 79)), (1, .int x1)]) hx hb dd_Arrays_fill_AII_4 rfl hl (by decide) rfl (fun ls hl => ?_)
  exact wj_Arrays_fill_AII__h79_5 htr C hne h hP hS (lv_sub hl [2, 3, 1, 0] rfl)
abbrev rm_Machine_placeElements : Room := { frames := 2, cells := 1, slots := 6, locals := 60 }
noncomputable def jb_Machine_placeElements_10 (fu : Nat) : Nat → Int32 → xk_St → Option (Int32 × xk_St)
  | 0 => fun _ _ => none
  | n + 1 => fun b2 u =>
    xs_let (jb_Machine_placeElements_10 fu  n) fun k10 =>
    if (u.1 15) ≤ b2 then (some ((0 : Int32), u)) else ((if b2 < 0 ∨ 65 ≤ b2.toNatClampNeg then none else xs_let (u.2.2.1 29 b2.toNatClampNeg) fun a1 => if b2 < 0 ∨ 65 ≤ b2.toNatClampNeg then none else xs_seq (fm_Mod_tablePlaces u) fun a2 u3 => if ((u.2.2.2 8 b2.toNatClampNeg) + (a1.toInt64)) ≤ (a2.toInt64) then ((if b2 < 0 ∨ 65 ≤ b2.toNatClampNeg then none else if b2 < 0 ∨ 65 ≤ b2.toNatClampNeg then none else if (u3.2.2.1 28 b2.toNatClampNeg) < 0 ∨ ((u3.2.2.2 8 b2.toNatClampNeg).toInt32) < 0 ∨ a1 < 0 ∨ 8192 < (u3.2.2.1 28 b2.toNatClampNeg).toNatClampNeg + a1.toNatClampNeg ∨ 64 < ((u3.2.2.2 8 b2.toNatClampNeg).toInt32).toNatClampNeg + a1.toNatClampNeg then none else xs_let (xs_AA u3 47 (va_cpy (u3.2.2.1 11) (u3.2.2.1 47) (u3.2.2.1 28 b2.toNatClampNeg).toNatClampNeg ((u3.2.2.2 8 b2.toNatClampNeg).toInt32).toNatClampNeg a1.toNatClampNeg)) fun u4 => xs_let (b2 + (1 : Int32)) fun a5 => k10 a5 u4)) else (some ((5 : Int32), u3))))
noncomputable def fm_Machine_placeElements (fu : Nat) (u : xk_St) : Option (Int32 × xk_St) :=
  jb_Machine_placeElements_10 fu fu (0 : Int32) u
set_option maxHeartbeats 4000000 in
set_option maxRecDepth 100000 in
theorem wj_Machine_placeElements_10 {p : Program} {l : Launch} {e : Env} {s : State} {m : MethodId} {args : Array Value} {below : List Frame} {meth : Method} {c : Code} {D : va_G} {ad : Nat → Nat} {ca : Nat → ClassId} {ads : List Nat} {fu : Nat} (htr : l.stackTraces = false) (C : xk_C D kx_cl (kx_ty ca) (kw_h ad ca) ads "ModuleHouse$Machine" prog_5_method_4_code 4 (some .int) p e s m args meth c) (hne : c.exceptionTable.isEmpty = true) {u' : xk_St} {r : Int32} : ∀ {n : Nat} {b2 : Int32} {u : xk_St} {H : Heap} {locs : List Loc} {ls : Array Slot} (h : jb_Machine_placeElements_10 fu  n b2 u = some (r, u')) (hP : va_P D kx_cl (kw_h ad ca u) H) (hS : va_S (xk_A ads s.heap.size) s.heap H locs) (hl : lv_has ls 4 [(0, .ref (ad 60)), (1, .ref (ad 44)), (2, .int b2)]), W p l e rm_Machine_placeElements s m args below meth c H locs 0 0 (xk_MQ below (xk_Qc D kx_cl (kw_h ad ca) ads (xo_i (.inl r)) u') args s (xk_A ads s.heap.size)) (F0 m 10 ls []) := by
  intro n
  have hx := C.1.1
  have hb := C.1.2.1
  have hok := C.2.2.1
  induction n with
  | zero =>
    intro _ u H locs ls h
    have h : none = some (r, u') := h
    cases h
  | succ n ih =>
    intro b2 u H locs ls h hP hS hl
    unfold jb_Machine_placeElements_10 at h
    obtain ⟨k10, ek10, h⟩ := xp_let h
    have hk10 : ∀ (c0 : Int32) (u : xk_St) (H : Heap) (locs : List Loc) (ls : Array Slot), k10 c0 u = some (r, u') → va_P D kx_cl (kw_h ad ca u) H → va_S (xk_A ads s.heap.size) s.heap H locs → lv_has ls 4 [(0, .ref (ad 60)), (1, .ref (ad 44)), (2, .int c0)] → W p l e rm_Machine_placeElements s m args below meth c H locs 0 0 (xk_MQ below (xk_Qc D kx_cl (kw_h ad ca) ads (xo_i (.inl r)) u') args s (xk_A ads s.heap.size)) (F0 m 10 ls []) := by
      intro c0 u H locs ls h hP hS hl
      subst ek10
      exact ih h hP hS hl
    clear ih ek10
    refine lv_iload_n hx hb dd_Machine_placeElements_10 rfl (lv_at hl 2 rfl) ?_
    refine lv_aload_n hx hb dd_Machine_placeElements_11 rfl (lv_at hl 1 rfl) ?_
    refine gf_h_Machine_44_count C hP dd_Machine_placeElements_12 ?_
    refine lv_icmp_ge (tgt := 82) hx hb dd_Machine_placeElements_15 (by decide) (fun hc => ?_) (fun hc => ?_)
    · have h := xp_t hc h
      refine lv_iconst (v := 0) hx hb dd_Machine_placeElements_82 (by decide) ?_
      obtain ⟨rfl, rfl⟩ := xp_r h
      exact xr_iret C hP hS dd_Machine_placeElements_83
    · have h := xp_f hc h
      refine lv_aload_n hx hb dd_Machine_placeElements_18 rfl (lv_at hl 1 rfl) ?_
      refine gf_h_Machine_44_second C hP dd_Machine_placeElements_19 ?_
      refine lv_iload_n hx hb dd_Machine_placeElements_22 rfl (lv_at hl 2 rfl) ?_
      obtain ⟨hi, h⟩ := xp_g h
      refine al_h_47 C hP hi dd_Machine_placeElements_23 ?_
      obtain ⟨a1, ea1, h⟩ := xp_let h
      refine xr_nami ea1 ?_
      refine lv_istore_n (lv' := [(3, .int a1), (0, .ref (ad 60)), (1, .ref (ad 44)), (2, .int b2)]) hx hb dd_Machine_placeElements_24 rfl hl (by decide) rfl (fun ls hl => ?_)
      refine lv_aload_n hx hb dd_Machine_placeElements_25 rfl (lv_at hl 2 rfl) ?_
      refine gf_h_Machine_44_number C hP dd_Machine_placeElements_26 ?_
      refine lv_iload_n hx hb dd_Machine_placeElements_29 rfl (lv_at hl 3 rfl) ?_
      obtain ⟨hi, h⟩ := xp_g h
      refine al_h_48 C hP hi dd_Machine_placeElements_30 ?_
      refine lv_iload_n hx hb dd_Machine_placeElements_31 rfl (lv_at hl 0 rfl) ?_
      refine lv_i2l hx hb dd_Machine_placeElements_32 rfl ?_
      refine lv_ladd hx hb dd_Machine_placeElements_33 ?_
      refine lv_aload_n hx hb dd_Machine_placeElements_34 rfl (lv_at hl 1 rfl) ?_
      refine gf_h_Machine_60_module C hP dd_Machine_placeElements_35 ?_
      obtain ⟨a2, u3, hq, h⟩ := xp_seq h
      refine xk_goesI (xr_V (As := []) (rest := [.long ((u.2.2.2 8 b2.toNatClampNeg) + (a1.toInt64))]) C hP hS (ct_Mod_tablePlaces htr hok hq) kq_Machine_131 4 6 rfl rfl ⟨rfl, rfl, Nat.le_of_ble_eq_true rfl, Nat.le_of_ble_eq_true rfl⟩ ⟨Nat.le_of_ble_eq_true rfl, Nat.le_of_ble_eq_true rfl⟩ hl.1 rfl rfl (Nat.le_of_ble_eq_true rfl) dd_Machine_placeElements_38) hS (fun H locs hP hS => ?_)
      clear hq
      refine lv_i2l hx hb dd_Machine_placeElements_41 rfl ?_
      refine xr_lc_le (tgt := 48) hx hb dd_Machine_placeElements_42 dd_Machine_placeElements_43 (by decide) (fun hc => ?_) (fun hc => ?_)
      · have h := xp_t hc h
        refine lv_aload_n hx hb dd_Machine_placeElements_48 rfl (lv_at hl 1 rfl) ?_
        refine gf_h_Machine_60_code C hP dd_Machine_placeElements_49 ?_
        refine gf_h_Machine_12_numbers C hP dd_Machine_placeElements_52 ?_
        refine lv_aload_n hx hb dd_Machine_placeElements_55 rfl (lv_at hl 2 rfl) ?_
        refine gf_h_Machine_44_first C hP dd_Machine_placeElements_56 ?_
        refine lv_iload_n hx hb dd_Machine_placeElements_59 rfl (lv_at hl 3 rfl) ?_
        obtain ⟨hi, h⟩ := xp_g h
        refine al_h_46 C hP hi dd_Machine_placeElements_60 ?_
        refine lv_aload_n hx hb dd_Machine_placeElements_61 rfl (lv_at hl 1 rfl) ?_
        refine gf_h_Machine_60_table C hP dd_Machine_placeElements_62 ?_
        refine lv_aload_n hx hb dd_Machine_placeElements_65 rfl (lv_at hl 2 rfl) ?_
        refine gf_h_Machine_44_number C hP dd_Machine_placeElements_66 ?_
        refine lv_iload_n hx hb dd_Machine_placeElements_69 rfl (lv_at hl 3 rfl) ?_
        obtain ⟨hi, h⟩ := xp_g h
        refine al_h_48 C hP hi dd_Machine_placeElements_70 ?_
        refine lv_l2i hx hb dd_Machine_placeElements_71 rfl ?_
        refine lv_iload_n hx hb dd_Machine_placeElements_72 rfl (lv_at hl 0 rfl) ?_
        obtain ⟨hi, h⟩ := xp_g h
        refine va_copyi hx hb (C.1.2.2.1.trans hl.1.symm) C.1.2.2.2.1 (C.1.2.2.2.2 _ (xk_c6 (w := Cond.methodLink "ModuleHouse$Machine" 139 arraycopyName) 148 rfl rfl)) (C.1.2.2.2.2 _ (xk_c3 (w := Cond.native arraycopyName) 168 rfl rfl)) (C.1.2.2.2.2 _ (xk_c3 (w := Cond.static arraycopyName) 167 rfl rfl)) (C.1.2.2.2.2 _ (xk_c1 (w := Cond.initialized "java/lang/System") 25 rfl rfl)) C.2.1 hP (C.2.2.1.D (fun q h => Or.inl h) _) hS 18 79 1 1 rfl rfl rfl rfl rfl (fun z => hi (Or.inl z)) (fun z => hi (Or.inr (Or.inl z))) (fun z => hi (Or.inr (Or.inr (Or.inl z)))) (Nat.not_lt.mp fun z => hi (Or.inr (Or.inr (Or.inr (Or.inl z))))) (Nat.not_lt.mp fun z => hi (Or.inr (Or.inr (Or.inr (Or.inr z))))) (fun _ _ => rfl) (Nat.le_of_ble_eq_true rfl) (Nat.le_of_ble_eq_true rfl) dd_Machine_placeElements_73 (fun H locs hP _ hS => ?_)
        obtain ⟨u4, eu4, h⟩ := xp_let h
        replace hP : va_P D kx_cl (kw_h ad ca u4) H := by rw [eu4]; exact hP
        obtain ⟨a5, ea5, h⟩ := xp_let h
        refine lv_iinc (v := a5) (lv' := [(2, .int a5), (3, .int a1), (0, .ref (ad 60)), (1, .ref (ad 44))]) hx hb dd_Machine_placeElements_76 hl (k := 3) rfl (by rw [ea5]; first | rfl | decide) (by decide) rfl (fun ls hl => ?_)
        refine lv_goto (tgt := 10) hx hb dd_Machine_placeElements_79 (by decide) ?_
        exact hk10 a5 u4 _ _ _ h hP hS (lv_sub hl [2, 3, 0] rfl)
      · have h := xp_f hc h
        refine lv_iconst (v := 5) hx hb dd_Machine_placeElements_46 (by decide) ?_
        obtain ⟨rfl, rfl⟩ := xp_r h
        exact xr_iret C hP hS dd_Machine_placeElements_47
set_option maxHeartbeats 4000000 in
set_option maxRecDepth 100000 in
theorem ct_Machine_placeElements {l : Launch} {D : va_G} {ad : Nat → Nat} {ca : Nat → ClassId} {ads : List Nat} (htr : l.stackTraces = false) (hok : xk_ok (kw_h ad ca) ads) {fu : Nat} {u u' : xk_St} {r : Int32} (h : fm_Machine_placeElements fu u = some (r, u')) :
    ∀ sz, xk_Met l ⟨"ModuleHouse$Machine", "placeElements", "()I"⟩ (Cond.code ⟨"ModuleHouse$Machine", "placeElements", "()I"⟩ prog_5_method_4_code 4 (some .int) :: xk_gd) rm_Machine_placeElements (xk_Pc D kx_cl (kx_ty ca) (kw_h ad ca) ads xk_F sz [.ref (ad 60)] u) (xk_Qc D kx_cl (kw_h ad ca) ads (xo_i (.inl r)) u') (xk_A ads sz) := by
  unfold fm_Machine_placeElements at h
  refine xk_con (by decide) htr hok (Nat.le_of_ble_eq_true rfl) (fun p e s m below meth c ls C hne hl hP => ?_)
  have hx := C.1.1
  have hb := C.1.2.1
  have hS : va_S (xk_A ads s.heap.size) s.heap s.heap [] := va_S.rf
  have hl : lv_has ls 4 [(0, .ref (ad 60))] := hl
  refine lv_aload_n hx hb dd_Machine_placeElements_0 rfl (lv_at hl 0 rfl) ?_
  refine gf_h_Machine_60_module C hP dd_Machine_placeElements_1 ?_
  refine gf_h_Machine_4_elements C hP dd_Machine_placeElements_4 ?_
  refine lv_astore_n (lv' := [(1, .ref (ad 44)), (0, .ref (ad 60))]) hx hb dd_Machine_placeElements_7 rfl hl (by decide) rfl (fun ls hl => ?_)
  refine lv_iconst (v := 0) hx hb dd_Machine_placeElements_8 (by decide) ?_
  refine lv_istore_n (lv' := [(2, .int (0 : Int32)), (1, .ref (ad 44)), (0, .ref (ad 60))]) hx hb dd_Machine_placeElements_9 rfl hl (by decide) rfl (fun ls hl => ?_)
  exact wj_Machine_placeElements_10 htr C hne h hP hS (lv_sub hl [2, 1, 0] rfl)
abbrev rm_Memory_putAll : Room := { frames := 1, cells := 1, slots := 6, locals := 60 }
noncomputable def fm_Memory_putAll (x1 : Int32) (x2 : Int32) (x3 : Int32) (u : xk_St) : Option (Unit × xk_St) :=
  (if x1 < 0 ∨ x3 < 0 ∨ x2 < 0 ∨ 8192 < x1.toNatClampNeg + x2.toNatClampNeg ∨ 65536 < x3.toNatClampNeg + x2.toNatClampNeg then none else xs_if (∀ i, i < x2.toNatClampNeg → fits .byte (.int (u.2.2.1 1 (x1.toNatClampNeg + i))) = true) <| xs_let (xs_AA u 46 (va_cpy (u.2.2.1 1) (u.2.2.1 46) x1.toNatClampNeg x3.toNatClampNeg x2.toNatClampNeg)) fun u1 => some ((()), u1))
set_option maxHeartbeats 4000000 in
set_option maxRecDepth 100000 in
theorem ct_Memory_putAll {l : Launch} {D : va_G} {ad : Nat → Nat} {ca : Nat → ClassId} {ads : List Nat} (htr : l.stackTraces = false) (hok : xk_ok (kw_h ad ca) ads) {x1 : Int32} {x2 : Int32} {x3 : Int32} {u u' : xk_St} {r : Unit} (h : fm_Memory_putAll x1 x2 x3 u = some (r, u')) :
    ∀ sz, xk_Met l ⟨"ModuleHouse$Memory", "putAll", "([BIII)V"⟩ (Cond.code ⟨"ModuleHouse$Memory", "putAll", "([BIII)V"⟩ prog_6_method_9_code 5 none :: xk_gd) rm_Memory_putAll (xk_Pc D kx_cl (kx_ty ca) (kw_h ad ca) ads xk_F sz [.ref (ad 77), .ref (ad 5), .int x1, .int x2, .int x3] u) (xk_Qc D kx_cl (kw_h ad ca) ads (xo_v (.inl r)) u') (xk_A ads sz) := by
  unfold fm_Memory_putAll at h
  refine xk_con (by decide) htr hok (Nat.le_of_ble_eq_true rfl) (fun p e s m below meth c ls C hne hl hP => ?_)
  have hx := C.1.1
  have hb := C.1.2.1
  have hS : va_S (xk_A ads s.heap.size) s.heap s.heap [] := va_S.rf
  have hl : lv_has ls 5 [(0, .ref (ad 77)), (1, .ref (ad 5)), (2, .int x1), (3, .int x2), (4, .int x3)] := hl
  refine lv_aload_n hx hb dd_Memory_putAll_0 rfl (lv_at hl 1 rfl) ?_
  refine lv_iload_n hx hb dd_Memory_putAll_1 rfl (lv_at hl 2 rfl) ?_
  refine lv_aload_n hx hb dd_Memory_putAll_2 rfl (lv_at hl 0 rfl) ?_
  refine gf_h_Memory_77_bytes C hP dd_Memory_putAll_3 ?_
  refine lv_iload hx hb dd_Memory_putAll_6 (lv_at hl 4 rfl) ?_
  refine lv_iload_n hx hb dd_Memory_putAll_8 rfl (lv_at hl 3 rfl) ?_
  obtain ⟨hi, h⟩ := xp_g h
  obtain ⟨hf, h⟩ := xp_if h
  refine va_copyi hx hb (C.1.2.2.1.trans hl.1.symm) C.1.2.2.2.1 (C.1.2.2.2.2 _ (xk_c6 (w := Cond.methodLink "ModuleHouse$Memory" 43 arraycopyName) 162 rfl rfl)) (C.1.2.2.2.2 _ (xk_c3 (w := Cond.native arraycopyName) 168 rfl rfl)) (C.1.2.2.2.2 _ (xk_c3 (w := Cond.static arraycopyName) 167 rfl rfl)) (C.1.2.2.2.2 _ (xk_c1 (w := Cond.initialized "java/lang/System") 25 rfl rfl)) C.2.1 hP (C.2.2.1.D (fun q h => Or.inl h) _) hS 5 78 0 0 rfl rfl rfl rfl rfl (fun z => hi (Or.inl z)) (fun z => hi (Or.inr (Or.inl z))) (fun z => hi (Or.inr (Or.inr (Or.inl z)))) (Nat.not_lt.mp fun z => hi (Or.inr (Or.inr (Or.inr (Or.inl z))))) (Nat.not_lt.mp fun z => hi (Or.inr (Or.inr (Or.inr (Or.inr z))))) hf (Nat.le_of_ble_eq_true rfl) (Nat.le_of_ble_eq_true rfl) dd_Memory_putAll_9 (fun H locs hP _ hS => ?_)
  obtain ⟨u1, eu1, h⟩ := xp_let h
  replace hP : va_P D kx_cl (kw_h ad ca u1) H := by rw [eu1]; exact hP
  obtain ⟨rfl, rfl⟩ := xp_r h
  exact xr_vret C hP hS dd_Memory_putAll_12
abbrev rm_Machine_placeData : Room := { frames := 2, cells := 1, slots := 6, locals := 84 }
noncomputable def jb_Machine_placeData_10 (fu : Nat) : Nat → Int32 → xk_St → Option (Int32 × xk_St)
  | 0 => fun _ _ => none
  | n + 1 => fun b2 u =>
    xs_let (jb_Machine_placeData_10 fu  n) fun k10 =>
    if (u.1 16) ≤ b2 then (some ((0 : Int32), u)) else ((if b2 < 0 ∨ 65 ≤ b2.toNatClampNeg then none else if b2 < 0 ∨ 65 ≤ b2.toNatClampNeg then none else xs_seq (fm_Memory_holds (u.2.2.2 9 b2.toNatClampNeg) ((u.2.2.1 32 b2.toNatClampNeg).toInt64) u) fun a1 u2 => if a1 = (0 : Int32) then (some ((2 : Int32), u2)) else ((if b2 < 0 ∨ 65 ≤ b2.toNatClampNeg then none else if b2 < 0 ∨ 65 ≤ b2.toNatClampNeg then none else if b2 < 0 ∨ 65 ≤ b2.toNatClampNeg then none else xs_seq (fm_Memory_putAll (u2.2.2.1 31 b2.toNatClampNeg) (u2.2.2.1 32 b2.toNatClampNeg) ((u2.2.2.2 9 b2.toNatClampNeg).toInt32) u2) fun _ u3 => xs_let (b2 + (1 : Int32)) fun a4 => k10 a4 u3))))
noncomputable def fm_Machine_placeData (fu : Nat) (u : xk_St) : Option (Int32 × xk_St) :=
  jb_Machine_placeData_10 fu fu (0 : Int32) u
set_option maxHeartbeats 4000000 in
set_option maxRecDepth 100000 in
theorem wj_Machine_placeData_10 {p : Program} {l : Launch} {e : Env} {s : State} {m : MethodId} {args : Array Value} {below : List Frame} {meth : Method} {c : Code} {D : va_G} {ad : Nat → Nat} {ca : Nat → ClassId} {ads : List Nat} {fu : Nat} (htr : l.stackTraces = false) (C : xk_C D kx_cl (kx_ty ca) (kw_h ad ca) ads "ModuleHouse$Machine" prog_5_method_5_code 3 (some .int) p e s m args meth c) (hne : c.exceptionTable.isEmpty = true) {u' : xk_St} {r : Int32} : ∀ {n : Nat} {b2 : Int32} {u : xk_St} {H : Heap} {locs : List Loc} {ls : Array Slot} (h : jb_Machine_placeData_10 fu  n b2 u = some (r, u')) (hP : va_P D kx_cl (kw_h ad ca u) H) (hS : va_S (xk_A ads s.heap.size) s.heap H locs) (hl : lv_has ls 3 [(0, .ref (ad 60)), (1, .ref (ad 49)), (2, .int b2)]), W p l e rm_Machine_placeData s m args below meth c H locs 0 0 (xk_MQ below (xk_Qc D kx_cl (kw_h ad ca) ads (xo_i (.inl r)) u') args s (xk_A ads s.heap.size)) (F0 m 10 ls []) := by
  intro n
  have hx := C.1.1
  have hb := C.1.2.1
  have hok := C.2.2.1
  induction n with
  | zero =>
    intro _ u H locs ls h
    have h : none = some (r, u') := h
    cases h
  | succ n ih =>
    intro b2 u H locs ls h hP hS hl
    unfold jb_Machine_placeData_10 at h
    obtain ⟨k10, ek10, h⟩ := xp_let h
    have hk10 : ∀ (c0 : Int32) (u : xk_St) (H : Heap) (locs : List Loc) (ls : Array Slot), k10 c0 u = some (r, u') → va_P D kx_cl (kw_h ad ca u) H → va_S (xk_A ads s.heap.size) s.heap H locs → lv_has ls 3 [(0, .ref (ad 60)), (1, .ref (ad 49)), (2, .int c0)] → W p l e rm_Machine_placeData s m args below meth c H locs 0 0 (xk_MQ below (xk_Qc D kx_cl (kw_h ad ca) ads (xo_i (.inl r)) u') args s (xk_A ads s.heap.size)) (F0 m 10 ls []) := by
      intro c0 u H locs ls h hP hS hl
      subst ek10
      exact ih h hP hS hl
    clear ih ek10
    refine lv_iload_n hx hb dd_Machine_placeData_10 rfl (lv_at hl 2 rfl) ?_
    refine lv_aload_n hx hb dd_Machine_placeData_11 rfl (lv_at hl 1 rfl) ?_
    refine gf_h_Machine_49_count C hP dd_Machine_placeData_12 ?_
    refine lv_icmp_ge (tgt := 82) hx hb dd_Machine_placeData_15 (by decide) (fun hc => ?_) (fun hc => ?_)
    · have h := xp_t hc h
      refine lv_iconst (v := 0) hx hb dd_Machine_placeData_82 (by decide) ?_
      obtain ⟨rfl, rfl⟩ := xp_r h
      exact xr_iret C hP hS dd_Machine_placeData_83
    · have h := xp_f hc h
      refine lv_aload_n hx hb dd_Machine_placeData_18 rfl (lv_at hl 0 rfl) ?_
      refine gf_h_Machine_60_memory C hP dd_Machine_placeData_19 ?_
      refine lv_aload_n hx hb dd_Machine_placeData_22 rfl (lv_at hl 1 rfl) ?_
      refine gf_h_Machine_49_number C hP dd_Machine_placeData_23 ?_
      refine lv_iload_n hx hb dd_Machine_placeData_26 rfl (lv_at hl 2 rfl) ?_
      obtain ⟨hi, h⟩ := xp_g h
      refine al_h_53 C hP hi dd_Machine_placeData_27 ?_
      refine lv_aload_n hx hb dd_Machine_placeData_28 rfl (lv_at hl 1 rfl) ?_
      refine gf_h_Machine_49_second C hP dd_Machine_placeData_29 ?_
      refine lv_iload_n hx hb dd_Machine_placeData_32 rfl (lv_at hl 2 rfl) ?_
      obtain ⟨hi, h⟩ := xp_g h
      refine al_h_52 C hP hi dd_Machine_placeData_33 ?_
      refine lv_i2l hx hb dd_Machine_placeData_34 rfl ?_
      obtain ⟨a1, u2, hq, h⟩ := xp_seq h
      refine xk_goesI (xr_V (As := [.long (u.2.2.2 9 b2.toNatClampNeg), .long ((u.2.2.1 32 b2.toNatClampNeg).toInt64)]) (rest := []) C hP hS (ct_Memory_holds htr hok hq) kq_Machine_148 77 5 rfl rfl ⟨rfl, rfl, Nat.le_of_ble_eq_true rfl, Nat.le_of_ble_eq_true rfl⟩ ⟨Nat.le_of_ble_eq_true rfl, Nat.le_of_ble_eq_true rfl⟩ hl.1 rfl rfl (Nat.le_of_ble_eq_true rfl) dd_Machine_placeData_35) hS (fun H locs hP hS => ?_)
      clear hq
      refine lv_if_ne (tgt := 43) hx hb dd_Machine_placeData_38 (by decide) (fun hc => ?_) (fun hc => ?_)
      · have h := xp_f hc h
        refine lv_aload_n hx hb dd_Machine_placeData_43 rfl (lv_at hl 0 rfl) ?_
        refine gf_h_Machine_60_memory C hP dd_Machine_placeData_44 ?_
        refine lv_aload_n hx hb dd_Machine_placeData_47 rfl (lv_at hl 0 rfl) ?_
        refine gf_h_Machine_60_module C hP dd_Machine_placeData_48 ?_
        refine gf_h_Machine_4_bytes C hP dd_Machine_placeData_51 ?_
        refine lv_aload_n hx hb dd_Machine_placeData_54 rfl (lv_at hl 1 rfl) ?_
        refine gf_h_Machine_49_first C hP dd_Machine_placeData_55 ?_
        refine lv_iload_n hx hb dd_Machine_placeData_58 rfl (lv_at hl 2 rfl) ?_
        obtain ⟨hi, h⟩ := xp_g h
        refine al_h_51 C hP hi dd_Machine_placeData_59 ?_
        refine lv_aload_n hx hb dd_Machine_placeData_60 rfl (lv_at hl 1 rfl) ?_
        refine gf_h_Machine_49_second C hP dd_Machine_placeData_61 ?_
        refine lv_iload_n hx hb dd_Machine_placeData_64 rfl (lv_at hl 2 rfl) ?_
        obtain ⟨hi, h⟩ := xp_g h
        refine al_h_52 C hP hi dd_Machine_placeData_65 ?_
        refine lv_aload_n hx hb dd_Machine_placeData_66 rfl (lv_at hl 1 rfl) ?_
        refine gf_h_Machine_49_number C hP dd_Machine_placeData_67 ?_
        refine lv_iload_n hx hb dd_Machine_placeData_70 rfl (lv_at hl 2 rfl) ?_
        obtain ⟨hi, h⟩ := xp_g h
        refine al_h_53 C hP hi dd_Machine_placeData_71 ?_
        refine lv_l2i hx hb dd_Machine_placeData_72 rfl ?_
        obtain ⟨rx, u3, hq, h⟩ := xp_seq h
        refine xk_goesV (xr_V (As := [.ref (ad 5), .int (u2.2.2.1 31 b2.toNatClampNeg), .int (u2.2.2.1 32 b2.toNatClampNeg), .int ((u2.2.2.2 9 b2.toNatClampNeg).toInt32)]) (rest := []) C hP hS (ct_Memory_putAll htr hok hq) kq_Machine_156 77 5 rfl rfl ⟨rfl, rfl, Nat.le_of_ble_eq_true rfl, Nat.le_of_ble_eq_true rfl⟩ ⟨Nat.le_of_ble_eq_true rfl, Nat.le_of_ble_eq_true rfl⟩ hl.1 rfl rfl (Nat.le_of_ble_eq_true rfl) dd_Machine_placeData_73) hS (fun H locs hP hS => ?_)
        clear hq
        obtain ⟨a4, ea4, h⟩ := xp_let h
        refine lv_iinc (v := a4) (lv' := [(2, .int a4), (0, .ref (ad 60)), (1, .ref (ad 49))]) hx hb dd_Machine_placeData_76 hl (k := 2) rfl (by rw [ea4]; first | rfl | decide) (by decide) rfl (fun ls hl => ?_)
        refine lv_goto (tgt := 10) hx hb dd_Machine_placeData_79 (by decide) ?_
        exact hk10 a4 u3 _ _ _ h hP hS (lv_sub hl [1, 2, 0] rfl)
      · have h := xp_t hc h
        refine lv_iconst (v := 2) hx hb dd_Machine_placeData_41 (by decide) ?_
        obtain ⟨rfl, rfl⟩ := xp_r h
        exact xr_iret C hP hS dd_Machine_placeData_42
set_option maxHeartbeats 4000000 in
set_option maxRecDepth 100000 in
theorem ct_Machine_placeData {l : Launch} {D : va_G} {ad : Nat → Nat} {ca : Nat → ClassId} {ads : List Nat} (htr : l.stackTraces = false) (hok : xk_ok (kw_h ad ca) ads) {fu : Nat} {u u' : xk_St} {r : Int32} (h : fm_Machine_placeData fu u = some (r, u')) :
    ∀ sz, xk_Met l ⟨"ModuleHouse$Machine", "placeData", "()I"⟩ (Cond.code ⟨"ModuleHouse$Machine", "placeData", "()I"⟩ prog_5_method_5_code 3 (some .int) :: xk_gd) rm_Machine_placeData (xk_Pc D kx_cl (kx_ty ca) (kw_h ad ca) ads xk_F sz [.ref (ad 60)] u) (xk_Qc D kx_cl (kw_h ad ca) ads (xo_i (.inl r)) u') (xk_A ads sz) := by
  unfold fm_Machine_placeData at h
  refine xk_con (by decide) htr hok (Nat.le_of_ble_eq_true rfl) (fun p e s m below meth c ls C hne hl hP => ?_)
  have hx := C.1.1
  have hb := C.1.2.1
  have hS : va_S (xk_A ads s.heap.size) s.heap s.heap [] := va_S.rf
  have hl : lv_has ls 3 [(0, .ref (ad 60))] := hl
  refine lv_aload_n hx hb dd_Machine_placeData_0 rfl (lv_at hl 0 rfl) ?_
  refine gf_h_Machine_60_module C hP dd_Machine_placeData_1 ?_
  refine gf_h_Machine_4_data C hP dd_Machine_placeData_4 ?_
  refine lv_astore_n (lv' := [(1, .ref (ad 49)), (0, .ref (ad 60))]) hx hb dd_Machine_placeData_7 rfl hl (by decide) rfl (fun ls hl => ?_)
  refine lv_iconst (v := 0) hx hb dd_Machine_placeData_8 (by decide) ?_
  refine lv_istore_n (lv' := [(2, .int (0 : Int32)), (1, .ref (ad 49)), (0, .ref (ad 60))]) hx hb dd_Machine_placeData_9 rfl hl (by decide) rfl (fun ls hl => ?_)
  exact wj_Machine_placeData_10 htr C hne h hP hS (lv_sub hl [2, 1, 0] rfl)
abbrev rm_Memory_begin : Room := { frames := 1, cells := 1, slots := 6, locals := 60 }
noncomputable def fm_Memory_begin (x0 : Int32) (x1 : Int32) (u : xk_St) : Option (Unit × xk_St) :=
  (xs_let (xs_I u 33 x0) fun u1 => xs_let (xs_I u1 34 (if (16 : Int32) < x1 then (16 : Int32) else x1)) fun u2 => some ((()), u2))
set_option maxHeartbeats 4000000 in
set_option maxRecDepth 100000 in
theorem ct_Memory_begin {l : Launch} {D : va_G} {ad : Nat → Nat} {ca : Nat → ClassId} {ads : List Nat} (htr : l.stackTraces = false) (hok : xk_ok (kw_h ad ca) ads) {x0 : Int32} {x1 : Int32} {u u' : xk_St} {r : Unit} (h : fm_Memory_begin x0 x1 u = some (r, u')) :
    ∀ sz, xk_Met l ⟨"ModuleHouse$Memory", "begin", "(II)V"⟩ (Cond.code ⟨"ModuleHouse$Memory", "begin", "(II)V"⟩ prog_6_method_5_code 3 none :: xk_gd) rm_Memory_begin (xk_Pc D kx_cl (kx_ty ca) (kw_h ad ca) ads xk_F sz [.ref (ad 77), .int x0, .int x1] u) (xk_Qc D kx_cl (kw_h ad ca) ads (xo_v (.inl r)) u') (xk_A ads sz) := by
  unfold fm_Memory_begin at h
  refine xk_con (by decide) htr hok (Nat.le_of_ble_eq_true rfl) (fun p e s m below meth c ls C hne hl hP => ?_)
  have hx := C.1.1
  have hb := C.1.2.1
  have hS : va_S (xk_A ads s.heap.size) s.heap s.heap [] := va_S.rf
  have hl : lv_has ls 3 [(0, .ref (ad 77)), (1, .int x0), (2, .int x1)] := hl
  refine lv_aload_n hx hb dd_Memory_begin_0 rfl (lv_at hl 0 rfl) ?_
  refine lv_iload_n hx hb dd_Memory_begin_1 rfl (lv_at hl 1 rfl) ?_
  refine pf_h_Memory_77_pages C hP hS dd_Memory_begin_2 (fun H locs hP hS => ?_)
  obtain ⟨u1, eu1, h⟩ := xp_let h
  rw [← eu1] at hP
  refine lv_aload_n hx hb dd_Memory_begin_5 rfl (lv_at hl 0 rfl) ?_
  refine lv_iload_n hx hb dd_Memory_begin_6 rfl (lv_at hl 2 rfl) ?_
  refine lv_bipush (v := 16) hx hb dd_Memory_begin_7 (by decide) ?_
  refine va_mmin hx hb (C.1.2.2.1.trans hl.1.symm) C.1.2.2.2.1 (C.1.2.2.2.2 _ (xk_c6 (w := Cond.methodLink "ModuleHouse$Memory" 33 Lib.Math.min.name) 139 rfl rfl)) (C.1.2.2.2.2 _ (xk_c3 (w := Cond.static Lib.Math.min.name) 164 rfl rfl)) (C.1.2.2.2.2 _ (xk_c1 (w := Cond.initialized "java/lang/Math") 24 rfl rfl)) (C.1.2.2.2.2 _ (xk_c3 (w := Cond.code Lib.Math.min.name Lib.Math.min.code 2 (some .int)) 165 rfl rfl)) (Nat.le_of_ble_eq_true rfl) (Nat.le_of_ble_eq_true rfl) (Nat.zero_le _) (Nat.zero_le _) dd_Memory_begin_9 ?_
  refine pf_h_Memory_77_most C hP hS dd_Memory_begin_12 (fun H locs hP hS => ?_)
  obtain ⟨u2, eu2, h⟩ := xp_let h
  rw [← eu2] at hP
  obtain ⟨rfl, rfl⟩ := xp_r h
  exact xr_vret C hP hS dd_Memory_begin_15
abbrev rm_Values_push__h64 : Room := { frames := 1, cells := 1, slots := 6, locals := 0 }
noncomputable def fm_Values_push__h64 (x0 : Int64) (u : xk_St) : Option (Unit × xk_St) :=
  (if (u.1 29) < 0 ∨ 64 ≤ (u.1 29).toNatClampNeg then none else xs_let (xs_B u 11 (u.1 29).toNatClampNeg x0) fun u1 => if (u1.1 29) < 0 ∨ 64 ≤ (u1.1 29).toNatClampNeg then none else xs_let (xs_A u1 38 (u1.1 29).toNatClampNeg (vp_nar .boolean (0 : Int32))) fun u2 => xs_let (xs_I u2 29 ((u2.1 29) + (1 : Int32))) fun u3 => some ((()), u3))
set_option maxHeartbeats 4000000 in
set_option maxRecDepth 100000 in
theorem ct_Values_push__h64 {l : Launch} {D : va_G} {ad : Nat → Nat} {ca : Nat → ClassId} {ads : List Nat} (htr : l.stackTraces = false) (hok : xk_ok (kw_h ad ca) ads) {x0 : Int64} {u u' : xk_St} {r : Unit} (h : fm_Values_push__h64 x0 u = some (r, u')) :
    ∀ sz, xk_Met l ⟨"ModuleHouse$Values", "push", "(J)V"⟩ (Cond.code ⟨"ModuleHouse$Values", "push", "(J)V"⟩ prog_12_method_2_code 3 none :: xk_gd) rm_Values_push__h64 (xk_Pc D kx_cl (kx_ty ca) (kw_h ad ca) ads xk_F sz [.ref (ad 64), .long x0] u) (xk_Qc D kx_cl (kw_h ad ca) ads (xo_v (.inl r)) u') (xk_A ads sz) := by
  unfold fm_Values_push__h64 at h
  refine xk_con (by decide) htr hok (Nat.le_of_ble_eq_true rfl) (fun p e s m below meth c ls C hne hl hP => ?_)
  have hx := C.1.1
  have hb := C.1.2.1
  have hS : va_S (xk_A ads s.heap.size) s.heap s.heap [] := va_S.rf
  have hl : lv_has ls 3 [(0, .ref (ad 64)), (1, .long x0)] := hl
  refine lv_aload_n hx hb dd_Values_push_0 rfl (lv_at hl 0 rfl) ?_
  refine gf_h_Values_64_value C hP dd_Values_push_1 ?_
  refine lv_aload_n hx hb dd_Values_push_4 rfl (lv_at hl 0 rfl) ?_
  refine gf_h_Values_64_top C hP dd_Values_push_5 ?_
  refine lv_lload_n hx hb dd_Values_push_8 rfl (lv_at hl 1 rfl) ?_
  obtain ⟨hi, h⟩ := xp_g h
  refine as_h_65 C hP hS hi dd_Values_push_9 (fun H locs hP hS => ?_)
  obtain ⟨u1, eu1, h⟩ := xp_let h
  rw [← eu1] at hP
  refine lv_aload_n hx hb dd_Values_push_10 rfl (lv_at hl 0 rfl) ?_
  refine gf_h_Values_64_refers C hP dd_Values_push_11 ?_
  refine lv_aload_n hx hb dd_Values_push_14 rfl (lv_at hl 0 rfl) ?_
  refine gf_h_Values_64_top C hP dd_Values_push_15 ?_
  refine lv_iconst (v := 0) hx hb dd_Values_push_18 (by decide) ?_
  obtain ⟨hi, h⟩ := xp_g h
  refine as_h_66 C hP hS hi dd_Values_push_19 (fun H locs hP hS => ?_)
  obtain ⟨u2, eu2, h⟩ := xp_let h
  rw [← eu2] at hP
  refine lv_aload_n hx hb dd_Values_push_20 rfl (lv_at hl 0 rfl) ?_
  refine lv_dup hx hb dd_Values_push_21 rfl ?_
  refine gf_h_Values_64_top C hP dd_Values_push_22 ?_
  refine lv_iconst (v := 1) hx hb dd_Values_push_25 (by decide) ?_
  refine lv_iadd hx hb dd_Values_push_26 ?_
  refine pf_h_Values_64_top C hP hS dd_Values_push_27 (fun H locs hP hS => ?_)
  obtain ⟨u3, eu3, h⟩ := xp_let h
  rw [← eu3] at hP
  obtain ⟨rfl, rfl⟩ := xp_r h
  exact xr_vret C hP hS dd_Values_push_30
abbrev rm_Values_pushReference__h64 : Room := { frames := 1, cells := 1, slots := 6, locals := 0 }
noncomputable def fm_Values_pushReference__h64 (x0 : Int64) (u : xk_St) : Option (Unit × xk_St) :=
  (if (u.1 29) < 0 ∨ 64 ≤ (u.1 29).toNatClampNeg then none else xs_let (xs_B u 11 (u.1 29).toNatClampNeg x0) fun u1 => if (u1.1 29) < 0 ∨ 64 ≤ (u1.1 29).toNatClampNeg then none else xs_let (xs_A u1 38 (u1.1 29).toNatClampNeg (vp_nar .boolean (1 : Int32))) fun u2 => xs_let (xs_I u2 29 ((u2.1 29) + (1 : Int32))) fun u3 => some ((()), u3))
set_option maxHeartbeats 4000000 in
set_option maxRecDepth 100000 in
theorem ct_Values_pushReference__h64 {l : Launch} {D : va_G} {ad : Nat → Nat} {ca : Nat → ClassId} {ads : List Nat} (htr : l.stackTraces = false) (hok : xk_ok (kw_h ad ca) ads) {x0 : Int64} {u u' : xk_St} {r : Unit} (h : fm_Values_pushReference__h64 x0 u = some (r, u')) :
    ∀ sz, xk_Met l ⟨"ModuleHouse$Values", "pushReference", "(J)V"⟩ (Cond.code ⟨"ModuleHouse$Values", "pushReference", "(J)V"⟩ prog_12_method_4_code 3 none :: xk_gd) rm_Values_pushReference__h64 (xk_Pc D kx_cl (kx_ty ca) (kw_h ad ca) ads xk_F sz [.ref (ad 64), .long x0] u) (xk_Qc D kx_cl (kw_h ad ca) ads (xo_v (.inl r)) u') (xk_A ads sz) := by
  unfold fm_Values_pushReference__h64 at h
  refine xk_con (by decide) htr hok (Nat.le_of_ble_eq_true rfl) (fun p e s m below meth c ls C hne hl hP => ?_)
  have hx := C.1.1
  have hb := C.1.2.1
  have hS : va_S (xk_A ads s.heap.size) s.heap s.heap [] := va_S.rf
  have hl : lv_has ls 3 [(0, .ref (ad 64)), (1, .long x0)] := hl
  refine lv_aload_n hx hb dd_Values_pushReference_0 rfl (lv_at hl 0 rfl) ?_
  refine gf_h_Values_64_value C hP dd_Values_pushReference_1 ?_
  refine lv_aload_n hx hb dd_Values_pushReference_4 rfl (lv_at hl 0 rfl) ?_
  refine gf_h_Values_64_top C hP dd_Values_pushReference_5 ?_
  refine lv_lload_n hx hb dd_Values_pushReference_8 rfl (lv_at hl 1 rfl) ?_
  obtain ⟨hi, h⟩ := xp_g h
  refine as_h_65 C hP hS hi dd_Values_pushReference_9 (fun H locs hP hS => ?_)
  obtain ⟨u1, eu1, h⟩ := xp_let h
  rw [← eu1] at hP
  refine lv_aload_n hx hb dd_Values_pushReference_10 rfl (lv_at hl 0 rfl) ?_
  refine gf_h_Values_64_refers C hP dd_Values_pushReference_11 ?_
  refine lv_aload_n hx hb dd_Values_pushReference_14 rfl (lv_at hl 0 rfl) ?_
  refine gf_h_Values_64_top C hP dd_Values_pushReference_15 ?_
  refine lv_iconst (v := 1) hx hb dd_Values_pushReference_18 (by decide) ?_
  obtain ⟨hi, h⟩ := xp_g h
  refine as_h_66 C hP hS hi dd_Values_pushReference_19 (fun H locs hP hS => ?_)
  obtain ⟨u2, eu2, h⟩ := xp_let h
  rw [← eu2] at hP
  refine lv_aload_n hx hb dd_Values_pushReference_20 rfl (lv_at hl 0 rfl) ?_
  refine lv_dup hx hb dd_Values_pushReference_21 rfl ?_
  refine gf_h_Values_64_top C hP dd_Values_pushReference_22 ?_
  refine lv_iconst (v := 1) hx hb dd_Values_pushReference_25 (by decide) ?_
  refine lv_iadd hx hb dd_Values_pushReference_26 ?_
  refine pf_h_Values_64_top C hP hS dd_Values_pushReference_27 (fun H locs hP hS => ?_)
  obtain ⟨u3, eu3, h⟩ := xp_let h
  rw [← eu3] at hP
  obtain ⟨rfl, rfl⟩ := xp_r h
  exact xr_vret C hP hS dd_Values_pushReference_30
abbrev rm_Machine_begin : Room := { frames := 3, cells := 1, slots := 6, locals := 106 }
noncomputable def jb_Machine_begin_123 (fu : Nat) (u : xk_St) : Option (Int32 × xk_St) :=
  (xs_seq (fm_Machine_placeElements fu u) fun a2 u3 => if a2 = (0 : Int32) then ((xs_seq (fm_Machine_placeData fu u3) fun a4 u5 => some (a4, u5))) else (some (a2, u3)))
noncomputable def jb_Machine_begin_64 (fu : Nat) (k2 : Int32 → xk_St → Option (Int32 × xk_St)) (b1 : Int32) (u : xk_St) : Option (Int32 × xk_St) :=
  (xs_let (b1 + (1 : Int32)) fun a10 => k2 a10 u)
noncomputable def jb_Machine_begin_2 (fu : Nat) : Nat → Int32 → xk_St → Option (Int32 × xk_St)
  | 0 => fun _ _ => none
  | n + 1 => fun b1 u =>
    xs_let (jb_Machine_begin_2 fu  n) fun k2 =>
    if (u.1 13) ≤ b1 then ((xs_seq (fm_Arrays_fill_AII__h79 fu (-1 : Int32) u) fun _ u1 => if (u1.1 12) = (1 : Int32) then ((if (0 : Int32) < 0 ∨ 65 ≤ (0 : Int32).toNatClampNeg then none else if (0 : Int32) < 0 ∨ 65 ≤ (0 : Int32).toNatClampNeg then none else xs_seq (fm_Memory_begin (u1.2.2.1 19 (0 : Int32).toNatClampNeg) (u1.2.2.1 20 (0 : Int32).toNatClampNeg) u1) fun _ u6 => jb_Machine_begin_123 fu u6)) else (jb_Machine_begin_123 fu u1))) else ((if b1 < 0 ∨ 65 ≤ b1.toNatClampNeg then none else xs_seq (fm_Types_isReference (u.2.2.1 21 b1.toNatClampNeg) u) fun a7 u8 => if a7 = (0 : Int32) then ((if b1 < 0 ∨ 65 ≤ b1.toNatClampNeg then none else xs_seq (fm_Values_push__h64 (u8.2.2.2 6 b1.toNatClampNeg) u8) fun _ u9 => jb_Machine_begin_64 fu k2 b1 u9)) else ((xs_seq (fm_Values_pushReference__h64 (0 : Int64) u8) fun _ u11 => jb_Machine_begin_64 fu k2 b1 u11))))
noncomputable def fm_Machine_begin (fu : Nat) (u : xk_St) : Option (Int32 × xk_St) :=
  jb_Machine_begin_2 fu fu (0 : Int32) u
set_option maxHeartbeats 4000000 in
set_option maxRecDepth 100000 in
theorem wj_Machine_begin_123 {p : Program} {l : Launch} {e : Env} {s : State} {m : MethodId} {args : Array Value} {below : List Frame} {meth : Method} {c : Code} {D : va_G} {ad : Nat → Nat} {ca : Nat → ClassId} {ads : List Nat} {fu : Nat} (htr : l.stackTraces = false) (C : xk_C D kx_cl (kx_ty ca) (kw_h ad ca) ads "ModuleHouse$Machine" prog_5_method_3_code 2 (some .int) p e s m args meth c) (hne : c.exceptionTable.isEmpty = true) {u' : xk_St} {r : Int32} {u : xk_St} {H : Heap} {locs : List Loc} {ls : Array Slot} (h : jb_Machine_begin_123 fu   u = some (r, u')) (hP : va_P D kx_cl (kw_h ad ca u) H) (hS : va_S (xk_A ads s.heap.size) s.heap H locs) (hl : lv_has ls 2 [(0, .ref (ad 60))]) : W p l e rm_Machine_begin s m args below meth c H locs 0 0 (xk_MQ below (xk_Qc D kx_cl (kw_h ad ca) ads (xo_i (.inl r)) u') args s (xk_A ads s.heap.size)) (F0 m 123 ls []) := by
  have hx := C.1.1
  have hb := C.1.2.1
  have hok := C.2.2.1
  unfold jb_Machine_begin_123 at h
  refine lv_aload_n hx hb dd_Machine_begin_123 rfl (lv_at hl 0 rfl) ?_
  obtain ⟨a2, u3, hq, h⟩ := xp_seq h
  refine xk_goesI (xr_V (As := []) (rest := []) C hP hS (ct_Machine_placeElements htr hok hq) kq_Machine_121 60 4 rfl rfl ⟨rfl, rfl, Nat.le_of_ble_eq_true rfl, Nat.le_of_ble_eq_true rfl⟩ ⟨Nat.le_of_ble_eq_true rfl, Nat.le_of_ble_eq_true rfl⟩ hl.1 rfl rfl (Nat.le_of_ble_eq_true rfl) dd_Machine_begin_124) hS (fun H locs hP hS => ?_)
  clear hq
  refine lv_istore_n (lv' := [(1, .int a2), (0, .ref (ad 60))]) hx hb dd_Machine_begin_127 rfl hl (by decide) rfl (fun ls hl => ?_)
  refine lv_iload_n hx hb dd_Machine_begin_128 rfl (lv_at hl 0 rfl) ?_
  refine lv_if_ne (tgt := 139) hx hb dd_Machine_begin_129 (by decide) (fun hc => ?_) (fun hc => ?_)
  · have h := xp_f hc h
    refine lv_iload_n hx hb dd_Machine_begin_139 rfl (lv_at hl 0 rfl) ?_
    obtain ⟨rfl, rfl⟩ := xp_r h
    exact xr_iret C hP hS dd_Machine_begin_140
  · have h := xp_t hc h
    refine lv_aload_n hx hb dd_Machine_begin_132 rfl (lv_at hl 1 rfl) ?_
    obtain ⟨a4, u5, hq, h⟩ := xp_seq h
    refine xk_goesI (xr_V (As := []) (rest := []) C hP hS (ct_Machine_placeData htr hok hq) kq_Machine_125 60 4 rfl rfl ⟨rfl, rfl, Nat.le_of_ble_eq_true rfl, Nat.le_of_ble_eq_true rfl⟩ ⟨Nat.le_of_ble_eq_true rfl, Nat.le_of_ble_eq_true rfl⟩ hl.1 rfl rfl (Nat.le_of_ble_eq_true rfl) dd_Machine_begin_133) hS (fun H locs hP hS => ?_)
    clear hq
    refine lv_goto (tgt := 140) hx hb dd_Machine_begin_136 (by decide) ?_
    obtain ⟨rfl, rfl⟩ := xp_r h
    exact xr_iret C hP hS dd_Machine_begin_140
set_option maxHeartbeats 4000000 in
set_option maxRecDepth 100000 in
theorem wj_Machine_begin_64 {p : Program} {l : Launch} {e : Env} {s : State} {m : MethodId} {args : Array Value} {below : List Frame} {meth : Method} {c : Code} {D : va_G} {ad : Nat → Nat} {ca : Nat → ClassId} {ads : List Nat} {fu : Nat} (htr : l.stackTraces = false) (C : xk_C D kx_cl (kx_ty ca) (kw_h ad ca) ads "ModuleHouse$Machine" prog_5_method_3_code 2 (some .int) p e s m args meth c) (hne : c.exceptionTable.isEmpty = true) {u' : xk_St} {r : Int32} {k2 : Int32 → xk_St → Option (Int32 × xk_St)} (hk2 : ∀ (c0 : Int32) (u : xk_St) (H : Heap) (locs : List Loc) (ls : Array Slot), k2 c0 u = some (r, u') → va_P D kx_cl (kw_h ad ca u) H → va_S (xk_A ads s.heap.size) s.heap H locs → lv_has ls 2 [(0, .ref (ad 60)), (1, .int c0)] → W p l e rm_Machine_begin s m args below meth c H locs 0 0 (xk_MQ below (xk_Qc D kx_cl (kw_h ad ca) ads (xo_i (.inl r)) u') args s (xk_A ads s.heap.size)) (F0 m 2 ls [])) {b1 : Int32} {u : xk_St} {H : Heap} {locs : List Loc} {ls : Array Slot} (h : jb_Machine_begin_64 fu k2 b1 u = some (r, u')) (hP : va_P D kx_cl (kw_h ad ca u) H) (hS : va_S (xk_A ads s.heap.size) s.heap H locs) (hl : lv_has ls 2 [(0, .ref (ad 60)), (1, .int b1)]) : W p l e rm_Machine_begin s m args below meth c H locs 0 0 (xk_MQ below (xk_Qc D kx_cl (kw_h ad ca) ads (xo_i (.inl r)) u') args s (xk_A ads s.heap.size)) (F0 m 64 ls []) := by
  have hx := C.1.1
  have hb := C.1.2.1
  have hok := C.2.2.1
  unfold jb_Machine_begin_64 at h
  obtain ⟨a10, ea10, h⟩ := xp_let h
  refine lv_iinc (v := a10) (lv' := [(1, .int a10), (0, .ref (ad 60))]) hx hb dd_Machine_begin_64 hl (k := 1) rfl (by rw [ea10]; first | rfl | decide) (by decide) rfl (fun ls hl => ?_)
  refine lv_goto (tgt := 2) hx hb dd_Machine_begin_67 (by decide) ?_
  exact hk2 a10 u _ _ _ h hP hS (lv_sub hl [1, 0] rfl)
set_option maxHeartbeats 4000000 in
set_option maxRecDepth 100000 in
theorem wj_Machine_begin_2 {p : Program} {l : Launch} {e : Env} {s : State} {m : MethodId} {args : Array Value} {below : List Frame} {meth : Method} {c : Code} {D : va_G} {ad : Nat → Nat} {ca : Nat → ClassId} {ads : List Nat} {fu : Nat} (htr : l.stackTraces = false) (C : xk_C D kx_cl (kx_ty ca) (kw_h ad ca) ads "ModuleHouse$Machine" prog_5_method_3_code 2 (some .int) p e s m args meth c) (hne : c.exceptionTable.isEmpty = true) {u' : xk_St} {r : Int32} : ∀ {n : Nat} {b1 : Int32} {u : xk_St} {H : Heap} {locs : List Loc} {ls : Array Slot} (h : jb_Machine_begin_2 fu  n b1 u = some (r, u')) (hP : va_P D kx_cl (kw_h ad ca u) H) (hS : va_S (xk_A ads s.heap.size) s.heap H locs) (hl : lv_has ls 2 [(0, .ref (ad 60)), (1, .int b1)]), W p l e rm_Machine_begin s m args below meth c H locs 0 0 (xk_MQ below (xk_Qc D kx_cl (kw_h ad ca) ads (xo_i (.inl r)) u') args s (xk_A ads s.heap.size)) (F0 m 2 ls []) := by
  intro n
  have hx := C.1.1
  have hb := C.1.2.1
  have hok := C.2.2.1
  induction n with
  | zero =>
    intro _ u H locs ls h
    have h : none = some (r, u') := h
    cases h
  | succ n ih =>
    intro b1 u H locs ls h hP hS hl
    unfold jb_Machine_begin_2 at h
    obtain ⟨k2, ek2, h⟩ := xp_let h
    have hk2 : ∀ (c0 : Int32) (u : xk_St) (H : Heap) (locs : List Loc) (ls : Array Slot), k2 c0 u = some (r, u') → va_P D kx_cl (kw_h ad ca u) H → va_S (xk_A ads s.heap.size) s.heap H locs → lv_has ls 2 [(0, .ref (ad 60)), (1, .int c0)] → W p l e rm_Machine_begin s m args below meth c H locs 0 0 (xk_MQ below (xk_Qc D kx_cl (kw_h ad ca) ads (xo_i (.inl r)) u') args s (xk_A ads s.heap.size)) (F0 m 2 ls []) := by
      intro c0 u H locs ls h hP hS hl
      subst ek2
      exact ih h hP hS hl
    clear ih ek2
    refine lv_iload_n hx hb dd_Machine_begin_2 rfl (lv_at hl 1 rfl) ?_
    refine lv_aload_n hx hb dd_Machine_begin_3 rfl (lv_at hl 0 rfl) ?_
    refine gf_h_Machine_60_module C hP dd_Machine_begin_4 ?_
    refine gf_h_Machine_4_globals C hP dd_Machine_begin_7 ?_
    refine gf_h_Machine_34_count C hP dd_Machine_begin_10 ?_
    refine lv_icmp_ge (tgt := 70) hx hb dd_Machine_begin_13 (by decide) (fun hc => ?_) (fun hc => ?_)
    · have h := xp_t hc h
      refine lv_aload_n hx hb dd_Machine_begin_70 rfl (lv_at hl 0 rfl) ?_
      refine gf_h_Machine_60_table C hP dd_Machine_begin_71 ?_
      refine lv_iconst (v := (-1)) hx hb dd_Machine_begin_74 (by decide) ?_
      obtain ⟨rx, u1, hq, h⟩ := xp_seq h
      refine xk_goesV (xr_S (As := [.ref (ad 79), .int (-1 : Int32)]) (rest := []) C hP hS (ct_Arrays_fill_AII__h79 htr hok hq) kq_Machine_102 ⟨rfl, rfl, Nat.le_of_ble_eq_true rfl, Nat.le_of_ble_eq_true rfl⟩ ⟨Nat.le_of_ble_eq_true rfl, Nat.le_of_ble_eq_true rfl⟩ hl.1 rfl rfl (Nat.le_of_ble_eq_true rfl) dd_Machine_begin_75) hS (fun H locs hP hS => ?_)
      clear hq
      refine lv_aload_n hx hb dd_Machine_begin_78 rfl (lv_at hl 0 rfl) ?_
      refine gf_h_Machine_60_module C hP dd_Machine_begin_79 ?_
      refine gf_h_Machine_4_memories C hP dd_Machine_begin_82 ?_
      refine gf_h_Machine_29_count C hP dd_Machine_begin_85 ?_
      refine lv_iconst (v := 1) hx hb dd_Machine_begin_88 (by decide) ?_
      refine lv_icmp_ne (tgt := 123) hx hb dd_Machine_begin_89 (by decide) (fun hc => ?_) (fun hc => ?_)
      · have h := xp_f hc h
        exact wj_Machine_begin_123 htr C hne h hP hS (lv_sub hl [0] rfl)
      · have h := xp_t hc h
        refine lv_aload_n hx hb dd_Machine_begin_92 rfl (lv_at hl 0 rfl) ?_
        refine gf_h_Machine_60_memory C hP dd_Machine_begin_93 ?_
        refine lv_aload_n hx hb dd_Machine_begin_96 rfl (lv_at hl 0 rfl) ?_
        refine gf_h_Machine_60_module C hP dd_Machine_begin_97 ?_
        refine gf_h_Machine_4_memories C hP dd_Machine_begin_100 ?_
        refine gf_h_Machine_29_first C hP dd_Machine_begin_103 ?_
        refine lv_iconst (v := 0) hx hb dd_Machine_begin_106 (by decide) ?_
        obtain ⟨hi, h⟩ := xp_g h
        refine al_h_31 C hP hi dd_Machine_begin_107 ?_
        refine lv_aload_n hx hb dd_Machine_begin_108 rfl (lv_at hl 0 rfl) ?_
        refine gf_h_Machine_60_module C hP dd_Machine_begin_109 ?_
        refine gf_h_Machine_4_memories C hP dd_Machine_begin_112 ?_
        refine gf_h_Machine_29_second C hP dd_Machine_begin_115 ?_
        refine lv_iconst (v := 0) hx hb dd_Machine_begin_118 (by decide) ?_
        obtain ⟨hi, h⟩ := xp_g h
        refine al_h_32 C hP hi dd_Machine_begin_119 ?_
        obtain ⟨rx, u6, hq, h⟩ := xp_seq h
        refine xk_goesV (xr_V (As := [.int (u1.2.2.1 19 (0 : Int32).toNatClampNeg), .int (u1.2.2.1 20 (0 : Int32).toNatClampNeg)]) (rest := []) C hP hS (ct_Memory_begin htr hok hq) kq_Machine_117 77 5 rfl rfl ⟨rfl, rfl, Nat.le_of_ble_eq_true rfl, Nat.le_of_ble_eq_true rfl⟩ ⟨Nat.le_of_ble_eq_true rfl, Nat.le_of_ble_eq_true rfl⟩ hl.1 rfl rfl (Nat.le_of_ble_eq_true rfl) dd_Machine_begin_120) hS (fun H locs hP hS => ?_)
        clear hq
        exact wj_Machine_begin_123 htr C hne h hP hS (lv_sub hl [0] rfl)
    · have h := xp_f hc h
      refine lv_aload_n hx hb dd_Machine_begin_16 rfl (lv_at hl 0 rfl) ?_
      refine gf_h_Machine_60_module C hP dd_Machine_begin_17 ?_
      refine gf_h_Machine_4_globals C hP dd_Machine_begin_20 ?_
      refine gf_h_Machine_34_kind C hP dd_Machine_begin_23 ?_
      refine lv_iload_n hx hb dd_Machine_begin_26 rfl (lv_at hl 1 rfl) ?_
      obtain ⟨hi, h⟩ := xp_g h
      refine al_h_35 C hP hi dd_Machine_begin_27 ?_
      obtain ⟨a7, u8, hq, h⟩ := xp_seq h
      refine xk_goesI (xr_S (As := [.int (u.2.2.1 21 b1.toNatClampNeg)]) (rest := []) C hP hS (ct_Types_isReference htr hok hq) kq_Machine_85 ⟨rfl, rfl, Nat.le_of_ble_eq_true rfl, Nat.le_of_ble_eq_true rfl⟩ ⟨Nat.le_of_ble_eq_true rfl, Nat.le_of_ble_eq_true rfl⟩ hl.1 rfl rfl (Nat.le_of_ble_eq_true rfl) dd_Machine_begin_28) hS (fun H locs hP hS => ?_)
      clear hq
      refine lv_if_eq (tgt := 45) hx hb dd_Machine_begin_31 (by decide) (fun hc => ?_) (fun hc => ?_)
      · have h := xp_t hc h
        refine lv_aload_n hx hb dd_Machine_begin_45 rfl (lv_at hl 0 rfl) ?_
        refine gf_h_Machine_60_globals C hP dd_Machine_begin_46 ?_
        refine lv_aload_n hx hb dd_Machine_begin_49 rfl (lv_at hl 0 rfl) ?_
        refine gf_h_Machine_60_module C hP dd_Machine_begin_50 ?_
        refine gf_h_Machine_4_globals C hP dd_Machine_begin_53 ?_
        refine gf_h_Machine_34_number C hP dd_Machine_begin_56 ?_
        refine lv_iload_n hx hb dd_Machine_begin_59 rfl (lv_at hl 1 rfl) ?_
        obtain ⟨hi, h⟩ := xp_g h
        refine al_h_38 C hP hi dd_Machine_begin_60 ?_
        obtain ⟨rx, u9, hq, h⟩ := xp_seq h
        refine xk_goesV (xr_V (As := [.long (u8.2.2.2 6 b1.toNatClampNeg)]) (rest := []) C hP hS (ct_Values_push__h64 htr hok hq) kq_Machine_99 64 10 rfl rfl ⟨rfl, rfl, Nat.le_of_ble_eq_true rfl, Nat.le_of_ble_eq_true rfl⟩ ⟨Nat.le_of_ble_eq_true rfl, Nat.le_of_ble_eq_true rfl⟩ hl.1 rfl rfl (Nat.le_of_ble_eq_true rfl) dd_Machine_begin_61) hS (fun H locs hP hS => ?_)
        clear hq
        exact wj_Machine_begin_64 htr C hne hk2 h hP hS (lv_sub hl [0, 1] rfl)
      · have h := xp_f hc h
        refine lv_aload_n hx hb dd_Machine_begin_34 rfl (lv_at hl 0 rfl) ?_
        refine gf_h_Machine_60_globals C hP dd_Machine_begin_35 ?_
        refine lv_lconst (v := 0) hx hb dd_Machine_begin_38 (by decide) ?_
        obtain ⟨rx, u11, hq, h⟩ := xp_seq h
        refine xk_goesV (xr_V (As := [.long (0 : Int64)]) (rest := []) C hP hS (ct_Values_pushReference__h64 htr hok hq) kq_Machine_91 64 10 rfl rfl ⟨rfl, rfl, Nat.le_of_ble_eq_true rfl, Nat.le_of_ble_eq_true rfl⟩ ⟨Nat.le_of_ble_eq_true rfl, Nat.le_of_ble_eq_true rfl⟩ hl.1 rfl rfl (Nat.le_of_ble_eq_true rfl) dd_Machine_begin_39) hS (fun H locs hP hS => ?_)
        clear hq
        refine lv_goto (tgt := 64) hx hb dd_Machine_begin_42 (by decide) ?_
        exact wj_Machine_begin_64 htr C hne hk2 h hP hS (lv_sub hl [0, 1] rfl)
set_option maxHeartbeats 4000000 in
set_option maxRecDepth 100000 in
theorem ct_Machine_begin {l : Launch} {D : va_G} {ad : Nat → Nat} {ca : Nat → ClassId} {ads : List Nat} (htr : l.stackTraces = false) (hok : xk_ok (kw_h ad ca) ads) {fu : Nat} {u u' : xk_St} {r : Int32} (h : fm_Machine_begin fu u = some (r, u')) :
    ∀ sz, xk_Met l ⟨"ModuleHouse$Machine", "begin", "()I"⟩ (Cond.code ⟨"ModuleHouse$Machine", "begin", "()I"⟩ prog_5_method_3_code 2 (some .int) :: xk_gd) rm_Machine_begin (xk_Pc D kx_cl (kx_ty ca) (kw_h ad ca) ads xk_F sz [.ref (ad 60)] u) (xk_Qc D kx_cl (kw_h ad ca) ads (xo_i (.inl r)) u') (xk_A ads sz) := by
  unfold fm_Machine_begin at h
  refine xk_con (by decide) htr hok (Nat.le_of_ble_eq_true rfl) (fun p e s m below meth c ls C hne hl hP => ?_)
  have hx := C.1.1
  have hb := C.1.2.1
  have hS : va_S (xk_A ads s.heap.size) s.heap s.heap [] := va_S.rf
  have hl : lv_has ls 2 [(0, .ref (ad 60))] := hl
  refine lv_iconst (v := 0) hx hb dd_Machine_begin_0 (by decide) ?_
  refine lv_istore_n (lv' := [(1, .int (0 : Int32)), (0, .ref (ad 60))]) hx hb dd_Machine_begin_1 rfl hl (by decide) rfl (fun ls hl => ?_)
  exact wj_Machine_begin_2 htr C hne h hP hS (lv_sub hl [1, 0] rfl)
