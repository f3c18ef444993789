abbrev rm_Checker_checkNumeric : Room := { frames := 9, cells := 1, slots := 6, locals := 165 }
noncomputable def jb_Checker_checkNumeric_97 (fu : Nat) (s0 : Int32) (u : xk_St) : Option ((Unit ⊕ Nat) × xk_St) :=
  (xs_try (fm_Checker_compute fu s0 (2 : Int32) (2 : Int32) u) fun _ u5 => some (.inl (()), u5))
noncomputable def jb_Checker_checkNumeric_70 (fu : Nat) (s0 : Int32) (u : xk_St) : Option ((Unit ⊕ Nat) × xk_St) :=
  (xs_try (fm_Checker_compute fu s0 (1 : Int32) (1 : Int32) u) fun _ u6 => some (.inl (()), u6))
noncomputable def jb_Checker_checkNumeric_44 (fu : Nat) (s0 : Int32) (u : xk_St) : Option ((Unit ⊕ Nat) × xk_St) :=
  (xs_try (fm_Checker_compute fu s0 (2 : Int32) (1 : Int32) u) fun _ u7 => some (.inl (()), u7))
noncomputable def jb_Checker_checkNumeric_18 (fu : Nat) (s0 : Int32) (u : xk_St) : Option ((Unit ⊕ Nat) × xk_St) :=
  (xs_try (fm_Checker_compute fu s0 (1 : Int32) (1 : Int32) u) fun _ u8 => some (.inl (()), u8))
noncomputable def fm_Checker_checkNumeric (fu : Nat) (x0 : Int32) (u : xk_St) : Option ((Unit ⊕ Nat) × xk_St) :=
  if (79 : Int32) < x0 then (if (90 : Int32) < x0 then (if (120 : Int32) < x0 then (if (138 : Int32) < x0 then (if x0 = (167 : Int32) then ((xs_try (fm_Checker_compute fu (1 : Int32) (2 : Int32) (1 : Int32) u) fun _ u4 => some (.inl (()), u4))) else (if (173 : Int32) < x0 then (if (193 : Int32) < x0 then ((xs_try (fm_Checker_compute fu (1 : Int32) (2 : Int32) (2 : Int32) u) fun _ u1 => some (.inl (()), u1))) else ((xs_try (fm_Checker_compute fu (1 : Int32) (1 : Int32) (1 : Int32) u) fun _ u2 => some (.inl (()), u2)))) else ((xs_try (fm_Checker_compute fu (1 : Int32) (1 : Int32) (2 : Int32) u) fun _ u3 => some (.inl (()), u3))))) else (if (123 : Int32) < x0 then (jb_Checker_checkNumeric_97 fu (2 : Int32) u) else (jb_Checker_checkNumeric_97 fu (1 : Int32) u))) else (if (105 : Int32) < x0 then (jb_Checker_checkNumeric_70 fu (2 : Int32) u) else (jb_Checker_checkNumeric_70 fu (1 : Int32) u))) else (if x0 = (80 : Int32) then (jb_Checker_checkNumeric_44 fu (1 : Int32) u) else (jb_Checker_checkNumeric_44 fu (2 : Int32) u))) else (if x0 = (69 : Int32) then (jb_Checker_checkNumeric_18 fu (1 : Int32) u) else (jb_Checker_checkNumeric_18 fu (2 : Int32) u))
set_option maxHeartbeats 4000000 in
set_option maxRecDepth 100000 in
theorem wj_Checker_checkNumeric_97 {p : Program} {l : Launch} {e : Env} {s : State} {m : MethodId} {args : Array Value} {below : List Frame} {meth : Method} {c : Code} {D : va_G} {ad : Nat → Nat} {ca : Nat → ClassId} {ads : List Nat} {fu : Nat} (htr : l.stackTraces = false) (C : xk_C D kx_cl (kx_ty ca) (kw_h ad ca) ads "ModuleHouse$Checker" prog_2_method_45_code 2 none p e s m args meth c) (hne : c.exceptionTable.isEmpty = true) {u' : xk_St} {r : (Unit ⊕ Nat)} {s0 : Int32} {u : xk_St} {H : Heap} {locs : List Loc} {ls : Array Slot} (h : jb_Checker_checkNumeric_97 fu  s0 u = some (r, u')) (hP : va_P D kx_cl (kw_h ad ca u) H) (hS : va_S (xk_A ads s.heap.size) s.heap H locs) (hl : lv_has ls 2 []) : W p l e rm_Checker_checkNumeric s m args below meth c H locs 0 0 (xk_MQ below (xk_Qc D kx_cl (kw_h ad ca) ads (xo_v r) u') args s (xk_A ads s.heap.size)) (F0 m 97 ls [.int s0, .ref (ad 55)]) := by
  have hx := C.1.1
  have hb := C.1.2.1
  have hok := C.2.2.1
  unfold jb_Checker_checkNumeric_97 at h
  refine lv_iconst (v := 2) hx hb dd_Checker_checkNumeric_97 (by decide) ?_
  refine lv_iconst (v := 2) hx hb dd_Checker_checkNumeric_98 (by decide) ?_
  rcases xp_try h with ⟨rx, u5, hq, h⟩ | ⟨kx, ux, hq, h⟩
  rotate_left
  · obtain ⟨rfl, rfl⟩ := xp_q h
    exact xk_up (xr_V (As := [.int s0, .int (2 : Int32), .int (2 : Int32)]) (rest := []) C hP hS (ct_Checker_compute htr hok hq) kq_Checker_334 55 1 rfl rfl ⟨rfl, rfl, Nat.le_of_ble_eq_true rfl, Nat.le_of_ble_eq_true rfl⟩ ⟨Nat.le_of_ble_eq_true rfl, Nat.le_of_ble_eq_true rfl⟩ hl.1 rfl rfl (Nat.le_of_ble_eq_true rfl) dd_Checker_checkNumeric_99) hS hne C.2.2.2.2.2.2.1
  refine xk_goesV (xr_V (As := [.int s0, .int (2 : Int32), .int (2 : Int32)]) (rest := []) C hP hS (ct_Checker_compute htr hok hq) kq_Checker_334 55 1 rfl rfl ⟨rfl, rfl, Nat.le_of_ble_eq_true rfl, Nat.le_of_ble_eq_true rfl⟩ ⟨Nat.le_of_ble_eq_true rfl, Nat.le_of_ble_eq_true rfl⟩ hl.1 rfl rfl (Nat.le_of_ble_eq_true rfl) dd_Checker_checkNumeric_99) hS (fun H locs hP hS => ?_)
  clear hq
  refine lv_goto (tgt := 163) hx hb dd_Checker_checkNumeric_102 (by decide) ?_
  obtain ⟨rfl, rfl⟩ := xp_r h
  exact xr_vret C hP hS dd_Checker_checkNumeric_163
set_option maxHeartbeats 4000000 in
set_option maxRecDepth 100000 in
theorem wj_Checker_checkNumeric_70 {p : Program} {l : Launch} {e : Env} {s : State} {m : MethodId} {args : Array Value} {below : List Frame} {meth : Method} {c : Code} {D : va_G} {ad : Nat → Nat} {ca : Nat → ClassId} {ads : List Nat} {fu : Nat} (htr : l.stackTraces = false) (C : xk_C D kx_cl (kx_ty ca) (kw_h ad ca) ads "ModuleHouse$Checker" prog_2_method_45_code 2 none p e s m args meth c) (hne : c.exceptionTable.isEmpty = true) {u' : xk_St} {r : (Unit ⊕ Nat)} {s0 : Int32} {u : xk_St} {H : Heap} {locs : List Loc} {ls : Array Slot} (h : jb_Checker_checkNumeric_70 fu  s0 u = some (r, u')) (hP : va_P D kx_cl (kw_h ad ca u) H) (hS : va_S (xk_A ads s.heap.size) s.heap H locs) (hl : lv_has ls 2 []) : W p l e rm_Checker_checkNumeric s m args below meth c H locs 0 0 (xk_MQ below (xk_Qc D kx_cl (kw_h ad ca) ads (xo_v r) u') args s (xk_A ads s.heap.size)) (F0 m 70 ls [.int s0, .ref (ad 55)]) := by
  have hx := C.1.1
  have hb := C.1.2.1
  have hok := C.2.2.1
  unfold jb_Checker_checkNumeric_70 at h
  refine lv_iconst (v := 1) hx hb dd_Checker_checkNumeric_70 (by decide) ?_
  refine lv_iconst (v := 1) hx hb dd_Checker_checkNumeric_71 (by decide) ?_
  rcases xp_try h with ⟨rx, u6, hq, h⟩ | ⟨kx, ux, hq, h⟩
  rotate_left
  · obtain ⟨rfl, rfl⟩ := xp_q h
    exact xk_up (xr_V (As := [.int s0, .int (1 : Int32), .int (1 : Int32)]) (rest := []) C hP hS (ct_Checker_compute htr hok hq) kq_Checker_334 55 1 rfl rfl ⟨rfl, rfl, Nat.le_of_ble_eq_true rfl, Nat.le_of_ble_eq_true rfl⟩ ⟨Nat.le_of_ble_eq_true rfl, Nat.le_of_ble_eq_true rfl⟩ hl.1 rfl rfl (Nat.le_of_ble_eq_true rfl) dd_Checker_checkNumeric_72) hS hne C.2.2.2.2.2.2.1
  refine xk_goesV (xr_V (As := [.int s0, .int (1 : Int32), .int (1 : Int32)]) (rest := []) C hP hS (ct_Checker_compute htr hok hq) kq_Checker_334 55 1 rfl rfl ⟨rfl, rfl, Nat.le_of_ble_eq_true rfl, Nat.le_of_ble_eq_true rfl⟩ ⟨Nat.le_of_ble_eq_true rfl, Nat.le_of_ble_eq_true rfl⟩ hl.1 rfl rfl (Nat.le_of_ble_eq_true rfl) dd_Checker_checkNumeric_72) hS (fun H locs hP hS => ?_)
  clear hq
  refine lv_goto (tgt := 163) hx hb dd_Checker_checkNumeric_75 (by decide) ?_
  obtain ⟨rfl, rfl⟩ := xp_r h
  exact xr_vret C hP hS dd_Checker_checkNumeric_163
set_option maxHeartbeats 4000000 in
set_option maxRecDepth 100000 in
theorem wj_Checker_checkNumeric_44 {p : Program} {l : Launch} {e : Env} {s : State} {m : MethodId} {args : Array Value} {below : List Frame} {meth : Method} {c : Code} {D : va_G} {ad : Nat → Nat} {ca : Nat → ClassId} {ads : List Nat} {fu : Nat} (htr : l.stackTraces = false) (C : xk_C D kx_cl (kx_ty ca) (kw_h ad ca) ads "ModuleHouse$Checker" prog_2_method_45_code 2 none p e s m args meth c) (hne : c.exceptionTable.isEmpty = true) {u' : xk_St} {r : (Unit ⊕ Nat)} {s0 : Int32} {u : xk_St} {H : Heap} {locs : List Loc} {ls : Array Slot} (h : jb_Checker_checkNumeric_44 fu  s0 u = some (r, u')) (hP : va_P D kx_cl (kw_h ad ca u) H) (hS : va_S (xk_A ads s.heap.size) s.heap H locs) (hl : lv_has ls 2 []) : W p l e rm_Checker_checkNumeric s m args below meth c H locs 0 0 (xk_MQ below (xk_Qc D kx_cl (kw_h ad ca) ads (xo_v r) u') args s (xk_A ads s.heap.size)) (F0 m 44 ls [.int s0, .ref (ad 55)]) := by
  have hx := C.1.1
  have hb := C.1.2.1
  have hok := C.2.2.1
  unfold jb_Checker_checkNumeric_44 at h
  refine lv_iconst (v := 2) hx hb dd_Checker_checkNumeric_44 (by decide) ?_
  refine lv_iconst (v := 1) hx hb dd_Checker_checkNumeric_45 (by decide) ?_
  rcases xp_try h with ⟨rx, u7, hq, h⟩ | ⟨kx, ux, hq, h⟩
  rotate_left
  · obtain ⟨rfl, rfl⟩ := xp_q h
    exact xk_up (xr_V (As := [.int s0, .int (2 : Int32), .int (1 : Int32)]) (rest := []) C hP hS (ct_Checker_compute htr hok hq) kq_Checker_334 55 1 rfl rfl ⟨rfl, rfl, Nat.le_of_ble_eq_true rfl, Nat.le_of_ble_eq_true rfl⟩ ⟨Nat.le_of_ble_eq_true rfl, Nat.le_of_ble_eq_true rfl⟩ hl.1 rfl rfl (Nat.le_of_ble_eq_true rfl) dd_Checker_checkNumeric_46) hS hne C.2.2.2.2.2.2.1
  refine xk_goesV (xr_V (As := [.int s0, .int (2 : Int32), .int (1 : Int32)]) (rest := []) C hP hS (ct_Checker_compute htr hok hq) kq_Checker_334 55 1 rfl rfl ⟨rfl, rfl, Nat.le_of_ble_eq_true rfl, Nat.le_of_ble_eq_true rfl⟩ ⟨Nat.le_of_ble_eq_true rfl, Nat.le_of_ble_eq_true rfl⟩ hl.1 rfl rfl (Nat.le_of_ble_eq_true rfl) dd_Checker_checkNumeric_46) hS (fun H locs hP hS => ?_)
  clear hq
  refine lv_goto (tgt := 163) hx hb dd_Checker_checkNumeric_49 (by decide) ?_
  obtain ⟨rfl, rfl⟩ := xp_r h
  exact xr_vret C hP hS dd_Checker_checkNumeric_163
set_option maxHeartbeats 4000000 in
set_option maxRecDepth 100000 in
theorem wj_Checker_checkNumeric_18 {p : Program} {l : Launch} {e : Env} {s : State} {m : MethodId} {args : Array Value} {below : List Frame} {meth : Method} {c : Code} {D : va_G} {ad : Nat → Nat} {ca : Nat → ClassId} {ads : List Nat} {fu : Nat} (htr : l.stackTraces = false) (C : xk_C D kx_cl (kx_ty ca) (kw_h ad ca) ads "ModuleHouse$Checker" prog_2_method_45_code 2 none p e s m args meth c) (hne : c.exceptionTable.isEmpty = true) {u' : xk_St} {r : (Unit ⊕ Nat)} {s0 : Int32} {u : xk_St} {H : Heap} {locs : List Loc} {ls : Array Slot} (h : jb_Checker_checkNumeric_18 fu  s0 u = some (r, u')) (hP : va_P D kx_cl (kw_h ad ca u) H) (hS : va_S (xk_A ads s.heap.size) s.heap H locs) (hl : lv_has ls 2 []) : W p l e rm_Checker_checkNumeric s m args below meth c H locs 0 0 (xk_MQ below (xk_Qc D kx_cl (kw_h ad ca) ads (xo_v r) u') args s (xk_A ads s.heap.size)) (F0 m 18 ls [.int s0, .ref (ad 55)]) := by
  have hx := C.1.1
  have hb := C.1.2.1
  have hok := C.2.2.1
  unfold jb_Checker_checkNumeric_18 at h
  refine lv_iconst (v := 1) hx hb dd_Checker_checkNumeric_18 (by decide) ?_
  refine lv_iconst (v := 1) hx hb dd_Checker_checkNumeric_19 (by decide) ?_
  rcases xp_try h with ⟨rx, u8, hq, h⟩ | ⟨kx, ux, hq, h⟩
  rotate_left
  · obtain ⟨rfl, rfl⟩ := xp_q h
    exact xk_up (xr_V (As := [.int s0, .int (1 : Int32), .int (1 : Int32)]) (rest := []) C hP hS (ct_Checker_compute htr hok hq) kq_Checker_334 55 1 rfl rfl ⟨rfl, rfl, Nat.le_of_ble_eq_true rfl, Nat.le_of_ble_eq_true rfl⟩ ⟨Nat.le_of_ble_eq_true rfl, Nat.le_of_ble_eq_true rfl⟩ hl.1 rfl rfl (Nat.le_of_ble_eq_true rfl) dd_Checker_checkNumeric_20) hS hne C.2.2.2.2.2.2.1
  refine xk_goesV (xr_V (As := [.int s0, .int (1 : Int32), .int (1 : Int32)]) (rest := []) C hP hS (ct_Checker_compute htr hok hq) kq_Checker_334 55 1 rfl rfl ⟨rfl, rfl, Nat.le_of_ble_eq_true rfl, Nat.le_of_ble_eq_true rfl⟩ ⟨Nat.le_of_ble_eq_true rfl, Nat.le_of_ble_eq_true rfl⟩ hl.1 rfl rfl (Nat.le_of_ble_eq_true rfl) dd_Checker_checkNumeric_20) hS (fun H locs hP hS => ?_)
  clear hq
  refine lv_goto (tgt := 163) hx hb dd_Checker_checkNumeric_23 (by decide) ?_
  obtain ⟨rfl, rfl⟩ := xp_r h
  exact xr_vret C hP hS dd_Checker_checkNumeric_163
set_option maxHeartbeats 4000000 in
set_option maxRecDepth 100000 in
theorem ct_Checker_checkNumeric {l : Launch} {D : va_G} {ad : Nat → Nat} {ca : Nat → ClassId} {ads : List Nat} (htr : l.stackTraces = false) (hok : xk_ok (kw_h ad ca) ads) {fu : Nat} {x0 : Int32} {u u' : xk_St} {r : (Unit ⊕ Nat)} (h : fm_Checker_checkNumeric fu x0 u = some (r, u')) :
    ∀ sz, xk_Met l ⟨"ModuleHouse$Checker", "checkNumeric", "(I)V"⟩ (Cond.code ⟨"ModuleHouse$Checker", "checkNumeric", "(I)V"⟩ prog_2_method_45_code 2 none :: xk_gd) rm_Checker_checkNumeric (xk_Pc D kx_cl (kx_ty ca) (kw_h ad ca) ads xk_F sz [.ref (ad 55), .int x0] u) (xk_Qc D kx_cl (kw_h ad ca) ads (xo_v r) u') (xk_A ads sz) := by
  unfold fm_Checker_checkNumeric at h
  refine xk_con (by decide) htr hok (Nat.le_of_ble_eq_true rfl) (fun p e s m below meth c ls C hne hl hP => ?_)
  have hx := C.1.1
  have hb := C.1.2.1
  have hS : va_S (xk_A ads s.heap.size) s.heap s.heap [] := va_S.rf
  have hl : lv_has ls 2 [(0, .ref (ad 55)), (1, .int x0)] := hl
  refine lv_iload_n hx hb dd_Checker_checkNumeric_0 rfl (lv_at hl 1 rfl) ?_
  refine lv_bipush (v := 79) hx hb dd_Checker_checkNumeric_1 (by decide) ?_
  refine lv_icmp_gt (tgt := 26) hx hb dd_Checker_checkNumeric_3 (by decide) (fun hc => ?_) (fun hc => ?_)
  · have h := xp_t hc h
    refine lv_iload_n hx hb dd_Checker_checkNumeric_26 rfl (lv_at hl 1 rfl) ?_
    refine lv_bipush (v := 90) hx hb dd_Checker_checkNumeric_27 (by decide) ?_
    refine lv_icmp_gt (tgt := 52) hx hb dd_Checker_checkNumeric_29 (by decide) (fun hc => ?_) (fun hc => ?_)
    · have h := xp_t hc h
      refine lv_iload_n hx hb dd_Checker_checkNumeric_52 rfl (lv_at hl 1 rfl) ?_
      refine lv_bipush (v := 120) hx hb dd_Checker_checkNumeric_53 (by decide) ?_
      refine lv_icmp_gt (tgt := 78) hx hb dd_Checker_checkNumeric_55 (by decide) (fun hc => ?_) (fun hc => ?_)
      · have h := xp_t hc h
        refine lv_iload_n hx hb dd_Checker_checkNumeric_78 rfl (lv_at hl 1 rfl) ?_
        refine lv_sipush (v := 138) hx hb dd_Checker_checkNumeric_79 (by decide) ?_
        refine lv_icmp_gt (tgt := 105) hx hb dd_Checker_checkNumeric_82 (by decide) (fun hc => ?_) (fun hc => ?_)
        · have h := xp_t hc h
          refine lv_iload_n hx hb dd_Checker_checkNumeric_105 rfl (lv_at hl 1 rfl) ?_
          refine lv_sipush (v := 167) hx hb dd_Checker_checkNumeric_106 (by decide) ?_
          refine lv_icmp_ne (tgt := 122) hx hb dd_Checker_checkNumeric_109 (by decide) (fun hc => ?_) (fun hc => ?_)
          · have h := xp_f hc h
            refine lv_iload_n hx hb dd_Checker_checkNumeric_122 rfl (lv_at hl 1 rfl) ?_
            refine lv_sipush (v := 173) hx hb dd_Checker_checkNumeric_123 (by decide) ?_
            refine lv_icmp_gt (tgt := 139) hx hb dd_Checker_checkNumeric_126 (by decide) (fun hc => ?_) (fun hc => ?_)
            · have h := xp_t hc h
              refine lv_iload_n hx hb dd_Checker_checkNumeric_139 rfl (lv_at hl 1 rfl) ?_
              refine lv_sipush (v := 193) hx hb dd_Checker_checkNumeric_140 (by decide) ?_
              refine lv_icmp_gt (tgt := 156) hx hb dd_Checker_checkNumeric_143 (by decide) (fun hc => ?_) (fun hc => ?_)
              · have h := xp_t hc h
                refine lv_aload_n hx hb dd_Checker_checkNumeric_156 rfl (lv_at hl 0 rfl) ?_
                refine lv_iconst (v := 1) hx hb dd_Checker_checkNumeric_157 (by decide) ?_
                refine lv_iconst (v := 2) hx hb dd_Checker_checkNumeric_158 (by decide) ?_
                refine lv_iconst (v := 2) hx hb dd_Checker_checkNumeric_159 (by decide) ?_
                rcases xp_try h with ⟨rx, u1, hq, h⟩ | ⟨kx, ux, hq, h⟩
                rotate_left
                · obtain ⟨rfl, rfl⟩ := xp_q h
                  exact xk_up (xr_V (As := [.int (1 : Int32), .int (2 : Int32), .int (2 : Int32)]) (rest := []) C hP hS (ct_Checker_compute htr hok hq) kq_Checker_334 55 1 rfl rfl ⟨rfl, rfl, Nat.le_of_ble_eq_true rfl, Nat.le_of_ble_eq_true rfl⟩ ⟨Nat.le_of_ble_eq_true rfl, Nat.le_of_ble_eq_true rfl⟩ hl.1 rfl rfl (Nat.le_of_ble_eq_true rfl) dd_Checker_checkNumeric_160) hS hne C.2.2.2.2.2.2.1
                refine xk_goesV (xr_V (As := [.int (1 : Int32), .int (2 : Int32), .int (2 : Int32)]) (rest := []) C hP hS (ct_Checker_compute htr hok hq) kq_Checker_334 55 1 rfl rfl ⟨rfl, rfl, Nat.le_of_ble_eq_true rfl, Nat.le_of_ble_eq_true rfl⟩ ⟨Nat.le_of_ble_eq_true rfl, Nat.le_of_ble_eq_true rfl⟩ hl.1 rfl rfl (Nat.le_of_ble_eq_true rfl) dd_Checker_checkNumeric_160) hS (fun H locs hP hS => ?_)
                clear hq
                obtain ⟨rfl, rfl⟩ := xp_r h
                exact xr_vret C hP hS dd_Checker_checkNumeric_163
              · have h := xp_f hc h
                refine lv_aload_n hx hb dd_Checker_checkNumeric_146 rfl (lv_at hl 0 rfl) ?_
                refine lv_iconst (v := 1) hx hb dd_Checker_checkNumeric_147 (by decide) ?_
                refine lv_iconst (v := 1) hx hb dd_Checker_checkNumeric_148 (by decide) ?_
                refine lv_iconst (v := 1) hx hb dd_Checker_checkNumeric_149 (by decide) ?_
                rcases xp_try h with ⟨rx, u2, hq, h⟩ | ⟨kx, ux, hq, h⟩
                rotate_left
                · obtain ⟨rfl, rfl⟩ := xp_q h
                  exact xk_up (xr_V (As := [.int (1 : Int32), .int (1 : Int32), .int (1 : Int32)]) (rest := []) C hP hS (ct_Checker_compute htr hok hq) kq_Checker_334 55 1 rfl rfl ⟨rfl, rfl, Nat.le_of_ble_eq_true rfl, Nat.le_of_ble_eq_true rfl⟩ ⟨Nat.le_of_ble_eq_true rfl, Nat.le_of_ble_eq_true rfl⟩ hl.1 rfl rfl (Nat.le_of_ble_eq_true rfl) dd_Checker_checkNumeric_150) hS hne C.2.2.2.2.2.2.1
                refine xk_goesV (xr_V (As := [.int (1 : Int32), .int (1 : Int32), .int (1 : Int32)]) (rest := []) C hP hS (ct_Checker_compute htr hok hq) kq_Checker_334 55 1 rfl rfl ⟨rfl, rfl, Nat.le_of_ble_eq_true rfl, Nat.le_of_ble_eq_true rfl⟩ ⟨Nat.le_of_ble_eq_true rfl, Nat.le_of_ble_eq_true rfl⟩ hl.1 rfl rfl (Nat.le_of_ble_eq_true rfl) dd_Checker_checkNumeric_150) hS (fun H locs hP hS => ?_)
                clear hq
                refine lv_goto (tgt := 163) hx hb dd_Checker_checkNumeric_153 (by decide) ?_
                obtain ⟨rfl, rfl⟩ := xp_r h
                exact xr_vret C hP hS dd_Checker_checkNumeric_163
            · have h := xp_f hc h
              refine lv_aload_n hx hb dd_Checker_checkNumeric_129 rfl (lv_at hl 0 rfl) ?_
              refine lv_iconst (v := 1) hx hb dd_Checker_checkNumeric_130 (by decide) ?_
              refine lv_iconst (v := 1) hx hb dd_Checker_checkNumeric_131 (by decide) ?_
              refine lv_iconst (v := 2) hx hb dd_Checker_checkNumeric_132 (by decide) ?_
              rcases xp_try h with ⟨rx, u3, hq, h⟩ | ⟨kx, ux, hq, h⟩
              rotate_left
              · obtain ⟨rfl, rfl⟩ := xp_q h
                exact xk_up (xr_V (As := [.int (1 : Int32), .int (1 : Int32), .int (2 : Int32)]) (rest := []) C hP hS (ct_Checker_compute htr hok hq) kq_Checker_334 55 1 rfl rfl ⟨rfl, rfl, Nat.le_of_ble_eq_true rfl, Nat.le_of_ble_eq_true rfl⟩ ⟨Nat.le_of_ble_eq_true rfl, Nat.le_of_ble_eq_true rfl⟩ hl.1 rfl rfl (Nat.le_of_ble_eq_true rfl) dd_Checker_checkNumeric_133) hS hne C.2.2.2.2.2.2.1
              refine xk_goesV (xr_V (As := [.int (1 : Int32), .int (1 : Int32), .int (2 : Int32)]) (rest := []) C hP hS (ct_Checker_compute htr hok hq) kq_Checker_334 55 1 rfl rfl ⟨rfl, rfl, Nat.le_of_ble_eq_true rfl, Nat.le_of_ble_eq_true rfl⟩ ⟨Nat.le_of_ble_eq_true rfl, Nat.le_of_ble_eq_true rfl⟩ hl.1 rfl rfl (Nat.le_of_ble_eq_true rfl) dd_Checker_checkNumeric_133) hS (fun H locs hP hS => ?_)
              clear hq
              refine lv_goto (tgt := 163) hx hb dd_Checker_checkNumeric_136 (by decide) ?_
              obtain ⟨rfl, rfl⟩ := xp_r h
              exact xr_vret C hP hS dd_Checker_checkNumeric_163
          · have h := xp_t hc h
            refine lv_aload_n hx hb dd_Checker_checkNumeric_112 rfl (lv_at hl 0 rfl) ?_
            refine lv_iconst (v := 1) hx hb dd_Checker_checkNumeric_113 (by decide) ?_
            refine lv_iconst (v := 2) hx hb dd_Checker_checkNumeric_114 (by decide) ?_
            refine lv_iconst (v := 1) hx hb dd_Checker_checkNumeric_115 (by decide) ?_
            rcases xp_try h with ⟨rx, u4, hq, h⟩ | ⟨kx, ux, hq, h⟩
            rotate_left
            · obtain ⟨rfl, rfl⟩ := xp_q h
              exact xk_up (xr_V (As := [.int (1 : Int32), .int (2 : Int32), .int (1 : Int32)]) (rest := []) C hP hS (ct_Checker_compute htr hok hq) kq_Checker_334 55 1 rfl rfl ⟨rfl, rfl, Nat.le_of_ble_eq_true rfl, Nat.le_of_ble_eq_true rfl⟩ ⟨Nat.le_of_ble_eq_true rfl, Nat.le_of_ble_eq_true rfl⟩ hl.1 rfl rfl (Nat.le_of_ble_eq_true rfl) dd_Checker_checkNumeric_116) hS hne C.2.2.2.2.2.2.1
            refine xk_goesV (xr_V (As := [.int (1 : Int32), .int (2 : Int32), .int (1 : Int32)]) (rest := []) C hP hS (ct_Checker_compute htr hok hq) kq_Checker_334 55 1 rfl rfl ⟨rfl, rfl, Nat.le_of_ble_eq_true rfl, Nat.le_of_ble_eq_true rfl⟩ ⟨Nat.le_of_ble_eq_true rfl, Nat.le_of_ble_eq_true rfl⟩ hl.1 rfl rfl (Nat.le_of_ble_eq_true rfl) dd_Checker_checkNumeric_116) hS (fun H locs hP hS => ?_)
            clear hq
            refine lv_goto (tgt := 163) hx hb dd_Checker_checkNumeric_119 (by decide) ?_
            obtain ⟨rfl, rfl⟩ := xp_r h
            exact xr_vret C hP hS dd_Checker_checkNumeric_163
        · have h := xp_f hc h
          refine lv_aload_n hx hb dd_Checker_checkNumeric_85 rfl (lv_at hl 0 rfl) ?_
          refine lv_iload_n hx hb dd_Checker_checkNumeric_86 rfl (lv_at hl 1 rfl) ?_
          refine lv_bipush (v := 123) hx hb dd_Checker_checkNumeric_87 (by decide) ?_
          refine lv_icmp_gt (tgt := 96) hx hb dd_Checker_checkNumeric_89 (by decide) (fun hc => ?_) (fun hc => ?_)
          · have h := xp_t hc h
            refine lv_iconst (v := 2) hx hb dd_Checker_checkNumeric_96 (by decide) ?_
            exact wj_Checker_checkNumeric_97 htr C hne h hP hS (lv_sub hl [] rfl)
          · have h := xp_f hc h
            refine lv_iconst (v := 1) hx hb dd_Checker_checkNumeric_92 (by decide) ?_
            refine lv_goto (tgt := 97) hx hb dd_Checker_checkNumeric_93 (by decide) ?_
            exact wj_Checker_checkNumeric_97 htr C hne h hP hS (lv_sub hl [] rfl)
      · have h := xp_f hc h
        refine lv_aload_n hx hb dd_Checker_checkNumeric_58 rfl (lv_at hl 0 rfl) ?_
        refine lv_iload_n hx hb dd_Checker_checkNumeric_59 rfl (lv_at hl 1 rfl) ?_
        refine lv_bipush (v := 105) hx hb dd_Checker_checkNumeric_60 (by decide) ?_
        refine lv_icmp_gt (tgt := 69) hx hb dd_Checker_checkNumeric_62 (by decide) (fun hc => ?_) (fun hc => ?_)
        · have h := xp_t hc h
          refine lv_iconst (v := 2) hx hb dd_Checker_checkNumeric_69 (by decide) ?_
          exact wj_Checker_checkNumeric_70 htr C hne h hP hS (lv_sub hl [] rfl)
        · have h := xp_f hc h
          refine lv_iconst (v := 1) hx hb dd_Checker_checkNumeric_65 (by decide) ?_
          refine lv_goto (tgt := 70) hx hb dd_Checker_checkNumeric_66 (by decide) ?_
          exact wj_Checker_checkNumeric_70 htr C hne h hP hS (lv_sub hl [] rfl)
    · have h := xp_f hc h
      refine lv_aload_n hx hb dd_Checker_checkNumeric_32 rfl (lv_at hl 0 rfl) ?_
      refine lv_iload_n hx hb dd_Checker_checkNumeric_33 rfl (lv_at hl 1 rfl) ?_
      refine lv_bipush (v := 80) hx hb dd_Checker_checkNumeric_34 (by decide) ?_
      refine lv_icmp_ne (tgt := 43) hx hb dd_Checker_checkNumeric_36 (by decide) (fun hc => ?_) (fun hc => ?_)
      · have h := xp_f hc h
        refine lv_iconst (v := 2) hx hb dd_Checker_checkNumeric_43 (by decide) ?_
        exact wj_Checker_checkNumeric_44 htr C hne h hP hS (lv_sub hl [] rfl)
      · have h := xp_t hc h
        refine lv_iconst (v := 1) hx hb dd_Checker_checkNumeric_39 (by decide) ?_
        refine lv_goto (tgt := 44) hx hb dd_Checker_checkNumeric_40 (by decide) ?_
        exact wj_Checker_checkNumeric_44 htr C hne h hP hS (lv_sub hl [] rfl)
  · have h := xp_f hc h
    refine lv_aload_n hx hb dd_Checker_checkNumeric_6 rfl (lv_at hl 0 rfl) ?_
    refine lv_iload_n hx hb dd_Checker_checkNumeric_7 rfl (lv_at hl 1 rfl) ?_
    refine lv_bipush (v := 69) hx hb dd_Checker_checkNumeric_8 (by decide) ?_
    refine lv_icmp_ne (tgt := 17) hx hb dd_Checker_checkNumeric_10 (by decide) (fun hc => ?_) (fun hc => ?_)
    · have h := xp_f hc h
      refine lv_iconst (v := 2) hx hb dd_Checker_checkNumeric_17 (by decide) ?_
      exact wj_Checker_checkNumeric_18 htr C hne h hP hS (lv_sub hl [] rfl)
    · have h := xp_t hc h
      refine lv_iconst (v := 1) hx hb dd_Checker_checkNumeric_13 (by decide) ?_
      refine lv_goto (tgt := 18) hx hb dd_Checker_checkNumeric_14 (by decide) ?_
      exact wj_Checker_checkNumeric_18 htr C hne h hP hS (lv_sub hl [] rfl)
abbrev rm_Memory_isWide : Room := { frames := 1, cells := 1, slots := 6, locals := 0 }
noncomputable def jb_Memory_isWide_30 (u : xk_St) : Option (Int32 × xk_St) :=
  some ((1 : Int32), u)
noncomputable def jb_Memory_isWide_18 (b0 : Int32) (u : xk_St) : Option (Int32 × xk_St) :=
  if b0 = (55 : Int32) then (jb_Memory_isWide_30 u) else (if b0 < (60 : Int32) then (some ((0 : Int32), u)) else (jb_Memory_isWide_30 u))
noncomputable def fm_Memory_isWide (x0 : Int32) (u : xk_St) : Option (Int32 × xk_St) :=
  if x0 = (41 : Int32) then (jb_Memory_isWide_30 u) else (if x0 < (48 : Int32) then (jb_Memory_isWide_18 x0 u) else (if x0 ≤ (53 : Int32) then (jb_Memory_isWide_30 u) else (jb_Memory_isWide_18 x0 u)))
set_option maxHeartbeats 4000000 in
set_option maxRecDepth 100000 in
theorem wj_Memory_isWide_30 {p : Program} {l : Launch} {e : Env} {s : State} {m : MethodId} {args : Array Value} {below : List Frame} {meth : Method} {c : Code} {D : va_G} {ad : Nat → Nat} {ca : Nat → ClassId} {ads : List Nat} (htr : l.stackTraces = false) (C : xk_C D kx_cl (kx_ty ca) (kw_h ad ca) ads "ModuleHouse$Memory" prog_6_method_3_code 1 (some .boolean) p e s m args meth c) (hne : c.exceptionTable.isEmpty = true) {u' : xk_St} {r : Int32} {u : xk_St} {H : Heap} {locs : List Loc} {ls : Array Slot} (h : jb_Memory_isWide_30   u = some (r, u')) (hP : va_P D kx_cl (kw_h ad ca u) H) (hS : va_S (xk_A ads s.heap.size) s.heap H locs) (hl : lv_has ls 1 []) : W p l e rm_Memory_isWide s m args below meth c H locs 0 0 (xk_MQ below (xk_Qc D kx_cl (kw_h ad ca) ads (xo_i (.inl r)) u') args s (xk_A ads s.heap.size)) (F0 m 30 ls []) := by
  have hx := C.1.1
  have hb := C.1.2.1
  have hok := C.2.2.1
  unfold jb_Memory_isWide_30 at h
  refine lv_iconst (v := 1) hx hb dd_Memory_isWide_30 (by decide) ?_
  refine lv_goto (tgt := 35) hx hb dd_Memory_isWide_31 (by decide) ?_
  obtain ⟨rfl, rfl⟩ := xp_r h
  exact xr_zret C hP hS (by decide) dd_Memory_isWide_35
set_option maxHeartbeats 4000000 in
set_option maxRecDepth 100000 in
theorem wj_Memory_isWide_18 {p : Program} {l : Launch} {e : Env} {s : State} {m : MethodId} {args : Array Value} {below : List Frame} {meth : Method} {c : Code} {D : va_G} {ad : Nat → Nat} {ca : Nat → ClassId} {ads : List Nat} (htr : l.stackTraces = false) (C : xk_C D kx_cl (kx_ty ca) (kw_h ad ca) ads "ModuleHouse$Memory" prog_6_method_3_code 1 (some .boolean) p e s m args meth c) (hne : c.exceptionTable.isEmpty = true) {u' : xk_St} {r : Int32} {b0 : Int32} {u : xk_St} {H : Heap} {locs : List Loc} {ls : Array Slot} (h : jb_Memory_isWide_18  b0 u = some (r, u')) (hP : va_P D kx_cl (kw_h ad ca u) H) (hS : va_S (xk_A ads s.heap.size) s.heap H locs) (hl : lv_has ls 1 [(0, .int b0)]) : W p l e rm_Memory_isWide s m args below meth c H locs 0 0 (xk_MQ below (xk_Qc D kx_cl (kw_h ad ca) ads (xo_i (.inl r)) u') args s (xk_A ads s.heap.size)) (F0 m 18 ls []) := by
  have hx := C.1.1
  have hb := C.1.2.1
  have hok := C.2.2.1
  unfold jb_Memory_isWide_18 at h
  refine lv_iload_n hx hb dd_Memory_isWide_18 rfl (lv_at hl 0 rfl) ?_
  refine lv_bipush (v := 55) hx hb dd_Memory_isWide_19 (by decide) ?_
  refine lv_icmp_eq (tgt := 30) hx hb dd_Memory_isWide_21 (by decide) (fun hc => ?_) (fun hc => ?_)
  · have h := xp_t hc h
    exact wj_Memory_isWide_30 htr C hne h hP hS (lv_sub hl [] rfl)
  · have h := xp_f hc h
    refine lv_iload_n hx hb dd_Memory_isWide_24 rfl (lv_at hl 0 rfl) ?_
    refine lv_bipush (v := 60) hx hb dd_Memory_isWide_25 (by decide) ?_
    refine lv_icmp_lt (tgt := 34) hx hb dd_Memory_isWide_27 (by decide) (fun hc => ?_) (fun hc => ?_)
    · have h := xp_t hc h
      refine lv_iconst (v := 0) hx hb dd_Memory_isWide_34 (by decide) ?_
      obtain ⟨rfl, rfl⟩ := xp_r h
      exact xr_zret C hP hS (by decide) dd_Memory_isWide_35
    · have h := xp_f hc h
      exact wj_Memory_isWide_30 htr C hne h hP hS (lv_sub hl [] rfl)
set_option maxHeartbeats 4000000 in
set_option maxRecDepth 100000 in
theorem ct_Memory_isWide {l : Launch} {D : va_G} {ad : Nat → Nat} {ca : Nat → ClassId} {ads : List Nat} (htr : l.stackTraces = false) (hok : xk_ok (kw_h ad ca) ads) {x0 : Int32} {u u' : xk_St} {r : Int32} (h : fm_Memory_isWide x0 u = some (r, u')) :
    ∀ sz, xk_Met l ⟨"ModuleHouse$Memory", "isWide", "(I)Z"⟩ (Cond.code ⟨"ModuleHouse$Memory", "isWide", "(I)Z"⟩ prog_6_method_3_code 1 (some .boolean) :: xk_gd) rm_Memory_isWide (xk_Pc D kx_cl (kx_ty ca) (kw_h ad ca) ads xk_F sz [.int x0] u) (xk_Qc D kx_cl (kw_h ad ca) ads (xo_i (.inl r)) u') (xk_A ads sz) := by
  unfold fm_Memory_isWide at h
  refine xk_con (by decide) htr hok (Nat.le_of_ble_eq_true rfl) (fun p e s m below meth c ls C hne hl hP => ?_)
  have hx := C.1.1
  have hb := C.1.2.1
  have hS : va_S (xk_A ads s.heap.size) s.heap s.heap [] := va_S.rf
  have hl : lv_has ls 1 [(0, .int x0)] := hl
  refine lv_iload_n hx hb dd_Memory_isWide_0 rfl (lv_at hl 0 rfl) ?_
  refine lv_bipush (v := 41) hx hb dd_Memory_isWide_1 (by decide) ?_
  refine lv_icmp_eq (tgt := 30) hx hb dd_Memory_isWide_3 (by decide) (fun hc => ?_) (fun hc => ?_)
  · have h := xp_t hc h
    exact wj_Memory_isWide_30 htr C hne h hP hS (lv_sub hl [] rfl)
  · have h := xp_f hc h
    refine lv_iload_n hx hb dd_Memory_isWide_6 rfl (lv_at hl 0 rfl) ?_
    refine lv_bipush (v := 48) hx hb dd_Memory_isWide_7 (by decide) ?_
    refine lv_icmp_lt (tgt := 18) hx hb dd_Memory_isWide_9 (by decide) (fun hc => ?_) (fun hc => ?_)
    · have h := xp_t hc h
      exact wj_Memory_isWide_18 htr C hne h hP hS (lv_sub hl [0] rfl)
    · have h := xp_f hc h
      refine lv_iload_n hx hb dd_Memory_isWide_12 rfl (lv_at hl 0 rfl) ?_
      refine lv_bipush (v := 53) hx hb dd_Memory_isWide_13 (by decide) ?_
      refine lv_icmp_le (tgt := 30) hx hb dd_Memory_isWide_15 (by decide) (fun hc => ?_) (fun hc => ?_)
      · have h := xp_t hc h
        exact wj_Memory_isWide_30 htr C hne h hP hS (lv_sub hl [] rfl)
      · have h := xp_f hc h
        exact wj_Memory_isWide_18 htr C hne h hP hS (lv_sub hl [0] rfl)
abbrev rm_Checker_checkMemory : Room := { frames := 8, cells := 1, slots := 6, locals := 141 }
noncomputable def jb_Checker_checkMemory_80 (b1 : Int32) (s0 : Int32) (u : xk_St) : Option ((Unit ⊕ Nat) × xk_St) :=
  if b1 < (54 : Int32) then ((xs_try (fm_Checker_pop_I (1 : Int32) u) fun _ u5 => xs_try (fm_Checker_push s0 u5) fun _ u6 => some (.inl (()), u6))) else ((xs_try (fm_Checker_pop_I s0 u) fun _ u7 => xs_try (fm_Checker_pop_I (1 : Int32) u7) fun _ u8 => some (.inl (()), u8)))
noncomputable def jb_Checker_checkMemory_65 (b1 : Int32) (s0 : Int32) (u : xk_St) : Option ((Unit ⊕ Nat) × xk_St) :=
  (xs_try (fm_Checker_need s0 u) fun _ u2 => xs_seq (fm_Memory_isWide b1 u2) fun a3 u4 => if a3 = (0 : Int32) then (jb_Checker_checkMemory_80 b1 (1 : Int32) u4) else (jb_Checker_checkMemory_80 b1 (2 : Int32) u4))
noncomputable def jb_Checker_checkMemory_64 (b1 : Int32) (u : xk_St) : Option ((Unit ⊕ Nat) × xk_St) :=
  jb_Checker_checkMemory_65 b1 (0 : Int32) u
noncomputable def jb_Checker_checkMemory_39 (u : xk_St) : Option ((Unit ⊕ Nat) × xk_St) :=
  (xs_try (fm_Checker_push (1 : Int32) u) fun _ u11 => some (.inl (()), u11))
noncomputable def jb_Checker_checkMemory_19 (b1 : Int32) (b2 : Int32) (s0 : Int32) (u : xk_St) : Option ((Unit ⊕ Nat) × xk_St) :=
  (xs_try (fm_Checker_need s0 u) fun _ u1 => if b1 < (63 : Int32) then (if (3 : Int32) < b2 then (jb_Checker_checkMemory_64 b1 u1) else ((xs_seq (fm_Memory_width b1 u1) fun a9 u10 => if a9 < ((1 : Int32) <<< (b2 &&& 31)) then (jb_Checker_checkMemory_64 b1 u10) else (jb_Checker_checkMemory_65 b1 (1 : Int32) u10)))) else (if b1 = (64 : Int32) then ((xs_try (fm_Checker_pop_I (1 : Int32) u1) fun _ u12 => jb_Checker_checkMemory_39 u12)) else (jb_Checker_checkMemory_39 u1)))
noncomputable def fm_Checker_checkMemory (x0 : Int32) (x1 : Int32) (u : xk_St) : Option ((Unit ⊕ Nat) × xk_St) :=
  if (u.1 12) = (1 : Int32) then (jb_Checker_checkMemory_19 x0 x1 (1 : Int32) u) else (jb_Checker_checkMemory_19 x0 x1 (0 : Int32) u)
set_option maxHeartbeats 4000000 in
set_option maxRecDepth 100000 in
theorem wj_Checker_checkMemory_80 {p : Program} {l : Launch} {e : Env} {s : State} {m : MethodId} {args : Array Value} {below : List Frame} {meth : Method} {c : Code} {D : va_G} {ad : Nat → Nat} {ca : Nat → ClassId} {ads : List Nat} (htr : l.stackTraces = false) (C : xk_C D kx_cl (kx_ty ca) (kw_h ad ca) ads "ModuleHouse$Checker" prog_2_method_44_code 4 none p e s m args meth c) (hne : c.exceptionTable.isEmpty = true) {u' : xk_St} {r : (Unit ⊕ Nat)} {b1 : Int32} {s0 : Int32} {u : xk_St} {H : Heap} {locs : List Loc} {ls : Array Slot} (h : jb_Checker_checkMemory_80  b1 s0 u = some (r, u')) (hP : va_P D kx_cl (kw_h ad ca u) H) (hS : va_S (xk_A ads s.heap.size) s.heap H locs) (hl : lv_has ls 4 [(0, .ref (ad 55)), (1, .int b1)]) : W p l e rm_Checker_checkMemory s m args below meth c H locs 0 0 (xk_MQ below (xk_Qc D kx_cl (kw_h ad ca) ads (xo_v r) u') args s (xk_A ads s.heap.size)) (F0 m 80 ls [.int s0]) := by
  have hx := C.1.1
  have hb := C.1.2.1
  have hok := C.2.2.1
  unfold jb_Checker_checkMemory_80 at h
  refine lv_istore_n (lv' := [(3, .int s0), (0, .ref (ad 55)), (1, .int b1)]) hx hb dd_Checker_checkMemory_80 rfl hl (by decide) rfl (fun ls hl => ?_)
  refine lv_iload_n hx hb dd_Checker_checkMemory_81 rfl (lv_at hl 2 rfl) ?_
  refine lv_bipush (v := 54) hx hb dd_Checker_checkMemory_82 (by decide) ?_
  refine lv_icmp_lt (tgt := 100) hx hb dd_Checker_checkMemory_84 (by decide) (fun hc => ?_) (fun hc => ?_)
  · have h := xp_t hc h
    refine lv_aload_n hx hb dd_Checker_checkMemory_100 rfl (lv_at hl 1 rfl) ?_
    refine lv_iconst (v := 1) hx hb dd_Checker_checkMemory_101 (by decide) ?_
    rcases xp_try h with ⟨rx, u5, hq, h⟩ | ⟨kx, ux, hq, h⟩
    rotate_left
    · obtain ⟨rfl, rfl⟩ := xp_q h
      exact xk_up (xr_V (As := [.int (1 : Int32)]) (rest := []) C hP hS (ct_Checker_pop_I htr hok hq) kq_Checker_238 55 1 rfl rfl ⟨rfl, rfl, Nat.le_of_ble_eq_true rfl, Nat.le_of_ble_eq_true rfl⟩ ⟨Nat.le_of_ble_eq_true rfl, Nat.le_of_ble_eq_true rfl⟩ hl.1 rfl rfl (Nat.le_of_ble_eq_true rfl) dd_Checker_checkMemory_102) hS hne C.2.2.2.2.2.2.1
    refine xk_goesV (xr_V (As := [.int (1 : Int32)]) (rest := []) C hP hS (ct_Checker_pop_I htr hok hq) kq_Checker_238 55 1 rfl rfl ⟨rfl, rfl, Nat.le_of_ble_eq_true rfl, Nat.le_of_ble_eq_true rfl⟩ ⟨Nat.le_of_ble_eq_true rfl, Nat.le_of_ble_eq_true rfl⟩ hl.1 rfl rfl (Nat.le_of_ble_eq_true rfl) dd_Checker_checkMemory_102) hS (fun H locs hP hS => ?_)
    clear hq
    refine lv_aload_n hx hb dd_Checker_checkMemory_105 rfl (lv_at hl 1 rfl) ?_
    refine lv_iload_n hx hb dd_Checker_checkMemory_106 rfl (lv_at hl 0 rfl) ?_
    rcases xp_try h with ⟨rx, u6, hq, h⟩ | ⟨kx, ux, hq, h⟩
    rotate_left
    · obtain ⟨rfl, rfl⟩ := xp_q h
      exact xk_up (xr_V (As := [.int s0]) (rest := []) C hP hS (ct_Checker_push htr hok hq) kq_Checker_203 55 1 rfl rfl ⟨rfl, rfl, Nat.le_of_ble_eq_true rfl, Nat.le_of_ble_eq_true rfl⟩ ⟨Nat.le_of_ble_eq_true rfl, Nat.le_of_ble_eq_true rfl⟩ hl.1 rfl rfl (Nat.le_of_ble_eq_true rfl) dd_Checker_checkMemory_107) hS hne C.2.2.2.2.2.2.1
    refine xk_goesV (xr_V (As := [.int s0]) (rest := []) C hP hS (ct_Checker_push htr hok hq) kq_Checker_203 55 1 rfl rfl ⟨rfl, rfl, Nat.le_of_ble_eq_true rfl, Nat.le_of_ble_eq_true rfl⟩ ⟨Nat.le_of_ble_eq_true rfl, Nat.le_of_ble_eq_true rfl⟩ hl.1 rfl rfl (Nat.le_of_ble_eq_true rfl) dd_Checker_checkMemory_107) hS (fun H locs hP hS => ?_)
    clear hq
    obtain ⟨rfl, rfl⟩ := xp_r h
    exact xr_vret C hP hS dd_Checker_checkMemory_110
  · have h := xp_f hc h
    refine lv_aload_n hx hb dd_Checker_checkMemory_87 rfl (lv_at hl 1 rfl) ?_
    refine lv_iload_n hx hb dd_Checker_checkMemory_88 rfl (lv_at hl 0 rfl) ?_
    rcases xp_try h with ⟨rx, u7, hq, h⟩ | ⟨kx, ux, hq, h⟩
    rotate_left
    · obtain ⟨rfl, rfl⟩ := xp_q h
      exact xk_up (xr_V (As := [.int s0]) (rest := []) C hP hS (ct_Checker_pop_I htr hok hq) kq_Checker_238 55 1 rfl rfl ⟨rfl, rfl, Nat.le_of_ble_eq_true rfl, Nat.le_of_ble_eq_true rfl⟩ ⟨Nat.le_of_ble_eq_true rfl, Nat.le_of_ble_eq_true rfl⟩ hl.1 rfl rfl (Nat.le_of_ble_eq_true rfl) dd_Checker_checkMemory_89) hS hne C.2.2.2.2.2.2.1
    refine xk_goesV (xr_V (As := [.int s0]) (rest := []) C hP hS (ct_Checker_pop_I htr hok hq) kq_Checker_238 55 1 rfl rfl ⟨rfl, rfl, Nat.le_of_ble_eq_true rfl, Nat.le_of_ble_eq_true rfl⟩ ⟨Nat.le_of_ble_eq_true rfl, Nat.le_of_ble_eq_true rfl⟩ hl.1 rfl rfl (Nat.le_of_ble_eq_true rfl) dd_Checker_checkMemory_89) hS (fun H locs hP hS => ?_)
    clear hq
    refine lv_aload_n hx hb dd_Checker_checkMemory_92 rfl (lv_at hl 1 rfl) ?_
    refine lv_iconst (v := 1) hx hb dd_Checker_checkMemory_93 (by decide) ?_
    rcases xp_try h with ⟨rx, u8, hq, h⟩ | ⟨kx, ux, hq, h⟩
    rotate_left
    · obtain ⟨rfl, rfl⟩ := xp_q h
      exact xk_up (xr_V (As := [.int (1 : Int32)]) (rest := []) C hP hS (ct_Checker_pop_I htr hok hq) kq_Checker_238 55 1 rfl rfl ⟨rfl, rfl, Nat.le_of_ble_eq_true rfl, Nat.le_of_ble_eq_true rfl⟩ ⟨Nat.le_of_ble_eq_true rfl, Nat.le_of_ble_eq_true rfl⟩ hl.1 rfl rfl (Nat.le_of_ble_eq_true rfl) dd_Checker_checkMemory_94) hS hne C.2.2.2.2.2.2.1
    refine xk_goesV (xr_V (As := [.int (1 : Int32)]) (rest := []) C hP hS (ct_Checker_pop_I htr hok hq) kq_Checker_238 55 1 rfl rfl ⟨rfl, rfl, Nat.le_of_ble_eq_true rfl, Nat.le_of_ble_eq_true rfl⟩ ⟨Nat.le_of_ble_eq_true rfl, Nat.le_of_ble_eq_true rfl⟩ hl.1 rfl rfl (Nat.le_of_ble_eq_true rfl) dd_Checker_checkMemory_94) hS (fun H locs hP hS => ?_)
    clear hq
    refine lv_goto (tgt := 110) hx hb dd_Checker_checkMemory_97 (by decide) ?_
    obtain ⟨rfl, rfl⟩ := xp_r h
    exact xr_vret C hP hS dd_Checker_checkMemory_110
set_option maxHeartbeats 4000000 in
set_option maxRecDepth 100000 in
theorem wj_Checker_checkMemory_65 {p : Program} {l : Launch} {e : Env} {s : State} {m : MethodId} {args : Array Value} {below : List Frame} {meth : Method} {c : Code} {D : va_G} {ad : Nat → Nat} {ca : Nat → ClassId} {ads : List Nat} (htr : l.stackTraces = false) (C : xk_C D kx_cl (kx_ty ca) (kw_h ad ca) ads "ModuleHouse$Checker" prog_2_method_44_code 4 none p e s m args meth c) (hne : c.exceptionTable.isEmpty = true) {u' : xk_St} {r : (Unit ⊕ Nat)} {b1 : Int32} {s0 : Int32} {u : xk_St} {H : Heap} {locs : List Loc} {ls : Array Slot} (h : jb_Checker_checkMemory_65  b1 s0 u = some (r, u')) (hP : va_P D kx_cl (kw_h ad ca u) H) (hS : va_S (xk_A ads s.heap.size) s.heap H locs) (hl : lv_has ls 4 [(0, .ref (ad 55)), (1, .int b1)]) : W p l e rm_Checker_checkMemory s m args below meth c H locs 0 0 (xk_MQ below (xk_Qc D kx_cl (kw_h ad ca) ads (xo_v r) u') args s (xk_A ads s.heap.size)) (F0 m 65 ls [.int s0]) := by
  have hx := C.1.1
  have hb := C.1.2.1
  have hok := C.2.2.1
  unfold jb_Checker_checkMemory_65 at h
  rcases xp_try h with ⟨rx, u2, hq, h⟩ | ⟨kx, ux, hq, h⟩
  rotate_left
  · obtain ⟨rfl, rfl⟩ := xp_q h
    exact xk_up (xr_S (As := [.int s0]) (rest := []) C hP hS (ct_Checker_need htr hok hq) kq_Checker_60 ⟨rfl, rfl, Nat.le_of_ble_eq_true rfl, Nat.le_of_ble_eq_true rfl⟩ ⟨Nat.le_of_ble_eq_true rfl, Nat.le_of_ble_eq_true rfl⟩ hl.1 rfl rfl (Nat.le_of_ble_eq_true rfl) dd_Checker_checkMemory_65) hS hne C.2.2.2.2.2.2.1
  refine xk_goesV (xr_S (As := [.int s0]) (rest := []) C hP hS (ct_Checker_need htr hok hq) kq_Checker_60 ⟨rfl, rfl, Nat.le_of_ble_eq_true rfl, Nat.le_of_ble_eq_true rfl⟩ ⟨Nat.le_of_ble_eq_true rfl, Nat.le_of_ble_eq_true rfl⟩ hl.1 rfl rfl (Nat.le_of_ble_eq_true rfl) dd_Checker_checkMemory_65) hS (fun H locs hP hS => ?_)
  clear hq
  refine lv_iload_n hx hb dd_Checker_checkMemory_68 rfl (lv_at hl 1 rfl) ?_
  obtain ⟨a3, u4, hq, h⟩ := xp_seq h
  refine xk_goesI (xr_S (As := [.int b1]) (rest := []) C hP hS (ct_Memory_isWide htr hok hq) kq_Checker_331 ⟨rfl, rfl, Nat.le_of_ble_eq_true rfl, Nat.le_of_ble_eq_true rfl⟩ ⟨Nat.le_of_ble_eq_true rfl, Nat.le_of_ble_eq_true rfl⟩ hl.1 rfl rfl (Nat.le_of_ble_eq_true rfl) dd_Checker_checkMemory_69) hS (fun H locs hP hS => ?_)
  clear hq
  refine lv_if_eq (tgt := 79) hx hb dd_Checker_checkMemory_72 (by decide) (fun hc => ?_) (fun hc => ?_)
  · have h := xp_t hc h
    refine lv_iconst (v := 1) hx hb dd_Checker_checkMemory_79 (by decide) ?_
    exact wj_Checker_checkMemory_80 htr C hne h hP hS (lv_sub hl [0, 1] rfl)
  · have h := xp_f hc h
    refine lv_iconst (v := 2) hx hb dd_Checker_checkMemory_75 (by decide) ?_
    refine lv_goto (tgt := 80) hx hb dd_Checker_checkMemory_76 (by decide) ?_
    exact wj_Checker_checkMemory_80 htr C hne h hP hS (lv_sub hl [0, 1] rfl)
set_option maxHeartbeats 4000000 in
set_option maxRecDepth 100000 in
theorem wj_Checker_checkMemory_64 {p : Program} {l : Launch} {e : Env} {s : State} {m : MethodId} {args : Array Value} {below : List Frame} {meth : Method} {c : Code} {D : va_G} {ad : Nat → Nat} {ca : Nat → ClassId} {ads : List Nat} (htr : l.stackTraces = false) (C : xk_C D kx_cl (kx_ty ca) (kw_h ad ca) ads "ModuleHouse$Checker" prog_2_method_44_code 4 none p e s m args meth c) (hne : c.exceptionTable.isEmpty = true) {u' : xk_St} {r : (Unit ⊕ Nat)} {b1 : Int32} {u : xk_St} {H : Heap} {locs : List Loc} {ls : Array Slot} (h : jb_Checker_checkMemory_64  b1 u = some (r, u')) (hP : va_P D kx_cl (kw_h ad ca u) H) (hS : va_S (xk_A ads s.heap.size) s.heap H locs) (hl : lv_has ls 4 [(0, .ref (ad 55)), (1, .int b1)]) : W p l e rm_Checker_checkMemory s m args below meth c H locs 0 0 (xk_MQ below (xk_Qc D kx_cl (kw_h ad ca) ads (xo_v r) u') args s (xk_A ads s.heap.size)) (F0 m 64 ls []) := by
  have hx := C.1.1
  have hb := C.1.2.1
  have hok := C.2.2.1
  unfold jb_Checker_checkMemory_64 at h
  refine lv_iconst (v := 0) hx hb dd_Checker_checkMemory_64 (by decide) ?_
  exact wj_Checker_checkMemory_65 htr C hne h hP hS (lv_sub hl [0, 1] rfl)
set_option maxHeartbeats 4000000 in
set_option maxRecDepth 100000 in
theorem wj_Checker_checkMemory_39 {p : Program} {l : Launch} {e : Env} {s : State} {m : MethodId} {args : Array Value} {below : List Frame} {meth : Method} {c : Code} {D : va_G} {ad : Nat → Nat} {ca : Nat → ClassId} {ads : List Nat} (htr : l.stackTraces = false) (C : xk_C D kx_cl (kx_ty ca) (kw_h ad ca) ads "ModuleHouse$Checker" prog_2_method_44_code 4 none p e s m args meth c) (hne : c.exceptionTable.isEmpty = true) {u' : xk_St} {r : (Unit ⊕ Nat)} {u : xk_St} {H : Heap} {locs : List Loc} {ls : Array Slot} (h : jb_Checker_checkMemory_39   u = some (r, u')) (hP : va_P D kx_cl (kw_h ad ca u) H) (hS : va_S (xk_A ads s.heap.size) s.heap H locs) (hl : lv_has ls 4 [(0, .ref (ad 55))]) : W p l e rm_Checker_checkMemory s m args below meth c H locs 0 0 (xk_MQ below (xk_Qc D kx_cl (kw_h ad ca) ads (xo_v r) u') args s (xk_A ads s.heap.size)) (F0 m 39 ls []) := by
  have hx := C.1.1
  have hb := C.1.2.1
  have hok := C.2.2.1
  unfold jb_Checker_checkMemory_39 at h
  refine lv_aload_n hx hb dd_Checker_checkMemory_39 rfl (lv_at hl 0 rfl) ?_
  refine lv_iconst (v := 1) hx hb dd_Checker_checkMemory_40 (by decide) ?_
  rcases xp_try h with ⟨rx, u11, hq, h⟩ | ⟨kx, ux, hq, h⟩
  rotate_left
  · obtain ⟨rfl, rfl⟩ := xp_q h
    exact xk_up (xr_V (As := [.int (1 : Int32)]) (rest := []) C hP hS (ct_Checker_push htr hok hq) kq_Checker_203 55 1 rfl rfl ⟨rfl, rfl, Nat.le_of_ble_eq_true rfl, Nat.le_of_ble_eq_true rfl⟩ ⟨Nat.le_of_ble_eq_true rfl, Nat.le_of_ble_eq_true rfl⟩ hl.1 rfl rfl (Nat.le_of_ble_eq_true rfl) dd_Checker_checkMemory_41) hS hne C.2.2.2.2.2.2.1
  refine xk_goesV (xr_V (As := [.int (1 : Int32)]) (rest := []) C hP hS (ct_Checker_push htr hok hq) kq_Checker_203 55 1 rfl rfl ⟨rfl, rfl, Nat.le_of_ble_eq_true rfl, Nat.le_of_ble_eq_true rfl⟩ ⟨Nat.le_of_ble_eq_true rfl, Nat.le_of_ble_eq_true rfl⟩ hl.1 rfl rfl (Nat.le_of_ble_eq_true rfl) dd_Checker_checkMemory_41) hS (fun H locs hP hS => ?_)
  clear hq
  obtain ⟨rfl, rfl⟩ := xp_r h
  exact xr_vret C hP hS dd_Checker_checkMemory_44
set_option maxHeartbeats 4000000 in
set_option maxRecDepth 100000 in
theorem wj_Checker_checkMemory_19 {p : Program} {l : Launch} {e : Env} {s : State} {m : MethodId} {args : Array Value} {below : List Frame} {meth : Method} {c : Code} {D : va_G} {ad : Nat → Nat} {ca : Nat → ClassId} {ads : List Nat} (htr : l.stackTraces = false) (C : xk_C D kx_cl (kx_ty ca) (kw_h ad ca) ads "ModuleHouse$Checker" prog_2_method_44_code 4 none p e s m args meth c) (hne : c.exceptionTable.isEmpty = true) {u' : xk_St} {r : (Unit ⊕ Nat)} {b1 : Int32} {b2 : Int32} {s0 : Int32} {u : xk_St} {H : Heap} {locs : List Loc} {ls : Array Slot} (h : jb_Checker_checkMemory_19  b1 b2 s0 u = some (r, u')) (hP : va_P D kx_cl (kw_h ad ca u) H) (hS : va_S (xk_A ads s.heap.size) s.heap H locs) (hl : lv_has ls 4 [(0, .ref (ad 55)), (1, .int b1), (2, .int b2)]) : W p l e rm_Checker_checkMemory s m args below meth c H locs 0 0 (xk_MQ below (xk_Qc D kx_cl (kw_h ad ca) ads (xo_v r) u') args s (xk_A ads s.heap.size)) (F0 m 19 ls [.int s0]) := by
  have hx := C.1.1
  have hb := C.1.2.1
  have hok := C.2.2.1
  unfold jb_Checker_checkMemory_19 at h
  rcases xp_try h with ⟨rx, u1, hq, h⟩ | ⟨kx, ux, hq, h⟩
  rotate_left
  · obtain ⟨rfl, rfl⟩ := xp_q h
    exact xk_up (xr_S (As := [.int s0]) (rest := []) C hP hS (ct_Checker_need htr hok hq) kq_Checker_60 ⟨rfl, rfl, Nat.le_of_ble_eq_true rfl, Nat.le_of_ble_eq_true rfl⟩ ⟨Nat.le_of_ble_eq_true rfl, Nat.le_of_ble_eq_true rfl⟩ hl.1 rfl rfl (Nat.le_of_ble_eq_true rfl) dd_Checker_checkMemory_19) hS hne C.2.2.2.2.2.2.1
  refine xk_goesV (xr_S (As := [.int s0]) (rest := []) C hP hS (ct_Checker_need htr hok hq) kq_Checker_60 ⟨rfl, rfl, Nat.le_of_ble_eq_true rfl, Nat.le_of_ble_eq_true rfl⟩ ⟨Nat.le_of_ble_eq_true rfl, Nat.le_of_ble_eq_true rfl⟩ hl.1 rfl rfl (Nat.le_of_ble_eq_true rfl) dd_Checker_checkMemory_19) hS (fun H locs hP hS => ?_)
  clear hq
  refine lv_iload_n hx hb dd_Checker_checkMemory_22 rfl (lv_at hl 1 rfl) ?_
  refine lv_bipush (v := 63) hx hb dd_Checker_checkMemory_23 (by decide) ?_
  refine lv_icmp_lt (tgt := 45) hx hb dd_Checker_checkMemory_25 (by decide) (fun hc => ?_) (fun hc => ?_)
  · have h := xp_t hc h
    refine lv_iload_n hx hb dd_Checker_checkMemory_45 rfl (lv_at hl 2 rfl) ?_
    refine lv_iconst (v := 3) hx hb dd_Checker_checkMemory_46 (by decide) ?_
    refine lv_icmp_gt (tgt := 64) hx hb dd_Checker_checkMemory_47 (by decide) (fun hc => ?_) (fun hc => ?_)
    · have h := xp_t hc h
      exact wj_Checker_checkMemory_64 htr C hne h hP hS (lv_sub hl [0, 1] rfl)
    · have h := xp_f hc h
      refine lv_iconst (v := 1) hx hb dd_Checker_checkMemory_50 (by decide) ?_
      refine lv_iload_n hx hb dd_Checker_checkMemory_51 rfl (lv_at hl 2 rfl) ?_
      refine lv_ishl hx hb dd_Checker_checkMemory_52 ?_
      refine lv_iload_n hx hb dd_Checker_checkMemory_53 rfl (lv_at hl 1 rfl) ?_
      obtain ⟨a9, u10, hq, h⟩ := xp_seq h
      refine xk_goesI (xr_S (As := [.int b1]) (rest := [.int ((1 : Int32) <<< (b2 &&& 31))]) C hP hS (ct_Memory_width htr hok hq) kq_Checker_328 ⟨rfl, rfl, Nat.le_of_ble_eq_true rfl, Nat.le_of_ble_eq_true rfl⟩ ⟨Nat.le_of_ble_eq_true rfl, Nat.le_of_ble_eq_true rfl⟩ hl.1 rfl rfl (Nat.le_of_ble_eq_true rfl) dd_Checker_checkMemory_54) hS (fun H locs hP hS => ?_)
      clear hq
      refine lv_icmp_gt (tgt := 64) hx hb dd_Checker_checkMemory_57 (by decide) (fun hc => ?_) (fun hc => ?_)
      · have h := xp_t hc h
        exact wj_Checker_checkMemory_64 htr C hne h hP hS (lv_sub hl [0, 1] rfl)
      · have h := xp_f hc h
        refine lv_iconst (v := 1) hx hb dd_Checker_checkMemory_60 (by decide) ?_
        refine lv_goto (tgt := 65) hx hb dd_Checker_checkMemory_61 (by decide) ?_
        exact wj_Checker_checkMemory_65 htr C hne h hP hS (lv_sub hl [0, 1] rfl)
  · have h := xp_f hc h
    refine lv_iload_n hx hb dd_Checker_checkMemory_28 rfl (lv_at hl 1 rfl) ?_
    refine lv_bipush (v := 64) hx hb dd_Checker_checkMemory_29 (by decide) ?_
    refine lv_icmp_ne (tgt := 39) hx hb dd_Checker_checkMemory_31 (by decide) (fun hc => ?_) (fun hc => ?_)
    · have h := xp_f hc h
      exact wj_Checker_checkMemory_39 htr C hne h hP hS (lv_sub hl [0] rfl)
    · have h := xp_t hc h
      refine lv_aload_n hx hb dd_Checker_checkMemory_34 rfl (lv_at hl 0 rfl) ?_
      refine lv_iconst (v := 1) hx hb dd_Checker_checkMemory_35 (by decide) ?_
      rcases xp_try h with ⟨rx, u12, hq, h⟩ | ⟨kx, ux, hq, h⟩
      rotate_left
      · obtain ⟨rfl, rfl⟩ := xp_q h
        exact xk_up (xr_V (As := [.int (1 : Int32)]) (rest := []) C hP hS (ct_Checker_pop_I htr hok hq) kq_Checker_238 55 1 rfl rfl ⟨rfl, rfl, Nat.le_of_ble_eq_true rfl, Nat.le_of_ble_eq_true rfl⟩ ⟨Nat.le_of_ble_eq_true rfl, Nat.le_of_ble_eq_true rfl⟩ hl.1 rfl rfl (Nat.le_of_ble_eq_true rfl) dd_Checker_checkMemory_36) hS hne C.2.2.2.2.2.2.1
      refine xk_goesV (xr_V (As := [.int (1 : Int32)]) (rest := []) C hP hS (ct_Checker_pop_I htr hok hq) kq_Checker_238 55 1 rfl rfl ⟨rfl, rfl, Nat.le_of_ble_eq_true rfl, Nat.le_of_ble_eq_true rfl⟩ ⟨Nat.le_of_ble_eq_true rfl, Nat.le_of_ble_eq_true rfl⟩ hl.1 rfl rfl (Nat.le_of_ble_eq_true rfl) dd_Checker_checkMemory_36) hS (fun H locs hP hS => ?_)
      clear hq
      exact wj_Checker_checkMemory_39 htr C hne h hP hS (lv_sub hl [0] rfl)
set_option maxHeartbeats 4000000 in
set_option maxRecDepth 100000 in
theorem ct_Checker_checkMemory {l : Launch} {D : va_G} {ad : Nat → Nat} {ca : Nat → ClassId} {ads : List Nat} (htr : l.stackTraces = false) (hok : xk_ok (kw_h ad ca) ads) {x0 : Int32} {x1 : Int32} {u u' : xk_St} {r : (Unit ⊕ Nat)} (h : fm_Checker_checkMemory x0 x1 u = some (r, u')) :
    ∀ sz, xk_Met l ⟨"ModuleHouse$Checker", "checkMemory", "(II)V"⟩ (Cond.code ⟨"ModuleHouse$Checker", "checkMemory", "(II)V"⟩ prog_2_method_44_code 4 none :: xk_gd) rm_Checker_checkMemory (xk_Pc D kx_cl (kx_ty ca) (kw_h ad ca) ads xk_F sz [.ref (ad 55), .int x0, .int x1] u) (xk_Qc D kx_cl (kw_h ad ca) ads (xo_v r) u') (xk_A ads sz) := by
  unfold fm_Checker_checkMemory at h
  refine xk_con (by decide) htr hok (Nat.le_of_ble_eq_true rfl) (fun p e s m below meth c ls C hne hl hP => ?_)
  have hx := C.1.1
  have hb := C.1.2.1
  have hS : va_S (xk_A ads s.heap.size) s.heap s.heap [] := va_S.rf
  have hl : lv_has ls 4 [(0, .ref (ad 55)), (1, .int x0), (2, .int x1)] := hl
  refine lv_aload_n hx hb dd_Checker_checkMemory_0 rfl (lv_at hl 0 rfl) ?_
  refine gf_h_Checker_55_module C hP dd_Checker_checkMemory_1 ?_
  refine gf_h_Checker_4_memories C hP dd_Checker_checkMemory_4 ?_
  refine gf_h_Checker_29_count C hP dd_Checker_checkMemory_7 ?_
  refine lv_iconst (v := 1) hx hb dd_Checker_checkMemory_10 (by decide) ?_
  refine lv_icmp_ne (tgt := 18) hx hb dd_Checker_checkMemory_11 (by decide) (fun hc => ?_) (fun hc => ?_)
  · have h := xp_f hc h
    refine lv_iconst (v := 0) hx hb dd_Checker_checkMemory_18 (by decide) ?_
    exact wj_Checker_checkMemory_19 htr C hne h hP hS (lv_sub hl [0, 1, 2] rfl)
  · have h := xp_t hc h
    refine lv_iconst (v := 1) hx hb dd_Checker_checkMemory_14 (by decide) ?_
    refine lv_goto (tgt := 19) hx hb dd_Checker_checkMemory_15 (by decide) ?_
    exact wj_Checker_checkMemory_19 htr C hne h hP hS (lv_sub hl [0, 1, 2] rfl)
abbrev rm_Checker_checkCall : Room := { frames := 8, cells := 1, slots := 6, locals := 141 }
noncomputable def jb_Checker_checkCall_37 (fu : Nat) : Nat → Int32 → Int32 → xk_St → Option ((Unit ⊕ Nat) × xk_St)
  | 0 => fun _ _ _ => none
  | n + 1 => fun b1 b2 u =>
    xs_let (jb_Checker_checkCall_37 fu  n) fun k37 =>
    (if b1 < 0 ∨ 65 ≤ b1.toNatClampNeg then none else if (u.2.2.1 4 b1.toNatClampNeg) ≤ b2 then (some (.inl (()), u)) else ((xs_seq (fm_Types_outcome b1 b2 u) fun a2 u3 => xs_try (fm_Checker_push a2 u3) fun _ u4 => xs_let (b2 + (1 : Int32)) fun a5 => k37 b1 a5 u4)))
noncomputable def jb_Checker_checkCall_12 (fu : Nat) : Nat → Int32 → Int32 → xk_St → Option ((Unit ⊕ Nat) × xk_St)
  | 0 => fun _ _ _ => none
  | n + 1 => fun b1 b2 u =>
    xs_let (jb_Checker_checkCall_12 fu  n) fun k12 =>
    if b2 < (0 : Int32) then (jb_Checker_checkCall_37 fu fu b1 (0 : Int32) u) else ((xs_seq (fm_Types_member b1 b2 u) fun a6 u7 => xs_try (fm_Checker_pop_I a6 u7) fun _ u8 => xs_let (b2 + (-1 : Int32)) fun a9 => k12 b1 a9 u8))
noncomputable def fm_Checker_checkCall (fu : Nat) (x0 : Int32) (u : xk_St) : Option ((Unit ⊕ Nat) × xk_St) :=
  (if x0 < 0 ∨ 65 ≤ x0.toNatClampNeg then none else xs_let ((u.2.2.1 3 x0.toNatClampNeg) - (1 : Int32)) fun a1 => jb_Checker_checkCall_12 fu fu x0 a1 u)
set_option maxHeartbeats 4000000 in
set_option maxRecDepth 100000 in
theorem wj_Checker_checkCall_37 {p : Program} {l : Launch} {e : Env} {s : State} {m : MethodId} {args : Array Value} {below : List Frame} {meth : Method} {c : Code} {D : va_G} {ad : Nat → Nat} {ca : Nat → ClassId} {ads : List Nat} {fu : Nat} (htr : l.stackTraces = false) (C : xk_C D kx_cl (kx_ty ca) (kw_h ad ca) ads "ModuleHouse$Checker" prog_2_method_42_code 3 none p e s m args meth c) (hne : c.exceptionTable.isEmpty = true) {u' : xk_St} {r : (Unit ⊕ Nat)} : ∀ {n : Nat} {b1 : Int32} {b2 : Int32} {u : xk_St} {H : Heap} {locs : List Loc} {ls : Array Slot} (h : jb_Checker_checkCall_37 fu  n b1 b2 u = some (r, u')) (hP : va_P D kx_cl (kw_h ad ca u) H) (hS : va_S (xk_A ads s.heap.size) s.heap H locs) (hl : lv_has ls 3 [(0, .ref (ad 55)), (1, .int b1), (2, .int b2)]), W p l e rm_Checker_checkCall s m args below meth c H locs 0 0 (xk_MQ below (xk_Qc D kx_cl (kw_h ad ca) ads (xo_v r) u') args s (xk_A ads s.heap.size)) (F0 m 37 ls []) := by
  intro n
  have hx := C.1.1
  have hb := C.1.2.1
  have hok := C.2.2.1
  induction n with
  | zero =>
    intro _ _ u H locs ls h
    have h : none = some (r, u') := h
    cases h
  | succ n ih =>
    intro b1 b2 u H locs ls h hP hS hl
    unfold jb_Checker_checkCall_37 at h
    obtain ⟨k37, ek37, h⟩ := xp_let h
    have hk37 : ∀ (c0 : Int32) (c1 : Int32) (u : xk_St) (H : Heap) (locs : List Loc) (ls : Array Slot), k37 c0 c1 u = some (r, u') → va_P D kx_cl (kw_h ad ca u) H → va_S (xk_A ads s.heap.size) s.heap H locs → lv_has ls 3 [(0, .ref (ad 55)), (1, .int c0), (2, .int c1)] → W p l e rm_Checker_checkCall s m args below meth c H locs 0 0 (xk_MQ below (xk_Qc D kx_cl (kw_h ad ca) ads (xo_v r) u') args s (xk_A ads s.heap.size)) (F0 m 37 ls []) := by
      intro c0 c1 u H locs ls h hP hS hl
      subst ek37
      exact ih h hP hS hl
    clear ih ek37
    refine lv_iload_n hx hb dd_Checker_checkCall_37 rfl (lv_at hl 2 rfl) ?_
    refine lv_aload_n hx hb dd_Checker_checkCall_38 rfl (lv_at hl 0 rfl) ?_
    refine gf_h_Checker_55_types C hP dd_Checker_checkCall_39 ?_
    refine gf_h_Checker_6_results C hP dd_Checker_checkCall_42 ?_
    refine lv_iload_n hx hb dd_Checker_checkCall_45 rfl (lv_at hl 1 rfl) ?_
    obtain ⟨hi, h⟩ := xp_g h
    refine al_h_9 C hP hi dd_Checker_checkCall_46 ?_
    refine lv_icmp_ge (tgt := 69) hx hb dd_Checker_checkCall_47 (by decide) (fun hc => ?_) (fun hc => ?_)
    · have h := xp_t hc h
      obtain ⟨rfl, rfl⟩ := xp_r h
      exact xr_vret C hP hS dd_Checker_checkCall_69
    · have h := xp_f hc h
      refine lv_aload_n hx hb dd_Checker_checkCall_50 rfl (lv_at hl 0 rfl) ?_
      refine lv_aload_n hx hb dd_Checker_checkCall_51 rfl (lv_at hl 0 rfl) ?_
      refine gf_h_Checker_55_types C hP dd_Checker_checkCall_52 ?_
      refine lv_iload_n hx hb dd_Checker_checkCall_55 rfl (lv_at hl 1 rfl) ?_
      refine lv_iload_n hx hb dd_Checker_checkCall_56 rfl (lv_at hl 2 rfl) ?_
      obtain ⟨a2, u3, hq, h⟩ := xp_seq h
      refine xk_goesI (xr_V (As := [.int b1, .int b2]) (rest := [.ref (ad 55)]) C hP hS (ct_Types_outcome htr hok hq) kq_Checker_115 6 9 rfl rfl ⟨rfl, rfl, Nat.le_of_ble_eq_true rfl, Nat.le_of_ble_eq_true rfl⟩ ⟨Nat.le_of_ble_eq_true rfl, Nat.le_of_ble_eq_true rfl⟩ hl.1 rfl rfl (Nat.le_of_ble_eq_true rfl) dd_Checker_checkCall_57) hS (fun H locs hP hS => ?_)
      clear hq
      rcases xp_try h with ⟨rx, u4, hq, h⟩ | ⟨kx, ux, hq, h⟩
      rotate_left
      · obtain ⟨rfl, rfl⟩ := xp_q h
        exact xk_up (xr_V (As := [.int a2]) (rest := []) C hP hS (ct_Checker_push htr hok hq) kq_Checker_203 55 1 rfl rfl ⟨rfl, rfl, Nat.le_of_ble_eq_true rfl, Nat.le_of_ble_eq_true rfl⟩ ⟨Nat.le_of_ble_eq_true rfl, Nat.le_of_ble_eq_true rfl⟩ hl.1 rfl rfl (Nat.le_of_ble_eq_true rfl) dd_Checker_checkCall_60) hS hne C.2.2.2.2.2.2.1
      refine xk_goesV (xr_V (As := [.int a2]) (rest := []) C hP hS (ct_Checker_push htr hok hq) kq_Checker_203 55 1 rfl rfl ⟨rfl, rfl, Nat.le_of_ble_eq_true rfl, Nat.le_of_ble_eq_true rfl⟩ ⟨Nat.le_of_ble_eq_true rfl, Nat.le_of_ble_eq_true rfl⟩ hl.1 rfl rfl (Nat.le_of_ble_eq_true rfl) dd_Checker_checkCall_60) hS (fun H locs hP hS => ?_)
      clear hq
      obtain ⟨a5, ea5, h⟩ := xp_let h
      refine lv_iinc (v := a5) (lv' := [(2, .int a5), (0, .ref (ad 55)), (1, .int b1)]) hx hb dd_Checker_checkCall_63 hl (k := 2) rfl (by rw [ea5]; first | rfl | decide) (by decide) rfl (fun ls hl => ?_)
      refine lv_goto (tgt := 37) hx hb dd_Checker_checkCall_66 (by decide) ?_
      exact hk37 b1 a5 u4 _ _ _ h hP hS (lv_sub hl [1, 2, 0] rfl)
set_option maxHeartbeats 4000000 in
set_option maxRecDepth 100000 in
theorem wj_Checker_checkCall_12 {p : Program} {l : Launch} {e : Env} {s : State} {m : MethodId} {args : Array Value} {below : List Frame} {meth : Method} {c : Code} {D : va_G} {ad : Nat → Nat} {ca : Nat → ClassId} {ads : List Nat} {fu : Nat} (htr : l.stackTraces = false) (C : xk_C D kx_cl (kx_ty ca) (kw_h ad ca) ads "ModuleHouse$Checker" prog_2_method_42_code 3 none p e s m args meth c) (hne : c.exceptionTable.isEmpty = true) {u' : xk_St} {r : (Unit ⊕ Nat)} : ∀ {n : Nat} {b1 : Int32} {b2 : Int32} {u : xk_St} {H : Heap} {locs : List Loc} {ls : Array Slot} (h : jb_Checker_checkCall_12 fu  n b1 b2 u = some (r, u')) (hP : va_P D kx_cl (kw_h ad ca u) H) (hS : va_S (xk_A ads s.heap.size) s.heap H locs) (hl : lv_has ls 3 [(0, .ref (ad 55)), (1, .int b1), (2, .int b2)]), W p l e rm_Checker_checkCall s m args below meth c H locs 0 0 (xk_MQ below (xk_Qc D kx_cl (kw_h ad ca) ads (xo_v r) u') args s (xk_A ads s.heap.size)) (F0 m 12 ls []) := by
  intro n
  have hx := C.1.1
  have hb := C.1.2.1
  have hok := C.2.2.1
  induction n with
  | zero =>
    intro _ _ u H locs ls h
    have h : none = some (r, u') := h
    cases h
  | succ n ih =>
    intro b1 b2 u H locs ls h hP hS hl
    unfold jb_Checker_checkCall_12 at h
    obtain ⟨k12, ek12, h⟩ := xp_let h
    have hk12 : ∀ (c0 : Int32) (c1 : Int32) (u : xk_St) (H : Heap) (locs : List Loc) (ls : Array Slot), k12 c0 c1 u = some (r, u') → va_P D kx_cl (kw_h ad ca u) H → va_S (xk_A ads s.heap.size) s.heap H locs → lv_has ls 3 [(0, .ref (ad 55)), (1, .int c0), (2, .int c1)] → W p l e rm_Checker_checkCall s m args below meth c H locs 0 0 (xk_MQ below (xk_Qc D kx_cl (kw_h ad ca) ads (xo_v r) u') args s (xk_A ads s.heap.size)) (F0 m 12 ls []) := by
      intro c0 c1 u H locs ls h hP hS hl
      subst ek12
      exact ih h hP hS hl
    clear ih ek12
    refine lv_iload_n hx hb dd_Checker_checkCall_12 rfl (lv_at hl 2 rfl) ?_
    refine lv_if_lt (tgt := 35) hx hb dd_Checker_checkCall_13 (by decide) (fun hc => ?_) (fun hc => ?_)
    · have h := xp_t hc h
      refine lv_iconst (v := 0) hx hb dd_Checker_checkCall_35 (by decide) ?_
      refine lv_istore_n (lv' := [(2, .int (0 : Int32)), (0, .ref (ad 55)), (1, .int b1)]) hx hb dd_Checker_checkCall_36 rfl hl (by decide) rfl (fun ls hl => ?_)
      exact wj_Checker_checkCall_37 htr C hne h hP hS (lv_sub hl [1, 2, 0] rfl)
    · have h := xp_f hc h
      refine lv_aload_n hx hb dd_Checker_checkCall_16 rfl (lv_at hl 0 rfl) ?_
      refine lv_aload_n hx hb dd_Checker_checkCall_17 rfl (lv_at hl 0 rfl) ?_
      refine gf_h_Checker_55_types C hP dd_Checker_checkCall_18 ?_
      refine lv_iload_n hx hb dd_Checker_checkCall_21 rfl (lv_at hl 1 rfl) ?_
      refine lv_iload_n hx hb dd_Checker_checkCall_22 rfl (lv_at hl 2 rfl) ?_
      obtain ⟨a6, u7, hq, h⟩ := xp_seq h
      refine xk_goesI (xr_V (As := [.int b1, .int b2]) (rest := [.ref (ad 55)]) C hP hS (ct_Types_member htr hok hq) kq_Checker_107 6 9 rfl rfl ⟨rfl, rfl, Nat.le_of_ble_eq_true rfl, Nat.le_of_ble_eq_true rfl⟩ ⟨Nat.le_of_ble_eq_true rfl, Nat.le_of_ble_eq_true rfl⟩ hl.1 rfl rfl (Nat.le_of_ble_eq_true rfl) dd_Checker_checkCall_23) hS (fun H locs hP hS => ?_)
      clear hq
      rcases xp_try h with ⟨rx, u8, hq, h⟩ | ⟨kx, ux, hq, h⟩
      rotate_left
      · obtain ⟨rfl, rfl⟩ := xp_q h
        exact xk_up (xr_V (As := [.int a6]) (rest := []) C hP hS (ct_Checker_pop_I htr hok hq) kq_Checker_238 55 1 rfl rfl ⟨rfl, rfl, Nat.le_of_ble_eq_true rfl, Nat.le_of_ble_eq_true rfl⟩ ⟨Nat.le_of_ble_eq_true rfl, Nat.le_of_ble_eq_true rfl⟩ hl.1 rfl rfl (Nat.le_of_ble_eq_true rfl) dd_Checker_checkCall_26) hS hne C.2.2.2.2.2.2.1
      refine xk_goesV (xr_V (As := [.int a6]) (rest := []) C hP hS (ct_Checker_pop_I htr hok hq) kq_Checker_238 55 1 rfl rfl ⟨rfl, rfl, Nat.le_of_ble_eq_true rfl, Nat.le_of_ble_eq_true rfl⟩ ⟨Nat.le_of_ble_eq_true rfl, Nat.le_of_ble_eq_true rfl⟩ hl.1 rfl rfl (Nat.le_of_ble_eq_true rfl) dd_Checker_checkCall_26) hS (fun H locs hP hS => ?_)
      clear hq
      obtain ⟨a9, ea9, h⟩ := xp_let h
      refine lv_iinc (v := a9) (lv' := [(2, .int a9), (0, .ref (ad 55)), (1, .int b1)]) hx hb dd_Checker_checkCall_29 hl (k := 2) rfl (by rw [ea9]; first | rfl | decide) (by decide) rfl (fun ls hl => ?_)
      refine lv_goto (tgt := 12) hx hb dd_Checker_checkCall_32 (by decide) ?_
      exact hk12 b1 a9 u8 _ _ _ h hP hS (lv_sub hl [1, 2, 0] rfl)
set_option maxHeartbeats 4000000 in
set_option maxRecDepth 100000 in
theorem ct_Checker_checkCall {l : Launch} {D : va_G} {ad : Nat → Nat} {ca : Nat → ClassId} {ads : List Nat} (htr : l.stackTraces = false) (hok : xk_ok (kw_h ad ca) ads) {fu : Nat} {x0 : Int32} {u u' : xk_St} {r : (Unit ⊕ Nat)} (h : fm_Checker_checkCall fu x0 u = some (r, u')) :
    ∀ sz, xk_Met l ⟨"ModuleHouse$Checker", "checkCall", "(I)V"⟩ (Cond.code ⟨"ModuleHouse$Checker", "checkCall", "(I)V"⟩ prog_2_method_42_code 3 none :: xk_gd) rm_Checker_checkCall (xk_Pc D kx_cl (kx_ty ca) (kw_h ad ca) ads xk_F sz [.ref (ad 55), .int x0] u) (xk_Qc D kx_cl (kw_h ad ca) ads (xo_v r) u') (xk_A ads sz) := by
  unfold fm_Checker_checkCall at h
  refine xk_con (by decide) htr hok (Nat.le_of_ble_eq_true rfl) (fun p e s m below meth c ls C hne hl hP => ?_)
  have hx := C.1.1
  have hb := C.1.2.1
  have hS : va_S (xk_A ads s.heap.size) s.heap s.heap [] := va_S.rf
  have hl : lv_has ls 3 [(0, .ref (ad 55)), (1, .int x0)] := hl
  refine lv_aload_n hx hb dd_Checker_checkCall_0 rfl (lv_at hl 0 rfl) ?_
  refine gf_h_Checker_55_types C hP dd_Checker_checkCall_1 ?_
  refine gf_h_Checker_6_members C hP dd_Checker_checkCall_4 ?_
  refine lv_iload_n hx hb dd_Checker_checkCall_7 rfl (lv_at hl 1 rfl) ?_
  obtain ⟨hi, h⟩ := xp_g h
  refine al_h_8 C hP hi dd_Checker_checkCall_8 ?_
  refine lv_iconst (v := 1) hx hb dd_Checker_checkCall_9 (by decide) ?_
  refine lv_isub hx hb dd_Checker_checkCall_10 ?_
  obtain ⟨a1, ea1, h⟩ := xp_let h
  refine xr_nami ea1 ?_
  refine lv_istore_n (lv' := [(2, .int a1), (0, .ref (ad 55)), (1, .int x0)]) hx hb dd_Checker_checkCall_11 rfl hl (by decide) rfl (fun ls hl => ?_)
  exact wj_Checker_checkCall_12 htr C hne h hP hS (lv_sub hl [1, 2, 0] rfl)
abbrev rm_Checker_checkVariable : Room := { frames := 8, cells := 1, slots := 6, locals := 141 }
noncomputable def jb_Checker_checkVariable_9 (b1 : Int32) (b2 : Int32) (u : xk_St) : Option ((Unit ⊕ Nat) × xk_St) :=
  if b1 = (1 : Int32) then (some (.inl (()), u)) else ((xs_try (fm_Checker_push b2 u) fun _ u1 => some (.inl (()), u1)))
noncomputable def fm_Checker_checkVariable (x0 : Int32) (x1 : Int32) (u : xk_St) : Option ((Unit ⊕ Nat) × xk_St) :=
  if x0 ≤ (0 : Int32) then (jb_Checker_checkVariable_9 x0 x1 u) else ((xs_try (fm_Checker_pop_I x1 u) fun _ u2 => jb_Checker_checkVariable_9 x0 x1 u2))
set_option maxHeartbeats 4000000 in
set_option maxRecDepth 100000 in
theorem wj_Checker_checkVariable_9 {p : Program} {l : Launch} {e : Env} {s : State} {m : MethodId} {args : Array Value} {below : List Frame} {meth : Method} {c : Code} {D : va_G} {ad : Nat → Nat} {ca : Nat → ClassId} {ads : List Nat} (htr : l.stackTraces = false) (C : xk_C D kx_cl (kx_ty ca) (kw_h ad ca) ads "ModuleHouse$Checker" prog_2_method_41_code 3 none p e s m args meth c) (hne : c.exceptionTable.isEmpty = true) {u' : xk_St} {r : (Unit ⊕ Nat)} {b1 : Int32} {b2 : Int32} {u : xk_St} {H : Heap} {locs : List Loc} {ls : Array Slot} (h : jb_Checker_checkVariable_9  b1 b2 u = some (r, u')) (hP : va_P D kx_cl (kw_h ad ca u) H) (hS : va_S (xk_A ads s.heap.size) s.heap H locs) (hl : lv_has ls 3 [(0, .ref (ad 55)), (1, .int b1), (2, .int b2)]) : W p l e rm_Checker_checkVariable s m args below meth c H locs 0 0 (xk_MQ below (xk_Qc D kx_cl (kw_h ad ca) ads (xo_v r) u') args s (xk_A ads s.heap.size)) (F0 m 9 ls []) := by
  have hx := C.1.1
  have hb := C.1.2.1
  have hok := C.2.2.1
  unfold jb_Checker_checkVariable_9 at h
  refine lv_iload_n hx hb dd_Checker_checkVariable_9 rfl (lv_at hl 1 rfl) ?_
  refine lv_iconst (v := 1) hx hb dd_Checker_checkVariable_10 (by decide) ?_
  refine lv_icmp_eq (tgt := 19) hx hb dd_Checker_checkVariable_11 (by decide) (fun hc => ?_) (fun hc => ?_)
  · have h := xp_t hc h
    obtain ⟨rfl, rfl⟩ := xp_r h
    exact xr_vret C hP hS dd_Checker_checkVariable_19
  · have h := xp_f hc h
    refine lv_aload_n hx hb dd_Checker_checkVariable_14 rfl (lv_at hl 0 rfl) ?_
    refine lv_iload_n hx hb dd_Checker_checkVariable_15 rfl (lv_at hl 2 rfl) ?_
    rcases xp_try h with ⟨rx, u1, hq, h⟩ | ⟨kx, ux, hq, h⟩
    rotate_left
    · obtain ⟨rfl, rfl⟩ := xp_q h
      exact xk_up (xr_V (As := [.int b2]) (rest := []) C hP hS (ct_Checker_push htr hok hq) kq_Checker_203 55 1 rfl rfl ⟨rfl, rfl, Nat.le_of_ble_eq_true rfl, Nat.le_of_ble_eq_true rfl⟩ ⟨Nat.le_of_ble_eq_true rfl, Nat.le_of_ble_eq_true rfl⟩ hl.1 rfl rfl (Nat.le_of_ble_eq_true rfl) dd_Checker_checkVariable_16) hS hne C.2.2.2.2.2.2.1
    refine xk_goesV (xr_V (As := [.int b2]) (rest := []) C hP hS (ct_Checker_push htr hok hq) kq_Checker_203 55 1 rfl rfl ⟨rfl, rfl, Nat.le_of_ble_eq_true rfl, Nat.le_of_ble_eq_true rfl⟩ ⟨Nat.le_of_ble_eq_true rfl, Nat.le_of_ble_eq_true rfl⟩ hl.1 rfl rfl (Nat.le_of_ble_eq_true rfl) dd_Checker_checkVariable_16) hS (fun H locs hP hS => ?_)
    clear hq
    obtain ⟨rfl, rfl⟩ := xp_r h
    exact xr_vret C hP hS dd_Checker_checkVariable_19
set_option maxHeartbeats 4000000 in
set_option maxRecDepth 100000 in
theorem ct_Checker_checkVariable {l : Launch} {D : va_G} {ad : Nat → Nat} {ca : Nat → ClassId} {ads : List Nat} (htr : l.stackTraces = false) (hok : xk_ok (kw_h ad ca) ads) {x0 : Int32} {x1 : Int32} {u u' : xk_St} {r : (Unit ⊕ Nat)} (h : fm_Checker_checkVariable x0 x1 u = some (r, u')) :
    ∀ sz, xk_Met l ⟨"ModuleHouse$Checker", "checkVariable", "(II)V"⟩ (Cond.code ⟨"ModuleHouse$Checker", "checkVariable", "(II)V"⟩ prog_2_method_41_code 3 none :: xk_gd) rm_Checker_checkVariable (xk_Pc D kx_cl (kx_ty ca) (kw_h ad ca) ads xk_F sz [.ref (ad 55), .int x0, .int x1] u) (xk_Qc D kx_cl (kw_h ad ca) ads (xo_v r) u') (xk_A ads sz) := by
  unfold fm_Checker_checkVariable at h
  refine xk_con (by decide) htr hok (Nat.le_of_ble_eq_true rfl) (fun p e s m below meth c ls C hne hl hP => ?_)
  have hx := C.1.1
  have hb := C.1.2.1
  have hS : va_S (xk_A ads s.heap.size) s.heap s.heap [] := va_S.rf
  have hl : lv_has ls 3 [(0, .ref (ad 55)), (1, .int x0), (2, .int x1)] := hl
  refine lv_iload_n hx hb dd_Checker_checkVariable_0 rfl (lv_at hl 1 rfl) ?_
  refine lv_if_le (tgt := 9) hx hb dd_Checker_checkVariable_1 (by decide) (fun hc => ?_) (fun hc => ?_)
  · have h := xp_t hc h
    exact wj_Checker_checkVariable_9 htr C hne h hP hS (lv_sub hl [0, 1, 2] rfl)
  · have h := xp_f hc h
    refine lv_aload_n hx hb dd_Checker_checkVariable_4 rfl (lv_at hl 0 rfl) ?_
    refine lv_iload_n hx hb dd_Checker_checkVariable_5 rfl (lv_at hl 2 rfl) ?_
    rcases xp_try h with ⟨rx, u2, hq, h⟩ | ⟨kx, ux, hq, h⟩
    rotate_left
    · obtain ⟨rfl, rfl⟩ := xp_q h
      exact xk_up (xr_V (As := [.int x1]) (rest := []) C hP hS (ct_Checker_pop_I htr hok hq) kq_Checker_238 55 1 rfl rfl ⟨rfl, rfl, Nat.le_of_ble_eq_true rfl, Nat.le_of_ble_eq_true rfl⟩ ⟨Nat.le_of_ble_eq_true rfl, Nat.le_of_ble_eq_true rfl⟩ hl.1 rfl rfl (Nat.le_of_ble_eq_true rfl) dd_Checker_checkVariable_6) hS hne C.2.2.2.2.2.2.1
    refine xk_goesV (xr_V (As := [.int x1]) (rest := []) C hP hS (ct_Checker_pop_I htr hok hq) kq_Checker_238 55 1 rfl rfl ⟨rfl, rfl, Nat.le_of_ble_eq_true rfl, Nat.le_of_ble_eq_true rfl⟩ ⟨Nat.le_of_ble_eq_true rfl, Nat.le_of_ble_eq_true rfl⟩ hl.1 rfl rfl (Nat.le_of_ble_eq_true rfl) dd_Checker_checkVariable_6) hS (fun H locs hP hS => ?_)
    clear hq
    exact wj_Checker_checkVariable_9 htr C hne h hP hS (lv_sub hl [0, 1, 2] rfl)
abbrev rm_Checker_checkChoice : Room := { frames := 8, cells := 1, slots := 6, locals := 141 }
noncomputable def jb_Checker_checkChoice_55 (b1 : Int32) (b2 : Int32) (s0 : Int32) (u : xk_St) : Option ((Unit ⊕ Nat) × xk_St) :=
  (xs_try (fm_Checker_need s0 u) fun _ u9 => xs_try (fm_Checker_push (if b2 < b1 then b1 else b2) u9) fun _ u10 => some (.inl (()), u10))
noncomputable def jb_Checker_checkChoice_50 (b1 : Int32) (b2 : Int32) (u : xk_St) : Option ((Unit ⊕ Nat) × xk_St) :=
  jb_Checker_checkChoice_55 b1 b2 (1 : Int32) u
noncomputable def jb_Checker_checkChoice_34 (b1 : Int32) (b2 : Int32) (s0 : Int32) (u : xk_St) : Option ((Unit ⊕ Nat) × xk_St) :=
  (xs_try (fm_Checker_need s0 u) fun _ u8 => if b2 = b1 then (jb_Checker_checkChoice_50 b1 b2 u8) else (if b2 = (0 : Int32) then (jb_Checker_checkChoice_50 b1 b2 u8) else (if b1 = (0 : Int32) then (jb_Checker_checkChoice_50 b1 b2 u8) else (jb_Checker_checkChoice_55 b1 b2 (0 : Int32) u8))))
noncomputable def jb_Checker_checkChoice_33 (b1 : Int32) (b2 : Int32) (u : xk_St) : Option ((Unit ⊕ Nat) × xk_St) :=
  jb_Checker_checkChoice_34 b1 b2 (0 : Int32) u
noncomputable def fm_Checker_checkChoice (u : xk_St) : Option ((Unit ⊕ Nat) × xk_St) :=
  (xs_try (fm_Checker_pop_I (1 : Int32) u) fun _ u1 => xs_try (fm_Checker_pop_ u1) fun a2 u3 => xs_try (fm_Checker_pop_ u3) fun a4 u5 => xs_seq (fm_Types_isReference a4 u5) fun a6 u7 => if a6 = (0 : Int32) then ((xs_seq (fm_Types_isReference a2 u7) fun a11 u12 => if a11 = (0 : Int32) then (jb_Checker_checkChoice_34 a2 a4 (1 : Int32) u12) else (jb_Checker_checkChoice_33 a2 a4 u12))) else (jb_Checker_checkChoice_33 a2 a4 u7))
set_option maxHeartbeats 4000000 in
set_option maxRecDepth 100000 in
theorem wj_Checker_checkChoice_55 {p : Program} {l : Launch} {e : Env} {s : State} {m : MethodId} {args : Array Value} {below : List Frame} {meth : Method} {c : Code} {D : va_G} {ad : Nat → Nat} {ca : Nat → ClassId} {ads : List Nat} (htr : l.stackTraces = false) (C : xk_C D kx_cl (kx_ty ca) (kw_h ad ca) ads "ModuleHouse$Checker" prog_2_method_43_code 3 none p e s m args meth c) (hne : c.exceptionTable.isEmpty = true) {u' : xk_St} {r : (Unit ⊕ Nat)} {b1 : Int32} {b2 : Int32} {s0 : Int32} {u : xk_St} {H : Heap} {locs : List Loc} {ls : Array Slot} (h : jb_Checker_checkChoice_55  b1 b2 s0 u = some (r, u')) (hP : va_P D kx_cl (kw_h ad ca u) H) (hS : va_S (xk_A ads s.heap.size) s.heap H locs) (hl : lv_has ls 3 [(0, .ref (ad 55)), (1, .int b1), (2, .int b2)]) : W p l e rm_Checker_checkChoice s m args below meth c H locs 0 0 (xk_MQ below (xk_Qc D kx_cl (kw_h ad ca) ads (xo_v r) u') args s (xk_A ads s.heap.size)) (F0 m 55 ls [.int s0]) := by
  have hx := C.1.1
  have hb := C.1.2.1
  have hok := C.2.2.1
  unfold jb_Checker_checkChoice_55 at h
  rcases xp_try h with ⟨rx, u9, hq, h⟩ | ⟨kx, ux, hq, h⟩
  rotate_left
  · obtain ⟨rfl, rfl⟩ := xp_q h
    exact xk_up (xr_S (As := [.int s0]) (rest := []) C hP hS (ct_Checker_need htr hok hq) kq_Checker_60 ⟨rfl, rfl, Nat.le_of_ble_eq_true rfl, Nat.le_of_ble_eq_true rfl⟩ ⟨Nat.le_of_ble_eq_true rfl, Nat.le_of_ble_eq_true rfl⟩ hl.1 rfl rfl (Nat.le_of_ble_eq_true rfl) dd_Checker_checkChoice_55) hS hne C.2.2.2.2.2.2.1
  refine xk_goesV (xr_S (As := [.int s0]) (rest := []) C hP hS (ct_Checker_need htr hok hq) kq_Checker_60 ⟨rfl, rfl, Nat.le_of_ble_eq_true rfl, Nat.le_of_ble_eq_true rfl⟩ ⟨Nat.le_of_ble_eq_true rfl, Nat.le_of_ble_eq_true rfl⟩ hl.1 rfl rfl (Nat.le_of_ble_eq_true rfl) dd_Checker_checkChoice_55) hS (fun H locs hP hS => ?_)
  clear hq
  refine lv_aload_n hx hb dd_Checker_checkChoice_58 rfl (lv_at hl 0 rfl) ?_
  refine lv_iload_n hx hb dd_Checker_checkChoice_59 rfl (lv_at hl 2 rfl) ?_
  refine lv_iload_n hx hb dd_Checker_checkChoice_60 rfl (lv_at hl 1 rfl) ?_
  refine va_mmax hx hb (C.1.2.2.1.trans hl.1.symm) C.1.2.2.2.1 (C.1.2.2.2.2 _ (xk_c6 (w := Cond.methodLink "ModuleHouse$Checker" 323 Lib.Math.max.name) 48 rfl rfl)) (C.1.2.2.2.2 _ (xk_c3 (w := Cond.static Lib.Math.max.name) 146 rfl rfl)) (C.1.2.2.2.2 _ (xk_c1 (w := Cond.initialized "java/lang/Math") 24 rfl rfl)) (C.1.2.2.2.2 _ (xk_c3 (w := Cond.code Lib.Math.max.name Lib.Math.max.code 2 (some .int)) 147 rfl rfl)) (Nat.le_of_ble_eq_true rfl) (Nat.le_of_ble_eq_true rfl) (Nat.zero_le _) (Nat.zero_le _) dd_Checker_checkChoice_61 ?_
  rcases xp_try h with ⟨rx, u10, hq, h⟩ | ⟨kx, ux, hq, h⟩
  rotate_left
  · obtain ⟨rfl, rfl⟩ := xp_q h
    exact xk_up (xr_V (As := [.int (if b2 < b1 then b1 else b2)]) (rest := []) C hP hS (ct_Checker_push htr hok hq) kq_Checker_203 55 1 rfl rfl ⟨rfl, rfl, Nat.le_of_ble_eq_true rfl, Nat.le_of_ble_eq_true rfl⟩ ⟨Nat.le_of_ble_eq_true rfl, Nat.le_of_ble_eq_true rfl⟩ hl.1 rfl rfl (Nat.le_of_ble_eq_true rfl) dd_Checker_checkChoice_64) hS hne C.2.2.2.2.2.2.1
  refine xk_goesV (xr_V (As := [.int (if b2 < b1 then b1 else b2)]) (rest := []) C hP hS (ct_Checker_push htr hok hq) kq_Checker_203 55 1 rfl rfl ⟨rfl, rfl, Nat.le_of_ble_eq_true rfl, Nat.le_of_ble_eq_true rfl⟩ ⟨Nat.le_of_ble_eq_true rfl, Nat.le_of_ble_eq_true rfl⟩ hl.1 rfl rfl (Nat.le_of_ble_eq_true rfl) dd_Checker_checkChoice_64) hS (fun H locs hP hS => ?_)
  clear hq
  obtain ⟨rfl, rfl⟩ := xp_r h
  exact xr_vret C hP hS dd_Checker_checkChoice_67
set_option maxHeartbeats 4000000 in
set_option maxRecDepth 100000 in
theorem wj_Checker_checkChoice_50 {p : Program} {l : Launch} {e : Env} {s : State} {m : MethodId} {args : Array Value} {below : List Frame} {meth : Method} {c : Code} {D : va_G} {ad : Nat → Nat} {ca : Nat → ClassId} {ads : List Nat} (htr : l.stackTraces = false) (C : xk_C D kx_cl (kx_ty ca) (kw_h ad ca) ads "ModuleHouse$Checker" prog_2_method_43_code 3 none p e s m args meth c) (hne : c.exceptionTable.isEmpty = true) {u' : xk_St} {r : (Unit ⊕ Nat)} {b1 : Int32} {b2 : Int32} {u : xk_St} {H : Heap} {locs : List Loc} {ls : Array Slot} (h : jb_Checker_checkChoice_50  b1 b2 u = some (r, u')) (hP : va_P D kx_cl (kw_h ad ca u) H) (hS : va_S (xk_A ads s.heap.size) s.heap H locs) (hl : lv_has ls 3 [(0, .ref (ad 55)), (1, .int b1), (2, .int b2)]) : W p l e rm_Checker_checkChoice s m args below meth c H locs 0 0 (xk_MQ below (xk_Qc D kx_cl (kw_h ad ca) ads (xo_v r) u') args s (xk_A ads s.heap.size)) (F0 m 50 ls []) := by
  have hx := C.1.1
  have hb := C.1.2.1
  have hok := C.2.2.1
  unfold jb_Checker_checkChoice_50 at h
  refine lv_iconst (v := 1) hx hb dd_Checker_checkChoice_50 (by decide) ?_
  refine lv_goto (tgt := 55) hx hb dd_Checker_checkChoice_51 (by decide) ?_
  exact wj_Checker_checkChoice_55 htr C hne h hP hS (lv_sub hl [0, 1, 2] rfl)
set_option maxHeartbeats 4000000 in
set_option maxRecDepth 100000 in
theorem wj_Checker_checkChoice_34 {p : Program} {l : Launch} {e : Env} {s : State} {m : MethodId} {args : Array Value} {below : List Frame} {meth : Method} {c : Code} {D : va_G} {ad : Nat → Nat} {ca : Nat → ClassId} {ads : List Nat} (htr : l.stackTraces = false) (C : xk_C D kx_cl (kx_ty ca) (kw_h ad ca) ads "ModuleHouse$Checker" prog_2_method_43_code 3 none p e s m args meth c) (hne : c.exceptionTable.isEmpty = true) {u' : xk_St} {r : (Unit ⊕ Nat)} {b1 : Int32} {b2 : Int32} {s0 : Int32} {u : xk_St} {H : Heap} {locs : List Loc} {ls : Array Slot} (h : jb_Checker_checkChoice_34  b1 b2 s0 u = some (r, u')) (hP : va_P D kx_cl (kw_h ad ca u) H) (hS : va_S (xk_A ads s.heap.size) s.heap H locs) (hl : lv_has ls 3 [(0, .ref (ad 55)), (1, .int b1), (2, .int b2)]) : W p l e rm_Checker_checkChoice s m args below meth c H locs 0 0 (xk_MQ below (xk_Qc D kx_cl (kw_h ad ca) ads (xo_v r) u') args s (xk_A ads s.heap.size)) (F0 m 34 ls [.int s0]) := by
  have hx := C.1.1
  have hb := C.1.2.1
  have hok := C.2.2.1
  unfold jb_Checker_checkChoice_34 at h
  rcases xp_try h with ⟨rx, u8, hq, h⟩ | ⟨kx, ux, hq, h⟩
  rotate_left
  · obtain ⟨rfl, rfl⟩ := xp_q h
    exact xk_up (xr_S (As := [.int s0]) (rest := []) C hP hS (ct_Checker_need htr hok hq) kq_Checker_60 ⟨rfl, rfl, Nat.le_of_ble_eq_true rfl, Nat.le_of_ble_eq_true rfl⟩ ⟨Nat.le_of_ble_eq_true rfl, Nat.le_of_ble_eq_true rfl⟩ hl.1 rfl rfl (Nat.le_of_ble_eq_true rfl) dd_Checker_checkChoice_34) hS hne C.2.2.2.2.2.2.1
  refine xk_goesV (xr_S (As := [.int s0]) (rest := []) C hP hS (ct_Checker_need htr hok hq) kq_Checker_60 ⟨rfl, rfl, Nat.le_of_ble_eq_true rfl, Nat.le_of_ble_eq_true rfl⟩ ⟨Nat.le_of_ble_eq_true rfl, Nat.le_of_ble_eq_true rfl⟩ hl.1 rfl rfl (Nat.le_of_ble_eq_true rfl) dd_Checker_checkChoice_34) hS (fun H locs hP hS => ?_)
  clear hq
  refine lv_iload_n hx hb dd_Checker_checkChoice_37 rfl (lv_at hl 2 rfl) ?_
  refine lv_iload_n hx hb dd_Checker_checkChoice_38 rfl (lv_at hl 1 rfl) ?_
  refine lv_icmp_eq (tgt := 50) hx hb dd_Checker_checkChoice_39 (by decide) (fun hc => ?_) (fun hc => ?_)
  · have h := xp_t hc h
    exact wj_Checker_checkChoice_50 htr C hne h hP hS (lv_sub hl [0, 1, 2] rfl)
  · have h := xp_f hc h
    refine lv_iload_n hx hb dd_Checker_checkChoice_42 rfl (lv_at hl 2 rfl) ?_
    refine lv_if_eq (tgt := 50) hx hb dd_Checker_checkChoice_43 (by decide) (fun hc => ?_) (fun hc => ?_)
    · have h := xp_t hc h
      exact wj_Checker_checkChoice_50 htr C hne h hP hS (lv_sub hl [0, 1, 2] rfl)
    · have h := xp_f hc h
      refine lv_iload_n hx hb dd_Checker_checkChoice_46 rfl (lv_at hl 1 rfl) ?_
      refine lv_if_ne (tgt := 54) hx hb dd_Checker_checkChoice_47 (by decide) (fun hc => ?_) (fun hc => ?_)
      · have h := xp_f hc h
        refine lv_iconst (v := 0) hx hb dd_Checker_checkChoice_54 (by decide) ?_
        exact wj_Checker_checkChoice_55 htr C hne h hP hS (lv_sub hl [0, 1, 2] rfl)
      · have h := xp_t hc h
        exact wj_Checker_checkChoice_50 htr C hne h hP hS (lv_sub hl [0, 1, 2] rfl)
set_option maxHeartbeats 4000000 in
set_option maxRecDepth 100000 in
theorem wj_Checker_checkChoice_33 {p : Program} {l : Launch} {e : Env} {s : State} {m : MethodId} {args : Array Value} {below : List Frame} {meth : Method} {c : Code} {D : va_G} {ad : Nat → Nat} {ca : Nat → ClassId} {ads : List Nat} (htr : l.stackTraces = false) (C : xk_C D kx_cl (kx_ty ca) (kw_h ad ca) ads "ModuleHouse$Checker" prog_2_method_43_code 3 none p e s m args meth c) (hne : c.exceptionTable.isEmpty = true) {u' : xk_St} {r : (Unit ⊕ Nat)} {b1 : Int32} {b2 : Int32} {u : xk_St} {H : Heap} {locs : List Loc} {ls : Array Slot} (h : jb_Checker_checkChoice_33  b1 b2 u = some (r, u')) (hP : va_P D kx_cl (kw_h ad ca u) H) (hS : va_S (xk_A ads s.heap.size) s.heap H locs) (hl : lv_has ls 3 [(0, .ref (ad 55)), (1, .int b1), (2, .int b2)]) : W p l e rm_Checker_checkChoice s m args below meth c H locs 0 0 (xk_MQ below (xk_Qc D kx_cl (kw_h ad ca) ads (xo_v r) u') args s (xk_A ads s.heap.size)) (F0 m 33 ls []) := by
  have hx := C.1.1
  have hb := C.1.2.1
  have hok := C.2.2.1
  unfold jb_Checker_checkChoice_33 at h
  refine lv_iconst (v := 0) hx hb dd_Checker_checkChoice_33 (by decide) ?_
  exact wj_Checker_checkChoice_34 htr C hne h hP hS (lv_sub hl [0, 1, 2] rfl)
set_option maxHeartbeats 4000000 in
set_option maxRecDepth 100000 in
theorem ct_Checker_checkChoice {l : Launch} {D : va_G} {ad : Nat → Nat} {ca : Nat → ClassId} {ads : List Nat} (htr : l.stackTraces = false) (hok : xk_ok (kw_h ad ca) ads) {u u' : xk_St} {r : (Unit ⊕ Nat)} (h : fm_Checker_checkChoice u = some (r, u')) :
    ∀ sz, xk_Met l ⟨"ModuleHouse$Checker", "checkChoice", "()V"⟩ (Cond.code ⟨"ModuleHouse$Checker", "checkChoice", "()V"⟩ prog_2_method_43_code 3 none :: xk_gd) rm_Checker_checkChoice (xk_Pc D kx_cl (kx_ty ca) (kw_h ad ca) ads xk_F sz [.ref (ad 55)] u) (xk_Qc D kx_cl (kw_h ad ca) ads (xo_v r) u') (xk_A ads sz) := by
  unfold fm_Checker_checkChoice at h
  refine xk_con (by decide) htr hok (Nat.le_of_ble_eq_true rfl) (fun p e s m below meth c ls C hne hl hP => ?_)
  have hx := C.1.1
  have hb := C.1.2.1
  have hS : va_S (xk_A ads s.heap.size) s.heap s.heap [] := va_S.rf
  have hl : lv_has ls 3 [(0, .ref (ad 55))] := hl
  refine lv_aload_n hx hb dd_Checker_checkChoice_0 rfl (lv_at hl 0 rfl) ?_
  refine lv_iconst (v := 1) hx hb dd_Checker_checkChoice_1 (by decide) ?_
  rcases xp_try h with ⟨rx, u1, hq, h⟩ | ⟨kx, ux, hq, h⟩
  rotate_left
  · obtain ⟨rfl, rfl⟩ := xp_q h
    exact xk_up (xr_V (As := [.int (1 : Int32)]) (rest := []) C hP hS (ct_Checker_pop_I htr hok hq) kq_Checker_238 55 1 rfl rfl ⟨rfl, rfl, Nat.le_of_ble_eq_true rfl, Nat.le_of_ble_eq_true rfl⟩ ⟨Nat.le_of_ble_eq_true rfl, Nat.le_of_ble_eq_true rfl⟩ hl.1 rfl rfl (Nat.le_of_ble_eq_true rfl) dd_Checker_checkChoice_2) hS hne C.2.2.2.2.2.2.1
  refine xk_goesV (xr_V (As := [.int (1 : Int32)]) (rest := []) C hP hS (ct_Checker_pop_I htr hok hq) kq_Checker_238 55 1 rfl rfl ⟨rfl, rfl, Nat.le_of_ble_eq_true rfl, Nat.le_of_ble_eq_true rfl⟩ ⟨Nat.le_of_ble_eq_true rfl, Nat.le_of_ble_eq_true rfl⟩ hl.1 rfl rfl (Nat.le_of_ble_eq_true rfl) dd_Checker_checkChoice_2) hS (fun H locs hP hS => ?_)
  clear hq
  refine lv_aload_n hx hb dd_Checker_checkChoice_5 rfl (lv_at hl 0 rfl) ?_
  rcases xp_try h with ⟨a2, u3, hq, h⟩ | ⟨kx, ux, hq, h⟩
  rotate_left
  · obtain ⟨rfl, rfl⟩ := xp_q h
    exact xk_up (xr_V (As := []) (rest := []) C hP hS (ct_Checker_pop_ htr hok hq) kq_Checker_227 55 1 rfl rfl ⟨rfl, rfl, Nat.le_of_ble_eq_true rfl, Nat.le_of_ble_eq_true rfl⟩ ⟨Nat.le_of_ble_eq_true rfl, Nat.le_of_ble_eq_true rfl⟩ hl.1 rfl rfl (Nat.le_of_ble_eq_true rfl) dd_Checker_checkChoice_6) hS hne C.2.2.2.2.2.2.1
  refine xk_goesI (xr_V (As := []) (rest := []) C hP hS (ct_Checker_pop_ htr hok hq) kq_Checker_227 55 1 rfl rfl ⟨rfl, rfl, Nat.le_of_ble_eq_true rfl, Nat.le_of_ble_eq_true rfl⟩ ⟨Nat.le_of_ble_eq_true rfl, Nat.le_of_ble_eq_true rfl⟩ hl.1 rfl rfl (Nat.le_of_ble_eq_true rfl) dd_Checker_checkChoice_6) hS (fun H locs hP hS => ?_)
  clear hq
  refine lv_istore_n (lv' := [(1, .int a2), (0, .ref (ad 55))]) hx hb dd_Checker_checkChoice_9 rfl hl (by decide) rfl (fun ls hl => ?_)
  refine lv_aload_n hx hb dd_Checker_checkChoice_10 rfl (lv_at hl 1 rfl) ?_
  rcases xp_try h with ⟨a4, u5, hq, h⟩ | ⟨kx, ux, hq, h⟩
  rotate_left
  · obtain ⟨rfl, rfl⟩ := xp_q h
    exact xk_up (xr_V (As := []) (rest := []) C hP hS (ct_Checker_pop_ htr hok hq) kq_Checker_227 55 1 rfl rfl ⟨rfl, rfl, Nat.le_of_ble_eq_true rfl, Nat.le_of_ble_eq_true rfl⟩ ⟨Nat.le_of_ble_eq_true rfl, Nat.le_of_ble_eq_true rfl⟩ hl.1 rfl rfl (Nat.le_of_ble_eq_true rfl) dd_Checker_checkChoice_11) hS hne C.2.2.2.2.2.2.1
  refine xk_goesI (xr_V (As := []) (rest := []) C hP hS (ct_Checker_pop_ htr hok hq) kq_Checker_227 55 1 rfl rfl ⟨rfl, rfl, Nat.le_of_ble_eq_true rfl, Nat.le_of_ble_eq_true rfl⟩ ⟨Nat.le_of_ble_eq_true rfl, Nat.le_of_ble_eq_true rfl⟩ hl.1 rfl rfl (Nat.le_of_ble_eq_true rfl) dd_Checker_checkChoice_11) hS (fun H locs hP hS => ?_)
  clear hq
  refine lv_istore_n (lv' := [(2, .int a4), (1, .int a2), (0, .ref (ad 55))]) hx hb dd_Checker_checkChoice_14 rfl hl (by decide) rfl (fun ls hl => ?_)
  refine lv_iload_n hx hb dd_Checker_checkChoice_15 rfl (lv_at hl 0 rfl) ?_
  obtain ⟨a6, u7, hq, h⟩ := xp_seq h
  refine xk_goesI (xr_S (As := [.int a4]) (rest := []) C hP hS (ct_Types_isReference htr hok hq) kq_Checker_125 ⟨rfl, rfl, Nat.le_of_ble_eq_true rfl, Nat.le_of_ble_eq_true rfl⟩ ⟨Nat.le_of_ble_eq_true rfl, Nat.le_of_ble_eq_true rfl⟩ hl.1 rfl rfl (Nat.le_of_ble_eq_true rfl) dd_Checker_checkChoice_16) hS (fun H locs hP hS => ?_)
  clear hq
  refine lv_if_ne (tgt := 33) hx hb dd_Checker_checkChoice_19 (by decide) (fun hc => ?_) (fun hc => ?_)
  · have h := xp_f hc h
    exact wj_Checker_checkChoice_33 htr C hne h hP hS (lv_sub hl [2, 1, 0] rfl)
  · have h := xp_t hc h
    refine lv_iload_n hx hb dd_Checker_checkChoice_22 rfl (lv_at hl 1 rfl) ?_
    obtain ⟨a11, u12, hq, h⟩ := xp_seq h
    refine xk_goesI (xr_S (As := [.int a2]) (rest := []) C hP hS (ct_Types_isReference htr hok hq) kq_Checker_125 ⟨rfl, rfl, Nat.le_of_ble_eq_true rfl, Nat.le_of_ble_eq_true rfl⟩ ⟨Nat.le_of_ble_eq_true rfl, Nat.le_of_ble_eq_true rfl⟩ hl.1 rfl rfl (Nat.le_of_ble_eq_true rfl) dd_Checker_checkChoice_23) hS (fun H locs hP hS => ?_)
    clear hq
    refine lv_if_ne (tgt := 33) hx hb dd_Checker_checkChoice_26 (by decide) (fun hc => ?_) (fun hc => ?_)
    · have h := xp_f hc h
      exact wj_Checker_checkChoice_33 htr C hne h hP hS (lv_sub hl [2, 1, 0] rfl)
    · have h := xp_t hc h
      refine lv_iconst (v := 1) hx hb dd_Checker_checkChoice_29 (by decide) ?_
      refine lv_goto (tgt := 34) hx hb dd_Checker_checkChoice_30 (by decide) ?_
      exact wj_Checker_checkChoice_34 htr C hne h hP hS (lv_sub hl [2, 1, 0] rfl)
abbrev rm_Checker_checkSimple : Room := { frames := 9, cells := 1, slots := 6, locals := 163 }
noncomputable def jb_Checker_checkSimple_111 (fu : Nat) (b2 : Int32) (s0 : Int32) (u : xk_St) : Option ((Unit ⊕ Nat) × xk_St) :=
  (xs_try (fm_Checker_need s0 u) fun _ u1 => if b2 < 0 ∨ 65 ≤ b2.toNatClampNeg then none else xs_try (fm_Checker_checkCall fu (u1.2.2.1 12 b2.toNatClampNeg) u1) fun _ u2 => some (.inl (()), u2))
noncomputable def jb_Checker_checkSimple_179 (fu : Nat) (b2 : Int32) (s0 : Int32) (u : xk_St) : Option ((Unit ⊕ Nat) × xk_St) :=
  (xs_try (fm_Checker_need s0 u) fun _ u5 => xs_try (fm_Checker_pop_I (1 : Int32) u5) fun _ u6 => xs_try (fm_Checker_checkCall fu b2 u6) fun _ u7 => some (.inl (()), u7))
noncomputable def jb_Checker_checkSimple_178 (fu : Nat) (b2 : Int32) (u : xk_St) : Option ((Unit ⊕ Nat) × xk_St) :=
  jb_Checker_checkSimple_179 fu b2 (0 : Int32) u
noncomputable def jb_Checker_checkSimple_292 (fu : Nat) (b1 : Int32) (b2 : Int32) (s0 : Int32) (u : xk_St) : Option ((Unit ⊕ Nat) × xk_St) :=
  (xs_try (fm_Checker_need s0 u) fun _ u9 => if b2 < 0 ∨ 65 ≤ b2.toNatClampNeg then none else xs_try (fm_Checker_checkVariable (b1 - (35 : Int32)) (u9.2.2.1 21 b2.toNatClampNeg) u9) fun _ u10 => some (.inl (()), u10))
noncomputable def jb_Checker_checkSimple_287 (fu : Nat) (b1 : Int32) (b2 : Int32) (u : xk_St) : Option ((Unit ⊕ Nat) × xk_St) :=
  jb_Checker_checkSimple_292 fu b1 b2 (1 : Int32) u
noncomputable def jb_Checker_checkSimple_262 (fu : Nat) (b1 : Int32) (b2 : Int32) (s0 : Int32) (u : xk_St) : Option ((Unit ⊕ Nat) × xk_St) :=
  (xs_try (fm_Checker_need s0 u) fun _ u8 => if b1 = (35 : Int32) then (jb_Checker_checkSimple_287 fu b1 b2 u8) else ((if b2 < 0 ∨ 65 ≤ b2.toNatClampNeg then none else if (u8.2.2.1 22 b2.toNatClampNeg) = (1 : Int32) then (jb_Checker_checkSimple_287 fu b1 b2 u8) else (jb_Checker_checkSimple_292 fu b1 b2 (0 : Int32) u8))))
noncomputable def jb_Checker_checkSimple_243 (fu : Nat) (b1 : Int32) (b2 : Int32) (u : xk_St) : Option ((Unit ⊕ Nat) × xk_St) :=
  if (u.1 13) ≤ b2 then (jb_Checker_checkSimple_262 fu b1 b2 (0 : Int32) u) else (jb_Checker_checkSimple_262 fu b1 b2 (1 : Int32) u)
noncomputable def jb_Checker_checkSimple_223 (fu : Nat) (b1 : Int32) (b2 : Int32) (s0 : Int32) (u : xk_St) : Option ((Unit ⊕ Nat) × xk_St) :=
  (xs_try (fm_Checker_need s0 u) fun _ u14 => if b2 < 0 ∨ 200 ≤ b2.toNatClampNeg then none else xs_try (fm_Checker_checkVariable (b1 - (32 : Int32)) (u14.2.2.1 36 b2.toNatClampNeg) u14) fun _ u15 => some (.inl (()), u15))
noncomputable def jb_Checker_checkSimple_210 (fu : Nat) (b1 : Int32) (b2 : Int32) (u : xk_St) : Option ((Unit ⊕ Nat) × xk_St) :=
  if (u.1 22) ≤ b2 then (jb_Checker_checkSimple_223 fu b1 b2 (0 : Int32) u) else (jb_Checker_checkSimple_223 fu b1 b2 (1 : Int32) u)
noncomputable def fm_Checker_checkSimple (fu : Nat) (x0 : Int32) (x1 : Int32) (x2 : Int32) (u : xk_St) : Option ((Unit ⊕ Nat) × xk_St) :=
  if x0 = (16 : Int32) then (if (u.1 10) ≤ x1 then (jb_Checker_checkSimple_111 fu x1 (0 : Int32) u) else (jb_Checker_checkSimple_111 fu x1 (1 : Int32) u)) else if x0 = (17 : Int32) then ((xs_seq (fm_Types_is x1 (96 : Int32) u) fun a3 u4 => if a3 = (0 : Int32) then (jb_Checker_checkSimple_178 fu x1 u4) else (if (u4.1 11) = (1 : Int32) then ((if x2 < 0 ∨ 8192 ≤ x2.toNatClampNeg then none else if (u4.2.2.2 2 x2.toNatClampNeg) = (0 : Int64) then (jb_Checker_checkSimple_179 fu x1 (1 : Int32) u4) else (jb_Checker_checkSimple_178 fu x1 u4))) else (jb_Checker_checkSimple_178 fu x1 u4)))) else if x0 = (18 : Int32) then (jb_Checker_checkSimple_243 fu x0 x1 u) else if x0 = (19 : Int32) then (jb_Checker_checkSimple_243 fu x0 x1 u) else if x0 = (20 : Int32) then (jb_Checker_checkSimple_243 fu x0 x1 u) else if x0 = (21 : Int32) then (jb_Checker_checkSimple_243 fu x0 x1 u) else if x0 = (22 : Int32) then (jb_Checker_checkSimple_243 fu x0 x1 u) else if x0 = (23 : Int32) then (jb_Checker_checkSimple_243 fu x0 x1 u) else if x0 = (24 : Int32) then (jb_Checker_checkSimple_243 fu x0 x1 u) else if x0 = (25 : Int32) then (jb_Checker_checkSimple_243 fu x0 x1 u) else if x0 = (26 : Int32) then ((xs_try (fm_Checker_pop_ u) fun a11 u12 => some (.inl (()), u12))) else if x0 = (27 : Int32) then ((xs_try (fm_Checker_checkChoice u) fun _ u13 => some (.inl (()), u13))) else if x0 = (28 : Int32) then (jb_Checker_checkSimple_243 fu x0 x1 u) else if x0 = (29 : Int32) then (jb_Checker_checkSimple_243 fu x0 x1 u) else if x0 = (30 : Int32) then (jb_Checker_checkSimple_243 fu x0 x1 u) else if x0 = (31 : Int32) then (jb_Checker_checkSimple_243 fu x0 x1 u) else if x0 = (32 : Int32) then (jb_Checker_checkSimple_210 fu x0 x1 u) else if x0 = (33 : Int32) then (jb_Checker_checkSimple_210 fu x0 x1 u) else if x0 = (34 : Int32) then (jb_Checker_checkSimple_210 fu x0 x1 u) else (jb_Checker_checkSimple_243 fu x0 x1 u)
set_option maxHeartbeats 4000000 in
set_option maxRecDepth 100000 in
theorem wj_Checker_checkSimple_111 {p : Program} {l : Launch} {e : Env} {s : State} {m : MethodId} {args : Array Value} {below : List Frame} {meth : Method} {c : Code} {D : va_G} {ad : Nat → Nat} {ca : Nat → ClassId} {ads : List Nat} {fu : Nat} (htr : l.stackTraces = false) (C : xk_C D kx_cl (kx_ty ca) (kw_h ad ca) ads "ModuleHouse$Checker" prog_2_method_40_code 4 none p e s m args meth c) (hne : c.exceptionTable.isEmpty = true) {u' : xk_St} {r : (Unit ⊕ Nat)} {b2 : Int32} {s0 : Int32} {u : xk_St} {H : Heap} {locs : List Loc} {ls : Array Slot} (h : jb_Checker_checkSimple_111 fu  b2 s0 u = some (r, u')) (hP : va_P D kx_cl (kw_h ad ca u) H) (hS : va_S (xk_A ads s.heap.size) s.heap H locs) (hl : lv_has ls 4 [(0, .ref (ad 55)), (2, .int b2)]) : W p l e rm_Checker_checkSimple s m args below meth c H locs 0 0 (xk_MQ below (xk_Qc D kx_cl (kw_h ad ca) ads (xo_v r) u') args s (xk_A ads s.heap.size)) (F0 m 111 ls [.int s0]) := by
  have hx := C.1.1
  have hb := C.1.2.1
  have hok := C.2.2.1
  unfold jb_Checker_checkSimple_111 at h
  rcases xp_try h with ⟨rx, u1, hq, h⟩ | ⟨kx, ux, hq, h⟩
  rotate_left
  · obtain ⟨rfl, rfl⟩ := xp_q h
    exact xk_up (xr_S (As := [.int s0]) (rest := []) C hP hS (ct_Checker_need htr hok hq) kq_Checker_60 ⟨rfl, rfl, Nat.le_of_ble_eq_true rfl, Nat.le_of_ble_eq_true rfl⟩ ⟨Nat.le_of_ble_eq_true rfl, Nat.le_of_ble_eq_true rfl⟩ hl.1 rfl rfl (Nat.le_of_ble_eq_true rfl) dd_Checker_checkSimple_111) hS hne C.2.2.2.2.2.2.1
  refine xk_goesV (xr_S (As := [.int s0]) (rest := []) C hP hS (ct_Checker_need htr hok hq) kq_Checker_60 ⟨rfl, rfl, Nat.le_of_ble_eq_true rfl, Nat.le_of_ble_eq_true rfl⟩ ⟨Nat.le_of_ble_eq_true rfl, Nat.le_of_ble_eq_true rfl⟩ hl.1 rfl rfl (Nat.le_of_ble_eq_true rfl) dd_Checker_checkSimple_111) hS (fun H locs hP hS => ?_)
  clear hq
  refine lv_aload_n hx hb dd_Checker_checkSimple_114 rfl (lv_at hl 0 rfl) ?_
  refine lv_aload_n hx hb dd_Checker_checkSimple_115 rfl (lv_at hl 0 rfl) ?_
  refine gf_h_Checker_55_module C hP dd_Checker_checkSimple_116 ?_
  refine gf_h_Checker_4_functions C hP dd_Checker_checkSimple_119 ?_
  refine gf_h_Checker_19_kind C hP dd_Checker_checkSimple_122 ?_
  refine lv_iload_n hx hb dd_Checker_checkSimple_125 rfl (lv_at hl 1 rfl) ?_
  obtain ⟨hi, h⟩ := xp_g h
  refine al_h_20 C hP hi dd_Checker_checkSimple_126 ?_
  rcases xp_try h with ⟨rx, u2, hq, h⟩ | ⟨kx, ux, hq, h⟩
  rotate_left
  · obtain ⟨rfl, rfl⟩ := xp_q h
    exact xk_up (xr_V (As := [.int (u1.2.2.1 12 b2.toNatClampNeg)]) (rest := []) C hP hS (ct_Checker_checkCall htr hok hq) kq_Checker_314 55 1 rfl rfl ⟨rfl, rfl, Nat.le_of_ble_eq_true rfl, Nat.le_of_ble_eq_true rfl⟩ ⟨Nat.le_of_ble_eq_true rfl, Nat.le_of_ble_eq_true rfl⟩ hl.1 rfl rfl (Nat.le_of_ble_eq_true rfl) dd_Checker_checkSimple_127) hS hne C.2.2.2.2.2.2.1
  refine xk_goesV (xr_V (As := [.int (u1.2.2.1 12 b2.toNatClampNeg)]) (rest := []) C hP hS (ct_Checker_checkCall htr hok hq) kq_Checker_314 55 1 rfl rfl ⟨rfl, rfl, Nat.le_of_ble_eq_true rfl, Nat.le_of_ble_eq_true rfl⟩ ⟨Nat.le_of_ble_eq_true rfl, Nat.le_of_ble_eq_true rfl⟩ hl.1 rfl rfl (Nat.le_of_ble_eq_true rfl) dd_Checker_checkSimple_127) hS (fun H locs hP hS => ?_)
  clear hq
  refine lv_goto (tgt := 315) hx hb dd_Checker_checkSimple_130 (by decide) ?_
  obtain ⟨rfl, rfl⟩ := xp_r h
  exact xr_vret C hP hS dd_Checker_checkSimple_315
set_option maxHeartbeats 4000000 in
set_option maxRecDepth 100000 in
theorem wj_Checker_checkSimple_179 {p : Program} {l : Launch} {e : Env} {s : State} {m : MethodId} {args : Array Value} {below : List Frame} {meth : Method} {c : Code} {D : va_G} {ad : Nat → Nat} {ca : Nat → ClassId} {ads : List Nat} {fu : Nat} (htr : l.stackTraces = false) (C : xk_C D kx_cl (kx_ty ca) (kw_h ad ca) ads "ModuleHouse$Checker" prog_2_method_40_code 4 none p e s m args meth c) (hne : c.exceptionTable.isEmpty = true) {u' : xk_St} {r : (Unit ⊕ Nat)} {b2 : Int32} {s0 : Int32} {u : xk_St} {H : Heap} {locs : List Loc} {ls : Array Slot} (h : jb_Checker_checkSimple_179 fu  b2 s0 u = some (r, u')) (hP : va_P D kx_cl (kw_h ad ca u) H) (hS : va_S (xk_A ads s.heap.size) s.heap H locs) (hl : lv_has ls 4 [(0, .ref (ad 55)), (2, .int b2)]) : W p l e rm_Checker_checkSimple s m args below meth c H locs 0 0 (xk_MQ below (xk_Qc D kx_cl (kw_h ad ca) ads (xo_v r) u') args s (xk_A ads s.heap.size)) (F0 m 179 ls [.int s0]) := by
  have hx := C.1.1
  have hb := C.1.2.1
  have hok := C.2.2.1
  unfold jb_Checker_checkSimple_179 at h
  rcases xp_try h with ⟨rx, u5, hq, h⟩ | ⟨kx, ux, hq, h⟩
  rotate_left
  · obtain ⟨rfl, rfl⟩ := xp_q h
    exact xk_up (xr_S (As := [.int s0]) (rest := []) C hP hS (ct_Checker_need htr hok hq) kq_Checker_60 ⟨rfl, rfl, Nat.le_of_ble_eq_true rfl, Nat.le_of_ble_eq_true rfl⟩ ⟨Nat.le_of_ble_eq_true rfl, Nat.le_of_ble_eq_true rfl⟩ hl.1 rfl rfl (Nat.le_of_ble_eq_true rfl) dd_Checker_checkSimple_179) hS hne C.2.2.2.2.2.2.1
  refine xk_goesV (xr_S (As := [.int s0]) (rest := []) C hP hS (ct_Checker_need htr hok hq) kq_Checker_60 ⟨rfl, rfl, Nat.le_of_ble_eq_true rfl, Nat.le_of_ble_eq_true rfl⟩ ⟨Nat.le_of_ble_eq_true rfl, Nat.le_of_ble_eq_true rfl⟩ hl.1 rfl rfl (Nat.le_of_ble_eq_true rfl) dd_Checker_checkSimple_179) hS (fun H locs hP hS => ?_)
  clear hq
  refine lv_aload_n hx hb dd_Checker_checkSimple_182 rfl (lv_at hl 0 rfl) ?_
  refine lv_iconst (v := 1) hx hb dd_Checker_checkSimple_183 (by decide) ?_
  rcases xp_try h with ⟨rx, u6, hq, h⟩ | ⟨kx, ux, hq, h⟩
  rotate_left
  · obtain ⟨rfl, rfl⟩ := xp_q h
    exact xk_up (xr_V (As := [.int (1 : Int32)]) (rest := []) C hP hS (ct_Checker_pop_I htr hok hq) kq_Checker_238 55 1 rfl rfl ⟨rfl, rfl, Nat.le_of_ble_eq_true rfl, Nat.le_of_ble_eq_true rfl⟩ ⟨Nat.le_of_ble_eq_true rfl, Nat.le_of_ble_eq_true rfl⟩ hl.1 rfl rfl (Nat.le_of_ble_eq_true rfl) dd_Checker_checkSimple_184) hS hne C.2.2.2.2.2.2.1
  refine xk_goesV (xr_V (As := [.int (1 : Int32)]) (rest := []) C hP hS (ct_Checker_pop_I htr hok hq) kq_Checker_238 55 1 rfl rfl ⟨rfl, rfl, Nat.le_of_ble_eq_true rfl, Nat.le_of_ble_eq_true rfl⟩ ⟨Nat.le_of_ble_eq_true rfl, Nat.le_of_ble_eq_true rfl⟩ hl.1 rfl rfl (Nat.le_of_ble_eq_true rfl) dd_Checker_checkSimple_184) hS (fun H locs hP hS => ?_)
  clear hq
  refine lv_aload_n hx hb dd_Checker_checkSimple_187 rfl (lv_at hl 0 rfl) ?_
  refine lv_iload_n hx hb dd_Checker_checkSimple_188 rfl (lv_at hl 1 rfl) ?_
  rcases xp_try h with ⟨rx, u7, hq, h⟩ | ⟨kx, ux, hq, h⟩
  rotate_left
  · obtain ⟨rfl, rfl⟩ := xp_q h
    exact xk_up (xr_V (As := [.int b2]) (rest := []) C hP hS (ct_Checker_checkCall htr hok hq) kq_Checker_314 55 1 rfl rfl ⟨rfl, rfl, Nat.le_of_ble_eq_true rfl, Nat.le_of_ble_eq_true rfl⟩ ⟨Nat.le_of_ble_eq_true rfl, Nat.le_of_ble_eq_true rfl⟩ hl.1 rfl rfl (Nat.le_of_ble_eq_true rfl) dd_Checker_checkSimple_189) hS hne C.2.2.2.2.2.2.1
  refine xk_goesV (xr_V (As := [.int b2]) (rest := []) C hP hS (ct_Checker_checkCall htr hok hq) kq_Checker_314 55 1 rfl rfl ⟨rfl, rfl, Nat.le_of_ble_eq_true rfl, Nat.le_of_ble_eq_true rfl⟩ ⟨Nat.le_of_ble_eq_true rfl, Nat.le_of_ble_eq_true rfl⟩ hl.1 rfl rfl (Nat.le_of_ble_eq_true rfl) dd_Checker_checkSimple_189) hS (fun H locs hP hS => ?_)
  clear hq
  refine lv_goto (tgt := 315) hx hb dd_Checker_checkSimple_192 (by decide) ?_
  obtain ⟨rfl, rfl⟩ := xp_r h
  exact xr_vret C hP hS dd_Checker_checkSimple_315
set_option maxHeartbeats 4000000 in
set_option maxRecDepth 100000 in
theorem wj_Checker_checkSimple_178 {p : Program} {l : Launch} {e : Env} {s : State} {m : MethodId} {args : Array Value} {below : List Frame} {meth : Method} {c : Code} {D : va_G} {ad : Nat → Nat} {ca : Nat → ClassId} {ads : List Nat} {fu : Nat} (htr : l.stackTraces = false) (C : xk_C D kx_cl (kx_ty ca) (kw_h ad ca) ads "ModuleHouse$Checker" prog_2_method_40_code 4 none p e s m args meth c) (hne : c.exceptionTable.isEmpty = true) {u' : xk_St} {r : (Unit ⊕ Nat)} {b2 : Int32} {u : xk_St} {H : Heap} {locs : List Loc} {ls : Array Slot} (h : jb_Checker_checkSimple_178 fu  b2 u = some (r, u')) (hP : va_P D kx_cl (kw_h ad ca u) H) (hS : va_S (xk_A ads s.heap.size) s.heap H locs) (hl : lv_has ls 4 [(0, .ref (ad 55)), (2, .int b2)]) : W p l e rm_Checker_checkSimple s m args below meth c H locs 0 0 (xk_MQ below (xk_Qc D kx_cl (kw_h ad ca) ads (xo_v r) u') args s (xk_A ads s.heap.size)) (F0 m 178 ls []) := by
  have hx := C.1.1
  have hb := C.1.2.1
  have hok := C.2.2.1
  unfold jb_Checker_checkSimple_178 at h
  refine lv_iconst (v := 0) hx hb dd_Checker_checkSimple_178 (by decide) ?_
  exact wj_Checker_checkSimple_179 htr C hne h hP hS (lv_sub hl [0, 1] rfl)
set_option maxHeartbeats 4000000 in
set_option maxRecDepth 100000 in
theorem wj_Checker_checkSimple_292 {p : Program} {l : Launch} {e : Env} {s : State} {m : MethodId} {args : Array Value} {below : List Frame} {meth : Method} {c : Code} {D : va_G} {ad : Nat → Nat} {ca : Nat → ClassId} {ads : List Nat} {fu : Nat} (htr : l.stackTraces = false) (C : xk_C D kx_cl (kx_ty ca) (kw_h ad ca) ads "ModuleHouse$Checker" prog_2_method_40_code 4 none p e s m args meth c) (hne : c.exceptionTable.isEmpty = true) {u' : xk_St} {r : (Unit ⊕ Nat)} {b1 : Int32} {b2 : Int32} {s0 : Int32} {u : xk_St} {H : Heap} {locs : List Loc} {ls : Array Slot} (h : jb_Checker_checkSimple_292 fu  b1 b2 s0 u = some (r, u')) (hP : va_P D kx_cl (kw_h ad ca u) H) (hS : va_S (xk_A ads s.heap.size) s.heap H locs) (hl : lv_has ls 4 [(0, .ref (ad 55)), (1, .int b1), (2, .int b2)]) : W p l e rm_Checker_checkSimple s m args below meth c H locs 0 0 (xk_MQ below (xk_Qc D kx_cl (kw_h ad ca) ads (xo_v r) u') args s (xk_A ads s.heap.size)) (F0 m 292 ls [.int s0]) := by
  have hx := C.1.1
  have hb := C.1.2.1
  have hok := C.2.2.1
  unfold jb_Checker_checkSimple_292 at h
  rcases xp_try h with ⟨rx, u9, hq, h⟩ | ⟨kx, ux, hq, h⟩
  rotate_left
  · obtain ⟨rfl, rfl⟩ := xp_q h
    exact xk_up (xr_S (As := [.int s0]) (rest := []) C hP hS (ct_Checker_need htr hok hq) kq_Checker_60 ⟨rfl, rfl, Nat.le_of_ble_eq_true rfl, Nat.le_of_ble_eq_true rfl⟩ ⟨Nat.le_of_ble_eq_true rfl, Nat.le_of_ble_eq_true rfl⟩ hl.1 rfl rfl (Nat.le_of_ble_eq_true rfl) dd_Checker_checkSimple_292) hS hne C.2.2.2.2.2.2.1
  refine xk_goesV (xr_S (As := [.int s0]) (rest := []) C hP hS (ct_Checker_need htr hok hq) kq_Checker_60 ⟨rfl, rfl, Nat.le_of_ble_eq_true rfl, Nat.le_of_ble_eq_true rfl⟩ ⟨Nat.le_of_ble_eq_true rfl, Nat.le_of_ble_eq_true rfl⟩ hl.1 rfl rfl (Nat.le_of_ble_eq_true rfl) dd_Checker_checkSimple_292) hS (fun H locs hP hS => ?_)
  clear hq
  refine lv_aload_n hx hb dd_Checker_checkSimple_295 rfl (lv_at hl 0 rfl) ?_
  refine lv_iload_n hx hb dd_Checker_checkSimple_296 rfl (lv_at hl 1 rfl) ?_
  refine lv_bipush (v := 35) hx hb dd_Checker_checkSimple_297 (by decide) ?_
  refine lv_isub hx hb dd_Checker_checkSimple_299 ?_
  refine lv_aload_n hx hb dd_Checker_checkSimple_300 rfl (lv_at hl 0 rfl) ?_
  refine gf_h_Checker_55_module C hP dd_Checker_checkSimple_301 ?_
  refine gf_h_Checker_4_globals C hP dd_Checker_checkSimple_304 ?_
  refine gf_h_Checker_34_kind C hP dd_Checker_checkSimple_307 ?_
  refine lv_iload_n hx hb dd_Checker_checkSimple_310 rfl (lv_at hl 2 rfl) ?_
  obtain ⟨hi, h⟩ := xp_g h
  refine al_h_35 C hP hi dd_Checker_checkSimple_311 ?_
  rcases xp_try h with ⟨rx, u10, hq, h⟩ | ⟨kx, ux, hq, h⟩
  rotate_left
  · obtain ⟨rfl, rfl⟩ := xp_q h
    exact xk_up (xr_V (As := [.int (b1 - (35 : Int32)), .int (u9.2.2.1 21 b2.toNatClampNeg)]) (rest := []) C hP hS (ct_Checker_checkVariable htr hok hq) kq_Checker_320 55 1 rfl rfl ⟨rfl, rfl, Nat.le_of_ble_eq_true rfl, Nat.le_of_ble_eq_true rfl⟩ ⟨Nat.le_of_ble_eq_true rfl, Nat.le_of_ble_eq_true rfl⟩ hl.1 rfl rfl (Nat.le_of_ble_eq_true rfl) dd_Checker_checkSimple_312) hS hne C.2.2.2.2.2.2.1
  refine xk_goesV (xr_V (As := [.int (b1 - (35 : Int32)), .int (u9.2.2.1 21 b2.toNatClampNeg)]) (rest := []) C hP hS (ct_Checker_checkVariable htr hok hq) kq_Checker_320 55 1 rfl rfl ⟨rfl, rfl, Nat.le_of_ble_eq_true rfl, Nat.le_of_ble_eq_true rfl⟩ ⟨Nat.le_of_ble_eq_true rfl, Nat.le_of_ble_eq_true rfl⟩ hl.1 rfl rfl (Nat.le_of_ble_eq_true rfl) dd_Checker_checkSimple_312) hS (fun H locs hP hS => ?_)
  clear hq
  obtain ⟨rfl, rfl⟩ := xp_r h
  exact xr_vret C hP hS dd_Checker_checkSimple_315
set_option maxHeartbeats 4000000 in
set_option maxRecDepth 100000 in
theorem wj_Checker_checkSimple_287 {p : Program} {l : Launch} {e : Env} {s : State} {m : MethodId} {args : Array Value} {below : List Frame} {meth : Method} {c : Code} {D : va_G} {ad : Nat → Nat} {ca : Nat → ClassId} {ads : List Nat} {fu : Nat} (htr : l.stackTraces = false) (C : xk_C D kx_cl (kx_ty ca) (kw_h ad ca) ads "ModuleHouse$Checker" prog_2_method_40_code 4 none p e s m args meth c) (hne : c.exceptionTable.isEmpty = true) {u' : xk_St} {r : (Unit ⊕ Nat)} {b1 : Int32} {b2 : Int32} {u : xk_St} {H : Heap} {locs : List Loc} {ls : Array Slot} (h : jb_Checker_checkSimple_287 fu  b1 b2 u = some (r, u')) (hP : va_P D kx_cl (kw_h ad ca u) H) (hS : va_S (xk_A ads s.heap.size) s.heap H locs) (hl : lv_has ls 4 [(0, .ref (ad 55)), (1, .int b1), (2, .int b2)]) : W p l e rm_Checker_checkSimple s m args below meth c H locs 0 0 (xk_MQ below (xk_Qc D kx_cl (kw_h ad ca) ads (xo_v r) u') args s (xk_A ads s.heap.size)) (F0 m 287 ls []) := by
  have hx := C.1.1
  have hb := C.1.2.1
  have hok := C.2.2.1
  unfold jb_Checker_checkSimple_287 at h
  refine lv_iconst (v := 1) hx hb dd_Checker_checkSimple_287 (by decide) ?_
  refine lv_goto (tgt := 292) hx hb dd_Checker_checkSimple_288 (by decide) ?_
  exact wj_Checker_checkSimple_292 htr C hne h hP hS (lv_sub hl [0, 1, 2] rfl)
set_option maxHeartbeats 4000000 in
set_option maxRecDepth 100000 in
theorem wj_Checker_checkSimple_262 {p : Program} {l : Launch} {e : Env} {s : State} {m : MethodId} {args : Array Value} {below : List Frame} {meth : Method} {c : Code} {D : va_G} {ad : Nat → Nat} {ca : Nat → ClassId} {ads : List Nat} {fu : Nat} (htr : l.stackTraces = false) (C : xk_C D kx_cl (kx_ty ca) (kw_h ad ca) ads "ModuleHouse$Checker" prog_2_method_40_code 4 none p e s m args meth c) (hne : c.exceptionTable.isEmpty = true) {u' : xk_St} {r : (Unit ⊕ Nat)} {b1 : Int32} {b2 : Int32} {s0 : Int32} {u : xk_St} {H : Heap} {locs : List Loc} {ls : Array Slot} (h : jb_Checker_checkSimple_262 fu  b1 b2 s0 u = some (r, u')) (hP : va_P D kx_cl (kw_h ad ca u) H) (hS : va_S (xk_A ads s.heap.size) s.heap H locs) (hl : lv_has ls 4 [(0, .ref (ad 55)), (1, .int b1), (2, .int b2)]) : W p l e rm_Checker_checkSimple s m args below meth c H locs 0 0 (xk_MQ below (xk_Qc D kx_cl (kw_h ad ca) ads (xo_v r) u') args s (xk_A ads s.heap.size)) (F0 m 262 ls [.int s0]) := by
  have hx := C.1.1
  have hb := C.1.2.1
  have hok := C.2.2.1
  unfold jb_Checker_checkSimple_262 at h
  rcases xp_try h with ⟨rx, u8, hq, h⟩ | ⟨kx, ux, hq, h⟩
  rotate_left
  · obtain ⟨rfl, rfl⟩ := xp_q h
    exact xk_up (xr_S (As := [.int s0]) (rest := []) C hP hS (ct_Checker_need htr hok hq) kq_Checker_60 ⟨rfl, rfl, Nat.le_of_ble_eq_true rfl, Nat.le_of_ble_eq_true rfl⟩ ⟨Nat.le_of_ble_eq_true rfl, Nat.le_of_ble_eq_true rfl⟩ hl.1 rfl rfl (Nat.le_of_ble_eq_true rfl) dd_Checker_checkSimple_262) hS hne C.2.2.2.2.2.2.1
  refine xk_goesV (xr_S (As := [.int s0]) (rest := []) C hP hS (ct_Checker_need htr hok hq) kq_Checker_60 ⟨rfl, rfl, Nat.le_of_ble_eq_true rfl, Nat.le_of_ble_eq_true rfl⟩ ⟨Nat.le_of_ble_eq_true rfl, Nat.le_of_ble_eq_true rfl⟩ hl.1 rfl rfl (Nat.le_of_ble_eq_true rfl) dd_Checker_checkSimple_262) hS (fun H locs hP hS => ?_)
  clear hq
  refine lv_iload_n hx hb dd_Checker_checkSimple_265 rfl (lv_at hl 1 rfl) ?_
  refine lv_bipush (v := 35) hx hb dd_Checker_checkSimple_266 (by decide) ?_
  refine lv_icmp_eq (tgt := 287) hx hb dd_Checker_checkSimple_268 (by decide) (fun hc => ?_) (fun hc => ?_)
  · have h := xp_t hc h
    exact wj_Checker_checkSimple_287 htr C hne h hP hS (lv_sub hl [0, 1, 2] rfl)
  · have h := xp_f hc h
    refine lv_aload_n hx hb dd_Checker_checkSimple_271 rfl (lv_at hl 0 rfl) ?_
    refine gf_h_Checker_55_module C hP dd_Checker_checkSimple_272 ?_
    refine gf_h_Checker_4_globals C hP dd_Checker_checkSimple_275 ?_
    refine gf_h_Checker_34_first C hP dd_Checker_checkSimple_278 ?_
    refine lv_iload_n hx hb dd_Checker_checkSimple_281 rfl (lv_at hl 2 rfl) ?_
    obtain ⟨hi, h⟩ := xp_g h
    refine al_h_36 C hP hi dd_Checker_checkSimple_282 ?_
    refine lv_iconst (v := 1) hx hb dd_Checker_checkSimple_283 (by decide) ?_
    refine lv_icmp_ne (tgt := 291) hx hb dd_Checker_checkSimple_284 (by decide) (fun hc => ?_) (fun hc => ?_)
    · have h := xp_f hc h
      refine lv_iconst (v := 0) hx hb dd_Checker_checkSimple_291 (by decide) ?_
      exact wj_Checker_checkSimple_292 htr C hne h hP hS (lv_sub hl [0, 1, 2] rfl)
    · have h := xp_t hc h
      exact wj_Checker_checkSimple_287 htr C hne h hP hS (lv_sub hl [0, 1, 2] rfl)
set_option maxHeartbeats 4000000 in
set_option maxRecDepth 100000 in
theorem wj_Checker_checkSimple_243 {p : Program} {l : Launch} {e : Env} {s : State} {m : MethodId} {args : Array Value} {below : List Frame} {meth : Method} {c : Code} {D : va_G} {ad : Nat → Nat} {ca : Nat → ClassId} {ads : List Nat} {fu : Nat} (htr : l.stackTraces = false) (C : xk_C D kx_cl (kx_ty ca) (kw_h ad ca) ads "ModuleHouse$Checker" prog_2_method_40_code 4 none p e s m args meth c) (hne : c.exceptionTable.isEmpty = true) {u' : xk_St} {r : (Unit ⊕ Nat)} {b1 : Int32} {b2 : Int32} {u : xk_St} {H : Heap} {locs : List Loc} {ls : Array Slot} (h : jb_Checker_checkSimple_243 fu  b1 b2 u = some (r, u')) (hP : va_P D kx_cl (kw_h ad ca u) H) (hS : va_S (xk_A ads s.heap.size) s.heap H locs) (hl : lv_has ls 4 [(0, .ref (ad 55)), (1, .int b1), (2, .int b2)]) : W p l e rm_Checker_checkSimple s m args below meth c H locs 0 0 (xk_MQ below (xk_Qc D kx_cl (kw_h ad ca) ads (xo_v r) u') args s (xk_A ads s.heap.size)) (F0 m 243 ls []) := by
  have hx := C.1.1
  have hb := C.1.2.1
  have hok := C.2.2.1
  unfold jb_Checker_checkSimple_243 at h
  refine lv_iload_n hx hb dd_Checker_checkSimple_243 rfl (lv_at hl 2 rfl) ?_
  refine lv_aload_n hx hb dd_Checker_checkSimple_244 rfl (lv_at hl 0 rfl) ?_
  refine gf_h_Checker_55_module C hP dd_Checker_checkSimple_245 ?_
  refine gf_h_Checker_4_globals C hP dd_Checker_checkSimple_248 ?_
  refine gf_h_Checker_34_count C hP dd_Checker_checkSimple_251 ?_
  refine lv_icmp_ge (tgt := 261) hx hb dd_Checker_checkSimple_254 (by decide) (fun hc => ?_) (fun hc => ?_)
  · have h := xp_t hc h
    refine lv_iconst (v := 0) hx hb dd_Checker_checkSimple_261 (by decide) ?_
    exact wj_Checker_checkSimple_262 htr C hne h hP hS (lv_sub hl [0, 1, 2] rfl)
  · have h := xp_f hc h
    refine lv_iconst (v := 1) hx hb dd_Checker_checkSimple_257 (by decide) ?_
    refine lv_goto (tgt := 262) hx hb dd_Checker_checkSimple_258 (by decide) ?_
    exact wj_Checker_checkSimple_262 htr C hne h hP hS (lv_sub hl [0, 1, 2] rfl)
set_option maxHeartbeats 4000000 in
set_option maxRecDepth 100000 in
theorem wj_Checker_checkSimple_223 {p : Program} {l : Launch} {e : Env} {s : State} {m : MethodId} {args : Array Value} {below : List Frame} {meth : Method} {c : Code} {D : va_G} {ad : Nat → Nat} {ca : Nat → ClassId} {ads : List Nat} {fu : Nat} (htr : l.stackTraces = false) (C : xk_C D kx_cl (kx_ty ca) (kw_h ad ca) ads "ModuleHouse$Checker" prog_2_method_40_code 4 none p e s m args meth c) (hne : c.exceptionTable.isEmpty = true) {u' : xk_St} {r : (Unit ⊕ Nat)} {b1 : Int32} {b2 : Int32} {s0 : Int32} {u : xk_St} {H : Heap} {locs : List Loc} {ls : Array Slot} (h : jb_Checker_checkSimple_223 fu  b1 b2 s0 u = some (r, u')) (hP : va_P D kx_cl (kw_h ad ca u) H) (hS : va_S (xk_A ads s.heap.size) s.heap H locs) (hl : lv_has ls 4 [(0, .ref (ad 55)), (1, .int b1), (2, .int b2)]) : W p l e rm_Checker_checkSimple s m args below meth c H locs 0 0 (xk_MQ below (xk_Qc D kx_cl (kw_h ad ca) ads (xo_v r) u') args s (xk_A ads s.heap.size)) (F0 m 223 ls [.int s0]) := by
  have hx := C.1.1
  have hb := C.1.2.1
  have hok := C.2.2.1
  unfold jb_Checker_checkSimple_223 at h
  rcases xp_try h with ⟨rx, u14, hq, h⟩ | ⟨kx, ux, hq, h⟩
  rotate_left
  · obtain ⟨rfl, rfl⟩ := xp_q h
    exact xk_up (xr_S (As := [.int s0]) (rest := []) C hP hS (ct_Checker_need htr hok hq) kq_Checker_60 ⟨rfl, rfl, Nat.le_of_ble_eq_true rfl, Nat.le_of_ble_eq_true rfl⟩ ⟨Nat.le_of_ble_eq_true rfl, Nat.le_of_ble_eq_true rfl⟩ hl.1 rfl rfl (Nat.le_of_ble_eq_true rfl) dd_Checker_checkSimple_223) hS hne C.2.2.2.2.2.2.1
  refine xk_goesV (xr_S (As := [.int s0]) (rest := []) C hP hS (ct_Checker_need htr hok hq) kq_Checker_60 ⟨rfl, rfl, Nat.le_of_ble_eq_true rfl, Nat.le_of_ble_eq_true rfl⟩ ⟨Nat.le_of_ble_eq_true rfl, Nat.le_of_ble_eq_true rfl⟩ hl.1 rfl rfl (Nat.le_of_ble_eq_true rfl) dd_Checker_checkSimple_223) hS (fun H locs hP hS => ?_)
  clear hq
  refine lv_aload_n hx hb dd_Checker_checkSimple_226 rfl (lv_at hl 0 rfl) ?_
  refine lv_iload_n hx hb dd_Checker_checkSimple_227 rfl (lv_at hl 1 rfl) ?_
  refine lv_bipush (v := 32) hx hb dd_Checker_checkSimple_228 (by decide) ?_
  refine lv_isub hx hb dd_Checker_checkSimple_230 ?_
  refine lv_aload_n hx hb dd_Checker_checkSimple_231 rfl (lv_at hl 0 rfl) ?_
  refine gf_h_Checker_55_local C hP dd_Checker_checkSimple_232 ?_
  refine lv_iload_n hx hb dd_Checker_checkSimple_235 rfl (lv_at hl 2 rfl) ?_
  obtain ⟨hi, h⟩ := xp_g h
  refine al_h_59 C hP hi dd_Checker_checkSimple_236 ?_
  rcases xp_try h with ⟨rx, u15, hq, h⟩ | ⟨kx, ux, hq, h⟩
  rotate_left
  · obtain ⟨rfl, rfl⟩ := xp_q h
    exact xk_up (xr_V (As := [.int (b1 - (32 : Int32)), .int (u14.2.2.1 36 b2.toNatClampNeg)]) (rest := []) C hP hS (ct_Checker_checkVariable htr hok hq) kq_Checker_320 55 1 rfl rfl ⟨rfl, rfl, Nat.le_of_ble_eq_true rfl, Nat.le_of_ble_eq_true rfl⟩ ⟨Nat.le_of_ble_eq_true rfl, Nat.le_of_ble_eq_true rfl⟩ hl.1 rfl rfl (Nat.le_of_ble_eq_true rfl) dd_Checker_checkSimple_237) hS hne C.2.2.2.2.2.2.1
  refine xk_goesV (xr_V (As := [.int (b1 - (32 : Int32)), .int (u14.2.2.1 36 b2.toNatClampNeg)]) (rest := []) C hP hS (ct_Checker_checkVariable htr hok hq) kq_Checker_320 55 1 rfl rfl ⟨rfl, rfl, Nat.le_of_ble_eq_true rfl, Nat.le_of_ble_eq_true rfl⟩ ⟨Nat.le_of_ble_eq_true rfl, Nat.le_of_ble_eq_true rfl⟩ hl.1 rfl rfl (Nat.le_of_ble_eq_true rfl) dd_Checker_checkSimple_237) hS (fun H locs hP hS => ?_)
  clear hq
  refine lv_goto (tgt := 315) hx hb dd_Checker_checkSimple_240 (by decide) ?_
  obtain ⟨rfl, rfl⟩ := xp_r h
  exact xr_vret C hP hS dd_Checker_checkSimple_315
set_option maxHeartbeats 4000000 in
set_option maxRecDepth 100000 in
theorem wj_Checker_checkSimple_210 {p : Program} {l : Launch} {e : Env} {s : State} {m : MethodId} {args : Array Value} {below : List Frame} {meth : Method} {c : Code} {D : va_G} {ad : Nat → Nat} {ca : Nat → ClassId} {ads : List Nat} {fu : Nat} (htr : l.stackTraces = false) (C : xk_C D kx_cl (kx_ty ca) (kw_h ad ca) ads "ModuleHouse$Checker" prog_2_method_40_code 4 none p e s m args meth c) (hne : c.exceptionTable.isEmpty = true) {u' : xk_St} {r : (Unit ⊕ Nat)} {b1 : Int32} {b2 : Int32} {u : xk_St} {H : Heap} {locs : List Loc} {ls : Array Slot} (h : jb_Checker_checkSimple_210 fu  b1 b2 u = some (r, u')) (hP : va_P D kx_cl (kw_h ad ca u) H) (hS : va_S (xk_A ads s.heap.size) s.heap H locs) (hl : lv_has ls 4 [(0, .ref (ad 55)), (1, .int b1), (2, .int b2)]) : W p l e rm_Checker_checkSimple s m args below meth c H locs 0 0 (xk_MQ below (xk_Qc D kx_cl (kw_h ad ca) ads (xo_v r) u') args s (xk_A ads s.heap.size)) (F0 m 210 ls []) := by
  have hx := C.1.1
  have hb := C.1.2.1
  have hok := C.2.2.1
  unfold jb_Checker_checkSimple_210 at h
  refine lv_iload_n hx hb dd_Checker_checkSimple_210 rfl (lv_at hl 2 rfl) ?_
  refine lv_aload_n hx hb dd_Checker_checkSimple_211 rfl (lv_at hl 0 rfl) ?_
  refine gf_h_Checker_55_locals C hP dd_Checker_checkSimple_212 ?_
  refine lv_icmp_ge (tgt := 222) hx hb dd_Checker_checkSimple_215 (by decide) (fun hc => ?_) (fun hc => ?_)
  · have h := xp_t hc h
    refine lv_iconst (v := 0) hx hb dd_Checker_checkSimple_222 (by decide) ?_
    exact wj_Checker_checkSimple_223 htr C hne h hP hS (lv_sub hl [0, 1, 2] rfl)
  · have h := xp_f hc h
    refine lv_iconst (v := 1) hx hb dd_Checker_checkSimple_218 (by decide) ?_
    refine lv_goto (tgt := 223) hx hb dd_Checker_checkSimple_219 (by decide) ?_
    exact wj_Checker_checkSimple_223 htr C hne h hP hS (lv_sub hl [0, 1, 2] rfl)
set_option maxHeartbeats 4000000 in
set_option maxRecDepth 100000 in
theorem ct_Checker_checkSimple {l : Launch} {D : va_G} {ad : Nat → Nat} {ca : Nat → ClassId} {ads : List Nat} (htr : l.stackTraces = false) (hok : xk_ok (kw_h ad ca) ads) {fu : Nat} {x0 : Int32} {x1 : Int32} {x2 : Int32} {u u' : xk_St} {r : (Unit ⊕ Nat)} (h : fm_Checker_checkSimple fu x0 x1 x2 u = some (r, u')) :
    ∀ sz, xk_Met l ⟨"ModuleHouse$Checker", "checkSimple", "(III)V"⟩ (Cond.code ⟨"ModuleHouse$Checker", "checkSimple", "(III)V"⟩ prog_2_method_40_code 4 none :: xk_gd) rm_Checker_checkSimple (xk_Pc D kx_cl (kx_ty ca) (kw_h ad ca) ads xk_F sz [.ref (ad 55), .int x0, .int x1, .int x2] u) (xk_Qc D kx_cl (kw_h ad ca) ads (xo_v r) u') (xk_A ads sz) := by
  unfold fm_Checker_checkSimple at h
  refine xk_con (by decide) htr hok (Nat.le_of_ble_eq_true rfl) (fun p e s m below meth c ls C hne hl hP => ?_)
  have hx := C.1.1
  have hb := C.1.2.1
  have hS : va_S (xk_A ads s.heap.size) s.heap s.heap [] := va_S.rf
  have hl : lv_has ls 4 [(0, .ref (ad 55)), (1, .int x0), (2, .int x1), (3, .int x2)] := hl
  refine lv_iload_n hx hb dd_Checker_checkSimple_0 rfl (lv_at hl 1 rfl) ?_
  by_cases hc0 : x0 = (16 : Int32)
  · have h := xp_t hc0 h
    refine lv_tableIn (off := 91) (tgt := 92) hx hb dd_Checker_checkSimple_1 (by rw [hc0]; decide) (by rw [hc0]; decide) (by rw [hc0]; rfl) (by decide) ?_
    refine lv_iload_n hx hb dd_Checker_checkSimple_92 rfl (lv_at hl 2 rfl) ?_
    refine lv_aload_n hx hb dd_Checker_checkSimple_93 rfl (lv_at hl 0 rfl) ?_
    refine gf_h_Checker_55_module C hP dd_Checker_checkSimple_94 ?_
    refine gf_h_Checker_4_functions C hP dd_Checker_checkSimple_97 ?_
    refine gf_h_Checker_19_count C hP dd_Checker_checkSimple_100 ?_
    refine lv_icmp_ge (tgt := 110) hx hb dd_Checker_checkSimple_103 (by decide) (fun hc => ?_) (fun hc => ?_)
    · have h := xp_t hc h
      refine lv_iconst (v := 0) hx hb dd_Checker_checkSimple_110 (by decide) ?_
      exact wj_Checker_checkSimple_111 htr C hne h hP hS (lv_sub hl [0, 2] rfl)
    · have h := xp_f hc h
      refine lv_iconst (v := 1) hx hb dd_Checker_checkSimple_106 (by decide) ?_
      refine lv_goto (tgt := 111) hx hb dd_Checker_checkSimple_107 (by decide) ?_
      exact wj_Checker_checkSimple_111 htr C hne h hP hS (lv_sub hl [0, 2] rfl)
  have h := xp_f hc0 h
  by_cases hc1 : x0 = (17 : Int32)
  · have h := xp_t hc1 h
    refine lv_tableIn (off := 132) (tgt := 133) hx hb dd_Checker_checkSimple_1 (by rw [hc1]; decide) (by rw [hc1]; decide) (by rw [hc1]; rfl) (by decide) ?_
    refine lv_aload_n hx hb dd_Checker_checkSimple_133 rfl (lv_at hl 0 rfl) ?_
    refine gf_h_Checker_55_types C hP dd_Checker_checkSimple_134 ?_
    refine lv_iload_n hx hb dd_Checker_checkSimple_137 rfl (lv_at hl 2 rfl) ?_
    refine lv_bipush (v := 96) hx hb dd_Checker_checkSimple_138 (by decide) ?_
    obtain ⟨a3, u4, hq, h⟩ := xp_seq h
    refine xk_goesI (xr_V (As := [.int x1, .int (96 : Int32)]) (rest := []) C hP hS (ct_Types_is htr hok hq) kq_Checker_135 6 9 rfl rfl ⟨rfl, rfl, Nat.le_of_ble_eq_true rfl, Nat.le_of_ble_eq_true rfl⟩ ⟨Nat.le_of_ble_eq_true rfl, Nat.le_of_ble_eq_true rfl⟩ hl.1 rfl rfl (Nat.le_of_ble_eq_true rfl) dd_Checker_checkSimple_140) hS (fun H locs hP hS => ?_)
    clear hq
    refine lv_if_eq (tgt := 178) hx hb dd_Checker_checkSimple_143 (by decide) (fun hc => ?_) (fun hc => ?_)
    · have h := xp_t hc h
      exact wj_Checker_checkSimple_178 htr C hne h hP hS (lv_sub hl [0, 2] rfl)
    · have h := xp_f hc h
      refine lv_aload_n hx hb dd_Checker_checkSimple_146 rfl (lv_at hl 0 rfl) ?_
      refine gf_h_Checker_55_module C hP dd_Checker_checkSimple_147 ?_
      refine gf_h_Checker_4_tables C hP dd_Checker_checkSimple_150 ?_
      refine gf_h_Checker_24_count C hP dd_Checker_checkSimple_153 ?_
      refine lv_iconst (v := 1) hx hb dd_Checker_checkSimple_156 (by decide) ?_
      refine lv_icmp_ne (tgt := 178) hx hb dd_Checker_checkSimple_157 (by decide) (fun hc => ?_) (fun hc => ?_)
      · have h := xp_f hc h
        exact wj_Checker_checkSimple_178 htr C hne h hP hS (lv_sub hl [0, 2] rfl)
      · have h := xp_t hc h
        refine lv_aload_n hx hb dd_Checker_checkSimple_160 rfl (lv_at hl 0 rfl) ?_
        refine gf_h_Checker_55_code C hP dd_Checker_checkSimple_161 ?_
        refine gf_h_Checker_12_second C hP dd_Checker_checkSimple_164 ?_
        refine lv_iload_n hx hb dd_Checker_checkSimple_167 rfl (lv_at hl 3 rfl) ?_
        obtain ⟨hi, h⟩ := xp_g h
        refine al_h_15 C hP hi dd_Checker_checkSimple_168 ?_
        refine lv_lconst (v := 0) hx hb dd_Checker_checkSimple_169 (by decide) ?_
        refine xr_lc_ne (tgt := 178) hx hb dd_Checker_checkSimple_170 dd_Checker_checkSimple_171 (by decide) (fun hc => ?_) (fun hc => ?_)
        · have h := xp_f hc h
          exact wj_Checker_checkSimple_178 htr C hne h hP hS (lv_sub hl [0, 2] rfl)
        · have h := xp_t hc h
          refine lv_iconst (v := 1) hx hb dd_Checker_checkSimple_174 (by decide) ?_
          refine lv_goto (tgt := 179) hx hb dd_Checker_checkSimple_175 (by decide) ?_
          exact wj_Checker_checkSimple_179 htr C hne h hP hS (lv_sub hl [0, 2] rfl)
  have h := xp_f hc1 h
  by_cases hc2 : x0 = (18 : Int32)
  · have h := xp_t hc2 h
    refine lv_tableIn (off := 242) (tgt := 243) hx hb dd_Checker_checkSimple_1 (by rw [hc2]; decide) (by rw [hc2]; decide) (by rw [hc2]; rfl) (by decide) ?_
    exact wj_Checker_checkSimple_243 htr C hne h hP hS (lv_sub hl [0, 1, 2] rfl)
  have h := xp_f hc2 h
  by_cases hc3 : x0 = (19 : Int32)
  · have h := xp_t hc3 h
    refine lv_tableIn (off := 242) (tgt := 243) hx hb dd_Checker_checkSimple_1 (by rw [hc3]; decide) (by rw [hc3]; decide) (by rw [hc3]; rfl) (by decide) ?_
    exact wj_Checker_checkSimple_243 htr C hne h hP hS (lv_sub hl [0, 1, 2] rfl)
  have h := xp_f hc3 h
  by_cases hc4 : x0 = (20 : Int32)
  · have h := xp_t hc4 h
    refine lv_tableIn (off := 242) (tgt := 243) hx hb dd_Checker_checkSimple_1 (by rw [hc4]; decide) (by rw [hc4]; decide) (by rw [hc4]; rfl) (by decide) ?_
    exact wj_Checker_checkSimple_243 htr C hne h hP hS (lv_sub hl [0, 1, 2] rfl)
  have h := xp_f hc4 h
  by_cases hc5 : x0 = (21 : Int32)
  · have h := xp_t hc5 h
    refine lv_tableIn (off := 242) (tgt := 243) hx hb dd_Checker_checkSimple_1 (by rw [hc5]; decide) (by rw [hc5]; decide) (by rw [hc5]; rfl) (by decide) ?_
    exact wj_Checker_checkSimple_243 htr C hne h hP hS (lv_sub hl [0, 1, 2] rfl)
  have h := xp_f hc5 h
  by_cases hc6 : x0 = (22 : Int32)
  · have h := xp_t hc6 h
    refine lv_tableIn (off := 242) (tgt := 243) hx hb dd_Checker_checkSimple_1 (by rw [hc6]; decide) (by rw [hc6]; decide) (by rw [hc6]; rfl) (by decide) ?_
    exact wj_Checker_checkSimple_243 htr C hne h hP hS (lv_sub hl [0, 1, 2] rfl)
  have h := xp_f hc6 h
  by_cases hc7 : x0 = (23 : Int32)
  · have h := xp_t hc7 h
    refine lv_tableIn (off := 242) (tgt := 243) hx hb dd_Checker_checkSimple_1 (by rw [hc7]; decide) (by rw [hc7]; decide) (by rw [hc7]; rfl) (by decide) ?_
    exact wj_Checker_checkSimple_243 htr C hne h hP hS (lv_sub hl [0, 1, 2] rfl)
  have h := xp_f hc7 h
  by_cases hc8 : x0 = (24 : Int32)
  · have h := xp_t hc8 h
    refine lv_tableIn (off := 242) (tgt := 243) hx hb dd_Checker_checkSimple_1 (by rw [hc8]; decide) (by rw [hc8]; decide) (by rw [hc8]; rfl) (by decide) ?_
    exact wj_Checker_checkSimple_243 htr C hne h hP hS (lv_sub hl [0, 1, 2] rfl)
  have h := xp_f hc8 h
  by_cases hc9 : x0 = (25 : Int32)
  · have h := xp_t hc9 h
    refine lv_tableIn (off := 242) (tgt := 243) hx hb dd_Checker_checkSimple_1 (by rw [hc9]; decide) (by rw [hc9]; decide) (by rw [hc9]; rfl) (by decide) ?_
    exact wj_Checker_checkSimple_243 htr C hne h hP hS (lv_sub hl [0, 1, 2] rfl)
  have h := xp_f hc9 h
  by_cases hc10 : x0 = (26 : Int32)
  · have h := xp_t hc10 h
    refine lv_tableIn (off := 194) (tgt := 195) hx hb dd_Checker_checkSimple_1 (by rw [hc10]; decide) (by rw [hc10]; decide) (by rw [hc10]; rfl) (by decide) ?_
    refine lv_aload_n hx hb dd_Checker_checkSimple_195 rfl (lv_at hl 0 rfl) ?_
    rcases xp_try h with ⟨a11, u12, hq, h⟩ | ⟨kx, ux, hq, h⟩
    rotate_left
    · obtain ⟨rfl, rfl⟩ := xp_q h
      exact xk_up (xr_V (As := []) (rest := []) C hP hS (ct_Checker_pop_ htr hok hq) kq_Checker_227 55 1 rfl rfl ⟨rfl, rfl, Nat.le_of_ble_eq_true rfl, Nat.le_of_ble_eq_true rfl⟩ ⟨Nat.le_of_ble_eq_true rfl, Nat.le_of_ble_eq_true rfl⟩ hl.1 rfl rfl (Nat.le_of_ble_eq_true rfl) dd_Checker_checkSimple_196) hS hne C.2.2.2.2.2.2.1
    refine xk_goesI (xr_V (As := []) (rest := []) C hP hS (ct_Checker_pop_ htr hok hq) kq_Checker_227 55 1 rfl rfl ⟨rfl, rfl, Nat.le_of_ble_eq_true rfl, Nat.le_of_ble_eq_true rfl⟩ ⟨Nat.le_of_ble_eq_true rfl, Nat.le_of_ble_eq_true rfl⟩ hl.1 rfl rfl (Nat.le_of_ble_eq_true rfl) dd_Checker_checkSimple_196) hS (fun H locs hP hS => ?_)
    clear hq
    refine lv_pop hx hb dd_Checker_checkSimple_199 rfl ?_
    refine lv_goto (tgt := 315) hx hb dd_Checker_checkSimple_200 (by decide) ?_
    obtain ⟨rfl, rfl⟩ := xp_r h
    exact xr_vret C hP hS dd_Checker_checkSimple_315
  have h := xp_f hc10 h
  by_cases hc11 : x0 = (27 : Int32)
  · have h := xp_t hc11 h
    refine lv_tableIn (off := 202) (tgt := 203) hx hb dd_Checker_checkSimple_1 (by rw [hc11]; decide) (by rw [hc11]; decide) (by rw [hc11]; rfl) (by decide) ?_
    refine lv_aload_n hx hb dd_Checker_checkSimple_203 rfl (lv_at hl 0 rfl) ?_
    rcases xp_try h with ⟨rx, u13, hq, h⟩ | ⟨kx, ux, hq, h⟩
    rotate_left
    · obtain ⟨rfl, rfl⟩ := xp_q h
      exact xk_up (xr_V (As := []) (rest := []) C hP hS (ct_Checker_checkChoice htr hok hq) kq_Checker_317 55 1 rfl rfl ⟨rfl, rfl, Nat.le_of_ble_eq_true rfl, Nat.le_of_ble_eq_true rfl⟩ ⟨Nat.le_of_ble_eq_true rfl, Nat.le_of_ble_eq_true rfl⟩ hl.1 rfl rfl (Nat.le_of_ble_eq_true rfl) dd_Checker_checkSimple_204) hS hne C.2.2.2.2.2.2.1
    refine xk_goesV (xr_V (As := []) (rest := []) C hP hS (ct_Checker_checkChoice htr hok hq) kq_Checker_317 55 1 rfl rfl ⟨rfl, rfl, Nat.le_of_ble_eq_true rfl, Nat.le_of_ble_eq_true rfl⟩ ⟨Nat.le_of_ble_eq_true rfl, Nat.le_of_ble_eq_true rfl⟩ hl.1 rfl rfl (Nat.le_of_ble_eq_true rfl) dd_Checker_checkSimple_204) hS (fun H locs hP hS => ?_)
    clear hq
    refine lv_goto (tgt := 315) hx hb dd_Checker_checkSimple_207 (by decide) ?_
    obtain ⟨rfl, rfl⟩ := xp_r h
    exact xr_vret C hP hS dd_Checker_checkSimple_315
  have h := xp_f hc11 h
  by_cases hc12 : x0 = (28 : Int32)
  · have h := xp_t hc12 h
    refine lv_tableIn (off := 242) (tgt := 243) hx hb dd_Checker_checkSimple_1 (by rw [hc12]; decide) (by rw [hc12]; decide) (by rw [hc12]; rfl) (by decide) ?_
    exact wj_Checker_checkSimple_243 htr C hne h hP hS (lv_sub hl [0, 1, 2] rfl)
  have h := xp_f hc12 h
  by_cases hc13 : x0 = (29 : Int32)
  · have h := xp_t hc13 h
    refine lv_tableIn (off := 242) (tgt := 243) hx hb dd_Checker_checkSimple_1 (by rw [hc13]; decide) (by rw [hc13]; decide) (by rw [hc13]; rfl) (by decide) ?_
    exact wj_Checker_checkSimple_243 htr C hne h hP hS (lv_sub hl [0, 1, 2] rfl)
  have h := xp_f hc13 h
  by_cases hc14 : x0 = (30 : Int32)
  · have h := xp_t hc14 h
    refine lv_tableIn (off := 242) (tgt := 243) hx hb dd_Checker_checkSimple_1 (by rw [hc14]; decide) (by rw [hc14]; decide) (by rw [hc14]; rfl) (by decide) ?_
    exact wj_Checker_checkSimple_243 htr C hne h hP hS (lv_sub hl [0, 1, 2] rfl)
  have h := xp_f hc14 h
  by_cases hc15 : x0 = (31 : Int32)
  · have h := xp_t hc15 h
    refine lv_tableIn (off := 242) (tgt := 243) hx hb dd_Checker_checkSimple_1 (by rw [hc15]; decide) (by rw [hc15]; decide) (by rw [hc15]; rfl) (by decide) ?_
    exact wj_Checker_checkSimple_243 htr C hne h hP hS (lv_sub hl [0, 1, 2] rfl)
  have h := xp_f hc15 h
  by_cases hc16 : x0 = (32 : Int32)
  · have h := xp_t hc16 h
    refine lv_tableIn (off := 209) (tgt := 210) hx hb dd_Checker_checkSimple_1 (by rw [hc16]; decide) (by rw [hc16]; decide) (by rw [hc16]; rfl) (by decide) ?_
    exact wj_Checker_checkSimple_210 htr C hne h hP hS (lv_sub hl [0, 1, 2] rfl)
  have h := xp_f hc16 h
  by_cases hc17 : x0 = (33 : Int32)
  · have h := xp_t hc17 h
    refine lv_tableIn (off := 209) (tgt := 210) hx hb dd_Checker_checkSimple_1 (by rw [hc17]; decide) (by rw [hc17]; decide) (by rw [hc17]; rfl) (by decide) ?_
    exact wj_Checker_checkSimple_210 htr C hne h hP hS (lv_sub hl [0, 1, 2] rfl)
  have h := xp_f hc17 h
  by_cases hc18 : x0 = (34 : Int32)
  · have h := xp_t hc18 h
    refine lv_tableIn (off := 209) (tgt := 210) hx hb dd_Checker_checkSimple_1 (by rw [hc18]; decide) (by rw [hc18]; decide) (by rw [hc18]; rfl) (by decide) ?_
    exact wj_Checker_checkSimple_210 htr C hne h hP hS (lv_sub hl [0, 1, 2] rfl)
  have h := xp_f hc18 h
  have hd0 := lv_neT hc0 (a := 16) (by decide)
  have hd1 := lv_neT hc1 (a := 17) (by decide)
  have hd2 := lv_neT hc2 (a := 18) (by decide)
  have hd3 := lv_neT hc3 (a := 19) (by decide)
  have hd4 := lv_neT hc4 (a := 20) (by decide)
  have hd5 := lv_neT hc5 (a := 21) (by decide)
  have hd6 := lv_neT hc6 (a := 22) (by decide)
  have hd7 := lv_neT hc7 (a := 23) (by decide)
  have hd8 := lv_neT hc8 (a := 24) (by decide)
  have hd9 := lv_neT hc9 (a := 25) (by decide)
  have hd10 := lv_neT hc10 (a := 26) (by decide)
  have hd11 := lv_neT hc11 (a := 27) (by decide)
  have hd12 := lv_neT hc12 (a := 28) (by decide)
  have hd13 := lv_neT hc13 (a := 29) (by decide)
  have hd14 := lv_neT hc14 (a := 30) (by decide)
  have hd15 := lv_neT hc15 (a := 31) (by decide)
  have hd16 := lv_neT hc16 (a := 32) (by decide)
  have hd17 := lv_neT hc17 (a := 33) (by decide)
  have hd18 := lv_neT hc18 (a := 34) (by decide)
  refine lv_tableOut (tgt := 243) hx hb dd_Checker_checkSimple_1 (by omega) (by decide) ?_
  exact wj_Checker_checkSimple_243 htr C hne h hP hS (lv_sub hl [0, 1, 2] rfl)
abbrev rm_Checker_lose : Room := { frames := 1, cells := 1, slots := 6, locals := 0 }
noncomputable def fm_Checker_lose (u : xk_St) : Option (Unit × xk_St) :=
  (xs_let (xs_I u 19 (u.1 20)) fun u1 => if ((u1.1 21) - (1 : Int32)) < 0 ∨ 100 ≤ ((u1.1 21) - (1 : Int32)).toNatClampNeg then none else xs_let (xs_A u1 35 ((u1.1 21) - (1 : Int32)).toNatClampNeg (vp_nar .boolean (1 : Int32))) fun u2 => some ((()), u2))
set_option maxHeartbeats 4000000 in
set_option maxRecDepth 100000 in
theorem ct_Checker_lose {l : Launch} {D : va_G} {ad : Nat → Nat} {ca : Nat → ClassId} {ads : List Nat} (htr : l.stackTraces = false) (hok : xk_ok (kw_h ad ca) ads) {u u' : xk_St} {r : Unit} (h : fm_Checker_lose u = some (r, u')) :
    ∀ sz, xk_Met l ⟨"ModuleHouse$Checker", "lose", "()V"⟩ (Cond.code ⟨"ModuleHouse$Checker", "lose", "()V"⟩ prog_2_method_18_code 1 none :: xk_gd) rm_Checker_lose (xk_Pc D kx_cl (kx_ty ca) (kw_h ad ca) ads xk_F sz [.ref (ad 55)] u) (xk_Qc D kx_cl (kw_h ad ca) ads (xo_v (.inl r)) u') (xk_A ads sz) := by
  unfold fm_Checker_lose at h
  refine xk_con (by decide) htr hok (Nat.le_of_ble_eq_true rfl) (fun p e s m below meth c ls C hne hl hP => ?_)
  have hx := C.1.1
  have hb := C.1.2.1
  have hS : va_S (xk_A ads s.heap.size) s.heap s.heap [] := va_S.rf
  have hl : lv_has ls 1 [(0, .ref (ad 55))] := hl
  refine lv_aload_n hx hb dd_Checker_lose_0 rfl (lv_at hl 0 rfl) ?_
  refine lv_aload_n hx hb dd_Checker_lose_1 rfl (lv_at hl 0 rfl) ?_
  refine gf_h_Checker_55_floor C hP dd_Checker_lose_2 ?_
  refine pf_h_Checker_55_height C hP hS dd_Checker_lose_5 (fun H locs hP hS => ?_)
  obtain ⟨u1, eu1, h⟩ := xp_let h
  rw [← eu1] at hP
  refine lv_aload_n hx hb dd_Checker_lose_8 rfl (lv_at hl 0 rfl) ?_
  refine gf_h_Checker_55_lost C hP dd_Checker_lose_9 ?_
  refine lv_aload_n hx hb dd_Checker_lose_12 rfl (lv_at hl 0 rfl) ?_
  refine gf_h_Checker_55_depth C hP dd_Checker_lose_13 ?_
  refine lv_iconst (v := 1) hx hb dd_Checker_lose_16 (by decide) ?_
  refine lv_isub hx hb dd_Checker_lose_17 ?_
  refine lv_iconst (v := 1) hx hb dd_Checker_lose_18 (by decide) ?_
  obtain ⟨hi, h⟩ := xp_g h
  refine as_h_58 C hP hS hi dd_Checker_lose_19 (fun H locs hP hS => ?_)
  obtain ⟨u2, eu2, h⟩ := xp_let h
  rw [← eu2] at hP
  obtain ⟨rfl, rfl⟩ := xp_r h
  exact xr_vret C hP hS dd_Checker_lose_20
