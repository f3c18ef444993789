abbrev rm_Model_needs : Room := { frames := 3, cells := 1, slots := 6, locals := 41 }
noncomputable def fm_Model_needs (x0 : Int32) (u : xk_St) : Option (Unit × xk_St) :=
  (xs_seq (fm_Model_one u) fun a1 u2 => if a1 = x0 then (some ((()), u2)) else ((xs_seq (fm_Model_fail (-1 : Int32) u2) fun _ u3 => some ((()), u3))))
set_option maxHeartbeats 4000000 in
set_option maxRecDepth 100000 in
theorem ct_Model_needs {l : Launch} {D : va_G} {ad : Nat → Nat} {ca : Nat → ClassId} {ads : List Nat} (htr : l.stackTraces = false) (hok : xk_ok (kw_m ad ca) ads) {x0 : Int32} {u u' : xk_St} {r : Unit} (h : fm_Model_needs x0 u = some (r, u')) :
    ∀ sz, xk_Met l ⟨"ModuleHouseModel", "needs", "(I)V"⟩ (Cond.code ⟨"ModuleHouseModel", "needs", "(I)V"⟩ prog_14_method_14_code 2 none :: xk_gd) rm_Model_needs (xk_Pc D kx_cl (kx_ty ca) (kw_m ad ca) ads xk_F sz [.ref (ad 0), .int x0] u) (xk_Qc D kx_cl (kw_m ad ca) ads (xo_v (.inl r)) u') (xk_A ads sz) := by
  unfold fm_Model_needs at h
  refine xk_con (by decide) htr hok (Nat.le_of_ble_eq_true rfl) (fun p e s m below meth c ls C hne hl hP => ?_)
  have hx := C.1.1
  have hb := C.1.2.1
  have hS : va_S (xk_A ads s.heap.size) s.heap s.heap [] := va_S.rf
  have hl : lv_has ls 2 [(0, .ref (ad 0)), (1, .int x0)] := hl
  refine lv_aload_n hx hb dd_Model_needs_0 rfl (lv_at hl 0 rfl) ?_
  obtain ⟨a1, u2, hq, h⟩ := xp_seq h
  refine xk_goesI (xr_V (As := []) (rest := []) C hP hS (ct_Model_one htr hok hq) kq_Model_178 0 11 rfl rfl ⟨rfl, rfl, Nat.le_of_ble_eq_true rfl, Nat.le_of_ble_eq_true rfl⟩ ⟨Nat.le_of_ble_eq_true rfl, Nat.le_of_ble_eq_true rfl⟩ hl.1 rfl rfl (Nat.le_of_ble_eq_true rfl) dd_Model_needs_1) hS (fun H locs hP hS => ?_)
  clear hq
  refine lv_iload_n hx hb dd_Model_needs_4 rfl (lv_at hl 1 rfl) ?_
  refine lv_icmp_eq (tgt := 13) hx hb dd_Model_needs_5 (by decide) (fun hc => ?_) (fun hc => ?_)
  · have h := xp_t hc h
    obtain ⟨rfl, rfl⟩ := xp_r h
    exact xr_vret C hP hS dd_Model_needs_13
  · have h := xp_f hc h
    refine lv_aload_n hx hb dd_Model_needs_8 rfl (lv_at hl 0 rfl) ?_
    refine lv_iconst (v := (-1)) hx hb dd_Model_needs_9 (by decide) ?_
    obtain ⟨rx, u3, hq, h⟩ := xp_seq h
    refine xk_goesV (xr_V (As := [.int (-1 : Int32)]) (rest := []) C hP hS (ct_Model_fail htr hok hq) kq_Model_174 0 11 rfl rfl ⟨rfl, rfl, Nat.le_of_ble_eq_true rfl, Nat.le_of_ble_eq_true rfl⟩ ⟨Nat.le_of_ble_eq_true rfl, Nat.le_of_ble_eq_true rfl⟩ hl.1 rfl rfl (Nat.le_of_ble_eq_true rfl) dd_Model_needs_10) hS (fun H locs hP hS => ?_)
    clear hq
    obtain ⟨rfl, rfl⟩ := xp_r h
    exact xr_vret C hP hS dd_Model_needs_13
abbrev rm_Model_place : Room := { frames := 4, cells := 1, slots := 6, locals := 66 }
noncomputable def fm_Model_place (fu : Nat) (u : xk_St) : Option (Unit × xk_St) :=
  (xs_seq (fm_Model_needs (0 : Int32) u) fun _ u1 => xs_seq (fm_Model_needs (65 : Int32) u1) fun _ u2 => xs_seq (fm_Model_signed fu (32 : Int32) u2) fun a3 u4 => xs_let (xs_J u4 0 a3) fun u5 => xs_seq (fm_Model_needs (11 : Int32) u5) fun _ u6 => some ((()), u6))
set_option maxHeartbeats 4000000 in
set_option maxRecDepth 100000 in
theorem ct_Model_place {l : Launch} {D : va_G} {ad : Nat → Nat} {ca : Nat → ClassId} {ads : List Nat} (htr : l.stackTraces = false) (hok : xk_ok (kw_m ad ca) ads) {fu : Nat} {u u' : xk_St} {r : Unit} (h : fm_Model_place fu u = some (r, u')) :
    ∀ sz, xk_Met l ⟨"ModuleHouseModel", "place", "()V"⟩ (Cond.code ⟨"ModuleHouseModel", "place", "()V"⟩ prog_14_method_34_code 1 none :: xk_gd) rm_Model_place (xk_Pc D kx_cl (kx_ty ca) (kw_m ad ca) ads xk_F sz [.ref (ad 0)] u) (xk_Qc D kx_cl (kw_m ad ca) ads (xo_v (.inl r)) u') (xk_A ads sz) := by
  unfold fm_Model_place at h
  refine xk_con (by decide) htr hok (Nat.le_of_ble_eq_true rfl) (fun p e s m below meth c ls C hne hl hP => ?_)
  have hx := C.1.1
  have hb := C.1.2.1
  have hS : va_S (xk_A ads s.heap.size) s.heap s.heap [] := va_S.rf
  have hl : lv_has ls 1 [(0, .ref (ad 0))] := hl
  refine lv_aload_n hx hb dd_Model_place_0 rfl (lv_at hl 0 rfl) ?_
  refine lv_iconst (v := 0) hx hb dd_Model_place_1 (by decide) ?_
  obtain ⟨rx, u1, hq, h⟩ := xp_seq h
  refine xk_goesV (xr_V (As := [.int (0 : Int32)]) (rest := []) C hP hS (ct_Model_needs htr hok hq) kq_Model_308 0 11 rfl rfl ⟨rfl, rfl, Nat.le_of_ble_eq_true rfl, Nat.le_of_ble_eq_true rfl⟩ ⟨Nat.le_of_ble_eq_true rfl, Nat.le_of_ble_eq_true rfl⟩ hl.1 rfl rfl (Nat.le_of_ble_eq_true rfl) dd_Model_place_2) hS (fun H locs hP hS => ?_)
  clear hq
  refine lv_aload_n hx hb dd_Model_place_5 rfl (lv_at hl 0 rfl) ?_
  refine lv_bipush (v := 65) hx hb dd_Model_place_6 (by decide) ?_
  obtain ⟨rx, u2, hq, h⟩ := xp_seq h
  refine xk_goesV (xr_V (As := [.int (65 : Int32)]) (rest := []) C hP hS (ct_Model_needs htr hok hq) kq_Model_308 0 11 rfl rfl ⟨rfl, rfl, Nat.le_of_ble_eq_true rfl, Nat.le_of_ble_eq_true rfl⟩ ⟨Nat.le_of_ble_eq_true rfl, Nat.le_of_ble_eq_true rfl⟩ hl.1 rfl rfl (Nat.le_of_ble_eq_true rfl) dd_Model_place_8) hS (fun H locs hP hS => ?_)
  clear hq
  refine lv_aload_n hx hb dd_Model_place_11 rfl (lv_at hl 0 rfl) ?_
  refine lv_aload_n hx hb dd_Model_place_12 rfl (lv_at hl 0 rfl) ?_
  refine lv_bipush (v := 32) hx hb dd_Model_place_13 (by decide) ?_
  obtain ⟨a3, u4, hq, h⟩ := xp_seq h
  refine xk_goesL (xr_V (As := [.int (32 : Int32)]) (rest := [.ref (ad 0)]) C hP hS (ct_Model_signed htr hok hq) kq_Model_193 0 11 rfl rfl ⟨rfl, rfl, Nat.le_of_ble_eq_true rfl, Nat.le_of_ble_eq_true rfl⟩ ⟨Nat.le_of_ble_eq_true rfl, Nat.le_of_ble_eq_true rfl⟩ hl.1 rfl rfl (Nat.le_of_ble_eq_true rfl) dd_Model_place_15) hS (fun H locs hP hS => ?_)
  clear hq
  refine pf_m_Model_0_x C hP hS dd_Model_place_18 (fun H locs hP hS => ?_)
  obtain ⟨u5, eu5, h⟩ := xp_let h
  rw [← eu5] at hP
  refine lv_aload_n hx hb dd_Model_place_21 rfl (lv_at hl 0 rfl) ?_
  refine lv_bipush (v := 11) hx hb dd_Model_place_22 (by decide) ?_
  obtain ⟨rx, u6, hq, h⟩ := xp_seq h
  refine xk_goesV (xr_V (As := [.int (11 : Int32)]) (rest := []) C hP hS (ct_Model_needs htr hok hq) kq_Model_308 0 11 rfl rfl ⟨rfl, rfl, Nat.le_of_ble_eq_true rfl, Nat.le_of_ble_eq_true rfl⟩ ⟨Nat.le_of_ble_eq_true rfl, Nat.le_of_ble_eq_true rfl⟩ hl.1 rfl rfl (Nat.le_of_ble_eq_true rfl) dd_Model_place_24) hS (fun H locs hP hS => ?_)
  clear hq
  obtain ⟨rfl, rfl⟩ := xp_r h
  exact xr_vret C hP hS dd_Model_place_27
abbrev rm_Model_bytesForm : Room := { frames := 4, cells := 1, slots := 6, locals := 65 }
noncomputable def jb_Model_bytesForm_25 (fu : Nat) (b1 : Int64) (u : xk_St) : Option (Unit × xk_St) :=
  if (u.1 6) = (0 : Int32) then ((xs_let (xs_I u 4 ((u.1 4) + (b1.toInt32))) fun u3 => some ((()), u3))) else (some ((()), u))
noncomputable def fm_Model_bytesForm (fu : Nat) (u : xk_St) : Option (Unit × xk_St) :=
  (xs_seq (fm_Model_number fu u) fun a1 u2 => if a1 ≤ (((u2.1 5) - (u2.1 4)).toInt64) then (jb_Model_bytesForm_25 fu a1 u2) else ((xs_seq (fm_Model_fail (-1 : Int32) u2) fun _ u4 => jb_Model_bytesForm_25 fu a1 u4)))
set_option maxHeartbeats 4000000 in
set_option maxRecDepth 100000 in
theorem wj_Model_bytesForm_25 {p : Program} {l : Launch} {e : Env} {s : State} {m : MethodId} {args : Array Value} {below : List Frame} {meth : Method} {c : Code} {D : va_G} {ad : Nat → Nat} {ca : Nat → ClassId} {ads : List Nat} {fu : Nat} (htr : l.stackTraces = false) (C : xk_C D kx_cl (kx_ty ca) (kw_m ad ca) ads "ModuleHouseModel" prog_14_method_35_code 3 none p e s m args meth c) (hne : c.exceptionTable.isEmpty = true) {u' : xk_St} {r : Unit} {b1 : Int64} {u : xk_St} {H : Heap} {locs : List Loc} {ls : Array Slot} (h : jb_Model_bytesForm_25 fu  b1 u = some (r, u')) (hP : va_P D kx_cl (kw_m ad ca u) H) (hS : va_S (xk_A ads s.heap.size) s.heap H locs) (hl : lv_has ls 3 [(0, .ref (ad 0)), (1, .long b1)]) : W p l e rm_Model_bytesForm s m args below meth c H locs 0 0 (xk_MQ below (xk_Qc D kx_cl (kw_m ad ca) ads (xo_v (.inl r)) u') args s (xk_A ads s.heap.size)) (F0 m 25 ls []) := by
  have hx := C.1.1
  have hb := C.1.2.1
  have hok := C.2.2.1
  unfold jb_Model_bytesForm_25 at h
  refine lv_aload_n hx hb dd_Model_bytesForm_25 rfl (lv_at hl 0 rfl) ?_
  refine gf_m_Model_0_bad C hP dd_Model_bytesForm_26 ?_
  refine lv_if_ne (tgt := 43) hx hb dd_Model_bytesForm_29 (by decide) (fun hc => ?_) (fun hc => ?_)
  · have h := xp_f hc h
    obtain ⟨rfl, rfl⟩ := xp_r h
    exact xr_vret C hP hS dd_Model_bytesForm_43
  · have h := xp_t hc h
    refine lv_aload_n hx hb dd_Model_bytesForm_32 rfl (lv_at hl 0 rfl) ?_
    refine lv_dup hx hb dd_Model_bytesForm_33 rfl ?_
    refine gf_m_Model_0_at C hP dd_Model_bytesForm_34 ?_
    refine lv_lload_n hx hb dd_Model_bytesForm_37 rfl (lv_at hl 1 rfl) ?_
    refine lv_l2i hx hb dd_Model_bytesForm_38 rfl ?_
    refine lv_iadd hx hb dd_Model_bytesForm_39 ?_
    refine pf_m_Model_0_at C hP hS dd_Model_bytesForm_40 (fun H locs hP hS => ?_)
    obtain ⟨u3, eu3, h⟩ := xp_let h
    rw [← eu3] at hP
    obtain ⟨rfl, rfl⟩ := xp_r h
    exact xr_vret C hP hS dd_Model_bytesForm_43
set_option maxHeartbeats 4000000 in
set_option maxRecDepth 100000 in
theorem ct_Model_bytesForm {l : Launch} {D : va_G} {ad : Nat → Nat} {ca : Nat → ClassId} {ads : List Nat} (htr : l.stackTraces = false) (hok : xk_ok (kw_m ad ca) ads) {fu : Nat} {u u' : xk_St} {r : Unit} (h : fm_Model_bytesForm fu u = some (r, u')) :
    ∀ sz, xk_Met l ⟨"ModuleHouseModel", "bytesForm", "()V"⟩ (Cond.code ⟨"ModuleHouseModel", "bytesForm", "()V"⟩ prog_14_method_35_code 3 none :: xk_gd) rm_Model_bytesForm (xk_Pc D kx_cl (kx_ty ca) (kw_m ad ca) ads xk_F sz [.ref (ad 0)] u) (xk_Qc D kx_cl (kw_m ad ca) ads (xo_v (.inl r)) u') (xk_A ads sz) := by
  unfold fm_Model_bytesForm at h
  refine xk_con (by decide) htr hok (Nat.le_of_ble_eq_true rfl) (fun p e s m below meth c ls C hne hl hP => ?_)
  have hx := C.1.1
  have hb := C.1.2.1
  have hS : va_S (xk_A ads s.heap.size) s.heap s.heap [] := va_S.rf
  have hl : lv_has ls 3 [(0, .ref (ad 0))] := hl
  refine lv_aload_n hx hb dd_Model_bytesForm_0 rfl (lv_at hl 0 rfl) ?_
  obtain ⟨a1, u2, hq, h⟩ := xp_seq h
  refine xk_goesL (xr_V (As := []) (rest := []) C hP hS (ct_Model_number htr hok hq) kq_Model_295 0 11 rfl rfl ⟨rfl, rfl, Nat.le_of_ble_eq_true rfl, Nat.le_of_ble_eq_true rfl⟩ ⟨Nat.le_of_ble_eq_true rfl, Nat.le_of_ble_eq_true rfl⟩ hl.1 rfl rfl (Nat.le_of_ble_eq_true rfl) dd_Model_bytesForm_1) hS (fun H locs hP hS => ?_)
  clear hq
  refine lv_lstore_n (lv' := [(1, .long a1), (0, .ref (ad 0))]) hx hb dd_Model_bytesForm_4 rfl hl (by decide) rfl (fun ls hl => ?_)
  refine lv_lload_n hx hb dd_Model_bytesForm_5 rfl (lv_at hl 0 rfl) ?_
  refine lv_aload_n hx hb dd_Model_bytesForm_6 rfl (lv_at hl 1 rfl) ?_
  refine gf_m_Model_0_limit C hP dd_Model_bytesForm_7 ?_
  refine lv_aload_n hx hb dd_Model_bytesForm_10 rfl (lv_at hl 1 rfl) ?_
  refine gf_m_Model_0_at C hP dd_Model_bytesForm_11 ?_
  refine lv_isub hx hb dd_Model_bytesForm_14 ?_
  refine lv_i2l hx hb dd_Model_bytesForm_15 rfl ?_
  refine xr_lc_le (tgt := 25) hx hb dd_Model_bytesForm_16 dd_Model_bytesForm_17 (by decide) (fun hc => ?_) (fun hc => ?_)
  · have h := xp_t hc h
    exact wj_Model_bytesForm_25 htr C hne h hP hS (lv_sub hl [1, 0] rfl)
  · have h := xp_f hc h
    refine lv_aload_n hx hb dd_Model_bytesForm_20 rfl (lv_at hl 1 rfl) ?_
    refine lv_iconst (v := (-1)) hx hb dd_Model_bytesForm_21 (by decide) ?_
    obtain ⟨rx, u4, hq, h⟩ := xp_seq h
    refine xk_goesV (xr_V (As := [.int (-1 : Int32)]) (rest := []) C hP hS (ct_Model_fail htr hok hq) kq_Model_174 0 11 rfl rfl ⟨rfl, rfl, Nat.le_of_ble_eq_true rfl, Nat.le_of_ble_eq_true rfl⟩ ⟨Nat.le_of_ble_eq_true rfl, Nat.le_of_ble_eq_true rfl⟩ hl.1 rfl rfl (Nat.le_of_ble_eq_true rfl) dd_Model_bytesForm_22) hS (fun H locs hP hS => ?_)
    clear hq
    exact wj_Model_bytesForm_25 htr C hne h hP hS (lv_sub hl [1, 0] rfl)
abbrev rm_Model_limits : Room := { frames := 4, cells := 1, slots := 6, locals := 65 }
noncomputable def fm_Model_limits (fu : Nat) (u : xk_St) : Option (Unit × xk_St) :=
  (xs_seq (fm_Model_flag u) fun a1 u2 => xs_seq (fm_Model_number fu u2) fun a3 u4 => xs_let (xs_J u4 0 a3) fun u5 => if a1 = (1 : Int32) then ((xs_seq (fm_Model_number fu u5) fun a7 u8 => xs_let (xs_J u8 1 a7) fun u9 => some ((()), u9))) else ((xs_let (xs_J u5 1 (-1 : Int64)) fun u6 => some ((()), u6))))
set_option maxHeartbeats 4000000 in
set_option maxRecDepth 100000 in
theorem ct_Model_limits {l : Launch} {D : va_G} {ad : Nat → Nat} {ca : Nat → ClassId} {ads : List Nat} (htr : l.stackTraces = false) (hok : xk_ok (kw_m ad ca) ads) {fu : Nat} {u u' : xk_St} {r : Unit} (h : fm_Model_limits fu u = some (r, u')) :
    ∀ sz, xk_Met l ⟨"ModuleHouseModel", "limits", "()V"⟩ (Cond.code ⟨"ModuleHouseModel", "limits", "()V"⟩ prog_14_method_32_code 2 none :: xk_gd) rm_Model_limits (xk_Pc D kx_cl (kx_ty ca) (kw_m ad ca) ads xk_F sz [.ref (ad 0)] u) (xk_Qc D kx_cl (kw_m ad ca) ads (xo_v (.inl r)) u') (xk_A ads sz) := by
  unfold fm_Model_limits at h
  refine xk_con (by decide) htr hok (Nat.le_of_ble_eq_true rfl) (fun p e s m below meth c ls C hne hl hP => ?_)
  have hx := C.1.1
  have hb := C.1.2.1
  have hS : va_S (xk_A ads s.heap.size) s.heap s.heap [] := va_S.rf
  have hl : lv_has ls 2 [(0, .ref (ad 0))] := hl
  refine lv_aload_n hx hb dd_Model_limits_0 rfl (lv_at hl 0 rfl) ?_
  obtain ⟨a1, u2, hq, h⟩ := xp_seq h
  refine xk_goesI (xr_V (As := []) (rest := []) C hP hS (ct_Model_flag htr hok hq) kq_Model_357 0 11 rfl rfl ⟨rfl, rfl, Nat.le_of_ble_eq_true rfl, Nat.le_of_ble_eq_true rfl⟩ ⟨Nat.le_of_ble_eq_true rfl, Nat.le_of_ble_eq_true rfl⟩ hl.1 rfl rfl (Nat.le_of_ble_eq_true rfl) dd_Model_limits_1) hS (fun H locs hP hS => ?_)
  clear hq
  refine lv_istore_n (lv' := [(1, .int a1), (0, .ref (ad 0))]) hx hb dd_Model_limits_4 rfl hl (by decide) rfl (fun ls hl => ?_)
  refine lv_aload_n hx hb dd_Model_limits_5 rfl (lv_at hl 1 rfl) ?_
  refine lv_aload_n hx hb dd_Model_limits_6 rfl (lv_at hl 1 rfl) ?_
  obtain ⟨a3, u4, hq, h⟩ := xp_seq h
  refine xk_goesL (xr_V (As := []) (rest := [.ref (ad 0)]) C hP hS (ct_Model_number htr hok hq) kq_Model_295 0 11 rfl rfl ⟨rfl, rfl, Nat.le_of_ble_eq_true rfl, Nat.le_of_ble_eq_true rfl⟩ ⟨Nat.le_of_ble_eq_true rfl, Nat.le_of_ble_eq_true rfl⟩ hl.1 rfl rfl (Nat.le_of_ble_eq_true rfl) dd_Model_limits_7) hS (fun H locs hP hS => ?_)
  clear hq
  refine pf_m_Model_0_x C hP hS dd_Model_limits_10 (fun H locs hP hS => ?_)
  obtain ⟨u5, eu5, h⟩ := xp_let h
  rw [← eu5] at hP
  refine lv_aload_n hx hb dd_Model_limits_13 rfl (lv_at hl 1 rfl) ?_
  refine lv_iload_n hx hb dd_Model_limits_14 rfl (lv_at hl 0 rfl) ?_
  refine lv_iconst (v := 1) hx hb dd_Model_limits_15 (by decide) ?_
  refine lv_icmp_ne (tgt := 26) hx hb dd_Model_limits_16 (by decide) (fun hc => ?_) (fun hc => ?_)
  · have h := xp_f hc h
    refine lv_ldc2 (v := (-1)) hx hb C.1.2.2.2.1 (C.1.2.2.2.2 _ (xk_c9 (w := Jvm.Cond.constantLong "ModuleHouseModel" 184 (-1)) 138 rfl rfl)) dd_Model_limits_26 ?_
    refine pf_m_Model_0_y C hP hS dd_Model_limits_29 (fun H locs hP hS => ?_)
    obtain ⟨u6, eu6, h⟩ := xp_let h
    rw [← eu6] at hP
    obtain ⟨rfl, rfl⟩ := xp_r h
    exact xr_vret C hP hS dd_Model_limits_32
  · have h := xp_t hc h
    refine lv_aload_n hx hb dd_Model_limits_19 rfl (lv_at hl 1 rfl) ?_
    obtain ⟨a7, u8, hq, h⟩ := xp_seq h
    refine xk_goesL (xr_V (As := []) (rest := [.ref (ad 0)]) C hP hS (ct_Model_number htr hok hq) kq_Model_295 0 11 rfl rfl ⟨rfl, rfl, Nat.le_of_ble_eq_true rfl, Nat.le_of_ble_eq_true rfl⟩ ⟨Nat.le_of_ble_eq_true rfl, Nat.le_of_ble_eq_true rfl⟩ hl.1 rfl rfl (Nat.le_of_ble_eq_true rfl) dd_Model_limits_20) hS (fun H locs hP hS => ?_)
    clear hq
    refine lv_goto (tgt := 29) hx hb dd_Model_limits_23 (by decide) ?_
    refine pf_m_Model_0_y C hP hS dd_Model_limits_29 (fun H locs hP hS => ?_)
    obtain ⟨u9, eu9, h⟩ := xp_let h
    rw [← eu9] at hP
    obtain ⟨rfl, rfl⟩ := xp_r h
    exact xr_vret C hP hS dd_Model_limits_32
abbrev rm_Model_constant : Room := { frames := 5, cells := 1, slots := 6, locals := 89 }
noncomputable def jb_Model_constant_84 (fu : Nat) (b2 : Int32) (u : xk_St) : Option (Int32 × xk_St) :=
  (xs_seq (fm_Model_needs (11 : Int32) u) fun _ u7 => some (b2, u7))
noncomputable def jb_Model_constant_56 (fu : Nat) (s0 : Int32) (u : xk_St) : Option (Int32 × xk_St) :=
  jb_Model_constant_84 fu s0 u
noncomputable def jb_Model_constant_39 (fu : Nat) (b1 : Int32) (s0 : Int32) (u : xk_St) : Option (Int32 × xk_St) :=
  (xs_seq (fm_Model_signed fu s0 u) fun a4 u5 => xs_let (xs_J u5 0 a4) fun u6 => if b1 = (65 : Int32) then (jb_Model_constant_56 fu (1 : Int32) u6) else (jb_Model_constant_56 fu (2 : Int32) u6))
noncomputable def jb_Model_constant_24 (fu : Nat) (b1 : Int32) (u : xk_St) : Option (Int32 × xk_St) :=
  if b1 = (65 : Int32) then (jb_Model_constant_39 fu b1 (32 : Int32) u) else (jb_Model_constant_39 fu b1 (64 : Int32) u)
noncomputable def fm_Model_constant (fu : Nat) (u : xk_St) : Option (Int32 × xk_St) :=
  (xs_seq (fm_Model_one u) fun a1 u2 => xs_let (xs_J u2 0 (0 : Int64)) fun u3 => if a1 = (65 : Int32) then (jb_Model_constant_24 fu a1 u3) else (if a1 = (66 : Int32) then (jb_Model_constant_24 fu a1 u3) else (if a1 = (208 : Int32) then ((xs_seq (fm_Model_target fu u3) fun a9 u10 => xs_seq (fm_Model_reference a9 (1 : Int32) u10) fun a11 u12 => jb_Model_constant_84 fu a11 u12)) else ((xs_seq (fm_Model_fail (-1 : Int32) u3) fun _ u8 => jb_Model_constant_84 fu (0 : Int32) u8)))))
set_option maxHeartbeats 4000000 in
set_option maxRecDepth 100000 in
theorem wj_Model_constant_84 {p : Program} {l : Launch} {e : Env} {s : State} {m : MethodId} {args : Array Value} {below : List Frame} {meth : Method} {c : Code} {D : va_G} {ad : Nat → Nat} {ca : Nat → ClassId} {ads : List Nat} {fu : Nat} (htr : l.stackTraces = false) (C : xk_C D kx_cl (kx_ty ca) (kw_m ad ca) ads "ModuleHouseModel" prog_14_method_33_code 3 (some .int) p e s m args meth c) (hne : c.exceptionTable.isEmpty = true) {u' : xk_St} {r : Int32} {b2 : Int32} {u : xk_St} {H : Heap} {locs : List Loc} {ls : Array Slot} (h : jb_Model_constant_84 fu  b2 u = some (r, u')) (hP : va_P D kx_cl (kw_m ad ca u) H) (hS : va_S (xk_A ads s.heap.size) s.heap H locs) (hl : lv_has ls 3 [(0, .ref (ad 0)), (2, .int b2)]) : W p l e rm_Model_constant s m args below meth c H locs 0 0 (xk_MQ below (xk_Qc D kx_cl (kw_m ad ca) ads (xo_i (.inl r)) u') args s (xk_A ads s.heap.size)) (F0 m 84 ls []) := by
  have hx := C.1.1
  have hb := C.1.2.1
  have hok := C.2.2.1
  unfold jb_Model_constant_84 at h
  refine lv_aload_n hx hb dd_Model_constant_84 rfl (lv_at hl 0 rfl) ?_
  refine lv_bipush (v := 11) hx hb dd_Model_constant_85 (by decide) ?_
  obtain ⟨rx, u7, hq, h⟩ := xp_seq h
  refine xk_goesV (xr_V (As := [.int (11 : Int32)]) (rest := []) C hP hS (ct_Model_needs htr hok hq) kq_Model_308 0 11 rfl rfl ⟨rfl, rfl, Nat.le_of_ble_eq_true rfl, Nat.le_of_ble_eq_true rfl⟩ ⟨Nat.le_of_ble_eq_true rfl, Nat.le_of_ble_eq_true rfl⟩ hl.1 rfl rfl (Nat.le_of_ble_eq_true rfl) dd_Model_constant_87) hS (fun H locs hP hS => ?_)
  clear hq
  refine lv_iload_n hx hb dd_Model_constant_90 rfl (lv_at hl 1 rfl) ?_
  obtain ⟨rfl, rfl⟩ := xp_r h
  exact xr_iret C hP hS dd_Model_constant_91
set_option maxHeartbeats 4000000 in
set_option maxRecDepth 100000 in
theorem wj_Model_constant_56 {p : Program} {l : Launch} {e : Env} {s : State} {m : MethodId} {args : Array Value} {below : List Frame} {meth : Method} {c : Code} {D : va_G} {ad : Nat → Nat} {ca : Nat → ClassId} {ads : List Nat} {fu : Nat} (htr : l.stackTraces = false) (C : xk_C D kx_cl (kx_ty ca) (kw_m ad ca) ads "ModuleHouseModel" prog_14_method_33_code 3 (some .int) p e s m args meth c) (hne : c.exceptionTable.isEmpty = true) {u' : xk_St} {r : Int32} {s0 : Int32} {u : xk_St} {H : Heap} {locs : List Loc} {ls : Array Slot} (h : jb_Model_constant_56 fu  s0 u = some (r, u')) (hP : va_P D kx_cl (kw_m ad ca u) H) (hS : va_S (xk_A ads s.heap.size) s.heap H locs) (hl : lv_has ls 3 [(0, .ref (ad 0))]) : W p l e rm_Model_constant s m args below meth c H locs 0 0 (xk_MQ below (xk_Qc D kx_cl (kw_m ad ca) ads (xo_i (.inl r)) u') args s (xk_A ads s.heap.size)) (F0 m 56 ls [.int s0]) := by
  have hx := C.1.1
  have hb := C.1.2.1
  have hok := C.2.2.1
  unfold jb_Model_constant_56 at h
  refine lv_istore_n (lv' := [(2, .int s0), (0, .ref (ad 0))]) hx hb dd_Model_constant_56 rfl hl (by decide) rfl (fun ls hl => ?_)
  refine lv_goto (tgt := 84) hx hb dd_Model_constant_57 (by decide) ?_
  exact wj_Model_constant_84 htr C hne h hP hS (lv_sub hl [1, 0] rfl)
set_option maxHeartbeats 4000000 in
set_option maxRecDepth 100000 in
theorem wj_Model_constant_39 {p : Program} {l : Launch} {e : Env} {s : State} {m : MethodId} {args : Array Value} {below : List Frame} {meth : Method} {c : Code} {D : va_G} {ad : Nat → Nat} {ca : Nat → ClassId} {ads : List Nat} {fu : Nat} (htr : l.stackTraces = false) (C : xk_C D kx_cl (kx_ty ca) (kw_m ad ca) ads "ModuleHouseModel" prog_14_method_33_code 3 (some .int) p e s m args meth c) (hne : c.exceptionTable.isEmpty = true) {u' : xk_St} {r : Int32} {b1 : Int32} {s0 : Int32} {u : xk_St} {H : Heap} {locs : List Loc} {ls : Array Slot} (h : jb_Model_constant_39 fu  b1 s0 u = some (r, u')) (hP : va_P D kx_cl (kw_m ad ca u) H) (hS : va_S (xk_A ads s.heap.size) s.heap H locs) (hl : lv_has ls 3 [(0, .ref (ad 0)), (1, .int b1)]) : W p l e rm_Model_constant s m args below meth c H locs 0 0 (xk_MQ below (xk_Qc D kx_cl (kw_m ad ca) ads (xo_i (.inl r)) u') args s (xk_A ads s.heap.size)) (F0 m 39 ls [.int s0, .ref (ad 0), .ref (ad 0)]) := by
  have hx := C.1.1
  have hb := C.1.2.1
  have hok := C.2.2.1
  unfold jb_Model_constant_39 at h
  obtain ⟨a4, u5, hq, h⟩ := xp_seq h
  refine xk_goesL (xr_V (As := [.int s0]) (rest := [.ref (ad 0)]) C hP hS (ct_Model_signed htr hok hq) kq_Model_193 0 11 rfl rfl ⟨rfl, rfl, Nat.le_of_ble_eq_true rfl, Nat.le_of_ble_eq_true rfl⟩ ⟨Nat.le_of_ble_eq_true rfl, Nat.le_of_ble_eq_true rfl⟩ hl.1 rfl rfl (Nat.le_of_ble_eq_true rfl) dd_Model_constant_39) hS (fun H locs hP hS => ?_)
  clear hq
  refine pf_m_Model_0_x C hP hS dd_Model_constant_42 (fun H locs hP hS => ?_)
  obtain ⟨u6, eu6, h⟩ := xp_let h
  rw [← eu6] at hP
  refine lv_iload_n hx hb dd_Model_constant_45 rfl (lv_at hl 1 rfl) ?_
  refine lv_bipush (v := 65) hx hb dd_Model_constant_46 (by decide) ?_
  refine lv_icmp_ne (tgt := 55) hx hb dd_Model_constant_48 (by decide) (fun hc => ?_) (fun hc => ?_)
  · have h := xp_f hc h
    refine lv_iconst (v := 2) hx hb dd_Model_constant_55 (by decide) ?_
    exact wj_Model_constant_56 htr C hne h hP hS (lv_sub hl [0] rfl)
  · have h := xp_t hc h
    refine lv_iconst (v := 1) hx hb dd_Model_constant_51 (by decide) ?_
    refine lv_goto (tgt := 56) hx hb dd_Model_constant_52 (by decide) ?_
    exact wj_Model_constant_56 htr C hne h hP hS (lv_sub hl [0] rfl)
set_option maxHeartbeats 4000000 in
set_option maxRecDepth 100000 in
theorem wj_Model_constant_24 {p : Program} {l : Launch} {e : Env} {s : State} {m : MethodId} {args : Array Value} {below : List Frame} {meth : Method} {c : Code} {D : va_G} {ad : Nat → Nat} {ca : Nat → ClassId} {ads : List Nat} {fu : Nat} (htr : l.stackTraces = false) (C : xk_C D kx_cl (kx_ty ca) (kw_m ad ca) ads "ModuleHouseModel" prog_14_method_33_code 3 (some .int) p e s m args meth c) (hne : c.exceptionTable.isEmpty = true) {u' : xk_St} {r : Int32} {b1 : Int32} {u : xk_St} {H : Heap} {locs : List Loc} {ls : Array Slot} (h : jb_Model_constant_24 fu  b1 u = some (r, u')) (hP : va_P D kx_cl (kw_m ad ca u) H) (hS : va_S (xk_A ads s.heap.size) s.heap H locs) (hl : lv_has ls 3 [(0, .ref (ad 0)), (1, .int b1)]) : W p l e rm_Model_constant s m args below meth c H locs 0 0 (xk_MQ below (xk_Qc D kx_cl (kw_m ad ca) ads (xo_i (.inl r)) u') args s (xk_A ads s.heap.size)) (F0 m 24 ls []) := by
  have hx := C.1.1
  have hb := C.1.2.1
  have hok := C.2.2.1
  unfold jb_Model_constant_24 at h
  refine lv_aload_n hx hb dd_Model_constant_24 rfl (lv_at hl 0 rfl) ?_
  refine lv_aload_n hx hb dd_Model_constant_25 rfl (lv_at hl 0 rfl) ?_
  refine lv_iload_n hx hb dd_Model_constant_26 rfl (lv_at hl 1 rfl) ?_
  refine lv_bipush (v := 65) hx hb dd_Model_constant_27 (by decide) ?_
  refine lv_icmp_ne (tgt := 37) hx hb dd_Model_constant_29 (by decide) (fun hc => ?_) (fun hc => ?_)
  · have h := xp_f hc h
    refine lv_bipush (v := 64) hx hb dd_Model_constant_37 (by decide) ?_
    exact wj_Model_constant_39 htr C hne h hP hS (lv_sub hl [0, 1] rfl)
  · have h := xp_t hc h
    refine lv_bipush (v := 32) hx hb dd_Model_constant_32 (by decide) ?_
    refine lv_goto (tgt := 39) hx hb dd_Model_constant_34 (by decide) ?_
    exact wj_Model_constant_39 htr C hne h hP hS (lv_sub hl [0, 1] rfl)
set_option maxHeartbeats 4000000 in
set_option maxRecDepth 100000 in
theorem ct_Model_constant {l : Launch} {D : va_G} {ad : Nat → Nat} {ca : Nat → ClassId} {ads : List Nat} (htr : l.stackTraces = false) (hok : xk_ok (kw_m ad ca) ads) {fu : Nat} {u u' : xk_St} {r : Int32} (h : fm_Model_constant fu u = some (r, u')) :
    ∀ sz, xk_Met l ⟨"ModuleHouseModel", "constant", "()I"⟩ (Cond.code ⟨"ModuleHouseModel", "constant", "()I"⟩ prog_14_method_33_code 3 (some .int) :: xk_gd) rm_Model_constant (xk_Pc D kx_cl (kx_ty ca) (kw_m ad ca) ads xk_F sz [.ref (ad 0)] u) (xk_Qc D kx_cl (kw_m ad ca) ads (xo_i (.inl r)) u') (xk_A ads sz) := by
  unfold fm_Model_constant at h
  refine xk_con (by decide) htr hok (Nat.le_of_ble_eq_true rfl) (fun p e s m below meth c ls C hne hl hP => ?_)
  have hx := C.1.1
  have hb := C.1.2.1
  have hS : va_S (xk_A ads s.heap.size) s.heap s.heap [] := va_S.rf
  have hl : lv_has ls 3 [(0, .ref (ad 0))] := hl
  refine lv_aload_n hx hb dd_Model_constant_0 rfl (lv_at hl 0 rfl) ?_
  obtain ⟨a1, u2, hq, h⟩ := xp_seq h
  refine xk_goesI (xr_V (As := []) (rest := []) C hP hS (ct_Model_one htr hok hq) kq_Model_178 0 11 rfl rfl ⟨rfl, rfl, Nat.le_of_ble_eq_true rfl, Nat.le_of_ble_eq_true rfl⟩ ⟨Nat.le_of_ble_eq_true rfl, Nat.le_of_ble_eq_true rfl⟩ hl.1 rfl rfl (Nat.le_of_ble_eq_true rfl) dd_Model_constant_1) hS (fun H locs hP hS => ?_)
  clear hq
  refine lv_istore_n (lv' := [(1, .int a1), (0, .ref (ad 0))]) hx hb dd_Model_constant_4 rfl hl (by decide) rfl (fun ls hl => ?_)
  refine lv_iconst (v := 0) hx hb dd_Model_constant_5 (by decide) ?_
  refine lv_istore_n (lv' := [(2, .int (0 : Int32)), (1, .int a1), (0, .ref (ad 0))]) hx hb dd_Model_constant_6 rfl hl (by decide) rfl (fun ls hl => ?_)
  refine lv_aload_n hx hb dd_Model_constant_7 rfl (lv_at hl 2 rfl) ?_
  refine lv_lconst (v := 0) hx hb dd_Model_constant_8 (by decide) ?_
  refine pf_m_Model_0_x C hP hS dd_Model_constant_9 (fun H locs hP hS => ?_)
  obtain ⟨u3, eu3, h⟩ := xp_let h
  rw [← eu3] at hP
  refine lv_iload_n hx hb dd_Model_constant_12 rfl (lv_at hl 1 rfl) ?_
  refine lv_bipush (v := 65) hx hb dd_Model_constant_13 (by decide) ?_
  refine lv_icmp_eq (tgt := 24) hx hb dd_Model_constant_15 (by decide) (fun hc => ?_) (fun hc => ?_)
  · have h := xp_t hc h
    exact wj_Model_constant_24 htr C hne h hP hS (lv_sub hl [2, 1] rfl)
  · have h := xp_f hc h
    refine lv_iload_n hx hb dd_Model_constant_18 rfl (lv_at hl 1 rfl) ?_
    refine lv_bipush (v := 66) hx hb dd_Model_constant_19 (by decide) ?_
    refine lv_icmp_ne (tgt := 60) hx hb dd_Model_constant_21 (by decide) (fun hc => ?_) (fun hc => ?_)
    · have h := xp_f hc h
      refine lv_iload_n hx hb dd_Model_constant_60 rfl (lv_at hl 1 rfl) ?_
      refine lv_sipush (v := 208) hx hb dd_Model_constant_61 (by decide) ?_
      refine lv_icmp_ne (tgt := 79) hx hb dd_Model_constant_64 (by decide) (fun hc => ?_) (fun hc => ?_)
      · have h := xp_f hc h
        refine lv_aload_n hx hb dd_Model_constant_79 rfl (lv_at hl 2 rfl) ?_
        refine lv_iconst (v := (-1)) hx hb dd_Model_constant_80 (by decide) ?_
        obtain ⟨rx, u8, hq, h⟩ := xp_seq h
        refine xk_goesV (xr_V (As := [.int (-1 : Int32)]) (rest := []) C hP hS (ct_Model_fail htr hok hq) kq_Model_174 0 11 rfl rfl ⟨rfl, rfl, Nat.le_of_ble_eq_true rfl, Nat.le_of_ble_eq_true rfl⟩ ⟨Nat.le_of_ble_eq_true rfl, Nat.le_of_ble_eq_true rfl⟩ hl.1 rfl rfl (Nat.le_of_ble_eq_true rfl) dd_Model_constant_81) hS (fun H locs hP hS => ?_)
        clear hq
        exact wj_Model_constant_84 htr C hne h hP hS (lv_sub hl [2, 0] rfl)
      · have h := xp_t hc h
        refine lv_aload_n hx hb dd_Model_constant_67 rfl (lv_at hl 2 rfl) ?_
        obtain ⟨a9, u10, hq, h⟩ := xp_seq h
        refine xk_goesI (xr_V (As := []) (rest := []) C hP hS (ct_Model_target htr hok hq) kq_Model_207 0 11 rfl rfl ⟨rfl, rfl, Nat.le_of_ble_eq_true rfl, Nat.le_of_ble_eq_true rfl⟩ ⟨Nat.le_of_ble_eq_true rfl, Nat.le_of_ble_eq_true rfl⟩ hl.1 rfl rfl (Nat.le_of_ble_eq_true rfl) dd_Model_constant_68) hS (fun H locs hP hS => ?_)
        clear hq
        refine lv_iconst (v := 1) hx hb dd_Model_constant_71 (by decide) ?_
        obtain ⟨a11, u12, hq, h⟩ := xp_seq h
        refine xk_goesI (xr_S (As := [.int a9, .int (1 : Int32)]) (rest := []) C hP hS (ct_Model_reference htr hok hq) kq_Model_203 ⟨rfl, rfl, Nat.le_of_ble_eq_true rfl, Nat.le_of_ble_eq_true rfl⟩ ⟨Nat.le_of_ble_eq_true rfl, Nat.le_of_ble_eq_true rfl⟩ hl.1 rfl rfl (Nat.le_of_ble_eq_true rfl) dd_Model_constant_72) hS (fun H locs hP hS => ?_)
        clear hq
        refine lv_istore_n (lv' := [(2, .int a11), (1, .int a1), (0, .ref (ad 0))]) hx hb dd_Model_constant_75 rfl hl (by decide) rfl (fun ls hl => ?_)
        refine lv_goto (tgt := 84) hx hb dd_Model_constant_76 (by decide) ?_
        exact wj_Model_constant_84 htr C hne h hP hS (lv_sub hl [2, 0] rfl)
    · have h := xp_t hc h
      exact wj_Model_constant_24 htr C hne h hP hS (lv_sub hl [2, 1] rfl)
abbrev rm_Model_exportForm : Room := { frames := 5, cells := 1, slots := 6, locals := 87 }
noncomputable def jb_Model_exportForm_17 (fu : Nat) (u : xk_St) : Option (Unit × xk_St) :=
  (xs_seq (fm_Model_number fu u) fun a4 u5 => some ((()), u5))
noncomputable def fm_Model_exportForm (fu : Nat) (u : xk_St) : Option (Unit × xk_St) :=
  (xs_seq (fm_Model_bytesForm fu u) fun _ u1 => xs_seq (fm_Model_one u1) fun a2 u3 => if a2 ≤ (3 : Int32) then (jb_Model_exportForm_17 fu u3) else ((xs_seq (fm_Model_fail (-1 : Int32) u3) fun _ u6 => jb_Model_exportForm_17 fu u6)))
set_option maxHeartbeats 4000000 in
set_option maxRecDepth 100000 in
theorem wj_Model_exportForm_17 {p : Program} {l : Launch} {e : Env} {s : State} {m : MethodId} {args : Array Value} {below : List Frame} {meth : Method} {c : Code} {D : va_G} {ad : Nat → Nat} {ca : Nat → ClassId} {ads : List Nat} {fu : Nat} (htr : l.stackTraces = false) (C : xk_C D kx_cl (kx_ty ca) (kw_m ad ca) ads "ModuleHouseModel" prog_14_method_36_code 1 none p e s m args meth c) (hne : c.exceptionTable.isEmpty = true) {u' : xk_St} {r : Unit} {u : xk_St} {H : Heap} {locs : List Loc} {ls : Array Slot} (h : jb_Model_exportForm_17 fu   u = some (r, u')) (hP : va_P D kx_cl (kw_m ad ca u) H) (hS : va_S (xk_A ads s.heap.size) s.heap H locs) (hl : lv_has ls 1 [(0, .ref (ad 0))]) : W p l e rm_Model_exportForm s m args below meth c H locs 0 0 (xk_MQ below (xk_Qc D kx_cl (kw_m ad ca) ads (xo_v (.inl r)) u') args s (xk_A ads s.heap.size)) (F0 m 17 ls []) := by
  have hx := C.1.1
  have hb := C.1.2.1
  have hok := C.2.2.1
  unfold jb_Model_exportForm_17 at h
  refine lv_aload_n hx hb dd_Model_exportForm_17 rfl (lv_at hl 0 rfl) ?_
  obtain ⟨a4, u5, hq, h⟩ := xp_seq h
  refine xk_goesL (xr_V (As := []) (rest := []) C hP hS (ct_Model_number htr hok hq) kq_Model_295 0 11 rfl rfl ⟨rfl, rfl, Nat.le_of_ble_eq_true rfl, Nat.le_of_ble_eq_true rfl⟩ ⟨Nat.le_of_ble_eq_true rfl, Nat.le_of_ble_eq_true rfl⟩ hl.1 rfl rfl (Nat.le_of_ble_eq_true rfl) dd_Model_exportForm_18) hS (fun H locs hP hS => ?_)
  clear hq
  refine lv_pop2_2 hx hb dd_Model_exportForm_21 rfl ?_
  obtain ⟨rfl, rfl⟩ := xp_r h
  exact xr_vret C hP hS dd_Model_exportForm_22
set_option maxHeartbeats 4000000 in
set_option maxRecDepth 100000 in
theorem ct_Model_exportForm {l : Launch} {D : va_G} {ad : Nat → Nat} {ca : Nat → ClassId} {ads : List Nat} (htr : l.stackTraces = false) (hok : xk_ok (kw_m ad ca) ads) {fu : Nat} {u u' : xk_St} {r : Unit} (h : fm_Model_exportForm fu u = some (r, u')) :
    ∀ sz, xk_Met l ⟨"ModuleHouseModel", "exportForm", "()V"⟩ (Cond.code ⟨"ModuleHouseModel", "exportForm", "()V"⟩ prog_14_method_36_code 1 none :: xk_gd) rm_Model_exportForm (xk_Pc D kx_cl (kx_ty ca) (kw_m ad ca) ads xk_F sz [.ref (ad 0)] u) (xk_Qc D kx_cl (kw_m ad ca) ads (xo_v (.inl r)) u') (xk_A ads sz) := by
  unfold fm_Model_exportForm at h
  refine xk_con (by decide) htr hok (Nat.le_of_ble_eq_true rfl) (fun p e s m below meth c ls C hne hl hP => ?_)
  have hx := C.1.1
  have hb := C.1.2.1
  have hS : va_S (xk_A ads s.heap.size) s.heap s.heap [] := va_S.rf
  have hl : lv_has ls 1 [(0, .ref (ad 0))] := hl
  refine lv_aload_n hx hb dd_Model_exportForm_0 rfl (lv_at hl 0 rfl) ?_
  obtain ⟨rx, u1, hq, h⟩ := xp_seq h
  refine xk_goesV (xr_V (As := []) (rest := []) C hP hS (ct_Model_bytesForm htr hok hq) kq_Model_372 0 11 rfl rfl ⟨rfl, rfl, Nat.le_of_ble_eq_true rfl, Nat.le_of_ble_eq_true rfl⟩ ⟨Nat.le_of_ble_eq_true rfl, Nat.le_of_ble_eq_true rfl⟩ hl.1 rfl rfl (Nat.le_of_ble_eq_true rfl) dd_Model_exportForm_1) hS (fun H locs hP hS => ?_)
  clear hq
  refine lv_aload_n hx hb dd_Model_exportForm_4 rfl (lv_at hl 0 rfl) ?_
  obtain ⟨a2, u3, hq, h⟩ := xp_seq h
  refine xk_goesI (xr_V (As := []) (rest := []) C hP hS (ct_Model_one htr hok hq) kq_Model_178 0 11 rfl rfl ⟨rfl, rfl, Nat.le_of_ble_eq_true rfl, Nat.le_of_ble_eq_true rfl⟩ ⟨Nat.le_of_ble_eq_true rfl, Nat.le_of_ble_eq_true rfl⟩ hl.1 rfl rfl (Nat.le_of_ble_eq_true rfl) dd_Model_exportForm_5) hS (fun H locs hP hS => ?_)
  clear hq
  refine lv_iconst (v := 3) hx hb dd_Model_exportForm_8 (by decide) ?_
  refine lv_icmp_le (tgt := 17) hx hb dd_Model_exportForm_9 (by decide) (fun hc => ?_) (fun hc => ?_)
  · have h := xp_t hc h
    exact wj_Model_exportForm_17 htr C hne h hP hS (lv_sub hl [0] rfl)
  · have h := xp_f hc h
    refine lv_aload_n hx hb dd_Model_exportForm_12 rfl (lv_at hl 0 rfl) ?_
    refine lv_iconst (v := (-1)) hx hb dd_Model_exportForm_13 (by decide) ?_
    obtain ⟨rx, u6, hq, h⟩ := xp_seq h
    refine xk_goesV (xr_V (As := [.int (-1 : Int32)]) (rest := []) C hP hS (ct_Model_fail htr hok hq) kq_Model_174 0 11 rfl rfl ⟨rfl, rfl, Nat.le_of_ble_eq_true rfl, Nat.le_of_ble_eq_true rfl⟩ ⟨Nat.le_of_ble_eq_true rfl, Nat.le_of_ble_eq_true rfl⟩ hl.1 rfl rfl (Nat.le_of_ble_eq_true rfl) dd_Model_exportForm_14) hS (fun H locs hP hS => ?_)
    clear hq
    exact wj_Model_exportForm_17 htr C hne h hP hS (lv_sub hl [0] rfl)
abbrev rm_Model_isRefused : Room := { frames := 2, cells := 1, slots := 6, locals := 25 }
noncomputable def jb_Model_isRefused_157 (u : xk_St) : Option (Int32 × xk_St) :=
  some ((1 : Int32), u)
noncomputable def jb_Model_isRefused_89 (b0 : Int32) (s0 : Int32) (u : xk_St) : Option (Int32 × xk_St) :=
  if s0 = (0 : Int32) then ((xs_seq (fm_Model_in (b0.toInt64) (139 : Int64) (166 : Int64) u) fun a3 u4 => if a3 = (0 : Int32) then ((xs_seq (fm_Model_in (b0.toInt64) (168 : Int64) (171 : Int64) u4) fun a5 u6 => if a5 = (0 : Int32) then ((xs_seq (fm_Model_in (b0.toInt64) (174 : Int64) (191 : Int64) u6) fun a7 u8 => if a7 = (0 : Int32) then (if b0 = (210 : Int32) then (jb_Model_isRefused_157 u8) else (if b0 = (252 : Int32) then (jb_Model_isRefused_157 u8) else (if b0 = (253 : Int32) then (jb_Model_isRefused_157 u8) else (some ((0 : Int32), u8))))) else (jb_Model_isRefused_157 u8))) else (jb_Model_isRefused_157 u6))) else (jb_Model_isRefused_157 u4))) else (jb_Model_isRefused_157 u)
noncomputable def jb_Model_isRefused_84 (b0 : Int32) (u : xk_St) : Option (Int32 × xk_St) :=
  jb_Model_isRefused_89 b0 (1 : Int32) u
noncomputable def fm_Model_isRefused (x0 : Int32) (u : xk_St) : Option (Int32 × xk_St) :=
  (xs_seq (fm_Model_in (x0.toInt64) (28 : Int64) (29 : Int64) u) fun a1 u2 => if a1 = (0 : Int32) then ((xs_seq (fm_Model_in (x0.toInt64) (37 : Int64) (38 : Int64) u2) fun a9 u10 => if a9 = (0 : Int32) then ((xs_seq (fm_Model_in (x0.toInt64) (42 : Int64) (43 : Int64) u10) fun a11 u12 => if a11 = (0 : Int32) then ((xs_seq (fm_Model_in (x0.toInt64) (56 : Int64) (57 : Int64) u12) fun a13 u14 => if a13 = (0 : Int32) then ((xs_seq (fm_Model_in (x0.toInt64) (67 : Int64) (68 : Int64) u14) fun a15 u16 => if a15 = (0 : Int32) then ((xs_seq (fm_Model_in (x0.toInt64) (91 : Int64) (102 : Int64) u16) fun a17 u18 => if a17 = (0 : Int32) then (jb_Model_isRefused_89 x0 (0 : Int32) u18) else (jb_Model_isRefused_84 x0 u18))) else (jb_Model_isRefused_84 x0 u16))) else (jb_Model_isRefused_84 x0 u14))) else (jb_Model_isRefused_84 x0 u12))) else (jb_Model_isRefused_84 x0 u10))) else (jb_Model_isRefused_84 x0 u2))
set_option maxHeartbeats 4000000 in
set_option maxRecDepth 100000 in
theorem wj_Model_isRefused_157 {p : Program} {l : Launch} {e : Env} {s : State} {m : MethodId} {args : Array Value} {below : List Frame} {meth : Method} {c : Code} {D : va_G} {ad : Nat → Nat} {ca : Nat → ClassId} {ads : List Nat} (htr : l.stackTraces = false) (C : xk_C D kx_cl (kx_ty ca) (kw_m ad ca) ads "ModuleHouseModel" prog_14_method_21_code 2 (some .boolean) p e s m args meth c) (hne : c.exceptionTable.isEmpty = true) {u' : xk_St} {r : Int32} {u : xk_St} {H : Heap} {locs : List Loc} {ls : Array Slot} (h : jb_Model_isRefused_157   u = some (r, u')) (hP : va_P D kx_cl (kw_m ad ca u) H) (hS : va_S (xk_A ads s.heap.size) s.heap H locs) (hl : lv_has ls 2 []) : W p l e rm_Model_isRefused s m args below meth c H locs 0 0 (xk_MQ below (xk_Qc D kx_cl (kw_m ad ca) ads (xo_i (.inl r)) u') args s (xk_A ads s.heap.size)) (F0 m 157 ls []) := by
  have hx := C.1.1
  have hb := C.1.2.1
  have hok := C.2.2.1
  unfold jb_Model_isRefused_157 at h
  refine lv_iconst (v := 1) hx hb dd_Model_isRefused_157 (by decide) ?_
  refine lv_goto (tgt := 162) hx hb dd_Model_isRefused_158 (by decide) ?_
  obtain ⟨rfl, rfl⟩ := xp_r h
  exact xr_zret C hP hS (by decide) dd_Model_isRefused_162
set_option maxHeartbeats 4000000 in
set_option maxRecDepth 100000 in
theorem wj_Model_isRefused_89 {p : Program} {l : Launch} {e : Env} {s : State} {m : MethodId} {args : Array Value} {below : List Frame} {meth : Method} {c : Code} {D : va_G} {ad : Nat → Nat} {ca : Nat → ClassId} {ads : List Nat} (htr : l.stackTraces = false) (C : xk_C D kx_cl (kx_ty ca) (kw_m ad ca) ads "ModuleHouseModel" prog_14_method_21_code 2 (some .boolean) p e s m args meth c) (hne : c.exceptionTable.isEmpty = true) {u' : xk_St} {r : Int32} {b0 : Int32} {s0 : Int32} {u : xk_St} {H : Heap} {locs : List Loc} {ls : Array Slot} (h : jb_Model_isRefused_89  b0 s0 u = some (r, u')) (hP : va_P D kx_cl (kw_m ad ca u) H) (hS : va_S (xk_A ads s.heap.size) s.heap H locs) (hl : lv_has ls 2 [(0, .int b0)]) : W p l e rm_Model_isRefused s m args below meth c H locs 0 0 (xk_MQ below (xk_Qc D kx_cl (kw_m ad ca) ads (xo_i (.inl r)) u') args s (xk_A ads s.heap.size)) (F0 m 89 ls [.int s0]) := by
  have hx := C.1.1
  have hb := C.1.2.1
  have hok := C.2.2.1
  unfold jb_Model_isRefused_89 at h
  refine lv_istore_n (lv' := [(1, .int s0), (0, .int b0)]) hx hb dd_Model_isRefused_89 rfl hl (by decide) rfl (fun ls hl => ?_)
  refine lv_iload_n hx hb dd_Model_isRefused_90 rfl (lv_at hl 0 rfl) ?_
  refine lv_if_ne (tgt := 157) hx hb dd_Model_isRefused_91 (by decide) (fun hc => ?_) (fun hc => ?_)
  · have h := xp_f hc h
    exact wj_Model_isRefused_157 htr C hne h hP hS (lv_sub hl [] rfl)
  · have h := xp_t hc h
    refine lv_iload_n hx hb dd_Model_isRefused_94 rfl (lv_at hl 1 rfl) ?_
    refine lv_i2l hx hb dd_Model_isRefused_95 rfl ?_
    refine lv_ldc2 (v := 139) hx hb C.1.2.2.2.1 (C.1.2.2.2.2 _ (xk_c9 (w := Jvm.Cond.constantLong "ModuleHouseModel" 243 139) 194 rfl rfl)) dd_Model_isRefused_96 ?_
    refine lv_ldc2 (v := 166) hx hb C.1.2.2.2.1 (C.1.2.2.2.2 _ (xk_c9 (w := Jvm.Cond.constantLong "ModuleHouseModel" 245 166) 195 rfl rfl)) dd_Model_isRefused_99 ?_
    obtain ⟨a3, u4, hq, h⟩ := xp_seq h
    refine xk_goesI (xr_S (As := [.long (b0.toInt64), .long (139 : Int64), .long (166 : Int64)]) (rest := []) C hP hS (ct_Model_in htr hok hq) kq_Model_219 ⟨rfl, rfl, Nat.le_of_ble_eq_true rfl, Nat.le_of_ble_eq_true rfl⟩ ⟨Nat.le_of_ble_eq_true rfl, Nat.le_of_ble_eq_true rfl⟩ hl.1 rfl rfl (Nat.le_of_ble_eq_true rfl) dd_Model_isRefused_102) hS (fun H locs hP hS => ?_)
    clear hq
    refine lv_if_ne (tgt := 157) hx hb dd_Model_isRefused_105 (by decide) (fun hc => ?_) (fun hc => ?_)
    · have h := xp_f hc h
      exact wj_Model_isRefused_157 htr C hne h hP hS (lv_sub hl [] rfl)
    · have h := xp_t hc h
      refine lv_iload_n hx hb dd_Model_isRefused_108 rfl (lv_at hl 1 rfl) ?_
      refine lv_i2l hx hb dd_Model_isRefused_109 rfl ?_
      refine lv_ldc2 (v := 168) hx hb C.1.2.2.2.1 (C.1.2.2.2.2 _ (xk_c9 (w := Jvm.Cond.constantLong "ModuleHouseModel" 247 168) 196 rfl rfl)) dd_Model_isRefused_110 ?_
      refine lv_ldc2 (v := 171) hx hb C.1.2.2.2.1 (C.1.2.2.2.2 _ (xk_c9 (w := Jvm.Cond.constantLong "ModuleHouseModel" 249 171) 197 rfl rfl)) dd_Model_isRefused_113 ?_
      obtain ⟨a5, u6, hq, h⟩ := xp_seq h
      refine xk_goesI (xr_S (As := [.long (b0.toInt64), .long (168 : Int64), .long (171 : Int64)]) (rest := []) C hP hS (ct_Model_in htr hok hq) kq_Model_219 ⟨rfl, rfl, Nat.le_of_ble_eq_true rfl, Nat.le_of_ble_eq_true rfl⟩ ⟨Nat.le_of_ble_eq_true rfl, Nat.le_of_ble_eq_true rfl⟩ hl.1 rfl rfl (Nat.le_of_ble_eq_true rfl) dd_Model_isRefused_116) hS (fun H locs hP hS => ?_)
      clear hq
      refine lv_if_ne (tgt := 157) hx hb dd_Model_isRefused_119 (by decide) (fun hc => ?_) (fun hc => ?_)
      · have h := xp_f hc h
        exact wj_Model_isRefused_157 htr C hne h hP hS (lv_sub hl [] rfl)
      · have h := xp_t hc h
        refine lv_iload_n hx hb dd_Model_isRefused_122 rfl (lv_at hl 1 rfl) ?_
        refine lv_i2l hx hb dd_Model_isRefused_123 rfl ?_
        refine lv_ldc2 (v := 174) hx hb C.1.2.2.2.1 (C.1.2.2.2.2 _ (xk_c9 (w := Jvm.Cond.constantLong "ModuleHouseModel" 251 174) 198 rfl rfl)) dd_Model_isRefused_124 ?_
        refine lv_ldc2 (v := 191) hx hb C.1.2.2.2.1 (C.1.2.2.2.2 _ (xk_c9 (w := Jvm.Cond.constantLong "ModuleHouseModel" 253 191) 199 rfl rfl)) dd_Model_isRefused_127 ?_
        obtain ⟨a7, u8, hq, h⟩ := xp_seq h
        refine xk_goesI (xr_S (As := [.long (b0.toInt64), .long (174 : Int64), .long (191 : Int64)]) (rest := []) C hP hS (ct_Model_in htr hok hq) kq_Model_219 ⟨rfl, rfl, Nat.le_of_ble_eq_true rfl, Nat.le_of_ble_eq_true rfl⟩ ⟨Nat.le_of_ble_eq_true rfl, Nat.le_of_ble_eq_true rfl⟩ hl.1 rfl rfl (Nat.le_of_ble_eq_true rfl) dd_Model_isRefused_130) hS (fun H locs hP hS => ?_)
        clear hq
        refine lv_if_ne (tgt := 157) hx hb dd_Model_isRefused_133 (by decide) (fun hc => ?_) (fun hc => ?_)
        · have h := xp_f hc h
          exact wj_Model_isRefused_157 htr C hne h hP hS (lv_sub hl [] rfl)
        · have h := xp_t hc h
          refine lv_iload_n hx hb dd_Model_isRefused_136 rfl (lv_at hl 1 rfl) ?_
          refine lv_sipush (v := 210) hx hb dd_Model_isRefused_137 (by decide) ?_
          refine lv_icmp_eq (tgt := 157) hx hb dd_Model_isRefused_140 (by decide) (fun hc => ?_) (fun hc => ?_)
          · have h := xp_t hc h
            exact wj_Model_isRefused_157 htr C hne h hP hS (lv_sub hl [] rfl)
          · have h := xp_f hc h
            refine lv_iload_n hx hb dd_Model_isRefused_143 rfl (lv_at hl 1 rfl) ?_
            refine lv_sipush (v := 252) hx hb dd_Model_isRefused_144 (by decide) ?_
            refine lv_icmp_eq (tgt := 157) hx hb dd_Model_isRefused_147 (by decide) (fun hc => ?_) (fun hc => ?_)
            · have h := xp_t hc h
              exact wj_Model_isRefused_157 htr C hne h hP hS (lv_sub hl [] rfl)
            · have h := xp_f hc h
              refine lv_iload_n hx hb dd_Model_isRefused_150 rfl (lv_at hl 1 rfl) ?_
              refine lv_sipush (v := 253) hx hb dd_Model_isRefused_151 (by decide) ?_
              refine lv_icmp_ne (tgt := 161) hx hb dd_Model_isRefused_154 (by decide) (fun hc => ?_) (fun hc => ?_)
              · have h := xp_f hc h
                refine lv_iconst (v := 0) hx hb dd_Model_isRefused_161 (by decide) ?_
                obtain ⟨rfl, rfl⟩ := xp_r h
                exact xr_zret C hP hS (by decide) dd_Model_isRefused_162
              · have h := xp_t hc h
                exact wj_Model_isRefused_157 htr C hne h hP hS (lv_sub hl [] rfl)
set_option maxHeartbeats 4000000 in
set_option maxRecDepth 100000 in
theorem wj_Model_isRefused_84 {p : Program} {l : Launch} {e : Env} {s : State} {m : MethodId} {args : Array Value} {below : List Frame} {meth : Method} {c : Code} {D : va_G} {ad : Nat → Nat} {ca : Nat → ClassId} {ads : List Nat} (htr : l.stackTraces = false) (C : xk_C D kx_cl (kx_ty ca) (kw_m ad ca) ads "ModuleHouseModel" prog_14_method_21_code 2 (some .boolean) p e s m args meth c) (hne : c.exceptionTable.isEmpty = true) {u' : xk_St} {r : Int32} {b0 : Int32} {u : xk_St} {H : Heap} {locs : List Loc} {ls : Array Slot} (h : jb_Model_isRefused_84  b0 u = some (r, u')) (hP : va_P D kx_cl (kw_m ad ca u) H) (hS : va_S (xk_A ads s.heap.size) s.heap H locs) (hl : lv_has ls 2 [(0, .int b0)]) : W p l e rm_Model_isRefused s m args below meth c H locs 0 0 (xk_MQ below (xk_Qc D kx_cl (kw_m ad ca) ads (xo_i (.inl r)) u') args s (xk_A ads s.heap.size)) (F0 m 84 ls []) := by
  have hx := C.1.1
  have hb := C.1.2.1
  have hok := C.2.2.1
  unfold jb_Model_isRefused_84 at h
  refine lv_iconst (v := 1) hx hb dd_Model_isRefused_84 (by decide) ?_
  refine lv_goto (tgt := 89) hx hb dd_Model_isRefused_85 (by decide) ?_
  exact wj_Model_isRefused_89 htr C hne h hP hS (lv_sub hl [0] rfl)
set_option maxHeartbeats 4000000 in
set_option maxRecDepth 100000 in
theorem ct_Model_isRefused {l : Launch} {D : va_G} {ad : Nat → Nat} {ca : Nat → ClassId} {ads : List Nat} (htr : l.stackTraces = false) (hok : xk_ok (kw_m ad ca) ads) {x0 : Int32} {u u' : xk_St} {r : Int32} (h : fm_Model_isRefused x0 u = some (r, u')) :
    ∀ sz, xk_Met l ⟨"ModuleHouseModel", "isRefused", "(I)Z"⟩ (Cond.code ⟨"ModuleHouseModel", "isRefused", "(I)Z"⟩ prog_14_method_21_code 2 (some .boolean) :: xk_gd) rm_Model_isRefused (xk_Pc D kx_cl (kx_ty ca) (kw_m ad ca) ads xk_F sz [.int x0] u) (xk_Qc D kx_cl (kw_m ad ca) ads (xo_i (.inl r)) u') (xk_A ads sz) := by
  unfold fm_Model_isRefused at h
  refine xk_con (by decide) htr hok (Nat.le_of_ble_eq_true rfl) (fun p e s m below meth c ls C hne hl hP => ?_)
  have hx := C.1.1
  have hb := C.1.2.1
  have hS : va_S (xk_A ads s.heap.size) s.heap s.heap [] := va_S.rf
  have hl : lv_has ls 2 [(0, .int x0)] := hl
  refine lv_iload_n hx hb dd_Model_isRefused_0 rfl (lv_at hl 0 rfl) ?_
  refine lv_i2l hx hb dd_Model_isRefused_1 rfl ?_
  refine lv_ldc2 (v := 28) hx hb C.1.2.2.2.1 (C.1.2.2.2.2 _ (xk_c9 (w := Jvm.Cond.constantLong "ModuleHouseModel" 215 28) 182 rfl rfl)) dd_Model_isRefused_2 ?_
  refine lv_ldc2 (v := 29) hx hb C.1.2.2.2.1 (C.1.2.2.2.2 _ (xk_c9 (w := Jvm.Cond.constantLong "ModuleHouseModel" 217 29) 183 rfl rfl)) dd_Model_isRefused_5 ?_
  obtain ⟨a1, u2, hq, h⟩ := xp_seq h
  refine xk_goesI (xr_S (As := [.long (x0.toInt64), .long (28 : Int64), .long (29 : Int64)]) (rest := []) C hP hS (ct_Model_in htr hok hq) kq_Model_219 ⟨rfl, rfl, Nat.le_of_ble_eq_true rfl, Nat.le_of_ble_eq_true rfl⟩ ⟨Nat.le_of_ble_eq_true rfl, Nat.le_of_ble_eq_true rfl⟩ hl.1 rfl rfl (Nat.le_of_ble_eq_true rfl) dd_Model_isRefused_8) hS (fun H locs hP hS => ?_)
  clear hq
  refine lv_if_ne (tgt := 84) hx hb dd_Model_isRefused_11 (by decide) (fun hc => ?_) (fun hc => ?_)
  · have h := xp_f hc h
    exact wj_Model_isRefused_84 htr C hne h hP hS (lv_sub hl [0] rfl)
  · have h := xp_t hc h
    refine lv_iload_n hx hb dd_Model_isRefused_14 rfl (lv_at hl 0 rfl) ?_
    refine lv_i2l hx hb dd_Model_isRefused_15 rfl ?_
    refine lv_ldc2 (v := 37) hx hb C.1.2.2.2.1 (C.1.2.2.2.2 _ (xk_c9 (w := Jvm.Cond.constantLong "ModuleHouseModel" 223 37) 184 rfl rfl)) dd_Model_isRefused_16 ?_
    refine lv_ldc2 (v := 38) hx hb C.1.2.2.2.1 (C.1.2.2.2.2 _ (xk_c9 (w := Jvm.Cond.constantLong "ModuleHouseModel" 225 38) 185 rfl rfl)) dd_Model_isRefused_19 ?_
    obtain ⟨a9, u10, hq, h⟩ := xp_seq h
    refine xk_goesI (xr_S (As := [.long (x0.toInt64), .long (37 : Int64), .long (38 : Int64)]) (rest := []) C hP hS (ct_Model_in htr hok hq) kq_Model_219 ⟨rfl, rfl, Nat.le_of_ble_eq_true rfl, Nat.le_of_ble_eq_true rfl⟩ ⟨Nat.le_of_ble_eq_true rfl, Nat.le_of_ble_eq_true rfl⟩ hl.1 rfl rfl (Nat.le_of_ble_eq_true rfl) dd_Model_isRefused_22) hS (fun H locs hP hS => ?_)
    clear hq
    refine lv_if_ne (tgt := 84) hx hb dd_Model_isRefused_25 (by decide) (fun hc => ?_) (fun hc => ?_)
    · have h := xp_f hc h
      exact wj_Model_isRefused_84 htr C hne h hP hS (lv_sub hl [0] rfl)
    · have h := xp_t hc h
      refine lv_iload_n hx hb dd_Model_isRefused_28 rfl (lv_at hl 0 rfl) ?_
      refine lv_i2l hx hb dd_Model_isRefused_29 rfl ?_
      refine lv_ldc2 (v := 42) hx hb C.1.2.2.2.1 (C.1.2.2.2.2 _ (xk_c9 (w := Jvm.Cond.constantLong "ModuleHouseModel" 227 42) 186 rfl rfl)) dd_Model_isRefused_30 ?_
      refine lv_ldc2 (v := 43) hx hb C.1.2.2.2.1 (C.1.2.2.2.2 _ (xk_c9 (w := Jvm.Cond.constantLong "ModuleHouseModel" 229 43) 187 rfl rfl)) dd_Model_isRefused_33 ?_
      obtain ⟨a11, u12, hq, h⟩ := xp_seq h
      refine xk_goesI (xr_S (As := [.long (x0.toInt64), .long (42 : Int64), .long (43 : Int64)]) (rest := []) C hP hS (ct_Model_in htr hok hq) kq_Model_219 ⟨rfl, rfl, Nat.le_of_ble_eq_true rfl, Nat.le_of_ble_eq_true rfl⟩ ⟨Nat.le_of_ble_eq_true rfl, Nat.le_of_ble_eq_true rfl⟩ hl.1 rfl rfl (Nat.le_of_ble_eq_true rfl) dd_Model_isRefused_36) hS (fun H locs hP hS => ?_)
      clear hq
      refine lv_if_ne (tgt := 84) hx hb dd_Model_isRefused_39 (by decide) (fun hc => ?_) (fun hc => ?_)
      · have h := xp_f hc h
        exact wj_Model_isRefused_84 htr C hne h hP hS (lv_sub hl [0] rfl)
      · have h := xp_t hc h
        refine lv_iload_n hx hb dd_Model_isRefused_42 rfl (lv_at hl 0 rfl) ?_
        refine lv_i2l hx hb dd_Model_isRefused_43 rfl ?_
        refine lv_ldc2 (v := 56) hx hb C.1.2.2.2.1 (C.1.2.2.2.2 _ (xk_c9 (w := Jvm.Cond.constantLong "ModuleHouseModel" 231 56) 188 rfl rfl)) dd_Model_isRefused_44 ?_
        refine lv_ldc2 (v := 57) hx hb C.1.2.2.2.1 (C.1.2.2.2.2 _ (xk_c9 (w := Jvm.Cond.constantLong "ModuleHouseModel" 233 57) 189 rfl rfl)) dd_Model_isRefused_47 ?_
        obtain ⟨a13, u14, hq, h⟩ := xp_seq h
        refine xk_goesI (xr_S (As := [.long (x0.toInt64), .long (56 : Int64), .long (57 : Int64)]) (rest := []) C hP hS (ct_Model_in htr hok hq) kq_Model_219 ⟨rfl, rfl, Nat.le_of_ble_eq_true rfl, Nat.le_of_ble_eq_true rfl⟩ ⟨Nat.le_of_ble_eq_true rfl, Nat.le_of_ble_eq_true rfl⟩ hl.1 rfl rfl (Nat.le_of_ble_eq_true rfl) dd_Model_isRefused_50) hS (fun H locs hP hS => ?_)
        clear hq
        refine lv_if_ne (tgt := 84) hx hb dd_Model_isRefused_53 (by decide) (fun hc => ?_) (fun hc => ?_)
        · have h := xp_f hc h
          exact wj_Model_isRefused_84 htr C hne h hP hS (lv_sub hl [0] rfl)
        · have h := xp_t hc h
          refine lv_iload_n hx hb dd_Model_isRefused_56 rfl (lv_at hl 0 rfl) ?_
          refine lv_i2l hx hb dd_Model_isRefused_57 rfl ?_
          refine lv_ldc2 (v := 67) hx hb C.1.2.2.2.1 (C.1.2.2.2.2 _ (xk_c9 (w := Jvm.Cond.constantLong "ModuleHouseModel" 235 67) 190 rfl rfl)) dd_Model_isRefused_58 ?_
          refine lv_ldc2 (v := 68) hx hb C.1.2.2.2.1 (C.1.2.2.2.2 _ (xk_c9 (w := Jvm.Cond.constantLong "ModuleHouseModel" 237 68) 191 rfl rfl)) dd_Model_isRefused_61 ?_
          obtain ⟨a15, u16, hq, h⟩ := xp_seq h
          refine xk_goesI (xr_S (As := [.long (x0.toInt64), .long (67 : Int64), .long (68 : Int64)]) (rest := []) C hP hS (ct_Model_in htr hok hq) kq_Model_219 ⟨rfl, rfl, Nat.le_of_ble_eq_true rfl, Nat.le_of_ble_eq_true rfl⟩ ⟨Nat.le_of_ble_eq_true rfl, Nat.le_of_ble_eq_true rfl⟩ hl.1 rfl rfl (Nat.le_of_ble_eq_true rfl) dd_Model_isRefused_64) hS (fun H locs hP hS => ?_)
          clear hq
          refine lv_if_ne (tgt := 84) hx hb dd_Model_isRefused_67 (by decide) (fun hc => ?_) (fun hc => ?_)
          · have h := xp_f hc h
            exact wj_Model_isRefused_84 htr C hne h hP hS (lv_sub hl [0] rfl)
          · have h := xp_t hc h
            refine lv_iload_n hx hb dd_Model_isRefused_70 rfl (lv_at hl 0 rfl) ?_
            refine lv_i2l hx hb dd_Model_isRefused_71 rfl ?_
            refine lv_ldc2 (v := 91) hx hb C.1.2.2.2.1 (C.1.2.2.2.2 _ (xk_c9 (w := Jvm.Cond.constantLong "ModuleHouseModel" 239 91) 192 rfl rfl)) dd_Model_isRefused_72 ?_
            refine lv_ldc2 (v := 102) hx hb C.1.2.2.2.1 (C.1.2.2.2.2 _ (xk_c9 (w := Jvm.Cond.constantLong "ModuleHouseModel" 241 102) 193 rfl rfl)) dd_Model_isRefused_75 ?_
            obtain ⟨a17, u18, hq, h⟩ := xp_seq h
            refine xk_goesI (xr_S (As := [.long (x0.toInt64), .long (91 : Int64), .long (102 : Int64)]) (rest := []) C hP hS (ct_Model_in htr hok hq) kq_Model_219 ⟨rfl, rfl, Nat.le_of_ble_eq_true rfl, Nat.le_of_ble_eq_true rfl⟩ ⟨Nat.le_of_ble_eq_true rfl, Nat.le_of_ble_eq_true rfl⟩ hl.1 rfl rfl (Nat.le_of_ble_eq_true rfl) dd_Model_isRefused_78) hS (fun H locs hP hS => ?_)
            clear hq
            refine lv_if_eq (tgt := 88) hx hb dd_Model_isRefused_81 (by decide) (fun hc => ?_) (fun hc => ?_)
            · have h := xp_t hc h
              refine lv_iconst (v := 0) hx hb dd_Model_isRefused_88 (by decide) ?_
              exact wj_Model_isRefused_89 htr C hne h hP hS (lv_sub hl [0] rfl)
            · have h := xp_f hc h
              exact wj_Model_isRefused_84 htr C hne h hP hS (lv_sub hl [0] rfl)
abbrev rm_Model_pair : Room := { frames := 4, cells := 1, slots := 6, locals := 65 }
noncomputable def fm_Model_pair (fu : Nat) (u : xk_St) : Option (Unit × xk_St) :=
  (xs_seq (fm_Model_number fu u) fun a1 u2 => xs_let (xs_J u2 0 a1) fun u3 => xs_seq (fm_Model_number fu u3) fun a4 u5 => xs_let (xs_J u5 1 a4) fun u6 => some ((()), u6))
set_option maxHeartbeats 4000000 in
set_option maxRecDepth 100000 in
theorem ct_Model_pair {l : Launch} {D : va_G} {ad : Nat → Nat} {ca : Nat → ClassId} {ads : List Nat} (htr : l.stackTraces = false) (hok : xk_ok (kw_m ad ca) ads) {fu : Nat} {u u' : xk_St} {r : Unit} (h : fm_Model_pair fu u = some (r, u')) :
    ∀ sz, xk_Met l ⟨"ModuleHouseModel", "pair", "()V"⟩ (Cond.code ⟨"ModuleHouseModel", "pair", "()V"⟩ prog_14_method_24_code 1 none :: xk_gd) rm_Model_pair (xk_Pc D kx_cl (kx_ty ca) (kw_m ad ca) ads xk_F sz [.ref (ad 0)] u) (xk_Qc D kx_cl (kw_m ad ca) ads (xo_v (.inl r)) u') (xk_A ads sz) := by
  unfold fm_Model_pair at h
  refine xk_con (by decide) htr hok (Nat.le_of_ble_eq_true rfl) (fun p e s m below meth c ls C hne hl hP => ?_)
  have hx := C.1.1
  have hb := C.1.2.1
  have hS : va_S (xk_A ads s.heap.size) s.heap s.heap [] := va_S.rf
  have hl : lv_has ls 1 [(0, .ref (ad 0))] := hl
  refine lv_aload_n hx hb dd_Model_pair_0 rfl (lv_at hl 0 rfl) ?_
  refine lv_aload_n hx hb dd_Model_pair_1 rfl (lv_at hl 0 rfl) ?_
  obtain ⟨a1, u2, hq, h⟩ := xp_seq h
  refine xk_goesL (xr_V (As := []) (rest := [.ref (ad 0)]) C hP hS (ct_Model_number htr hok hq) kq_Model_295 0 11 rfl rfl ⟨rfl, rfl, Nat.le_of_ble_eq_true rfl, Nat.le_of_ble_eq_true rfl⟩ ⟨Nat.le_of_ble_eq_true rfl, Nat.le_of_ble_eq_true rfl⟩ hl.1 rfl rfl (Nat.le_of_ble_eq_true rfl) dd_Model_pair_2) hS (fun H locs hP hS => ?_)
  clear hq
  refine pf_m_Model_0_x C hP hS dd_Model_pair_5 (fun H locs hP hS => ?_)
  obtain ⟨u3, eu3, h⟩ := xp_let h
  rw [← eu3] at hP
  refine lv_aload_n hx hb dd_Model_pair_8 rfl (lv_at hl 0 rfl) ?_
  refine lv_aload_n hx hb dd_Model_pair_9 rfl (lv_at hl 0 rfl) ?_
  obtain ⟨a4, u5, hq, h⟩ := xp_seq h
  refine xk_goesL (xr_V (As := []) (rest := [.ref (ad 0)]) C hP hS (ct_Model_number htr hok hq) kq_Model_295 0 11 rfl rfl ⟨rfl, rfl, Nat.le_of_ble_eq_true rfl, Nat.le_of_ble_eq_true rfl⟩ ⟨Nat.le_of_ble_eq_true rfl, Nat.le_of_ble_eq_true rfl⟩ hl.1 rfl rfl (Nat.le_of_ble_eq_true rfl) dd_Model_pair_10) hS (fun H locs hP hS => ?_)
  clear hq
  refine pf_m_Model_0_y C hP hS dd_Model_pair_13 (fun H locs hP hS => ?_)
  obtain ⟨u6, eu6, h⟩ := xp_let h
  rw [← eu6] at hP
  obtain ⟨rfl, rfl⟩ := xp_r h
  exact xr_vret C hP hS dd_Model_pair_16
abbrev rm_Model_isPlain : Room := { frames := 2, cells := 1, slots := 6, locals := 25 }
noncomputable def jb_Model_isPlain_128 (u : xk_St) : Option (Int32 × xk_St) :=
  some ((1 : Int32), u)
noncomputable def jb_Model_isPlain_39 (b0 : Int32) (s0 : Int32) (u : xk_St) : Option (Int32 × xk_St) :=
  if s0 = (0 : Int32) then ((xs_seq (fm_Model_in (b0.toInt64) (69 : Int64) (90 : Int64) u) fun a1 u2 => if a1 = (0 : Int32) then ((xs_seq (fm_Model_in (b0.toInt64) (103 : Int64) (138 : Int64) u2) fun a3 u4 => if a3 = (0 : Int32) then (if b0 = (167 : Int32) then (jb_Model_isPlain_128 u4) else (if b0 = (172 : Int32) then (jb_Model_isPlain_128 u4) else (if b0 = (173 : Int32) then (jb_Model_isPlain_128 u4) else ((xs_seq (fm_Model_in (b0.toInt64) (192 : Int64) (196 : Int64) u4) fun a5 u6 => if a5 = (0 : Int32) then (if b0 = (209 : Int32) then (jb_Model_isPlain_128 u6) else (if b0 = (211 : Int32) then (jb_Model_isPlain_128 u6) else (if b0 = (212 : Int32) then (jb_Model_isPlain_128 u6) else (some ((0 : Int32), u6))))) else (jb_Model_isPlain_128 u6)))))) else (jb_Model_isPlain_128 u4))) else (jb_Model_isPlain_128 u2))) else (jb_Model_isPlain_128 u)
noncomputable def jb_Model_isPlain_34 (b0 : Int32) (u : xk_St) : Option (Int32 × xk_St) :=
  jb_Model_isPlain_39 b0 (1 : Int32) u
noncomputable def fm_Model_isPlain (x0 : Int32) (u : xk_St) : Option (Int32 × xk_St) :=
  if x0 < (2 : Int32) then (jb_Model_isPlain_34 x0 u) else (if x0 = (5 : Int32) then (jb_Model_isPlain_34 x0 u) else (if x0 = (11 : Int32) then (jb_Model_isPlain_34 x0 u) else (if x0 = (15 : Int32) then (jb_Model_isPlain_34 x0 u) else (if x0 = (26 : Int32) then (jb_Model_isPlain_34 x0 u) else (if x0 = (27 : Int32) then (jb_Model_isPlain_34 x0 u) else (jb_Model_isPlain_39 x0 (0 : Int32) u))))))
set_option maxHeartbeats 4000000 in
set_option maxRecDepth 100000 in
theorem wj_Model_isPlain_128 {p : Program} {l : Launch} {e : Env} {s : State} {m : MethodId} {args : Array Value} {below : List Frame} {meth : Method} {c : Code} {D : va_G} {ad : Nat → Nat} {ca : Nat → ClassId} {ads : List Nat} (htr : l.stackTraces = false) (C : xk_C D kx_cl (kx_ty ca) (kw_m ad ca) ads "ModuleHouseModel" prog_14_method_22_code 2 (some .boolean) p e s m args meth c) (hne : c.exceptionTable.isEmpty = true) {u' : xk_St} {r : Int32} {u : xk_St} {H : Heap} {locs : List Loc} {ls : Array Slot} (h : jb_Model_isPlain_128   u = some (r, u')) (hP : va_P D kx_cl (kw_m ad ca u) H) (hS : va_S (xk_A ads s.heap.size) s.heap H locs) (hl : lv_has ls 2 []) : W p l e rm_Model_isPlain s m args below meth c H locs 0 0 (xk_MQ below (xk_Qc D kx_cl (kw_m ad ca) ads (xo_i (.inl r)) u') args s (xk_A ads s.heap.size)) (F0 m 128 ls []) := by
  have hx := C.1.1
  have hb := C.1.2.1
  have hok := C.2.2.1
  unfold jb_Model_isPlain_128 at h
  refine lv_iconst (v := 1) hx hb dd_Model_isPlain_128 (by decide) ?_
  refine lv_goto (tgt := 133) hx hb dd_Model_isPlain_129 (by decide) ?_
  obtain ⟨rfl, rfl⟩ := xp_r h
  exact xr_zret C hP hS (by decide) dd_Model_isPlain_133
set_option maxHeartbeats 4000000 in
set_option maxRecDepth 100000 in
theorem wj_Model_isPlain_39 {p : Program} {l : Launch} {e : Env} {s : State} {m : MethodId} {args : Array Value} {below : List Frame} {meth : Method} {c : Code} {D : va_G} {ad : Nat → Nat} {ca : Nat → ClassId} {ads : List Nat} (htr : l.stackTraces = false) (C : xk_C D kx_cl (kx_ty ca) (kw_m ad ca) ads "ModuleHouseModel" prog_14_method_22_code 2 (some .boolean) p e s m args meth c) (hne : c.exceptionTable.isEmpty = true) {u' : xk_St} {r : Int32} {b0 : Int32} {s0 : Int32} {u : xk_St} {H : Heap} {locs : List Loc} {ls : Array Slot} (h : jb_Model_isPlain_39  b0 s0 u = some (r, u')) (hP : va_P D kx_cl (kw_m ad ca u) H) (hS : va_S (xk_A ads s.heap.size) s.heap H locs) (hl : lv_has ls 2 [(0, .int b0)]) : W p l e rm_Model_isPlain s m args below meth c H locs 0 0 (xk_MQ below (xk_Qc D kx_cl (kw_m ad ca) ads (xo_i (.inl r)) u') args s (xk_A ads s.heap.size)) (F0 m 39 ls [.int s0]) := by
  have hx := C.1.1
  have hb := C.1.2.1
  have hok := C.2.2.1
  unfold jb_Model_isPlain_39 at h
  refine lv_istore_n (lv' := [(1, .int s0), (0, .int b0)]) hx hb dd_Model_isPlain_39 rfl hl (by decide) rfl (fun ls hl => ?_)
  refine lv_iload_n hx hb dd_Model_isPlain_40 rfl (lv_at hl 0 rfl) ?_
  refine lv_if_ne (tgt := 128) hx hb dd_Model_isPlain_41 (by decide) (fun hc => ?_) (fun hc => ?_)
  · have h := xp_f hc h
    exact wj_Model_isPlain_128 htr C hne h hP hS (lv_sub hl [] rfl)
  · have h := xp_t hc h
    refine lv_iload_n hx hb dd_Model_isPlain_44 rfl (lv_at hl 1 rfl) ?_
    refine lv_i2l hx hb dd_Model_isPlain_45 rfl ?_
    refine lv_ldc2 (v := 69) hx hb C.1.2.2.2.1 (C.1.2.2.2.2 _ (xk_c9 (w := Jvm.Cond.constantLong "ModuleHouseModel" 255 69) 235 rfl rfl)) dd_Model_isPlain_46 ?_
    refine lv_ldc2 (v := 90) hx hb C.1.2.2.2.1 (C.1.2.2.2.2 _ (xk_c9 (w := Jvm.Cond.constantLong "ModuleHouseModel" 257 90) 236 rfl rfl)) dd_Model_isPlain_49 ?_
    obtain ⟨a1, u2, hq, h⟩ := xp_seq h
    refine xk_goesI (xr_S (As := [.long (b0.toInt64), .long (69 : Int64), .long (90 : Int64)]) (rest := []) C hP hS (ct_Model_in htr hok hq) kq_Model_219 ⟨rfl, rfl, Nat.le_of_ble_eq_true rfl, Nat.le_of_ble_eq_true rfl⟩ ⟨Nat.le_of_ble_eq_true rfl, Nat.le_of_ble_eq_true rfl⟩ hl.1 rfl rfl (Nat.le_of_ble_eq_true rfl) dd_Model_isPlain_52) hS (fun H locs hP hS => ?_)
    clear hq
    refine lv_if_ne (tgt := 128) hx hb dd_Model_isPlain_55 (by decide) (fun hc => ?_) (fun hc => ?_)
    · have h := xp_f hc h
      exact wj_Model_isPlain_128 htr C hne h hP hS (lv_sub hl [] rfl)
    · have h := xp_t hc h
      refine lv_iload_n hx hb dd_Model_isPlain_58 rfl (lv_at hl 1 rfl) ?_
      refine lv_i2l hx hb dd_Model_isPlain_59 rfl ?_
      refine lv_ldc2 (v := 103) hx hb C.1.2.2.2.1 (C.1.2.2.2.2 _ (xk_c9 (w := Jvm.Cond.constantLong "ModuleHouseModel" 259 103) 237 rfl rfl)) dd_Model_isPlain_60 ?_
      refine lv_ldc2 (v := 138) hx hb C.1.2.2.2.1 (C.1.2.2.2.2 _ (xk_c9 (w := Jvm.Cond.constantLong "ModuleHouseModel" 261 138) 238 rfl rfl)) dd_Model_isPlain_63 ?_
      obtain ⟨a3, u4, hq, h⟩ := xp_seq h
      refine xk_goesI (xr_S (As := [.long (b0.toInt64), .long (103 : Int64), .long (138 : Int64)]) (rest := []) C hP hS (ct_Model_in htr hok hq) kq_Model_219 ⟨rfl, rfl, Nat.le_of_ble_eq_true rfl, Nat.le_of_ble_eq_true rfl⟩ ⟨Nat.le_of_ble_eq_true rfl, Nat.le_of_ble_eq_true rfl⟩ hl.1 rfl rfl (Nat.le_of_ble_eq_true rfl) dd_Model_isPlain_66) hS (fun H locs hP hS => ?_)
      clear hq
      refine lv_if_ne (tgt := 128) hx hb dd_Model_isPlain_69 (by decide) (fun hc => ?_) (fun hc => ?_)
      · have h := xp_f hc h
        exact wj_Model_isPlain_128 htr C hne h hP hS (lv_sub hl [] rfl)
      · have h := xp_t hc h
        refine lv_iload_n hx hb dd_Model_isPlain_72 rfl (lv_at hl 1 rfl) ?_
        refine lv_sipush (v := 167) hx hb dd_Model_isPlain_73 (by decide) ?_
        refine lv_icmp_eq (tgt := 128) hx hb dd_Model_isPlain_76 (by decide) (fun hc => ?_) (fun hc => ?_)
        · have h := xp_t hc h
          exact wj_Model_isPlain_128 htr C hne h hP hS (lv_sub hl [] rfl)
        · have h := xp_f hc h
          refine lv_iload_n hx hb dd_Model_isPlain_79 rfl (lv_at hl 1 rfl) ?_
          refine lv_sipush (v := 172) hx hb dd_Model_isPlain_80 (by decide) ?_
          refine lv_icmp_eq (tgt := 128) hx hb dd_Model_isPlain_83 (by decide) (fun hc => ?_) (fun hc => ?_)
          · have h := xp_t hc h
            exact wj_Model_isPlain_128 htr C hne h hP hS (lv_sub hl [] rfl)
          · have h := xp_f hc h
            refine lv_iload_n hx hb dd_Model_isPlain_86 rfl (lv_at hl 1 rfl) ?_
            refine lv_sipush (v := 173) hx hb dd_Model_isPlain_87 (by decide) ?_
            refine lv_icmp_eq (tgt := 128) hx hb dd_Model_isPlain_90 (by decide) (fun hc => ?_) (fun hc => ?_)
            · have h := xp_t hc h
              exact wj_Model_isPlain_128 htr C hne h hP hS (lv_sub hl [] rfl)
            · have h := xp_f hc h
              refine lv_iload_n hx hb dd_Model_isPlain_93 rfl (lv_at hl 1 rfl) ?_
              refine lv_i2l hx hb dd_Model_isPlain_94 rfl ?_
              refine lv_ldc2 (v := 192) hx hb C.1.2.2.2.1 (C.1.2.2.2.2 _ (xk_c9 (w := Jvm.Cond.constantLong "ModuleHouseModel" 263 192) 239 rfl rfl)) dd_Model_isPlain_95 ?_
              refine lv_ldc2 (v := 196) hx hb C.1.2.2.2.1 (C.1.2.2.2.2 _ (xk_c10 (w := Jvm.Cond.constantLong "ModuleHouseModel" 265 196) 0 rfl rfl)) dd_Model_isPlain_98 ?_
              obtain ⟨a5, u6, hq, h⟩ := xp_seq h
              refine xk_goesI (xr_S (As := [.long (b0.toInt64), .long (192 : Int64), .long (196 : Int64)]) (rest := []) C hP hS (ct_Model_in htr hok hq) kq_Model_219 ⟨rfl, rfl, Nat.le_of_ble_eq_true rfl, Nat.le_of_ble_eq_true rfl⟩ ⟨Nat.le_of_ble_eq_true rfl, Nat.le_of_ble_eq_true rfl⟩ hl.1 rfl rfl (Nat.le_of_ble_eq_true rfl) dd_Model_isPlain_101) hS (fun H locs hP hS => ?_)
              clear hq
              refine lv_if_ne (tgt := 128) hx hb dd_Model_isPlain_104 (by decide) (fun hc => ?_) (fun hc => ?_)
              · have h := xp_f hc h
                exact wj_Model_isPlain_128 htr C hne h hP hS (lv_sub hl [] rfl)
              · have h := xp_t hc h
                refine lv_iload_n hx hb dd_Model_isPlain_107 rfl (lv_at hl 1 rfl) ?_
                refine lv_sipush (v := 209) hx hb dd_Model_isPlain_108 (by decide) ?_
                refine lv_icmp_eq (tgt := 128) hx hb dd_Model_isPlain_111 (by decide) (fun hc => ?_) (fun hc => ?_)
                · have h := xp_t hc h
                  exact wj_Model_isPlain_128 htr C hne h hP hS (lv_sub hl [] rfl)
                · have h := xp_f hc h
                  refine lv_iload_n hx hb dd_Model_isPlain_114 rfl (lv_at hl 1 rfl) ?_
                  refine lv_sipush (v := 211) hx hb dd_Model_isPlain_115 (by decide) ?_
                  refine lv_icmp_eq (tgt := 128) hx hb dd_Model_isPlain_118 (by decide) (fun hc => ?_) (fun hc => ?_)
                  · have h := xp_t hc h
                    exact wj_Model_isPlain_128 htr C hne h hP hS (lv_sub hl [] rfl)
                  · have h := xp_f hc h
                    refine lv_iload_n hx hb dd_Model_isPlain_121 rfl (lv_at hl 1 rfl) ?_
                    refine lv_sipush (v := 212) hx hb dd_Model_isPlain_122 (by decide) ?_
                    refine lv_icmp_ne (tgt := 132) hx hb dd_Model_isPlain_125 (by decide) (fun hc => ?_) (fun hc => ?_)
                    · have h := xp_f hc h
                      refine lv_iconst (v := 0) hx hb dd_Model_isPlain_132 (by decide) ?_
                      obtain ⟨rfl, rfl⟩ := xp_r h
                      exact xr_zret C hP hS (by decide) dd_Model_isPlain_133
                    · have h := xp_t hc h
                      exact wj_Model_isPlain_128 htr C hne h hP hS (lv_sub hl [] rfl)
set_option maxHeartbeats 4000000 in
set_option maxRecDepth 100000 in
theorem wj_Model_isPlain_34 {p : Program} {l : Launch} {e : Env} {s : State} {m : MethodId} {args : Array Value} {below : List Frame} {meth : Method} {c : Code} {D : va_G} {ad : Nat → Nat} {ca : Nat → ClassId} {ads : List Nat} (htr : l.stackTraces = false) (C : xk_C D kx_cl (kx_ty ca) (kw_m ad ca) ads "ModuleHouseModel" prog_14_method_22_code 2 (some .boolean) p e s m args meth c) (hne : c.exceptionTable.isEmpty = true) {u' : xk_St} {r : Int32} {b0 : Int32} {u : xk_St} {H : Heap} {locs : List Loc} {ls : Array Slot} (h : jb_Model_isPlain_34  b0 u = some (r, u')) (hP : va_P D kx_cl (kw_m ad ca u) H) (hS : va_S (xk_A ads s.heap.size) s.heap H locs) (hl : lv_has ls 2 [(0, .int b0)]) : W p l e rm_Model_isPlain s m args below meth c H locs 0 0 (xk_MQ below (xk_Qc D kx_cl (kw_m ad ca) ads (xo_i (.inl r)) u') args s (xk_A ads s.heap.size)) (F0 m 34 ls []) := by
  have hx := C.1.1
  have hb := C.1.2.1
  have hok := C.2.2.1
  unfold jb_Model_isPlain_34 at h
  refine lv_iconst (v := 1) hx hb dd_Model_isPlain_34 (by decide) ?_
  refine lv_goto (tgt := 39) hx hb dd_Model_isPlain_35 (by decide) ?_
  exact wj_Model_isPlain_39 htr C hne h hP hS (lv_sub hl [0] rfl)
set_option maxHeartbeats 4000000 in
set_option maxRecDepth 100000 in
theorem ct_Model_isPlain {l : Launch} {D : va_G} {ad : Nat → Nat} {ca : Nat → ClassId} {ads : List Nat} (htr : l.stackTraces = false) (hok : xk_ok (kw_m ad ca) ads) {x0 : Int32} {u u' : xk_St} {r : Int32} (h : fm_Model_isPlain x0 u = some (r, u')) :
    ∀ sz, xk_Met l ⟨"ModuleHouseModel", "isPlain", "(I)Z"⟩ (Cond.code ⟨"ModuleHouseModel", "isPlain", "(I)Z"⟩ prog_14_method_22_code 2 (some .boolean) :: xk_gd) rm_Model_isPlain (xk_Pc D kx_cl (kx_ty ca) (kw_m ad ca) ads xk_F sz [.int x0] u) (xk_Qc D kx_cl (kw_m ad ca) ads (xo_i (.inl r)) u') (xk_A ads sz) := by
  unfold fm_Model_isPlain at h
  refine xk_con (by decide) htr hok (Nat.le_of_ble_eq_true rfl) (fun p e s m below meth c ls C hne hl hP => ?_)
  have hx := C.1.1
  have hb := C.1.2.1
  have hS : va_S (xk_A ads s.heap.size) s.heap s.heap [] := va_S.rf
  have hl : lv_has ls 2 [(0, .int x0)] := hl
  refine lv_iload_n hx hb dd_Model_isPlain_0 rfl (lv_at hl 0 rfl) ?_
  refine lv_iconst (v := 2) hx hb dd_Model_isPlain_1 (by decide) ?_
  refine lv_icmp_lt (tgt := 34) hx hb dd_Model_isPlain_2 (by decide) (fun hc => ?_) (fun hc => ?_)
  · have h := xp_t hc h
    exact wj_Model_isPlain_34 htr C hne h hP hS (lv_sub hl [0] rfl)
  · have h := xp_f hc h
    refine lv_iload_n hx hb dd_Model_isPlain_5 rfl (lv_at hl 0 rfl) ?_
    refine lv_iconst (v := 5) hx hb dd_Model_isPlain_6 (by decide) ?_
    refine lv_icmp_eq (tgt := 34) hx hb dd_Model_isPlain_7 (by decide) (fun hc => ?_) (fun hc => ?_)
    · have h := xp_t hc h
      exact wj_Model_isPlain_34 htr C hne h hP hS (lv_sub hl [0] rfl)
    · have h := xp_f hc h
      refine lv_iload_n hx hb dd_Model_isPlain_10 rfl (lv_at hl 0 rfl) ?_
      refine lv_bipush (v := 11) hx hb dd_Model_isPlain_11 (by decide) ?_
      refine lv_icmp_eq (tgt := 34) hx hb dd_Model_isPlain_13 (by decide) (fun hc => ?_) (fun hc => ?_)
      · have h := xp_t hc h
        exact wj_Model_isPlain_34 htr C hne h hP hS (lv_sub hl [0] rfl)
      · have h := xp_f hc h
        refine lv_iload_n hx hb dd_Model_isPlain_16 rfl (lv_at hl 0 rfl) ?_
        refine lv_bipush (v := 15) hx hb dd_Model_isPlain_17 (by decide) ?_
        refine lv_icmp_eq (tgt := 34) hx hb dd_Model_isPlain_19 (by decide) (fun hc => ?_) (fun hc => ?_)
        · have h := xp_t hc h
          exact wj_Model_isPlain_34 htr C hne h hP hS (lv_sub hl [0] rfl)
        · have h := xp_f hc h
          refine lv_iload_n hx hb dd_Model_isPlain_22 rfl (lv_at hl 0 rfl) ?_
          refine lv_bipush (v := 26) hx hb dd_Model_isPlain_23 (by decide) ?_
          refine lv_icmp_eq (tgt := 34) hx hb dd_Model_isPlain_25 (by decide) (fun hc => ?_) (fun hc => ?_)
          · have h := xp_t hc h
            exact wj_Model_isPlain_34 htr C hne h hP hS (lv_sub hl [0] rfl)
          · have h := xp_f hc h
            refine lv_iload_n hx hb dd_Model_isPlain_28 rfl (lv_at hl 0 rfl) ?_
            refine lv_bipush (v := 27) hx hb dd_Model_isPlain_29 (by decide) ?_
            refine lv_icmp_ne (tgt := 38) hx hb dd_Model_isPlain_31 (by decide) (fun hc => ?_) (fun hc => ?_)
            · have h := xp_f hc h
              refine lv_iconst (v := 0) hx hb dd_Model_isPlain_38 (by decide) ?_
              exact wj_Model_isPlain_39 htr C hne h hP hS (lv_sub hl [0] rfl)
            · have h := xp_t hc h
              exact wj_Model_isPlain_34 htr C hne h hP hS (lv_sub hl [0] rfl)
abbrev rm_Model_object : Room := { frames := 5, cells := 1, slots := 6, locals := 89 }
noncomputable def jb_Model_object_85 (fu : Nat) (u : xk_St) : Option (Unit × xk_St) :=
  (xs_seq (fm_Model_fail (-3 : Int32) u) fun _ u4 => some ((()), u4))
noncomputable def jb_Model_object_120 (fu : Nat) (u : xk_St) : Option (Unit × xk_St) :=
  (xs_seq (fm_Model_pair fu u) fun _ u11 => some ((()), u11))
noncomputable def jb_Model_object_174 (fu : Nat) (u : xk_St) : Option (Unit × xk_St) :=
  (xs_seq (fm_Model_number fu u) fun a14 u15 => xs_let (xs_J u15 0 a14) fun u16 => some ((()), u16))
noncomputable def fm_Model_object (fu : Nat) (u : xk_St) : Option (Unit × xk_St) :=
  (xs_seq (fm_Model_number fu u) fun a1 u2 => if (u2.1 6) = (0 : Int32) then (if a1 ≤ (30 : Int64) then ((xs_let (xs_I u2 9 (a1.toInt32)) fun u3 => if (u3.1 9) = (9 : Int32) then (jb_Model_object_85 fu u3) else (if (u3.1 9) = (10 : Int32) then (jb_Model_object_85 fu u3) else ((xs_seq (fm_Model_in ((u3.1 9).toInt64) (17 : Int64) (19 : Int64) u3) fun a5 u6 => if a5 = (0 : Int32) then ((xs_seq (fm_Model_in ((u6.1 9).toInt64) (24 : Int64) (27 : Int64) u6) fun a7 u8 => if a7 = (0 : Int32) then ((xs_seq (fm_Model_in ((u8.1 9).toInt64) (2 : Int64) (5 : Int64) u8) fun a9 u10 => if a9 = (0 : Int32) then (if (u10.1 9) = (8 : Int32) then (jb_Model_object_120 fu u10) else ((xs_seq (fm_Model_in ((u10.1 9).toInt64) (20 : Int64) (23 : Int64) u10) fun a12 u13 => if a12 = (0 : Int32) then (if (u13.1 9) < (15 : Int32) then (jb_Model_object_174 fu u13) else (if (u13.1 9) = (16 : Int32) then (jb_Model_object_174 fu u13) else (some ((()), u13)))) else ((xs_seq (fm_Model_target fu u13) fun a17 u18 => xs_let (xs_J u18 0 (a17.toInt64)) fun u19 => some ((()), u19)))))) else (jb_Model_object_120 fu u10))) else (jb_Model_object_85 fu u8))) else (jb_Model_object_85 fu u6)))))) else ((xs_seq (fm_Model_fail (-1 : Int32) u2) fun _ u20 => some ((()), u20)))) else (some ((()), u2)))
set_option maxHeartbeats 4000000 in
set_option maxRecDepth 100000 in
theorem wj_Model_object_85 {p : Program} {l : Launch} {e : Env} {s : State} {m : MethodId} {args : Array Value} {below : List Frame} {meth : Method} {c : Code} {D : va_G} {ad : Nat → Nat} {ca : Nat → ClassId} {ads : List Nat} {fu : Nat} (htr : l.stackTraces = false) (C : xk_C D kx_cl (kx_ty ca) (kw_m ad ca) ads "ModuleHouseModel" prog_14_method_26_code 3 none p e s m args meth c) (hne : c.exceptionTable.isEmpty = true) {u' : xk_St} {r : Unit} {u : xk_St} {H : Heap} {locs : List Loc} {ls : Array Slot} (h : jb_Model_object_85 fu   u = some (r, u')) (hP : va_P D kx_cl (kw_m ad ca u) H) (hS : va_S (xk_A ads s.heap.size) s.heap H locs) (hl : lv_has ls 3 [(0, .ref (ad 0))]) : W p l e rm_Model_object s m args below meth c H locs 0 0 (xk_MQ below (xk_Qc D kx_cl (kw_m ad ca) ads (xo_v (.inl r)) u') args s (xk_A ads s.heap.size)) (F0 m 85 ls []) := by
  have hx := C.1.1
  have hb := C.1.2.1
  have hok := C.2.2.1
  unfold jb_Model_object_85 at h
  refine lv_aload_n hx hb dd_Model_object_85 rfl (lv_at hl 0 rfl) ?_
  refine lv_bipush (v := (-3)) hx hb dd_Model_object_86 (by decide) ?_
  obtain ⟨rx, u4, hq, h⟩ := xp_seq h
  refine xk_goesV (xr_V (As := [.int (-3 : Int32)]) (rest := []) C hP hS (ct_Model_fail htr hok hq) kq_Model_174 0 11 rfl rfl ⟨rfl, rfl, Nat.le_of_ble_eq_true rfl, Nat.le_of_ble_eq_true rfl⟩ ⟨Nat.le_of_ble_eq_true rfl, Nat.le_of_ble_eq_true rfl⟩ hl.1 rfl rfl (Nat.le_of_ble_eq_true rfl) dd_Model_object_88) hS (fun H locs hP hS => ?_)
  clear hq
  refine lv_goto (tgt := 182) hx hb dd_Model_object_91 (by decide) ?_
  obtain ⟨rfl, rfl⟩ := xp_r h
  exact xr_vret C hP hS dd_Model_object_182
set_option maxHeartbeats 4000000 in
set_option maxRecDepth 100000 in
theorem wj_Model_object_120 {p : Program} {l : Launch} {e : Env} {s : State} {m : MethodId} {args : Array Value} {below : List Frame} {meth : Method} {c : Code} {D : va_G} {ad : Nat → Nat} {ca : Nat → ClassId} {ads : List Nat} {fu : Nat} (htr : l.stackTraces = false) (C : xk_C D kx_cl (kx_ty ca) (kw_m ad ca) ads "ModuleHouseModel" prog_14_method_26_code 3 none p e s m args meth c) (hne : c.exceptionTable.isEmpty = true) {u' : xk_St} {r : Unit} {u : xk_St} {H : Heap} {locs : List Loc} {ls : Array Slot} (h : jb_Model_object_120 fu   u = some (r, u')) (hP : va_P D kx_cl (kw_m ad ca u) H) (hS : va_S (xk_A ads s.heap.size) s.heap H locs) (hl : lv_has ls 3 [(0, .ref (ad 0))]) : W p l e rm_Model_object s m args below meth c H locs 0 0 (xk_MQ below (xk_Qc D kx_cl (kw_m ad ca) ads (xo_v (.inl r)) u') args s (xk_A ads s.heap.size)) (F0 m 120 ls []) := by
  have hx := C.1.1
  have hb := C.1.2.1
  have hok := C.2.2.1
  unfold jb_Model_object_120 at h
  refine lv_aload_n hx hb dd_Model_object_120 rfl (lv_at hl 0 rfl) ?_
  obtain ⟨rx, u11, hq, h⟩ := xp_seq h
  refine xk_goesV (xr_V (As := []) (rest := []) C hP hS (ct_Model_pair htr hok hq) kq_Model_305 0 11 rfl rfl ⟨rfl, rfl, Nat.le_of_ble_eq_true rfl, Nat.le_of_ble_eq_true rfl⟩ ⟨Nat.le_of_ble_eq_true rfl, Nat.le_of_ble_eq_true rfl⟩ hl.1 rfl rfl (Nat.le_of_ble_eq_true rfl) dd_Model_object_121) hS (fun H locs hP hS => ?_)
  clear hq
  refine lv_goto (tgt := 182) hx hb dd_Model_object_124 (by decide) ?_
  obtain ⟨rfl, rfl⟩ := xp_r h
  exact xr_vret C hP hS dd_Model_object_182
set_option maxHeartbeats 4000000 in
set_option maxRecDepth 100000 in
theorem wj_Model_object_174 {p : Program} {l : Launch} {e : Env} {s : State} {m : MethodId} {args : Array Value} {below : List Frame} {meth : Method} {c : Code} {D : va_G} {ad : Nat → Nat} {ca : Nat → ClassId} {ads : List Nat} {fu : Nat} (htr : l.stackTraces = false) (C : xk_C D kx_cl (kx_ty ca) (kw_m ad ca) ads "ModuleHouseModel" prog_14_method_26_code 3 none p e s m args meth c) (hne : c.exceptionTable.isEmpty = true) {u' : xk_St} {r : Unit} {u : xk_St} {H : Heap} {locs : List Loc} {ls : Array Slot} (h : jb_Model_object_174 fu   u = some (r, u')) (hP : va_P D kx_cl (kw_m ad ca u) H) (hS : va_S (xk_A ads s.heap.size) s.heap H locs) (hl : lv_has ls 3 [(0, .ref (ad 0))]) : W p l e rm_Model_object s m args below meth c H locs 0 0 (xk_MQ below (xk_Qc D kx_cl (kw_m ad ca) ads (xo_v (.inl r)) u') args s (xk_A ads s.heap.size)) (F0 m 174 ls []) := by
  have hx := C.1.1
  have hb := C.1.2.1
  have hok := C.2.2.1
  unfold jb_Model_object_174 at h
  refine lv_aload_n hx hb dd_Model_object_174 rfl (lv_at hl 0 rfl) ?_
  refine lv_aload_n hx hb dd_Model_object_175 rfl (lv_at hl 0 rfl) ?_
  obtain ⟨a14, u15, hq, h⟩ := xp_seq h
  refine xk_goesL (xr_V (As := []) (rest := [.ref (ad 0)]) C hP hS (ct_Model_number htr hok hq) kq_Model_295 0 11 rfl rfl ⟨rfl, rfl, Nat.le_of_ble_eq_true rfl, Nat.le_of_ble_eq_true rfl⟩ ⟨Nat.le_of_ble_eq_true rfl, Nat.le_of_ble_eq_true rfl⟩ hl.1 rfl rfl (Nat.le_of_ble_eq_true rfl) dd_Model_object_176) hS (fun H locs hP hS => ?_)
  clear hq
  refine pf_m_Model_0_x C hP hS dd_Model_object_179 (fun H locs hP hS => ?_)
  obtain ⟨u16, eu16, h⟩ := xp_let h
  rw [← eu16] at hP
  obtain ⟨rfl, rfl⟩ := xp_r h
  exact xr_vret C hP hS dd_Model_object_182
set_option maxHeartbeats 4000000 in
set_option maxRecDepth 100000 in
theorem ct_Model_object {l : Launch} {D : va_G} {ad : Nat → Nat} {ca : Nat → ClassId} {ads : List Nat} (htr : l.stackTraces = false) (hok : xk_ok (kw_m ad ca) ads) {fu : Nat} {u u' : xk_St} {r : Unit} (h : fm_Model_object fu u = some (r, u')) :
    ∀ sz, xk_Met l ⟨"ModuleHouseModel", "object", "()V"⟩ (Cond.code ⟨"ModuleHouseModel", "object", "()V"⟩ prog_14_method_26_code 3 none :: xk_gd) rm_Model_object (xk_Pc D kx_cl (kx_ty ca) (kw_m ad ca) ads xk_F sz [.ref (ad 0)] u) (xk_Qc D kx_cl (kw_m ad ca) ads (xo_v (.inl r)) u') (xk_A ads sz) := by
  unfold fm_Model_object at h
  refine xk_con (by decide) htr hok (Nat.le_of_ble_eq_true rfl) (fun p e s m below meth c ls C hne hl hP => ?_)
  have hx := C.1.1
  have hb := C.1.2.1
  have hS : va_S (xk_A ads s.heap.size) s.heap s.heap [] := va_S.rf
  have hl : lv_has ls 3 [(0, .ref (ad 0))] := hl
  refine lv_aload_n hx hb dd_Model_object_0 rfl (lv_at hl 0 rfl) ?_
  obtain ⟨a1, u2, hq, h⟩ := xp_seq h
  refine xk_goesL (xr_V (As := []) (rest := []) C hP hS (ct_Model_number htr hok hq) kq_Model_295 0 11 rfl rfl ⟨rfl, rfl, Nat.le_of_ble_eq_true rfl, Nat.le_of_ble_eq_true rfl⟩ ⟨Nat.le_of_ble_eq_true rfl, Nat.le_of_ble_eq_true rfl⟩ hl.1 rfl rfl (Nat.le_of_ble_eq_true rfl) dd_Model_object_1) hS (fun H locs hP hS => ?_)
  clear hq
  refine lv_lstore_n (lv' := [(1, .long a1), (0, .ref (ad 0))]) hx hb dd_Model_object_4 rfl hl (by decide) rfl (fun ls hl => ?_)
  refine lv_aload_n hx hb dd_Model_object_5 rfl (lv_at hl 1 rfl) ?_
  refine gf_m_Model_0_bad C hP dd_Model_object_6 ?_
  refine lv_if_eq (tgt := 13) hx hb dd_Model_object_9 (by decide) (fun hc => ?_) (fun hc => ?_)
  · have h := xp_t hc h
    refine lv_lload_n hx hb dd_Model_object_13 rfl (lv_at hl 0 rfl) ?_
    refine lv_ldc2 (v := 30) hx hb C.1.2.2.2.1 (C.1.2.2.2.2 _ (xk_c9 (w := Jvm.Cond.constantLong "ModuleHouseModel" 325 30) 224 rfl rfl)) dd_Model_object_14 ?_
    refine xr_lc_le (tgt := 27) hx hb dd_Model_object_17 dd_Model_object_18 (by decide) (fun hc => ?_) (fun hc => ?_)
    · have h := xp_t hc h
      refine lv_aload_n hx hb dd_Model_object_27 rfl (lv_at hl 1 rfl) ?_
      refine lv_lload_n hx hb dd_Model_object_28 rfl (lv_at hl 0 rfl) ?_
      refine lv_l2i hx hb dd_Model_object_29 rfl ?_
      refine pf_m_Model_0_sub C hP hS dd_Model_object_30 (fun H locs hP hS => ?_)
      obtain ⟨u3, eu3, h⟩ := xp_let h
      rw [← eu3] at hP
      refine lv_aload_n hx hb dd_Model_object_33 rfl (lv_at hl 1 rfl) ?_
      refine gf_m_Model_0_sub C hP dd_Model_object_34 ?_
      refine lv_bipush (v := 9) hx hb dd_Model_object_37 (by decide) ?_
      refine lv_icmp_eq (tgt := 85) hx hb dd_Model_object_39 (by decide) (fun hc => ?_) (fun hc => ?_)
      · have h := xp_t hc h
        exact wj_Model_object_85 htr C hne h hP hS (lv_sub hl [1] rfl)
      · have h := xp_f hc h
        refine lv_aload_n hx hb dd_Model_object_42 rfl (lv_at hl 1 rfl) ?_
        refine gf_m_Model_0_sub C hP dd_Model_object_43 ?_
        refine lv_bipush (v := 10) hx hb dd_Model_object_46 (by decide) ?_
        refine lv_icmp_eq (tgt := 85) hx hb dd_Model_object_48 (by decide) (fun hc => ?_) (fun hc => ?_)
        · have h := xp_t hc h
          exact wj_Model_object_85 htr C hne h hP hS (lv_sub hl [1] rfl)
        · have h := xp_f hc h
          refine lv_aload_n hx hb dd_Model_object_51 rfl (lv_at hl 1 rfl) ?_
          refine gf_m_Model_0_sub C hP dd_Model_object_52 ?_
          refine lv_i2l hx hb dd_Model_object_55 rfl ?_
          refine lv_ldc2 (v := 17) hx hb C.1.2.2.2.1 (C.1.2.2.2.2 _ (xk_c9 (w := Jvm.Cond.constantLong "ModuleHouseModel" 327 17) 225 rfl rfl)) dd_Model_object_56 ?_
          refine lv_ldc2 (v := 19) hx hb C.1.2.2.2.1 (C.1.2.2.2.2 _ (xk_c9 (w := Jvm.Cond.constantLong "ModuleHouseModel" 329 19) 226 rfl rfl)) dd_Model_object_59 ?_
          obtain ⟨a5, u6, hq, h⟩ := xp_seq h
          refine xk_goesI (xr_S (As := [.long ((u3.1 9).toInt64), .long (17 : Int64), .long (19 : Int64)]) (rest := []) C hP hS (ct_Model_in htr hok hq) kq_Model_219 ⟨rfl, rfl, Nat.le_of_ble_eq_true rfl, Nat.le_of_ble_eq_true rfl⟩ ⟨Nat.le_of_ble_eq_true rfl, Nat.le_of_ble_eq_true rfl⟩ hl.1 rfl rfl (Nat.le_of_ble_eq_true rfl) dd_Model_object_62) hS (fun H locs hP hS => ?_)
          clear hq
          refine lv_if_ne (tgt := 85) hx hb dd_Model_object_65 (by decide) (fun hc => ?_) (fun hc => ?_)
          · have h := xp_f hc h
            exact wj_Model_object_85 htr C hne h hP hS (lv_sub hl [1] rfl)
          · have h := xp_t hc h
            refine lv_aload_n hx hb dd_Model_object_68 rfl (lv_at hl 1 rfl) ?_
            refine gf_m_Model_0_sub C hP dd_Model_object_69 ?_
            refine lv_i2l hx hb dd_Model_object_72 rfl ?_
            refine lv_ldc2 (v := 24) hx hb C.1.2.2.2.1 (C.1.2.2.2.2 _ (xk_c9 (w := Jvm.Cond.constantLong "ModuleHouseModel" 331 24) 227 rfl rfl)) dd_Model_object_73 ?_
            refine lv_ldc2 (v := 27) hx hb C.1.2.2.2.1 (C.1.2.2.2.2 _ (xk_c9 (w := Jvm.Cond.constantLong "ModuleHouseModel" 333 27) 228 rfl rfl)) dd_Model_object_76 ?_
            obtain ⟨a7, u8, hq, h⟩ := xp_seq h
            refine xk_goesI (xr_S (As := [.long ((u6.1 9).toInt64), .long (24 : Int64), .long (27 : Int64)]) (rest := []) C hP hS (ct_Model_in htr hok hq) kq_Model_219 ⟨rfl, rfl, Nat.le_of_ble_eq_true rfl, Nat.le_of_ble_eq_true rfl⟩ ⟨Nat.le_of_ble_eq_true rfl, Nat.le_of_ble_eq_true rfl⟩ hl.1 rfl rfl (Nat.le_of_ble_eq_true rfl) dd_Model_object_79) hS (fun H locs hP hS => ?_)
            clear hq
            refine lv_if_eq (tgt := 94) hx hb dd_Model_object_82 (by decide) (fun hc => ?_) (fun hc => ?_)
            · have h := xp_t hc h
              refine lv_aload_n hx hb dd_Model_object_94 rfl (lv_at hl 1 rfl) ?_
              refine gf_m_Model_0_sub C hP dd_Model_object_95 ?_
              refine lv_i2l hx hb dd_Model_object_98 rfl ?_
              refine lv_ldc2 (v := 2) hx hb C.1.2.2.2.1 (C.1.2.2.2.2 _ (xk_c9 (w := Jvm.Cond.constantLong "ModuleHouseModel" 283 2) 200 rfl rfl)) dd_Model_object_99 ?_
              refine lv_ldc2 (v := 5) hx hb C.1.2.2.2.1 (C.1.2.2.2.2 _ (xk_c9 (w := Jvm.Cond.constantLong "ModuleHouseModel" 335 5) 229 rfl rfl)) dd_Model_object_102 ?_
              obtain ⟨a9, u10, hq, h⟩ := xp_seq h
              refine xk_goesI (xr_S (As := [.long ((u8.1 9).toInt64), .long (2 : Int64), .long (5 : Int64)]) (rest := []) C hP hS (ct_Model_in htr hok hq) kq_Model_219 ⟨rfl, rfl, Nat.le_of_ble_eq_true rfl, Nat.le_of_ble_eq_true rfl⟩ ⟨Nat.le_of_ble_eq_true rfl, Nat.le_of_ble_eq_true rfl⟩ hl.1 rfl rfl (Nat.le_of_ble_eq_true rfl) dd_Model_object_105) hS (fun H locs hP hS => ?_)
              clear hq
              refine lv_if_ne (tgt := 120) hx hb dd_Model_object_108 (by decide) (fun hc => ?_) (fun hc => ?_)
              · have h := xp_f hc h
                exact wj_Model_object_120 htr C hne h hP hS (lv_sub hl [1] rfl)
              · have h := xp_t hc h
                refine lv_aload_n hx hb dd_Model_object_111 rfl (lv_at hl 1 rfl) ?_
                refine gf_m_Model_0_sub C hP dd_Model_object_112 ?_
                refine lv_bipush (v := 8) hx hb dd_Model_object_115 (by decide) ?_
                refine lv_icmp_ne (tgt := 127) hx hb dd_Model_object_117 (by decide) (fun hc => ?_) (fun hc => ?_)
                · have h := xp_f hc h
                  refine lv_aload_n hx hb dd_Model_object_127 rfl (lv_at hl 1 rfl) ?_
                  refine gf_m_Model_0_sub C hP dd_Model_object_128 ?_
                  refine lv_i2l hx hb dd_Model_object_131 rfl ?_
                  refine lv_ldc2 (v := 20) hx hb C.1.2.2.2.1 (C.1.2.2.2.2 _ (xk_c9 (w := Jvm.Cond.constantLong "ModuleHouseModel" 337 20) 230 rfl rfl)) dd_Model_object_132 ?_
                  refine lv_ldc2 (v := 23) hx hb C.1.2.2.2.1 (C.1.2.2.2.2 _ (xk_c9 (w := Jvm.Cond.constantLong "ModuleHouseModel" 339 23) 231 rfl rfl)) dd_Model_object_135 ?_
                  obtain ⟨a12, u13, hq, h⟩ := xp_seq h
                  refine xk_goesI (xr_S (As := [.long ((u10.1 9).toInt64), .long (20 : Int64), .long (23 : Int64)]) (rest := []) C hP hS (ct_Model_in htr hok hq) kq_Model_219 ⟨rfl, rfl, Nat.le_of_ble_eq_true rfl, Nat.le_of_ble_eq_true rfl⟩ ⟨Nat.le_of_ble_eq_true rfl, Nat.le_of_ble_eq_true rfl⟩ hl.1 rfl rfl (Nat.le_of_ble_eq_true rfl) dd_Model_object_138) hS (fun H locs hP hS => ?_)
                  clear hq
                  refine lv_if_eq (tgt := 156) hx hb dd_Model_object_141 (by decide) (fun hc => ?_) (fun hc => ?_)
                  · have h := xp_t hc h
                    refine lv_aload_n hx hb dd_Model_object_156 rfl (lv_at hl 1 rfl) ?_
                    refine gf_m_Model_0_sub C hP dd_Model_object_157 ?_
                    refine lv_bipush (v := 15) hx hb dd_Model_object_160 (by decide) ?_
                    refine lv_icmp_lt (tgt := 174) hx hb dd_Model_object_162 (by decide) (fun hc => ?_) (fun hc => ?_)
                    · have h := xp_t hc h
                      exact wj_Model_object_174 htr C hne h hP hS (lv_sub hl [1] rfl)
                    · have h := xp_f hc h
                      refine lv_aload_n hx hb dd_Model_object_165 rfl (lv_at hl 1 rfl) ?_
                      refine gf_m_Model_0_sub C hP dd_Model_object_166 ?_
                      refine lv_bipush (v := 16) hx hb dd_Model_object_169 (by decide) ?_
                      refine lv_icmp_ne (tgt := 182) hx hb dd_Model_object_171 (by decide) (fun hc => ?_) (fun hc => ?_)
                      · have h := xp_f hc h
                        obtain ⟨rfl, rfl⟩ := xp_r h
                        exact xr_vret C hP hS dd_Model_object_182
                      · have h := xp_t hc h
                        exact wj_Model_object_174 htr C hne h hP hS (lv_sub hl [1] rfl)
                  · have h := xp_f hc h
                    refine lv_aload_n hx hb dd_Model_object_144 rfl (lv_at hl 1 rfl) ?_
                    refine lv_aload_n hx hb dd_Model_object_145 rfl (lv_at hl 1 rfl) ?_
                    obtain ⟨a17, u18, hq, h⟩ := xp_seq h
                    refine xk_goesI (xr_V (As := []) (rest := [.ref (ad 0)]) C hP hS (ct_Model_target htr hok hq) kq_Model_207 0 11 rfl rfl ⟨rfl, rfl, Nat.le_of_ble_eq_true rfl, Nat.le_of_ble_eq_true rfl⟩ ⟨Nat.le_of_ble_eq_true rfl, Nat.le_of_ble_eq_true rfl⟩ hl.1 rfl rfl (Nat.le_of_ble_eq_true rfl) dd_Model_object_146) hS (fun H locs hP hS => ?_)
                    clear hq
                    refine lv_i2l hx hb dd_Model_object_149 rfl ?_
                    refine pf_m_Model_0_x C hP hS dd_Model_object_150 (fun H locs hP hS => ?_)
                    obtain ⟨u19, eu19, h⟩ := xp_let h
                    rw [← eu19] at hP
                    refine lv_goto (tgt := 182) hx hb dd_Model_object_153 (by decide) ?_
                    obtain ⟨rfl, rfl⟩ := xp_r h
                    exact xr_vret C hP hS dd_Model_object_182
                · have h := xp_t hc h
                  exact wj_Model_object_120 htr C hne h hP hS (lv_sub hl [1] rfl)
            · have h := xp_f hc h
              exact wj_Model_object_85 htr C hne h hP hS (lv_sub hl [1] rfl)
    · have h := xp_f hc h
      refine lv_aload_n hx hb dd_Model_object_21 rfl (lv_at hl 1 rfl) ?_
      refine lv_iconst (v := (-1)) hx hb dd_Model_object_22 (by decide) ?_
      obtain ⟨rx, u20, hq, h⟩ := xp_seq h
      refine xk_goesV (xr_V (As := [.int (-1 : Int32)]) (rest := []) C hP hS (ct_Model_fail htr hok hq) kq_Model_174 0 11 rfl rfl ⟨rfl, rfl, Nat.le_of_ble_eq_true rfl, Nat.le_of_ble_eq_true rfl⟩ ⟨Nat.le_of_ble_eq_true rfl, Nat.le_of_ble_eq_true rfl⟩ hl.1 rfl rfl (Nat.le_of_ble_eq_true rfl) dd_Model_object_23) hS (fun H locs hP hS => ?_)
      clear hq
      obtain ⟨rfl, rfl⟩ := xp_r h
      exact xr_vret C hP hS dd_Model_object_26
  · have h := xp_f hc h
    obtain ⟨rfl, rfl⟩ := xp_r h
    exact xr_vret C hP hS dd_Model_object_12
abbrev rm_Model_ways : Room := { frames := 4, cells := 1, slots := 6, locals := 65 }
noncomputable def jb_Model_ways_59 (fu : Nat) (s0 : Int64) (u : xk_St) : Option (Unit × xk_St) :=
  (xs_let (xs_I u 11 (s0.toInt32)) fun u4 => xs_seq (fm_Model_number fu u4) fun a5 u6 => xs_let (xs_J u6 0 a5) fun u7 => some ((()), u7))
noncomputable def jb_Model_ways_43 (fu : Nat) (b1 : Int64) (u : xk_St) : Option (Unit × xk_St) :=
  if (8192 : Int64) ≤ b1 then (jb_Model_ways_59 fu (8192 : Int64) u) else (jb_Model_ways_59 fu b1 u)
noncomputable def jb_Model_ways_15 (fu : Nat) : Nat → Int64 → Int64 → xk_St → Option (Unit × xk_St)
  | 0 => fun _ _ _ => none
  | n + 1 => fun b1 b3 u =>
    xs_let (jb_Model_ways_15 fu  n) fun k15 =>
    if b1 ≤ b3 then (jb_Model_ways_43 fu b1 u) else (if (u.1 6) = (0 : Int32) then ((xs_seq (fm_Model_number fu u) fun a8 u9 => xs_let (xs_J u9 0 a8) fun u10 => xs_let (b3 + (1 : Int64)) fun a11 => k15 b1 a11 u10)) else (jb_Model_ways_43 fu b1 u))
noncomputable def fm_Model_ways (fu : Nat) (u : xk_St) : Option (Unit × xk_St) :=
  (xs_seq (fm_Model_number fu u) fun a1 u2 => xs_let (xs_I u2 10 (u2.1 4)) fun u3 => jb_Model_ways_15 fu fu a1 (0 : Int64) u3)
set_option maxHeartbeats 4000000 in
set_option maxRecDepth 100000 in
theorem wj_Model_ways_59 {p : Program} {l : Launch} {e : Env} {s : State} {m : MethodId} {args : Array Value} {below : List Frame} {meth : Method} {c : Code} {D : va_G} {ad : Nat → Nat} {ca : Nat → ClassId} {ads : List Nat} {fu : Nat} (htr : l.stackTraces = false) (C : xk_C D kx_cl (kx_ty ca) (kw_m ad ca) ads "ModuleHouseModel" prog_14_method_25_code 5 none p e s m args meth c) (hne : c.exceptionTable.isEmpty = true) {u' : xk_St} {r : Unit} {s0 : Int64} {u : xk_St} {H : Heap} {locs : List Loc} {ls : Array Slot} (h : jb_Model_ways_59 fu  s0 u = some (r, u')) (hP : va_P D kx_cl (kw_m ad ca u) H) (hS : va_S (xk_A ads s.heap.size) s.heap H locs) (hl : lv_has ls 5 [(0, .ref (ad 0))]) : W p l e rm_Model_ways s m args below meth c H locs 0 0 (xk_MQ below (xk_Qc D kx_cl (kw_m ad ca) ads (xo_v (.inl r)) u') args s (xk_A ads s.heap.size)) (F0 m 59 ls [.long s0, .ref (ad 0)]) := by
  have hx := C.1.1
  have hb := C.1.2.1
  have hok := C.2.2.1
  unfold jb_Model_ways_59 at h
  refine lv_l2i hx hb dd_Model_ways_59 rfl ?_
  refine pf_m_Model_0_rowMany C hP hS dd_Model_ways_60 (fun H locs hP hS => ?_)
  obtain ⟨u4, eu4, h⟩ := xp_let h
  rw [← eu4] at hP
  refine lv_aload_n hx hb dd_Model_ways_63 rfl (lv_at hl 0 rfl) ?_
  refine lv_aload_n hx hb dd_Model_ways_64 rfl (lv_at hl 0 rfl) ?_
  obtain ⟨a5, u6, hq, h⟩ := xp_seq h
  refine xk_goesL (xr_V (As := []) (rest := [.ref (ad 0)]) C hP hS (ct_Model_number htr hok hq) kq_Model_295 0 11 rfl rfl ⟨rfl, rfl, Nat.le_of_ble_eq_true rfl, Nat.le_of_ble_eq_true rfl⟩ ⟨Nat.le_of_ble_eq_true rfl, Nat.le_of_ble_eq_true rfl⟩ hl.1 rfl rfl (Nat.le_of_ble_eq_true rfl) dd_Model_ways_65) hS (fun H locs hP hS => ?_)
  clear hq
  refine pf_m_Model_0_x C hP hS dd_Model_ways_68 (fun H locs hP hS => ?_)
  obtain ⟨u7, eu7, h⟩ := xp_let h
  rw [← eu7] at hP
  obtain ⟨rfl, rfl⟩ := xp_r h
  exact xr_vret C hP hS dd_Model_ways_71
set_option maxHeartbeats 4000000 in
set_option maxRecDepth 100000 in
theorem wj_Model_ways_43 {p : Program} {l : Launch} {e : Env} {s : State} {m : MethodId} {args : Array Value} {below : List Frame} {meth : Method} {c : Code} {D : va_G} {ad : Nat → Nat} {ca : Nat → ClassId} {ads : List Nat} {fu : Nat} (htr : l.stackTraces = false) (C : xk_C D kx_cl (kx_ty ca) (kw_m ad ca) ads "ModuleHouseModel" prog_14_method_25_code 5 none p e s m args meth c) (hne : c.exceptionTable.isEmpty = true) {u' : xk_St} {r : Unit} {b1 : Int64} {u : xk_St} {H : Heap} {locs : List Loc} {ls : Array Slot} (h : jb_Model_ways_43 fu  b1 u = some (r, u')) (hP : va_P D kx_cl (kw_m ad ca u) H) (hS : va_S (xk_A ads s.heap.size) s.heap H locs) (hl : lv_has ls 5 [(0, .ref (ad 0)), (1, .long b1)]) : W p l e rm_Model_ways s m args below meth c H locs 0 0 (xk_MQ below (xk_Qc D kx_cl (kw_m ad ca) ads (xo_v (.inl r)) u') args s (xk_A ads s.heap.size)) (F0 m 43 ls []) := by
  have hx := C.1.1
  have hb := C.1.2.1
  have hok := C.2.2.1
  unfold jb_Model_ways_43 at h
  refine lv_aload_n hx hb dd_Model_ways_43 rfl (lv_at hl 0 rfl) ?_
  refine lv_lload_n hx hb dd_Model_ways_44 rfl (lv_at hl 1 rfl) ?_
  refine lv_ldc2 (v := 8192) hx hb C.1.2.2.2.1 (C.1.2.2.2.2 _ (xk_c9 (w := Jvm.Cond.constantLong "ModuleHouseModel" 320 8192) 213 rfl rfl)) dd_Model_ways_45 ?_
  refine xr_lc_ge (tgt := 56) hx hb dd_Model_ways_48 dd_Model_ways_49 (by decide) (fun hc => ?_) (fun hc => ?_)
  · have h := xp_t hc h
    refine lv_ldc2 (v := 8192) hx hb C.1.2.2.2.1 (C.1.2.2.2.2 _ (xk_c9 (w := Jvm.Cond.constantLong "ModuleHouseModel" 320 8192) 213 rfl rfl)) dd_Model_ways_56 ?_
    exact wj_Model_ways_59 htr C hne h hP hS (lv_sub hl [0] rfl)
  · have h := xp_f hc h
    refine lv_lload_n hx hb dd_Model_ways_52 rfl (lv_at hl 1 rfl) ?_
    refine lv_goto (tgt := 59) hx hb dd_Model_ways_53 (by decide) ?_
    exact wj_Model_ways_59 htr C hne h hP hS (lv_sub hl [0] rfl)
set_option maxHeartbeats 4000000 in
set_option maxRecDepth 100000 in
theorem wj_Model_ways_15 {p : Program} {l : Launch} {e : Env} {s : State} {m : MethodId} {args : Array Value} {below : List Frame} {meth : Method} {c : Code} {D : va_G} {ad : Nat → Nat} {ca : Nat → ClassId} {ads : List Nat} {fu : Nat} (htr : l.stackTraces = false) (C : xk_C D kx_cl (kx_ty ca) (kw_m ad ca) ads "ModuleHouseModel" prog_14_method_25_code 5 none p e s m args meth c) (hne : c.exceptionTable.isEmpty = true) {u' : xk_St} {r : Unit} : ∀ {n : Nat} {b1 : Int64} {b3 : Int64} {u : xk_St} {H : Heap} {locs : List Loc} {ls : Array Slot} (h : jb_Model_ways_15 fu  n b1 b3 u = some (r, u')) (hP : va_P D kx_cl (kw_m ad ca u) H) (hS : va_S (xk_A ads s.heap.size) s.heap H locs) (hl : lv_has ls 5 [(0, .ref (ad 0)), (1, .long b1), (3, .long b3)]), W p l e rm_Model_ways s m args below meth c H locs 0 0 (xk_MQ below (xk_Qc D kx_cl (kw_m ad ca) ads (xo_v (.inl r)) u') args s (xk_A ads s.heap.size)) (F0 m 15 ls []) := by
  intro n
  have hx := C.1.1
  have hb := C.1.2.1
  have hok := C.2.2.1
  induction n with
  | zero =>
    intro _ _ u H locs ls h
    have h : none = some (r, u') := h
    cases h
  | succ n ih =>
    intro b1 b3 u H locs ls h hP hS hl
    unfold jb_Model_ways_15 at h
    obtain ⟨k15, ek15, h⟩ := xp_let h
    have hk15 : ∀ (c0 : Int64) (c1 : Int64) (u : xk_St) (H : Heap) (locs : List Loc) (ls : Array Slot), k15 c0 c1 u = some (r, u') → va_P D kx_cl (kw_m ad ca u) H → va_S (xk_A ads s.heap.size) s.heap H locs → lv_has ls 5 [(0, .ref (ad 0)), (1, .long c0), (3, .long c1)] → W p l e rm_Model_ways s m args below meth c H locs 0 0 (xk_MQ below (xk_Qc D kx_cl (kw_m ad ca) ads (xo_v (.inl r)) u') args s (xk_A ads s.heap.size)) (F0 m 15 ls []) := by
      intro c0 c1 u H locs ls h hP hS hl
      subst ek15
      exact ih h hP hS hl
    clear ih ek15
    refine lv_lload_n hx hb dd_Model_ways_15 rfl (lv_at hl 2 rfl) ?_
    refine lv_lload_n hx hb dd_Model_ways_16 rfl (lv_at hl 1 rfl) ?_
    refine xr_lc_ge (tgt := 43) hx hb dd_Model_ways_17 dd_Model_ways_18 (by decide) (fun hc => ?_) (fun hc => ?_)
    · have h := xp_t hc h
      exact wj_Model_ways_43 htr C hne h hP hS (lv_sub hl [0, 1] rfl)
    · have h := xp_f hc h
      refine lv_aload_n hx hb dd_Model_ways_21 rfl (lv_at hl 0 rfl) ?_
      refine gf_m_Model_0_bad C hP dd_Model_ways_22 ?_
      refine lv_if_ne (tgt := 43) hx hb dd_Model_ways_25 (by decide) (fun hc => ?_) (fun hc => ?_)
      · have h := xp_f hc h
        exact wj_Model_ways_43 htr C hne h hP hS (lv_sub hl [0, 1] rfl)
      · have h := xp_t hc h
        refine lv_aload_n hx hb dd_Model_ways_28 rfl (lv_at hl 0 rfl) ?_
        refine lv_aload_n hx hb dd_Model_ways_29 rfl (lv_at hl 0 rfl) ?_
        obtain ⟨a8, u9, hq, h⟩ := xp_seq h
        refine xk_goesL (xr_V (As := []) (rest := [.ref (ad 0)]) C hP hS (ct_Model_number htr hok hq) kq_Model_295 0 11 rfl rfl ⟨rfl, rfl, Nat.le_of_ble_eq_true rfl, Nat.le_of_ble_eq_true rfl⟩ ⟨Nat.le_of_ble_eq_true rfl, Nat.le_of_ble_eq_true rfl⟩ hl.1 rfl rfl (Nat.le_of_ble_eq_true rfl) dd_Model_ways_30) hS (fun H locs hP hS => ?_)
        clear hq
        refine pf_m_Model_0_x C hP hS dd_Model_ways_33 (fun H locs hP hS => ?_)
        obtain ⟨u10, eu10, h⟩ := xp_let h
        rw [← eu10] at hP
        refine lv_lload_n hx hb dd_Model_ways_36 rfl (lv_at hl 2 rfl) ?_
        refine lv_lconst (v := 1) hx hb dd_Model_ways_37 (by decide) ?_
        refine lv_ladd hx hb dd_Model_ways_38 ?_
        obtain ⟨a11, ea11, h⟩ := xp_let h
        refine xr_naml ea11 ?_
        refine lv_lstore_n (lv' := [(3, .long a11), (0, .ref (ad 0)), (1, .long b1)]) hx hb dd_Model_ways_39 rfl hl (by decide) rfl (fun ls hl => ?_)
        refine lv_goto (tgt := 15) hx hb dd_Model_ways_40 (by decide) ?_
        exact hk15 b1 a11 u10 _ _ _ h hP hS (lv_sub hl [1, 2, 0] rfl)
set_option maxHeartbeats 4000000 in
set_option maxRecDepth 100000 in
theorem ct_Model_ways {l : Launch} {D : va_G} {ad : Nat → Nat} {ca : Nat → ClassId} {ads : List Nat} (htr : l.stackTraces = false) (hok : xk_ok (kw_m ad ca) ads) {fu : Nat} {u u' : xk_St} {r : Unit} (h : fm_Model_ways fu u = some (r, u')) :
    ∀ sz, xk_Met l ⟨"ModuleHouseModel", "ways", "()V"⟩ (Cond.code ⟨"ModuleHouseModel", "ways", "()V"⟩ prog_14_method_25_code 5 none :: xk_gd) rm_Model_ways (xk_Pc D kx_cl (kx_ty ca) (kw_m ad ca) ads xk_F sz [.ref (ad 0)] u) (xk_Qc D kx_cl (kw_m ad ca) ads (xo_v (.inl r)) u') (xk_A ads sz) := by
  unfold fm_Model_ways at h
  refine xk_con (by decide) htr hok (Nat.le_of_ble_eq_true rfl) (fun p e s m below meth c ls C hne hl hP => ?_)
  have hx := C.1.1
  have hb := C.1.2.1
  have hS : va_S (xk_A ads s.heap.size) s.heap s.heap [] := va_S.rf
  have hl : lv_has ls 5 [(0, .ref (ad 0))] := hl
  refine lv_aload_n hx hb dd_Model_ways_0 rfl (lv_at hl 0 rfl) ?_
  obtain ⟨a1, u2, hq, h⟩ := xp_seq h
  refine xk_goesL (xr_V (As := []) (rest := []) C hP hS (ct_Model_number htr hok hq) kq_Model_295 0 11 rfl rfl ⟨rfl, rfl, Nat.le_of_ble_eq_true rfl, Nat.le_of_ble_eq_true rfl⟩ ⟨Nat.le_of_ble_eq_true rfl, Nat.le_of_ble_eq_true rfl⟩ hl.1 rfl rfl (Nat.le_of_ble_eq_true rfl) dd_Model_ways_1) hS (fun H locs hP hS => ?_)
  clear hq
  refine lv_lstore_n (lv' := [(1, .long a1), (0, .ref (ad 0))]) hx hb dd_Model_ways_4 rfl hl (by decide) rfl (fun ls hl => ?_)
  refine lv_aload_n hx hb dd_Model_ways_5 rfl (lv_at hl 1 rfl) ?_
  refine lv_aload_n hx hb dd_Model_ways_6 rfl (lv_at hl 1 rfl) ?_
  refine gf_m_Model_0_at C hP dd_Model_ways_7 ?_
  refine pf_m_Model_0_rowAt C hP hS dd_Model_ways_10 (fun H locs hP hS => ?_)
  obtain ⟨u3, eu3, h⟩ := xp_let h
  rw [← eu3] at hP
  refine lv_lconst (v := 0) hx hb dd_Model_ways_13 (by decide) ?_
  refine lv_lstore_n (lv' := [(3, .long (0 : Int64)), (1, .long a1), (0, .ref (ad 0))]) hx hb dd_Model_ways_14 rfl hl (by decide) rfl (fun ls hl => ?_)
  exact wj_Model_ways_15 htr C hne h hP hS (lv_sub hl [2, 1, 0] rfl)
abbrev rm_Model_blockTypeHere : Room := { frames := 6, cells := 1, slots := 6, locals := 110 }
noncomputable def fm_Model_blockTypeHere (fu : Nat) (u : xk_St) : Option (Int64 × xk_St) :=
  (xs_seq (fm_Model_ahead u) fun a1 u2 => if a1 = (64 : Int32) then ((xs_let (xs_I u2 4 ((u2.1 4) + (1 : Int32))) fun u10 => some ((-1 : Int64), u10))) else ((xs_seq (fm_Model_isTypeByte a1 u2) fun a3 u4 => if a3 = (0 : Int32) then ((xs_seq (fm_Model_signed fu (33 : Int32) u4) fun a5 u6 => if (0 : Int64) ≤ a5 then (some (a5, u6)) else ((xs_seq (fm_Model_fail (-1 : Int32) u6) fun _ u7 => some (a5, u7))))) else ((xs_seq (fm_Model_valueType fu u4) fun a8 u9 => some (((-2 : Int64) - (a8.toInt64)), u9))))))
set_option maxHeartbeats 4000000 in
set_option maxRecDepth 100000 in
theorem ct_Model_blockTypeHere {l : Launch} {D : va_G} {ad : Nat → Nat} {ca : Nat → ClassId} {ads : List Nat} (htr : l.stackTraces = false) (hok : xk_ok (kw_m ad ca) ads) {fu : Nat} {u u' : xk_St} {r : Int64} (h : fm_Model_blockTypeHere fu u = some (r, u')) :
    ∀ sz, xk_Met l ⟨"ModuleHouseModel", "blockTypeHere", "()J"⟩ (Cond.code ⟨"ModuleHouseModel", "blockTypeHere", "()J"⟩ prog_14_method_19_code 4 (some .long) :: xk_gd) rm_Model_blockTypeHere (xk_Pc D kx_cl (kx_ty ca) (kw_m ad ca) ads xk_F sz [.ref (ad 0)] u) (xk_Qc D kx_cl (kw_m ad ca) ads (xo_l (.inl r)) u') (xk_A ads sz) := by
  unfold fm_Model_blockTypeHere at h
  refine xk_con (by decide) htr hok (Nat.le_of_ble_eq_true rfl) (fun p e s m below meth c ls C hne hl hP => ?_)
  have hx := C.1.1
  have hb := C.1.2.1
  have hS : va_S (xk_A ads s.heap.size) s.heap s.heap [] := va_S.rf
  have hl : lv_has ls 4 [(0, .ref (ad 0))] := hl
  refine lv_aload_n hx hb dd_Model_blockTypeHere_0 rfl (lv_at hl 0 rfl) ?_
  obtain ⟨a1, u2, hq, h⟩ := xp_seq h
  refine xk_goesI (xr_V (As := []) (rest := []) C hP hS (ct_Model_ahead htr hok hq) kq_Model_190 0 11 rfl rfl ⟨rfl, rfl, Nat.le_of_ble_eq_true rfl, Nat.le_of_ble_eq_true rfl⟩ ⟨Nat.le_of_ble_eq_true rfl, Nat.le_of_ble_eq_true rfl⟩ hl.1 rfl rfl (Nat.le_of_ble_eq_true rfl) dd_Model_blockTypeHere_1) hS (fun H locs hP hS => ?_)
  clear hq
  refine lv_istore_n (lv' := [(1, .int a1), (0, .ref (ad 0))]) hx hb dd_Model_blockTypeHere_4 rfl hl (by decide) rfl (fun ls hl => ?_)
  refine lv_iload_n hx hb dd_Model_blockTypeHere_5 rfl (lv_at hl 0 rfl) ?_
  refine lv_bipush (v := 64) hx hb dd_Model_blockTypeHere_6 (by decide) ?_
  refine lv_icmp_ne (tgt := 25) hx hb dd_Model_blockTypeHere_8 (by decide) (fun hc => ?_) (fun hc => ?_)
  · have h := xp_f hc h
    refine lv_iload_n hx hb dd_Model_blockTypeHere_25 rfl (lv_at hl 0 rfl) ?_
    obtain ⟨a3, u4, hq, h⟩ := xp_seq h
    refine xk_goesI (xr_S (As := [.int a1]) (rest := []) C hP hS (ct_Model_isTypeByte htr hok hq) kq_Model_199 ⟨rfl, rfl, Nat.le_of_ble_eq_true rfl, Nat.le_of_ble_eq_true rfl⟩ ⟨Nat.le_of_ble_eq_true rfl, Nat.le_of_ble_eq_true rfl⟩ hl.1 rfl rfl (Nat.le_of_ble_eq_true rfl) dd_Model_blockTypeHere_26) hS (fun H locs hP hS => ?_)
    clear hq
    refine lv_if_eq (tgt := 42) hx hb dd_Model_blockTypeHere_29 (by decide) (fun hc => ?_) (fun hc => ?_)
    · have h := xp_t hc h
      refine lv_aload_n hx hb dd_Model_blockTypeHere_42 rfl (lv_at hl 1 rfl) ?_
      refine lv_bipush (v := 33) hx hb dd_Model_blockTypeHere_43 (by decide) ?_
      obtain ⟨a5, u6, hq, h⟩ := xp_seq h
      refine xk_goesL (xr_V (As := [.int (33 : Int32)]) (rest := []) C hP hS (ct_Model_signed htr hok hq) kq_Model_193 0 11 rfl rfl ⟨rfl, rfl, Nat.le_of_ble_eq_true rfl, Nat.le_of_ble_eq_true rfl⟩ ⟨Nat.le_of_ble_eq_true rfl, Nat.le_of_ble_eq_true rfl⟩ hl.1 rfl rfl (Nat.le_of_ble_eq_true rfl) dd_Model_blockTypeHere_45) hS (fun H locs hP hS => ?_)
      clear hq
      refine lv_lstore_n (lv' := [(2, .long a5), (1, .int a1), (0, .ref (ad 0))]) hx hb dd_Model_blockTypeHere_48 rfl hl (by decide) rfl (fun ls hl => ?_)
      refine lv_lload_n hx hb dd_Model_blockTypeHere_49 rfl (lv_at hl 0 rfl) ?_
      refine lv_lconst (v := 0) hx hb dd_Model_blockTypeHere_50 (by decide) ?_
      refine xr_lc_ge (tgt := 60) hx hb dd_Model_blockTypeHere_51 dd_Model_blockTypeHere_52 (by decide) (fun hc => ?_) (fun hc => ?_)
      · have h := xp_t hc h
        refine lv_lload_n hx hb dd_Model_blockTypeHere_60 rfl (lv_at hl 0 rfl) ?_
        obtain ⟨rfl, rfl⟩ := xp_r h
        exact xr_lret C hP hS dd_Model_blockTypeHere_61
      · have h := xp_f hc h
        refine lv_aload_n hx hb dd_Model_blockTypeHere_55 rfl (lv_at hl 2 rfl) ?_
        refine lv_iconst (v := (-1)) hx hb dd_Model_blockTypeHere_56 (by decide) ?_
        obtain ⟨rx, u7, hq, h⟩ := xp_seq h
        refine xk_goesV (xr_V (As := [.int (-1 : Int32)]) (rest := []) C hP hS (ct_Model_fail htr hok hq) kq_Model_174 0 11 rfl rfl ⟨rfl, rfl, Nat.le_of_ble_eq_true rfl, Nat.le_of_ble_eq_true rfl⟩ ⟨Nat.le_of_ble_eq_true rfl, Nat.le_of_ble_eq_true rfl⟩ hl.1 rfl rfl (Nat.le_of_ble_eq_true rfl) dd_Model_blockTypeHere_57) hS (fun H locs hP hS => ?_)
        clear hq
        refine lv_lload_n hx hb dd_Model_blockTypeHere_60 rfl (lv_at hl 0 rfl) ?_
        obtain ⟨rfl, rfl⟩ := xp_r h
        exact xr_lret C hP hS dd_Model_blockTypeHere_61
    · have h := xp_f hc h
      refine lv_ldc2 (v := (-2)) hx hb C.1.2.2.2.1 (C.1.2.2.2.2 _ (xk_c9 (w := Jvm.Cond.constantLong "ModuleHouseModel" 213 (-2)) 206 rfl rfl)) dd_Model_blockTypeHere_32 ?_
      refine lv_aload_n hx hb dd_Model_blockTypeHere_35 rfl (lv_at hl 1 rfl) ?_
      obtain ⟨a8, u9, hq, h⟩ := xp_seq h
      refine xk_goesI (xr_V (As := []) (rest := [.long (-2 : Int64)]) C hP hS (ct_Model_valueType htr hok hq) kq_Model_210 0 11 rfl rfl ⟨rfl, rfl, Nat.le_of_ble_eq_true rfl, Nat.le_of_ble_eq_true rfl⟩ ⟨Nat.le_of_ble_eq_true rfl, Nat.le_of_ble_eq_true rfl⟩ hl.1 rfl rfl (Nat.le_of_ble_eq_true rfl) dd_Model_blockTypeHere_36) hS (fun H locs hP hS => ?_)
      clear hq
      refine lv_i2l hx hb dd_Model_blockTypeHere_39 rfl ?_
      refine lv_lsub hx hb dd_Model_blockTypeHere_40 ?_
      obtain ⟨rfl, rfl⟩ := xp_r h
      exact xr_lret C hP hS dd_Model_blockTypeHere_41
  · have h := xp_t hc h
    refine lv_aload_n hx hb dd_Model_blockTypeHere_11 rfl (lv_at hl 1 rfl) ?_
    refine lv_dup hx hb dd_Model_blockTypeHere_12 rfl ?_
    refine gf_m_Model_0_at C hP dd_Model_blockTypeHere_13 ?_
    refine lv_iconst (v := 1) hx hb dd_Model_blockTypeHere_16 (by decide) ?_
    refine lv_iadd hx hb dd_Model_blockTypeHere_17 ?_
    refine pf_m_Model_0_at C hP hS dd_Model_blockTypeHere_18 (fun H locs hP hS => ?_)
    obtain ⟨u10, eu10, h⟩ := xp_let h
    rw [← eu10] at hP
    refine lv_ldc2 (v := (-1)) hx hb C.1.2.2.2.1 (C.1.2.2.2.2 _ (xk_c9 (w := Jvm.Cond.constantLong "ModuleHouseModel" 184 (-1)) 138 rfl rfl)) dd_Model_blockTypeHere_21 ?_
    obtain ⟨rfl, rfl⟩ := xp_r h
    exact xr_lret C hP hS dd_Model_blockTypeHere_24
