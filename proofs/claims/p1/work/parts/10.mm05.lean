abbrev rm_Model_takeReference : Room := { frames := 2, cells := 1, slots := 6, locals := 20 }
noncomputable def jb_Model_takeReference_24 (b1 : Int32) (u : xk_St) : Option (Int32 × xk_St) :=
  (xs_let (xs_I u 7 (1 : Int32)) fun u3 => some (b1, u3))
noncomputable def fm_Model_takeReference (u : xk_St) : Option (Int32 × xk_St) :=
  (xs_seq (fm_Model_pop u) fun a1 u2 => if (u2.1 7) = (0 : Int32) then (if a1 = (0 : Int32) then ((xs_let (xs_I u2 7 (0 : Int32)) fun u4 => some (a1, u4))) else ((xs_seq (fm_Model_isReference a1 u2) fun a5 u6 => if a5 = (0 : Int32) then (jb_Model_takeReference_24 a1 u6) else ((xs_let (xs_I u6 7 (0 : Int32)) fun u7 => some (a1, u7)))))) else (jb_Model_takeReference_24 a1 u2))
set_option maxHeartbeats 4000000 in
set_option maxRecDepth 100000 in
theorem wj_Model_takeReference_24 {p : Program} {l : Launch} {e : Env} {s : State} {m : MethodId} {args : Array Value} {below : List Frame} {meth : Method} {c : Code} {D : va_G} {ad : Nat → Nat} {ca : Nat → ClassId} {ads : List Nat} (htr : l.stackTraces = false) (C : xk_C D kx_cl (kx_ty ca) (kw_m ad ca) ads "ModuleHouseModel" prog_14_method_61_code 2 (some .int) p e s m args meth c) (hne : c.exceptionTable.isEmpty = true) {u' : xk_St} {r : Int32} {b1 : Int32} {u : xk_St} {H : Heap} {locs : List Loc} {ls : Array Slot} (h : jb_Model_takeReference_24  b1 u = some (r, u')) (hP : va_P D kx_cl (kw_m ad ca u) H) (hS : va_S (xk_A ads s.heap.size) s.heap H locs) (hl : lv_has ls 2 [(1, .int b1)]) : W p l e rm_Model_takeReference s m args below meth c H locs 0 0 (xk_MQ below (xk_Qc D kx_cl (kw_m ad ca) ads (xo_i (.inl r)) u') args s (xk_A ads s.heap.size)) (F0 m 24 ls [.ref (ad 0)]) := by
  have hx := C.1.1
  have hb := C.1.2.1
  have hok := C.2.2.1
  unfold jb_Model_takeReference_24 at h
  refine lv_iconst (v := 1) hx hb dd_Model_takeReference_24 (by decide) ?_
  refine lv_goto (tgt := 29) hx hb dd_Model_takeReference_25 (by decide) ?_
  refine pf_m_Model_0_wrong C hP hS (by decide) dd_Model_takeReference_29 (fun H locs hP hS => ?_)
  obtain ⟨u3, eu3, h⟩ := xp_let h
  rw [← eu3] at hP
  refine lv_iload_n hx hb dd_Model_takeReference_32 rfl (lv_at hl 0 rfl) ?_
  obtain ⟨rfl, rfl⟩ := xp_r h
  exact xr_iret C hP hS dd_Model_takeReference_33
set_option maxHeartbeats 4000000 in
set_option maxRecDepth 100000 in
theorem ct_Model_takeReference {l : Launch} {D : va_G} {ad : Nat → Nat} {ca : Nat → ClassId} {ads : List Nat} (htr : l.stackTraces = false) (hok : xk_ok (kw_m ad ca) ads) {u u' : xk_St} {r : Int32} (h : fm_Model_takeReference u = some (r, u')) :
    ∀ sz, xk_Met l ⟨"ModuleHouseModel", "takeReference", "()I"⟩ (Cond.code ⟨"ModuleHouseModel", "takeReference", "()I"⟩ prog_14_method_61_code 2 (some .int) :: xk_gd) rm_Model_takeReference (xk_Pc D kx_cl (kx_ty ca) (kw_m ad ca) ads xk_F sz [.ref (ad 0)] u) (xk_Qc D kx_cl (kw_m ad ca) ads (xo_i (.inl r)) u') (xk_A ads sz) := by
  unfold fm_Model_takeReference at h
  refine xk_con (by decide) htr hok (Nat.le_of_ble_eq_true rfl) (fun p e s m below meth c ls C hne hl hP => ?_)
  have hx := C.1.1
  have hb := C.1.2.1
  have hS : va_S (xk_A ads s.heap.size) s.heap s.heap [] := va_S.rf
  have hl : lv_has ls 2 [(0, .ref (ad 0))] := hl
  refine lv_aload_n hx hb dd_Model_takeReference_0 rfl (lv_at hl 0 rfl) ?_
  obtain ⟨a1, u2, hq, h⟩ := xp_seq h
  refine xk_goesI (xr_V (As := []) (rest := []) C hP hS (ct_Model_pop htr hok hq) kq_Model_493 0 11 rfl rfl ⟨rfl, rfl, Nat.le_of_ble_eq_true rfl, Nat.le_of_ble_eq_true rfl⟩ ⟨Nat.le_of_ble_eq_true rfl, Nat.le_of_ble_eq_true rfl⟩ hl.1 rfl rfl (Nat.le_of_ble_eq_true rfl) dd_Model_takeReference_1) hS (fun H locs hP hS => ?_)
  clear hq
  refine lv_istore_n (lv' := [(1, .int a1), (0, .ref (ad 0))]) hx hb dd_Model_takeReference_4 rfl hl (by decide) rfl (fun ls hl => ?_)
  refine lv_aload_n hx hb dd_Model_takeReference_5 rfl (lv_at hl 1 rfl) ?_
  refine lv_aload_n hx hb dd_Model_takeReference_6 rfl (lv_at hl 1 rfl) ?_
  refine gf_m_Model_0_wrong C hP dd_Model_takeReference_7 ?_
  refine lv_if_ne (tgt := 24) hx hb dd_Model_takeReference_10 (by decide) (fun hc => ?_) (fun hc => ?_)
  · have h := xp_f hc h
    exact wj_Model_takeReference_24 htr C hne h hP hS (lv_sub hl [0] rfl)
  · have h := xp_t hc h
    refine lv_iload_n hx hb dd_Model_takeReference_13 rfl (lv_at hl 0 rfl) ?_
    refine lv_if_eq (tgt := 28) hx hb dd_Model_takeReference_14 (by decide) (fun hc => ?_) (fun hc => ?_)
    · have h := xp_t hc h
      refine lv_iconst (v := 0) hx hb dd_Model_takeReference_28 (by decide) ?_
      refine pf_m_Model_0_wrong C hP hS (by decide) dd_Model_takeReference_29 (fun H locs hP hS => ?_)
      obtain ⟨u4, eu4, h⟩ := xp_let h
      rw [← eu4] at hP
      refine lv_iload_n hx hb dd_Model_takeReference_32 rfl (lv_at hl 0 rfl) ?_
      obtain ⟨rfl, rfl⟩ := xp_r h
      exact xr_iret C hP hS dd_Model_takeReference_33
    · have h := xp_f hc h
      refine lv_iload_n hx hb dd_Model_takeReference_17 rfl (lv_at hl 0 rfl) ?_
      obtain ⟨a5, u6, hq, h⟩ := xp_seq h
      refine xk_goesI (xr_S (As := [.int a1]) (rest := [.ref (ad 0)]) C hP hS (ct_Model_isReference htr hok hq) kq_Model_384 ⟨rfl, rfl, Nat.le_of_ble_eq_true rfl, Nat.le_of_ble_eq_true rfl⟩ ⟨Nat.le_of_ble_eq_true rfl, Nat.le_of_ble_eq_true rfl⟩ hl.1 rfl rfl (Nat.le_of_ble_eq_true rfl) dd_Model_takeReference_18) hS (fun H locs hP hS => ?_)
      clear hq
      refine lv_if_ne (tgt := 28) hx hb dd_Model_takeReference_21 (by decide) (fun hc => ?_) (fun hc => ?_)
      · have h := xp_f hc h
        refine lv_iconst (v := 0) hx hb dd_Model_takeReference_28 (by decide) ?_
        refine pf_m_Model_0_wrong C hP hS (by decide) dd_Model_takeReference_29 (fun H locs hP hS => ?_)
        obtain ⟨u7, eu7, h⟩ := xp_let h
        rw [← eu7] at hP
        refine lv_iload_n hx hb dd_Model_takeReference_32 rfl (lv_at hl 0 rfl) ?_
        obtain ⟨rfl, rfl⟩ := xp_r h
        exact xr_iret C hP hS dd_Model_takeReference_33
      · have h := xp_t hc h
        exact wj_Model_takeReference_24 htr C hne h hP hS (lv_sub hl [0] rfl)
abbrev rm_Model_objectType : Room := { frames := 1, cells := 1, slots := 6, locals := 0 }
noncomputable def fm_Model_objectType (x0 : Int32) (u : xk_St) : Option (Int32 × xk_St) :=
  if ((u.1 12).toInt64) ≤ (u.2.1 0) then ((xs_let (xs_I u 7 (1 : Int32)) fun u1 => some ((-1 : Int32), u1))) else ((if ((u.2.1 0).toInt32) < 0 ∨ 64 ≤ ((u.2.1 0).toInt32).toNatClampNeg then none else if (u.2.2.1 4 ((u.2.1 0).toInt32).toNatClampNeg) = x0 then (some (((u.2.1 0).toInt32), u)) else ((xs_let (xs_I u 7 (1 : Int32)) fun u2 => some ((-1 : Int32), u2)))))
set_option maxHeartbeats 4000000 in
set_option maxRecDepth 100000 in
theorem ct_Model_objectType {l : Launch} {D : va_G} {ad : Nat → Nat} {ca : Nat → ClassId} {ads : List Nat} (htr : l.stackTraces = false) (hok : xk_ok (kw_m ad ca) ads) {x0 : Int32} {u u' : xk_St} {r : Int32} (h : fm_Model_objectType x0 u = some (r, u')) :
    ∀ sz, xk_Met l ⟨"ModuleHouseModel", "objectType", "(I)I"⟩ (Cond.code ⟨"ModuleHouseModel", "objectType", "(I)I"⟩ prog_14_method_92_code 2 (some .int) :: xk_gd) rm_Model_objectType (xk_Pc D kx_cl (kx_ty ca) (kw_m ad ca) ads xk_F sz [.ref (ad 0), .int x0] u) (xk_Qc D kx_cl (kw_m ad ca) ads (xo_i (.inl r)) u') (xk_A ads sz) := by
  unfold fm_Model_objectType at h
  refine xk_con (by decide) htr hok (Nat.le_of_ble_eq_true rfl) (fun p e s m below meth c ls C hne hl hP => ?_)
  have hx := C.1.1
  have hb := C.1.2.1
  have hS : va_S (xk_A ads s.heap.size) s.heap s.heap [] := va_S.rf
  have hl : lv_has ls 2 [(0, .ref (ad 0)), (1, .int x0)] := hl
  refine lv_aload_n hx hb dd_Model_objectType_0 rfl (lv_at hl 0 rfl) ?_
  refine gf_m_Model_0_x C hP dd_Model_objectType_1 ?_
  refine lv_aload_n hx hb dd_Model_objectType_4 rfl (lv_at hl 0 rfl) ?_
  refine gf_m_Model_0_types C hP dd_Model_objectType_5 ?_
  refine lv_i2l hx hb dd_Model_objectType_8 rfl ?_
  refine xr_lc_ge (tgt := 27) hx hb dd_Model_objectType_9 dd_Model_objectType_10 (by decide) (fun hc => ?_) (fun hc => ?_)
  · have h := xp_t hc h
    refine lv_aload_n hx hb dd_Model_objectType_27 rfl (lv_at hl 0 rfl) ?_
    refine lv_iconst (v := 1) hx hb dd_Model_objectType_28 (by decide) ?_
    refine pf_m_Model_0_wrong C hP hS (by decide) dd_Model_objectType_29 (fun H locs hP hS => ?_)
    obtain ⟨u1, eu1, h⟩ := xp_let h
    rw [← eu1] at hP
    refine lv_iconst (v := (-1)) hx hb dd_Model_objectType_32 (by decide) ?_
    obtain ⟨rfl, rfl⟩ := xp_r h
    exact xr_iret C hP hS dd_Model_objectType_33
  · have h := xp_f hc h
    refine lv_aload_n hx hb dd_Model_objectType_13 rfl (lv_at hl 0 rfl) ?_
    refine gf_m_Model_0_kinds C hP dd_Model_objectType_14 ?_
    refine lv_aload_n hx hb dd_Model_objectType_17 rfl (lv_at hl 0 rfl) ?_
    refine gf_m_Model_0_x C hP dd_Model_objectType_18 ?_
    refine lv_l2i hx hb dd_Model_objectType_21 rfl ?_
    obtain ⟨hi, h⟩ := xp_g h
    refine al_m_6 C hP hi dd_Model_objectType_22 ?_
    refine lv_iload_n hx hb dd_Model_objectType_23 rfl (lv_at hl 1 rfl) ?_
    refine lv_icmp_eq (tgt := 34) hx hb dd_Model_objectType_24 (by decide) (fun hc => ?_) (fun hc => ?_)
    · have h := xp_t hc h
      refine lv_aload_n hx hb dd_Model_objectType_34 rfl (lv_at hl 0 rfl) ?_
      refine gf_m_Model_0_x C hP dd_Model_objectType_35 ?_
      refine lv_l2i hx hb dd_Model_objectType_38 rfl ?_
      obtain ⟨rfl, rfl⟩ := xp_r h
      exact xr_iret C hP hS dd_Model_objectType_39
    · have h := xp_f hc h
      refine lv_aload_n hx hb dd_Model_objectType_27 rfl (lv_at hl 0 rfl) ?_
      refine lv_iconst (v := 1) hx hb dd_Model_objectType_28 (by decide) ?_
      refine pf_m_Model_0_wrong C hP hS (by decide) dd_Model_objectType_29 (fun H locs hP hS => ?_)
      obtain ⟨u2, eu2, h⟩ := xp_let h
      rw [← eu2] at hP
      refine lv_iconst (v := (-1)) hx hb dd_Model_objectType_32 (by decide) ?_
      obtain ⟨rfl, rfl⟩ := xp_r h
      exact xr_iret C hP hS dd_Model_objectType_33
abbrev rm_Model_unpacked : Room := { frames := 1, cells := 1, slots := 6, locals := 0 }
noncomputable def jb_Model_unpacked_10 (u : xk_St) : Option (Int32 × xk_St) :=
  some ((1 : Int32), u)
noncomputable def fm_Model_unpacked (x0 : Int32) (u : xk_St) : Option (Int32 × xk_St) :=
  if x0 = (3 : Int32) then (jb_Model_unpacked_10 u) else (if x0 = (4 : Int32) then (jb_Model_unpacked_10 u) else (some (x0, u)))
set_option maxHeartbeats 4000000 in
set_option maxRecDepth 100000 in
theorem wj_Model_unpacked_10 {p : Program} {l : Launch} {e : Env} {s : State} {m : MethodId} {args : Array Value} {below : List Frame} {meth : Method} {c : Code} {D : va_G} {ad : Nat → Nat} {ca : Nat → ClassId} {ads : List Nat} (htr : l.stackTraces = false) (C : xk_C D kx_cl (kx_ty ca) (kw_m ad ca) ads "ModuleHouseModel" prog_14_method_90_code 1 (some .int) p e s m args meth c) (hne : c.exceptionTable.isEmpty = true) {u' : xk_St} {r : Int32} {u : xk_St} {H : Heap} {locs : List Loc} {ls : Array Slot} (h : jb_Model_unpacked_10   u = some (r, u')) (hP : va_P D kx_cl (kw_m ad ca u) H) (hS : va_S (xk_A ads s.heap.size) s.heap H locs) (hl : lv_has ls 1 []) : W p l e rm_Model_unpacked s m args below meth c H locs 0 0 (xk_MQ below (xk_Qc D kx_cl (kw_m ad ca) ads (xo_i (.inl r)) u') args s (xk_A ads s.heap.size)) (F0 m 10 ls []) := by
  have hx := C.1.1
  have hb := C.1.2.1
  have hok := C.2.2.1
  unfold jb_Model_unpacked_10 at h
  refine lv_iconst (v := 1) hx hb dd_Model_unpacked_10 (by decide) ?_
  refine lv_goto (tgt := 15) hx hb dd_Model_unpacked_11 (by decide) ?_
  obtain ⟨rfl, rfl⟩ := xp_r h
  exact xr_iret C hP hS dd_Model_unpacked_15
set_option maxHeartbeats 4000000 in
set_option maxRecDepth 100000 in
theorem ct_Model_unpacked {l : Launch} {D : va_G} {ad : Nat → Nat} {ca : Nat → ClassId} {ads : List Nat} (htr : l.stackTraces = false) (hok : xk_ok (kw_m ad ca) ads) {x0 : Int32} {u u' : xk_St} {r : Int32} (h : fm_Model_unpacked x0 u = some (r, u')) :
    ∀ sz, xk_Met l ⟨"ModuleHouseModel", "unpacked", "(I)I"⟩ (Cond.code ⟨"ModuleHouseModel", "unpacked", "(I)I"⟩ prog_14_method_90_code 1 (some .int) :: xk_gd) rm_Model_unpacked (xk_Pc D kx_cl (kx_ty ca) (kw_m ad ca) ads xk_F sz [.int x0] u) (xk_Qc D kx_cl (kw_m ad ca) ads (xo_i (.inl r)) u') (xk_A ads sz) := by
  unfold fm_Model_unpacked at h
  refine xk_con (by decide) htr hok (Nat.le_of_ble_eq_true rfl) (fun p e s m below meth c ls C hne hl hP => ?_)
  have hx := C.1.1
  have hb := C.1.2.1
  have hS : va_S (xk_A ads s.heap.size) s.heap s.heap [] := va_S.rf
  have hl : lv_has ls 1 [(0, .int x0)] := hl
  refine lv_iload_n hx hb dd_Model_unpacked_0 rfl (lv_at hl 0 rfl) ?_
  refine lv_iconst (v := 3) hx hb dd_Model_unpacked_1 (by decide) ?_
  refine lv_icmp_eq (tgt := 10) hx hb dd_Model_unpacked_2 (by decide) (fun hc => ?_) (fun hc => ?_)
  · have h := xp_t hc h
    exact wj_Model_unpacked_10 htr C hne h hP hS (lv_sub hl [] rfl)
  · have h := xp_f hc h
    refine lv_iload_n hx hb dd_Model_unpacked_5 rfl (lv_at hl 0 rfl) ?_
    refine lv_iconst (v := 4) hx hb dd_Model_unpacked_6 (by decide) ?_
    refine lv_icmp_ne (tgt := 14) hx hb dd_Model_unpacked_7 (by decide) (fun hc => ?_) (fun hc => ?_)
    · have h := xp_f hc h
      refine lv_iload_n hx hb dd_Model_unpacked_14 rfl (lv_at hl 0 rfl) ?_
      obtain ⟨rfl, rfl⟩ := xp_r h
      exact xr_iret C hP hS dd_Model_unpacked_15
    · have h := xp_t hc h
      exact wj_Model_unpacked_10 htr C hne h hP hS (lv_sub hl [] rfl)
abbrev rm_Model_checkPart : Room := { frames := 4, cells := 1, slots := 6, locals := 65 }
noncomputable def jb_Model_checkPart_82 (b1 : Int32) (b2 : Int32) (b3 : Int32) (u : xk_St) : Option (Unit × xk_St) :=
  (xs_seq (fm_Model_reference ((2 : Int32) + b1) (1 : Int32) u) fun a2 u3 => xs_seq (fm_Model_take a2 u3) fun _ u4 => if b3 = (0 : Int32) then ((xs_seq (fm_Model_unpacked b2 u4) fun a5 u6 => xs_seq (fm_Model_push a5 u6) fun _ u7 => some ((()), u7))) else (some ((()), u4)))
noncomputable def jb_Model_checkPart_72 (b1 : Int32) (b2 : Int32) (b3 : Int32) (b6 : Int32) (u : xk_St) : Option (Unit × xk_St) :=
  if b6 = (0 : Int32) then (jb_Model_checkPart_82 b1 b2 b3 u) else ((xs_seq (fm_Model_take (1 : Int32) u) fun _ u8 => jb_Model_checkPart_82 b1 b2 b3 u8))
noncomputable def jb_Model_checkPart_57 (b1 : Int32) (b2 : Int32) (b3 : Int32) (b6 : Int32) (s0 : Int32) (u : xk_St) : Option (Unit × xk_St) :=
  (if s0 = 0 ∨ s0 = 1 then ( xs_let (xs_I u 7 s0) fun u1 => if b3 = (0 : Int32) then (jb_Model_checkPart_72 b1 b2 b3 b6 u1) else ((xs_seq (fm_Model_unpacked b2 u1) fun a9 u10 => xs_seq (fm_Model_take a9 u10) fun _ u11 => jb_Model_checkPart_72 b1 b2 b3 b6 u11))  ) else none)
noncomputable def jb_Model_checkPart_52 (b1 : Int32) (b2 : Int32) (b3 : Int32) (b6 : Int32) (u : xk_St) : Option (Unit × xk_St) :=
  jb_Model_checkPart_57 b1 b2 b3 b6 (1 : Int32) u
noncomputable def jb_Model_checkPart_56 (b1 : Int32) (b2 : Int32) (b3 : Int32) (b6 : Int32) (u : xk_St) : Option (Unit × xk_St) :=
  jb_Model_checkPart_57 b1 b2 b3 b6 (0 : Int32) u
noncomputable def jb_Model_checkPart_49 (b1 : Int32) (b2 : Int32) (b3 : Int32) (b6 : Int32) (s0 : Int32) (s1 : Int32) (u : xk_St) : Option (Unit × xk_St) :=
  if s1 = s0 then (jb_Model_checkPart_56 b1 b2 b3 b6 u) else (jb_Model_checkPart_52 b1 b2 b3 b6 u)
noncomputable def jb_Model_checkPart_15 (b1 : Int32) (b2 : Int32) (b3 : Int32) (b4 : Int32) (b5 : Int32) (b6 : Int32) (s0 : Int32) (u : xk_St) : Option (Unit × xk_St) :=
  if (u.1 7) = (0 : Int32) then (if b3 = (0 : Int32) then (if b4 ≤ (0 : Int32) then (jb_Model_checkPart_49 b1 b2 b3 b6 (0 : Int32) s0 u) else (jb_Model_checkPart_49 b1 b2 b3 b6 (1 : Int32) s0 u)) else (if b5 = (0 : Int32) then (jb_Model_checkPart_52 b1 b2 b3 b6 u) else (jb_Model_checkPart_56 b1 b2 b3 b6 u))) else (jb_Model_checkPart_52 b1 b2 b3 b6 u)
noncomputable def jb_Model_checkPart_10 (b1 : Int32) (b2 : Int32) (b3 : Int32) (b4 : Int32) (b5 : Int32) (b6 : Int32) (u : xk_St) : Option (Unit × xk_St) :=
  jb_Model_checkPart_15 b1 b2 b3 b4 b5 b6 (1 : Int32) u
noncomputable def fm_Model_checkPart (x0 : Int32) (x1 : Int32) (x2 : Int32) (x3 : Int32) (x4 : Int32) (x5 : Int32) (u : xk_St) : Option (Unit × xk_St) :=
  if x1 = (3 : Int32) then (jb_Model_checkPart_10 x0 x1 x2 x3 x4 x5 u) else (if x1 = (4 : Int32) then (jb_Model_checkPart_10 x0 x1 x2 x3 x4 x5 u) else (jb_Model_checkPart_15 x0 x1 x2 x3 x4 x5 (0 : Int32) u))
set_option maxHeartbeats 4000000 in
set_option maxRecDepth 100000 in
theorem wj_Model_checkPart_82 {p : Program} {l : Launch} {e : Env} {s : State} {m : MethodId} {args : Array Value} {below : List Frame} {meth : Method} {c : Code} {D : va_G} {ad : Nat → Nat} {ca : Nat → ClassId} {ads : List Nat} (htr : l.stackTraces = false) (C : xk_C D kx_cl (kx_ty ca) (kw_m ad ca) ads "ModuleHouseModel" prog_14_method_95_code 8 none p e s m args meth c) (hne : c.exceptionTable.isEmpty = true) {u' : xk_St} {r : Unit} {b1 : Int32} {b2 : Int32} {b3 : Int32} {u : xk_St} {H : Heap} {locs : List Loc} {ls : Array Slot} (h : jb_Model_checkPart_82  b1 b2 b3 u = some (r, u')) (hP : va_P D kx_cl (kw_m ad ca u) H) (hS : va_S (xk_A ads s.heap.size) s.heap H locs) (hl : lv_has ls 8 [(0, .ref (ad 0)), (1, .int b1), (2, .int b2), (3, .int b3)]) : W p l e rm_Model_checkPart s m args below meth c H locs 0 0 (xk_MQ below (xk_Qc D kx_cl (kw_m ad ca) ads (xo_v (.inl r)) u') args s (xk_A ads s.heap.size)) (F0 m 82 ls []) := by
  have hx := C.1.1
  have hb := C.1.2.1
  have hok := C.2.2.1
  unfold jb_Model_checkPart_82 at h
  refine lv_aload_n hx hb dd_Model_checkPart_82 rfl (lv_at hl 0 rfl) ?_
  refine lv_iconst (v := 2) hx hb dd_Model_checkPart_83 (by decide) ?_
  refine lv_iload_n hx hb dd_Model_checkPart_84 rfl (lv_at hl 1 rfl) ?_
  refine lv_iadd hx hb dd_Model_checkPart_85 ?_
  refine lv_iconst (v := 1) hx hb dd_Model_checkPart_86 (by decide) ?_
  obtain ⟨a2, u3, hq, h⟩ := xp_seq h
  refine xk_goesI (xr_S (As := [.int ((2 : Int32) + b1), .int (1 : Int32)]) (rest := [.ref (ad 0)]) C hP hS (ct_Model_reference htr hok hq) kq_Model_203 ⟨rfl, rfl, Nat.le_of_ble_eq_true rfl, Nat.le_of_ble_eq_true rfl⟩ ⟨Nat.le_of_ble_eq_true rfl, Nat.le_of_ble_eq_true rfl⟩ hl.1 rfl rfl (Nat.le_of_ble_eq_true rfl) dd_Model_checkPart_87) hS (fun H locs hP hS => ?_)
  clear hq
  obtain ⟨rx, u4, hq, h⟩ := xp_seq h
  refine xk_goesV (xr_V (As := [.int a2]) (rest := []) C hP hS (ct_Model_take htr hok hq) kq_Model_504 0 11 rfl rfl ⟨rfl, rfl, Nat.le_of_ble_eq_true rfl, Nat.le_of_ble_eq_true rfl⟩ ⟨Nat.le_of_ble_eq_true rfl, Nat.le_of_ble_eq_true rfl⟩ hl.1 rfl rfl (Nat.le_of_ble_eq_true rfl) dd_Model_checkPart_90) hS (fun H locs hP hS => ?_)
  clear hq
  refine lv_iload_n hx hb dd_Model_checkPart_93 rfl (lv_at hl 3 rfl) ?_
  refine lv_if_ne (tgt := 105) hx hb dd_Model_checkPart_94 (by decide) (fun hc => ?_) (fun hc => ?_)
  · have h := xp_f hc h
    obtain ⟨rfl, rfl⟩ := xp_r h
    exact xr_vret C hP hS dd_Model_checkPart_105
  · have h := xp_t hc h
    refine lv_aload_n hx hb dd_Model_checkPart_97 rfl (lv_at hl 0 rfl) ?_
    refine lv_iload_n hx hb dd_Model_checkPart_98 rfl (lv_at hl 2 rfl) ?_
    obtain ⟨a5, u6, hq, h⟩ := xp_seq h
    refine xk_goesI (xr_S (As := [.int b2]) (rest := [.ref (ad 0)]) C hP hS (ct_Model_unpacked htr hok hq) kq_Model_639 ⟨rfl, rfl, Nat.le_of_ble_eq_true rfl, Nat.le_of_ble_eq_true rfl⟩ ⟨Nat.le_of_ble_eq_true rfl, Nat.le_of_ble_eq_true rfl⟩ hl.1 rfl rfl (Nat.le_of_ble_eq_true rfl) dd_Model_checkPart_99) hS (fun H locs hP hS => ?_)
    clear hq
    obtain ⟨rx, u7, hq, h⟩ := xp_seq h
    refine xk_goesV (xr_V (As := [.int a5]) (rest := []) C hP hS (ct_Model_push htr hok hq) kq_Model_507 0 11 rfl rfl ⟨rfl, rfl, Nat.le_of_ble_eq_true rfl, Nat.le_of_ble_eq_true rfl⟩ ⟨Nat.le_of_ble_eq_true rfl, Nat.le_of_ble_eq_true rfl⟩ hl.1 rfl rfl (Nat.le_of_ble_eq_true rfl) dd_Model_checkPart_102) hS (fun H locs hP hS => ?_)
    clear hq
    obtain ⟨rfl, rfl⟩ := xp_r h
    exact xr_vret C hP hS dd_Model_checkPart_105
set_option maxHeartbeats 4000000 in
set_option maxRecDepth 100000 in
theorem wj_Model_checkPart_72 {p : Program} {l : Launch} {e : Env} {s : State} {m : MethodId} {args : Array Value} {below : List Frame} {meth : Method} {c : Code} {D : va_G} {ad : Nat → Nat} {ca : Nat → ClassId} {ads : List Nat} (htr : l.stackTraces = false) (C : xk_C D kx_cl (kx_ty ca) (kw_m ad ca) ads "ModuleHouseModel" prog_14_method_95_code 8 none p e s m args meth c) (hne : c.exceptionTable.isEmpty = true) {u' : xk_St} {r : Unit} {b1 : Int32} {b2 : Int32} {b3 : Int32} {b6 : Int32} {u : xk_St} {H : Heap} {locs : List Loc} {ls : Array Slot} (h : jb_Model_checkPart_72  b1 b2 b3 b6 u = some (r, u')) (hP : va_P D kx_cl (kw_m ad ca u) H) (hS : va_S (xk_A ads s.heap.size) s.heap H locs) (hl : lv_has ls 8 [(0, .ref (ad 0)), (1, .int b1), (2, .int b2), (3, .int b3), (6, .int b6)]) : W p l e rm_Model_checkPart s m args below meth c H locs 0 0 (xk_MQ below (xk_Qc D kx_cl (kw_m ad ca) ads (xo_v (.inl r)) u') args s (xk_A ads s.heap.size)) (F0 m 72 ls []) := by
  have hx := C.1.1
  have hb := C.1.2.1
  have hok := C.2.2.1
  unfold jb_Model_checkPart_72 at h
  refine lv_iload hx hb dd_Model_checkPart_72 (lv_at hl 4 rfl) ?_
  refine lv_if_eq (tgt := 82) hx hb dd_Model_checkPart_74 (by decide) (fun hc => ?_) (fun hc => ?_)
  · have h := xp_t hc h
    exact wj_Model_checkPart_82 htr C hne h hP hS (lv_sub hl [0, 1, 2, 3] rfl)
  · have h := xp_f hc h
    refine lv_aload_n hx hb dd_Model_checkPart_77 rfl (lv_at hl 0 rfl) ?_
    refine lv_iconst (v := 1) hx hb dd_Model_checkPart_78 (by decide) ?_
    obtain ⟨rx, u8, hq, h⟩ := xp_seq h
    refine xk_goesV (xr_V (As := [.int (1 : Int32)]) (rest := []) C hP hS (ct_Model_take htr hok hq) kq_Model_504 0 11 rfl rfl ⟨rfl, rfl, Nat.le_of_ble_eq_true rfl, Nat.le_of_ble_eq_true rfl⟩ ⟨Nat.le_of_ble_eq_true rfl, Nat.le_of_ble_eq_true rfl⟩ hl.1 rfl rfl (Nat.le_of_ble_eq_true rfl) dd_Model_checkPart_79) hS (fun H locs hP hS => ?_)
    clear hq
    exact wj_Model_checkPart_82 htr C hne h hP hS (lv_sub hl [0, 1, 2, 3] rfl)
set_option maxHeartbeats 4000000 in
set_option maxRecDepth 100000 in
theorem wj_Model_checkPart_57 {p : Program} {l : Launch} {e : Env} {s : State} {m : MethodId} {args : Array Value} {below : List Frame} {meth : Method} {c : Code} {D : va_G} {ad : Nat → Nat} {ca : Nat → ClassId} {ads : List Nat} (htr : l.stackTraces = false) (C : xk_C D kx_cl (kx_ty ca) (kw_m ad ca) ads "ModuleHouseModel" prog_14_method_95_code 8 none p e s m args meth c) (hne : c.exceptionTable.isEmpty = true) {u' : xk_St} {r : Unit} {b1 : Int32} {b2 : Int32} {b3 : Int32} {b6 : Int32} {s0 : Int32} {u : xk_St} {H : Heap} {locs : List Loc} {ls : Array Slot} (h : jb_Model_checkPart_57  b1 b2 b3 b6 s0 u = some (r, u')) (hP : va_P D kx_cl (kw_m ad ca u) H) (hS : va_S (xk_A ads s.heap.size) s.heap H locs) (hl : lv_has ls 8 [(0, .ref (ad 0)), (1, .int b1), (2, .int b2), (3, .int b3), (6, .int b6)]) : W p l e rm_Model_checkPart s m args below meth c H locs 0 0 (xk_MQ below (xk_Qc D kx_cl (kw_m ad ca) ads (xo_v (.inl r)) u') args s (xk_A ads s.heap.size)) (F0 m 57 ls [.int s0, .ref (ad 0)]) := by
  have hx := C.1.1
  have hb := C.1.2.1
  have hok := C.2.2.1
  unfold jb_Model_checkPart_57 at h
  obtain ⟨hz, h⟩ := xp_p h
  refine pf_m_Model_0_wrong C hP hS hz dd_Model_checkPart_57 (fun H locs hP hS => ?_)
  obtain ⟨u1, eu1, h⟩ := xp_let h
  rw [← eu1] at hP
  refine lv_iload_n hx hb dd_Model_checkPart_60 rfl (lv_at hl 3 rfl) ?_
  refine lv_if_eq (tgt := 72) hx hb dd_Model_checkPart_61 (by decide) (fun hc => ?_) (fun hc => ?_)
  · have h := xp_t hc h
    exact wj_Model_checkPart_72 htr C hne h hP hS (lv_sub hl [0, 1, 2, 3, 4] rfl)
  · have h := xp_f hc h
    refine lv_aload_n hx hb dd_Model_checkPart_64 rfl (lv_at hl 0 rfl) ?_
    refine lv_iload_n hx hb dd_Model_checkPart_65 rfl (lv_at hl 2 rfl) ?_
    obtain ⟨a9, u10, hq, h⟩ := xp_seq h
    refine xk_goesI (xr_S (As := [.int b2]) (rest := [.ref (ad 0)]) C hP hS (ct_Model_unpacked htr hok hq) kq_Model_639 ⟨rfl, rfl, Nat.le_of_ble_eq_true rfl, Nat.le_of_ble_eq_true rfl⟩ ⟨Nat.le_of_ble_eq_true rfl, Nat.le_of_ble_eq_true rfl⟩ hl.1 rfl rfl (Nat.le_of_ble_eq_true rfl) dd_Model_checkPart_66) hS (fun H locs hP hS => ?_)
    clear hq
    obtain ⟨rx, u11, hq, h⟩ := xp_seq h
    refine xk_goesV (xr_V (As := [.int a9]) (rest := []) C hP hS (ct_Model_take htr hok hq) kq_Model_504 0 11 rfl rfl ⟨rfl, rfl, Nat.le_of_ble_eq_true rfl, Nat.le_of_ble_eq_true rfl⟩ ⟨Nat.le_of_ble_eq_true rfl, Nat.le_of_ble_eq_true rfl⟩ hl.1 rfl rfl (Nat.le_of_ble_eq_true rfl) dd_Model_checkPart_69) hS (fun H locs hP hS => ?_)
    clear hq
    exact wj_Model_checkPart_72 htr C hne h hP hS (lv_sub hl [0, 1, 2, 3, 4] rfl)
set_option maxHeartbeats 4000000 in
set_option maxRecDepth 100000 in
theorem wj_Model_checkPart_52 {p : Program} {l : Launch} {e : Env} {s : State} {m : MethodId} {args : Array Value} {below : List Frame} {meth : Method} {c : Code} {D : va_G} {ad : Nat → Nat} {ca : Nat → ClassId} {ads : List Nat} (htr : l.stackTraces = false) (C : xk_C D kx_cl (kx_ty ca) (kw_m ad ca) ads "ModuleHouseModel" prog_14_method_95_code 8 none p e s m args meth c) (hne : c.exceptionTable.isEmpty = true) {u' : xk_St} {r : Unit} {b1 : Int32} {b2 : Int32} {b3 : Int32} {b6 : Int32} {u : xk_St} {H : Heap} {locs : List Loc} {ls : Array Slot} (h : jb_Model_checkPart_52  b1 b2 b3 b6 u = some (r, u')) (hP : va_P D kx_cl (kw_m ad ca u) H) (hS : va_S (xk_A ads s.heap.size) s.heap H locs) (hl : lv_has ls 8 [(0, .ref (ad 0)), (1, .int b1), (2, .int b2), (3, .int b3), (6, .int b6)]) : W p l e rm_Model_checkPart s m args below meth c H locs 0 0 (xk_MQ below (xk_Qc D kx_cl (kw_m ad ca) ads (xo_v (.inl r)) u') args s (xk_A ads s.heap.size)) (F0 m 52 ls [.ref (ad 0)]) := by
  have hx := C.1.1
  have hb := C.1.2.1
  have hok := C.2.2.1
  unfold jb_Model_checkPart_52 at h
  refine lv_iconst (v := 1) hx hb dd_Model_checkPart_52 (by decide) ?_
  refine lv_goto (tgt := 57) hx hb dd_Model_checkPart_53 (by decide) ?_
  exact wj_Model_checkPart_57 htr C hne h hP hS (lv_sub hl [0, 1, 2, 3, 4] rfl)
set_option maxHeartbeats 4000000 in
set_option maxRecDepth 100000 in
theorem wj_Model_checkPart_56 {p : Program} {l : Launch} {e : Env} {s : State} {m : MethodId} {args : Array Value} {below : List Frame} {meth : Method} {c : Code} {D : va_G} {ad : Nat → Nat} {ca : Nat → ClassId} {ads : List Nat} (htr : l.stackTraces = false) (C : xk_C D kx_cl (kx_ty ca) (kw_m ad ca) ads "ModuleHouseModel" prog_14_method_95_code 8 none p e s m args meth c) (hne : c.exceptionTable.isEmpty = true) {u' : xk_St} {r : Unit} {b1 : Int32} {b2 : Int32} {b3 : Int32} {b6 : Int32} {u : xk_St} {H : Heap} {locs : List Loc} {ls : Array Slot} (h : jb_Model_checkPart_56  b1 b2 b3 b6 u = some (r, u')) (hP : va_P D kx_cl (kw_m ad ca u) H) (hS : va_S (xk_A ads s.heap.size) s.heap H locs) (hl : lv_has ls 8 [(0, .ref (ad 0)), (1, .int b1), (2, .int b2), (3, .int b3), (6, .int b6)]) : W p l e rm_Model_checkPart s m args below meth c H locs 0 0 (xk_MQ below (xk_Qc D kx_cl (kw_m ad ca) ads (xo_v (.inl r)) u') args s (xk_A ads s.heap.size)) (F0 m 56 ls [.ref (ad 0)]) := by
  have hx := C.1.1
  have hb := C.1.2.1
  have hok := C.2.2.1
  unfold jb_Model_checkPart_56 at h
  refine lv_iconst (v := 0) hx hb dd_Model_checkPart_56 (by decide) ?_
  exact wj_Model_checkPart_57 htr C hne h hP hS (lv_sub hl [0, 1, 2, 3, 4] rfl)
set_option maxHeartbeats 4000000 in
set_option maxRecDepth 100000 in
theorem wj_Model_checkPart_49 {p : Program} {l : Launch} {e : Env} {s : State} {m : MethodId} {args : Array Value} {below : List Frame} {meth : Method} {c : Code} {D : va_G} {ad : Nat → Nat} {ca : Nat → ClassId} {ads : List Nat} (htr : l.stackTraces = false) (C : xk_C D kx_cl (kx_ty ca) (kw_m ad ca) ads "ModuleHouseModel" prog_14_method_95_code 8 none p e s m args meth c) (hne : c.exceptionTable.isEmpty = true) {u' : xk_St} {r : Unit} {b1 : Int32} {b2 : Int32} {b3 : Int32} {b6 : Int32} {s0 : Int32} {s1 : Int32} {u : xk_St} {H : Heap} {locs : List Loc} {ls : Array Slot} (h : jb_Model_checkPart_49  b1 b2 b3 b6 s0 s1 u = some (r, u')) (hP : va_P D kx_cl (kw_m ad ca u) H) (hS : va_S (xk_A ads s.heap.size) s.heap H locs) (hl : lv_has ls 8 [(0, .ref (ad 0)), (1, .int b1), (2, .int b2), (3, .int b3), (6, .int b6)]) : W p l e rm_Model_checkPart s m args below meth c H locs 0 0 (xk_MQ below (xk_Qc D kx_cl (kw_m ad ca) ads (xo_v (.inl r)) u') args s (xk_A ads s.heap.size)) (F0 m 49 ls [.int s0, .int s1, .ref (ad 0)]) := by
  have hx := C.1.1
  have hb := C.1.2.1
  have hok := C.2.2.1
  unfold jb_Model_checkPart_49 at h
  refine lv_icmp_eq (tgt := 56) hx hb dd_Model_checkPart_49 (by decide) (fun hc => ?_) (fun hc => ?_)
  · have h := xp_t hc h
    exact wj_Model_checkPart_56 htr C hne h hP hS (lv_sub hl [0, 1, 2, 3, 4] rfl)
  · have h := xp_f hc h
    exact wj_Model_checkPart_52 htr C hne h hP hS (lv_sub hl [0, 1, 2, 3, 4] rfl)
set_option maxHeartbeats 4000000 in
set_option maxRecDepth 100000 in
theorem wj_Model_checkPart_15 {p : Program} {l : Launch} {e : Env} {s : State} {m : MethodId} {args : Array Value} {below : List Frame} {meth : Method} {c : Code} {D : va_G} {ad : Nat → Nat} {ca : Nat → ClassId} {ads : List Nat} (htr : l.stackTraces = false) (C : xk_C D kx_cl (kx_ty ca) (kw_m ad ca) ads "ModuleHouseModel" prog_14_method_95_code 8 none p e s m args meth c) (hne : c.exceptionTable.isEmpty = true) {u' : xk_St} {r : Unit} {b1 : Int32} {b2 : Int32} {b3 : Int32} {b4 : Int32} {b5 : Int32} {b6 : Int32} {s0 : Int32} {u : xk_St} {H : Heap} {locs : List Loc} {ls : Array Slot} (h : jb_Model_checkPart_15  b1 b2 b3 b4 b5 b6 s0 u = some (r, u')) (hP : va_P D kx_cl (kw_m ad ca u) H) (hS : va_S (xk_A ads s.heap.size) s.heap H locs) (hl : lv_has ls 8 [(0, .ref (ad 0)), (1, .int b1), (2, .int b2), (3, .int b3), (4, .int b4), (5, .int b5), (6, .int b6)]) : W p l e rm_Model_checkPart s m args below meth c H locs 0 0 (xk_MQ below (xk_Qc D kx_cl (kw_m ad ca) ads (xo_v (.inl r)) u') args s (xk_A ads s.heap.size)) (F0 m 15 ls [.int s0]) := by
  have hx := C.1.1
  have hb := C.1.2.1
  have hok := C.2.2.1
  unfold jb_Model_checkPart_15 at h
  refine lv_istore (lv' := [(7, .int s0), (0, .ref (ad 0)), (1, .int b1), (2, .int b2), (3, .int b3), (4, .int b4), (5, .int b5), (6, .int b6)]) hx hb dd_Model_checkPart_15 hl (by decide) rfl (fun ls hl => ?_)
  refine lv_aload_n hx hb dd_Model_checkPart_17 rfl (lv_at hl 1 rfl) ?_
  refine lv_aload_n hx hb dd_Model_checkPart_18 rfl (lv_at hl 1 rfl) ?_
  refine gf_m_Model_0_wrong C hP dd_Model_checkPart_19 ?_
  refine lv_if_ne (tgt := 52) hx hb dd_Model_checkPart_22 (by decide) (fun hc => ?_) (fun hc => ?_)
  · have h := xp_f hc h
    exact wj_Model_checkPart_52 htr C hne h hP hS (lv_sub hl [1, 2, 3, 4, 7] rfl)
  · have h := xp_t hc h
    refine lv_iload_n hx hb dd_Model_checkPart_25 rfl (lv_at hl 4 rfl) ?_
    refine lv_if_eq (tgt := 37) hx hb dd_Model_checkPart_26 (by decide) (fun hc => ?_) (fun hc => ?_)
    · have h := xp_t hc h
      refine lv_iload hx hb dd_Model_checkPart_37 (lv_at hl 0 rfl) ?_
      refine lv_iload hx hb dd_Model_checkPart_39 (lv_at hl 5 rfl) ?_
      refine lv_if_le (tgt := 48) hx hb dd_Model_checkPart_41 (by decide) (fun hc => ?_) (fun hc => ?_)
      · have h := xp_t hc h
        refine lv_iconst (v := 0) hx hb dd_Model_checkPart_48 (by decide) ?_
        exact wj_Model_checkPart_49 htr C hne h hP hS (lv_sub hl [1, 2, 3, 4, 7] rfl)
      · have h := xp_f hc h
        refine lv_iconst (v := 1) hx hb dd_Model_checkPart_44 (by decide) ?_
        refine lv_goto (tgt := 49) hx hb dd_Model_checkPart_45 (by decide) ?_
        exact wj_Model_checkPart_49 htr C hne h hP hS (lv_sub hl [1, 2, 3, 4, 7] rfl)
    · have h := xp_f hc h
      refine lv_iload hx hb dd_Model_checkPart_29 (lv_at hl 6 rfl) ?_
      refine lv_if_ne (tgt := 56) hx hb dd_Model_checkPart_31 (by decide) (fun hc => ?_) (fun hc => ?_)
      · have h := xp_f hc h
        exact wj_Model_checkPart_56 htr C hne h hP hS (lv_sub hl [1, 2, 3, 4, 7] rfl)
      · have h := xp_t hc h
        refine lv_goto (tgt := 52) hx hb dd_Model_checkPart_34 (by decide) ?_
        exact wj_Model_checkPart_52 htr C hne h hP hS (lv_sub hl [1, 2, 3, 4, 7] rfl)
set_option maxHeartbeats 4000000 in
set_option maxRecDepth 100000 in
theorem wj_Model_checkPart_10 {p : Program} {l : Launch} {e : Env} {s : State} {m : MethodId} {args : Array Value} {below : List Frame} {meth : Method} {c : Code} {D : va_G} {ad : Nat → Nat} {ca : Nat → ClassId} {ads : List Nat} (htr : l.stackTraces = false) (C : xk_C D kx_cl (kx_ty ca) (kw_m ad ca) ads "ModuleHouseModel" prog_14_method_95_code 8 none p e s m args meth c) (hne : c.exceptionTable.isEmpty = true) {u' : xk_St} {r : Unit} {b1 : Int32} {b2 : Int32} {b3 : Int32} {b4 : Int32} {b5 : Int32} {b6 : Int32} {u : xk_St} {H : Heap} {locs : List Loc} {ls : Array Slot} (h : jb_Model_checkPart_10  b1 b2 b3 b4 b5 b6 u = some (r, u')) (hP : va_P D kx_cl (kw_m ad ca u) H) (hS : va_S (xk_A ads s.heap.size) s.heap H locs) (hl : lv_has ls 8 [(0, .ref (ad 0)), (1, .int b1), (2, .int b2), (3, .int b3), (4, .int b4), (5, .int b5), (6, .int b6)]) : W p l e rm_Model_checkPart s m args below meth c H locs 0 0 (xk_MQ below (xk_Qc D kx_cl (kw_m ad ca) ads (xo_v (.inl r)) u') args s (xk_A ads s.heap.size)) (F0 m 10 ls []) := by
  have hx := C.1.1
  have hb := C.1.2.1
  have hok := C.2.2.1
  unfold jb_Model_checkPart_10 at h
  refine lv_iconst (v := 1) hx hb dd_Model_checkPart_10 (by decide) ?_
  refine lv_goto (tgt := 15) hx hb dd_Model_checkPart_11 (by decide) ?_
  exact wj_Model_checkPart_15 htr C hne h hP hS (lv_sub hl [0, 1, 2, 3, 4, 5, 6] rfl)
set_option maxHeartbeats 4000000 in
set_option maxRecDepth 100000 in
theorem ct_Model_checkPart {l : Launch} {D : va_G} {ad : Nat → Nat} {ca : Nat → ClassId} {ads : List Nat} (htr : l.stackTraces = false) (hok : xk_ok (kw_m ad ca) ads) {x0 : Int32} {x1 : Int32} {x2 : Int32} {x3 : Int32} {x4 : Int32} {x5 : Int32} {u u' : xk_St} {r : Unit} (h : fm_Model_checkPart x0 x1 x2 x3 x4 x5 u = some (r, u')) :
    ∀ sz, xk_Met l ⟨"ModuleHouseModel", "checkPart", "(IIZIZZ)V"⟩ (Cond.code ⟨"ModuleHouseModel", "checkPart", "(IIZIZZ)V"⟩ prog_14_method_95_code 8 none :: xk_gd) rm_Model_checkPart (xk_Pc D kx_cl (kx_ty ca) (kw_m ad ca) ads xk_F sz [.ref (ad 0), .int x0, .int x1, .int x2, .int x3, .int x4, .int x5] u) (xk_Qc D kx_cl (kw_m ad ca) ads (xo_v (.inl r)) u') (xk_A ads sz) := by
  unfold fm_Model_checkPart at h
  refine xk_con (by decide) htr hok (Nat.le_of_ble_eq_true rfl) (fun p e s m below meth c ls C hne hl hP => ?_)
  have hx := C.1.1
  have hb := C.1.2.1
  have hS : va_S (xk_A ads s.heap.size) s.heap s.heap [] := va_S.rf
  have hl : lv_has ls 8 [(0, .ref (ad 0)), (1, .int x0), (2, .int x1), (3, .int x2), (4, .int x3), (5, .int x4), (6, .int x5)] := hl
  refine lv_iload_n hx hb dd_Model_checkPart_0 rfl (lv_at hl 2 rfl) ?_
  refine lv_iconst (v := 3) hx hb dd_Model_checkPart_1 (by decide) ?_
  refine lv_icmp_eq (tgt := 10) hx hb dd_Model_checkPart_2 (by decide) (fun hc => ?_) (fun hc => ?_)
  · have h := xp_t hc h
    exact wj_Model_checkPart_10 htr C hne h hP hS (lv_sub hl [0, 1, 2, 3, 4, 5, 6] rfl)
  · have h := xp_f hc h
    refine lv_iload_n hx hb dd_Model_checkPart_5 rfl (lv_at hl 2 rfl) ?_
    refine lv_iconst (v := 4) hx hb dd_Model_checkPart_6 (by decide) ?_
    refine lv_icmp_ne (tgt := 14) hx hb dd_Model_checkPart_7 (by decide) (fun hc => ?_) (fun hc => ?_)
    · have h := xp_f hc h
      refine lv_iconst (v := 0) hx hb dd_Model_checkPart_14 (by decide) ?_
      exact wj_Model_checkPart_15 htr C hne h hP hS (lv_sub hl [0, 1, 2, 3, 4, 5, 6] rfl)
    · have h := xp_t hc h
      exact wj_Model_checkPart_10 htr C hne h hP hS (lv_sub hl [0, 1, 2, 3, 4, 5, 6] rfl)
abbrev rm_Model_checkArray : Room := { frames := 5, cells := 1, slots := 6, locals := 92 }
noncomputable def jb_Model_checkArray_125 (b2 : Int32) (s0 : Int32) (s1 : Int32) (s2 : Int32) (u : xk_St) : Option (Unit × xk_St) :=
  (xs_seq (fm_Model_checkPart s2 s1 s0 ((u.1 9) - (11 : Int32)) b2 (1 : Int32) u) fun _ u3 => some ((()), u3))
noncomputable def jb_Model_checkArray_59 (b1 : Int32) (s0 : Int32) (u : xk_St) : Option (Unit × xk_St) :=
  (if s0 = 0 ∨ s0 = 1 then ( xs_let (xs_I u 7 s0) fun u4 => xs_seq (fm_Model_take (1 : Int32) u4) fun _ u5 => if ((32 : Int32) * b1) < 0 ∨ 2048 ≤ ((32 : Int32) * b1).toNatClampNeg then none else xs_seq (fm_Model_unpacked (u5.2.2.1 7 ((32 : Int32) * b1).toNatClampNeg) u5) fun a6 u7 => xs_seq (fm_Model_take a6 u7) fun _ u8 => xs_seq (fm_Model_take (1 : Int32) u8) fun _ u9 => xs_seq (fm_Model_reference ((2 : Int32) + b1) (1 : Int32) u9) fun a10 u11 => xs_seq (fm_Model_take a10 u11) fun _ u12 => some ((()), u12)  ) else none)
noncomputable def jb_Model_checkArray_54 (b1 : Int32) (u : xk_St) : Option (Unit × xk_St) :=
  jb_Model_checkArray_59 b1 (1 : Int32) u
noncomputable def jb_Model_checkArray_32 (b1 : Int32) (s0 : Int32) (u : xk_St) : Option (Unit × xk_St) :=
  if (u.1 9) = (16 : Int32) then (if (u.1 7) = (0 : Int32) then (if s0 = (0 : Int32) then (jb_Model_checkArray_54 b1 u) else (jb_Model_checkArray_59 b1 (0 : Int32) u)) else (jb_Model_checkArray_54 b1 u)) else ((if ((32 : Int32) * b1) < 0 ∨ 2048 ≤ ((32 : Int32) * b1).toNatClampNeg then none else if (u.1 9) = (14 : Int32) then (jb_Model_checkArray_125 s0 (1 : Int32) (u.2.2.1 7 ((32 : Int32) * b1).toNatClampNeg) b1 u) else (jb_Model_checkArray_125 s0 (0 : Int32) (u.2.2.1 7 ((32 : Int32) * b1).toNatClampNeg) b1 u)))
noncomputable def fm_Model_checkArray (u : xk_St) : Option (Unit × xk_St) :=
  (xs_seq (fm_Model_objectType (2 : Int32) u) fun a1 u2 => if (0 : Int32) ≤ a1 then ((if (((32 : Int32) * a1) + (16 : Int32)) < 0 ∨ 2048 ≤ (((32 : Int32) * a1) + (16 : Int32)).toNatClampNeg then none else if (u2.2.2.1 7 (((32 : Int32) * a1) + (16 : Int32)).toNatClampNeg) = (1 : Int32) then (jb_Model_checkArray_32 a1 (1 : Int32) u2) else (jb_Model_checkArray_32 a1 (0 : Int32) u2))) else (some ((()), u2)))
set_option maxHeartbeats 4000000 in
set_option maxRecDepth 100000 in
theorem wj_Model_checkArray_125 {p : Program} {l : Launch} {e : Env} {s : State} {m : MethodId} {args : Array Value} {below : List Frame} {meth : Method} {c : Code} {D : va_G} {ad : Nat → Nat} {ca : Nat → ClassId} {ads : List Nat} (htr : l.stackTraces = false) (C : xk_C D kx_cl (kx_ty ca) (kw_m ad ca) ads "ModuleHouseModel" prog_14_method_97_code 3 none p e s m args meth c) (hne : c.exceptionTable.isEmpty = true) {u' : xk_St} {r : Unit} {b2 : Int32} {s0 : Int32} {s1 : Int32} {s2 : Int32} {u : xk_St} {H : Heap} {locs : List Loc} {ls : Array Slot} (h : jb_Model_checkArray_125  b2 s0 s1 s2 u = some (r, u')) (hP : va_P D kx_cl (kw_m ad ca u) H) (hS : va_S (xk_A ads s.heap.size) s.heap H locs) (hl : lv_has ls 3 [(0, .ref (ad 0)), (2, .int b2)]) : W p l e rm_Model_checkArray s m args below meth c H locs 0 0 (xk_MQ below (xk_Qc D kx_cl (kw_m ad ca) ads (xo_v (.inl r)) u') args s (xk_A ads s.heap.size)) (F0 m 125 ls [.int s0, .int s1, .int s2, .ref (ad 0)]) := by
  have hx := C.1.1
  have hb := C.1.2.1
  have hok := C.2.2.1
  unfold jb_Model_checkArray_125 at h
  refine lv_aload_n hx hb dd_Model_checkArray_125 rfl (lv_at hl 0 rfl) ?_
  refine gf_m_Model_0_sub C hP dd_Model_checkArray_126 ?_
  refine lv_bipush (v := 11) hx hb dd_Model_checkArray_129 (by decide) ?_
  refine lv_isub hx hb dd_Model_checkArray_131 ?_
  refine lv_iload_n hx hb dd_Model_checkArray_132 rfl (lv_at hl 1 rfl) ?_
  refine lv_iconst (v := 1) hx hb dd_Model_checkArray_133 (by decide) ?_
  obtain ⟨rx, u3, hq, h⟩ := xp_seq h
  refine xk_goesV (xr_V (As := [.int s2, .int s1, .int s0, .int ((u.1 9) - (11 : Int32)), .int b2, .int (1 : Int32)]) (rest := []) C hP hS (ct_Model_checkPart htr hok hq) kq_Model_645 0 11 rfl rfl ⟨rfl, rfl, Nat.le_of_ble_eq_true rfl, Nat.le_of_ble_eq_true rfl⟩ ⟨Nat.le_of_ble_eq_true rfl, Nat.le_of_ble_eq_true rfl⟩ hl.1 rfl rfl (Nat.le_of_ble_eq_true rfl) dd_Model_checkArray_134) hS (fun H locs hP hS => ?_)
  clear hq
  obtain ⟨rfl, rfl⟩ := xp_r h
  exact xr_vret C hP hS dd_Model_checkArray_137
set_option maxHeartbeats 4000000 in
set_option maxRecDepth 100000 in
theorem wj_Model_checkArray_59 {p : Program} {l : Launch} {e : Env} {s : State} {m : MethodId} {args : Array Value} {below : List Frame} {meth : Method} {c : Code} {D : va_G} {ad : Nat → Nat} {ca : Nat → ClassId} {ads : List Nat} (htr : l.stackTraces = false) (C : xk_C D kx_cl (kx_ty ca) (kw_m ad ca) ads "ModuleHouseModel" prog_14_method_97_code 3 none p e s m args meth c) (hne : c.exceptionTable.isEmpty = true) {u' : xk_St} {r : Unit} {b1 : Int32} {s0 : Int32} {u : xk_St} {H : Heap} {locs : List Loc} {ls : Array Slot} (h : jb_Model_checkArray_59  b1 s0 u = some (r, u')) (hP : va_P D kx_cl (kw_m ad ca u) H) (hS : va_S (xk_A ads s.heap.size) s.heap H locs) (hl : lv_has ls 3 [(0, .ref (ad 0)), (1, .int b1)]) : W p l e rm_Model_checkArray s m args below meth c H locs 0 0 (xk_MQ below (xk_Qc D kx_cl (kw_m ad ca) ads (xo_v (.inl r)) u') args s (xk_A ads s.heap.size)) (F0 m 59 ls [.int s0, .ref (ad 0)]) := by
  have hx := C.1.1
  have hb := C.1.2.1
  have hok := C.2.2.1
  unfold jb_Model_checkArray_59 at h
  obtain ⟨hz, h⟩ := xp_p h
  refine pf_m_Model_0_wrong C hP hS hz dd_Model_checkArray_59 (fun H locs hP hS => ?_)
  obtain ⟨u4, eu4, h⟩ := xp_let h
  rw [← eu4] at hP
  refine lv_aload_n hx hb dd_Model_checkArray_62 rfl (lv_at hl 0 rfl) ?_
  refine lv_iconst (v := 1) hx hb dd_Model_checkArray_63 (by decide) ?_
  obtain ⟨rx, u5, hq, h⟩ := xp_seq h
  refine xk_goesV (xr_V (As := [.int (1 : Int32)]) (rest := []) C hP hS (ct_Model_take htr hok hq) kq_Model_504 0 11 rfl rfl ⟨rfl, rfl, Nat.le_of_ble_eq_true rfl, Nat.le_of_ble_eq_true rfl⟩ ⟨Nat.le_of_ble_eq_true rfl, Nat.le_of_ble_eq_true rfl⟩ hl.1 rfl rfl (Nat.le_of_ble_eq_true rfl) dd_Model_checkArray_64) hS (fun H locs hP hS => ?_)
  clear hq
  refine lv_aload_n hx hb dd_Model_checkArray_67 rfl (lv_at hl 0 rfl) ?_
  refine lv_aload_n hx hb dd_Model_checkArray_68 rfl (lv_at hl 0 rfl) ?_
  refine gf_m_Model_0_parts C hP dd_Model_checkArray_69 ?_
  refine lv_bipush (v := 32) hx hb dd_Model_checkArray_72 (by decide) ?_
  refine lv_iload_n hx hb dd_Model_checkArray_74 rfl (lv_at hl 1 rfl) ?_
  refine lv_imul hx hb dd_Model_checkArray_75 ?_
  obtain ⟨hi, h⟩ := xp_g h
  refine al_m_9 C hP hi dd_Model_checkArray_76 ?_
  obtain ⟨a6, u7, hq, h⟩ := xp_seq h
  refine xk_goesI (xr_S (As := [.int (u5.2.2.1 7 ((32 : Int32) * b1).toNatClampNeg)]) (rest := [.ref (ad 0)]) C hP hS (ct_Model_unpacked htr hok hq) kq_Model_639 ⟨rfl, rfl, Nat.le_of_ble_eq_true rfl, Nat.le_of_ble_eq_true rfl⟩ ⟨Nat.le_of_ble_eq_true rfl, Nat.le_of_ble_eq_true rfl⟩ hl.1 rfl rfl (Nat.le_of_ble_eq_true rfl) dd_Model_checkArray_77) hS (fun H locs hP hS => ?_)
  clear hq
  obtain ⟨rx, u8, hq, h⟩ := xp_seq h
  refine xk_goesV (xr_V (As := [.int a6]) (rest := []) C hP hS (ct_Model_take htr hok hq) kq_Model_504 0 11 rfl rfl ⟨rfl, rfl, Nat.le_of_ble_eq_true rfl, Nat.le_of_ble_eq_true rfl⟩ ⟨Nat.le_of_ble_eq_true rfl, Nat.le_of_ble_eq_true rfl⟩ hl.1 rfl rfl (Nat.le_of_ble_eq_true rfl) dd_Model_checkArray_80) hS (fun H locs hP hS => ?_)
  clear hq
  refine lv_aload_n hx hb dd_Model_checkArray_83 rfl (lv_at hl 0 rfl) ?_
  refine lv_iconst (v := 1) hx hb dd_Model_checkArray_84 (by decide) ?_
  obtain ⟨rx, u9, hq, h⟩ := xp_seq h
  refine xk_goesV (xr_V (As := [.int (1 : Int32)]) (rest := []) C hP hS (ct_Model_take htr hok hq) kq_Model_504 0 11 rfl rfl ⟨rfl, rfl, Nat.le_of_ble_eq_true rfl, Nat.le_of_ble_eq_true rfl⟩ ⟨Nat.le_of_ble_eq_true rfl, Nat.le_of_ble_eq_true rfl⟩ hl.1 rfl rfl (Nat.le_of_ble_eq_true rfl) dd_Model_checkArray_85) hS (fun H locs hP hS => ?_)
  clear hq
  refine lv_aload_n hx hb dd_Model_checkArray_88 rfl (lv_at hl 0 rfl) ?_
  refine lv_iconst (v := 2) hx hb dd_Model_checkArray_89 (by decide) ?_
  refine lv_iload_n hx hb dd_Model_checkArray_90 rfl (lv_at hl 1 rfl) ?_
  refine lv_iadd hx hb dd_Model_checkArray_91 ?_
  refine lv_iconst (v := 1) hx hb dd_Model_checkArray_92 (by decide) ?_
  obtain ⟨a10, u11, hq, h⟩ := xp_seq h
  refine xk_goesI (xr_S (As := [.int ((2 : Int32) + b1), .int (1 : Int32)]) (rest := [.ref (ad 0)]) C hP hS (ct_Model_reference htr hok hq) kq_Model_203 ⟨rfl, rfl, Nat.le_of_ble_eq_true rfl, Nat.le_of_ble_eq_true rfl⟩ ⟨Nat.le_of_ble_eq_true rfl, Nat.le_of_ble_eq_true rfl⟩ hl.1 rfl rfl (Nat.le_of_ble_eq_true rfl) dd_Model_checkArray_93) hS (fun H locs hP hS => ?_)
  clear hq
  obtain ⟨rx, u12, hq, h⟩ := xp_seq h
  refine xk_goesV (xr_V (As := [.int a10]) (rest := []) C hP hS (ct_Model_take htr hok hq) kq_Model_504 0 11 rfl rfl ⟨rfl, rfl, Nat.le_of_ble_eq_true rfl, Nat.le_of_ble_eq_true rfl⟩ ⟨Nat.le_of_ble_eq_true rfl, Nat.le_of_ble_eq_true rfl⟩ hl.1 rfl rfl (Nat.le_of_ble_eq_true rfl) dd_Model_checkArray_96) hS (fun H locs hP hS => ?_)
  clear hq
  obtain ⟨rfl, rfl⟩ := xp_r h
  exact xr_vret C hP hS dd_Model_checkArray_99
set_option maxHeartbeats 4000000 in
set_option maxRecDepth 100000 in
theorem wj_Model_checkArray_54 {p : Program} {l : Launch} {e : Env} {s : State} {m : MethodId} {args : Array Value} {below : List Frame} {meth : Method} {c : Code} {D : va_G} {ad : Nat → Nat} {ca : Nat → ClassId} {ads : List Nat} (htr : l.stackTraces = false) (C : xk_C D kx_cl (kx_ty ca) (kw_m ad ca) ads "ModuleHouseModel" prog_14_method_97_code 3 none p e s m args meth c) (hne : c.exceptionTable.isEmpty = true) {u' : xk_St} {r : Unit} {b1 : Int32} {u : xk_St} {H : Heap} {locs : List Loc} {ls : Array Slot} (h : jb_Model_checkArray_54  b1 u = some (r, u')) (hP : va_P D kx_cl (kw_m ad ca u) H) (hS : va_S (xk_A ads s.heap.size) s.heap H locs) (hl : lv_has ls 3 [(0, .ref (ad 0)), (1, .int b1)]) : W p l e rm_Model_checkArray s m args below meth c H locs 0 0 (xk_MQ below (xk_Qc D kx_cl (kw_m ad ca) ads (xo_v (.inl r)) u') args s (xk_A ads s.heap.size)) (F0 m 54 ls [.ref (ad 0)]) := by
  have hx := C.1.1
  have hb := C.1.2.1
  have hok := C.2.2.1
  unfold jb_Model_checkArray_54 at h
  refine lv_iconst (v := 1) hx hb dd_Model_checkArray_54 (by decide) ?_
  refine lv_goto (tgt := 59) hx hb dd_Model_checkArray_55 (by decide) ?_
  exact wj_Model_checkArray_59 htr C hne h hP hS (lv_sub hl [0, 1] rfl)
set_option maxHeartbeats 4000000 in
set_option maxRecDepth 100000 in
theorem wj_Model_checkArray_32 {p : Program} {l : Launch} {e : Env} {s : State} {m : MethodId} {args : Array Value} {below : List Frame} {meth : Method} {c : Code} {D : va_G} {ad : Nat → Nat} {ca : Nat → ClassId} {ads : List Nat} (htr : l.stackTraces = false) (C : xk_C D kx_cl (kx_ty ca) (kw_m ad ca) ads "ModuleHouseModel" prog_14_method_97_code 3 none p e s m args meth c) (hne : c.exceptionTable.isEmpty = true) {u' : xk_St} {r : Unit} {b1 : Int32} {s0 : Int32} {u : xk_St} {H : Heap} {locs : List Loc} {ls : Array Slot} (h : jb_Model_checkArray_32  b1 s0 u = some (r, u')) (hP : va_P D kx_cl (kw_m ad ca u) H) (hS : va_S (xk_A ads s.heap.size) s.heap H locs) (hl : lv_has ls 3 [(0, .ref (ad 0)), (1, .int b1)]) : W p l e rm_Model_checkArray s m args below meth c H locs 0 0 (xk_MQ below (xk_Qc D kx_cl (kw_m ad ca) ads (xo_v (.inl r)) u') args s (xk_A ads s.heap.size)) (F0 m 32 ls [.int s0]) := by
  have hx := C.1.1
  have hb := C.1.2.1
  have hok := C.2.2.1
  unfold jb_Model_checkArray_32 at h
  refine lv_istore_n (lv' := [(2, .int s0), (0, .ref (ad 0)), (1, .int b1)]) hx hb dd_Model_checkArray_32 rfl hl (by decide) rfl (fun ls hl => ?_)
  refine lv_aload_n hx hb dd_Model_checkArray_33 rfl (lv_at hl 1 rfl) ?_
  refine gf_m_Model_0_sub C hP dd_Model_checkArray_34 ?_
  refine lv_bipush (v := 16) hx hb dd_Model_checkArray_37 (by decide) ?_
  refine lv_icmp_ne (tgt := 100) hx hb dd_Model_checkArray_39 (by decide) (fun hc => ?_) (fun hc => ?_)
  · have h := xp_f hc h
    refine lv_aload_n hx hb dd_Model_checkArray_100 rfl (lv_at hl 1 rfl) ?_
    refine lv_iload_n hx hb dd_Model_checkArray_101 rfl (lv_at hl 2 rfl) ?_
    refine lv_aload_n hx hb dd_Model_checkArray_102 rfl (lv_at hl 1 rfl) ?_
    refine gf_m_Model_0_parts C hP dd_Model_checkArray_103 ?_
    refine lv_bipush (v := 32) hx hb dd_Model_checkArray_106 (by decide) ?_
    refine lv_iload_n hx hb dd_Model_checkArray_108 rfl (lv_at hl 2 rfl) ?_
    refine lv_imul hx hb dd_Model_checkArray_109 ?_
    obtain ⟨hi, h⟩ := xp_g h
    refine al_m_9 C hP hi dd_Model_checkArray_110 ?_
    refine lv_aload_n hx hb dd_Model_checkArray_111 rfl (lv_at hl 1 rfl) ?_
    refine gf_m_Model_0_sub C hP dd_Model_checkArray_112 ?_
    refine lv_bipush (v := 14) hx hb dd_Model_checkArray_115 (by decide) ?_
    refine lv_icmp_ne (tgt := 124) hx hb dd_Model_checkArray_117 (by decide) (fun hc => ?_) (fun hc => ?_)
    · have h := xp_f hc h
      refine lv_iconst (v := 0) hx hb dd_Model_checkArray_124 (by decide) ?_
      exact wj_Model_checkArray_125 htr C hne h hP hS (lv_sub hl [1, 0] rfl)
    · have h := xp_t hc h
      refine lv_iconst (v := 1) hx hb dd_Model_checkArray_120 (by decide) ?_
      refine lv_goto (tgt := 125) hx hb dd_Model_checkArray_121 (by decide) ?_
      exact wj_Model_checkArray_125 htr C hne h hP hS (lv_sub hl [1, 0] rfl)
  · have h := xp_t hc h
    refine lv_aload_n hx hb dd_Model_checkArray_42 rfl (lv_at hl 1 rfl) ?_
    refine lv_aload_n hx hb dd_Model_checkArray_43 rfl (lv_at hl 1 rfl) ?_
    refine gf_m_Model_0_wrong C hP dd_Model_checkArray_44 ?_
    refine lv_if_ne (tgt := 54) hx hb dd_Model_checkArray_47 (by decide) (fun hc => ?_) (fun hc => ?_)
    · have h := xp_f hc h
      exact wj_Model_checkArray_54 htr C hne h hP hS (lv_sub hl [1, 2] rfl)
    · have h := xp_t hc h
      refine lv_iload_n hx hb dd_Model_checkArray_50 rfl (lv_at hl 0 rfl) ?_
      refine lv_if_ne (tgt := 58) hx hb dd_Model_checkArray_51 (by decide) (fun hc => ?_) (fun hc => ?_)
      · have h := xp_f hc h
        refine lv_iconst (v := 0) hx hb dd_Model_checkArray_58 (by decide) ?_
        exact wj_Model_checkArray_59 htr C hne h hP hS (lv_sub hl [1, 2] rfl)
      · have h := xp_t hc h
        exact wj_Model_checkArray_54 htr C hne h hP hS (lv_sub hl [1, 2] rfl)
set_option maxHeartbeats 4000000 in
set_option maxRecDepth 100000 in
theorem ct_Model_checkArray {l : Launch} {D : va_G} {ad : Nat → Nat} {ca : Nat → ClassId} {ads : List Nat} (htr : l.stackTraces = false) (hok : xk_ok (kw_m ad ca) ads) {u u' : xk_St} {r : Unit} (h : fm_Model_checkArray u = some (r, u')) :
    ∀ sz, xk_Met l ⟨"ModuleHouseModel", "checkArray", "()V"⟩ (Cond.code ⟨"ModuleHouseModel", "checkArray", "()V"⟩ prog_14_method_97_code 3 none :: xk_gd) rm_Model_checkArray (xk_Pc D kx_cl (kx_ty ca) (kw_m ad ca) ads xk_F sz [.ref (ad 0)] u) (xk_Qc D kx_cl (kw_m ad ca) ads (xo_v (.inl r)) u') (xk_A ads sz) := by
  unfold fm_Model_checkArray at h
  refine xk_con (by decide) htr hok (Nat.le_of_ble_eq_true rfl) (fun p e s m below meth c ls C hne hl hP => ?_)
  have hx := C.1.1
  have hb := C.1.2.1
  have hS : va_S (xk_A ads s.heap.size) s.heap s.heap [] := va_S.rf
  have hl : lv_has ls 3 [(0, .ref (ad 0))] := hl
  refine lv_aload_n hx hb dd_Model_checkArray_0 rfl (lv_at hl 0 rfl) ?_
  refine lv_iconst (v := 2) hx hb dd_Model_checkArray_1 (by decide) ?_
  obtain ⟨a1, u2, hq, h⟩ := xp_seq h
  refine xk_goesI (xr_V (As := [.int (2 : Int32)]) (rest := []) C hP hS (ct_Model_objectType htr hok hq) kq_Model_636 0 11 rfl rfl ⟨rfl, rfl, Nat.le_of_ble_eq_true rfl, Nat.le_of_ble_eq_true rfl⟩ ⟨Nat.le_of_ble_eq_true rfl, Nat.le_of_ble_eq_true rfl⟩ hl.1 rfl rfl (Nat.le_of_ble_eq_true rfl) dd_Model_checkArray_2) hS (fun H locs hP hS => ?_)
  clear hq
  refine lv_istore_n (lv' := [(1, .int a1), (0, .ref (ad 0))]) hx hb dd_Model_checkArray_5 rfl hl (by decide) rfl (fun ls hl => ?_)
  refine lv_iload_n hx hb dd_Model_checkArray_6 rfl (lv_at hl 0 rfl) ?_
  refine lv_if_ge (tgt := 11) hx hb dd_Model_checkArray_7 (by decide) (fun hc => ?_) (fun hc => ?_)
  · have h := xp_t hc h
    refine lv_aload_n hx hb dd_Model_checkArray_11 rfl (lv_at hl 1 rfl) ?_
    refine gf_m_Model_0_parts C hP dd_Model_checkArray_12 ?_
    refine lv_bipush (v := 32) hx hb dd_Model_checkArray_15 (by decide) ?_
    refine lv_iload_n hx hb dd_Model_checkArray_17 rfl (lv_at hl 0 rfl) ?_
    refine lv_imul hx hb dd_Model_checkArray_18 ?_
    refine lv_bipush (v := 16) hx hb dd_Model_checkArray_19 (by decide) ?_
    refine lv_iadd hx hb dd_Model_checkArray_21 ?_
    obtain ⟨hi, h⟩ := xp_g h
    refine al_m_9 C hP hi dd_Model_checkArray_22 ?_
    refine lv_iconst (v := 1) hx hb dd_Model_checkArray_23 (by decide) ?_
    refine lv_icmp_ne (tgt := 31) hx hb dd_Model_checkArray_24 (by decide) (fun hc => ?_) (fun hc => ?_)
    · have h := xp_f hc h
      refine lv_iconst (v := 0) hx hb dd_Model_checkArray_31 (by decide) ?_
      exact wj_Model_checkArray_32 htr C hne h hP hS (lv_sub hl [1, 0] rfl)
    · have h := xp_t hc h
      refine lv_iconst (v := 1) hx hb dd_Model_checkArray_27 (by decide) ?_
      refine lv_goto (tgt := 32) hx hb dd_Model_checkArray_28 (by decide) ?_
      exact wj_Model_checkArray_32 htr C hne h hP hS (lv_sub hl [1, 0] rfl)
  · have h := xp_f hc h
    obtain ⟨rfl, rfl⟩ := xp_r h
    exact xr_vret C hP hS dd_Model_checkArray_10
abbrev rm_Model_hasDefault : Room := { frames := 2, cells := 1, slots := 6, locals := 20 }
noncomputable def jb_Model_hasDefault_14 (u : xk_St) : Option (Int32 × xk_St) :=
  some ((1 : Int32), u)
noncomputable def fm_Model_hasDefault (x0 : Int32) (u : xk_St) : Option (Int32 × xk_St) :=
  (xs_seq (fm_Model_isReference x0 u) fun a1 u2 => if a1 = (0 : Int32) then (jb_Model_hasDefault_14 u2) else (if (x0 &&& (1 : Int32)) = (1 : Int32) then (jb_Model_hasDefault_14 u2) else (some ((0 : Int32), u2))))
set_option maxHeartbeats 4000000 in
set_option maxRecDepth 100000 in
theorem wj_Model_hasDefault_14 {p : Program} {l : Launch} {e : Env} {s : State} {m : MethodId} {args : Array Value} {below : List Frame} {meth : Method} {c : Code} {D : va_G} {ad : Nat → Nat} {ca : Nat → ClassId} {ads : List Nat} (htr : l.stackTraces = false) (C : xk_C D kx_cl (kx_ty ca) (kw_m ad ca) ads "ModuleHouseModel" prog_14_method_91_code 1 (some .boolean) p e s m args meth c) (hne : c.exceptionTable.isEmpty = true) {u' : xk_St} {r : Int32} {u : xk_St} {H : Heap} {locs : List Loc} {ls : Array Slot} (h : jb_Model_hasDefault_14   u = some (r, u')) (hP : va_P D kx_cl (kw_m ad ca u) H) (hS : va_S (xk_A ads s.heap.size) s.heap H locs) (hl : lv_has ls 1 []) : W p l e rm_Model_hasDefault s m args below meth c H locs 0 0 (xk_MQ below (xk_Qc D kx_cl (kw_m ad ca) ads (xo_i (.inl r)) u') args s (xk_A ads s.heap.size)) (F0 m 14 ls []) := by
  have hx := C.1.1
  have hb := C.1.2.1
  have hok := C.2.2.1
  unfold jb_Model_hasDefault_14 at h
  refine lv_iconst (v := 1) hx hb dd_Model_hasDefault_14 (by decide) ?_
  refine lv_goto (tgt := 19) hx hb dd_Model_hasDefault_15 (by decide) ?_
  obtain ⟨rfl, rfl⟩ := xp_r h
  exact xr_zret C hP hS (by decide) dd_Model_hasDefault_19
set_option maxHeartbeats 4000000 in
set_option maxRecDepth 100000 in
theorem ct_Model_hasDefault {l : Launch} {D : va_G} {ad : Nat → Nat} {ca : Nat → ClassId} {ads : List Nat} (htr : l.stackTraces = false) (hok : xk_ok (kw_m ad ca) ads) {x0 : Int32} {u u' : xk_St} {r : Int32} (h : fm_Model_hasDefault x0 u = some (r, u')) :
    ∀ sz, xk_Met l ⟨"ModuleHouseModel", "hasDefault", "(I)Z"⟩ (Cond.code ⟨"ModuleHouseModel", "hasDefault", "(I)Z"⟩ prog_14_method_91_code 1 (some .boolean) :: xk_gd) rm_Model_hasDefault (xk_Pc D kx_cl (kx_ty ca) (kw_m ad ca) ads xk_F sz [.int x0] u) (xk_Qc D kx_cl (kw_m ad ca) ads (xo_i (.inl r)) u') (xk_A ads sz) := by
  unfold fm_Model_hasDefault at h
  refine xk_con (by decide) htr hok (Nat.le_of_ble_eq_true rfl) (fun p e s m below meth c ls C hne hl hP => ?_)
  have hx := C.1.1
  have hb := C.1.2.1
  have hS : va_S (xk_A ads s.heap.size) s.heap s.heap [] := va_S.rf
  have hl : lv_has ls 1 [(0, .int x0)] := hl
  refine lv_iload_n hx hb dd_Model_hasDefault_0 rfl (lv_at hl 0 rfl) ?_
  obtain ⟨a1, u2, hq, h⟩ := xp_seq h
  refine xk_goesI (xr_S (As := [.int x0]) (rest := []) C hP hS (ct_Model_isReference htr hok hq) kq_Model_384 ⟨rfl, rfl, Nat.le_of_ble_eq_true rfl, Nat.le_of_ble_eq_true rfl⟩ ⟨Nat.le_of_ble_eq_true rfl, Nat.le_of_ble_eq_true rfl⟩ hl.1 rfl rfl (Nat.le_of_ble_eq_true rfl) dd_Model_hasDefault_1) hS (fun H locs hP hS => ?_)
  clear hq
  refine lv_if_eq (tgt := 14) hx hb dd_Model_hasDefault_4 (by decide) (fun hc => ?_) (fun hc => ?_)
  · have h := xp_t hc h
    exact wj_Model_hasDefault_14 htr C hne h hP hS (lv_sub hl [] rfl)
  · have h := xp_f hc h
    refine lv_iload_n hx hb dd_Model_hasDefault_7 rfl (lv_at hl 0 rfl) ?_
    refine lv_iconst (v := 1) hx hb dd_Model_hasDefault_8 (by decide) ?_
    refine lv_iand hx hb dd_Model_hasDefault_9 ?_
    refine lv_iconst (v := 1) hx hb dd_Model_hasDefault_10 (by decide) ?_
    refine lv_icmp_ne (tgt := 18) hx hb dd_Model_hasDefault_11 (by decide) (fun hc => ?_) (fun hc => ?_)
    · have h := xp_f hc h
      refine lv_iconst (v := 0) hx hb dd_Model_hasDefault_18 (by decide) ?_
      obtain ⟨rfl, rfl⟩ := xp_r h
      exact xr_zret C hP hS (by decide) dd_Model_hasDefault_19
    · have h := xp_t hc h
      exact wj_Model_hasDefault_14 htr C hne h hP hS (lv_sub hl [] rfl)
abbrev rm_Model_checkNewArray : Room := { frames := 4, cells := 1, slots := 6, locals := 65 }
noncomputable def jb_Model_checkNewArray_141 (fu : Nat) (b1 : Int32) (u : xk_St) : Option (Unit × xk_St) :=
  (xs_seq (fm_Model_reference ((2 : Int32) + b1) (0 : Int32) u) fun a6 u7 => xs_seq (fm_Model_push a6 u7) fun _ u8 => some ((()), u8))
noncomputable def jb_Model_checkNewArray_138 (fu : Nat) (b1 : Int32) (s0 : Int32) (u : xk_St) : Option (Unit × xk_St) :=
  (if s0 = 0 ∨ s0 = 1 then ( xs_let (xs_I u 7 s0) fun u5 => jb_Model_checkNewArray_141 fu b1 u5  ) else none)
noncomputable def jb_Model_checkNewArray_133 (fu : Nat) (b1 : Int32) (u : xk_St) : Option (Unit × xk_St) :=
  jb_Model_checkNewArray_138 fu b1 (1 : Int32) u
noncomputable def jb_Model_checkNewArray_90 (fu : Nat) (b1 : Int32) (u : xk_St) : Option (Unit × xk_St) :=
  jb_Model_checkNewArray_141 fu b1 u
noncomputable def jb_Model_checkNewArray_59 (fu : Nat) : Nat → Int32 → Int32 → Int64 → xk_St → Option (Unit × xk_St)
  | 0 => fun _ _ _ _ => none
  | n + 1 => fun b1 b2 b3 u =>
    xs_let (jb_Model_checkNewArray_59 fu  n) fun k59 =>
    if (u.2.1 1) ≤ b3 then (jb_Model_checkNewArray_90 fu b1 u) else (if (u.1 7) = (0 : Int32) then ((xs_seq (fm_Model_unpacked b2 u) fun a15 u16 => xs_seq (fm_Model_take a15 u16) fun _ u17 => xs_let (b3 + (1 : Int64)) fun a18 => k59 b1 b2 a18 u17)) else (jb_Model_checkNewArray_90 fu b1 u))
noncomputable def jb_Model_checkNewArray_54 (fu : Nat) (b1 : Int32) (b2 : Int32) (s0 : Int32) (u : xk_St) : Option (Unit × xk_St) :=
  (if s0 = 0 ∨ s0 = 1 then ( xs_let (xs_I u 7 s0) fun u14 => jb_Model_checkNewArray_59 fu fu b1 b2 (0 : Int64) u14  ) else none)
noncomputable def jb_Model_checkNewArray_49 (fu : Nat) (b1 : Int32) (b2 : Int32) (u : xk_St) : Option (Unit × xk_St) :=
  jb_Model_checkNewArray_54 fu b1 b2 (1 : Int32) u
noncomputable def fm_Model_checkNewArray (fu : Nat) (u : xk_St) : Option (Unit × xk_St) :=
  (xs_seq (fm_Model_objectType (2 : Int32) u) fun a1 u2 => if (0 : Int32) ≤ a1 then ((if ((32 : Int32) * a1) < 0 ∨ 2048 ≤ ((32 : Int32) * a1).toNatClampNeg then none else xs_let (u2.2.2.1 7 ((32 : Int32) * a1).toNatClampNeg) fun a3 => if (u2.1 9) = (8 : Int32) then (if (u2.1 7) = (0 : Int32) then (if (u2.2.1 1) ≤ (64 : Int64) then (jb_Model_checkNewArray_54 fu a1 a3 (0 : Int32) u2) else (jb_Model_checkNewArray_49 fu a1 a3 u2)) else (jb_Model_checkNewArray_49 fu a1 a3 u2)) else ((xs_seq (fm_Model_take (1 : Int32) u2) fun _ u4 => if (u4.1 9) = (6 : Int32) then ((xs_seq (fm_Model_unpacked a3 u4) fun a11 u12 => xs_seq (fm_Model_take a11 u12) fun _ u13 => jb_Model_checkNewArray_141 fu a1 u13)) else (if (u4.1 7) = (0 : Int32) then ((xs_seq (fm_Model_hasDefault a3 u4) fun a9 u10 => if a9 = (0 : Int32) then (jb_Model_checkNewArray_133 fu a1 u10) else (jb_Model_checkNewArray_138 fu a1 (0 : Int32) u10))) else (jb_Model_checkNewArray_133 fu a1 u4)))))) else (some ((()), u2)))
set_option maxHeartbeats 4000000 in
set_option maxRecDepth 100000 in
theorem wj_Model_checkNewArray_141 {p : Program} {l : Launch} {e : Env} {s : State} {m : MethodId} {args : Array Value} {below : List Frame} {meth : Method} {c : Code} {D : va_G} {ad : Nat → Nat} {ca : Nat → ClassId} {ads : List Nat} {fu : Nat} (htr : l.stackTraces = false) (C : xk_C D kx_cl (kx_ty ca) (kw_m ad ca) ads "ModuleHouseModel" prog_14_method_96_code 5 none p e s m args meth c) (hne : c.exceptionTable.isEmpty = true) {u' : xk_St} {r : Unit} {b1 : Int32} {u : xk_St} {H : Heap} {locs : List Loc} {ls : Array Slot} (h : jb_Model_checkNewArray_141 fu  b1 u = some (r, u')) (hP : va_P D kx_cl (kw_m ad ca u) H) (hS : va_S (xk_A ads s.heap.size) s.heap H locs) (hl : lv_has ls 5 [(0, .ref (ad 0)), (1, .int b1)]) : W p l e rm_Model_checkNewArray s m args below meth c H locs 0 0 (xk_MQ below (xk_Qc D kx_cl (kw_m ad ca) ads (xo_v (.inl r)) u') args s (xk_A ads s.heap.size)) (F0 m 141 ls []) := by
  have hx := C.1.1
  have hb := C.1.2.1
  have hok := C.2.2.1
  unfold jb_Model_checkNewArray_141 at h
  refine lv_aload_n hx hb dd_Model_checkNewArray_141 rfl (lv_at hl 0 rfl) ?_
  refine lv_iconst (v := 2) hx hb dd_Model_checkNewArray_142 (by decide) ?_
  refine lv_iload_n hx hb dd_Model_checkNewArray_143 rfl (lv_at hl 1 rfl) ?_
  refine lv_iadd hx hb dd_Model_checkNewArray_144 ?_
  refine lv_iconst (v := 0) hx hb dd_Model_checkNewArray_145 (by decide) ?_
  obtain ⟨a6, u7, hq, h⟩ := xp_seq h
  refine xk_goesI (xr_S (As := [.int ((2 : Int32) + b1), .int (0 : Int32)]) (rest := [.ref (ad 0)]) C hP hS (ct_Model_reference htr hok hq) kq_Model_203 ⟨rfl, rfl, Nat.le_of_ble_eq_true rfl, Nat.le_of_ble_eq_true rfl⟩ ⟨Nat.le_of_ble_eq_true rfl, Nat.le_of_ble_eq_true rfl⟩ hl.1 rfl rfl (Nat.le_of_ble_eq_true rfl) dd_Model_checkNewArray_146) hS (fun H locs hP hS => ?_)
  clear hq
  obtain ⟨rx, u8, hq, h⟩ := xp_seq h
  refine xk_goesV (xr_V (As := [.int a6]) (rest := []) C hP hS (ct_Model_push htr hok hq) kq_Model_507 0 11 rfl rfl ⟨rfl, rfl, Nat.le_of_ble_eq_true rfl, Nat.le_of_ble_eq_true rfl⟩ ⟨Nat.le_of_ble_eq_true rfl, Nat.le_of_ble_eq_true rfl⟩ hl.1 rfl rfl (Nat.le_of_ble_eq_true rfl) dd_Model_checkNewArray_149) hS (fun H locs hP hS => ?_)
  clear hq
  obtain ⟨rfl, rfl⟩ := xp_r h
  exact xr_vret C hP hS dd_Model_checkNewArray_152
set_option maxHeartbeats 4000000 in
set_option maxRecDepth 100000 in
theorem wj_Model_checkNewArray_138 {p : Program} {l : Launch} {e : Env} {s : State} {m : MethodId} {args : Array Value} {below : List Frame} {meth : Method} {c : Code} {D : va_G} {ad : Nat → Nat} {ca : Nat → ClassId} {ads : List Nat} {fu : Nat} (htr : l.stackTraces = false) (C : xk_C D kx_cl (kx_ty ca) (kw_m ad ca) ads "ModuleHouseModel" prog_14_method_96_code 5 none p e s m args meth c) (hne : c.exceptionTable.isEmpty = true) {u' : xk_St} {r : Unit} {b1 : Int32} {s0 : Int32} {u : xk_St} {H : Heap} {locs : List Loc} {ls : Array Slot} (h : jb_Model_checkNewArray_138 fu  b1 s0 u = some (r, u')) (hP : va_P D kx_cl (kw_m ad ca u) H) (hS : va_S (xk_A ads s.heap.size) s.heap H locs) (hl : lv_has ls 5 [(0, .ref (ad 0)), (1, .int b1)]) : W p l e rm_Model_checkNewArray s m args below meth c H locs 0 0 (xk_MQ below (xk_Qc D kx_cl (kw_m ad ca) ads (xo_v (.inl r)) u') args s (xk_A ads s.heap.size)) (F0 m 138 ls [.int s0, .ref (ad 0)]) := by
  have hx := C.1.1
  have hb := C.1.2.1
  have hok := C.2.2.1
  unfold jb_Model_checkNewArray_138 at h
  obtain ⟨hz, h⟩ := xp_p h
  refine pf_m_Model_0_wrong C hP hS hz dd_Model_checkNewArray_138 (fun H locs hP hS => ?_)
  obtain ⟨u5, eu5, h⟩ := xp_let h
  rw [← eu5] at hP
  exact wj_Model_checkNewArray_141 htr C hne h hP hS (lv_sub hl [0, 1] rfl)
set_option maxHeartbeats 4000000 in
set_option maxRecDepth 100000 in
theorem wj_Model_checkNewArray_133 {p : Program} {l : Launch} {e : Env} {s : State} {m : MethodId} {args : Array Value} {below : List Frame} {meth : Method} {c : Code} {D : va_G} {ad : Nat → Nat} {ca : Nat → ClassId} {ads : List Nat} {fu : Nat} (htr : l.stackTraces = false) (C : xk_C D kx_cl (kx_ty ca) (kw_m ad ca) ads "ModuleHouseModel" prog_14_method_96_code 5 none p e s m args meth c) (hne : c.exceptionTable.isEmpty = true) {u' : xk_St} {r : Unit} {b1 : Int32} {u : xk_St} {H : Heap} {locs : List Loc} {ls : Array Slot} (h : jb_Model_checkNewArray_133 fu  b1 u = some (r, u')) (hP : va_P D kx_cl (kw_m ad ca u) H) (hS : va_S (xk_A ads s.heap.size) s.heap H locs) (hl : lv_has ls 5 [(0, .ref (ad 0)), (1, .int b1)]) : W p l e rm_Model_checkNewArray s m args below meth c H locs 0 0 (xk_MQ below (xk_Qc D kx_cl (kw_m ad ca) ads (xo_v (.inl r)) u') args s (xk_A ads s.heap.size)) (F0 m 133 ls [.ref (ad 0)]) := by
  have hx := C.1.1
  have hb := C.1.2.1
  have hok := C.2.2.1
  unfold jb_Model_checkNewArray_133 at h
  refine lv_iconst (v := 1) hx hb dd_Model_checkNewArray_133 (by decide) ?_
  refine lv_goto (tgt := 138) hx hb dd_Model_checkNewArray_134 (by decide) ?_
  exact wj_Model_checkNewArray_138 htr C hne h hP hS (lv_sub hl [0, 1] rfl)
set_option maxHeartbeats 4000000 in
set_option maxRecDepth 100000 in
theorem wj_Model_checkNewArray_90 {p : Program} {l : Launch} {e : Env} {s : State} {m : MethodId} {args : Array Value} {below : List Frame} {meth : Method} {c : Code} {D : va_G} {ad : Nat → Nat} {ca : Nat → ClassId} {ads : List Nat} {fu : Nat} (htr : l.stackTraces = false) (C : xk_C D kx_cl (kx_ty ca) (kw_m ad ca) ads "ModuleHouseModel" prog_14_method_96_code 5 none p e s m args meth c) (hne : c.exceptionTable.isEmpty = true) {u' : xk_St} {r : Unit} {b1 : Int32} {u : xk_St} {H : Heap} {locs : List Loc} {ls : Array Slot} (h : jb_Model_checkNewArray_90 fu  b1 u = some (r, u')) (hP : va_P D kx_cl (kw_m ad ca u) H) (hS : va_S (xk_A ads s.heap.size) s.heap H locs) (hl : lv_has ls 5 [(0, .ref (ad 0)), (1, .int b1)]) : W p l e rm_Model_checkNewArray s m args below meth c H locs 0 0 (xk_MQ below (xk_Qc D kx_cl (kw_m ad ca) ads (xo_v (.inl r)) u') args s (xk_A ads s.heap.size)) (F0 m 90 ls []) := by
  have hx := C.1.1
  have hb := C.1.2.1
  have hok := C.2.2.1
  unfold jb_Model_checkNewArray_90 at h
  refine lv_goto (tgt := 141) hx hb dd_Model_checkNewArray_90 (by decide) ?_
  exact wj_Model_checkNewArray_141 htr C hne h hP hS (lv_sub hl [0, 1] rfl)
set_option maxHeartbeats 4000000 in
set_option maxRecDepth 100000 in
theorem wj_Model_checkNewArray_59 {p : Program} {l : Launch} {e : Env} {s : State} {m : MethodId} {args : Array Value} {below : List Frame} {meth : Method} {c : Code} {D : va_G} {ad : Nat → Nat} {ca : Nat → ClassId} {ads : List Nat} {fu : Nat} (htr : l.stackTraces = false) (C : xk_C D kx_cl (kx_ty ca) (kw_m ad ca) ads "ModuleHouseModel" prog_14_method_96_code 5 none p e s m args meth c) (hne : c.exceptionTable.isEmpty = true) {u' : xk_St} {r : Unit} : ∀ {n : Nat} {b1 : Int32} {b2 : Int32} {b3 : Int64} {u : xk_St} {H : Heap} {locs : List Loc} {ls : Array Slot} (h : jb_Model_checkNewArray_59 fu  n b1 b2 b3 u = some (r, u')) (hP : va_P D kx_cl (kw_m ad ca u) H) (hS : va_S (xk_A ads s.heap.size) s.heap H locs) (hl : lv_has ls 5 [(0, .ref (ad 0)), (1, .int b1), (2, .int b2), (3, .long b3)]), W p l e rm_Model_checkNewArray s m args below meth c H locs 0 0 (xk_MQ below (xk_Qc D kx_cl (kw_m ad ca) ads (xo_v (.inl r)) u') args s (xk_A ads s.heap.size)) (F0 m 59 ls []) := by
  intro n
  have hx := C.1.1
  have hb := C.1.2.1
  have hok := C.2.2.1
  induction n with
  | zero =>
    intro _ _ _ u H locs ls h
    have h : none = some (r, u') := h
    cases h
  | succ n ih =>
    intro b1 b2 b3 u H locs ls h hP hS hl
    unfold jb_Model_checkNewArray_59 at h
    obtain ⟨k59, ek59, h⟩ := xp_let h
    have hk59 : ∀ (c0 : Int32) (c1 : Int32) (c2 : Int64) (u : xk_St) (H : Heap) (locs : List Loc) (ls : Array Slot), k59 c0 c1 c2 u = some (r, u') → va_P D kx_cl (kw_m ad ca u) H → va_S (xk_A ads s.heap.size) s.heap H locs → lv_has ls 5 [(0, .ref (ad 0)), (1, .int c0), (2, .int c1), (3, .long c2)] → W p l e rm_Model_checkNewArray s m args below meth c H locs 0 0 (xk_MQ below (xk_Qc D kx_cl (kw_m ad ca) ads (xo_v (.inl r)) u') args s (xk_A ads s.heap.size)) (F0 m 59 ls []) := by
      intro c0 c1 c2 u H locs ls h hP hS hl
      subst ek59
      exact ih h hP hS hl
    clear ih ek59
    refine lv_lload_n hx hb dd_Model_checkNewArray_59 rfl (lv_at hl 3 rfl) ?_
    refine lv_aload_n hx hb dd_Model_checkNewArray_60 rfl (lv_at hl 0 rfl) ?_
    refine gf_m_Model_0_y C hP dd_Model_checkNewArray_61 ?_
    refine xr_lc_ge (tgt := 90) hx hb dd_Model_checkNewArray_64 dd_Model_checkNewArray_65 (by decide) (fun hc => ?_) (fun hc => ?_)
    · have h := xp_t hc h
      exact wj_Model_checkNewArray_90 htr C hne h hP hS (lv_sub hl [0, 1] rfl)
    · have h := xp_f hc h
      refine lv_aload_n hx hb dd_Model_checkNewArray_68 rfl (lv_at hl 0 rfl) ?_
      refine gf_m_Model_0_wrong C hP dd_Model_checkNewArray_69 ?_
      refine lv_if_ne (tgt := 90) hx hb dd_Model_checkNewArray_72 (by decide) (fun hc => ?_) (fun hc => ?_)
      · have h := xp_f hc h
        exact wj_Model_checkNewArray_90 htr C hne h hP hS (lv_sub hl [0, 1] rfl)
      · have h := xp_t hc h
        refine lv_aload_n hx hb dd_Model_checkNewArray_75 rfl (lv_at hl 0 rfl) ?_
        refine lv_iload_n hx hb dd_Model_checkNewArray_76 rfl (lv_at hl 2 rfl) ?_
        obtain ⟨a15, u16, hq, h⟩ := xp_seq h
        refine xk_goesI (xr_S (As := [.int b2]) (rest := [.ref (ad 0)]) C hP hS (ct_Model_unpacked htr hok hq) kq_Model_639 ⟨rfl, rfl, Nat.le_of_ble_eq_true rfl, Nat.le_of_ble_eq_true rfl⟩ ⟨Nat.le_of_ble_eq_true rfl, Nat.le_of_ble_eq_true rfl⟩ hl.1 rfl rfl (Nat.le_of_ble_eq_true rfl) dd_Model_checkNewArray_77) hS (fun H locs hP hS => ?_)
        clear hq
        obtain ⟨rx, u17, hq, h⟩ := xp_seq h
        refine xk_goesV (xr_V (As := [.int a15]) (rest := []) C hP hS (ct_Model_take htr hok hq) kq_Model_504 0 11 rfl rfl ⟨rfl, rfl, Nat.le_of_ble_eq_true rfl, Nat.le_of_ble_eq_true rfl⟩ ⟨Nat.le_of_ble_eq_true rfl, Nat.le_of_ble_eq_true rfl⟩ hl.1 rfl rfl (Nat.le_of_ble_eq_true rfl) dd_Model_checkNewArray_80) hS (fun H locs hP hS => ?_)
        clear hq
        refine lv_lload_n hx hb dd_Model_checkNewArray_83 rfl (lv_at hl 3 rfl) ?_
        refine lv_lconst (v := 1) hx hb dd_Model_checkNewArray_84 (by decide) ?_
        refine lv_ladd hx hb dd_Model_checkNewArray_85 ?_
        obtain ⟨a18, ea18, h⟩ := xp_let h
        refine xr_naml ea18 ?_
        refine lv_lstore_n (lv' := [(3, .long a18), (0, .ref (ad 0)), (1, .int b1), (2, .int b2)]) hx hb dd_Model_checkNewArray_86 rfl hl (by decide) rfl (fun ls hl => ?_)
        refine lv_goto (tgt := 59) hx hb dd_Model_checkNewArray_87 (by decide) ?_
        exact hk59 b1 b2 a18 u17 _ _ _ h hP hS (lv_sub hl [1, 2, 3, 0] rfl)
set_option maxHeartbeats 4000000 in
set_option maxRecDepth 100000 in
theorem wj_Model_checkNewArray_54 {p : Program} {l : Launch} {e : Env} {s : State} {m : MethodId} {args : Array Value} {below : List Frame} {meth : Method} {c : Code} {D : va_G} {ad : Nat → Nat} {ca : Nat → ClassId} {ads : List Nat} {fu : Nat} (htr : l.stackTraces = false) (C : xk_C D kx_cl (kx_ty ca) (kw_m ad ca) ads "ModuleHouseModel" prog_14_method_96_code 5 none p e s m args meth c) (hne : c.exceptionTable.isEmpty = true) {u' : xk_St} {r : Unit} {b1 : Int32} {b2 : Int32} {s0 : Int32} {u : xk_St} {H : Heap} {locs : List Loc} {ls : Array Slot} (h : jb_Model_checkNewArray_54 fu  b1 b2 s0 u = some (r, u')) (hP : va_P D kx_cl (kw_m ad ca u) H) (hS : va_S (xk_A ads s.heap.size) s.heap H locs) (hl : lv_has ls 5 [(0, .ref (ad 0)), (1, .int b1), (2, .int b2)]) : W p l e rm_Model_checkNewArray s m args below meth c H locs 0 0 (xk_MQ below (xk_Qc D kx_cl (kw_m ad ca) ads (xo_v (.inl r)) u') args s (xk_A ads s.heap.size)) (F0 m 54 ls [.int s0, .ref (ad 0)]) := by
  have hx := C.1.1
  have hb := C.1.2.1
  have hok := C.2.2.1
  unfold jb_Model_checkNewArray_54 at h
  obtain ⟨hz, h⟩ := xp_p h
  refine pf_m_Model_0_wrong C hP hS hz dd_Model_checkNewArray_54 (fun H locs hP hS => ?_)
  obtain ⟨u14, eu14, h⟩ := xp_let h
  rw [← eu14] at hP
  refine lv_lconst (v := 0) hx hb dd_Model_checkNewArray_57 (by decide) ?_
  refine lv_lstore_n (lv' := [(3, .long (0 : Int64)), (0, .ref (ad 0)), (1, .int b1), (2, .int b2)]) hx hb dd_Model_checkNewArray_58 rfl hl (by decide) rfl (fun ls hl => ?_)
  exact wj_Model_checkNewArray_59 htr C hne h hP hS (lv_sub hl [1, 2, 3, 0] rfl)
set_option maxHeartbeats 4000000 in
set_option maxRecDepth 100000 in
theorem wj_Model_checkNewArray_49 {p : Program} {l : Launch} {e : Env} {s : State} {m : MethodId} {args : Array Value} {below : List Frame} {meth : Method} {c : Code} {D : va_G} {ad : Nat → Nat} {ca : Nat → ClassId} {ads : List Nat} {fu : Nat} (htr : l.stackTraces = false) (C : xk_C D kx_cl (kx_ty ca) (kw_m ad ca) ads "ModuleHouseModel" prog_14_method_96_code 5 none p e s m args meth c) (hne : c.exceptionTable.isEmpty = true) {u' : xk_St} {r : Unit} {b1 : Int32} {b2 : Int32} {u : xk_St} {H : Heap} {locs : List Loc} {ls : Array Slot} (h : jb_Model_checkNewArray_49 fu  b1 b2 u = some (r, u')) (hP : va_P D kx_cl (kw_m ad ca u) H) (hS : va_S (xk_A ads s.heap.size) s.heap H locs) (hl : lv_has ls 5 [(0, .ref (ad 0)), (1, .int b1), (2, .int b2)]) : W p l e rm_Model_checkNewArray s m args below meth c H locs 0 0 (xk_MQ below (xk_Qc D kx_cl (kw_m ad ca) ads (xo_v (.inl r)) u') args s (xk_A ads s.heap.size)) (F0 m 49 ls [.ref (ad 0)]) := by
  have hx := C.1.1
  have hb := C.1.2.1
  have hok := C.2.2.1
  unfold jb_Model_checkNewArray_49 at h
  refine lv_iconst (v := 1) hx hb dd_Model_checkNewArray_49 (by decide) ?_
  refine lv_goto (tgt := 54) hx hb dd_Model_checkNewArray_50 (by decide) ?_
  exact wj_Model_checkNewArray_54 htr C hne h hP hS (lv_sub hl [0, 1, 2] rfl)
set_option maxHeartbeats 4000000 in
set_option maxRecDepth 100000 in
theorem ct_Model_checkNewArray {l : Launch} {D : va_G} {ad : Nat → Nat} {ca : Nat → ClassId} {ads : List Nat} (htr : l.stackTraces = false) (hok : xk_ok (kw_m ad ca) ads) {fu : Nat} {u u' : xk_St} {r : Unit} (h : fm_Model_checkNewArray fu u = some (r, u')) :
    ∀ sz, xk_Met l ⟨"ModuleHouseModel", "checkNewArray", "()V"⟩ (Cond.code ⟨"ModuleHouseModel", "checkNewArray", "()V"⟩ prog_14_method_96_code 5 none :: xk_gd) rm_Model_checkNewArray (xk_Pc D kx_cl (kx_ty ca) (kw_m ad ca) ads xk_F sz [.ref (ad 0)] u) (xk_Qc D kx_cl (kw_m ad ca) ads (xo_v (.inl r)) u') (xk_A ads sz) := by
  unfold fm_Model_checkNewArray at h
  refine xk_con (by decide) htr hok (Nat.le_of_ble_eq_true rfl) (fun p e s m below meth c ls C hne hl hP => ?_)
  have hx := C.1.1
  have hb := C.1.2.1
  have hS : va_S (xk_A ads s.heap.size) s.heap s.heap [] := va_S.rf
  have hl : lv_has ls 5 [(0, .ref (ad 0))] := hl
  refine lv_aload_n hx hb dd_Model_checkNewArray_0 rfl (lv_at hl 0 rfl) ?_
  refine lv_iconst (v := 2) hx hb dd_Model_checkNewArray_1 (by decide) ?_
  obtain ⟨a1, u2, hq, h⟩ := xp_seq h
  refine xk_goesI (xr_V (As := [.int (2 : Int32)]) (rest := []) C hP hS (ct_Model_objectType htr hok hq) kq_Model_636 0 11 rfl rfl ⟨rfl, rfl, Nat.le_of_ble_eq_true rfl, Nat.le_of_ble_eq_true rfl⟩ ⟨Nat.le_of_ble_eq_true rfl, Nat.le_of_ble_eq_true rfl⟩ hl.1 rfl rfl (Nat.le_of_ble_eq_true rfl) dd_Model_checkNewArray_2) hS (fun H locs hP hS => ?_)
  clear hq
  refine lv_istore_n (lv' := [(1, .int a1), (0, .ref (ad 0))]) hx hb dd_Model_checkNewArray_5 rfl hl (by decide) rfl (fun ls hl => ?_)
  refine lv_iload_n hx hb dd_Model_checkNewArray_6 rfl (lv_at hl 0 rfl) ?_
  refine lv_if_ge (tgt := 11) hx hb dd_Model_checkNewArray_7 (by decide) (fun hc => ?_) (fun hc => ?_)
  · have h := xp_t hc h
    refine lv_aload_n hx hb dd_Model_checkNewArray_11 rfl (lv_at hl 1 rfl) ?_
    refine gf_m_Model_0_parts C hP dd_Model_checkNewArray_12 ?_
    refine lv_bipush (v := 32) hx hb dd_Model_checkNewArray_15 (by decide) ?_
    refine lv_iload_n hx hb dd_Model_checkNewArray_17 rfl (lv_at hl 0 rfl) ?_
    refine lv_imul hx hb dd_Model_checkNewArray_18 ?_
    obtain ⟨hi, h⟩ := xp_g h
    refine al_m_9 C hP hi dd_Model_checkNewArray_19 ?_
    obtain ⟨a3, ea3, h⟩ := xp_let h
    refine xr_nami ea3 ?_
    refine lv_istore_n (lv' := [(2, .int a3), (1, .int a1), (0, .ref (ad 0))]) hx hb dd_Model_checkNewArray_20 rfl hl (by decide) rfl (fun ls hl => ?_)
    refine lv_aload_n hx hb dd_Model_checkNewArray_21 rfl (lv_at hl 2 rfl) ?_
    refine gf_m_Model_0_sub C hP dd_Model_checkNewArray_22 ?_
    refine lv_bipush (v := 8) hx hb dd_Model_checkNewArray_25 (by decide) ?_
    refine lv_icmp_ne (tgt := 93) hx hb dd_Model_checkNewArray_27 (by decide) (fun hc => ?_) (fun hc => ?_)
    · have h := xp_f hc h
      refine lv_aload_n hx hb dd_Model_checkNewArray_93 rfl (lv_at hl 2 rfl) ?_
      refine lv_iconst (v := 1) hx hb dd_Model_checkNewArray_94 (by decide) ?_
      obtain ⟨rx, u4, hq, h⟩ := xp_seq h
      refine xk_goesV (xr_V (As := [.int (1 : Int32)]) (rest := []) C hP hS (ct_Model_take htr hok hq) kq_Model_504 0 11 rfl rfl ⟨rfl, rfl, Nat.le_of_ble_eq_true rfl, Nat.le_of_ble_eq_true rfl⟩ ⟨Nat.le_of_ble_eq_true rfl, Nat.le_of_ble_eq_true rfl⟩ hl.1 rfl rfl (Nat.le_of_ble_eq_true rfl) dd_Model_checkNewArray_95) hS (fun H locs hP hS => ?_)
      clear hq
      refine lv_aload_n hx hb dd_Model_checkNewArray_98 rfl (lv_at hl 2 rfl) ?_
      refine gf_m_Model_0_sub C hP dd_Model_checkNewArray_99 ?_
      refine lv_bipush (v := 6) hx hb dd_Model_checkNewArray_102 (by decide) ?_
      refine lv_icmp_ne (tgt := 118) hx hb dd_Model_checkNewArray_104 (by decide) (fun hc => ?_) (fun hc => ?_)
      · have h := xp_f hc h
        refine lv_aload_n hx hb dd_Model_checkNewArray_118 rfl (lv_at hl 2 rfl) ?_
        refine lv_aload_n hx hb dd_Model_checkNewArray_119 rfl (lv_at hl 2 rfl) ?_
        refine gf_m_Model_0_wrong C hP dd_Model_checkNewArray_120 ?_
        refine lv_if_ne (tgt := 133) hx hb dd_Model_checkNewArray_123 (by decide) (fun hc => ?_) (fun hc => ?_)
        · have h := xp_f hc h
          exact wj_Model_checkNewArray_133 htr C hne h hP hS (lv_sub hl [2, 1] rfl)
        · have h := xp_t hc h
          refine lv_iload_n hx hb dd_Model_checkNewArray_126 rfl (lv_at hl 0 rfl) ?_
          obtain ⟨a9, u10, hq, h⟩ := xp_seq h
          refine xk_goesI (xr_S (As := [.int a3]) (rest := [.ref (ad 0)]) C hP hS (ct_Model_hasDefault htr hok hq) kq_Model_642 ⟨rfl, rfl, Nat.le_of_ble_eq_true rfl, Nat.le_of_ble_eq_true rfl⟩ ⟨Nat.le_of_ble_eq_true rfl, Nat.le_of_ble_eq_true rfl⟩ hl.1 rfl rfl (Nat.le_of_ble_eq_true rfl) dd_Model_checkNewArray_127) hS (fun H locs hP hS => ?_)
          clear hq
          refine lv_if_ne (tgt := 137) hx hb dd_Model_checkNewArray_130 (by decide) (fun hc => ?_) (fun hc => ?_)
          · have h := xp_f hc h
            refine lv_iconst (v := 0) hx hb dd_Model_checkNewArray_137 (by decide) ?_
            exact wj_Model_checkNewArray_138 htr C hne h hP hS (lv_sub hl [2, 1] rfl)
          · have h := xp_t hc h
            exact wj_Model_checkNewArray_133 htr C hne h hP hS (lv_sub hl [2, 1] rfl)
      · have h := xp_t hc h
        refine lv_aload_n hx hb dd_Model_checkNewArray_107 rfl (lv_at hl 2 rfl) ?_
        refine lv_iload_n hx hb dd_Model_checkNewArray_108 rfl (lv_at hl 0 rfl) ?_
        obtain ⟨a11, u12, hq, h⟩ := xp_seq h
        refine xk_goesI (xr_S (As := [.int a3]) (rest := [.ref (ad 0)]) C hP hS (ct_Model_unpacked htr hok hq) kq_Model_639 ⟨rfl, rfl, Nat.le_of_ble_eq_true rfl, Nat.le_of_ble_eq_true rfl⟩ ⟨Nat.le_of_ble_eq_true rfl, Nat.le_of_ble_eq_true rfl⟩ hl.1 rfl rfl (Nat.le_of_ble_eq_true rfl) dd_Model_checkNewArray_109) hS (fun H locs hP hS => ?_)
        clear hq
        obtain ⟨rx, u13, hq, h⟩ := xp_seq h
        refine xk_goesV (xr_V (As := [.int a11]) (rest := []) C hP hS (ct_Model_take htr hok hq) kq_Model_504 0 11 rfl rfl ⟨rfl, rfl, Nat.le_of_ble_eq_true rfl, Nat.le_of_ble_eq_true rfl⟩ ⟨Nat.le_of_ble_eq_true rfl, Nat.le_of_ble_eq_true rfl⟩ hl.1 rfl rfl (Nat.le_of_ble_eq_true rfl) dd_Model_checkNewArray_112) hS (fun H locs hP hS => ?_)
        clear hq
        refine lv_goto (tgt := 141) hx hb dd_Model_checkNewArray_115 (by decide) ?_
        exact wj_Model_checkNewArray_141 htr C hne h hP hS (lv_sub hl [2, 1] rfl)
    · have h := xp_t hc h
      refine lv_aload_n hx hb dd_Model_checkNewArray_30 rfl (lv_at hl 2 rfl) ?_
      refine lv_aload_n hx hb dd_Model_checkNewArray_31 rfl (lv_at hl 2 rfl) ?_
      refine gf_m_Model_0_wrong C hP dd_Model_checkNewArray_32 ?_
      refine lv_if_ne (tgt := 49) hx hb dd_Model_checkNewArray_35 (by decide) (fun hc => ?_) (fun hc => ?_)
      · have h := xp_f hc h
        exact wj_Model_checkNewArray_49 htr C hne h hP hS (lv_sub hl [2, 1, 0] rfl)
      · have h := xp_t hc h
        refine lv_aload_n hx hb dd_Model_checkNewArray_38 rfl (lv_at hl 2 rfl) ?_
        refine gf_m_Model_0_y C hP dd_Model_checkNewArray_39 ?_
        refine lv_ldc2 (v := 64) hx hb C.1.2.2.2.1 (C.1.2.2.2.2 _ (xk_c9 (w := Jvm.Cond.constantLong "ModuleHouseModel" 197 64) 142 rfl rfl)) dd_Model_checkNewArray_42 ?_
        refine xr_lc_le (tgt := 53) hx hb dd_Model_checkNewArray_45 dd_Model_checkNewArray_46 (by decide) (fun hc => ?_) (fun hc => ?_)
        · have h := xp_t hc h
          refine lv_iconst (v := 0) hx hb dd_Model_checkNewArray_53 (by decide) ?_
          exact wj_Model_checkNewArray_54 htr C hne h hP hS (lv_sub hl [2, 1, 0] rfl)
        · have h := xp_f hc h
          exact wj_Model_checkNewArray_49 htr C hne h hP hS (lv_sub hl [2, 1, 0] rfl)
  · have h := xp_f hc h
    obtain ⟨rfl, rfl⟩ := xp_r h
    exact xr_vret C hP hS dd_Model_checkNewArray_10
abbrev rm_Model_checkStructure : Room := { frames := 5, cells := 1, slots := 6, locals := 92 }
noncomputable def jb_Model_checkStructure_194 (fu : Nat) (s0 : Int32) (s1 : Int32) (s2 : Int32) (s3 : Int32) (s4 : Int32) (u : xk_St) : Option (Unit × xk_St) :=
  (xs_seq (fm_Model_checkPart s4 s3 s2 s1 s0 (0 : Int32) u) fun _ u5 => some ((()), u5))
noncomputable def jb_Model_checkStructure_161 (fu : Nat) (b1 : Int32) (s0 : Int32) (s1 : Int32) (s2 : Int32) (u : xk_St) : Option (Unit × xk_St) :=
  (if ((((32 : Int32) * b1) + (16 : Int32)) + ((u.2.1 1).toInt32)) < 0 ∨ 2048 ≤ ((((32 : Int32) * b1) + (16 : Int32)) + ((u.2.1 1).toInt32)).toNatClampNeg then none else if (u.2.2.1 7 ((((32 : Int32) * b1) + (16 : Int32)) + ((u.2.1 1).toInt32)).toNatClampNeg) = (1 : Int32) then (jb_Model_checkStructure_194 fu (1 : Int32) ((u.1 9) - (2 : Int32)) s0 s1 s2 u) else (jb_Model_checkStructure_194 fu (0 : Int32) ((u.1 9) - (2 : Int32)) s0 s1 s2 u))
noncomputable def jb_Model_checkStructure_95 (fu : Nat) (k30 : Int32 → Int32 → xk_St → Option (Unit × xk_St)) (b1 : Int32) (b3 : Int32) (u : xk_St) : Option (Unit × xk_St) :=
  (xs_let (b3 + (-1 : Int32)) fun a12 => k30 b1 a12 u)
noncomputable def jb_Model_checkStructure_92 (fu : Nat) (k30 : Int32 → Int32 → xk_St → Option (Unit × xk_St)) (b1 : Int32) (b3 : Int32) (s0 : Int32) (u : xk_St) : Option (Unit × xk_St) :=
  (if s0 = 0 ∨ s0 = 1 then ( xs_let (xs_I u 7 s0) fun u11 => jb_Model_checkStructure_95 fu k30 b1 b3 u11  ) else none)
noncomputable def jb_Model_checkStructure_87 (fu : Nat) (k30 : Int32 → Int32 → xk_St → Option (Unit × xk_St)) (b1 : Int32) (b3 : Int32) (u : xk_St) : Option (Unit × xk_St) :=
  jb_Model_checkStructure_92 fu k30 b1 b3 (1 : Int32) u
noncomputable def jb_Model_checkStructure_30 (fu : Nat) : Nat → Int32 → Int32 → xk_St → Option (Unit × xk_St)
  | 0 => fun _ _ _ => none
  | n + 1 => fun b1 b3 u =>
    xs_let (jb_Model_checkStructure_30 fu  n) fun k30 =>
    if b3 < (0 : Int32) then ((xs_seq (fm_Model_reference ((2 : Int32) + b1) (0 : Int32) u) fun a8 u9 => xs_seq (fm_Model_push a8 u9) fun _ u10 => some ((()), u10))) else (if (u.1 9) = (0 : Int32) then ((if (((32 : Int32) * b1) + b3) < 0 ∨ 2048 ≤ (((32 : Int32) * b1) + b3).toNatClampNeg then none else xs_seq (fm_Model_unpacked (u.2.2.1 7 (((32 : Int32) * b1) + b3).toNatClampNeg) u) fun a15 u16 => xs_seq (fm_Model_take a15 u16) fun _ u17 => jb_Model_checkStructure_95 fu k30 b1 b3 u17)) else (if (u.1 7) = (0 : Int32) then ((if (((32 : Int32) * b1) + b3) < 0 ∨ 2048 ≤ (((32 : Int32) * b1) + b3).toNatClampNeg then none else xs_seq (fm_Model_hasDefault (u.2.2.1 7 (((32 : Int32) * b1) + b3).toNatClampNeg) u) fun a13 u14 => if a13 = (0 : Int32) then (jb_Model_checkStructure_87 fu k30 b1 b3 u14) else (jb_Model_checkStructure_92 fu k30 b1 b3 (0 : Int32) u14))) else (jb_Model_checkStructure_87 fu k30 b1 b3 u)))
noncomputable def fm_Model_checkStructure (fu : Nat) (u : xk_St) : Option (Unit × xk_St) :=
  (xs_seq (fm_Model_objectType (1 : Int32) u) fun a1 u2 => if (0 : Int32) ≤ a1 then ((if a1 < 0 ∨ 64 ≤ a1.toNatClampNeg then none else xs_let (u2.2.2.1 5 a1.toNatClampNeg) fun a3 => if (2 : Int32) ≤ (u2.1 9) then (if (u2.2.1 1) < (a3.toInt64) then ((if (((32 : Int32) * a1) + ((u2.2.1 1).toInt32)) < 0 ∨ 2048 ≤ (((32 : Int32) * a1) + ((u2.2.1 1).toInt32)).toNatClampNeg then none else xs_let (u2.2.2.1 7 (((32 : Int32) * a1) + ((u2.2.1 1).toInt32)).toNatClampNeg) fun a4 => if (u2.1 9) = (5 : Int32) then (jb_Model_checkStructure_161 fu a1 (1 : Int32) a4 a1 u2) else (jb_Model_checkStructure_161 fu a1 (0 : Int32) a4 a1 u2))) else ((xs_let (xs_I u2 7 (1 : Int32)) fun u6 => some ((()), u6)))) else ((xs_let (a3 - (1 : Int32)) fun a7 => jb_Model_checkStructure_30 fu fu a1 a7 u2)))) else (some ((()), u2)))
set_option maxHeartbeats 4000000 in
set_option maxRecDepth 100000 in
theorem wj_Model_checkStructure_194 {p : Program} {l : Launch} {e : Env} {s : State} {m : MethodId} {args : Array Value} {below : List Frame} {meth : Method} {c : Code} {D : va_G} {ad : Nat → Nat} {ca : Nat → ClassId} {ads : List Nat} {fu : Nat} (htr : l.stackTraces = false) (C : xk_C D kx_cl (kx_ty ca) (kw_m ad ca) ads "ModuleHouseModel" prog_14_method_94_code 4 none p e s m args meth c) (hne : c.exceptionTable.isEmpty = true) {u' : xk_St} {r : Unit} {s0 : Int32} {s1 : Int32} {s2 : Int32} {s3 : Int32} {s4 : Int32} {u : xk_St} {H : Heap} {locs : List Loc} {ls : Array Slot} (h : jb_Model_checkStructure_194 fu  s0 s1 s2 s3 s4 u = some (r, u')) (hP : va_P D kx_cl (kw_m ad ca u) H) (hS : va_S (xk_A ads s.heap.size) s.heap H locs) (hl : lv_has ls 4 []) : W p l e rm_Model_checkStructure s m args below meth c H locs 0 0 (xk_MQ below (xk_Qc D kx_cl (kw_m ad ca) ads (xo_v (.inl r)) u') args s (xk_A ads s.heap.size)) (F0 m 194 ls [.int s0, .int s1, .int s2, .int s3, .int s4, .ref (ad 0)]) := by
  have hx := C.1.1
  have hb := C.1.2.1
  have hok := C.2.2.1
  unfold jb_Model_checkStructure_194 at h
  refine lv_iconst (v := 0) hx hb dd_Model_checkStructure_194 (by decide) ?_
  obtain ⟨rx, u5, hq, h⟩ := xp_seq h
  refine xk_goesV (xr_V (As := [.int s4, .int s3, .int s2, .int s1, .int s0, .int (0 : Int32)]) (rest := []) C hP hS (ct_Model_checkPart htr hok hq) kq_Model_645 0 11 rfl rfl ⟨rfl, rfl, Nat.le_of_ble_eq_true rfl, Nat.le_of_ble_eq_true rfl⟩ ⟨Nat.le_of_ble_eq_true rfl, Nat.le_of_ble_eq_true rfl⟩ hl.1 rfl rfl (Nat.le_of_ble_eq_true rfl) dd_Model_checkStructure_195) hS (fun H locs hP hS => ?_)
  clear hq
  obtain ⟨rfl, rfl⟩ := xp_r h
  exact xr_vret C hP hS dd_Model_checkStructure_198
set_option maxHeartbeats 4000000 in
set_option maxRecDepth 100000 in
theorem wj_Model_checkStructure_161 {p : Program} {l : Launch} {e : Env} {s : State} {m : MethodId} {args : Array Value} {below : List Frame} {meth : Method} {c : Code} {D : va_G} {ad : Nat → Nat} {ca : Nat → ClassId} {ads : List Nat} {fu : Nat} (htr : l.stackTraces = false) (C : xk_C D kx_cl (kx_ty ca) (kw_m ad ca) ads "ModuleHouseModel" prog_14_method_94_code 4 none p e s m args meth c) (hne : c.exceptionTable.isEmpty = true) {u' : xk_St} {r : Unit} {b1 : Int32} {s0 : Int32} {s1 : Int32} {s2 : Int32} {u : xk_St} {H : Heap} {locs : List Loc} {ls : Array Slot} (h : jb_Model_checkStructure_161 fu  b1 s0 s1 s2 u = some (r, u')) (hP : va_P D kx_cl (kw_m ad ca u) H) (hS : va_S (xk_A ads s.heap.size) s.heap H locs) (hl : lv_has ls 4 [(0, .ref (ad 0)), (1, .int b1)]) : W p l e rm_Model_checkStructure s m args below meth c H locs 0 0 (xk_MQ below (xk_Qc D kx_cl (kw_m ad ca) ads (xo_v (.inl r)) u') args s (xk_A ads s.heap.size)) (F0 m 161 ls [.int s0, .int s1, .int s2, .ref (ad 0)]) := by
  have hx := C.1.1
  have hb := C.1.2.1
  have hok := C.2.2.1
  unfold jb_Model_checkStructure_161 at h
  refine lv_aload_n hx hb dd_Model_checkStructure_161 rfl (lv_at hl 0 rfl) ?_
  refine gf_m_Model_0_sub C hP dd_Model_checkStructure_162 ?_
  refine lv_iconst (v := 2) hx hb dd_Model_checkStructure_165 (by decide) ?_
  refine lv_isub hx hb dd_Model_checkStructure_166 ?_
  refine lv_aload_n hx hb dd_Model_checkStructure_167 rfl (lv_at hl 0 rfl) ?_
  refine gf_m_Model_0_parts C hP dd_Model_checkStructure_168 ?_
  refine lv_bipush (v := 32) hx hb dd_Model_checkStructure_171 (by decide) ?_
  refine lv_iload_n hx hb dd_Model_checkStructure_173 rfl (lv_at hl 1 rfl) ?_
  refine lv_imul hx hb dd_Model_checkStructure_174 ?_
  refine lv_bipush (v := 16) hx hb dd_Model_checkStructure_175 (by decide) ?_
  refine lv_iadd hx hb dd_Model_checkStructure_177 ?_
  refine lv_aload_n hx hb dd_Model_checkStructure_178 rfl (lv_at hl 0 rfl) ?_
  refine gf_m_Model_0_y C hP dd_Model_checkStructure_179 ?_
  refine lv_l2i hx hb dd_Model_checkStructure_182 rfl ?_
  refine lv_iadd hx hb dd_Model_checkStructure_183 ?_
  obtain ⟨hi, h⟩ := xp_g h
  refine al_m_9 C hP hi dd_Model_checkStructure_184 ?_
  refine lv_iconst (v := 1) hx hb dd_Model_checkStructure_185 (by decide) ?_
  refine lv_icmp_ne (tgt := 193) hx hb dd_Model_checkStructure_186 (by decide) (fun hc => ?_) (fun hc => ?_)
  · have h := xp_f hc h
    refine lv_iconst (v := 0) hx hb dd_Model_checkStructure_193 (by decide) ?_
    exact wj_Model_checkStructure_194 htr C hne h hP hS (lv_sub hl [] rfl)
  · have h := xp_t hc h
    refine lv_iconst (v := 1) hx hb dd_Model_checkStructure_189 (by decide) ?_
    refine lv_goto (tgt := 194) hx hb dd_Model_checkStructure_190 (by decide) ?_
    exact wj_Model_checkStructure_194 htr C hne h hP hS (lv_sub hl [] rfl)
set_option maxHeartbeats 4000000 in
set_option maxRecDepth 100000 in
theorem wj_Model_checkStructure_95 {p : Program} {l : Launch} {e : Env} {s : State} {m : MethodId} {args : Array Value} {below : List Frame} {meth : Method} {c : Code} {D : va_G} {ad : Nat → Nat} {ca : Nat → ClassId} {ads : List Nat} {fu : Nat} (htr : l.stackTraces = false) (C : xk_C D kx_cl (kx_ty ca) (kw_m ad ca) ads "ModuleHouseModel" prog_14_method_94_code 4 none p e s m args meth c) (hne : c.exceptionTable.isEmpty = true) {u' : xk_St} {r : Unit} {k30 : Int32 → Int32 → xk_St → Option (Unit × xk_St)} (hk30 : ∀ (c0 : Int32) (c1 : Int32) (u : xk_St) (H : Heap) (locs : List Loc) (ls : Array Slot), k30 c0 c1 u = some (r, u') → va_P D kx_cl (kw_m ad ca u) H → va_S (xk_A ads s.heap.size) s.heap H locs → lv_has ls 4 [(0, .ref (ad 0)), (1, .int c0), (3, .int c1)] → W p l e rm_Model_checkStructure s m args below meth c H locs 0 0 (xk_MQ below (xk_Qc D kx_cl (kw_m ad ca) ads (xo_v (.inl r)) u') args s (xk_A ads s.heap.size)) (F0 m 30 ls [])) {b1 : Int32} {b3 : Int32} {u : xk_St} {H : Heap} {locs : List Loc} {ls : Array Slot} (h : jb_Model_checkStructure_95 fu k30 b1 b3 u = some (r, u')) (hP : va_P D kx_cl (kw_m ad ca u) H) (hS : va_S (xk_A ads s.heap.size) s.heap H locs) (hl : lv_has ls 4 [(0, .ref (ad 0)), (1, .int b1), (3, .int b3)]) : W p l e rm_Model_checkStructure s m args below meth c H locs 0 0 (xk_MQ below (xk_Qc D kx_cl (kw_m ad ca) ads (xo_v (.inl r)) u') args s (xk_A ads s.heap.size)) (F0 m 95 ls []) := by
  have hx := C.1.1
  have hb := C.1.2.1
  have hok := C.2.2.1
  unfold jb_Model_checkStructure_95 at h
  obtain ⟨a12, ea12, h⟩ := xp_let h
  refine lv_iinc (v := a12) (lv' := [(3, .int a12), (0, .ref (ad 0)), (1, .int b1)]) hx hb dd_Model_checkStructure_95 hl (k := 2) rfl (by rw [ea12]; first | rfl | decide) (by decide) rfl (fun ls hl => ?_)
  refine lv_goto (tgt := 30) hx hb dd_Model_checkStructure_98 (by decide) ?_
  exact hk30 b1 a12 u _ _ _ h hP hS (lv_sub hl [1, 2, 0] rfl)
set_option maxHeartbeats 4000000 in
set_option maxRecDepth 100000 in
theorem wj_Model_checkStructure_92 {p : Program} {l : Launch} {e : Env} {s : State} {m : MethodId} {args : Array Value} {below : List Frame} {meth : Method} {c : Code} {D : va_G} {ad : Nat → Nat} {ca : Nat → ClassId} {ads : List Nat} {fu : Nat} (htr : l.stackTraces = false) (C : xk_C D kx_cl (kx_ty ca) (kw_m ad ca) ads "ModuleHouseModel" prog_14_method_94_code 4 none p e s m args meth c) (hne : c.exceptionTable.isEmpty = true) {u' : xk_St} {r : Unit} {k30 : Int32 → Int32 → xk_St → Option (Unit × xk_St)} (hk30 : ∀ (c0 : Int32) (c1 : Int32) (u : xk_St) (H : Heap) (locs : List Loc) (ls : Array Slot), k30 c0 c1 u = some (r, u') → va_P D kx_cl (kw_m ad ca u) H → va_S (xk_A ads s.heap.size) s.heap H locs → lv_has ls 4 [(0, .ref (ad 0)), (1, .int c0), (3, .int c1)] → W p l e rm_Model_checkStructure s m args below meth c H locs 0 0 (xk_MQ below (xk_Qc D kx_cl (kw_m ad ca) ads (xo_v (.inl r)) u') args s (xk_A ads s.heap.size)) (F0 m 30 ls [])) {b1 : Int32} {b3 : Int32} {s0 : Int32} {u : xk_St} {H : Heap} {locs : List Loc} {ls : Array Slot} (h : jb_Model_checkStructure_92 fu k30 b1 b3 s0 u = some (r, u')) (hP : va_P D kx_cl (kw_m ad ca u) H) (hS : va_S (xk_A ads s.heap.size) s.heap H locs) (hl : lv_has ls 4 [(0, .ref (ad 0)), (1, .int b1), (3, .int b3)]) : W p l e rm_Model_checkStructure s m args below meth c H locs 0 0 (xk_MQ below (xk_Qc D kx_cl (kw_m ad ca) ads (xo_v (.inl r)) u') args s (xk_A ads s.heap.size)) (F0 m 92 ls [.int s0, .ref (ad 0)]) := by
  have hx := C.1.1
  have hb := C.1.2.1
  have hok := C.2.2.1
  unfold jb_Model_checkStructure_92 at h
  obtain ⟨hz, h⟩ := xp_p h
  refine pf_m_Model_0_wrong C hP hS hz dd_Model_checkStructure_92 (fun H locs hP hS => ?_)
  obtain ⟨u11, eu11, h⟩ := xp_let h
  rw [← eu11] at hP
  exact wj_Model_checkStructure_95 htr C hne hk30 h hP hS (lv_sub hl [0, 1, 2] rfl)
set_option maxHeartbeats 4000000 in
set_option maxRecDepth 100000 in
theorem wj_Model_checkStructure_87 {p : Program} {l : Launch} {e : Env} {s : State} {m : MethodId} {args : Array Value} {below : List Frame} {meth : Method} {c : Code} {D : va_G} {ad : Nat → Nat} {ca : Nat → ClassId} {ads : List Nat} {fu : Nat} (htr : l.stackTraces = false) (C : xk_C D kx_cl (kx_ty ca) (kw_m ad ca) ads "ModuleHouseModel" prog_14_method_94_code 4 none p e s m args meth c) (hne : c.exceptionTable.isEmpty = true) {u' : xk_St} {r : Unit} {k30 : Int32 → Int32 → xk_St → Option (Unit × xk_St)} (hk30 : ∀ (c0 : Int32) (c1 : Int32) (u : xk_St) (H : Heap) (locs : List Loc) (ls : Array Slot), k30 c0 c1 u = some (r, u') → va_P D kx_cl (kw_m ad ca u) H → va_S (xk_A ads s.heap.size) s.heap H locs → lv_has ls 4 [(0, .ref (ad 0)), (1, .int c0), (3, .int c1)] → W p l e rm_Model_checkStructure s m args below meth c H locs 0 0 (xk_MQ below (xk_Qc D kx_cl (kw_m ad ca) ads (xo_v (.inl r)) u') args s (xk_A ads s.heap.size)) (F0 m 30 ls [])) {b1 : Int32} {b3 : Int32} {u : xk_St} {H : Heap} {locs : List Loc} {ls : Array Slot} (h : jb_Model_checkStructure_87 fu k30 b1 b3 u = some (r, u')) (hP : va_P D kx_cl (kw_m ad ca u) H) (hS : va_S (xk_A ads s.heap.size) s.heap H locs) (hl : lv_has ls 4 [(0, .ref (ad 0)), (1, .int b1), (3, .int b3)]) : W p l e rm_Model_checkStructure s m args below meth c H locs 0 0 (xk_MQ below (xk_Qc D kx_cl (kw_m ad ca) ads (xo_v (.inl r)) u') args s (xk_A ads s.heap.size)) (F0 m 87 ls [.ref (ad 0)]) := by
  have hx := C.1.1
  have hb := C.1.2.1
  have hok := C.2.2.1
  unfold jb_Model_checkStructure_87 at h
  refine lv_iconst (v := 1) hx hb dd_Model_checkStructure_87 (by decide) ?_
  refine lv_goto (tgt := 92) hx hb dd_Model_checkStructure_88 (by decide) ?_
  exact wj_Model_checkStructure_92 htr C hne hk30 h hP hS (lv_sub hl [0, 1, 2] rfl)
set_option maxHeartbeats 4000000 in
set_option maxRecDepth 100000 in
theorem wj_Model_checkStructure_30 {p : Program} {l : Launch} {e : Env} {s : State} {m : MethodId} {args : Array Value} {below : List Frame} {meth : Method} {c : Code} {D : va_G} {ad : Nat → Nat} {ca : Nat → ClassId} {ads : List Nat} {fu : Nat} (htr : l.stackTraces = false) (C : xk_C D kx_cl (kx_ty ca) (kw_m ad ca) ads "ModuleHouseModel" prog_14_method_94_code 4 none p e s m args meth c) (hne : c.exceptionTable.isEmpty = true) {u' : xk_St} {r : Unit} : ∀ {n : Nat} {b1 : Int32} {b3 : Int32} {u : xk_St} {H : Heap} {locs : List Loc} {ls : Array Slot} (h : jb_Model_checkStructure_30 fu  n b1 b3 u = some (r, u')) (hP : va_P D kx_cl (kw_m ad ca u) H) (hS : va_S (xk_A ads s.heap.size) s.heap H locs) (hl : lv_has ls 4 [(0, .ref (ad 0)), (1, .int b1), (3, .int b3)]), W p l e rm_Model_checkStructure s m args below meth c H locs 0 0 (xk_MQ below (xk_Qc D kx_cl (kw_m ad ca) ads (xo_v (.inl r)) u') args s (xk_A ads s.heap.size)) (F0 m 30 ls []) := by
  intro n
  have hx := C.1.1
  have hb := C.1.2.1
  have hok := C.2.2.1
  induction n with
  | zero =>
    intro _ _ u H locs ls h
    have h : none = some (r, u') := h
    cases h
  | succ n ih =>
    intro b1 b3 u H locs ls h hP hS hl
    unfold jb_Model_checkStructure_30 at h
    obtain ⟨k30, ek30, h⟩ := xp_let h
    have hk30 : ∀ (c0 : Int32) (c1 : Int32) (u : xk_St) (H : Heap) (locs : List Loc) (ls : Array Slot), k30 c0 c1 u = some (r, u') → va_P D kx_cl (kw_m ad ca u) H → va_S (xk_A ads s.heap.size) s.heap H locs → lv_has ls 4 [(0, .ref (ad 0)), (1, .int c0), (3, .int c1)] → W p l e rm_Model_checkStructure s m args below meth c H locs 0 0 (xk_MQ below (xk_Qc D kx_cl (kw_m ad ca) ads (xo_v (.inl r)) u') args s (xk_A ads s.heap.size)) (F0 m 30 ls []) := by
      intro c0 c1 u H locs ls h hP hS hl
      subst ek30
      exact ih h hP hS hl
    clear ih ek30
    refine lv_iload_n hx hb dd_Model_checkStructure_30 rfl (lv_at hl 2 rfl) ?_
    refine lv_if_lt (tgt := 101) hx hb dd_Model_checkStructure_31 (by decide) (fun hc => ?_) (fun hc => ?_)
    · have h := xp_t hc h
      refine lv_aload_n hx hb dd_Model_checkStructure_101 rfl (lv_at hl 0 rfl) ?_
      refine lv_iconst (v := 2) hx hb dd_Model_checkStructure_102 (by decide) ?_
      refine lv_iload_n hx hb dd_Model_checkStructure_103 rfl (lv_at hl 1 rfl) ?_
      refine lv_iadd hx hb dd_Model_checkStructure_104 ?_
      refine lv_iconst (v := 0) hx hb dd_Model_checkStructure_105 (by decide) ?_
      obtain ⟨a8, u9, hq, h⟩ := xp_seq h
      refine xk_goesI (xr_S (As := [.int ((2 : Int32) + b1), .int (0 : Int32)]) (rest := [.ref (ad 0)]) C hP hS (ct_Model_reference htr hok hq) kq_Model_203 ⟨rfl, rfl, Nat.le_of_ble_eq_true rfl, Nat.le_of_ble_eq_true rfl⟩ ⟨Nat.le_of_ble_eq_true rfl, Nat.le_of_ble_eq_true rfl⟩ hl.1 rfl rfl (Nat.le_of_ble_eq_true rfl) dd_Model_checkStructure_106) hS (fun H locs hP hS => ?_)
      clear hq
      obtain ⟨rx, u10, hq, h⟩ := xp_seq h
      refine xk_goesV (xr_V (As := [.int a8]) (rest := []) C hP hS (ct_Model_push htr hok hq) kq_Model_507 0 11 rfl rfl ⟨rfl, rfl, Nat.le_of_ble_eq_true rfl, Nat.le_of_ble_eq_true rfl⟩ ⟨Nat.le_of_ble_eq_true rfl, Nat.le_of_ble_eq_true rfl⟩ hl.1 rfl rfl (Nat.le_of_ble_eq_true rfl) dd_Model_checkStructure_109) hS (fun H locs hP hS => ?_)
      clear hq
      obtain ⟨rfl, rfl⟩ := xp_r h
      exact xr_vret C hP hS dd_Model_checkStructure_112
    · have h := xp_f hc h
      refine lv_aload_n hx hb dd_Model_checkStructure_34 rfl (lv_at hl 0 rfl) ?_
      refine gf_m_Model_0_sub C hP dd_Model_checkStructure_35 ?_
      refine lv_if_ne (tgt := 62) hx hb dd_Model_checkStructure_38 (by decide) (fun hc => ?_) (fun hc => ?_)
      · have h := xp_f hc h
        refine lv_aload_n hx hb dd_Model_checkStructure_62 rfl (lv_at hl 0 rfl) ?_
        refine lv_aload_n hx hb dd_Model_checkStructure_63 rfl (lv_at hl 0 rfl) ?_
        refine gf_m_Model_0_wrong C hP dd_Model_checkStructure_64 ?_
        refine lv_if_ne (tgt := 87) hx hb dd_Model_checkStructure_67 (by decide) (fun hc => ?_) (fun hc => ?_)
        · have h := xp_f hc h
          exact wj_Model_checkStructure_87 htr C hne hk30 h hP hS (lv_sub hl [0, 1, 2] rfl)
        · have h := xp_t hc h
          refine lv_aload_n hx hb dd_Model_checkStructure_70 rfl (lv_at hl 0 rfl) ?_
          refine gf_m_Model_0_parts C hP dd_Model_checkStructure_71 ?_
          refine lv_bipush (v := 32) hx hb dd_Model_checkStructure_74 (by decide) ?_
          refine lv_iload_n hx hb dd_Model_checkStructure_76 rfl (lv_at hl 1 rfl) ?_
          refine lv_imul hx hb dd_Model_checkStructure_77 ?_
          refine lv_iload_n hx hb dd_Model_checkStructure_78 rfl (lv_at hl 2 rfl) ?_
          refine lv_iadd hx hb dd_Model_checkStructure_79 ?_
          obtain ⟨hi, h⟩ := xp_g h
          refine al_m_9 C hP hi dd_Model_checkStructure_80 ?_
          obtain ⟨a13, u14, hq, h⟩ := xp_seq h
          refine xk_goesI (xr_S (As := [.int (u.2.2.1 7 (((32 : Int32) * b1) + b3).toNatClampNeg)]) (rest := [.ref (ad 0)]) C hP hS (ct_Model_hasDefault htr hok hq) kq_Model_642 ⟨rfl, rfl, Nat.le_of_ble_eq_true rfl, Nat.le_of_ble_eq_true rfl⟩ ⟨Nat.le_of_ble_eq_true rfl, Nat.le_of_ble_eq_true rfl⟩ hl.1 rfl rfl (Nat.le_of_ble_eq_true rfl) dd_Model_checkStructure_81) hS (fun H locs hP hS => ?_)
          clear hq
          refine lv_if_ne (tgt := 91) hx hb dd_Model_checkStructure_84 (by decide) (fun hc => ?_) (fun hc => ?_)
          · have h := xp_f hc h
            refine lv_iconst (v := 0) hx hb dd_Model_checkStructure_91 (by decide) ?_
            exact wj_Model_checkStructure_92 htr C hne hk30 h hP hS (lv_sub hl [0, 1, 2] rfl)
          · have h := xp_t hc h
            exact wj_Model_checkStructure_87 htr C hne hk30 h hP hS (lv_sub hl [0, 1, 2] rfl)
      · have h := xp_t hc h
        refine lv_aload_n hx hb dd_Model_checkStructure_41 rfl (lv_at hl 0 rfl) ?_
        refine lv_aload_n hx hb dd_Model_checkStructure_42 rfl (lv_at hl 0 rfl) ?_
        refine gf_m_Model_0_parts C hP dd_Model_checkStructure_43 ?_
        refine lv_bipush (v := 32) hx hb dd_Model_checkStructure_46 (by decide) ?_
        refine lv_iload_n hx hb dd_Model_checkStructure_48 rfl (lv_at hl 1 rfl) ?_
        refine lv_imul hx hb dd_Model_checkStructure_49 ?_
        refine lv_iload_n hx hb dd_Model_checkStructure_50 rfl (lv_at hl 2 rfl) ?_
        refine lv_iadd hx hb dd_Model_checkStructure_51 ?_
        obtain ⟨hi, h⟩ := xp_g h
        refine al_m_9 C hP hi dd_Model_checkStructure_52 ?_
        obtain ⟨a15, u16, hq, h⟩ := xp_seq h
        refine xk_goesI (xr_S (As := [.int (u.2.2.1 7 (((32 : Int32) * b1) + b3).toNatClampNeg)]) (rest := [.ref (ad 0)]) C hP hS (ct_Model_unpacked htr hok hq) kq_Model_639 ⟨rfl, rfl, Nat.le_of_ble_eq_true rfl, Nat.le_of_ble_eq_true rfl⟩ ⟨Nat.le_of_ble_eq_true rfl, Nat.le_of_ble_eq_true rfl⟩ hl.1 rfl rfl (Nat.le_of_ble_eq_true rfl) dd_Model_checkStructure_53) hS (fun H locs hP hS => ?_)
        clear hq
        obtain ⟨rx, u17, hq, h⟩ := xp_seq h
        refine xk_goesV (xr_V (As := [.int a15]) (rest := []) C hP hS (ct_Model_take htr hok hq) kq_Model_504 0 11 rfl rfl ⟨rfl, rfl, Nat.le_of_ble_eq_true rfl, Nat.le_of_ble_eq_true rfl⟩ ⟨Nat.le_of_ble_eq_true rfl, Nat.le_of_ble_eq_true rfl⟩ hl.1 rfl rfl (Nat.le_of_ble_eq_true rfl) dd_Model_checkStructure_56) hS (fun H locs hP hS => ?_)
        clear hq
        refine lv_goto (tgt := 95) hx hb dd_Model_checkStructure_59 (by decide) ?_
        exact wj_Model_checkStructure_95 htr C hne hk30 h hP hS (lv_sub hl [0, 1, 2] rfl)
set_option maxHeartbeats 4000000 in
set_option maxRecDepth 100000 in
theorem ct_Model_checkStructure {l : Launch} {D : va_G} {ad : Nat → Nat} {ca : Nat → ClassId} {ads : List Nat} (htr : l.stackTraces = false) (hok : xk_ok (kw_m ad ca) ads) {fu : Nat} {u u' : xk_St} {r : Unit} (h : fm_Model_checkStructure fu u = some (r, u')) :
    ∀ sz, xk_Met l ⟨"ModuleHouseModel", "checkStructure", "()V"⟩ (Cond.code ⟨"ModuleHouseModel", "checkStructure", "()V"⟩ prog_14_method_94_code 4 none :: xk_gd) rm_Model_checkStructure (xk_Pc D kx_cl (kx_ty ca) (kw_m ad ca) ads xk_F sz [.ref (ad 0)] u) (xk_Qc D kx_cl (kw_m ad ca) ads (xo_v (.inl r)) u') (xk_A ads sz) := by
  unfold fm_Model_checkStructure at h
  refine xk_con (by decide) htr hok (Nat.le_of_ble_eq_true rfl) (fun p e s m below meth c ls C hne hl hP => ?_)
  have hx := C.1.1
  have hb := C.1.2.1
  have hS : va_S (xk_A ads s.heap.size) s.heap s.heap [] := va_S.rf
  have hl : lv_has ls 4 [(0, .ref (ad 0))] := hl
  refine lv_aload_n hx hb dd_Model_checkStructure_0 rfl (lv_at hl 0 rfl) ?_
  refine lv_iconst (v := 1) hx hb dd_Model_checkStructure_1 (by decide) ?_
  obtain ⟨a1, u2, hq, h⟩ := xp_seq h
  refine xk_goesI (xr_V (As := [.int (1 : Int32)]) (rest := []) C hP hS (ct_Model_objectType htr hok hq) kq_Model_636 0 11 rfl rfl ⟨rfl, rfl, Nat.le_of_ble_eq_true rfl, Nat.le_of_ble_eq_true rfl⟩ ⟨Nat.le_of_ble_eq_true rfl, Nat.le_of_ble_eq_true rfl⟩ hl.1 rfl rfl (Nat.le_of_ble_eq_true rfl) dd_Model_checkStructure_2) hS (fun H locs hP hS => ?_)
  clear hq
  refine lv_istore_n (lv' := [(1, .int a1), (0, .ref (ad 0))]) hx hb dd_Model_checkStructure_5 rfl hl (by decide) rfl (fun ls hl => ?_)
  refine lv_iload_n hx hb dd_Model_checkStructure_6 rfl (lv_at hl 0 rfl) ?_
  refine lv_if_ge (tgt := 11) hx hb dd_Model_checkStructure_7 (by decide) (fun hc => ?_) (fun hc => ?_)
  · have h := xp_t hc h
    refine lv_aload_n hx hb dd_Model_checkStructure_11 rfl (lv_at hl 1 rfl) ?_
    refine gf_m_Model_0_partMany C hP dd_Model_checkStructure_12 ?_
    refine lv_iload_n hx hb dd_Model_checkStructure_15 rfl (lv_at hl 0 rfl) ?_
    obtain ⟨hi, h⟩ := xp_g h
    refine al_m_7 C hP hi dd_Model_checkStructure_16 ?_
    obtain ⟨a3, ea3, h⟩ := xp_let h
    refine xr_nami ea3 ?_
    refine lv_istore_n (lv' := [(2, .int a3), (1, .int a1), (0, .ref (ad 0))]) hx hb dd_Model_checkStructure_17 rfl hl (by decide) rfl (fun ls hl => ?_)
    refine lv_aload_n hx hb dd_Model_checkStructure_18 rfl (lv_at hl 2 rfl) ?_
    refine gf_m_Model_0_sub C hP dd_Model_checkStructure_19 ?_
    refine lv_iconst (v := 2) hx hb dd_Model_checkStructure_22 (by decide) ?_
    refine lv_icmp_ge (tgt := 113) hx hb dd_Model_checkStructure_23 (by decide) (fun hc => ?_) (fun hc => ?_)
    · have h := xp_t hc h
      refine lv_aload_n hx hb dd_Model_checkStructure_113 rfl (lv_at hl 2 rfl) ?_
      refine gf_m_Model_0_y C hP dd_Model_checkStructure_114 ?_
      refine lv_iload_n hx hb dd_Model_checkStructure_117 rfl (lv_at hl 0 rfl) ?_
      refine lv_i2l hx hb dd_Model_checkStructure_118 rfl ?_
      refine xr_lc_lt (tgt := 129) hx hb dd_Model_checkStructure_119 dd_Model_checkStructure_120 (by decide) (fun hc => ?_) (fun hc => ?_)
      · have h := xp_t hc h
        refine lv_aload_n hx hb dd_Model_checkStructure_129 rfl (lv_at hl 2 rfl) ?_
        refine gf_m_Model_0_parts C hP dd_Model_checkStructure_130 ?_
        refine lv_bipush (v := 32) hx hb dd_Model_checkStructure_133 (by decide) ?_
        refine lv_iload_n hx hb dd_Model_checkStructure_135 rfl (lv_at hl 1 rfl) ?_
        refine lv_imul hx hb dd_Model_checkStructure_136 ?_
        refine lv_aload_n hx hb dd_Model_checkStructure_137 rfl (lv_at hl 2 rfl) ?_
        refine gf_m_Model_0_y C hP dd_Model_checkStructure_138 ?_
        refine lv_l2i hx hb dd_Model_checkStructure_141 rfl ?_
        refine lv_iadd hx hb dd_Model_checkStructure_142 ?_
        obtain ⟨hi, h⟩ := xp_g h
        refine al_m_9 C hP hi dd_Model_checkStructure_143 ?_
        obtain ⟨a4, ea4, h⟩ := xp_let h
        refine xr_nami ea4 ?_
        refine lv_istore_n (lv' := [(3, .int a4), (2, .int a3), (1, .int a1), (0, .ref (ad 0))]) hx hb dd_Model_checkStructure_144 rfl hl (by decide) rfl (fun ls hl => ?_)
        refine lv_aload_n hx hb dd_Model_checkStructure_145 rfl (lv_at hl 3 rfl) ?_
        refine lv_iload_n hx hb dd_Model_checkStructure_146 rfl (lv_at hl 2 rfl) ?_
        refine lv_iload_n hx hb dd_Model_checkStructure_147 rfl (lv_at hl 0 rfl) ?_
        refine lv_aload_n hx hb dd_Model_checkStructure_148 rfl (lv_at hl 3 rfl) ?_
        refine gf_m_Model_0_sub C hP dd_Model_checkStructure_149 ?_
        refine lv_iconst (v := 5) hx hb dd_Model_checkStructure_152 (by decide) ?_
        refine lv_icmp_ne (tgt := 160) hx hb dd_Model_checkStructure_153 (by decide) (fun hc => ?_) (fun hc => ?_)
        · have h := xp_f hc h
          refine lv_iconst (v := 0) hx hb dd_Model_checkStructure_160 (by decide) ?_
          exact wj_Model_checkStructure_161 htr C hne h hP hS (lv_sub hl [3, 2] rfl)
        · have h := xp_t hc h
          refine lv_iconst (v := 1) hx hb dd_Model_checkStructure_156 (by decide) ?_
          refine lv_goto (tgt := 161) hx hb dd_Model_checkStructure_157 (by decide) ?_
          exact wj_Model_checkStructure_161 htr C hne h hP hS (lv_sub hl [3, 2] rfl)
      · have h := xp_f hc h
        refine lv_aload_n hx hb dd_Model_checkStructure_123 rfl (lv_at hl 2 rfl) ?_
        refine lv_iconst (v := 1) hx hb dd_Model_checkStructure_124 (by decide) ?_
        refine pf_m_Model_0_wrong C hP hS (by decide) dd_Model_checkStructure_125 (fun H locs hP hS => ?_)
        obtain ⟨u6, eu6, h⟩ := xp_let h
        rw [← eu6] at hP
        obtain ⟨rfl, rfl⟩ := xp_r h
        exact xr_vret C hP hS dd_Model_checkStructure_128
    · have h := xp_f hc h
      refine lv_iload_n hx hb dd_Model_checkStructure_26 rfl (lv_at hl 0 rfl) ?_
      refine lv_iconst (v := 1) hx hb dd_Model_checkStructure_27 (by decide) ?_
      refine lv_isub hx hb dd_Model_checkStructure_28 ?_
      obtain ⟨a7, ea7, h⟩ := xp_let h
      refine xr_nami ea7 ?_
      refine lv_istore_n (lv' := [(3, .int a7), (2, .int a3), (1, .int a1), (0, .ref (ad 0))]) hx hb dd_Model_checkStructure_29 rfl hl (by decide) rfl (fun ls hl => ?_)
      exact wj_Model_checkStructure_30 htr C hne h hP hS (lv_sub hl [3, 2, 0] rfl)
  · have h := xp_f hc h
    obtain ⟨rfl, rfl⟩ := xp_r h
    exact xr_vret C hP hS dd_Model_checkStructure_10
