abbrev rm_Model_thrown : Room := { frames := 1, cells := 1, slots := 6, locals := 0 }
noncomputable def fm_Model_thrown (u : xk_St) : Option (Int32 × xk_St) :=
  some ((u.1 0), u)
set_option maxHeartbeats 4000000 in
set_option maxRecDepth 100000 in
theorem ct_Model_thrown {l : Launch} {D : va_G} {ad : Nat → Nat} {ca : Nat → ClassId} {ads : List Nat} (htr : l.stackTraces = false) (hok : xk_ok (kw_m ad ca) ads) {u u' : xk_St} {r : Int32} (h : fm_Model_thrown u = some (r, u')) :
    ∀ sz, xk_Met l ⟨"ModuleHouseModel", "thrown", "()I"⟩ (Cond.code ⟨"ModuleHouseModel", "thrown", "()I"⟩ prog_14_method_2_code 1 (some .int) :: xk_gd) rm_Model_thrown (xk_Pc D kx_cl (kx_ty ca) (kw_m ad ca) ads xk_F sz [.ref (ad 0)] u) (xk_Qc D kx_cl (kw_m ad ca) ads (xo_i (.inl r)) u') (xk_A ads sz) := by
  unfold fm_Model_thrown at h
  refine xk_con (by decide) htr hok (Nat.le_of_ble_eq_true rfl) (fun p e s m below meth c ls C hne hl hP => ?_)
  have hx := C.1.1
  have hb := C.1.2.1
  have hS : va_S (xk_A ads s.heap.size) s.heap s.heap [] := va_S.rf
  have hl : lv_has ls 1 [(0, .ref (ad 0))] := hl
  refine lv_aload_n hx hb dd_Model_thrown_0 rfl (lv_at hl 0 rfl) ?_
  refine gf_m_Model_0_thrown C hP dd_Model_thrown_1 ?_
  cases h
  exact xr_iret C hP hS dd_Model_thrown_4
abbrev rm_Model_fails : Room := { frames := 1, cells := 1, slots := 6, locals := 0 }
noncomputable def fm_Model_fails (x0 : Int32) (x1 : Int32) (u : xk_St) : Option (Int32 × xk_St) :=
  if x0 = (0 : Int32) then ((xs_let (xs_I u 0 (0 : Int32)) fun u1 => if x0 = 0 ∨ x0 = 1 then some (x0, u1) else none)) else ((xs_let (xs_I u 0 x1) fun u2 => if x0 = 0 ∨ x0 = 1 then some (x0, u2) else none))
set_option maxHeartbeats 4000000 in
set_option maxRecDepth 100000 in
theorem ct_Model_fails {l : Launch} {D : va_G} {ad : Nat → Nat} {ca : Nat → ClassId} {ads : List Nat} (htr : l.stackTraces = false) (hok : xk_ok (kw_m ad ca) ads) {x0 : Int32} {x1 : Int32} {u u' : xk_St} {r : Int32} (h : fm_Model_fails x0 x1 u = some (r, u')) :
    ∀ sz, xk_Met l ⟨"ModuleHouseModel", "fails", "(ZI)Z"⟩ (Cond.code ⟨"ModuleHouseModel", "fails", "(ZI)Z"⟩ prog_14_method_3_code 3 (some .boolean) :: xk_gd) rm_Model_fails (xk_Pc D kx_cl (kx_ty ca) (kw_m ad ca) ads xk_F sz [.ref (ad 0), .int x0, .int x1] u) (xk_Qc D kx_cl (kw_m ad ca) ads (xo_i (.inl r)) u') (xk_A ads sz) := by
  unfold fm_Model_fails at h
  refine xk_con (by decide) htr hok (Nat.le_of_ble_eq_true rfl) (fun p e s m below meth c ls C hne hl hP => ?_)
  have hx := C.1.1
  have hb := C.1.2.1
  have hS : va_S (xk_A ads s.heap.size) s.heap s.heap [] := va_S.rf
  have hl : lv_has ls 3 [(0, .ref (ad 0)), (1, .int x0), (2, .int x1)] := hl
  refine lv_aload_n hx hb dd_Model_fails_0 rfl (lv_at hl 0 rfl) ?_
  refine lv_iload_n hx hb dd_Model_fails_1 rfl (lv_at hl 1 rfl) ?_
  refine lv_if_eq (tgt := 9) hx hb dd_Model_fails_2 (by decide) (fun hc => ?_) (fun hc => ?_)
  · have h := xp_t hc h
    refine lv_iconst (v := 0) hx hb dd_Model_fails_9 (by decide) ?_
    refine pf_m_Model_0_thrown C hP hS dd_Model_fails_10 (fun H locs hP hS => ?_)
    obtain ⟨u1, eu1, h⟩ := xp_let h
    rw [← eu1] at hP
    refine lv_iload_n hx hb dd_Model_fails_13 rfl (lv_at hl 1 rfl) ?_
    obtain ⟨hz, h⟩ := xp_p h
    cases h
    exact xr_zret C hP hS hz dd_Model_fails_14
  · have h := xp_f hc h
    refine lv_iload_n hx hb dd_Model_fails_5 rfl (lv_at hl 2 rfl) ?_
    refine lv_goto (tgt := 10) hx hb dd_Model_fails_6 (by decide) ?_
    refine pf_m_Model_0_thrown C hP hS dd_Model_fails_10 (fun H locs hP hS => ?_)
    obtain ⟨u2, eu2, h⟩ := xp_let h
    rw [← eu2] at hP
    refine lv_iload_n hx hb dd_Model_fails_13 rfl (lv_at hl 1 rfl) ?_
    obtain ⟨hz, h⟩ := xp_p h
    cases h
    exact xr_zret C hP hS hz dd_Model_fails_14
abbrev rm_Model_fail : Room := { frames := 1, cells := 1, slots := 6, locals := 0 }
noncomputable def fm_Model_fail (x0 : Int32) (u : xk_St) : Option (Unit × xk_St) :=
  if (u.1 6) = (0 : Int32) then ((xs_let (xs_I u 6 x0) fun u2 => some ((()), u2))) else ((xs_let (xs_I u 6 (u.1 6)) fun u1 => some ((()), u1)))
set_option maxHeartbeats 4000000 in
set_option maxRecDepth 100000 in
theorem ct_Model_fail {l : Launch} {D : va_G} {ad : Nat → Nat} {ca : Nat → ClassId} {ads : List Nat} (htr : l.stackTraces = false) (hok : xk_ok (kw_m ad ca) ads) {x0 : Int32} {u u' : xk_St} {r : Unit} (h : fm_Model_fail x0 u = some (r, u')) :
    ∀ sz, xk_Met l ⟨"ModuleHouseModel", "fail", "(I)V"⟩ (Cond.code ⟨"ModuleHouseModel", "fail", "(I)V"⟩ prog_14_method_8_code 2 none :: xk_gd) rm_Model_fail (xk_Pc D kx_cl (kx_ty ca) (kw_m ad ca) ads xk_F sz [.ref (ad 0), .int x0] u) (xk_Qc D kx_cl (kw_m ad ca) ads (xo_v (.inl r)) u') (xk_A ads sz) := by
  unfold fm_Model_fail at h
  refine xk_con (by decide) htr hok (Nat.le_of_ble_eq_true rfl) (fun p e s m below meth c ls C hne hl hP => ?_)
  have hx := C.1.1
  have hb := C.1.2.1
  have hS : va_S (xk_A ads s.heap.size) s.heap s.heap [] := va_S.rf
  have hl : lv_has ls 2 [(0, .ref (ad 0)), (1, .int x0)] := hl
  refine lv_aload_n hx hb dd_Model_fail_0 rfl (lv_at hl 0 rfl) ?_
  refine lv_aload_n hx hb dd_Model_fail_1 rfl (lv_at hl 0 rfl) ?_
  refine gf_m_Model_0_bad C hP dd_Model_fail_2 ?_
  refine lv_if_ne (tgt := 12) hx hb dd_Model_fail_5 (by decide) (fun hc => ?_) (fun hc => ?_)
  · have h := xp_f hc h
    refine lv_aload_n hx hb dd_Model_fail_12 rfl (lv_at hl 0 rfl) ?_
    refine gf_m_Model_0_bad C hP dd_Model_fail_13 ?_
    refine pf_m_Model_0_bad C hP hS dd_Model_fail_16 (fun H locs hP hS => ?_)
    obtain ⟨u1, eu1, h⟩ := xp_let h
    rw [← eu1] at hP
    cases h
    exact xr_vret C hP hS dd_Model_fail_19
  · have h := xp_t hc h
    refine lv_iload_n hx hb dd_Model_fail_8 rfl (lv_at hl 1 rfl) ?_
    refine lv_goto (tgt := 16) hx hb dd_Model_fail_9 (by decide) ?_
    refine pf_m_Model_0_bad C hP hS dd_Model_fail_16 (fun H locs hP hS => ?_)
    obtain ⟨u2, eu2, h⟩ := xp_let h
    rw [← eu2] at hP
    cases h
    exact xr_vret C hP hS dd_Model_fail_19
abbrev rm_Model_one : Room := { frames := 2, cells := 1, slots := 6, locals := 21 }
noncomputable def jb_Model_one_18 (u : xk_St) : Option (Int32 × xk_St) :=
  (xs_seq (fm_Model_fail (-1 : Int32) u) fun _ u1 => some ((0 : Int32), u1))
noncomputable def fm_Model_one (u : xk_St) : Option (Int32 × xk_St) :=
  if (u.1 6) = (0 : Int32) then (if (u.1 4) < (u.1 5) then ((xs_let (xs_I u 4 ((u.1 4) + (1 : Int32))) fun u2 => if ((u2.1 4) - (1 : Int32)) < 0 ∨ 8192 ≤ ((u2.1 4) - (1 : Int32)).toNatClampNeg then none else some (((u2.2.2.1 1 ((u2.1 4) - (1 : Int32)).toNatClampNeg) &&& (255 : Int32)), u2))) else (jb_Model_one_18 u)) else (jb_Model_one_18 u)
set_option maxHeartbeats 4000000 in
set_option maxRecDepth 100000 in
theorem wj_Model_one_18 {p : Program} {l : Launch} {e : Env} {s : State} {m : MethodId} {args : Array Value} {below : List Frame} {meth : Method} {c : Code} {D : va_G} {ad : Nat → Nat} {ca : Nat → ClassId} {ads : List Nat} (htr : l.stackTraces = false) (C : xk_C D kx_cl (kx_ty ca) (kw_m ad ca) ads "ModuleHouseModel" prog_14_method_9_code 1 (some .int) p e s m args meth c) (hne : c.exceptionTable.isEmpty = true) {u' : xk_St} {r : Int32} {u : xk_St} {H : Heap} {locs : List Loc} {ls : Array Slot} (h : jb_Model_one_18   u = some (r, u')) (hP : va_P D kx_cl (kw_m ad ca u) H) (hS : va_S (xk_A ads s.heap.size) s.heap H locs) (hl : lv_has ls 1 [(0, .ref (ad 0))]) : W p l e rm_Model_one s m args below meth c H locs 0 0 (xk_MQ below (xk_Qc D kx_cl (kw_m ad ca) ads (xo_i (.inl r)) u') args s (xk_A ads s.heap.size)) (F0 m 18 ls []) := by
  have hx := C.1.1
  have hb := C.1.2.1
  have hok := C.2.2.1
  unfold jb_Model_one_18 at h
  refine lv_aload_n hx hb dd_Model_one_18 rfl (lv_at hl 0 rfl) ?_
  refine lv_iconst (v := (-1)) hx hb dd_Model_one_19 (by decide) ?_
  obtain ⟨rx, u1, hq, h⟩ := xp_seq h
  refine xk_goesV (xr_V (As := [.int (-1 : Int32)]) (rest := []) C hP hS (ct_Model_fail htr hok hq) kq_Model_174 0 11 rfl rfl ⟨rfl, rfl, Nat.le_of_ble_eq_true rfl, Nat.le_of_ble_eq_true rfl⟩ ⟨Nat.le_of_ble_eq_true rfl, Nat.le_of_ble_eq_true rfl⟩ hl.1 rfl rfl (Nat.le_of_ble_eq_true rfl) dd_Model_one_20) hS (fun H locs hP hS => ?_)
  clear hq
  refine lv_iconst (v := 0) hx hb dd_Model_one_23 (by decide) ?_
  cases h
  exact xr_iret C hP hS dd_Model_one_24
set_option maxHeartbeats 4000000 in
set_option maxRecDepth 100000 in
theorem ct_Model_one {l : Launch} {D : va_G} {ad : Nat → Nat} {ca : Nat → ClassId} {ads : List Nat} (htr : l.stackTraces = false) (hok : xk_ok (kw_m ad ca) ads) {u u' : xk_St} {r : Int32} (h : fm_Model_one u = some (r, u')) :
    ∀ sz, xk_Met l ⟨"ModuleHouseModel", "one", "()I"⟩ (Cond.code ⟨"ModuleHouseModel", "one", "()I"⟩ prog_14_method_9_code 1 (some .int) :: xk_gd) rm_Model_one (xk_Pc D kx_cl (kx_ty ca) (kw_m ad ca) ads xk_F sz [.ref (ad 0)] u) (xk_Qc D kx_cl (kw_m ad ca) ads (xo_i (.inl r)) u') (xk_A ads sz) := by
  unfold fm_Model_one at h
  refine xk_con (by decide) htr hok (Nat.le_of_ble_eq_true rfl) (fun p e s m below meth c ls C hne hl hP => ?_)
  have hx := C.1.1
  have hb := C.1.2.1
  have hS : va_S (xk_A ads s.heap.size) s.heap s.heap [] := va_S.rf
  have hl : lv_has ls 1 [(0, .ref (ad 0))] := hl
  refine lv_aload_n hx hb dd_Model_one_0 rfl (lv_at hl 0 rfl) ?_
  refine gf_m_Model_0_bad C hP dd_Model_one_1 ?_
  refine lv_if_ne (tgt := 18) hx hb dd_Model_one_4 (by decide) (fun hc => ?_) (fun hc => ?_)
  · have h := xp_f hc h
    exact wj_Model_one_18 htr C hne h hP hS (lv_sub hl [0] rfl)
  · have h := xp_t hc h
    refine lv_aload_n hx hb dd_Model_one_7 rfl (lv_at hl 0 rfl) ?_
    refine gf_m_Model_0_at C hP dd_Model_one_8 ?_
    refine lv_aload_n hx hb dd_Model_one_11 rfl (lv_at hl 0 rfl) ?_
    refine gf_m_Model_0_limit C hP dd_Model_one_12 ?_
    refine lv_icmp_lt (tgt := 25) hx hb dd_Model_one_15 (by decide) (fun hc => ?_) (fun hc => ?_)
    · have h := xp_t hc h
      refine lv_aload_n hx hb dd_Model_one_25 rfl (lv_at hl 0 rfl) ?_
      refine lv_dup hx hb dd_Model_one_26 rfl ?_
      refine gf_m_Model_0_at C hP dd_Model_one_27 ?_
      refine lv_iconst (v := 1) hx hb dd_Model_one_30 (by decide) ?_
      refine lv_iadd hx hb dd_Model_one_31 ?_
      refine pf_m_Model_0_at C hP hS dd_Model_one_32 (fun H locs hP hS => ?_)
      obtain ⟨u2, eu2, h⟩ := xp_let h
      rw [← eu2] at hP
      refine lv_aload_n hx hb dd_Model_one_35 rfl (lv_at hl 0 rfl) ?_
      refine gf_m_Model_0_code C hP dd_Model_one_36 ?_
      refine lv_aload_n hx hb dd_Model_one_39 rfl (lv_at hl 0 rfl) ?_
      refine gf_m_Model_0_at C hP dd_Model_one_40 ?_
      refine lv_iconst (v := 1) hx hb dd_Model_one_43 (by decide) ?_
      refine lv_isub hx hb dd_Model_one_44 ?_
      obtain ⟨hi, h⟩ := xp_g h
      refine al_m_3 C hP hi dd_Model_one_45 ?_
      refine lv_sipush (v := 255) hx hb dd_Model_one_46 (by decide) ?_
      refine lv_iand hx hb dd_Model_one_49 ?_
      cases h
      exact xr_iret C hP hS dd_Model_one_50
    · have h := xp_f hc h
      exact wj_Model_one_18 htr C hne h hP hS (lv_sub hl [0] rfl)
abbrev rm_Model_ahead : Room := { frames := 1, cells := 1, slots := 6, locals := 0 }
noncomputable def fm_Model_ahead (u : xk_St) : Option (Int32 × xk_St) :=
  if (u.1 5) ≤ (u.1 4) then (some ((-1 : Int32), u)) else ((if (u.1 4) < 0 ∨ 8192 ≤ (u.1 4).toNatClampNeg then none else some (((u.2.2.1 1 (u.1 4).toNatClampNeg) &&& (255 : Int32)), u)))
set_option maxHeartbeats 4000000 in
set_option maxRecDepth 100000 in
theorem ct_Model_ahead {l : Launch} {D : va_G} {ad : Nat → Nat} {ca : Nat → ClassId} {ads : List Nat} (htr : l.stackTraces = false) (hok : xk_ok (kw_m ad ca) ads) {u u' : xk_St} {r : Int32} (h : fm_Model_ahead u = some (r, u')) :
    ∀ sz, xk_Met l ⟨"ModuleHouseModel", "ahead", "()I"⟩ (Cond.code ⟨"ModuleHouseModel", "ahead", "()I"⟩ prog_14_method_10_code 1 (some .int) :: xk_gd) rm_Model_ahead (xk_Pc D kx_cl (kx_ty ca) (kw_m ad ca) ads xk_F sz [.ref (ad 0)] u) (xk_Qc D kx_cl (kw_m ad ca) ads (xo_i (.inl r)) u') (xk_A ads sz) := by
  unfold fm_Model_ahead at h
  refine xk_con (by decide) htr hok (Nat.le_of_ble_eq_true rfl) (fun p e s m below meth c ls C hne hl hP => ?_)
  have hx := C.1.1
  have hb := C.1.2.1
  have hS : va_S (xk_A ads s.heap.size) s.heap s.heap [] := va_S.rf
  have hl : lv_has ls 1 [(0, .ref (ad 0))] := hl
  refine lv_aload_n hx hb dd_Model_ahead_0 rfl (lv_at hl 0 rfl) ?_
  refine gf_m_Model_0_at C hP dd_Model_ahead_1 ?_
  refine lv_aload_n hx hb dd_Model_ahead_4 rfl (lv_at hl 0 rfl) ?_
  refine gf_m_Model_0_limit C hP dd_Model_ahead_5 ?_
  refine lv_icmp_ge (tgt := 27) hx hb dd_Model_ahead_8 (by decide) (fun hc => ?_) (fun hc => ?_)
  · have h := xp_t hc h
    refine lv_iconst (v := (-1)) hx hb dd_Model_ahead_27 (by decide) ?_
    cases h
    exact xr_iret C hP hS dd_Model_ahead_28
  · have h := xp_f hc h
    refine lv_aload_n hx hb dd_Model_ahead_11 rfl (lv_at hl 0 rfl) ?_
    refine gf_m_Model_0_code C hP dd_Model_ahead_12 ?_
    refine lv_aload_n hx hb dd_Model_ahead_15 rfl (lv_at hl 0 rfl) ?_
    refine gf_m_Model_0_at C hP dd_Model_ahead_16 ?_
    obtain ⟨hi, h⟩ := xp_g h
    refine al_m_3 C hP hi dd_Model_ahead_19 ?_
    refine lv_sipush (v := 255) hx hb dd_Model_ahead_20 (by decide) ?_
    refine lv_iand hx hb dd_Model_ahead_23 ?_
    refine lv_goto (tgt := 28) hx hb dd_Model_ahead_24 (by decide) ?_
    cases h
    exact xr_iret C hP hS dd_Model_ahead_28
