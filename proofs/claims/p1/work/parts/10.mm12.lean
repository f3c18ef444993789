abbrev rm_Model_doKind : Room := { frames := 3, cells := 1, slots := 6, locals := 45 }
noncomputable def jb_Model_doKind_91 (s0 : Int64) (u : xk_St) : Option (Unit × xk_St) :=
  (xs_seq (fm_Model_tell s0 u) fun _ u5 => some ((()), u5))
noncomputable def jb_Model_doKind_46 (s0 : Int32) (u : xk_St) : Option (Unit × xk_St) :=
  if (u.1 9) ≤ (21 : Int32) then ((xs_let (xs_I u 26 ((u.1 26) - (1 : Int32))) fun u4 => if s0 = (0 : Int32) then (jb_Model_doKind_91 (0 : Int64) u4) else (jb_Model_doKind_91 (1 : Int64) u4))) else (if s0 = (0 : Int32) then ((xs_let (xs_I u 29 (9 : Int32)) fun u6 => some ((()), u6))) else ((xs_let (xs_I u 29 (0 : Int32)) fun u7 => some ((()), u7))))
noncomputable def jb_Model_doKind_41 (u : xk_St) : Option (Unit × xk_St) :=
  jb_Model_doKind_46 (1 : Int32) u
noncomputable def jb_Model_doKind_45 (u : xk_St) : Option (Unit × xk_St) :=
  jb_Model_doKind_46 (0 : Int32) u
noncomputable def fm_Model_doKind (u : xk_St) : Option (Unit × xk_St) :=
  (if ((u.1 26) - (1 : Int32)) < 0 ∨ 19000 ≤ ((u.1 26) - (1 : Int32)).toNatClampNeg then none else xs_let (u.2.2.2 3 ((u.1 26) - (1 : Int32)).toNatClampNeg) fun a1 => xs_seq (fm_Model_isOf a1 ((u.2.1 0).toInt32) u) fun a2 u3 => if a2 = (0 : Int32) then (if a1 = (0 : Int64) then ((if (2 : Int32) = (0 : Int32) then none else if ((u3.1 9) - (u3.1 9) / (2 : Int32) * (2 : Int32)) = (1 : Int32) then (jb_Model_doKind_41 u3) else (jb_Model_doKind_45 u3))) else (jb_Model_doKind_45 u3)) else (jb_Model_doKind_41 u3))
set_option maxHeartbeats 4000000 in
set_option maxRecDepth 100000 in
theorem wj_Model_doKind_91 {p : Program} {l : Launch} {e : Env} {s : State} {m : MethodId} {args : Array Value} {below : List Frame} {meth : Method} {c : Code} {D : va_G} {ad : Nat → Nat} {ca : Nat → ClassId} {ads : List Nat} (htr : l.stackTraces = false) (C : xk_C D kx_cl (kx_ty ca) (kw_m ad ca) ads "ModuleHouseModel" prog_14_method_133_code 4 none p e s m args meth c) (hne : c.exceptionTable.isEmpty = true) {u' : xk_St} {r : Unit} {s0 : Int64} {u : xk_St} {H : Heap} {locs : List Loc} {ls : Array Slot} (h : jb_Model_doKind_91  s0 u = some (r, u')) (hP : va_P D kx_cl (kw_m ad ca u) H) (hS : va_S (xk_A ads s.heap.size) s.heap H locs) (hl : lv_has ls 4 []) : W p l e rm_Model_doKind s m args below meth c H locs 0 0 (xk_MQ below (xk_Qc D kx_cl (kw_m ad ca) ads (xo_v (.inl r)) u') args s (xk_A ads s.heap.size)) (F0 m 91 ls [.long s0, .ref (ad 0)]) := by
  have hx := C.1.1
  have hb := C.1.2.1
  have hok := C.2.2.1
  unfold jb_Model_doKind_91 at h
  obtain ⟨rx, u5, hq, h⟩ := xp_seq h
  refine xk_goesV (xr_V (As := [.long s0]) (rest := []) C hP hS (ct_Model_tell htr hok hq) kq_Model_737 0 11 rfl rfl ⟨rfl, rfl, Nat.le_of_ble_eq_true rfl, Nat.le_of_ble_eq_true rfl⟩ ⟨Nat.le_of_ble_eq_true rfl, Nat.le_of_ble_eq_true rfl⟩ hl.1 rfl rfl (Nat.le_of_ble_eq_true rfl) dd_Model_doKind_91) hS (fun H locs hP hS => ?_)
  clear hq
  obtain ⟨rfl, rfl⟩ := xp_r h
  exact xr_vret C hP hS dd_Model_doKind_94
set_option maxHeartbeats 4000000 in
set_option maxRecDepth 100000 in
theorem wj_Model_doKind_46 {p : Program} {l : Launch} {e : Env} {s : State} {m : MethodId} {args : Array Value} {below : List Frame} {meth : Method} {c : Code} {D : va_G} {ad : Nat → Nat} {ca : Nat → ClassId} {ads : List Nat} (htr : l.stackTraces = false) (C : xk_C D kx_cl (kx_ty ca) (kw_m ad ca) ads "ModuleHouseModel" prog_14_method_133_code 4 none p e s m args meth c) (hne : c.exceptionTable.isEmpty = true) {u' : xk_St} {r : Unit} {s0 : Int32} {u : xk_St} {H : Heap} {locs : List Loc} {ls : Array Slot} (h : jb_Model_doKind_46  s0 u = some (r, u')) (hP : va_P D kx_cl (kw_m ad ca u) H) (hS : va_S (xk_A ads s.heap.size) s.heap H locs) (hl : lv_has ls 4 [(0, .ref (ad 0))]) : W p l e rm_Model_doKind s m args below meth c H locs 0 0 (xk_MQ below (xk_Qc D kx_cl (kw_m ad ca) ads (xo_v (.inl r)) u') args s (xk_A ads s.heap.size)) (F0 m 46 ls [.int s0]) := by
  have hx := C.1.1
  have hb := C.1.2.1
  have hok := C.2.2.1
  unfold jb_Model_doKind_46 at h
  refine lv_istore_n (lv' := [(3, .int s0), (0, .ref (ad 0))]) hx hb dd_Model_doKind_46 rfl hl (by decide) rfl (fun ls hl => ?_)
  refine lv_aload_n hx hb dd_Model_doKind_47 rfl (lv_at hl 1 rfl) ?_
  refine gf_m_Model_0_sub C hP dd_Model_doKind_48 ?_
  refine lv_bipush (v := 21) hx hb dd_Model_doKind_51 (by decide) ?_
  refine lv_icmp_le (tgt := 71) hx hb dd_Model_doKind_53 (by decide) (fun hc => ?_) (fun hc => ?_)
  · have h := xp_t hc h
    refine lv_aload_n hx hb dd_Model_doKind_71 rfl (lv_at hl 1 rfl) ?_
    refine lv_dup hx hb dd_Model_doKind_72 rfl ?_
    refine gf_m_Model_0_top C hP dd_Model_doKind_73 ?_
    refine lv_iconst (v := 1) hx hb dd_Model_doKind_76 (by decide) ?_
    refine lv_isub hx hb dd_Model_doKind_77 ?_
    refine pf_m_Model_0_top C hP hS dd_Model_doKind_78 (fun H locs hP hS => ?_)
    obtain ⟨u4, eu4, h⟩ := xp_let h
    rw [← eu4] at hP
    refine lv_aload_n hx hb dd_Model_doKind_81 rfl (lv_at hl 1 rfl) ?_
    refine lv_iload_n hx hb dd_Model_doKind_82 rfl (lv_at hl 0 rfl) ?_
    refine lv_if_eq (tgt := 90) hx hb dd_Model_doKind_83 (by decide) (fun hc => ?_) (fun hc => ?_)
    · have h := xp_t hc h
      refine lv_lconst (v := 0) hx hb dd_Model_doKind_90 (by decide) ?_
      exact wj_Model_doKind_91 htr C hne h hP hS (lv_sub hl [] rfl)
    · have h := xp_f hc h
      refine lv_lconst (v := 1) hx hb dd_Model_doKind_86 (by decide) ?_
      refine lv_goto (tgt := 91) hx hb dd_Model_doKind_87 (by decide) ?_
      exact wj_Model_doKind_91 htr C hne h hP hS (lv_sub hl [] rfl)
  · have h := xp_f hc h
    refine lv_aload_n hx hb dd_Model_doKind_56 rfl (lv_at hl 1 rfl) ?_
    refine lv_iload_n hx hb dd_Model_doKind_57 rfl (lv_at hl 0 rfl) ?_
    refine lv_if_eq (tgt := 65) hx hb dd_Model_doKind_58 (by decide) (fun hc => ?_) (fun hc => ?_)
    · have h := xp_t hc h
      refine lv_bipush (v := 9) hx hb dd_Model_doKind_65 (by decide) ?_
      refine pf_m_Model_0_trap C hP hS dd_Model_doKind_67 (fun H locs hP hS => ?_)
      obtain ⟨u6, eu6, h⟩ := xp_let h
      rw [← eu6] at hP
      obtain ⟨rfl, rfl⟩ := xp_r h
      exact xr_vret C hP hS dd_Model_doKind_70
    · have h := xp_f hc h
      refine lv_iconst (v := 0) hx hb dd_Model_doKind_61 (by decide) ?_
      refine lv_goto (tgt := 67) hx hb dd_Model_doKind_62 (by decide) ?_
      refine pf_m_Model_0_trap C hP hS dd_Model_doKind_67 (fun H locs hP hS => ?_)
      obtain ⟨u7, eu7, h⟩ := xp_let h
      rw [← eu7] at hP
      obtain ⟨rfl, rfl⟩ := xp_r h
      exact xr_vret C hP hS dd_Model_doKind_70
set_option maxHeartbeats 4000000 in
set_option maxRecDepth 100000 in
theorem wj_Model_doKind_41 {p : Program} {l : Launch} {e : Env} {s : State} {m : MethodId} {args : Array Value} {below : List Frame} {meth : Method} {c : Code} {D : va_G} {ad : Nat → Nat} {ca : Nat → ClassId} {ads : List Nat} (htr : l.stackTraces = false) (C : xk_C D kx_cl (kx_ty ca) (kw_m ad ca) ads "ModuleHouseModel" prog_14_method_133_code 4 none p e s m args meth c) (hne : c.exceptionTable.isEmpty = true) {u' : xk_St} {r : Unit} {u : xk_St} {H : Heap} {locs : List Loc} {ls : Array Slot} (h : jb_Model_doKind_41   u = some (r, u')) (hP : va_P D kx_cl (kw_m ad ca u) H) (hS : va_S (xk_A ads s.heap.size) s.heap H locs) (hl : lv_has ls 4 [(0, .ref (ad 0))]) : W p l e rm_Model_doKind s m args below meth c H locs 0 0 (xk_MQ below (xk_Qc D kx_cl (kw_m ad ca) ads (xo_v (.inl r)) u') args s (xk_A ads s.heap.size)) (F0 m 41 ls []) := by
  have hx := C.1.1
  have hb := C.1.2.1
  have hok := C.2.2.1
  unfold jb_Model_doKind_41 at h
  refine lv_iconst (v := 1) hx hb dd_Model_doKind_41 (by decide) ?_
  refine lv_goto (tgt := 46) hx hb dd_Model_doKind_42 (by decide) ?_
  exact wj_Model_doKind_46 htr C hne h hP hS (lv_sub hl [0] rfl)
set_option maxHeartbeats 4000000 in
set_option maxRecDepth 100000 in
theorem wj_Model_doKind_45 {p : Program} {l : Launch} {e : Env} {s : State} {m : MethodId} {args : Array Value} {below : List Frame} {meth : Method} {c : Code} {D : va_G} {ad : Nat → Nat} {ca : Nat → ClassId} {ads : List Nat} (htr : l.stackTraces = false) (C : xk_C D kx_cl (kx_ty ca) (kw_m ad ca) ads "ModuleHouseModel" prog_14_method_133_code 4 none p e s m args meth c) (hne : c.exceptionTable.isEmpty = true) {u' : xk_St} {r : Unit} {u : xk_St} {H : Heap} {locs : List Loc} {ls : Array Slot} (h : jb_Model_doKind_45   u = some (r, u')) (hP : va_P D kx_cl (kw_m ad ca u) H) (hS : va_S (xk_A ads s.heap.size) s.heap H locs) (hl : lv_has ls 4 [(0, .ref (ad 0))]) : W p l e rm_Model_doKind s m args below meth c H locs 0 0 (xk_MQ below (xk_Qc D kx_cl (kw_m ad ca) ads (xo_v (.inl r)) u') args s (xk_A ads s.heap.size)) (F0 m 45 ls []) := by
  have hx := C.1.1
  have hb := C.1.2.1
  have hok := C.2.2.1
  unfold jb_Model_doKind_45 at h
  refine lv_iconst (v := 0) hx hb dd_Model_doKind_45 (by decide) ?_
  exact wj_Model_doKind_46 htr C hne h hP hS (lv_sub hl [0] rfl)
set_option maxHeartbeats 4000000 in
set_option maxRecDepth 100000 in
theorem ct_Model_doKind {l : Launch} {D : va_G} {ad : Nat → Nat} {ca : Nat → ClassId} {ads : List Nat} (htr : l.stackTraces = false) (hok : xk_ok (kw_m ad ca) ads) {u u' : xk_St} {r : Unit} (h : fm_Model_doKind u = some (r, u')) :
    ∀ sz, xk_Met l ⟨"ModuleHouseModel", "doKind", "()V"⟩ (Cond.code ⟨"ModuleHouseModel", "doKind", "()V"⟩ prog_14_method_133_code 4 none :: xk_gd) rm_Model_doKind (xk_Pc D kx_cl (kx_ty ca) (kw_m ad ca) ads xk_F sz [.ref (ad 0)] u) (xk_Qc D kx_cl (kw_m ad ca) ads (xo_v (.inl r)) u') (xk_A ads sz) := by
  unfold fm_Model_doKind at h
  refine xk_con (by decide) htr hok (Nat.le_of_ble_eq_true rfl) (fun p e s m below meth c ls C hne hl hP => ?_)
  have hx := C.1.1
  have hb := C.1.2.1
  have hS : va_S (xk_A ads s.heap.size) s.heap s.heap [] := va_S.rf
  have hl : lv_has ls 4 [(0, .ref (ad 0))] := hl
  refine lv_aload_n hx hb dd_Model_doKind_0 rfl (lv_at hl 0 rfl) ?_
  refine gf_m_Model_0_values C hP dd_Model_doKind_1 ?_
  refine lv_aload_n hx hb dd_Model_doKind_4 rfl (lv_at hl 0 rfl) ?_
  refine gf_m_Model_0_top C hP dd_Model_doKind_5 ?_
  refine lv_iconst (v := 1) hx hb dd_Model_doKind_8 (by decide) ?_
  refine lv_isub hx hb dd_Model_doKind_9 ?_
  obtain ⟨hi, h⟩ := xp_g h
  refine al_m_33 C hP hi dd_Model_doKind_10 ?_
  obtain ⟨a1, ea1, h⟩ := xp_let h
  refine xr_naml ea1 ?_
  refine lv_lstore_n (lv' := [(1, .long a1), (0, .ref (ad 0))]) hx hb dd_Model_doKind_11 rfl hl (by decide) rfl (fun ls hl => ?_)
  refine lv_aload_n hx hb dd_Model_doKind_12 rfl (lv_at hl 1 rfl) ?_
  refine lv_lload_n hx hb dd_Model_doKind_13 rfl (lv_at hl 0 rfl) ?_
  refine lv_aload_n hx hb dd_Model_doKind_14 rfl (lv_at hl 1 rfl) ?_
  refine gf_m_Model_0_x C hP dd_Model_doKind_15 ?_
  refine lv_l2i hx hb dd_Model_doKind_18 rfl ?_
  obtain ⟨a2, u3, hq, h⟩ := xp_seq h
  refine xk_goesI (xr_V (As := [.long a1, .int ((u.2.1 0).toInt32)]) (rest := []) C hP hS (ct_Model_isOf htr hok hq) kq_Model_807 0 11 rfl rfl ⟨rfl, rfl, Nat.le_of_ble_eq_true rfl, Nat.le_of_ble_eq_true rfl⟩ ⟨Nat.le_of_ble_eq_true rfl, Nat.le_of_ble_eq_true rfl⟩ hl.1 rfl rfl (Nat.le_of_ble_eq_true rfl) dd_Model_doKind_19) hS (fun H locs hP hS => ?_)
  clear hq
  refine lv_if_ne (tgt := 41) hx hb dd_Model_doKind_22 (by decide) (fun hc => ?_) (fun hc => ?_)
  · have h := xp_f hc h
    exact wj_Model_doKind_41 htr C hne h hP hS (lv_sub hl [1] rfl)
  · have h := xp_t hc h
    refine lv_lload_n hx hb dd_Model_doKind_25 rfl (lv_at hl 0 rfl) ?_
    refine lv_lconst (v := 0) hx hb dd_Model_doKind_26 (by decide) ?_
    refine xr_lc_ne (tgt := 45) hx hb dd_Model_doKind_27 dd_Model_doKind_28 (by decide) (fun hc => ?_) (fun hc => ?_)
    · have h := xp_f hc h
      exact wj_Model_doKind_45 htr C hne h hP hS (lv_sub hl [1] rfl)
    · have h := xp_t hc h
      refine lv_aload_n hx hb dd_Model_doKind_31 rfl (lv_at hl 1 rfl) ?_
      refine gf_m_Model_0_sub C hP dd_Model_doKind_32 ?_
      refine lv_iconst (v := 2) hx hb dd_Model_doKind_35 (by decide) ?_
      obtain ⟨hz, h⟩ := xp_g h
      refine lv_irem hx hb dd_Model_doKind_36 hz ?_
      refine lv_iconst (v := 1) hx hb dd_Model_doKind_37 (by decide) ?_
      refine lv_icmp_ne (tgt := 45) hx hb dd_Model_doKind_38 (by decide) (fun hc => ?_) (fun hc => ?_)
      · have h := xp_f hc h
        exact wj_Model_doKind_45 htr C hne h hP hS (lv_sub hl [1] rfl)
      · have h := xp_t hc h
        exact wj_Model_doKind_41 htr C hne h hP hS (lv_sub hl [1] rfl)
abbrev rm_Model_packed : Room := { frames := 1, cells := 1, slots := 6, locals := 0 }
noncomputable def fm_Model_packed (x0 : Int32) (x1 : Int64) (u : xk_St) : Option (Int64 × xk_St) :=
  if x0 = (3 : Int32) then (some ((x1 &&& (255 : Int64)), u)) else (if x0 = (4 : Int32) then (some ((x1 &&& (65535 : Int64)), u)) else (some (x1, u)))
set_option maxHeartbeats 4000000 in
set_option maxRecDepth 100000 in
theorem ct_Model_packed {l : Launch} {D : va_G} {ad : Nat → Nat} {ca : Nat → ClassId} {ads : List Nat} (htr : l.stackTraces = false) (hok : xk_ok (kw_m ad ca) ads) {x0 : Int32} {x1 : Int64} {u u' : xk_St} {r : Int64} (h : fm_Model_packed x0 x1 u = some (r, u')) :
    ∀ sz, xk_Met l ⟨"ModuleHouseModel", "packed", "(IJ)J"⟩ (Cond.code ⟨"ModuleHouseModel", "packed", "(IJ)J"⟩ prog_14_method_126_code 3 (some .long) :: xk_gd) rm_Model_packed (xk_Pc D kx_cl (kx_ty ca) (kw_m ad ca) ads xk_F sz [.int x0, .long x1] u) (xk_Qc D kx_cl (kw_m ad ca) ads (xo_l (.inl r)) u') (xk_A ads sz) := by
  unfold fm_Model_packed at h
  refine xk_con (by decide) htr hok (Nat.le_of_ble_eq_true rfl) (fun p e s m below meth c ls C hne hl hP => ?_)
  have hx := C.1.1
  have hb := C.1.2.1
  have hS : va_S (xk_A ads s.heap.size) s.heap s.heap [] := va_S.rf
  have hl : lv_has ls 3 [(0, .int x0), (1, .long x1)] := hl
  refine lv_iload_n hx hb dd_Model_packed_0 rfl (lv_at hl 0 rfl) ?_
  refine lv_iconst (v := 3) hx hb dd_Model_packed_1 (by decide) ?_
  refine lv_icmp_ne (tgt := 13) hx hb dd_Model_packed_2 (by decide) (fun hc => ?_) (fun hc => ?_)
  · have h := xp_f hc h
    refine lv_iload_n hx hb dd_Model_packed_13 rfl (lv_at hl 0 rfl) ?_
    refine lv_iconst (v := 4) hx hb dd_Model_packed_14 (by decide) ?_
    refine lv_icmp_ne (tgt := 26) hx hb dd_Model_packed_15 (by decide) (fun hc => ?_) (fun hc => ?_)
    · have h := xp_f hc h
      refine lv_lload_n hx hb dd_Model_packed_26 rfl (lv_at hl 1 rfl) ?_
      obtain ⟨rfl, rfl⟩ := xp_r h
      exact xr_lret C hP hS dd_Model_packed_27
    · have h := xp_t hc h
      refine lv_lload_n hx hb dd_Model_packed_18 rfl (lv_at hl 1 rfl) ?_
      refine lv_ldc2 (v := 65535) hx hb C.1.2.2.2.1 (C.1.2.2.2.2 _ (xk_c11 (w := Jvm.Cond.constantLong "ModuleHouseModel" 777 65535) 147 rfl rfl)) dd_Model_packed_19 ?_
      refine lv_land hx hb dd_Model_packed_22 ?_
      refine lv_goto (tgt := 27) hx hb dd_Model_packed_23 (by decide) ?_
      obtain ⟨rfl, rfl⟩ := xp_r h
      exact xr_lret C hP hS dd_Model_packed_27
  · have h := xp_t hc h
    refine lv_lload_n hx hb dd_Model_packed_5 rfl (lv_at hl 1 rfl) ?_
    refine lv_ldc2 (v := 255) hx hb C.1.2.2.2.1 (C.1.2.2.2.2 _ (xk_c11 (w := Jvm.Cond.constantLong "ModuleHouseModel" 742 255) 82 rfl rfl)) dd_Model_packed_6 ?_
    refine lv_land hx hb dd_Model_packed_9 ?_
    refine lv_goto (tgt := 27) hx hb dd_Model_packed_10 (by decide) ?_
    obtain ⟨rfl, rfl⟩ := xp_r h
    exact xr_lret C hP hS dd_Model_packed_27
abbrev rm_Model_layPart : Room := { frames := 2, cells := 1, slots := 6, locals := 23 }
noncomputable def jb_Model_layPart_30 (b1 : Int32) (s0 : Int64) (u : xk_St) : Option (Unit × xk_St) :=
  (xs_seq (fm_Model_isReference b1 u) fun a1 u2 => xs_seq (fm_Model_lay s0 a1 u2) fun _ u3 => some ((()), u3))
noncomputable def jb_Model_layPart_12 (b1 : Int32) (b2 : Int64) (b4 : Int32) (s0 : Int32) (u : xk_St) : Option (Unit × xk_St) :=
  if b4 = (0 : Int32) then (jb_Model_layPart_30 b1 b2 u) else ((xs_seq (fm_Model_sx b2 s0 u) fun a4 u5 => jb_Model_layPart_30 b1 a4 u5))
noncomputable def fm_Model_layPart (x0 : Int32) (x1 : Int64) (x2 : Int32) (u : xk_St) : Option (Unit × xk_St) :=
  if x0 = (3 : Int32) then (jb_Model_layPart_12 x0 x1 x2 (8 : Int32) u) else (jb_Model_layPart_12 x0 x1 x2 (16 : Int32) u)
set_option maxHeartbeats 4000000 in
set_option maxRecDepth 100000 in
theorem wj_Model_layPart_30 {p : Program} {l : Launch} {e : Env} {s : State} {m : MethodId} {args : Array Value} {below : List Frame} {meth : Method} {c : Code} {D : va_G} {ad : Nat → Nat} {ca : Nat → ClassId} {ads : List Nat} (htr : l.stackTraces = false) (C : xk_C D kx_cl (kx_ty ca) (kw_m ad ca) ads "ModuleHouseModel" prog_14_method_127_code 6 none p e s m args meth c) (hne : c.exceptionTable.isEmpty = true) {u' : xk_St} {r : Unit} {b1 : Int32} {s0 : Int64} {u : xk_St} {H : Heap} {locs : List Loc} {ls : Array Slot} (h : jb_Model_layPart_30  b1 s0 u = some (r, u')) (hP : va_P D kx_cl (kw_m ad ca u) H) (hS : va_S (xk_A ads s.heap.size) s.heap H locs) (hl : lv_has ls 6 [(1, .int b1)]) : W p l e rm_Model_layPart s m args below meth c H locs 0 0 (xk_MQ below (xk_Qc D kx_cl (kw_m ad ca) ads (xo_v (.inl r)) u') args s (xk_A ads s.heap.size)) (F0 m 30 ls [.long s0, .ref (ad 0)]) := by
  have hx := C.1.1
  have hb := C.1.2.1
  have hok := C.2.2.1
  unfold jb_Model_layPart_30 at h
  refine lv_iload_n hx hb dd_Model_layPart_30 rfl (lv_at hl 0 rfl) ?_
  obtain ⟨a1, u2, hq, h⟩ := xp_seq h
  refine xk_goesI (xr_S (As := [.int b1]) (rest := [.long s0, .ref (ad 0)]) C hP hS (ct_Model_isReference htr hok hq) kq_Model_384 ⟨rfl, rfl, Nat.le_of_ble_eq_true rfl, Nat.le_of_ble_eq_true rfl⟩ ⟨Nat.le_of_ble_eq_true rfl, Nat.le_of_ble_eq_true rfl⟩ hl.1 rfl rfl (Nat.le_of_ble_eq_true rfl) dd_Model_layPart_31) hS (fun H locs hP hS => ?_)
  clear hq
  obtain ⟨rx, u3, hq, h⟩ := xp_seq h
  refine xk_goesV (xr_V (As := [.long s0, .int a1]) (rest := []) C hP hS (ct_Model_lay htr hok hq) kq_Model_676 0 11 rfl rfl ⟨rfl, rfl, Nat.le_of_ble_eq_true rfl, Nat.le_of_ble_eq_true rfl⟩ ⟨Nat.le_of_ble_eq_true rfl, Nat.le_of_ble_eq_true rfl⟩ hl.1 rfl rfl (Nat.le_of_ble_eq_true rfl) dd_Model_layPart_34) hS (fun H locs hP hS => ?_)
  clear hq
  obtain ⟨rfl, rfl⟩ := xp_r h
  exact xr_vret C hP hS dd_Model_layPart_37
set_option maxHeartbeats 4000000 in
set_option maxRecDepth 100000 in
theorem wj_Model_layPart_12 {p : Program} {l : Launch} {e : Env} {s : State} {m : MethodId} {args : Array Value} {below : List Frame} {meth : Method} {c : Code} {D : va_G} {ad : Nat → Nat} {ca : Nat → ClassId} {ads : List Nat} (htr : l.stackTraces = false) (C : xk_C D kx_cl (kx_ty ca) (kw_m ad ca) ads "ModuleHouseModel" prog_14_method_127_code 6 none p e s m args meth c) (hne : c.exceptionTable.isEmpty = true) {u' : xk_St} {r : Unit} {b1 : Int32} {b2 : Int64} {b4 : Int32} {s0 : Int32} {u : xk_St} {H : Heap} {locs : List Loc} {ls : Array Slot} (h : jb_Model_layPart_12  b1 b2 b4 s0 u = some (r, u')) (hP : va_P D kx_cl (kw_m ad ca u) H) (hS : va_S (xk_A ads s.heap.size) s.heap H locs) (hl : lv_has ls 6 [(0, .ref (ad 0)), (1, .int b1), (2, .long b2), (4, .int b4)]) : W p l e rm_Model_layPart s m args below meth c H locs 0 0 (xk_MQ below (xk_Qc D kx_cl (kw_m ad ca) ads (xo_v (.inl r)) u') args s (xk_A ads s.heap.size)) (F0 m 12 ls [.int s0]) := by
  have hx := C.1.1
  have hb := C.1.2.1
  have hok := C.2.2.1
  unfold jb_Model_layPart_12 at h
  refine lv_istore (lv' := [(5, .int s0), (0, .ref (ad 0)), (1, .int b1), (2, .long b2), (4, .int b4)]) hx hb dd_Model_layPart_12 hl (by decide) rfl (fun ls hl => ?_)
  refine lv_aload_n hx hb dd_Model_layPart_14 rfl (lv_at hl 1 rfl) ?_
  refine lv_iload hx hb dd_Model_layPart_15 (lv_at hl 4 rfl) ?_
  refine lv_if_eq (tgt := 29) hx hb dd_Model_layPart_17 (by decide) (fun hc => ?_) (fun hc => ?_)
  · have h := xp_t hc h
    refine lv_lload_n hx hb dd_Model_layPart_29 rfl (lv_at hl 3 rfl) ?_
    exact wj_Model_layPart_30 htr C hne h hP hS (lv_sub hl [2] rfl)
  · have h := xp_f hc h
    refine lv_lload_n hx hb dd_Model_layPart_20 rfl (lv_at hl 3 rfl) ?_
    refine lv_iload hx hb dd_Model_layPart_21 (lv_at hl 0 rfl) ?_
    obtain ⟨a4, u5, hq, h⟩ := xp_seq h
    refine xk_goesL (xr_S (As := [.long b2, .int s0]) (rest := [.ref (ad 0)]) C hP hS (ct_Model_sx htr hok hq) kq_Model_186 ⟨rfl, rfl, Nat.le_of_ble_eq_true rfl, Nat.le_of_ble_eq_true rfl⟩ ⟨Nat.le_of_ble_eq_true rfl, Nat.le_of_ble_eq_true rfl⟩ hl.1 rfl rfl (Nat.le_of_ble_eq_true rfl) dd_Model_layPart_23) hS (fun H locs hP hS => ?_)
    clear hq
    refine lv_goto (tgt := 30) hx hb dd_Model_layPart_26 (by decide) ?_
    exact wj_Model_layPart_30 htr C hne h hP hS (lv_sub hl [2] rfl)
set_option maxHeartbeats 4000000 in
set_option maxRecDepth 100000 in
theorem ct_Model_layPart {l : Launch} {D : va_G} {ad : Nat → Nat} {ca : Nat → ClassId} {ads : List Nat} (htr : l.stackTraces = false) (hok : xk_ok (kw_m ad ca) ads) {x0 : Int32} {x1 : Int64} {x2 : Int32} {u u' : xk_St} {r : Unit} (h : fm_Model_layPart x0 x1 x2 u = some (r, u')) :
    ∀ sz, xk_Met l ⟨"ModuleHouseModel", "layPart", "(IJZ)V"⟩ (Cond.code ⟨"ModuleHouseModel", "layPart", "(IJZ)V"⟩ prog_14_method_127_code 6 none :: xk_gd) rm_Model_layPart (xk_Pc D kx_cl (kx_ty ca) (kw_m ad ca) ads xk_F sz [.ref (ad 0), .int x0, .long x1, .int x2] u) (xk_Qc D kx_cl (kw_m ad ca) ads (xo_v (.inl r)) u') (xk_A ads sz) := by
  unfold fm_Model_layPart at h
  refine xk_con (by decide) htr hok (Nat.le_of_ble_eq_true rfl) (fun p e s m below meth c ls C hne hl hP => ?_)
  have hx := C.1.1
  have hb := C.1.2.1
  have hS : va_S (xk_A ads s.heap.size) s.heap s.heap [] := va_S.rf
  have hl : lv_has ls 6 [(0, .ref (ad 0)), (1, .int x0), (2, .long x1), (4, .int x2)] := hl
  refine lv_iload_n hx hb dd_Model_layPart_0 rfl (lv_at hl 1 rfl) ?_
  refine lv_iconst (v := 3) hx hb dd_Model_layPart_1 (by decide) ?_
  refine lv_icmp_ne (tgt := 10) hx hb dd_Model_layPart_2 (by decide) (fun hc => ?_) (fun hc => ?_)
  · have h := xp_f hc h
    refine lv_bipush (v := 16) hx hb dd_Model_layPart_10 (by decide) ?_
    exact wj_Model_layPart_12 htr C hne h hP hS (lv_sub hl [0, 1, 2, 3] rfl)
  · have h := xp_t hc h
    refine lv_bipush (v := 8) hx hb dd_Model_layPart_5 (by decide) ?_
    refine lv_goto (tgt := 12) hx hb dd_Model_layPart_7 (by decide) ?_
    exact wj_Model_layPart_12 htr C hne h hP hS (lv_sub hl [0, 1, 2, 3] rfl)
abbrev rm_Model_doArray : Room := { frames := 3, cells := 1, slots := 6, locals := 48 }
noncomputable def jb_Model_doArray_215 (fu : Nat) : Nat → Int64 → Int64 → Int32 → Int32 → Int32 → xk_St → Option (Unit × xk_St)
  | 0 => fun _ _ _ _ _ _ => none
  | n + 1 => fun b1 b3 b10 b11 b12 u =>
    xs_let (jb_Model_doArray_215 fu  n) fun k215 =>
    if b1 ≤ (b12.toInt64) then (some ((()), u)) else (if (u.1 9) ≤ (13 : Int32) then (some ((()), u)) else ((xs_seq (fm_Model_packed b10 b3 u) fun a10 u11 => if (b11 + b12) < 0 ∨ 2001 ≤ (b11 + b12).toNatClampNeg then none else xs_let (xs_B u11 5 (b11 + b12).toNatClampNeg a10) fun u12 => xs_let (b12 + (1 : Int32)) fun a13 => k215 b1 b3 b10 b11 a13 u12)))
noncomputable def jb_Model_doArray_212 (fu : Nat) (b1 : Int64) (b3 : Int64) (b10 : Int32) (b11 : Int32) (u : xk_St) : Option (Unit × xk_St) :=
  jb_Model_doArray_215 fu fu b1 b3 b10 b11 (0 : Int32) u
noncomputable def jb_Model_doArray_209 (fu : Nat) (b1 : Int64) (b3 : Int64) (b10 : Int32) (b11 : Int32) (s0 : Int32) (s1 : Int64) (s2 : Int32) (u : xk_St) : Option (Unit × xk_St) :=
  (xs_seq (fm_Model_layPart s2 s1 s0 u) fun _ u14 => jb_Model_doArray_212 fu b1 b3 b10 b11 u14)
noncomputable def jb_Model_doArray_70 (fu : Nat) (b1 : Int64) (b3 : Int64) (s0 : Int64) (u : xk_St) : Option (Unit × xk_St) :=
  (xs_seq (fm_Model_drop u) fun a5 u6 => if a5 = (0 : Int64) then ((xs_let (xs_I u6 29 (8 : Int32)) fun u17 => some ((()), u17))) else ((if (2 : Int64) = (0 : Int64) then none else xs_let (((a5 / (2 : Int64)).toInt32) - (1 : Int32)) fun a7 => if (u6.1 9) = (15 : Int32) then ((if a7 < 0 ∨ 2001 ≤ a7.toNatClampNeg then none else xs_seq (fm_Model_tell ((u6.2.2.1 38 a7.toNatClampNeg).toInt64) u6) fun _ u16 => some ((()), u16))) else ((if a7 < 0 ∨ 2001 ≤ a7.toNatClampNeg then none else if (s0 + b1) ≤ ((u6.2.2.1 38 a7.toNatClampNeg).toInt64) then ((if ((32 : Int32) * ((u6.2.1 0).toInt32)) < 0 ∨ 2048 ≤ ((32 : Int32) * ((u6.2.1 0).toInt32)).toNatClampNeg then none else xs_let (u6.2.2.1 7 ((32 : Int32) * ((u6.2.1 0).toInt32)).toNatClampNeg) fun a8 => if a7 < 0 ∨ 2001 ≤ a7.toNatClampNeg then none else xs_let ((u6.2.2.1 37 a7.toNatClampNeg) + (s0.toInt32)) fun a9 => if (14 : Int32) ≤ (u6.1 9) then (jb_Model_doArray_212 fu b1 b3 a8 a9 u6) else ((if a9 < 0 ∨ 2001 ≤ a9.toNatClampNeg then none else if (u6.1 9) = (12 : Int32) then (jb_Model_doArray_209 fu b1 b3 a8 a9 (1 : Int32) (u6.2.2.2 5 a9.toNatClampNeg) a8 u6) else (jb_Model_doArray_209 fu b1 b3 a8 a9 (0 : Int32) (u6.2.2.2 5 a9.toNatClampNeg) a8 u6))))) else ((xs_let (xs_I u6 29 (10 : Int32)) fun u15 => some ((()), u15))))))))
noncomputable def jb_Model_doArray_48 (fu : Nat) (b1 : Int64) (s0 : Int64) (u : xk_St) : Option (Unit × xk_St) :=
  if (u.1 9) = (15 : Int32) then (jb_Model_doArray_70 fu b1 s0 (0 : Int64) u) else ((xs_seq (fm_Model_drop u) fun a3 u4 => jb_Model_doArray_70 fu b1 s0 (a3 &&& (4294967295 : Int64)) u4))
noncomputable def jb_Model_doArray_40 (fu : Nat) (b1 : Int64) (u : xk_St) : Option (Unit × xk_St) :=
  (xs_seq (fm_Model_drop u) fun a1 u2 => jb_Model_doArray_48 fu b1 a1 u2)
noncomputable def jb_Model_doArray_21 (fu : Nat) (s0 : Int64) (u : xk_St) : Option (Unit × xk_St) :=
  if (u.1 9) = (14 : Int32) then (jb_Model_doArray_40 fu s0 u) else (if (u.1 9) = (16 : Int32) then (jb_Model_doArray_40 fu s0 u) else (jb_Model_doArray_48 fu s0 (0 : Int64) u))
noncomputable def fm_Model_doArray (fu : Nat) (u : xk_St) : Option (Unit × xk_St) :=
  if (u.1 9) = (16 : Int32) then ((xs_seq (fm_Model_drop u) fun a18 u19 => jb_Model_doArray_21 fu (a18 &&& (4294967295 : Int64)) u19)) else (jb_Model_doArray_21 fu (1 : Int64) u)
set_option maxHeartbeats 4000000 in
set_option maxRecDepth 100000 in
theorem wj_Model_doArray_215 {p : Program} {l : Launch} {e : Env} {s : State} {m : MethodId} {args : Array Value} {below : List Frame} {meth : Method} {c : Code} {D : va_G} {ad : Nat → Nat} {ca : Nat → ClassId} {ads : List Nat} {fu : Nat} (htr : l.stackTraces = false) (C : xk_C D kx_cl (kx_ty ca) (kw_m ad ca) ads "ModuleHouseModel" prog_14_method_132_code 13 none p e s m args meth c) (hne : c.exceptionTable.isEmpty = true) {u' : xk_St} {r : Unit} : ∀ {n : Nat} {b1 : Int64} {b3 : Int64} {b10 : Int32} {b11 : Int32} {b12 : Int32} {u : xk_St} {H : Heap} {locs : List Loc} {ls : Array Slot} (h : jb_Model_doArray_215 fu  n b1 b3 b10 b11 b12 u = some (r, u')) (hP : va_P D kx_cl (kw_m ad ca u) H) (hS : va_S (xk_A ads s.heap.size) s.heap H locs) (hl : lv_has ls 13 [(0, .ref (ad 0)), (1, .long b1), (3, .long b3), (10, .int b10), (11, .int b11), (12, .int b12)]), W p l e rm_Model_doArray s m args below meth c H locs 0 0 (xk_MQ below (xk_Qc D kx_cl (kw_m ad ca) ads (xo_v (.inl r)) u') args s (xk_A ads s.heap.size)) (F0 m 215 ls []) := by
  intro n
  have hx := C.1.1
  have hb := C.1.2.1
  have hok := C.2.2.1
  induction n with
  | zero =>
    intro _ _ _ _ _ u H locs ls h
    have h : none = some (r, u') := h
    cases h
  | succ n ih =>
    intro b1 b3 b10 b11 b12 u H locs ls h hP hS hl
    unfold jb_Model_doArray_215 at h
    obtain ⟨k215, ek215, h⟩ := xp_let h
    have hk215 : ∀ (c0 : Int64) (c1 : Int64) (c2 : Int32) (c3 : Int32) (c4 : Int32) (u : xk_St) (H : Heap) (locs : List Loc) (ls : Array Slot), k215 c0 c1 c2 c3 c4 u = some (r, u') → va_P D kx_cl (kw_m ad ca u) H → va_S (xk_A ads s.heap.size) s.heap H locs → lv_has ls 13 [(0, .ref (ad 0)), (1, .long c0), (3, .long c1), (10, .int c2), (11, .int c3), (12, .int c4)] → W p l e rm_Model_doArray s m args below meth c H locs 0 0 (xk_MQ below (xk_Qc D kx_cl (kw_m ad ca) ads (xo_v (.inl r)) u') args s (xk_A ads s.heap.size)) (F0 m 215 ls []) := by
      intro c0 c1 c2 c3 c4 u H locs ls h hP hS hl
      subst ek215
      exact ih h hP hS hl
    clear ih ek215
    refine lv_iload hx hb dd_Model_doArray_215 (lv_at hl 5 rfl) ?_
    refine lv_i2l hx hb dd_Model_doArray_217 rfl ?_
    refine lv_lload_n hx hb dd_Model_doArray_218 rfl (lv_at hl 1 rfl) ?_
    refine xr_lc_ge (tgt := 254) hx hb dd_Model_doArray_219 dd_Model_doArray_220 (by decide) (fun hc => ?_) (fun hc => ?_)
    · have h := xp_t hc h
      obtain ⟨rfl, rfl⟩ := xp_r h
      exact xr_vret C hP hS dd_Model_doArray_254
    · have h := xp_f hc h
      refine lv_aload_n hx hb dd_Model_doArray_223 rfl (lv_at hl 0 rfl) ?_
      refine gf_m_Model_0_sub C hP dd_Model_doArray_224 ?_
      refine lv_bipush (v := 13) hx hb dd_Model_doArray_227 (by decide) ?_
      refine lv_icmp_le (tgt := 254) hx hb dd_Model_doArray_229 (by decide) (fun hc => ?_) (fun hc => ?_)
      · have h := xp_t hc h
        obtain ⟨rfl, rfl⟩ := xp_r h
        exact xr_vret C hP hS dd_Model_doArray_254
      · have h := xp_f hc h
        refine lv_aload_n hx hb dd_Model_doArray_232 rfl (lv_at hl 0 rfl) ?_
        refine gf_m_Model_0_cells C hP dd_Model_doArray_233 ?_
        refine lv_iload hx hb dd_Model_doArray_236 (lv_at hl 4 rfl) ?_
        refine lv_iload hx hb dd_Model_doArray_238 (lv_at hl 5 rfl) ?_
        refine lv_iadd hx hb dd_Model_doArray_240 ?_
        refine lv_iload hx hb dd_Model_doArray_241 (lv_at hl 3 rfl) ?_
        refine lv_lload_n hx hb dd_Model_doArray_243 rfl (lv_at hl 2 rfl) ?_
        obtain ⟨a10, u11, hq, h⟩ := xp_seq h
        refine xk_goesL (xr_S (As := [.int b10, .long b3]) (rest := [.int (b11 + b12), .ref (ad 43)]) C hP hS (ct_Model_packed htr hok hq) kq_Model_800 ⟨rfl, rfl, Nat.le_of_ble_eq_true rfl, Nat.le_of_ble_eq_true rfl⟩ ⟨Nat.le_of_ble_eq_true rfl, Nat.le_of_ble_eq_true rfl⟩ hl.1 rfl rfl (Nat.le_of_ble_eq_true rfl) dd_Model_doArray_244) hS (fun H locs hP hS => ?_)
        clear hq
        obtain ⟨hi, h⟩ := xp_g h
        refine as_m_43 C hP hS hi dd_Model_doArray_247 (fun H locs hP hS => ?_)
        obtain ⟨u12, eu12, h⟩ := xp_let h
        rw [← eu12] at hP
        obtain ⟨a13, ea13, h⟩ := xp_let h
        refine lv_iinc (v := a13) (lv' := [(12, .int a13), (0, .ref (ad 0)), (1, .long b1), (3, .long b3), (10, .int b10), (11, .int b11)]) hx hb dd_Model_doArray_248 hl (k := 5) rfl (by rw [ea13]; first | rfl | decide) (by decide) rfl (fun ls hl => ?_)
        refine lv_goto (tgt := 215) hx hb dd_Model_doArray_251 (by decide) ?_
        exact hk215 b1 b3 b10 b11 a13 u12 _ _ _ h hP hS (lv_sub hl [1, 2, 3, 4, 5, 0] rfl)
set_option maxHeartbeats 4000000 in
set_option maxRecDepth 100000 in
theorem wj_Model_doArray_212 {p : Program} {l : Launch} {e : Env} {s : State} {m : MethodId} {args : Array Value} {below : List Frame} {meth : Method} {c : Code} {D : va_G} {ad : Nat → Nat} {ca : Nat → ClassId} {ads : List Nat} {fu : Nat} (htr : l.stackTraces = false) (C : xk_C D kx_cl (kx_ty ca) (kw_m ad ca) ads "ModuleHouseModel" prog_14_method_132_code 13 none p e s m args meth c) (hne : c.exceptionTable.isEmpty = true) {u' : xk_St} {r : Unit} {b1 : Int64} {b3 : Int64} {b10 : Int32} {b11 : Int32} {u : xk_St} {H : Heap} {locs : List Loc} {ls : Array Slot} (h : jb_Model_doArray_212 fu  b1 b3 b10 b11 u = some (r, u')) (hP : va_P D kx_cl (kw_m ad ca u) H) (hS : va_S (xk_A ads s.heap.size) s.heap H locs) (hl : lv_has ls 13 [(0, .ref (ad 0)), (1, .long b1), (3, .long b3), (10, .int b10), (11, .int b11)]) : W p l e rm_Model_doArray s m args below meth c H locs 0 0 (xk_MQ below (xk_Qc D kx_cl (kw_m ad ca) ads (xo_v (.inl r)) u') args s (xk_A ads s.heap.size)) (F0 m 212 ls []) := by
  have hx := C.1.1
  have hb := C.1.2.1
  have hok := C.2.2.1
  unfold jb_Model_doArray_212 at h
  refine lv_iconst (v := 0) hx hb dd_Model_doArray_212 (by decide) ?_
  refine lv_istore (lv' := [(12, .int (0 : Int32)), (0, .ref (ad 0)), (1, .long b1), (3, .long b3), (10, .int b10), (11, .int b11)]) hx hb dd_Model_doArray_213 hl (by decide) rfl (fun ls hl => ?_)
  exact wj_Model_doArray_215 htr C hne h hP hS (lv_sub hl [1, 2, 3, 4, 5, 0] rfl)
set_option maxHeartbeats 4000000 in
set_option maxRecDepth 100000 in
theorem wj_Model_doArray_209 {p : Program} {l : Launch} {e : Env} {s : State} {m : MethodId} {args : Array Value} {below : List Frame} {meth : Method} {c : Code} {D : va_G} {ad : Nat → Nat} {ca : Nat → ClassId} {ads : List Nat} {fu : Nat} (htr : l.stackTraces = false) (C : xk_C D kx_cl (kx_ty ca) (kw_m ad ca) ads "ModuleHouseModel" prog_14_method_132_code 13 none p e s m args meth c) (hne : c.exceptionTable.isEmpty = true) {u' : xk_St} {r : Unit} {b1 : Int64} {b3 : Int64} {b10 : Int32} {b11 : Int32} {s0 : Int32} {s1 : Int64} {s2 : Int32} {u : xk_St} {H : Heap} {locs : List Loc} {ls : Array Slot} (h : jb_Model_doArray_209 fu  b1 b3 b10 b11 s0 s1 s2 u = some (r, u')) (hP : va_P D kx_cl (kw_m ad ca u) H) (hS : va_S (xk_A ads s.heap.size) s.heap H locs) (hl : lv_has ls 13 [(0, .ref (ad 0)), (1, .long b1), (3, .long b3), (10, .int b10), (11, .int b11)]) : W p l e rm_Model_doArray s m args below meth c H locs 0 0 (xk_MQ below (xk_Qc D kx_cl (kw_m ad ca) ads (xo_v (.inl r)) u') args s (xk_A ads s.heap.size)) (F0 m 209 ls [.int s0, .long s1, .int s2, .ref (ad 0)]) := by
  have hx := C.1.1
  have hb := C.1.2.1
  have hok := C.2.2.1
  unfold jb_Model_doArray_209 at h
  obtain ⟨rx, u14, hq, h⟩ := xp_seq h
  refine xk_goesV (xr_V (As := [.int s2, .long s1, .int s0]) (rest := []) C hP hS (ct_Model_layPart htr hok hq) kq_Model_803 0 11 rfl rfl ⟨rfl, rfl, Nat.le_of_ble_eq_true rfl, Nat.le_of_ble_eq_true rfl⟩ ⟨Nat.le_of_ble_eq_true rfl, Nat.le_of_ble_eq_true rfl⟩ hl.1 rfl rfl (Nat.le_of_ble_eq_true rfl) dd_Model_doArray_209) hS (fun H locs hP hS => ?_)
  clear hq
  exact wj_Model_doArray_212 htr C hne h hP hS (lv_sub hl [0, 1, 2, 3, 4] rfl)
set_option maxHeartbeats 4000000 in
set_option maxRecDepth 100000 in
theorem wj_Model_doArray_70 {p : Program} {l : Launch} {e : Env} {s : State} {m : MethodId} {args : Array Value} {below : List Frame} {meth : Method} {c : Code} {D : va_G} {ad : Nat → Nat} {ca : Nat → ClassId} {ads : List Nat} {fu : Nat} (htr : l.stackTraces = false) (C : xk_C D kx_cl (kx_ty ca) (kw_m ad ca) ads "ModuleHouseModel" prog_14_method_132_code 13 none p e s m args meth c) (hne : c.exceptionTable.isEmpty = true) {u' : xk_St} {r : Unit} {b1 : Int64} {b3 : Int64} {s0 : Int64} {u : xk_St} {H : Heap} {locs : List Loc} {ls : Array Slot} (h : jb_Model_doArray_70 fu  b1 b3 s0 u = some (r, u')) (hP : va_P D kx_cl (kw_m ad ca u) H) (hS : va_S (xk_A ads s.heap.size) s.heap H locs) (hl : lv_has ls 13 [(0, .ref (ad 0)), (1, .long b1), (3, .long b3)]) : W p l e rm_Model_doArray s m args below meth c H locs 0 0 (xk_MQ below (xk_Qc D kx_cl (kw_m ad ca) ads (xo_v (.inl r)) u') args s (xk_A ads s.heap.size)) (F0 m 70 ls [.long s0]) := by
  have hx := C.1.1
  have hb := C.1.2.1
  have hok := C.2.2.1
  unfold jb_Model_doArray_70 at h
  refine lv_lstore (lv' := [(5, .long s0), (0, .ref (ad 0)), (1, .long b1), (3, .long b3)]) hx hb dd_Model_doArray_70 hl (by decide) rfl (fun ls hl => ?_)
  refine lv_aload_n hx hb dd_Model_doArray_72 rfl (lv_at hl 1 rfl) ?_
  obtain ⟨a5, u6, hq, h⟩ := xp_seq h
  refine xk_goesL (xr_V (As := []) (rest := []) C hP hS (ct_Model_drop htr hok hq) kq_Model_725 0 11 rfl rfl ⟨rfl, rfl, Nat.le_of_ble_eq_true rfl, Nat.le_of_ble_eq_true rfl⟩ ⟨Nat.le_of_ble_eq_true rfl, Nat.le_of_ble_eq_true rfl⟩ hl.1 rfl rfl (Nat.le_of_ble_eq_true rfl) dd_Model_doArray_73) hS (fun H locs hP hS => ?_)
  clear hq
  refine lv_lstore (lv' := [(7, .long a5), (5, .long s0), (0, .ref (ad 0)), (1, .long b1), (3, .long b3)]) hx hb dd_Model_doArray_76 hl (by decide) rfl (fun ls hl => ?_)
  refine lv_lload hx hb dd_Model_doArray_78 (lv_at hl 0 rfl) ?_
  refine lv_lconst (v := 0) hx hb dd_Model_doArray_80 (by decide) ?_
  refine xr_lc_ne (tgt := 92) hx hb dd_Model_doArray_81 dd_Model_doArray_82 (by decide) (fun hc => ?_) (fun hc => ?_)
  · have h := xp_f hc h
    refine lv_lload hx hb dd_Model_doArray_92 (lv_at hl 0 rfl) ?_
    refine lv_ldc2 (v := 2) hx hb C.1.2.2.2.1 (C.1.2.2.2.2 _ (xk_c9 (w := Jvm.Cond.constantLong "ModuleHouseModel" 283 2) 200 rfl rfl)) dd_Model_doArray_94 ?_
    obtain ⟨hz, h⟩ := xp_g h
    refine lv_ldiv hx hb dd_Model_doArray_97 hz ?_
    refine lv_l2i hx hb dd_Model_doArray_98 rfl ?_
    refine lv_iconst (v := 1) hx hb dd_Model_doArray_99 (by decide) ?_
    refine lv_isub hx hb dd_Model_doArray_100 ?_
    obtain ⟨a7, ea7, h⟩ := xp_let h
    refine xr_nami ea7 ?_
    refine lv_istore (lv' := [(9, .int a7), (7, .long a5), (5, .long s0), (0, .ref (ad 0)), (1, .long b1), (3, .long b3)]) hx hb dd_Model_doArray_101 hl (by decide) rfl (fun ls hl => ?_)
    refine lv_aload_n hx hb dd_Model_doArray_103 rfl (lv_at hl 3 rfl) ?_
    refine gf_m_Model_0_sub C hP dd_Model_doArray_104 ?_
    refine lv_bipush (v := 15) hx hb dd_Model_doArray_107 (by decide) ?_
    refine lv_icmp_ne (tgt := 125) hx hb dd_Model_doArray_109 (by decide) (fun hc => ?_) (fun hc => ?_)
    · have h := xp_f hc h
      refine lv_lload hx hb dd_Model_doArray_125 (lv_at hl 2 rfl) ?_
      refine lv_lload_n hx hb dd_Model_doArray_127 rfl (lv_at hl 4 rfl) ?_
      refine lv_ladd hx hb dd_Model_doArray_128 ?_
      refine lv_aload_n hx hb dd_Model_doArray_129 rfl (lv_at hl 3 rfl) ?_
      refine gf_m_Model_0_objectSize C hP dd_Model_doArray_130 ?_
      refine lv_iload hx hb dd_Model_doArray_133 (lv_at hl 0 rfl) ?_
      obtain ⟨hi, h⟩ := xp_g h
      refine al_m_45 C hP hi dd_Model_doArray_135 ?_
      refine lv_i2l hx hb dd_Model_doArray_136 rfl ?_
      refine xr_lc_le (tgt := 148) hx hb dd_Model_doArray_137 dd_Model_doArray_138 (by decide) (fun hc => ?_) (fun hc => ?_)
      · have h := xp_t hc h
        refine lv_aload_n hx hb dd_Model_doArray_148 rfl (lv_at hl 3 rfl) ?_
        refine gf_m_Model_0_parts C hP dd_Model_doArray_149 ?_
        refine lv_bipush (v := 32) hx hb dd_Model_doArray_152 (by decide) ?_
        refine lv_aload_n hx hb dd_Model_doArray_154 rfl (lv_at hl 3 rfl) ?_
        refine gf_m_Model_0_x C hP dd_Model_doArray_155 ?_
        refine lv_l2i hx hb dd_Model_doArray_158 rfl ?_
        refine lv_imul hx hb dd_Model_doArray_159 ?_
        obtain ⟨hi, h⟩ := xp_g h
        refine al_m_9 C hP hi dd_Model_doArray_160 ?_
        obtain ⟨a8, ea8, h⟩ := xp_let h
        refine xr_nami ea8 ?_
        refine lv_istore (lv' := [(10, .int a8), (9, .int a7), (7, .long a5), (5, .long s0), (0, .ref (ad 0)), (1, .long b1), (3, .long b3)]) hx hb dd_Model_doArray_161 hl (by decide) rfl (fun ls hl => ?_)
        refine lv_aload_n hx hb dd_Model_doArray_163 rfl (lv_at hl 4 rfl) ?_
        refine gf_m_Model_0_objectAt C hP dd_Model_doArray_164 ?_
        refine lv_iload hx hb dd_Model_doArray_167 (lv_at hl 1 rfl) ?_
        obtain ⟨hi, h⟩ := xp_g h
        refine al_m_44 C hP hi dd_Model_doArray_169 ?_
        refine lv_lload hx hb dd_Model_doArray_170 (lv_at hl 3 rfl) ?_
        refine lv_l2i hx hb dd_Model_doArray_172 rfl ?_
        refine lv_iadd hx hb dd_Model_doArray_173 ?_
        obtain ⟨a9, ea9, h⟩ := xp_let h
        refine xr_nami ea9 ?_
        refine lv_istore (lv' := [(11, .int a9), (10, .int a8), (9, .int a7), (7, .long a5), (5, .long s0), (0, .ref (ad 0)), (1, .long b1), (3, .long b3)]) hx hb dd_Model_doArray_174 hl (by decide) rfl (fun ls hl => ?_)
        refine lv_aload_n hx hb dd_Model_doArray_176 rfl (lv_at hl 5 rfl) ?_
        refine gf_m_Model_0_sub C hP dd_Model_doArray_177 ?_
        refine lv_bipush (v := 14) hx hb dd_Model_doArray_180 (by decide) ?_
        refine lv_icmp_ge (tgt := 212) hx hb dd_Model_doArray_182 (by decide) (fun hc => ?_) (fun hc => ?_)
        · have h := xp_t hc h
          exact wj_Model_doArray_212 htr C hne h hP hS (lv_sub hl [5, 6, 7, 1, 0] rfl)
        · have h := xp_f hc h
          refine lv_aload_n hx hb dd_Model_doArray_185 rfl (lv_at hl 5 rfl) ?_
          refine lv_iload hx hb dd_Model_doArray_186 (lv_at hl 1 rfl) ?_
          refine lv_aload_n hx hb dd_Model_doArray_188 rfl (lv_at hl 5 rfl) ?_
          refine gf_m_Model_0_cells C hP dd_Model_doArray_189 ?_
          refine lv_iload hx hb dd_Model_doArray_192 (lv_at hl 0 rfl) ?_
          obtain ⟨hi, h⟩ := xp_g h
          refine al_m_43 C hP hi dd_Model_doArray_194 ?_
          refine lv_aload_n hx hb dd_Model_doArray_195 rfl (lv_at hl 5 rfl) ?_
          refine gf_m_Model_0_sub C hP dd_Model_doArray_196 ?_
          refine lv_bipush (v := 12) hx hb dd_Model_doArray_199 (by decide) ?_
          refine lv_icmp_ne (tgt := 208) hx hb dd_Model_doArray_201 (by decide) (fun hc => ?_) (fun hc => ?_)
          · have h := xp_f hc h
            refine lv_iconst (v := 0) hx hb dd_Model_doArray_208 (by decide) ?_
            exact wj_Model_doArray_209 htr C hne h hP hS (lv_sub hl [5, 6, 7, 1, 0] rfl)
          · have h := xp_t hc h
            refine lv_iconst (v := 1) hx hb dd_Model_doArray_204 (by decide) ?_
            refine lv_goto (tgt := 209) hx hb dd_Model_doArray_205 (by decide) ?_
            exact wj_Model_doArray_209 htr C hne h hP hS (lv_sub hl [5, 6, 7, 1, 0] rfl)
      · have h := xp_f hc h
        refine lv_aload_n hx hb dd_Model_doArray_141 rfl (lv_at hl 3 rfl) ?_
        refine lv_bipush (v := 10) hx hb dd_Model_doArray_142 (by decide) ?_
        refine pf_m_Model_0_trap C hP hS dd_Model_doArray_144 (fun H locs hP hS => ?_)
        obtain ⟨u15, eu15, h⟩ := xp_let h
        rw [← eu15] at hP
        obtain ⟨rfl, rfl⟩ := xp_r h
        exact xr_vret C hP hS dd_Model_doArray_147
    · have h := xp_t hc h
      refine lv_aload_n hx hb dd_Model_doArray_112 rfl (lv_at hl 3 rfl) ?_
      refine lv_aload_n hx hb dd_Model_doArray_113 rfl (lv_at hl 3 rfl) ?_
      refine gf_m_Model_0_objectSize C hP dd_Model_doArray_114 ?_
      refine lv_iload hx hb dd_Model_doArray_117 (lv_at hl 0 rfl) ?_
      obtain ⟨hi, h⟩ := xp_g h
      refine al_m_45 C hP hi dd_Model_doArray_119 ?_
      refine lv_i2l hx hb dd_Model_doArray_120 rfl ?_
      obtain ⟨rx, u16, hq, h⟩ := xp_seq h
      refine xk_goesV (xr_V (As := [.long ((u6.2.2.1 38 a7.toNatClampNeg).toInt64)]) (rest := []) C hP hS (ct_Model_tell htr hok hq) kq_Model_737 0 11 rfl rfl ⟨rfl, rfl, Nat.le_of_ble_eq_true rfl, Nat.le_of_ble_eq_true rfl⟩ ⟨Nat.le_of_ble_eq_true rfl, Nat.le_of_ble_eq_true rfl⟩ hl.1 rfl rfl (Nat.le_of_ble_eq_true rfl) dd_Model_doArray_121) hS (fun H locs hP hS => ?_)
      clear hq
      obtain ⟨rfl, rfl⟩ := xp_r h
      exact xr_vret C hP hS dd_Model_doArray_124
  · have h := xp_t hc h
    refine lv_aload_n hx hb dd_Model_doArray_85 rfl (lv_at hl 2 rfl) ?_
    refine lv_bipush (v := 8) hx hb dd_Model_doArray_86 (by decide) ?_
    refine pf_m_Model_0_trap C hP hS dd_Model_doArray_88 (fun H locs hP hS => ?_)
    obtain ⟨u17, eu17, h⟩ := xp_let h
    rw [← eu17] at hP
    obtain ⟨rfl, rfl⟩ := xp_r h
    exact xr_vret C hP hS dd_Model_doArray_91
set_option maxHeartbeats 4000000 in
set_option maxRecDepth 100000 in
theorem wj_Model_doArray_48 {p : Program} {l : Launch} {e : Env} {s : State} {m : MethodId} {args : Array Value} {below : List Frame} {meth : Method} {c : Code} {D : va_G} {ad : Nat → Nat} {ca : Nat → ClassId} {ads : List Nat} {fu : Nat} (htr : l.stackTraces = false) (C : xk_C D kx_cl (kx_ty ca) (kw_m ad ca) ads "ModuleHouseModel" prog_14_method_132_code 13 none p e s m args meth c) (hne : c.exceptionTable.isEmpty = true) {u' : xk_St} {r : Unit} {b1 : Int64} {s0 : Int64} {u : xk_St} {H : Heap} {locs : List Loc} {ls : Array Slot} (h : jb_Model_doArray_48 fu  b1 s0 u = some (r, u')) (hP : va_P D kx_cl (kw_m ad ca u) H) (hS : va_S (xk_A ads s.heap.size) s.heap H locs) (hl : lv_has ls 13 [(0, .ref (ad 0)), (1, .long b1)]) : W p l e rm_Model_doArray s m args below meth c H locs 0 0 (xk_MQ below (xk_Qc D kx_cl (kw_m ad ca) ads (xo_v (.inl r)) u') args s (xk_A ads s.heap.size)) (F0 m 48 ls [.long s0]) := by
  have hx := C.1.1
  have hb := C.1.2.1
  have hok := C.2.2.1
  unfold jb_Model_doArray_48 at h
  refine lv_lstore_n (lv' := [(3, .long s0), (0, .ref (ad 0)), (1, .long b1)]) hx hb dd_Model_doArray_48 rfl hl (by decide) rfl (fun ls hl => ?_)
  refine lv_aload_n hx hb dd_Model_doArray_49 rfl (lv_at hl 1 rfl) ?_
  refine gf_m_Model_0_sub C hP dd_Model_doArray_50 ?_
  refine lv_bipush (v := 15) hx hb dd_Model_doArray_53 (by decide) ?_
  refine lv_icmp_ne (tgt := 62) hx hb dd_Model_doArray_55 (by decide) (fun hc => ?_) (fun hc => ?_)
  · have h := xp_f hc h
    refine lv_aload_n hx hb dd_Model_doArray_62 rfl (lv_at hl 1 rfl) ?_
    obtain ⟨a3, u4, hq, h⟩ := xp_seq h
    refine xk_goesL (xr_V (As := []) (rest := []) C hP hS (ct_Model_drop htr hok hq) kq_Model_725 0 11 rfl rfl ⟨rfl, rfl, Nat.le_of_ble_eq_true rfl, Nat.le_of_ble_eq_true rfl⟩ ⟨Nat.le_of_ble_eq_true rfl, Nat.le_of_ble_eq_true rfl⟩ hl.1 rfl rfl (Nat.le_of_ble_eq_true rfl) dd_Model_doArray_63) hS (fun H locs hP hS => ?_)
    clear hq
    refine lv_ldc2 (v := 4294967295) hx hb C.1.2.2.2.1 (C.1.2.2.2.2 _ (xk_c9 (w := Jvm.Cond.constantLong "ModuleHouseModel" 182 4294967295) 103 rfl rfl)) dd_Model_doArray_66 ?_
    refine lv_land hx hb dd_Model_doArray_69 ?_
    exact wj_Model_doArray_70 htr C hne h hP hS (lv_sub hl [1, 2, 0] rfl)
  · have h := xp_t hc h
    refine lv_lconst (v := 0) hx hb dd_Model_doArray_58 (by decide) ?_
    refine lv_goto (tgt := 70) hx hb dd_Model_doArray_59 (by decide) ?_
    exact wj_Model_doArray_70 htr C hne h hP hS (lv_sub hl [1, 2, 0] rfl)
set_option maxHeartbeats 4000000 in
set_option maxRecDepth 100000 in
theorem wj_Model_doArray_40 {p : Program} {l : Launch} {e : Env} {s : State} {m : MethodId} {args : Array Value} {below : List Frame} {meth : Method} {c : Code} {D : va_G} {ad : Nat → Nat} {ca : Nat → ClassId} {ads : List Nat} {fu : Nat} (htr : l.stackTraces = false) (C : xk_C D kx_cl (kx_ty ca) (kw_m ad ca) ads "ModuleHouseModel" prog_14_method_132_code 13 none p e s m args meth c) (hne : c.exceptionTable.isEmpty = true) {u' : xk_St} {r : Unit} {b1 : Int64} {u : xk_St} {H : Heap} {locs : List Loc} {ls : Array Slot} (h : jb_Model_doArray_40 fu  b1 u = some (r, u')) (hP : va_P D kx_cl (kw_m ad ca u) H) (hS : va_S (xk_A ads s.heap.size) s.heap H locs) (hl : lv_has ls 13 [(0, .ref (ad 0)), (1, .long b1)]) : W p l e rm_Model_doArray s m args below meth c H locs 0 0 (xk_MQ below (xk_Qc D kx_cl (kw_m ad ca) ads (xo_v (.inl r)) u') args s (xk_A ads s.heap.size)) (F0 m 40 ls []) := by
  have hx := C.1.1
  have hb := C.1.2.1
  have hok := C.2.2.1
  unfold jb_Model_doArray_40 at h
  refine lv_aload_n hx hb dd_Model_doArray_40 rfl (lv_at hl 0 rfl) ?_
  obtain ⟨a1, u2, hq, h⟩ := xp_seq h
  refine xk_goesL (xr_V (As := []) (rest := []) C hP hS (ct_Model_drop htr hok hq) kq_Model_725 0 11 rfl rfl ⟨rfl, rfl, Nat.le_of_ble_eq_true rfl, Nat.le_of_ble_eq_true rfl⟩ ⟨Nat.le_of_ble_eq_true rfl, Nat.le_of_ble_eq_true rfl⟩ hl.1 rfl rfl (Nat.le_of_ble_eq_true rfl) dd_Model_doArray_41) hS (fun H locs hP hS => ?_)
  clear hq
  refine lv_goto (tgt := 48) hx hb dd_Model_doArray_44 (by decide) ?_
  exact wj_Model_doArray_48 htr C hne h hP hS (lv_sub hl [0, 1] rfl)
set_option maxHeartbeats 4000000 in
set_option maxRecDepth 100000 in
theorem wj_Model_doArray_21 {p : Program} {l : Launch} {e : Env} {s : State} {m : MethodId} {args : Array Value} {below : List Frame} {meth : Method} {c : Code} {D : va_G} {ad : Nat → Nat} {ca : Nat → ClassId} {ads : List Nat} {fu : Nat} (htr : l.stackTraces = false) (C : xk_C D kx_cl (kx_ty ca) (kw_m ad ca) ads "ModuleHouseModel" prog_14_method_132_code 13 none p e s m args meth c) (hne : c.exceptionTable.isEmpty = true) {u' : xk_St} {r : Unit} {s0 : Int64} {u : xk_St} {H : Heap} {locs : List Loc} {ls : Array Slot} (h : jb_Model_doArray_21 fu  s0 u = some (r, u')) (hP : va_P D kx_cl (kw_m ad ca u) H) (hS : va_S (xk_A ads s.heap.size) s.heap H locs) (hl : lv_has ls 13 [(0, .ref (ad 0))]) : W p l e rm_Model_doArray s m args below meth c H locs 0 0 (xk_MQ below (xk_Qc D kx_cl (kw_m ad ca) ads (xo_v (.inl r)) u') args s (xk_A ads s.heap.size)) (F0 m 21 ls [.long s0]) := by
  have hx := C.1.1
  have hb := C.1.2.1
  have hok := C.2.2.1
  unfold jb_Model_doArray_21 at h
  refine lv_lstore_n (lv' := [(1, .long s0), (0, .ref (ad 0))]) hx hb dd_Model_doArray_21 rfl hl (by decide) rfl (fun ls hl => ?_)
  refine lv_aload_n hx hb dd_Model_doArray_22 rfl (lv_at hl 1 rfl) ?_
  refine gf_m_Model_0_sub C hP dd_Model_doArray_23 ?_
  refine lv_bipush (v := 14) hx hb dd_Model_doArray_26 (by decide) ?_
  refine lv_icmp_eq (tgt := 40) hx hb dd_Model_doArray_28 (by decide) (fun hc => ?_) (fun hc => ?_)
  · have h := xp_t hc h
    exact wj_Model_doArray_40 htr C hne h hP hS (lv_sub hl [1, 0] rfl)
  · have h := xp_f hc h
    refine lv_aload_n hx hb dd_Model_doArray_31 rfl (lv_at hl 1 rfl) ?_
    refine gf_m_Model_0_sub C hP dd_Model_doArray_32 ?_
    refine lv_bipush (v := 16) hx hb dd_Model_doArray_35 (by decide) ?_
    refine lv_icmp_ne (tgt := 47) hx hb dd_Model_doArray_37 (by decide) (fun hc => ?_) (fun hc => ?_)
    · have h := xp_f hc h
      refine lv_lconst (v := 0) hx hb dd_Model_doArray_47 (by decide) ?_
      exact wj_Model_doArray_48 htr C hne h hP hS (lv_sub hl [1, 0] rfl)
    · have h := xp_t hc h
      exact wj_Model_doArray_40 htr C hne h hP hS (lv_sub hl [1, 0] rfl)
set_option maxHeartbeats 4000000 in
set_option maxRecDepth 100000 in
theorem ct_Model_doArray {l : Launch} {D : va_G} {ad : Nat → Nat} {ca : Nat → ClassId} {ads : List Nat} (htr : l.stackTraces = false) (hok : xk_ok (kw_m ad ca) ads) {fu : Nat} {u u' : xk_St} {r : Unit} (h : fm_Model_doArray fu u = some (r, u')) :
    ∀ sz, xk_Met l ⟨"ModuleHouseModel", "doArray", "()V"⟩ (Cond.code ⟨"ModuleHouseModel", "doArray", "()V"⟩ prog_14_method_132_code 13 none :: xk_gd) rm_Model_doArray (xk_Pc D kx_cl (kx_ty ca) (kw_m ad ca) ads xk_F sz [.ref (ad 0)] u) (xk_Qc D kx_cl (kw_m ad ca) ads (xo_v (.inl r)) u') (xk_A ads sz) := by
  unfold fm_Model_doArray at h
  refine xk_con (by decide) htr hok (Nat.le_of_ble_eq_true rfl) (fun p e s m below meth c ls C hne hl hP => ?_)
  have hx := C.1.1
  have hb := C.1.2.1
  have hS : va_S (xk_A ads s.heap.size) s.heap s.heap [] := va_S.rf
  have hl : lv_has ls 13 [(0, .ref (ad 0))] := hl
  refine lv_aload_n hx hb dd_Model_doArray_0 rfl (lv_at hl 0 rfl) ?_
  refine gf_m_Model_0_sub C hP dd_Model_doArray_1 ?_
  refine lv_bipush (v := 16) hx hb dd_Model_doArray_4 (by decide) ?_
  refine lv_icmp_ne (tgt := 20) hx hb dd_Model_doArray_6 (by decide) (fun hc => ?_) (fun hc => ?_)
  · have h := xp_f hc h
    refine lv_lconst (v := 1) hx hb dd_Model_doArray_20 (by decide) ?_
    exact wj_Model_doArray_21 htr C hne h hP hS (lv_sub hl [0] rfl)
  · have h := xp_t hc h
    refine lv_aload_n hx hb dd_Model_doArray_9 rfl (lv_at hl 0 rfl) ?_
    obtain ⟨a18, u19, hq, h⟩ := xp_seq h
    refine xk_goesL (xr_V (As := []) (rest := []) C hP hS (ct_Model_drop htr hok hq) kq_Model_725 0 11 rfl rfl ⟨rfl, rfl, Nat.le_of_ble_eq_true rfl, Nat.le_of_ble_eq_true rfl⟩ ⟨Nat.le_of_ble_eq_true rfl, Nat.le_of_ble_eq_true rfl⟩ hl.1 rfl rfl (Nat.le_of_ble_eq_true rfl) dd_Model_doArray_10) hS (fun H locs hP hS => ?_)
    clear hq
    refine lv_ldc2 (v := 4294967295) hx hb C.1.2.2.2.1 (C.1.2.2.2.2 _ (xk_c9 (w := Jvm.Cond.constantLong "ModuleHouseModel" 182 4294967295) 103 rfl rfl)) dd_Model_doArray_13 ?_
    refine lv_land hx hb dd_Model_doArray_16 ?_
    refine lv_goto (tgt := 21) hx hb dd_Model_doArray_17 (by decide) ?_
    exact wj_Model_doArray_21 htr C hne h hP hS (lv_sub hl [0] rfl)
abbrev rm_Model_partOf : Room := { frames := 1, cells := 1, slots := 6, locals := 0 }
noncomputable def fm_Model_partOf (x0 : Int32) (x1 : Int32) (u : xk_St) : Option (Int32 × xk_St) :=
  (if x0 < 0 ∨ 64 ≤ x0.toNatClampNeg then none else if (u.2.2.1 4 x0.toNatClampNeg) = (2 : Int32) then ((if (((32 : Int32) * x0) + (0 : Int32)) < 0 ∨ 2048 ≤ (((32 : Int32) * x0) + (0 : Int32)).toNatClampNeg then none else some ((u.2.2.1 7 (((32 : Int32) * x0) + (0 : Int32)).toNatClampNeg), u))) else ((if (((32 : Int32) * x0) + x1) < 0 ∨ 2048 ≤ (((32 : Int32) * x0) + x1).toNatClampNeg then none else some ((u.2.2.1 7 (((32 : Int32) * x0) + x1).toNatClampNeg), u))))
set_option maxHeartbeats 4000000 in
set_option maxRecDepth 100000 in
theorem ct_Model_partOf {l : Launch} {D : va_G} {ad : Nat → Nat} {ca : Nat → ClassId} {ads : List Nat} (htr : l.stackTraces = false) (hok : xk_ok (kw_m ad ca) ads) {x0 : Int32} {x1 : Int32} {u u' : xk_St} {r : Int32} (h : fm_Model_partOf x0 x1 u = some (r, u')) :
    ∀ sz, xk_Met l ⟨"ModuleHouseModel", "partOf", "(II)I"⟩ (Cond.code ⟨"ModuleHouseModel", "partOf", "(II)I"⟩ prog_14_method_100_code 3 (some .int) :: xk_gd) rm_Model_partOf (xk_Pc D kx_cl (kx_ty ca) (kw_m ad ca) ads xk_F sz [.ref (ad 0), .int x0, .int x1] u) (xk_Qc D kx_cl (kw_m ad ca) ads (xo_i (.inl r)) u') (xk_A ads sz) := by
  unfold fm_Model_partOf at h
  refine xk_con (by decide) htr hok (Nat.le_of_ble_eq_true rfl) (fun p e s m below meth c ls C hne hl hP => ?_)
  have hx := C.1.1
  have hb := C.1.2.1
  have hS : va_S (xk_A ads s.heap.size) s.heap s.heap [] := va_S.rf
  have hl : lv_has ls 3 [(0, .ref (ad 0)), (1, .int x0), (2, .int x1)] := hl
  refine lv_aload_n hx hb dd_Model_partOf_0 rfl (lv_at hl 0 rfl) ?_
  refine gf_m_Model_0_parts C hP dd_Model_partOf_1 ?_
  refine lv_bipush (v := 32) hx hb dd_Model_partOf_4 (by decide) ?_
  refine lv_iload_n hx hb dd_Model_partOf_6 rfl (lv_at hl 1 rfl) ?_
  refine lv_imul hx hb dd_Model_partOf_7 ?_
  refine lv_aload_n hx hb dd_Model_partOf_8 rfl (lv_at hl 0 rfl) ?_
  refine gf_m_Model_0_kinds C hP dd_Model_partOf_9 ?_
  refine lv_iload_n hx hb dd_Model_partOf_12 rfl (lv_at hl 1 rfl) ?_
  obtain ⟨hi, h⟩ := xp_g h
  refine al_m_6 C hP hi dd_Model_partOf_13 ?_
  refine lv_iconst (v := 2) hx hb dd_Model_partOf_14 (by decide) ?_
  refine lv_icmp_ne (tgt := 22) hx hb dd_Model_partOf_15 (by decide) (fun hc => ?_) (fun hc => ?_)
  · have h := xp_f hc h
    refine lv_iload_n hx hb dd_Model_partOf_22 rfl (lv_at hl 2 rfl) ?_
    refine lv_iadd hx hb dd_Model_partOf_23 ?_
    obtain ⟨hi, h⟩ := xp_g h
    refine al_m_9 C hP hi dd_Model_partOf_24 ?_
    obtain ⟨rfl, rfl⟩ := xp_r h
    exact xr_iret C hP hS dd_Model_partOf_25
  · have h := xp_t hc h
    refine lv_iconst (v := 0) hx hb dd_Model_partOf_18 (by decide) ?_
    refine lv_goto (tgt := 23) hx hb dd_Model_partOf_19 (by decide) ?_
    refine lv_iadd hx hb dd_Model_partOf_23 ?_
    obtain ⟨hi, h⟩ := xp_g h
    refine al_m_9 C hP hi dd_Model_partOf_24 ?_
    obtain ⟨rfl, rfl⟩ := xp_r h
    exact xr_iret C hP hS dd_Model_partOf_25
abbrev rm_Model_mark : Room := { frames := 1, cells := 1, slots := 6, locals := 0 }
noncomputable def fm_Model_mark (x0 : Int64) (u : xk_St) : Option (Unit × xk_St) :=
  if x0 = (0 : Int64) then (some ((()), u)) else (if (x0 &&& (1 : Int64)) = (1 : Int64) then (some ((()), u)) else ((if (2 : Int64) = (0 : Int64) then none else xs_let (((x0 / (2 : Int64)).toInt32) - (1 : Int32)) fun a1 => if a1 < 0 ∨ 2001 ≤ a1.toNatClampNeg then none else if (u.2.2.1 40 a1.toNatClampNeg) = (0 : Int32) then ((if a1 < 0 ∨ 2001 ≤ a1.toNatClampNeg then none else xs_let (xs_A u 40 a1.toNatClampNeg (vp_nar .boolean (1 : Int32))) fun u2 => if (u2.1 33) < 0 ∨ 2001 ≤ (u2.1 33).toNatClampNeg then none else xs_let (xs_A u2 41 (u2.1 33).toNatClampNeg a1) fun u3 => xs_let (xs_I u3 33 ((u3.1 33) + (1 : Int32))) fun u4 => some ((()), u4))) else (some ((()), u)))))
set_option maxHeartbeats 4000000 in
set_option maxRecDepth 100000 in
theorem ct_Model_mark {l : Launch} {D : va_G} {ad : Nat → Nat} {ca : Nat → ClassId} {ads : List Nat} (htr : l.stackTraces = false) (hok : xk_ok (kw_m ad ca) ads) {x0 : Int64} {u u' : xk_St} {r : Unit} (h : fm_Model_mark x0 u = some (r, u')) :
    ∀ sz, xk_Met l ⟨"ModuleHouseModel", "mark", "(J)V"⟩ (Cond.code ⟨"ModuleHouseModel", "mark", "(J)V"⟩ prog_14_method_99_code 4 none :: xk_gd) rm_Model_mark (xk_Pc D kx_cl (kx_ty ca) (kw_m ad ca) ads xk_F sz [.ref (ad 0), .long x0] u) (xk_Qc D kx_cl (kw_m ad ca) ads (xo_v (.inl r)) u') (xk_A ads sz) := by
  unfold fm_Model_mark at h
  refine xk_con (by decide) htr hok (Nat.le_of_ble_eq_true rfl) (fun p e s m below meth c ls C hne hl hP => ?_)
  have hx := C.1.1
  have hb := C.1.2.1
  have hS : va_S (xk_A ads s.heap.size) s.heap s.heap [] := va_S.rf
  have hl : lv_has ls 4 [(0, .ref (ad 0)), (1, .long x0)] := hl
  refine lv_lload_n hx hb dd_Model_mark_0 rfl (lv_at hl 1 rfl) ?_
  refine lv_lconst (v := 0) hx hb dd_Model_mark_1 (by decide) ?_
  refine xr_lc_eq (tgt := 14) hx hb dd_Model_mark_2 dd_Model_mark_3 (by decide) (fun hc => ?_) (fun hc => ?_)
  · have h := xp_t hc h
    obtain ⟨rfl, rfl⟩ := xp_r h
    exact xr_vret C hP hS dd_Model_mark_14
  · have h := xp_f hc h
    refine lv_lload_n hx hb dd_Model_mark_6 rfl (lv_at hl 1 rfl) ?_
    refine lv_lconst (v := 1) hx hb dd_Model_mark_7 (by decide) ?_
    refine lv_land hx hb dd_Model_mark_8 ?_
    refine lv_lconst (v := 1) hx hb dd_Model_mark_9 (by decide) ?_
    refine xr_lc_ne (tgt := 15) hx hb dd_Model_mark_10 dd_Model_mark_11 (by decide) (fun hc => ?_) (fun hc => ?_)
    · have h := xp_f hc h
      refine lv_lload_n hx hb dd_Model_mark_15 rfl (lv_at hl 1 rfl) ?_
      refine lv_ldc2 (v := 2) hx hb C.1.2.2.2.1 (C.1.2.2.2.2 _ (xk_c9 (w := Jvm.Cond.constantLong "ModuleHouseModel" 283 2) 200 rfl rfl)) dd_Model_mark_16 ?_
      obtain ⟨hz, h⟩ := xp_g h
      refine lv_ldiv hx hb dd_Model_mark_19 hz ?_
      refine lv_l2i hx hb dd_Model_mark_20 rfl ?_
      refine lv_iconst (v := 1) hx hb dd_Model_mark_21 (by decide) ?_
      refine lv_isub hx hb dd_Model_mark_22 ?_
      obtain ⟨a1, ea1, h⟩ := xp_let h
      refine xr_nami ea1 ?_
      refine lv_istore_n (lv' := [(3, .int a1), (0, .ref (ad 0)), (1, .long x0)]) hx hb dd_Model_mark_23 rfl hl (by decide) rfl (fun ls hl => ?_)
      refine lv_aload_n hx hb dd_Model_mark_24 rfl (lv_at hl 1 rfl) ?_
      refine gf_m_Model_0_marked C hP dd_Model_mark_25 ?_
      refine lv_iload_n hx hb dd_Model_mark_28 rfl (lv_at hl 0 rfl) ?_
      obtain ⟨hi, h⟩ := xp_g h
      refine al_m_47 C hP hi dd_Model_mark_29 ?_
      refine lv_if_eq (tgt := 34) hx hb dd_Model_mark_30 (by decide) (fun hc => ?_) (fun hc => ?_)
      · have h := xp_t hc h
        refine lv_aload_n hx hb dd_Model_mark_34 rfl (lv_at hl 1 rfl) ?_
        refine gf_m_Model_0_marked C hP dd_Model_mark_35 ?_
        refine lv_iload_n hx hb dd_Model_mark_38 rfl (lv_at hl 0 rfl) ?_
        refine lv_iconst (v := 1) hx hb dd_Model_mark_39 (by decide) ?_
        obtain ⟨hi, h⟩ := xp_g h
        refine as_m_47 C hP hS hi dd_Model_mark_40 (fun H locs hP hS => ?_)
        obtain ⟨u2, eu2, h⟩ := xp_let h
        rw [← eu2] at hP
        refine lv_aload_n hx hb dd_Model_mark_41 rfl (lv_at hl 1 rfl) ?_
        refine gf_m_Model_0_pile C hP dd_Model_mark_42 ?_
        refine lv_aload_n hx hb dd_Model_mark_45 rfl (lv_at hl 1 rfl) ?_
        refine gf_m_Model_0_piled C hP dd_Model_mark_46 ?_
        refine lv_iload_n hx hb dd_Model_mark_49 rfl (lv_at hl 0 rfl) ?_
        obtain ⟨hi, h⟩ := xp_g h
        refine as_m_48 C hP hS hi dd_Model_mark_50 (fun H locs hP hS => ?_)
        obtain ⟨u3, eu3, h⟩ := xp_let h
        rw [← eu3] at hP
        refine lv_aload_n hx hb dd_Model_mark_51 rfl (lv_at hl 1 rfl) ?_
        refine lv_dup hx hb dd_Model_mark_52 rfl ?_
        refine gf_m_Model_0_piled C hP dd_Model_mark_53 ?_
        refine lv_iconst (v := 1) hx hb dd_Model_mark_56 (by decide) ?_
        refine lv_iadd hx hb dd_Model_mark_57 ?_
        refine pf_m_Model_0_piled C hP hS dd_Model_mark_58 (fun H locs hP hS => ?_)
        obtain ⟨u4, eu4, h⟩ := xp_let h
        rw [← eu4] at hP
        obtain ⟨rfl, rfl⟩ := xp_r h
        exact xr_vret C hP hS dd_Model_mark_61
      · have h := xp_f hc h
        obtain ⟨rfl, rfl⟩ := xp_r h
        exact xr_vret C hP hS dd_Model_mark_33
    · have h := xp_t hc h
      obtain ⟨rfl, rfl⟩ := xp_r h
      exact xr_vret C hP hS dd_Model_mark_14
abbrev rm_Model_collect : Room := { frames := 2, cells := 1, slots := 6, locals := 23 }
noncomputable def jb_Model_collect_309 (fu : Nat) (k188 : Int32 → Int32 → Int32 → xk_St → Option (Unit × xk_St)) (b1 : Int32) (b2 : Int32) (b3 : Int32) (u : xk_St) : Option (Unit × xk_St) :=
  (xs_let (b3 + (1 : Int32)) fun a10 => k188 b1 b2 a10 u)
noncomputable def jb_Model_collect_247 (fu : Nat) (k188 : Int32 → Int32 → Int32 → xk_St → Option (Unit × xk_St)) : Nat → Int32 → Int32 → Int32 → Int32 → Int32 → Int32 → xk_St → Option (Unit × xk_St)
  | 0 => fun _ _ _ _ _ _ _ => none
  | n + 1 => fun b1 b2 b3 b4 b5 b6 u =>
    xs_let (jb_Model_collect_247 fu k188 n) fun k247 =>
    (if b4 < 0 ∨ 2001 ≤ b4.toNatClampNeg then none else if (u.2.2.1 38 b4.toNatClampNeg) ≤ b6 then ((if b4 < 0 ∨ 2001 ≤ b4.toNatClampNeg then none else xs_let (b2 + ((1 : Int32) + (u.2.2.1 38 b4.toNatClampNeg))) fun a7 => if b1 < 0 ∨ 2001 ≤ b1.toNatClampNeg then none else xs_let (xs_A u 42 b1.toNatClampNeg b4) fun u8 => xs_let (b1 + (1 : Int32)) fun a9 => jb_Model_collect_309 fu k188 a9 a7 b3 u8)) else ((if (b5 + b6) < 0 ∨ 2001 ≤ (b5 + b6).toNatClampNeg then none else if ((b2 + (1 : Int32)) + b6) < 0 ∨ 2001 ≤ ((b2 + (1 : Int32)) + b6).toNatClampNeg then none else xs_let (xs_B u 5 ((b2 + (1 : Int32)) + b6).toNatClampNeg (u.2.2.2 5 (b5 + b6).toNatClampNeg)) fun u11 => xs_let (b6 + (1 : Int32)) fun a12 => k247 b1 b2 b3 b4 b5 a12 u11)))
noncomputable def jb_Model_collect_188 (fu : Nat) : Nat → Int32 → Int32 → Int32 → xk_St → Option (Unit × xk_St)
  | 0 => fun _ _ _ _ => none
  | n + 1 => fun b1 b2 b3 u =>
    xs_let (jb_Model_collect_188 fu  n) fun k188 =>
    if (u.1 34) ≤ b3 then ((xs_let (xs_I u 34 b1) fun u2 => xs_let (xs_I u2 32 b2) fun u3 => some ((()), u3))) else ((if b3 < 0 ∨ 2001 ≤ b3.toNatClampNeg then none else xs_let (u.2.2.1 42 b3.toNatClampNeg) fun a4 => if a4 < 0 ∨ 2001 ≤ a4.toNatClampNeg then none else if (u.2.2.1 40 a4.toNatClampNeg) = (0 : Int32) then ((if a4 < 0 ∨ 2001 ≤ a4.toNatClampNeg then none else xs_let (xs_A u 38 a4.toNatClampNeg (-1 : Int32)) fun u13 => jb_Model_collect_309 fu k188 b1 b2 b3 u13)) else ((if a4 < 0 ∨ 2001 ≤ a4.toNatClampNeg then none else xs_let (u.2.2.1 37 a4.toNatClampNeg) fun a5 => if a4 < 0 ∨ 2001 ≤ a4.toNatClampNeg then none else xs_let (xs_A u 37 a4.toNatClampNeg (b2 + (1 : Int32))) fun u6 => jb_Model_collect_247 fu k188 fu b1 b2 b3 a4 a5 (0 : Int32) u6))))
noncomputable def jb_Model_collect_173 (fu : Nat) (k100 : xk_St → Option (Unit × xk_St)) (k129 : Int32 → Int32 → xk_St → Option (Unit × xk_St)) (b1 : Int32) (b2 : Int32) (u : xk_St) : Option (Unit × xk_St) :=
  (xs_let (b2 + (1 : Int32)) fun a20 => k129 b1 a20 u)
noncomputable def jb_Model_collect_129 (fu : Nat) (k100 : xk_St → Option (Unit × xk_St)) : Nat → Int32 → Int32 → xk_St → Option (Unit × xk_St)
  | 0 => fun _ _ _ => none
  | n + 1 => fun b1 b2 u =>
    xs_let (jb_Model_collect_129 fu k100 n) fun k129 =>
    (if b1 < 0 ∨ 2001 ≤ b1.toNatClampNeg then none else if (u.2.2.1 38 b1.toNatClampNeg) ≤ b2 then (k100  u) else ((if b1 < 0 ∨ 2001 ≤ b1.toNatClampNeg then none else xs_seq (fm_Model_partOf (u.2.2.1 39 b1.toNatClampNeg) b2 u) fun a16 u17 => xs_seq (fm_Model_isReference a16 u17) fun a18 u19 => if a18 = (0 : Int32) then (jb_Model_collect_173 fu k100 k129 b1 b2 u19) else ((if b1 < 0 ∨ 2001 ≤ b1.toNatClampNeg then none else if ((u19.2.2.1 37 b1.toNatClampNeg) + b2) < 0 ∨ 2001 ≤ ((u19.2.2.1 37 b1.toNatClampNeg) + b2).toNatClampNeg then none else xs_seq (fm_Model_mark (u19.2.2.2 5 ((u19.2.2.1 37 b1.toNatClampNeg) + b2).toNatClampNeg) u19) fun _ u21 => jb_Model_collect_173 fu k100 k129 b1 b2 u21)))))
noncomputable def jb_Model_collect_100 (fu : Nat) : Nat → xk_St → Option (Unit × xk_St)
  | 0 => fun _ => none
  | n + 1 => fun  u =>
    xs_let (jb_Model_collect_100 fu  n) fun k100 =>
    if (u.1 33) ≤ (0 : Int32) then (jb_Model_collect_188 fu fu (0 : Int32) (0 : Int32) (0 : Int32) u) else ((xs_let (xs_I u 33 ((u.1 33) - (1 : Int32))) fun u14 => if (u14.1 33) < 0 ∨ 2001 ≤ (u14.1 33).toNatClampNeg then none else xs_let (u14.2.2.1 41 (u14.1 33).toNatClampNeg) fun a15 => jb_Model_collect_129 fu k100 fu a15 (0 : Int32) u14))
noncomputable def jb_Model_collect_94 (fu : Nat) (k67 : Int32 → xk_St → Option (Unit × xk_St)) (b1 : Int32) (u : xk_St) : Option (Unit × xk_St) :=
  (xs_let (b1 + (1 : Int32)) fun a22 => k67 a22 u)
noncomputable def jb_Model_collect_67 (fu : Nat) : Nat → Int32 → xk_St → Option (Unit × xk_St)
  | 0 => fun _ _ => none
  | n + 1 => fun b1 u =>
    xs_let (jb_Model_collect_67 fu  n) fun k67 =>
    if (u.1 26) ≤ b1 then (jb_Model_collect_100 fu fu u) else ((if b1 < 0 ∨ 19000 ≤ b1.toNatClampNeg then none else if (u.2.2.1 29 b1.toNatClampNeg) = (0 : Int32) then (jb_Model_collect_94 fu k67 b1 u) else ((if b1 < 0 ∨ 19000 ≤ b1.toNatClampNeg then none else xs_seq (fm_Model_mark (u.2.2.2 3 b1.toNatClampNeg) u) fun _ u23 => jb_Model_collect_94 fu k67 b1 u23))))
noncomputable def jb_Model_collect_59 (fu : Nat) (k29 : Int32 → xk_St → Option (Unit × xk_St)) (b1 : Int32) (u : xk_St) : Option (Unit × xk_St) :=
  (xs_let (b1 + (1 : Int32)) fun a26 => k29 a26 u)
noncomputable def jb_Model_collect_29 (fu : Nat) : Nat → Int32 → xk_St → Option (Unit × xk_St)
  | 0 => fun _ _ => none
  | n + 1 => fun b1 u =>
    xs_let (jb_Model_collect_29 fu  n) fun k29 =>
    if (u.1 18) ≤ b1 then (jb_Model_collect_67 fu fu (0 : Int32) u) else ((if b1 < 0 ∨ 64 ≤ b1.toNatClampNeg then none else xs_seq (fm_Model_isReference (u.2.2.1 14 b1.toNatClampNeg) u) fun a24 u25 => if a24 = (0 : Int32) then (jb_Model_collect_59 fu k29 b1 u25) else ((if b1 < 0 ∨ 64 ≤ b1.toNatClampNeg then none else xs_seq (fm_Model_mark (u25.2.2.2 2 b1.toNatClampNeg) u25) fun _ u27 => jb_Model_collect_59 fu k29 b1 u27))))
noncomputable def jb_Model_collect_7 (fu : Nat) : Nat → Int32 → xk_St → Option (Unit × xk_St)
  | 0 => fun _ _ => none
  | n + 1 => fun b1 u =>
    xs_let (jb_Model_collect_7 fu  n) fun k7 =>
    if (2001 : Int32) ≤ b1 then (jb_Model_collect_29 fu fu (0 : Int32) u) else ((if b1 < 0 ∨ 2001 ≤ b1.toNatClampNeg then none else xs_let (xs_A u 40 b1.toNatClampNeg (vp_nar .boolean (0 : Int32))) fun u28 => xs_let (b1 + (1 : Int32)) fun a29 => k7 a29 u28))
noncomputable def fm_Model_collect (fu : Nat) (u : xk_St) : Option (Unit × xk_St) :=
  (xs_let (xs_I u 33 (0 : Int32)) fun u1 => jb_Model_collect_7 fu fu (0 : Int32) u1)
set_option maxHeartbeats 4000000 in
set_option maxRecDepth 100000 in
theorem wj_Model_collect_309 {p : Program} {l : Launch} {e : Env} {s : State} {m : MethodId} {args : Array Value} {below : List Frame} {meth : Method} {c : Code} {D : va_G} {ad : Nat → Nat} {ca : Nat → ClassId} {ads : List Nat} {fu : Nat} (htr : l.stackTraces = false) (C : xk_C D kx_cl (kx_ty ca) (kw_m ad ca) ads "ModuleHouseModel" prog_14_method_101_code 7 none p e s m args meth c) (hne : c.exceptionTable.isEmpty = true) {u' : xk_St} {r : Unit} {k188 : Int32 → Int32 → Int32 → xk_St → Option (Unit × xk_St)} (hk188 : ∀ (c0 : Int32) (c1 : Int32) (c2 : Int32) (u : xk_St) (H : Heap) (locs : List Loc) (ls : Array Slot), k188 c0 c1 c2 u = some (r, u') → va_P D kx_cl (kw_m ad ca u) H → va_S (xk_A ads s.heap.size) s.heap H locs → lv_has ls 7 [(0, .ref (ad 0)), (1, .int c0), (2, .int c1), (3, .int c2)] → W p l e rm_Model_collect s m args below meth c H locs 0 0 (xk_MQ below (xk_Qc D kx_cl (kw_m ad ca) ads (xo_v (.inl r)) u') args s (xk_A ads s.heap.size)) (F0 m 188 ls [])) {b1 : Int32} {b2 : Int32} {b3 : Int32} {u : xk_St} {H : Heap} {locs : List Loc} {ls : Array Slot} (h : jb_Model_collect_309 fu k188 b1 b2 b3 u = some (r, u')) (hP : va_P D kx_cl (kw_m ad ca u) H) (hS : va_S (xk_A ads s.heap.size) s.heap H locs) (hl : lv_has ls 7 [(0, .ref (ad 0)), (1, .int b1), (2, .int b2), (3, .int b3)]) : W p l e rm_Model_collect s m args below meth c H locs 0 0 (xk_MQ below (xk_Qc D kx_cl (kw_m ad ca) ads (xo_v (.inl r)) u') args s (xk_A ads s.heap.size)) (F0 m 309 ls []) := by
  have hx := C.1.1
  have hb := C.1.2.1
  have hok := C.2.2.1
  unfold jb_Model_collect_309 at h
  obtain ⟨a10, ea10, h⟩ := xp_let h
  refine lv_iinc (v := a10) (lv' := [(3, .int a10), (0, .ref (ad 0)), (1, .int b1), (2, .int b2)]) hx hb dd_Model_collect_309 hl (k := 3) rfl (by rw [ea10]; first | rfl | decide) (by decide) rfl (fun ls hl => ?_)
  refine lv_goto (tgt := 188) hx hb dd_Model_collect_312 (by decide) ?_
  exact hk188 b1 b2 a10 u _ _ _ h hP hS (lv_sub hl [1, 2, 3, 0] rfl)
set_option maxHeartbeats 4000000 in
set_option maxRecDepth 100000 in
theorem wj_Model_collect_247 {p : Program} {l : Launch} {e : Env} {s : State} {m : MethodId} {args : Array Value} {below : List Frame} {meth : Method} {c : Code} {D : va_G} {ad : Nat → Nat} {ca : Nat → ClassId} {ads : List Nat} {fu : Nat} (htr : l.stackTraces = false) (C : xk_C D kx_cl (kx_ty ca) (kw_m ad ca) ads "ModuleHouseModel" prog_14_method_101_code 7 none p e s m args meth c) (hne : c.exceptionTable.isEmpty = true) {u' : xk_St} {r : Unit} {k188 : Int32 → Int32 → Int32 → xk_St → Option (Unit × xk_St)} (hk188 : ∀ (c0 : Int32) (c1 : Int32) (c2 : Int32) (u : xk_St) (H : Heap) (locs : List Loc) (ls : Array Slot), k188 c0 c1 c2 u = some (r, u') → va_P D kx_cl (kw_m ad ca u) H → va_S (xk_A ads s.heap.size) s.heap H locs → lv_has ls 7 [(0, .ref (ad 0)), (1, .int c0), (2, .int c1), (3, .int c2)] → W p l e rm_Model_collect s m args below meth c H locs 0 0 (xk_MQ below (xk_Qc D kx_cl (kw_m ad ca) ads (xo_v (.inl r)) u') args s (xk_A ads s.heap.size)) (F0 m 188 ls [])) : ∀ {n : Nat} {b1 : Int32} {b2 : Int32} {b3 : Int32} {b4 : Int32} {b5 : Int32} {b6 : Int32} {u : xk_St} {H : Heap} {locs : List Loc} {ls : Array Slot} (h : jb_Model_collect_247 fu k188 n b1 b2 b3 b4 b5 b6 u = some (r, u')) (hP : va_P D kx_cl (kw_m ad ca u) H) (hS : va_S (xk_A ads s.heap.size) s.heap H locs) (hl : lv_has ls 7 [(0, .ref (ad 0)), (1, .int b1), (2, .int b2), (3, .int b3), (4, .int b4), (5, .int b5), (6, .int b6)]), W p l e rm_Model_collect s m args below meth c H locs 0 0 (xk_MQ below (xk_Qc D kx_cl (kw_m ad ca) ads (xo_v (.inl r)) u') args s (xk_A ads s.heap.size)) (F0 m 247 ls []) := by
  intro n
  have hx := C.1.1
  have hb := C.1.2.1
  have hok := C.2.2.1
  induction n with
  | zero =>
    intro _ _ _ _ _ _ u H locs ls h
    have h : none = some (r, u') := h
    cases h
  | succ n ih =>
    intro b1 b2 b3 b4 b5 b6 u H locs ls h hP hS hl
    unfold jb_Model_collect_247 at h
    obtain ⟨k247, ek247, h⟩ := xp_let h
    have hk247 : ∀ (c0 : Int32) (c1 : Int32) (c2 : Int32) (c3 : Int32) (c4 : Int32) (c5 : Int32) (u : xk_St) (H : Heap) (locs : List Loc) (ls : Array Slot), k247 c0 c1 c2 c3 c4 c5 u = some (r, u') → va_P D kx_cl (kw_m ad ca u) H → va_S (xk_A ads s.heap.size) s.heap H locs → lv_has ls 7 [(0, .ref (ad 0)), (1, .int c0), (2, .int c1), (3, .int c2), (4, .int c3), (5, .int c4), (6, .int c5)] → W p l e rm_Model_collect s m args below meth c H locs 0 0 (xk_MQ below (xk_Qc D kx_cl (kw_m ad ca) ads (xo_v (.inl r)) u') args s (xk_A ads s.heap.size)) (F0 m 247 ls []) := by
      intro c0 c1 c2 c3 c4 c5 u H locs ls h hP hS hl
      subst ek247
      exact ih h hP hS hl
    clear ih ek247
    refine lv_iload hx hb dd_Model_collect_247 (lv_at hl 6 rfl) ?_
    refine lv_aload_n hx hb dd_Model_collect_249 rfl (lv_at hl 0 rfl) ?_
    refine gf_m_Model_0_objectSize C hP dd_Model_collect_250 ?_
    refine lv_iload hx hb dd_Model_collect_253 (lv_at hl 4 rfl) ?_
    obtain ⟨hi, h⟩ := xp_g h
    refine al_m_45 C hP hi dd_Model_collect_255 ?_
    refine lv_icmp_ge (tgt := 286) hx hb dd_Model_collect_256 (by decide) (fun hc => ?_) (fun hc => ?_)
    · have h := xp_t hc h
      refine lv_iload_n hx hb dd_Model_collect_286 rfl (lv_at hl 2 rfl) ?_
      refine lv_iconst (v := 1) hx hb dd_Model_collect_287 (by decide) ?_
      refine lv_aload_n hx hb dd_Model_collect_288 rfl (lv_at hl 0 rfl) ?_
      refine gf_m_Model_0_objectSize C hP dd_Model_collect_289 ?_
      refine lv_iload hx hb dd_Model_collect_292 (lv_at hl 4 rfl) ?_
      obtain ⟨hi, h⟩ := xp_g h
      refine al_m_45 C hP hi dd_Model_collect_294 ?_
      refine lv_iadd hx hb dd_Model_collect_295 ?_
      refine lv_iadd hx hb dd_Model_collect_296 ?_
      obtain ⟨a7, ea7, h⟩ := xp_let h
      refine xr_nami ea7 ?_
      refine lv_istore_n (lv' := [(2, .int a7), (0, .ref (ad 0)), (1, .int b1), (3, .int b3), (4, .int b4), (5, .int b5), (6, .int b6)]) hx hb dd_Model_collect_297 rfl hl (by decide) rfl (fun ls hl => ?_)
      refine lv_aload_n hx hb dd_Model_collect_298 rfl (lv_at hl 1 rfl) ?_
      refine gf_m_Model_0_order C hP dd_Model_collect_299 ?_
      refine lv_iload_n hx hb dd_Model_collect_302 rfl (lv_at hl 2 rfl) ?_
      refine lv_iload hx hb dd_Model_collect_303 (lv_at hl 4 rfl) ?_
      obtain ⟨hi, h⟩ := xp_g h
      refine as_m_49 C hP hS hi dd_Model_collect_305 (fun H locs hP hS => ?_)
      obtain ⟨u8, eu8, h⟩ := xp_let h
      rw [← eu8] at hP
      obtain ⟨a9, ea9, h⟩ := xp_let h
      refine lv_iinc (v := a9) (lv' := [(1, .int a9), (2, .int a7), (0, .ref (ad 0)), (3, .int b3), (4, .int b4), (5, .int b5), (6, .int b6)]) hx hb dd_Model_collect_306 hl (k := 2) rfl (by rw [ea9]; first | rfl | decide) (by decide) rfl (fun ls hl => ?_)
      exact wj_Model_collect_309 htr C hne hk188 h hP hS (lv_sub hl [2, 0, 1, 3] rfl)
    · have h := xp_f hc h
      refine lv_aload_n hx hb dd_Model_collect_259 rfl (lv_at hl 0 rfl) ?_
      refine gf_m_Model_0_cells C hP dd_Model_collect_260 ?_
      refine lv_iload_n hx hb dd_Model_collect_263 rfl (lv_at hl 2 rfl) ?_
      refine lv_iconst (v := 1) hx hb dd_Model_collect_264 (by decide) ?_
      refine lv_iadd hx hb dd_Model_collect_265 ?_
      refine lv_iload hx hb dd_Model_collect_266 (lv_at hl 6 rfl) ?_
      refine lv_iadd hx hb dd_Model_collect_268 ?_
      refine lv_aload_n hx hb dd_Model_collect_269 rfl (lv_at hl 0 rfl) ?_
      refine gf_m_Model_0_cells C hP dd_Model_collect_270 ?_
      refine lv_iload hx hb dd_Model_collect_273 (lv_at hl 5 rfl) ?_
      refine lv_iload hx hb dd_Model_collect_275 (lv_at hl 6 rfl) ?_
      refine lv_iadd hx hb dd_Model_collect_277 ?_
      obtain ⟨hi, h⟩ := xp_g h
      refine al_m_43 C hP hi dd_Model_collect_278 ?_
      obtain ⟨hi, h⟩ := xp_g h
      refine as_m_43 C hP hS hi dd_Model_collect_279 (fun H locs hP hS => ?_)
      obtain ⟨u11, eu11, h⟩ := xp_let h
      rw [← eu11] at hP
      obtain ⟨a12, ea12, h⟩ := xp_let h
      refine lv_iinc (v := a12) (lv' := [(6, .int a12), (0, .ref (ad 0)), (1, .int b1), (2, .int b2), (3, .int b3), (4, .int b4), (5, .int b5)]) hx hb dd_Model_collect_280 hl (k := 6) rfl (by rw [ea12]; first | rfl | decide) (by decide) rfl (fun ls hl => ?_)
      refine lv_goto (tgt := 247) hx hb dd_Model_collect_283 (by decide) ?_
      exact hk247 b1 b2 b3 b4 b5 a12 u11 _ _ _ h hP hS (lv_sub hl [1, 2, 3, 4, 5, 6, 0] rfl)
set_option maxHeartbeats 4000000 in
set_option maxRecDepth 100000 in
theorem wj_Model_collect_188 {p : Program} {l : Launch} {e : Env} {s : State} {m : MethodId} {args : Array Value} {below : List Frame} {meth : Method} {c : Code} {D : va_G} {ad : Nat → Nat} {ca : Nat → ClassId} {ads : List Nat} {fu : Nat} (htr : l.stackTraces = false) (C : xk_C D kx_cl (kx_ty ca) (kw_m ad ca) ads "ModuleHouseModel" prog_14_method_101_code 7 none p e s m args meth c) (hne : c.exceptionTable.isEmpty = true) {u' : xk_St} {r : Unit} : ∀ {n : Nat} {b1 : Int32} {b2 : Int32} {b3 : Int32} {u : xk_St} {H : Heap} {locs : List Loc} {ls : Array Slot} (h : jb_Model_collect_188 fu  n b1 b2 b3 u = some (r, u')) (hP : va_P D kx_cl (kw_m ad ca u) H) (hS : va_S (xk_A ads s.heap.size) s.heap H locs) (hl : lv_has ls 7 [(0, .ref (ad 0)), (1, .int b1), (2, .int b2), (3, .int b3)]), W p l e rm_Model_collect s m args below meth c H locs 0 0 (xk_MQ below (xk_Qc D kx_cl (kw_m ad ca) ads (xo_v (.inl r)) u') args s (xk_A ads s.heap.size)) (F0 m 188 ls []) := by
  intro n
  have hx := C.1.1
  have hb := C.1.2.1
  have hok := C.2.2.1
  induction n with
  | zero =>
    intro _ _ _ u H locs ls h
    have h : none = some (r, u') := h
    cases h
  | succ n ih =>
    intro b1 b2 b3 u H locs ls h hP hS hl
    unfold jb_Model_collect_188 at h
    obtain ⟨k188, ek188, h⟩ := xp_let h
    have hk188 : ∀ (c0 : Int32) (c1 : Int32) (c2 : Int32) (u : xk_St) (H : Heap) (locs : List Loc) (ls : Array Slot), k188 c0 c1 c2 u = some (r, u') → va_P D kx_cl (kw_m ad ca u) H → va_S (xk_A ads s.heap.size) s.heap H locs → lv_has ls 7 [(0, .ref (ad 0)), (1, .int c0), (2, .int c1), (3, .int c2)] → W p l e rm_Model_collect s m args below meth c H locs 0 0 (xk_MQ below (xk_Qc D kx_cl (kw_m ad ca) ads (xo_v (.inl r)) u') args s (xk_A ads s.heap.size)) (F0 m 188 ls []) := by
      intro c0 c1 c2 u H locs ls h hP hS hl
      subst ek188
      exact ih h hP hS hl
    clear ih ek188
    refine lv_iload_n hx hb dd_Model_collect_188 rfl (lv_at hl 3 rfl) ?_
    refine lv_aload_n hx hb dd_Model_collect_189 rfl (lv_at hl 0 rfl) ?_
    refine gf_m_Model_0_objects C hP dd_Model_collect_190 ?_
    refine lv_icmp_ge (tgt := 315) hx hb dd_Model_collect_193 (by decide) (fun hc => ?_) (fun hc => ?_)
    · have h := xp_t hc h
      refine lv_aload_n hx hb dd_Model_collect_315 rfl (lv_at hl 0 rfl) ?_
      refine lv_iload_n hx hb dd_Model_collect_316 rfl (lv_at hl 1 rfl) ?_
      refine pf_m_Model_0_objects C hP hS dd_Model_collect_317 (fun H locs hP hS => ?_)
      obtain ⟨u2, eu2, h⟩ := xp_let h
      rw [← eu2] at hP
      refine lv_aload_n hx hb dd_Model_collect_320 rfl (lv_at hl 0 rfl) ?_
      refine lv_iload_n hx hb dd_Model_collect_321 rfl (lv_at hl 2 rfl) ?_
      refine pf_m_Model_0_heap C hP hS dd_Model_collect_322 (fun H locs hP hS => ?_)
      obtain ⟨u3, eu3, h⟩ := xp_let h
      rw [← eu3] at hP
      obtain ⟨rfl, rfl⟩ := xp_r h
      exact xr_vret C hP hS dd_Model_collect_325
    · have h := xp_f hc h
      refine lv_aload_n hx hb dd_Model_collect_196 rfl (lv_at hl 0 rfl) ?_
      refine gf_m_Model_0_order C hP dd_Model_collect_197 ?_
      refine lv_iload_n hx hb dd_Model_collect_200 rfl (lv_at hl 3 rfl) ?_
      obtain ⟨hi, h⟩ := xp_g h
      refine al_m_49 C hP hi dd_Model_collect_201 ?_
      obtain ⟨a4, ea4, h⟩ := xp_let h
      refine xr_nami ea4 ?_
      refine lv_istore (lv' := [(4, .int a4), (0, .ref (ad 0)), (1, .int b1), (2, .int b2), (3, .int b3)]) hx hb dd_Model_collect_202 hl (by decide) rfl (fun ls hl => ?_)
      refine lv_aload_n hx hb dd_Model_collect_204 rfl (lv_at hl 1 rfl) ?_
      refine gf_m_Model_0_marked C hP dd_Model_collect_205 ?_
      refine lv_iload hx hb dd_Model_collect_208 (lv_at hl 0 rfl) ?_
      obtain ⟨hi, h⟩ := xp_g h
      refine al_m_47 C hP hi dd_Model_collect_210 ?_
      refine lv_if_ne (tgt := 225) hx hb dd_Model_collect_211 (by decide) (fun hc => ?_) (fun hc => ?_)
      · have h := xp_f hc h
        refine lv_aload_n hx hb dd_Model_collect_225 rfl (lv_at hl 1 rfl) ?_
        refine gf_m_Model_0_objectAt C hP dd_Model_collect_226 ?_
        refine lv_iload hx hb dd_Model_collect_229 (lv_at hl 0 rfl) ?_
        obtain ⟨hi, h⟩ := xp_g h
        refine al_m_44 C hP hi dd_Model_collect_231 ?_
        obtain ⟨a5, ea5, h⟩ := xp_let h
        refine xr_nami ea5 ?_
        refine lv_istore (lv' := [(5, .int a5), (4, .int a4), (0, .ref (ad 0)), (1, .int b1), (2, .int b2), (3, .int b3)]) hx hb dd_Model_collect_232 hl (by decide) rfl (fun ls hl => ?_)
        refine lv_aload_n hx hb dd_Model_collect_234 rfl (lv_at hl 2 rfl) ?_
        refine gf_m_Model_0_objectAt C hP dd_Model_collect_235 ?_
        refine lv_iload hx hb dd_Model_collect_238 (lv_at hl 1 rfl) ?_
        refine lv_iload_n hx hb dd_Model_collect_240 rfl (lv_at hl 4 rfl) ?_
        refine lv_iconst (v := 1) hx hb dd_Model_collect_241 (by decide) ?_
        refine lv_iadd hx hb dd_Model_collect_242 ?_
        obtain ⟨hi, h⟩ := xp_g h
        refine as_m_44 C hP hS hi dd_Model_collect_243 (fun H locs hP hS => ?_)
        obtain ⟨u6, eu6, h⟩ := xp_let h
        rw [← eu6] at hP
        refine lv_iconst (v := 0) hx hb dd_Model_collect_244 (by decide) ?_
        refine lv_istore (lv' := [(6, .int (0 : Int32)), (5, .int a5), (4, .int a4), (0, .ref (ad 0)), (1, .int b1), (2, .int b2), (3, .int b3)]) hx hb dd_Model_collect_245 hl (by decide) rfl (fun ls hl => ?_)
        exact wj_Model_collect_247 htr C hne hk188 h hP hS (lv_sub hl [3, 4, 5, 6, 2, 1, 0] rfl)
      · have h := xp_t hc h
        refine lv_aload_n hx hb dd_Model_collect_214 rfl (lv_at hl 1 rfl) ?_
        refine gf_m_Model_0_objectSize C hP dd_Model_collect_215 ?_
        refine lv_iload hx hb dd_Model_collect_218 (lv_at hl 0 rfl) ?_
        refine lv_iconst (v := (-1)) hx hb dd_Model_collect_220 (by decide) ?_
        obtain ⟨hi, h⟩ := xp_g h
        refine as_m_45 C hP hS hi dd_Model_collect_221 (fun H locs hP hS => ?_)
        obtain ⟨u13, eu13, h⟩ := xp_let h
        rw [← eu13] at hP
        refine lv_goto (tgt := 309) hx hb dd_Model_collect_222 (by decide) ?_
        exact wj_Model_collect_309 htr C hne hk188 h hP hS (lv_sub hl [1, 2, 3, 4] rfl)
set_option maxHeartbeats 4000000 in
set_option maxRecDepth 100000 in
theorem wj_Model_collect_173 {p : Program} {l : Launch} {e : Env} {s : State} {m : MethodId} {args : Array Value} {below : List Frame} {meth : Method} {c : Code} {D : va_G} {ad : Nat → Nat} {ca : Nat → ClassId} {ads : List Nat} {fu : Nat} (htr : l.stackTraces = false) (C : xk_C D kx_cl (kx_ty ca) (kw_m ad ca) ads "ModuleHouseModel" prog_14_method_101_code 7 none p e s m args meth c) (hne : c.exceptionTable.isEmpty = true) {u' : xk_St} {r : Unit} {k100 : xk_St → Option (Unit × xk_St)} {k129 : Int32 → Int32 → xk_St → Option (Unit × xk_St)} (hk100 : ∀ (u : xk_St) (H : Heap) (locs : List Loc) (ls : Array Slot), k100  u = some (r, u') → va_P D kx_cl (kw_m ad ca u) H → va_S (xk_A ads s.heap.size) s.heap H locs → lv_has ls 7 [(0, .ref (ad 0))] → W p l e rm_Model_collect s m args below meth c H locs 0 0 (xk_MQ below (xk_Qc D kx_cl (kw_m ad ca) ads (xo_v (.inl r)) u') args s (xk_A ads s.heap.size)) (F0 m 100 ls [])) (hk129 : ∀ (c0 : Int32) (c1 : Int32) (u : xk_St) (H : Heap) (locs : List Loc) (ls : Array Slot), k129 c0 c1 u = some (r, u') → va_P D kx_cl (kw_m ad ca u) H → va_S (xk_A ads s.heap.size) s.heap H locs → lv_has ls 7 [(0, .ref (ad 0)), (1, .int c0), (2, .int c1)] → W p l e rm_Model_collect s m args below meth c H locs 0 0 (xk_MQ below (xk_Qc D kx_cl (kw_m ad ca) ads (xo_v (.inl r)) u') args s (xk_A ads s.heap.size)) (F0 m 129 ls [])) {b1 : Int32} {b2 : Int32} {u : xk_St} {H : Heap} {locs : List Loc} {ls : Array Slot} (h : jb_Model_collect_173 fu k100 k129 b1 b2 u = some (r, u')) (hP : va_P D kx_cl (kw_m ad ca u) H) (hS : va_S (xk_A ads s.heap.size) s.heap H locs) (hl : lv_has ls 7 [(0, .ref (ad 0)), (1, .int b1), (2, .int b2)]) : W p l e rm_Model_collect s m args below meth c H locs 0 0 (xk_MQ below (xk_Qc D kx_cl (kw_m ad ca) ads (xo_v (.inl r)) u') args s (xk_A ads s.heap.size)) (F0 m 173 ls []) := by
  have hx := C.1.1
  have hb := C.1.2.1
  have hok := C.2.2.1
  unfold jb_Model_collect_173 at h
  obtain ⟨a20, ea20, h⟩ := xp_let h
  refine lv_iinc (v := a20) (lv' := [(2, .int a20), (0, .ref (ad 0)), (1, .int b1)]) hx hb dd_Model_collect_173 hl (k := 2) rfl (by rw [ea20]; first | rfl | decide) (by decide) rfl (fun ls hl => ?_)
  refine lv_goto (tgt := 129) hx hb dd_Model_collect_176 (by decide) ?_
  exact hk129 b1 a20 u _ _ _ h hP hS (lv_sub hl [1, 2, 0] rfl)
set_option maxHeartbeats 4000000 in
set_option maxRecDepth 100000 in
theorem wj_Model_collect_129 {p : Program} {l : Launch} {e : Env} {s : State} {m : MethodId} {args : Array Value} {below : List Frame} {meth : Method} {c : Code} {D : va_G} {ad : Nat → Nat} {ca : Nat → ClassId} {ads : List Nat} {fu : Nat} (htr : l.stackTraces = false) (C : xk_C D kx_cl (kx_ty ca) (kw_m ad ca) ads "ModuleHouseModel" prog_14_method_101_code 7 none p e s m args meth c) (hne : c.exceptionTable.isEmpty = true) {u' : xk_St} {r : Unit} {k100 : xk_St → Option (Unit × xk_St)} (hk100 : ∀ (u : xk_St) (H : Heap) (locs : List Loc) (ls : Array Slot), k100  u = some (r, u') → va_P D kx_cl (kw_m ad ca u) H → va_S (xk_A ads s.heap.size) s.heap H locs → lv_has ls 7 [(0, .ref (ad 0))] → W p l e rm_Model_collect s m args below meth c H locs 0 0 (xk_MQ below (xk_Qc D kx_cl (kw_m ad ca) ads (xo_v (.inl r)) u') args s (xk_A ads s.heap.size)) (F0 m 100 ls [])) : ∀ {n : Nat} {b1 : Int32} {b2 : Int32} {u : xk_St} {H : Heap} {locs : List Loc} {ls : Array Slot} (h : jb_Model_collect_129 fu k100 n b1 b2 u = some (r, u')) (hP : va_P D kx_cl (kw_m ad ca u) H) (hS : va_S (xk_A ads s.heap.size) s.heap H locs) (hl : lv_has ls 7 [(0, .ref (ad 0)), (1, .int b1), (2, .int b2)]), W p l e rm_Model_collect s m args below meth c H locs 0 0 (xk_MQ below (xk_Qc D kx_cl (kw_m ad ca) ads (xo_v (.inl r)) u') args s (xk_A ads s.heap.size)) (F0 m 129 ls []) := by
  intro n
  have hx := C.1.1
  have hb := C.1.2.1
  have hok := C.2.2.1
  induction n with
  | zero =>
    intro _ _ u H locs ls h
    have h : none = some (r, u') := h
    cases h
  | succ n ih =>
    intro b1 b2 u H locs ls h hP hS hl
    unfold jb_Model_collect_129 at h
    obtain ⟨k129, ek129, h⟩ := xp_let h
    have hk129 : ∀ (c0 : Int32) (c1 : Int32) (u : xk_St) (H : Heap) (locs : List Loc) (ls : Array Slot), k129 c0 c1 u = some (r, u') → va_P D kx_cl (kw_m ad ca u) H → va_S (xk_A ads s.heap.size) s.heap H locs → lv_has ls 7 [(0, .ref (ad 0)), (1, .int c0), (2, .int c1)] → W p l e rm_Model_collect s m args below meth c H locs 0 0 (xk_MQ below (xk_Qc D kx_cl (kw_m ad ca) ads (xo_v (.inl r)) u') args s (xk_A ads s.heap.size)) (F0 m 129 ls []) := by
      intro c0 c1 u H locs ls h hP hS hl
      subst ek129
      exact ih h hP hS hl
    clear ih ek129
    refine lv_iload_n hx hb dd_Model_collect_129 rfl (lv_at hl 2 rfl) ?_
    refine lv_aload_n hx hb dd_Model_collect_130 rfl (lv_at hl 0 rfl) ?_
    refine gf_m_Model_0_objectSize C hP dd_Model_collect_131 ?_
    refine lv_iload_n hx hb dd_Model_collect_134 rfl (lv_at hl 1 rfl) ?_
    obtain ⟨hi, h⟩ := xp_g h
    refine al_m_45 C hP hi dd_Model_collect_135 ?_
    refine lv_icmp_ge (tgt := 179) hx hb dd_Model_collect_136 (by decide) (fun hc => ?_) (fun hc => ?_)
    · have h := xp_t hc h
      refine lv_goto (tgt := 100) hx hb dd_Model_collect_179 (by decide) ?_
      exact hk100  u _ _ _ h hP hS (lv_sub hl [0] rfl)
    · have h := xp_f hc h
      refine lv_aload_n hx hb dd_Model_collect_139 rfl (lv_at hl 0 rfl) ?_
      refine lv_aload_n hx hb dd_Model_collect_140 rfl (lv_at hl 0 rfl) ?_
      refine gf_m_Model_0_objectOf C hP dd_Model_collect_141 ?_
      refine lv_iload_n hx hb dd_Model_collect_144 rfl (lv_at hl 1 rfl) ?_
      obtain ⟨hi, h⟩ := xp_g h
      refine al_m_46 C hP hi dd_Model_collect_145 ?_
      refine lv_iload_n hx hb dd_Model_collect_146 rfl (lv_at hl 2 rfl) ?_
      obtain ⟨a16, u17, hq, h⟩ := xp_seq h
      refine xk_goesI (xr_V (As := [.int (u.2.2.1 39 b1.toNatClampNeg), .int b2]) (rest := []) C hP hS (ct_Model_partOf htr hok hq) kq_Model_665 0 11 rfl rfl ⟨rfl, rfl, Nat.le_of_ble_eq_true rfl, Nat.le_of_ble_eq_true rfl⟩ ⟨Nat.le_of_ble_eq_true rfl, Nat.le_of_ble_eq_true rfl⟩ hl.1 rfl rfl (Nat.le_of_ble_eq_true rfl) dd_Model_collect_147) hS (fun H locs hP hS => ?_)
      clear hq
      obtain ⟨a18, u19, hq, h⟩ := xp_seq h
      refine xk_goesI (xr_S (As := [.int a16]) (rest := []) C hP hS (ct_Model_isReference htr hok hq) kq_Model_384 ⟨rfl, rfl, Nat.le_of_ble_eq_true rfl, Nat.le_of_ble_eq_true rfl⟩ ⟨Nat.le_of_ble_eq_true rfl, Nat.le_of_ble_eq_true rfl⟩ hl.1 rfl rfl (Nat.le_of_ble_eq_true rfl) dd_Model_collect_150) hS (fun H locs hP hS => ?_)
      clear hq
      refine lv_if_eq (tgt := 173) hx hb dd_Model_collect_153 (by decide) (fun hc => ?_) (fun hc => ?_)
      · have h := xp_t hc h
        exact wj_Model_collect_173 htr C hne hk100 hk129 h hP hS (lv_sub hl [0, 1, 2] rfl)
      · have h := xp_f hc h
        refine lv_aload_n hx hb dd_Model_collect_156 rfl (lv_at hl 0 rfl) ?_
        refine lv_aload_n hx hb dd_Model_collect_157 rfl (lv_at hl 0 rfl) ?_
        refine gf_m_Model_0_cells C hP dd_Model_collect_158 ?_
        refine lv_aload_n hx hb dd_Model_collect_161 rfl (lv_at hl 0 rfl) ?_
        refine gf_m_Model_0_objectAt C hP dd_Model_collect_162 ?_
        refine lv_iload_n hx hb dd_Model_collect_165 rfl (lv_at hl 1 rfl) ?_
        obtain ⟨hi, h⟩ := xp_g h
        refine al_m_44 C hP hi dd_Model_collect_166 ?_
        refine lv_iload_n hx hb dd_Model_collect_167 rfl (lv_at hl 2 rfl) ?_
        refine lv_iadd hx hb dd_Model_collect_168 ?_
        obtain ⟨hi, h⟩ := xp_g h
        refine al_m_43 C hP hi dd_Model_collect_169 ?_
        obtain ⟨rx, u21, hq, h⟩ := xp_seq h
        refine xk_goesV (xr_V (As := [.long (u19.2.2.2 5 ((u19.2.2.1 37 b1.toNatClampNeg) + b2).toNatClampNeg)]) (rest := []) C hP hS (ct_Model_mark htr hok hq) kq_Model_658 0 11 rfl rfl ⟨rfl, rfl, Nat.le_of_ble_eq_true rfl, Nat.le_of_ble_eq_true rfl⟩ ⟨Nat.le_of_ble_eq_true rfl, Nat.le_of_ble_eq_true rfl⟩ hl.1 rfl rfl (Nat.le_of_ble_eq_true rfl) dd_Model_collect_170) hS (fun H locs hP hS => ?_)
        clear hq
        exact wj_Model_collect_173 htr C hne hk100 hk129 h hP hS (lv_sub hl [0, 1, 2] rfl)
set_option maxHeartbeats 4000000 in
set_option maxRecDepth 100000 in
theorem wj_Model_collect_100 {p : Program} {l : Launch} {e : Env} {s : State} {m : MethodId} {args : Array Value} {below : List Frame} {meth : Method} {c : Code} {D : va_G} {ad : Nat → Nat} {ca : Nat → ClassId} {ads : List Nat} {fu : Nat} (htr : l.stackTraces = false) (C : xk_C D kx_cl (kx_ty ca) (kw_m ad ca) ads "ModuleHouseModel" prog_14_method_101_code 7 none p e s m args meth c) (hne : c.exceptionTable.isEmpty = true) {u' : xk_St} {r : Unit} : ∀ {n : Nat} {u : xk_St} {H : Heap} {locs : List Loc} {ls : Array Slot} (h : jb_Model_collect_100 fu  n  u = some (r, u')) (hP : va_P D kx_cl (kw_m ad ca u) H) (hS : va_S (xk_A ads s.heap.size) s.heap H locs) (hl : lv_has ls 7 [(0, .ref (ad 0))]), W p l e rm_Model_collect s m args below meth c H locs 0 0 (xk_MQ below (xk_Qc D kx_cl (kw_m ad ca) ads (xo_v (.inl r)) u') args s (xk_A ads s.heap.size)) (F0 m 100 ls []) := by
  intro n
  have hx := C.1.1
  have hb := C.1.2.1
  have hok := C.2.2.1
  induction n with
  | zero =>
    intro  u H locs ls h
    have h : none = some (r, u') := h
    cases h
  | succ n ih =>
    intro  u H locs ls h hP hS hl
    unfold jb_Model_collect_100 at h
    obtain ⟨k100, ek100, h⟩ := xp_let h
    have hk100 : ∀ (u : xk_St) (H : Heap) (locs : List Loc) (ls : Array Slot), k100  u = some (r, u') → va_P D kx_cl (kw_m ad ca u) H → va_S (xk_A ads s.heap.size) s.heap H locs → lv_has ls 7 [(0, .ref (ad 0))] → W p l e rm_Model_collect s m args below meth c H locs 0 0 (xk_MQ below (xk_Qc D kx_cl (kw_m ad ca) ads (xo_v (.inl r)) u') args s (xk_A ads s.heap.size)) (F0 m 100 ls []) := by
      intro  u H locs ls h hP hS hl
      subst ek100
      exact ih h hP hS hl
    clear ih ek100
    refine lv_aload_n hx hb dd_Model_collect_100 rfl (lv_at hl 0 rfl) ?_
    refine gf_m_Model_0_piled C hP dd_Model_collect_101 ?_
    refine lv_if_le (tgt := 182) hx hb dd_Model_collect_104 (by decide) (fun hc => ?_) (fun hc => ?_)
    · have h := xp_t hc h
      refine lv_iconst (v := 0) hx hb dd_Model_collect_182 (by decide) ?_
      refine lv_istore_n (lv' := [(1, .int (0 : Int32)), (0, .ref (ad 0))]) hx hb dd_Model_collect_183 rfl hl (by decide) rfl (fun ls hl => ?_)
      refine lv_iconst (v := 0) hx hb dd_Model_collect_184 (by decide) ?_
      refine lv_istore_n (lv' := [(2, .int (0 : Int32)), (1, .int (0 : Int32)), (0, .ref (ad 0))]) hx hb dd_Model_collect_185 rfl hl (by decide) rfl (fun ls hl => ?_)
      refine lv_iconst (v := 0) hx hb dd_Model_collect_186 (by decide) ?_
      refine lv_istore_n (lv' := [(3, .int (0 : Int32)), (2, .int (0 : Int32)), (1, .int (0 : Int32)), (0, .ref (ad 0))]) hx hb dd_Model_collect_187 rfl hl (by decide) rfl (fun ls hl => ?_)
      exact wj_Model_collect_188 htr C hne h hP hS (lv_sub hl [3, 2, 1, 0] rfl)
    · have h := xp_f hc h
      refine lv_aload_n hx hb dd_Model_collect_107 rfl (lv_at hl 0 rfl) ?_
      refine lv_dup hx hb dd_Model_collect_108 rfl ?_
      refine gf_m_Model_0_piled C hP dd_Model_collect_109 ?_
      refine lv_iconst (v := 1) hx hb dd_Model_collect_112 (by decide) ?_
      refine lv_isub hx hb dd_Model_collect_113 ?_
      refine pf_m_Model_0_piled C hP hS dd_Model_collect_114 (fun H locs hP hS => ?_)
      obtain ⟨u14, eu14, h⟩ := xp_let h
      rw [← eu14] at hP
      refine lv_aload_n hx hb dd_Model_collect_117 rfl (lv_at hl 0 rfl) ?_
      refine gf_m_Model_0_pile C hP dd_Model_collect_118 ?_
      refine lv_aload_n hx hb dd_Model_collect_121 rfl (lv_at hl 0 rfl) ?_
      refine gf_m_Model_0_piled C hP dd_Model_collect_122 ?_
      obtain ⟨hi, h⟩ := xp_g h
      refine al_m_48 C hP hi dd_Model_collect_125 ?_
      obtain ⟨a15, ea15, h⟩ := xp_let h
      refine xr_nami ea15 ?_
      refine lv_istore_n (lv' := [(1, .int a15), (0, .ref (ad 0))]) hx hb dd_Model_collect_126 rfl hl (by decide) rfl (fun ls hl => ?_)
      refine lv_iconst (v := 0) hx hb dd_Model_collect_127 (by decide) ?_
      refine lv_istore_n (lv' := [(2, .int (0 : Int32)), (1, .int a15), (0, .ref (ad 0))]) hx hb dd_Model_collect_128 rfl hl (by decide) rfl (fun ls hl => ?_)
      exact wj_Model_collect_129 htr C hne hk100 h hP hS (lv_sub hl [2, 1, 0] rfl)
set_option maxHeartbeats 4000000 in
set_option maxRecDepth 100000 in
theorem wj_Model_collect_94 {p : Program} {l : Launch} {e : Env} {s : State} {m : MethodId} {args : Array Value} {below : List Frame} {meth : Method} {c : Code} {D : va_G} {ad : Nat → Nat} {ca : Nat → ClassId} {ads : List Nat} {fu : Nat} (htr : l.stackTraces = false) (C : xk_C D kx_cl (kx_ty ca) (kw_m ad ca) ads "ModuleHouseModel" prog_14_method_101_code 7 none p e s m args meth c) (hne : c.exceptionTable.isEmpty = true) {u' : xk_St} {r : Unit} {k67 : Int32 → xk_St → Option (Unit × xk_St)} (hk67 : ∀ (c0 : Int32) (u : xk_St) (H : Heap) (locs : List Loc) (ls : Array Slot), k67 c0 u = some (r, u') → va_P D kx_cl (kw_m ad ca u) H → va_S (xk_A ads s.heap.size) s.heap H locs → lv_has ls 7 [(0, .ref (ad 0)), (1, .int c0)] → W p l e rm_Model_collect s m args below meth c H locs 0 0 (xk_MQ below (xk_Qc D kx_cl (kw_m ad ca) ads (xo_v (.inl r)) u') args s (xk_A ads s.heap.size)) (F0 m 67 ls [])) {b1 : Int32} {u : xk_St} {H : Heap} {locs : List Loc} {ls : Array Slot} (h : jb_Model_collect_94 fu k67 b1 u = some (r, u')) (hP : va_P D kx_cl (kw_m ad ca u) H) (hS : va_S (xk_A ads s.heap.size) s.heap H locs) (hl : lv_has ls 7 [(0, .ref (ad 0)), (1, .int b1)]) : W p l e rm_Model_collect s m args below meth c H locs 0 0 (xk_MQ below (xk_Qc D kx_cl (kw_m ad ca) ads (xo_v (.inl r)) u') args s (xk_A ads s.heap.size)) (F0 m 94 ls []) := by
  have hx := C.1.1
  have hb := C.1.2.1
  have hok := C.2.2.1
  unfold jb_Model_collect_94 at h
  obtain ⟨a22, ea22, h⟩ := xp_let h
  refine lv_iinc (v := a22) (lv' := [(1, .int a22), (0, .ref (ad 0))]) hx hb dd_Model_collect_94 hl (k := 1) rfl (by rw [ea22]; first | rfl | decide) (by decide) rfl (fun ls hl => ?_)
  refine lv_goto (tgt := 67) hx hb dd_Model_collect_97 (by decide) ?_
  exact hk67 a22 u _ _ _ h hP hS (lv_sub hl [1, 0] rfl)
set_option maxHeartbeats 4000000 in
set_option maxRecDepth 100000 in
theorem wj_Model_collect_67 {p : Program} {l : Launch} {e : Env} {s : State} {m : MethodId} {args : Array Value} {below : List Frame} {meth : Method} {c : Code} {D : va_G} {ad : Nat → Nat} {ca : Nat → ClassId} {ads : List Nat} {fu : Nat} (htr : l.stackTraces = false) (C : xk_C D kx_cl (kx_ty ca) (kw_m ad ca) ads "ModuleHouseModel" prog_14_method_101_code 7 none p e s m args meth c) (hne : c.exceptionTable.isEmpty = true) {u' : xk_St} {r : Unit} : ∀ {n : Nat} {b1 : Int32} {u : xk_St} {H : Heap} {locs : List Loc} {ls : Array Slot} (h : jb_Model_collect_67 fu  n b1 u = some (r, u')) (hP : va_P D kx_cl (kw_m ad ca u) H) (hS : va_S (xk_A ads s.heap.size) s.heap H locs) (hl : lv_has ls 7 [(0, .ref (ad 0)), (1, .int b1)]), W p l e rm_Model_collect s m args below meth c H locs 0 0 (xk_MQ below (xk_Qc D kx_cl (kw_m ad ca) ads (xo_v (.inl r)) u') args s (xk_A ads s.heap.size)) (F0 m 67 ls []) := by
  intro n
  have hx := C.1.1
  have hb := C.1.2.1
  have hok := C.2.2.1
  induction n with
  | zero =>
    intro _ u H locs ls h
    have h : none = some (r, u') := h
    cases h
  | succ n ih =>
    intro b1 u H locs ls h hP hS hl
    unfold jb_Model_collect_67 at h
    obtain ⟨k67, ek67, h⟩ := xp_let h
    have hk67 : ∀ (c0 : Int32) (u : xk_St) (H : Heap) (locs : List Loc) (ls : Array Slot), k67 c0 u = some (r, u') → va_P D kx_cl (kw_m ad ca u) H → va_S (xk_A ads s.heap.size) s.heap H locs → lv_has ls 7 [(0, .ref (ad 0)), (1, .int c0)] → W p l e rm_Model_collect s m args below meth c H locs 0 0 (xk_MQ below (xk_Qc D kx_cl (kw_m ad ca) ads (xo_v (.inl r)) u') args s (xk_A ads s.heap.size)) (F0 m 67 ls []) := by
      intro c0 u H locs ls h hP hS hl
      subst ek67
      exact ih h hP hS hl
    clear ih ek67
    refine lv_iload_n hx hb dd_Model_collect_67 rfl (lv_at hl 1 rfl) ?_
    refine lv_aload_n hx hb dd_Model_collect_68 rfl (lv_at hl 0 rfl) ?_
    refine gf_m_Model_0_top C hP dd_Model_collect_69 ?_
    refine lv_icmp_ge (tgt := 100) hx hb dd_Model_collect_72 (by decide) (fun hc => ?_) (fun hc => ?_)
    · have h := xp_t hc h
      exact wj_Model_collect_100 htr C hne h hP hS (lv_sub hl [0] rfl)
    · have h := xp_f hc h
      refine lv_aload_n hx hb dd_Model_collect_75 rfl (lv_at hl 0 rfl) ?_
      refine gf_m_Model_0_refers C hP dd_Model_collect_76 ?_
      refine lv_iload_n hx hb dd_Model_collect_79 rfl (lv_at hl 1 rfl) ?_
      obtain ⟨hi, h⟩ := xp_g h
      refine al_m_34 C hP hi dd_Model_collect_80 ?_
      refine lv_if_eq (tgt := 94) hx hb dd_Model_collect_81 (by decide) (fun hc => ?_) (fun hc => ?_)
      · have h := xp_t hc h
        exact wj_Model_collect_94 htr C hne hk67 h hP hS (lv_sub hl [0, 1] rfl)
      · have h := xp_f hc h
        refine lv_aload_n hx hb dd_Model_collect_84 rfl (lv_at hl 0 rfl) ?_
        refine lv_aload_n hx hb dd_Model_collect_85 rfl (lv_at hl 0 rfl) ?_
        refine gf_m_Model_0_values C hP dd_Model_collect_86 ?_
        refine lv_iload_n hx hb dd_Model_collect_89 rfl (lv_at hl 1 rfl) ?_
        obtain ⟨hi, h⟩ := xp_g h
        refine al_m_33 C hP hi dd_Model_collect_90 ?_
        obtain ⟨rx, u23, hq, h⟩ := xp_seq h
        refine xk_goesV (xr_V (As := [.long (u.2.2.2 3 b1.toNatClampNeg)]) (rest := []) C hP hS (ct_Model_mark htr hok hq) kq_Model_658 0 11 rfl rfl ⟨rfl, rfl, Nat.le_of_ble_eq_true rfl, Nat.le_of_ble_eq_true rfl⟩ ⟨Nat.le_of_ble_eq_true rfl, Nat.le_of_ble_eq_true rfl⟩ hl.1 rfl rfl (Nat.le_of_ble_eq_true rfl) dd_Model_collect_91) hS (fun H locs hP hS => ?_)
        clear hq
        exact wj_Model_collect_94 htr C hne hk67 h hP hS (lv_sub hl [0, 1] rfl)
set_option maxHeartbeats 4000000 in
set_option maxRecDepth 100000 in
theorem wj_Model_collect_59 {p : Program} {l : Launch} {e : Env} {s : State} {m : MethodId} {args : Array Value} {below : List Frame} {meth : Method} {c : Code} {D : va_G} {ad : Nat → Nat} {ca : Nat → ClassId} {ads : List Nat} {fu : Nat} (htr : l.stackTraces = false) (C : xk_C D kx_cl (kx_ty ca) (kw_m ad ca) ads "ModuleHouseModel" prog_14_method_101_code 7 none p e s m args meth c) (hne : c.exceptionTable.isEmpty = true) {u' : xk_St} {r : Unit} {k29 : Int32 → xk_St → Option (Unit × xk_St)} (hk29 : ∀ (c0 : Int32) (u : xk_St) (H : Heap) (locs : List Loc) (ls : Array Slot), k29 c0 u = some (r, u') → va_P D kx_cl (kw_m ad ca u) H → va_S (xk_A ads s.heap.size) s.heap H locs → lv_has ls 7 [(0, .ref (ad 0)), (1, .int c0)] → W p l e rm_Model_collect s m args below meth c H locs 0 0 (xk_MQ below (xk_Qc D kx_cl (kw_m ad ca) ads (xo_v (.inl r)) u') args s (xk_A ads s.heap.size)) (F0 m 29 ls [])) {b1 : Int32} {u : xk_St} {H : Heap} {locs : List Loc} {ls : Array Slot} (h : jb_Model_collect_59 fu k29 b1 u = some (r, u')) (hP : va_P D kx_cl (kw_m ad ca u) H) (hS : va_S (xk_A ads s.heap.size) s.heap H locs) (hl : lv_has ls 7 [(0, .ref (ad 0)), (1, .int b1)]) : W p l e rm_Model_collect s m args below meth c H locs 0 0 (xk_MQ below (xk_Qc D kx_cl (kw_m ad ca) ads (xo_v (.inl r)) u') args s (xk_A ads s.heap.size)) (F0 m 59 ls []) := by
  have hx := C.1.1
  have hb := C.1.2.1
  have hok := C.2.2.1
  unfold jb_Model_collect_59 at h
  obtain ⟨a26, ea26, h⟩ := xp_let h
  refine lv_iinc (v := a26) (lv' := [(1, .int a26), (0, .ref (ad 0))]) hx hb dd_Model_collect_59 hl (k := 1) rfl (by rw [ea26]; first | rfl | decide) (by decide) rfl (fun ls hl => ?_)
  refine lv_goto (tgt := 29) hx hb dd_Model_collect_62 (by decide) ?_
  exact hk29 a26 u _ _ _ h hP hS (lv_sub hl [1, 0] rfl)
set_option maxHeartbeats 4000000 in
set_option maxRecDepth 100000 in
theorem wj_Model_collect_29 {p : Program} {l : Launch} {e : Env} {s : State} {m : MethodId} {args : Array Value} {below : List Frame} {meth : Method} {c : Code} {D : va_G} {ad : Nat → Nat} {ca : Nat → ClassId} {ads : List Nat} {fu : Nat} (htr : l.stackTraces = false) (C : xk_C D kx_cl (kx_ty ca) (kw_m ad ca) ads "ModuleHouseModel" prog_14_method_101_code 7 none p e s m args meth c) (hne : c.exceptionTable.isEmpty = true) {u' : xk_St} {r : Unit} : ∀ {n : Nat} {b1 : Int32} {u : xk_St} {H : Heap} {locs : List Loc} {ls : Array Slot} (h : jb_Model_collect_29 fu  n b1 u = some (r, u')) (hP : va_P D kx_cl (kw_m ad ca u) H) (hS : va_S (xk_A ads s.heap.size) s.heap H locs) (hl : lv_has ls 7 [(0, .ref (ad 0)), (1, .int b1)]), W p l e rm_Model_collect s m args below meth c H locs 0 0 (xk_MQ below (xk_Qc D kx_cl (kw_m ad ca) ads (xo_v (.inl r)) u') args s (xk_A ads s.heap.size)) (F0 m 29 ls []) := by
  intro n
  have hx := C.1.1
  have hb := C.1.2.1
  have hok := C.2.2.1
  induction n with
  | zero =>
    intro _ u H locs ls h
    have h : none = some (r, u') := h
    cases h
  | succ n ih =>
    intro b1 u H locs ls h hP hS hl
    unfold jb_Model_collect_29 at h
    obtain ⟨k29, ek29, h⟩ := xp_let h
    have hk29 : ∀ (c0 : Int32) (u : xk_St) (H : Heap) (locs : List Loc) (ls : Array Slot), k29 c0 u = some (r, u') → va_P D kx_cl (kw_m ad ca u) H → va_S (xk_A ads s.heap.size) s.heap H locs → lv_has ls 7 [(0, .ref (ad 0)), (1, .int c0)] → W p l e rm_Model_collect s m args below meth c H locs 0 0 (xk_MQ below (xk_Qc D kx_cl (kw_m ad ca) ads (xo_v (.inl r)) u') args s (xk_A ads s.heap.size)) (F0 m 29 ls []) := by
      intro c0 u H locs ls h hP hS hl
      subst ek29
      exact ih h hP hS hl
    clear ih ek29
    refine lv_iload_n hx hb dd_Model_collect_29 rfl (lv_at hl 1 rfl) ?_
    refine lv_aload_n hx hb dd_Model_collect_30 rfl (lv_at hl 0 rfl) ?_
    refine gf_m_Model_0_globals C hP dd_Model_collect_31 ?_
    refine lv_icmp_ge (tgt := 65) hx hb dd_Model_collect_34 (by decide) (fun hc => ?_) (fun hc => ?_)
    · have h := xp_t hc h
      refine lv_iconst (v := 0) hx hb dd_Model_collect_65 (by decide) ?_
      refine lv_istore_n (lv' := [(1, .int (0 : Int32)), (0, .ref (ad 0))]) hx hb dd_Model_collect_66 rfl hl (by decide) rfl (fun ls hl => ?_)
      exact wj_Model_collect_67 htr C hne h hP hS (lv_sub hl [1, 0] rfl)
    · have h := xp_f hc h
      refine lv_aload_n hx hb dd_Model_collect_37 rfl (lv_at hl 0 rfl) ?_
      refine gf_m_Model_0_globalType C hP dd_Model_collect_38 ?_
      refine lv_iload_n hx hb dd_Model_collect_41 rfl (lv_at hl 1 rfl) ?_
      obtain ⟨hi, h⟩ := xp_g h
      refine al_m_16 C hP hi dd_Model_collect_42 ?_
      obtain ⟨a24, u25, hq, h⟩ := xp_seq h
      refine xk_goesI (xr_S (As := [.int (u.2.2.1 14 b1.toNatClampNeg)]) (rest := []) C hP hS (ct_Model_isReference htr hok hq) kq_Model_384 ⟨rfl, rfl, Nat.le_of_ble_eq_true rfl, Nat.le_of_ble_eq_true rfl⟩ ⟨Nat.le_of_ble_eq_true rfl, Nat.le_of_ble_eq_true rfl⟩ hl.1 rfl rfl (Nat.le_of_ble_eq_true rfl) dd_Model_collect_43) hS (fun H locs hP hS => ?_)
      clear hq
      refine lv_if_eq (tgt := 59) hx hb dd_Model_collect_46 (by decide) (fun hc => ?_) (fun hc => ?_)
      · have h := xp_t hc h
        exact wj_Model_collect_59 htr C hne hk29 h hP hS (lv_sub hl [0, 1] rfl)
      · have h := xp_f hc h
        refine lv_aload_n hx hb dd_Model_collect_49 rfl (lv_at hl 0 rfl) ?_
        refine lv_aload_n hx hb dd_Model_collect_50 rfl (lv_at hl 0 rfl) ?_
        refine gf_m_Model_0_globalValue C hP dd_Model_collect_51 ?_
        refine lv_iload_n hx hb dd_Model_collect_54 rfl (lv_at hl 1 rfl) ?_
        obtain ⟨hi, h⟩ := xp_g h
        refine al_m_30 C hP hi dd_Model_collect_55 ?_
        obtain ⟨rx, u27, hq, h⟩ := xp_seq h
        refine xk_goesV (xr_V (As := [.long (u25.2.2.2 2 b1.toNatClampNeg)]) (rest := []) C hP hS (ct_Model_mark htr hok hq) kq_Model_658 0 11 rfl rfl ⟨rfl, rfl, Nat.le_of_ble_eq_true rfl, Nat.le_of_ble_eq_true rfl⟩ ⟨Nat.le_of_ble_eq_true rfl, Nat.le_of_ble_eq_true rfl⟩ hl.1 rfl rfl (Nat.le_of_ble_eq_true rfl) dd_Model_collect_56) hS (fun H locs hP hS => ?_)
        clear hq
        exact wj_Model_collect_59 htr C hne hk29 h hP hS (lv_sub hl [0, 1] rfl)
set_option maxHeartbeats 4000000 in
set_option maxRecDepth 100000 in
theorem wj_Model_collect_7 {p : Program} {l : Launch} {e : Env} {s : State} {m : MethodId} {args : Array Value} {below : List Frame} {meth : Method} {c : Code} {D : va_G} {ad : Nat → Nat} {ca : Nat → ClassId} {ads : List Nat} {fu : Nat} (htr : l.stackTraces = false) (C : xk_C D kx_cl (kx_ty ca) (kw_m ad ca) ads "ModuleHouseModel" prog_14_method_101_code 7 none p e s m args meth c) (hne : c.exceptionTable.isEmpty = true) {u' : xk_St} {r : Unit} : ∀ {n : Nat} {b1 : Int32} {u : xk_St} {H : Heap} {locs : List Loc} {ls : Array Slot} (h : jb_Model_collect_7 fu  n b1 u = some (r, u')) (hP : va_P D kx_cl (kw_m ad ca u) H) (hS : va_S (xk_A ads s.heap.size) s.heap H locs) (hl : lv_has ls 7 [(0, .ref (ad 0)), (1, .int b1)]), W p l e rm_Model_collect s m args below meth c H locs 0 0 (xk_MQ below (xk_Qc D kx_cl (kw_m ad ca) ads (xo_v (.inl r)) u') args s (xk_A ads s.heap.size)) (F0 m 7 ls []) := by
  intro n
  have hx := C.1.1
  have hb := C.1.2.1
  have hok := C.2.2.1
  induction n with
  | zero =>
    intro _ u H locs ls h
    have h : none = some (r, u') := h
    cases h
  | succ n ih =>
    intro b1 u H locs ls h hP hS hl
    unfold jb_Model_collect_7 at h
    obtain ⟨k7, ek7, h⟩ := xp_let h
    have hk7 : ∀ (c0 : Int32) (u : xk_St) (H : Heap) (locs : List Loc) (ls : Array Slot), k7 c0 u = some (r, u') → va_P D kx_cl (kw_m ad ca u) H → va_S (xk_A ads s.heap.size) s.heap H locs → lv_has ls 7 [(0, .ref (ad 0)), (1, .int c0)] → W p l e rm_Model_collect s m args below meth c H locs 0 0 (xk_MQ below (xk_Qc D kx_cl (kw_m ad ca) ads (xo_v (.inl r)) u') args s (xk_A ads s.heap.size)) (F0 m 7 ls []) := by
      intro c0 u H locs ls h hP hS hl
      subst ek7
      exact ih h hP hS hl
    clear ih ek7
    refine lv_iload_n hx hb dd_Model_collect_7 rfl (lv_at hl 1 rfl) ?_
    refine lv_sipush (v := 2001) hx hb dd_Model_collect_8 (by decide) ?_
    refine lv_icmp_ge (tgt := 27) hx hb dd_Model_collect_11 (by decide) (fun hc => ?_) (fun hc => ?_)
    · have h := xp_t hc h
      refine lv_iconst (v := 0) hx hb dd_Model_collect_27 (by decide) ?_
      refine lv_istore_n (lv' := [(1, .int (0 : Int32)), (0, .ref (ad 0))]) hx hb dd_Model_collect_28 rfl hl (by decide) rfl (fun ls hl => ?_)
      exact wj_Model_collect_29 htr C hne h hP hS (lv_sub hl [1, 0] rfl)
    · have h := xp_f hc h
      refine lv_aload_n hx hb dd_Model_collect_14 rfl (lv_at hl 0 rfl) ?_
      refine gf_m_Model_0_marked C hP dd_Model_collect_15 ?_
      refine lv_iload_n hx hb dd_Model_collect_18 rfl (lv_at hl 1 rfl) ?_
      refine lv_iconst (v := 0) hx hb dd_Model_collect_19 (by decide) ?_
      obtain ⟨hi, h⟩ := xp_g h
      refine as_m_47 C hP hS hi dd_Model_collect_20 (fun H locs hP hS => ?_)
      obtain ⟨u28, eu28, h⟩ := xp_let h
      rw [← eu28] at hP
      obtain ⟨a29, ea29, h⟩ := xp_let h
      refine lv_iinc (v := a29) (lv' := [(1, .int a29), (0, .ref (ad 0))]) hx hb dd_Model_collect_21 hl (k := 1) rfl (by rw [ea29]; first | rfl | decide) (by decide) rfl (fun ls hl => ?_)
      refine lv_goto (tgt := 7) hx hb dd_Model_collect_24 (by decide) ?_
      exact hk7 a29 u28 _ _ _ h hP hS (lv_sub hl [1, 0] rfl)
set_option maxHeartbeats 4000000 in
set_option maxRecDepth 100000 in
theorem ct_Model_collect {l : Launch} {D : va_G} {ad : Nat → Nat} {ca : Nat → ClassId} {ads : List Nat} (htr : l.stackTraces = false) (hok : xk_ok (kw_m ad ca) ads) {fu : Nat} {u u' : xk_St} {r : Unit} (h : fm_Model_collect fu u = some (r, u')) :
    ∀ sz, xk_Met l ⟨"ModuleHouseModel", "collect", "()V"⟩ (Cond.code ⟨"ModuleHouseModel", "collect", "()V"⟩ prog_14_method_101_code 7 none :: xk_gd) rm_Model_collect (xk_Pc D kx_cl (kx_ty ca) (kw_m ad ca) ads xk_F sz [.ref (ad 0)] u) (xk_Qc D kx_cl (kw_m ad ca) ads (xo_v (.inl r)) u') (xk_A ads sz) := by
  unfold fm_Model_collect at h
  refine xk_con (by decide) htr hok (Nat.le_of_ble_eq_true rfl) (fun p e s m below meth c ls C hne hl hP => ?_)
  have hx := C.1.1
  have hb := C.1.2.1
  have hS : va_S (xk_A ads s.heap.size) s.heap s.heap [] := va_S.rf
  have hl : lv_has ls 7 [(0, .ref (ad 0))] := hl
  refine lv_aload_n hx hb dd_Model_collect_0 rfl (lv_at hl 0 rfl) ?_
  refine lv_iconst (v := 0) hx hb dd_Model_collect_1 (by decide) ?_
  refine pf_m_Model_0_piled C hP hS dd_Model_collect_2 (fun H locs hP hS => ?_)
  obtain ⟨u1, eu1, h⟩ := xp_let h
  rw [← eu1] at hP
  refine lv_iconst (v := 0) hx hb dd_Model_collect_5 (by decide) ?_
  refine lv_istore_n (lv' := [(1, .int (0 : Int32)), (0, .ref (ad 0))]) hx hb dd_Model_collect_6 rfl hl (by decide) rfl (fun ls hl => ?_)
  exact wj_Model_collect_7 htr C hne h hP hS (lv_sub hl [1, 0] rfl)
abbrev rm_Model_made : Room := { frames := 3, cells := 1, slots := 6, locals := 49 }
noncomputable def jb_Model_made_113 (fu : Nat) : Nat → Int64 → Int32 → Int32 → xk_St → Option (Int64 × xk_St)
  | 0 => fun _ _ _ _ => none
  | n + 1 => fun b2 b4 b5 u =>
    xs_let (jb_Model_made_113 fu  n) fun k113 =>
    if b2 ≤ (b5.toInt64) then ((xs_let (xs_I u 32 ((u.1 32) + ((1 : Int32) + (b2.toInt32)))) fun u6 => if (u6.1 34) < 0 ∨ 2001 ≤ (u6.1 34).toNatClampNeg then none else xs_let (xs_A u6 42 (u6.1 34).toNatClampNeg b4) fun u7 => xs_let (xs_I u7 34 ((u7.1 34) + (1 : Int32))) fun u8 => some ((((2 : Int64) * (b4.toInt64)) + (2 : Int64)), u8))) else ((if (((u.1 32) + (1 : Int32)) + b5) < 0 ∨ 2001 ≤ (((u.1 32) + (1 : Int32)) + b5).toNatClampNeg then none else xs_let (xs_B u 5 (((u.1 32) + (1 : Int32)) + b5).toNatClampNeg (0 : Int64)) fun u9 => xs_let (b5 + (1 : Int32)) fun a10 => k113 b2 b4 a10 u9))
noncomputable def jb_Model_made_63 (fu : Nat) : Nat → Int32 → Int64 → Int32 → xk_St → Option (Int64 × xk_St)
  | 0 => fun _ _ _ _ => none
  | n + 1 => fun b1 b2 b4 u =>
    xs_let (jb_Model_made_63 fu  n) fun k63 =>
    (if b4 < 0 ∨ 2001 ≤ b4.toNatClampNeg then none else if (u.2.2.1 38 b4.toNatClampNeg) = (-1 : Int32) then ((if b4 < 0 ∨ 2001 ≤ b4.toNatClampNeg then none else xs_let (xs_A u 37 b4.toNatClampNeg ((u.1 32) + (1 : Int32))) fun u3 => if b4 < 0 ∨ 2001 ≤ b4.toNatClampNeg then none else xs_let (xs_A u3 38 b4.toNatClampNeg (b2.toInt32)) fun u4 => if b4 < 0 ∨ 2001 ≤ b4.toNatClampNeg then none else xs_let (xs_A u4 39 b4.toNatClampNeg b1) fun u5 => jb_Model_made_113 fu fu b2 b4 (0 : Int32) u5)) else ((xs_let (b4 + (1 : Int32)) fun a11 => k63 b1 b2 a11 u)))
noncomputable def jb_Model_made_28 (fu : Nat) (b1 : Int32) (b2 : Int64) (u : xk_St) : Option (Int64 × xk_St) :=
  if (2000 : Int64) < b2 then ((xs_let (xs_I u 29 (11 : Int32)) fun u2 => some ((0 : Int64), u2))) else (if ((((u.1 32).toInt64) + (1 : Int64)) + b2) ≤ (2000 : Int64) then (jb_Model_made_63 fu fu b1 b2 (0 : Int32) u) else ((xs_let (xs_I u 29 (11 : Int32)) fun u12 => some ((0 : Int64), u12))))
noncomputable def jb_Model_made_24 (fu : Nat) (b1 : Int32) (b2 : Int64) (u : xk_St) : Option (Int64 × xk_St) :=
  (xs_seq (fm_Model_collect fu u) fun _ u1 => jb_Model_made_28 fu b1 b2 u1)
noncomputable def fm_Model_made (fu : Nat) (x0 : Int32) (x1 : Int64) (u : xk_St) : Option (Int64 × xk_St) :=
  if (2000 : Int64) < x1 then (jb_Model_made_24 fu x0 x1 u) else (if ((((u.1 32).toInt64) + (1 : Int64)) + x1) ≤ (2000 : Int64) then (jb_Model_made_28 fu x0 x1 u) else (jb_Model_made_24 fu x0 x1 u))
set_option maxHeartbeats 4000000 in
set_option maxRecDepth 100000 in
theorem wj_Model_made_113 {p : Program} {l : Launch} {e : Env} {s : State} {m : MethodId} {args : Array Value} {below : List Frame} {meth : Method} {c : Code} {D : va_G} {ad : Nat → Nat} {ca : Nat → ClassId} {ads : List Nat} {fu : Nat} (htr : l.stackTraces = false) (C : xk_C D kx_cl (kx_ty ca) (kw_m ad ca) ads "ModuleHouseModel" prog_14_method_102_code 6 (some .long) p e s m args meth c) (hne : c.exceptionTable.isEmpty = true) {u' : xk_St} {r : Int64} : ∀ {n : Nat} {b2 : Int64} {b4 : Int32} {b5 : Int32} {u : xk_St} {H : Heap} {locs : List Loc} {ls : Array Slot} (h : jb_Model_made_113 fu  n b2 b4 b5 u = some (r, u')) (hP : va_P D kx_cl (kw_m ad ca u) H) (hS : va_S (xk_A ads s.heap.size) s.heap H locs) (hl : lv_has ls 6 [(0, .ref (ad 0)), (2, .long b2), (4, .int b4), (5, .int b5)]), W p l e rm_Model_made s m args below meth c H locs 0 0 (xk_MQ below (xk_Qc D kx_cl (kw_m ad ca) ads (xo_l (.inl r)) u') args s (xk_A ads s.heap.size)) (F0 m 113 ls []) := by
  intro n
  have hx := C.1.1
  have hb := C.1.2.1
  have hok := C.2.2.1
  induction n with
  | zero =>
    intro _ _ _ u H locs ls h
    have h : none = some (r, u') := h
    cases h
  | succ n ih =>
    intro b2 b4 b5 u H locs ls h hP hS hl
    unfold jb_Model_made_113 at h
    obtain ⟨k113, ek113, h⟩ := xp_let h
    have hk113 : ∀ (c0 : Int64) (c1 : Int32) (c2 : Int32) (u : xk_St) (H : Heap) (locs : List Loc) (ls : Array Slot), k113 c0 c1 c2 u = some (r, u') → va_P D kx_cl (kw_m ad ca u) H → va_S (xk_A ads s.heap.size) s.heap H locs → lv_has ls 6 [(0, .ref (ad 0)), (2, .long c0), (4, .int c1), (5, .int c2)] → W p l e rm_Model_made s m args below meth c H locs 0 0 (xk_MQ below (xk_Qc D kx_cl (kw_m ad ca) ads (xo_l (.inl r)) u') args s (xk_A ads s.heap.size)) (F0 m 113 ls []) := by
      intro c0 c1 c2 u H locs ls h hP hS hl
      subst ek113
      exact ih h hP hS hl
    clear ih ek113
    refine lv_iload hx hb dd_Model_made_113 (lv_at hl 3 rfl) ?_
    refine lv_i2l hx hb dd_Model_made_115 rfl ?_
    refine lv_lload_n hx hb dd_Model_made_116 rfl (lv_at hl 1 rfl) ?_
    refine xr_lc_ge (tgt := 142) hx hb dd_Model_made_117 dd_Model_made_118 (by decide) (fun hc => ?_) (fun hc => ?_)
    · have h := xp_t hc h
      refine lv_aload_n hx hb dd_Model_made_142 rfl (lv_at hl 0 rfl) ?_
      refine lv_dup hx hb dd_Model_made_143 rfl ?_
      refine gf_m_Model_0_heap C hP dd_Model_made_144 ?_
      refine lv_iconst (v := 1) hx hb dd_Model_made_147 (by decide) ?_
      refine lv_lload_n hx hb dd_Model_made_148 rfl (lv_at hl 1 rfl) ?_
      refine lv_l2i hx hb dd_Model_made_149 rfl ?_
      refine lv_iadd hx hb dd_Model_made_150 ?_
      refine lv_iadd hx hb dd_Model_made_151 ?_
      refine pf_m_Model_0_heap C hP hS dd_Model_made_152 (fun H locs hP hS => ?_)
      obtain ⟨u6, eu6, h⟩ := xp_let h
      rw [← eu6] at hP
      refine lv_aload_n hx hb dd_Model_made_155 rfl (lv_at hl 0 rfl) ?_
      refine gf_m_Model_0_order C hP dd_Model_made_156 ?_
      refine lv_aload_n hx hb dd_Model_made_159 rfl (lv_at hl 0 rfl) ?_
      refine gf_m_Model_0_objects C hP dd_Model_made_160 ?_
      refine lv_iload hx hb dd_Model_made_163 (lv_at hl 2 rfl) ?_
      obtain ⟨hi, h⟩ := xp_g h
      refine as_m_49 C hP hS hi dd_Model_made_165 (fun H locs hP hS => ?_)
      obtain ⟨u7, eu7, h⟩ := xp_let h
      rw [← eu7] at hP
      refine lv_aload_n hx hb dd_Model_made_166 rfl (lv_at hl 0 rfl) ?_
      refine lv_dup hx hb dd_Model_made_167 rfl ?_
      refine gf_m_Model_0_objects C hP dd_Model_made_168 ?_
      refine lv_iconst (v := 1) hx hb dd_Model_made_171 (by decide) ?_
      refine lv_iadd hx hb dd_Model_made_172 ?_
      refine pf_m_Model_0_objects C hP hS dd_Model_made_173 (fun H locs hP hS => ?_)
      obtain ⟨u8, eu8, h⟩ := xp_let h
      rw [← eu8] at hP
      refine lv_ldc2 (v := 2) hx hb C.1.2.2.2.1 (C.1.2.2.2.2 _ (xk_c9 (w := Jvm.Cond.constantLong "ModuleHouseModel" 283 2) 200 rfl rfl)) dd_Model_made_176 ?_
      refine lv_iload hx hb dd_Model_made_179 (lv_at hl 2 rfl) ?_
      refine lv_i2l hx hb dd_Model_made_181 rfl ?_
      refine lv_lmul hx hb dd_Model_made_182 ?_
      refine lv_ldc2 (v := 2) hx hb C.1.2.2.2.1 (C.1.2.2.2.2 _ (xk_c9 (w := Jvm.Cond.constantLong "ModuleHouseModel" 283 2) 200 rfl rfl)) dd_Model_made_183 ?_
      refine lv_ladd hx hb dd_Model_made_186 ?_
      obtain ⟨rfl, rfl⟩ := xp_r h
      exact xr_lret C hP hS dd_Model_made_187
    · have h := xp_f hc h
      refine lv_aload_n hx hb dd_Model_made_121 rfl (lv_at hl 0 rfl) ?_
      refine gf_m_Model_0_cells C hP dd_Model_made_122 ?_
      refine lv_aload_n hx hb dd_Model_made_125 rfl (lv_at hl 0 rfl) ?_
      refine gf_m_Model_0_heap C hP dd_Model_made_126 ?_
      refine lv_iconst (v := 1) hx hb dd_Model_made_129 (by decide) ?_
      refine lv_iadd hx hb dd_Model_made_130 ?_
      refine lv_iload hx hb dd_Model_made_131 (lv_at hl 3 rfl) ?_
      refine lv_iadd hx hb dd_Model_made_133 ?_
      refine lv_lconst (v := 0) hx hb dd_Model_made_134 (by decide) ?_
      obtain ⟨hi, h⟩ := xp_g h
      refine as_m_43 C hP hS hi dd_Model_made_135 (fun H locs hP hS => ?_)
      obtain ⟨u9, eu9, h⟩ := xp_let h
      rw [← eu9] at hP
      obtain ⟨a10, ea10, h⟩ := xp_let h
      refine lv_iinc (v := a10) (lv' := [(5, .int a10), (0, .ref (ad 0)), (2, .long b2), (4, .int b4)]) hx hb dd_Model_made_136 hl (k := 3) rfl (by rw [ea10]; first | rfl | decide) (by decide) rfl (fun ls hl => ?_)
      refine lv_goto (tgt := 113) hx hb dd_Model_made_139 (by decide) ?_
      exact hk113 b2 b4 a10 u9 _ _ _ h hP hS (lv_sub hl [1, 2, 3, 0] rfl)
set_option maxHeartbeats 4000000 in
set_option maxRecDepth 100000 in
theorem wj_Model_made_63 {p : Program} {l : Launch} {e : Env} {s : State} {m : MethodId} {args : Array Value} {below : List Frame} {meth : Method} {c : Code} {D : va_G} {ad : Nat → Nat} {ca : Nat → ClassId} {ads : List Nat} {fu : Nat} (htr : l.stackTraces = false) (C : xk_C D kx_cl (kx_ty ca) (kw_m ad ca) ads "ModuleHouseModel" prog_14_method_102_code 6 (some .long) p e s m args meth c) (hne : c.exceptionTable.isEmpty = true) {u' : xk_St} {r : Int64} : ∀ {n : Nat} {b1 : Int32} {b2 : Int64} {b4 : Int32} {u : xk_St} {H : Heap} {locs : List Loc} {ls : Array Slot} (h : jb_Model_made_63 fu  n b1 b2 b4 u = some (r, u')) (hP : va_P D kx_cl (kw_m ad ca u) H) (hS : va_S (xk_A ads s.heap.size) s.heap H locs) (hl : lv_has ls 6 [(0, .ref (ad 0)), (1, .int b1), (2, .long b2), (4, .int b4)]), W p l e rm_Model_made s m args below meth c H locs 0 0 (xk_MQ below (xk_Qc D kx_cl (kw_m ad ca) ads (xo_l (.inl r)) u') args s (xk_A ads s.heap.size)) (F0 m 63 ls []) := by
  intro n
  have hx := C.1.1
  have hb := C.1.2.1
  have hok := C.2.2.1
  induction n with
  | zero =>
    intro _ _ _ u H locs ls h
    have h : none = some (r, u') := h
    cases h
  | succ n ih =>
    intro b1 b2 b4 u H locs ls h hP hS hl
    unfold jb_Model_made_63 at h
    obtain ⟨k63, ek63, h⟩ := xp_let h
    have hk63 : ∀ (c0 : Int32) (c1 : Int64) (c2 : Int32) (u : xk_St) (H : Heap) (locs : List Loc) (ls : Array Slot), k63 c0 c1 c2 u = some (r, u') → va_P D kx_cl (kw_m ad ca u) H → va_S (xk_A ads s.heap.size) s.heap H locs → lv_has ls 6 [(0, .ref (ad 0)), (1, .int c0), (2, .long c1), (4, .int c2)] → W p l e rm_Model_made s m args below meth c H locs 0 0 (xk_MQ below (xk_Qc D kx_cl (kw_m ad ca) ads (xo_l (.inl r)) u') args s (xk_A ads s.heap.size)) (F0 m 63 ls []) := by
      intro c0 c1 c2 u H locs ls h hP hS hl
      subst ek63
      exact ih h hP hS hl
    clear ih ek63
    refine lv_aload_n hx hb dd_Model_made_63 rfl (lv_at hl 0 rfl) ?_
    refine gf_m_Model_0_objectSize C hP dd_Model_made_64 ?_
    refine lv_iload hx hb dd_Model_made_67 (lv_at hl 3 rfl) ?_
    obtain ⟨hi, h⟩ := xp_g h
    refine al_m_45 C hP hi dd_Model_made_69 ?_
    refine lv_iconst (v := (-1)) hx hb dd_Model_made_70 (by decide) ?_
    refine lv_icmp_eq (tgt := 80) hx hb dd_Model_made_71 (by decide) (fun hc => ?_) (fun hc => ?_)
    · have h := xp_t hc h
      refine lv_aload_n hx hb dd_Model_made_80 rfl (lv_at hl 0 rfl) ?_
      refine gf_m_Model_0_objectAt C hP dd_Model_made_81 ?_
      refine lv_iload hx hb dd_Model_made_84 (lv_at hl 3 rfl) ?_
      refine lv_aload_n hx hb dd_Model_made_86 rfl (lv_at hl 0 rfl) ?_
      refine gf_m_Model_0_heap C hP dd_Model_made_87 ?_
      refine lv_iconst (v := 1) hx hb dd_Model_made_90 (by decide) ?_
      refine lv_iadd hx hb dd_Model_made_91 ?_
      obtain ⟨hi, h⟩ := xp_g h
      refine as_m_44 C hP hS hi dd_Model_made_92 (fun H locs hP hS => ?_)
      obtain ⟨u3, eu3, h⟩ := xp_let h
      rw [← eu3] at hP
      refine lv_aload_n hx hb dd_Model_made_93 rfl (lv_at hl 0 rfl) ?_
      refine gf_m_Model_0_objectSize C hP dd_Model_made_94 ?_
      refine lv_iload hx hb dd_Model_made_97 (lv_at hl 3 rfl) ?_
      refine lv_lload_n hx hb dd_Model_made_99 rfl (lv_at hl 2 rfl) ?_
      refine lv_l2i hx hb dd_Model_made_100 rfl ?_
      obtain ⟨hi, h⟩ := xp_g h
      refine as_m_45 C hP hS hi dd_Model_made_101 (fun H locs hP hS => ?_)
      obtain ⟨u4, eu4, h⟩ := xp_let h
      rw [← eu4] at hP
      refine lv_aload_n hx hb dd_Model_made_102 rfl (lv_at hl 0 rfl) ?_
      refine gf_m_Model_0_objectOf C hP dd_Model_made_103 ?_
      refine lv_iload hx hb dd_Model_made_106 (lv_at hl 3 rfl) ?_
      refine lv_iload_n hx hb dd_Model_made_108 rfl (lv_at hl 1 rfl) ?_
      obtain ⟨hi, h⟩ := xp_g h
      refine as_m_46 C hP hS hi dd_Model_made_109 (fun H locs hP hS => ?_)
      obtain ⟨u5, eu5, h⟩ := xp_let h
      rw [← eu5] at hP
      refine lv_iconst (v := 0) hx hb dd_Model_made_110 (by decide) ?_
      refine lv_istore (lv' := [(5, .int (0 : Int32)), (0, .ref (ad 0)), (1, .int b1), (2, .long b2), (4, .int b4)]) hx hb dd_Model_made_111 hl (by decide) rfl (fun ls hl => ?_)
      exact wj_Model_made_113 htr C hne h hP hS (lv_sub hl [1, 3, 4, 0] rfl)
    · have h := xp_f hc h
      obtain ⟨a11, ea11, h⟩ := xp_let h
      refine lv_iinc (v := a11) (lv' := [(4, .int a11), (0, .ref (ad 0)), (1, .int b1), (2, .long b2)]) hx hb dd_Model_made_74 hl (k := 3) rfl (by rw [ea11]; first | rfl | decide) (by decide) rfl (fun ls hl => ?_)
      refine lv_goto (tgt := 63) hx hb dd_Model_made_77 (by decide) ?_
      exact hk63 b1 b2 a11 u _ _ _ h hP hS (lv_sub hl [1, 2, 3, 0] rfl)
set_option maxHeartbeats 4000000 in
set_option maxRecDepth 100000 in
theorem wj_Model_made_28 {p : Program} {l : Launch} {e : Env} {s : State} {m : MethodId} {args : Array Value} {below : List Frame} {meth : Method} {c : Code} {D : va_G} {ad : Nat → Nat} {ca : Nat → ClassId} {ads : List Nat} {fu : Nat} (htr : l.stackTraces = false) (C : xk_C D kx_cl (kx_ty ca) (kw_m ad ca) ads "ModuleHouseModel" prog_14_method_102_code 6 (some .long) p e s m args meth c) (hne : c.exceptionTable.isEmpty = true) {u' : xk_St} {r : Int64} {b1 : Int32} {b2 : Int64} {u : xk_St} {H : Heap} {locs : List Loc} {ls : Array Slot} (h : jb_Model_made_28 fu  b1 b2 u = some (r, u')) (hP : va_P D kx_cl (kw_m ad ca u) H) (hS : va_S (xk_A ads s.heap.size) s.heap H locs) (hl : lv_has ls 6 [(0, .ref (ad 0)), (1, .int b1), (2, .long b2)]) : W p l e rm_Model_made s m args below meth c H locs 0 0 (xk_MQ below (xk_Qc D kx_cl (kw_m ad ca) ads (xo_l (.inl r)) u') args s (xk_A ads s.heap.size)) (F0 m 28 ls []) := by
  have hx := C.1.1
  have hb := C.1.2.1
  have hok := C.2.2.1
  unfold jb_Model_made_28 at h
  refine lv_lload_n hx hb dd_Model_made_28 rfl (lv_at hl 2 rfl) ?_
  refine lv_ldc2 (v := 2000) hx hb C.1.2.2.2.1 (C.1.2.2.2.2 _ (xk_c11 (w := Jvm.Cond.constantLong "ModuleHouseModel" 668 2000) 131 rfl rfl)) dd_Model_made_29 ?_
  refine xr_lc_gt (tgt := 52) hx hb dd_Model_made_32 dd_Model_made_33 (by decide) (fun hc => ?_) (fun hc => ?_)
  · have h := xp_t hc h
    refine lv_aload_n hx hb dd_Model_made_52 rfl (lv_at hl 0 rfl) ?_
    refine lv_bipush (v := 11) hx hb dd_Model_made_53 (by decide) ?_
    refine pf_m_Model_0_trap C hP hS dd_Model_made_55 (fun H locs hP hS => ?_)
    obtain ⟨u2, eu2, h⟩ := xp_let h
    rw [← eu2] at hP
    refine lv_lconst (v := 0) hx hb dd_Model_made_58 (by decide) ?_
    obtain ⟨rfl, rfl⟩ := xp_r h
    exact xr_lret C hP hS dd_Model_made_59
  · have h := xp_f hc h
    refine lv_aload_n hx hb dd_Model_made_36 rfl (lv_at hl 0 rfl) ?_
    refine gf_m_Model_0_heap C hP dd_Model_made_37 ?_
    refine lv_i2l hx hb dd_Model_made_40 rfl ?_
    refine lv_lconst (v := 1) hx hb dd_Model_made_41 (by decide) ?_
    refine lv_ladd hx hb dd_Model_made_42 ?_
    refine lv_lload_n hx hb dd_Model_made_43 rfl (lv_at hl 2 rfl) ?_
    refine lv_ladd hx hb dd_Model_made_44 ?_
    refine lv_ldc2 (v := 2000) hx hb C.1.2.2.2.1 (C.1.2.2.2.2 _ (xk_c11 (w := Jvm.Cond.constantLong "ModuleHouseModel" 668 2000) 131 rfl rfl)) dd_Model_made_45 ?_
    refine xr_lc_le (tgt := 60) hx hb dd_Model_made_48 dd_Model_made_49 (by decide) (fun hc => ?_) (fun hc => ?_)
    · have h := xp_t hc h
      refine lv_iconst (v := 0) hx hb dd_Model_made_60 (by decide) ?_
      refine lv_istore (lv' := [(4, .int (0 : Int32)), (0, .ref (ad 0)), (1, .int b1), (2, .long b2)]) hx hb dd_Model_made_61 hl (by decide) rfl (fun ls hl => ?_)
      exact wj_Model_made_63 htr C hne h hP hS (lv_sub hl [1, 2, 3, 0] rfl)
    · have h := xp_f hc h
      refine lv_aload_n hx hb dd_Model_made_52 rfl (lv_at hl 0 rfl) ?_
      refine lv_bipush (v := 11) hx hb dd_Model_made_53 (by decide) ?_
      refine pf_m_Model_0_trap C hP hS dd_Model_made_55 (fun H locs hP hS => ?_)
      obtain ⟨u12, eu12, h⟩ := xp_let h
      rw [← eu12] at hP
      refine lv_lconst (v := 0) hx hb dd_Model_made_58 (by decide) ?_
      obtain ⟨rfl, rfl⟩ := xp_r h
      exact xr_lret C hP hS dd_Model_made_59
set_option maxHeartbeats 4000000 in
set_option maxRecDepth 100000 in
theorem wj_Model_made_24 {p : Program} {l : Launch} {e : Env} {s : State} {m : MethodId} {args : Array Value} {below : List Frame} {meth : Method} {c : Code} {D : va_G} {ad : Nat → Nat} {ca : Nat → ClassId} {ads : List Nat} {fu : Nat} (htr : l.stackTraces = false) (C : xk_C D kx_cl (kx_ty ca) (kw_m ad ca) ads "ModuleHouseModel" prog_14_method_102_code 6 (some .long) p e s m args meth c) (hne : c.exceptionTable.isEmpty = true) {u' : xk_St} {r : Int64} {b1 : Int32} {b2 : Int64} {u : xk_St} {H : Heap} {locs : List Loc} {ls : Array Slot} (h : jb_Model_made_24 fu  b1 b2 u = some (r, u')) (hP : va_P D kx_cl (kw_m ad ca u) H) (hS : va_S (xk_A ads s.heap.size) s.heap H locs) (hl : lv_has ls 6 [(0, .ref (ad 0)), (1, .int b1), (2, .long b2)]) : W p l e rm_Model_made s m args below meth c H locs 0 0 (xk_MQ below (xk_Qc D kx_cl (kw_m ad ca) ads (xo_l (.inl r)) u') args s (xk_A ads s.heap.size)) (F0 m 24 ls []) := by
  have hx := C.1.1
  have hb := C.1.2.1
  have hok := C.2.2.1
  unfold jb_Model_made_24 at h
  refine lv_aload_n hx hb dd_Model_made_24 rfl (lv_at hl 0 rfl) ?_
  obtain ⟨rx, u1, hq, h⟩ := xp_seq h
  refine xk_goesV (xr_V (As := []) (rest := []) C hP hS (ct_Model_collect htr hok hq) kq_Model_670 0 11 rfl rfl ⟨rfl, rfl, Nat.le_of_ble_eq_true rfl, Nat.le_of_ble_eq_true rfl⟩ ⟨Nat.le_of_ble_eq_true rfl, Nat.le_of_ble_eq_true rfl⟩ hl.1 rfl rfl (Nat.le_of_ble_eq_true rfl) dd_Model_made_25) hS (fun H locs hP hS => ?_)
  clear hq
  exact wj_Model_made_28 htr C hne h hP hS (lv_sub hl [0, 1, 2] rfl)
set_option maxHeartbeats 4000000 in
set_option maxRecDepth 100000 in
theorem ct_Model_made {l : Launch} {D : va_G} {ad : Nat → Nat} {ca : Nat → ClassId} {ads : List Nat} (htr : l.stackTraces = false) (hok : xk_ok (kw_m ad ca) ads) {fu : Nat} {x0 : Int32} {x1 : Int64} {u u' : xk_St} {r : Int64} (h : fm_Model_made fu x0 x1 u = some (r, u')) :
    ∀ sz, xk_Met l ⟨"ModuleHouseModel", "made", "(IJ)J"⟩ (Cond.code ⟨"ModuleHouseModel", "made", "(IJ)J"⟩ prog_14_method_102_code 6 (some .long) :: xk_gd) rm_Model_made (xk_Pc D kx_cl (kx_ty ca) (kw_m ad ca) ads xk_F sz [.ref (ad 0), .int x0, .long x1] u) (xk_Qc D kx_cl (kw_m ad ca) ads (xo_l (.inl r)) u') (xk_A ads sz) := by
  unfold fm_Model_made at h
  refine xk_con (by decide) htr hok (Nat.le_of_ble_eq_true rfl) (fun p e s m below meth c ls C hne hl hP => ?_)
  have hx := C.1.1
  have hb := C.1.2.1
  have hS : va_S (xk_A ads s.heap.size) s.heap s.heap [] := va_S.rf
  have hl : lv_has ls 6 [(0, .ref (ad 0)), (1, .int x0), (2, .long x1)] := hl
  refine lv_lload_n hx hb dd_Model_made_0 rfl (lv_at hl 2 rfl) ?_
  refine lv_ldc2 (v := 2000) hx hb C.1.2.2.2.1 (C.1.2.2.2.2 _ (xk_c11 (w := Jvm.Cond.constantLong "ModuleHouseModel" 668 2000) 131 rfl rfl)) dd_Model_made_1 ?_
  refine xr_lc_gt (tgt := 24) hx hb dd_Model_made_4 dd_Model_made_5 (by decide) (fun hc => ?_) (fun hc => ?_)
  · have h := xp_t hc h
    exact wj_Model_made_24 htr C hne h hP hS (lv_sub hl [0, 1, 2] rfl)
  · have h := xp_f hc h
    refine lv_aload_n hx hb dd_Model_made_8 rfl (lv_at hl 0 rfl) ?_
    refine gf_m_Model_0_heap C hP dd_Model_made_9 ?_
    refine lv_i2l hx hb dd_Model_made_12 rfl ?_
    refine lv_lconst (v := 1) hx hb dd_Model_made_13 (by decide) ?_
    refine lv_ladd hx hb dd_Model_made_14 ?_
    refine lv_lload_n hx hb dd_Model_made_15 rfl (lv_at hl 2 rfl) ?_
    refine lv_ladd hx hb dd_Model_made_16 ?_
    refine lv_ldc2 (v := 2000) hx hb C.1.2.2.2.1 (C.1.2.2.2.2 _ (xk_c11 (w := Jvm.Cond.constantLong "ModuleHouseModel" 668 2000) 131 rfl rfl)) dd_Model_made_17 ?_
    refine xr_lc_le (tgt := 28) hx hb dd_Model_made_20 dd_Model_made_21 (by decide) (fun hc => ?_) (fun hc => ?_)
    · have h := xp_t hc h
      exact wj_Model_made_28 htr C hne h hP hS (lv_sub hl [0, 1, 2] rfl)
    · have h := xp_f hc h
      exact wj_Model_made_24 htr C hne h hP hS (lv_sub hl [0, 1, 2] rfl)
