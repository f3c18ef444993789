abbrev rm_Reader_readTables : Room := { frames := 9, cells := 1, slots := 6, locals := 167 }
noncomputable def jb_Reader_readTables_18 (fu : Nat) : Nat → Int32 → Int32 → xk_St → Option ((Unit ⊕ Nat) × xk_St)
  | 0 => fun _ _ _ => none
  | n + 1 => fun b1 b2 u =>
    xs_let (jb_Reader_readTables_18 fu  n) fun k18 =>
    if b1 ≤ b2 then (some (.inl (()), u)) else ((xs_try (fm_Reader_expect (112 : Int32) u) fun _ u4 => xs_try (fm_Reader_readLimits fu (if (64 : Int32) < b2 then (64 : Int32) else b2) u4) fun _ u5 => xs_let (b2 + (1 : Int32)) fun a6 => k18 b1 a6 u5))
noncomputable def fm_Reader_readTables (fu : Nat) (u : xk_St) : Option ((Unit ⊕ Nat) × xk_St) :=
  (xs_try (fm_Reader_readNumber fu u) fun a1 u2 => xs_let (xs_I u2 11 a1) fun u3 => jb_Reader_readTables_18 fu fu a1 (0 : Int32) u3)
set_option maxHeartbeats 4000000 in
set_option maxRecDepth 100000 in
theorem wj_Reader_readTables_18 {p : Program} {l : Launch} {e : Env} {s : State} {m : MethodId} {args : Array Value} {below : List Frame} {meth : Method} {c : Code} {D : va_G} {ad : Nat → Nat} {ca : Nat → ClassId} {ads : List Nat} {fu : Nat} (htr : l.stackTraces = false) (C : xk_C D kx_cl (kx_ty ca) (kw_h ad ca) ads "ModuleHouse$Reader" prog_9_method_18_code 3 none p e s m args meth c) (hne : c.exceptionTable.isEmpty = true) {u' : xk_St} {r : (Unit ⊕ Nat)} : ∀ {n : Nat} {b1 : Int32} {b2 : Int32} {u : xk_St} {H : Heap} {locs : List Loc} {ls : Array Slot} (h : jb_Reader_readTables_18 fu  n b1 b2 u = some (r, u')) (hP : va_P D kx_cl (kw_h ad ca u) H) (hS : va_S (xk_A ads s.heap.size) s.heap H locs) (hl : lv_has ls 3 [(0, .ref (ad 54)), (1, .int b1), (2, .int b2)]), W p l e rm_Reader_readTables s m args below meth c H locs 0 0 (xk_MQ below (xk_Qc D kx_cl (kw_h ad ca) ads (xo_v r) u') args s (xk_A ads s.heap.size)) (F0 m 18 ls []) := by
  intro n
  have hx := C.1.1
  have hb := C.1.2.1
  have hok := C.2.2.1
  induction n with
  | zero =>
    intro _ _ u H locs ls h
    have h : none = some (r, u') := h
    cases h
  | succ n ih =>
    intro b1 b2 u H locs ls h hP hS hl
    unfold jb_Reader_readTables_18 at h
    obtain ⟨k18, ek18, h⟩ := xp_let h
    have hk18 : ∀ (c0 : Int32) (c1 : Int32) (u : xk_St) (H : Heap) (locs : List Loc) (ls : Array Slot), k18 c0 c1 u = some (r, u') → va_P D kx_cl (kw_h ad ca u) H → va_S (xk_A ads s.heap.size) s.heap H locs → lv_has ls 3 [(0, .ref (ad 54)), (1, .int c0), (2, .int c1)] → W p l e rm_Reader_readTables s m args below meth c H locs 0 0 (xk_MQ below (xk_Qc D kx_cl (kw_h ad ca) ads (xo_v r) u') args s (xk_A ads s.heap.size)) (F0 m 18 ls []) := by
      intro c0 c1 u H locs ls h hP hS hl
      subst ek18
      exact ih h hP hS hl
    clear ih ek18
    refine lv_iload_n hx hb dd_Reader_readTables_18 rfl (lv_at hl 2 rfl) ?_
    refine lv_iload_n hx hb dd_Reader_readTables_19 rfl (lv_at hl 1 rfl) ?_
    refine lv_icmp_ge (tgt := 52) hx hb dd_Reader_readTables_20 (by decide) (fun hc => ?_) (fun hc => ?_)
    · have h := xp_t hc h
      obtain ⟨rfl, rfl⟩ := xp_r h
      exact xr_vret C hP hS dd_Reader_readTables_52
    · have h := xp_f hc h
      refine lv_aload_n hx hb dd_Reader_readTables_23 rfl (lv_at hl 0 rfl) ?_
      refine lv_bipush (v := 112) hx hb dd_Reader_readTables_24 (by decide) ?_
      rcases xp_try h with ⟨rx, u4, hq, h⟩ | ⟨kx, ux, hq, h⟩
      rotate_left
      · obtain ⟨rfl, rfl⟩ := xp_q h
        exact xk_up (xr_V (As := [.int (112 : Int32)]) (rest := []) C hP hS (ct_Reader_expect htr hok hq) kq_Reader_179 54 7 rfl rfl ⟨rfl, rfl, Nat.le_of_ble_eq_true rfl, Nat.le_of_ble_eq_true rfl⟩ ⟨Nat.le_of_ble_eq_true rfl, Nat.le_of_ble_eq_true rfl⟩ hl.1 rfl rfl (Nat.le_of_ble_eq_true rfl) dd_Reader_readTables_26) hS hne C.2.2.2.2.2.2.1
      refine xk_goesV (xr_V (As := [.int (112 : Int32)]) (rest := []) C hP hS (ct_Reader_expect htr hok hq) kq_Reader_179 54 7 rfl rfl ⟨rfl, rfl, Nat.le_of_ble_eq_true rfl, Nat.le_of_ble_eq_true rfl⟩ ⟨Nat.le_of_ble_eq_true rfl, Nat.le_of_ble_eq_true rfl⟩ hl.1 rfl rfl (Nat.le_of_ble_eq_true rfl) dd_Reader_readTables_26) hS (fun H locs hP hS => ?_)
      clear hq
      refine lv_aload_n hx hb dd_Reader_readTables_29 rfl (lv_at hl 0 rfl) ?_
      refine lv_aload_n hx hb dd_Reader_readTables_30 rfl (lv_at hl 0 rfl) ?_
      refine gf_h_Reader_54_module C hP dd_Reader_readTables_31 ?_
      refine gf_h_Reader_4_tables C hP dd_Reader_readTables_34 ?_
      refine lv_iload_n hx hb dd_Reader_readTables_37 rfl (lv_at hl 2 rfl) ?_
      refine lv_bipush (v := 64) hx hb dd_Reader_readTables_38 (by decide) ?_
      refine va_mmin hx hb (C.1.2.2.1.trans hl.1.symm) C.1.2.2.2.1 (C.1.2.2.2.2 _ (xk_c4 (w := Cond.methodLink "ModuleHouse$Reader" 139 Lib.Math.min.name) 159 rfl rfl)) (C.1.2.2.2.2 _ (xk_c3 (w := Cond.static Lib.Math.min.name) 164 rfl rfl)) (C.1.2.2.2.2 _ (xk_c1 (w := Cond.initialized "java/lang/Math") 24 rfl rfl)) (C.1.2.2.2.2 _ (xk_c3 (w := Cond.code Lib.Math.min.name Lib.Math.min.code 2 (some .int)) 165 rfl rfl)) (Nat.le_of_ble_eq_true rfl) (Nat.le_of_ble_eq_true rfl) (Nat.zero_le _) (Nat.zero_le _) dd_Reader_readTables_40 ?_
      rcases xp_try h with ⟨rx, u5, hq, h⟩ | ⟨kx, ux, hq, h⟩
      rotate_left
      · obtain ⟨rfl, rfl⟩ := xp_q h
        exact xk_up (xr_V (As := [.ref (ad 24), .int (if (64 : Int32) < b2 then (64 : Int32) else b2)]) (rest := []) C hP hS (ct_Reader_readLimits htr hok hq) kq_Reader_182 54 7 rfl rfl ⟨rfl, rfl, Nat.le_of_ble_eq_true rfl, Nat.le_of_ble_eq_true rfl⟩ ⟨Nat.le_of_ble_eq_true rfl, Nat.le_of_ble_eq_true rfl⟩ hl.1 rfl rfl (Nat.le_of_ble_eq_true rfl) dd_Reader_readTables_43) hS hne C.2.2.2.2.2.2.1
      refine xk_goesV (xr_V (As := [.ref (ad 24), .int (if (64 : Int32) < b2 then (64 : Int32) else b2)]) (rest := []) C hP hS (ct_Reader_readLimits htr hok hq) kq_Reader_182 54 7 rfl rfl ⟨rfl, rfl, Nat.le_of_ble_eq_true rfl, Nat.le_of_ble_eq_true rfl⟩ ⟨Nat.le_of_ble_eq_true rfl, Nat.le_of_ble_eq_true rfl⟩ hl.1 rfl rfl (Nat.le_of_ble_eq_true rfl) dd_Reader_readTables_43) hS (fun H locs hP hS => ?_)
      clear hq
      obtain ⟨a6, ea6, h⟩ := xp_let h
      refine lv_iinc (v := a6) (lv' := [(2, .int a6), (0, .ref (ad 54)), (1, .int b1)]) hx hb dd_Reader_readTables_46 hl (k := 2) rfl (by rw [ea6]; first | rfl | decide) (by decide) rfl (fun ls hl => ?_)
      refine lv_goto (tgt := 18) hx hb dd_Reader_readTables_49 (by decide) ?_
      exact hk18 b1 a6 u5 _ _ _ h hP hS (lv_sub hl [1, 2, 0] rfl)
set_option maxHeartbeats 4000000 in
set_option maxRecDepth 100000 in
theorem ct_Reader_readTables {l : Launch} {D : va_G} {ad : Nat → Nat} {ca : Nat → ClassId} {ads : List Nat} (htr : l.stackTraces = false) (hok : xk_ok (kw_h ad ca) ads) {fu : Nat} {u u' : xk_St} {r : (Unit ⊕ Nat)} (h : fm_Reader_readTables fu u = some (r, u')) :
    ∀ sz, xk_Met l ⟨"ModuleHouse$Reader", "readTables", "()V"⟩ (Cond.code ⟨"ModuleHouse$Reader", "readTables", "()V"⟩ prog_9_method_18_code 3 none :: xk_gd) rm_Reader_readTables (xk_Pc D kx_cl (kx_ty ca) (kw_h ad ca) ads xk_F sz [.ref (ad 54)] u) (xk_Qc D kx_cl (kw_h ad ca) ads (xo_v r) u') (xk_A ads sz) := by
  unfold fm_Reader_readTables at h
  refine xk_con (by decide) htr hok (Nat.le_of_ble_eq_true rfl) (fun p e s m below meth c ls C hne hl hP => ?_)
  have hx := C.1.1
  have hb := C.1.2.1
  have hS : va_S (xk_A ads s.heap.size) s.heap s.heap [] := va_S.rf
  have hl : lv_has ls 3 [(0, .ref (ad 54))] := hl
  refine lv_aload_n hx hb dd_Reader_readTables_0 rfl (lv_at hl 0 rfl) ?_
  rcases xp_try h with ⟨a1, u2, hq, h⟩ | ⟨kx, ux, hq, h⟩
  rotate_left
  · obtain ⟨rfl, rfl⟩ := xp_q h
    exact xk_up (xr_V (As := []) (rest := []) C hP hS (ct_Reader_readNumber htr hok hq) kq_Reader_78 54 7 rfl rfl ⟨rfl, rfl, Nat.le_of_ble_eq_true rfl, Nat.le_of_ble_eq_true rfl⟩ ⟨Nat.le_of_ble_eq_true rfl, Nat.le_of_ble_eq_true rfl⟩ hl.1 rfl rfl (Nat.le_of_ble_eq_true rfl) dd_Reader_readTables_1) hS hne C.2.2.2.2.2.2.1
  refine xk_goesI (xr_V (As := []) (rest := []) C hP hS (ct_Reader_readNumber htr hok hq) kq_Reader_78 54 7 rfl rfl ⟨rfl, rfl, Nat.le_of_ble_eq_true rfl, Nat.le_of_ble_eq_true rfl⟩ ⟨Nat.le_of_ble_eq_true rfl, Nat.le_of_ble_eq_true rfl⟩ hl.1 rfl rfl (Nat.le_of_ble_eq_true rfl) dd_Reader_readTables_1) hS (fun H locs hP hS => ?_)
  clear hq
  refine lv_istore_n (lv' := [(1, .int a1), (0, .ref (ad 54))]) hx hb dd_Reader_readTables_4 rfl hl (by decide) rfl (fun ls hl => ?_)
  refine lv_aload_n hx hb dd_Reader_readTables_5 rfl (lv_at hl 1 rfl) ?_
  refine gf_h_Reader_54_module C hP dd_Reader_readTables_6 ?_
  refine gf_h_Reader_4_tables C hP dd_Reader_readTables_9 ?_
  refine lv_iload_n hx hb dd_Reader_readTables_12 rfl (lv_at hl 0 rfl) ?_
  refine pf_h_Reader_24_count C hP hS dd_Reader_readTables_13 (fun H locs hP hS => ?_)
  obtain ⟨u3, eu3, h⟩ := xp_let h
  rw [← eu3] at hP
  refine lv_iconst (v := 0) hx hb dd_Reader_readTables_16 (by decide) ?_
  refine lv_istore_n (lv' := [(2, .int (0 : Int32)), (1, .int a1), (0, .ref (ad 54))]) hx hb dd_Reader_readTables_17 rfl hl (by decide) rfl (fun ls hl => ?_)
  exact wj_Reader_readTables_18 htr C hne h hP hS (lv_sub hl [2, 1, 0] rfl)
abbrev rm_Reader_readLimits__h54_29 : Room := { frames := 8, cells := 1, slots := 6, locals := 144 }
noncomputable def fm_Reader_readLimits__h54_29 (fu : Nat) (x1 : Int32) (u : xk_St) : Option ((Unit ⊕ Nat) × xk_St) :=
  (xs_try (fm_Reader_readFlag u) fun a1 u2 => xs_try (fm_Reader_readNumber fu u2) fun a3 u4 => if x1 < 0 ∨ 65 ≤ x1.toNatClampNeg then none else xs_let (xs_A u4 19 x1.toNatClampNeg a3) fun u5 => if a1 = (1 : Int32) then ((xs_try (fm_Reader_readNumber fu u5) fun a7 u8 => if x1 < 0 ∨ 65 ≤ x1.toNatClampNeg then none else xs_let (xs_A u8 20 x1.toNatClampNeg a7) fun u9 => some (.inl (()), u9))) else ((if x1 < 0 ∨ 65 ≤ x1.toNatClampNeg then none else xs_let (xs_A u5 20 x1.toNatClampNeg (2147483647 : Int32)) fun u6 => some (.inl (()), u6))))
set_option maxHeartbeats 4000000 in
set_option maxRecDepth 100000 in
theorem ct_Reader_readLimits__h54_29 {l : Launch} {D : va_G} {ad : Nat → Nat} {ca : Nat → ClassId} {ads : List Nat} (htr : l.stackTraces = false) (hok : xk_ok (kw_h ad ca) ads) {fu : Nat} {x1 : Int32} {u u' : xk_St} {r : (Unit ⊕ Nat)} (h : fm_Reader_readLimits__h54_29 fu x1 u = some (r, u')) :
    ∀ sz, xk_Met l ⟨"ModuleHouse$Reader", "readLimits", "(LModuleHouse$Row;I)V"⟩ (Cond.code ⟨"ModuleHouse$Reader", "readLimits", "(LModuleHouse$Row;I)V"⟩ prog_9_method_20_code 4 none :: xk_gd) rm_Reader_readLimits__h54_29 (xk_Pc D kx_cl (kx_ty ca) (kw_h ad ca) ads xk_F sz [.ref (ad 54), .ref (ad 29), .int x1] u) (xk_Qc D kx_cl (kw_h ad ca) ads (xo_v r) u') (xk_A ads sz) := by
  unfold fm_Reader_readLimits__h54_29 at h
  refine xk_con (by decide) htr hok (Nat.le_of_ble_eq_true rfl) (fun p e s m below meth c ls C hne hl hP => ?_)
  have hx := C.1.1
  have hb := C.1.2.1
  have hS : va_S (xk_A ads s.heap.size) s.heap s.heap [] := va_S.rf
  have hl : lv_has ls 4 [(0, .ref (ad 54)), (1, .ref (ad 29)), (2, .int x1)] := hl
  refine lv_aload_n hx hb dd_Reader_readLimits_0 rfl (lv_at hl 0 rfl) ?_
  rcases xp_try h with ⟨a1, u2, hq, h⟩ | ⟨kx, ux, hq, h⟩
  rotate_left
  · obtain ⟨rfl, rfl⟩ := xp_q h
    exact xk_up (xr_V (As := []) (rest := []) C hP hS (ct_Reader_readFlag htr hok hq) kq_Reader_165 54 7 rfl rfl ⟨rfl, rfl, Nat.le_of_ble_eq_true rfl, Nat.le_of_ble_eq_true rfl⟩ ⟨Nat.le_of_ble_eq_true rfl, Nat.le_of_ble_eq_true rfl⟩ hl.1 rfl rfl (Nat.le_of_ble_eq_true rfl) dd_Reader_readLimits_1) hS hne C.2.2.2.2.2.2.1
  refine xk_goesI (xr_V (As := []) (rest := []) C hP hS (ct_Reader_readFlag htr hok hq) kq_Reader_165 54 7 rfl rfl ⟨rfl, rfl, Nat.le_of_ble_eq_true rfl, Nat.le_of_ble_eq_true rfl⟩ ⟨Nat.le_of_ble_eq_true rfl, Nat.le_of_ble_eq_true rfl⟩ hl.1 rfl rfl (Nat.le_of_ble_eq_true rfl) dd_Reader_readLimits_1) hS (fun H locs hP hS => ?_)
  clear hq
  refine lv_istore_n (lv' := [(3, .int a1), (0, .ref (ad 54)), (1, .ref (ad 29)), (2, .int x1)]) hx hb dd_Reader_readLimits_4 rfl hl (by decide) rfl (fun ls hl => ?_)
  refine lv_aload_n hx hb dd_Reader_readLimits_5 rfl (lv_at hl 2 rfl) ?_
  refine gf_h_Reader_29_first C hP dd_Reader_readLimits_6 ?_
  refine lv_iload_n hx hb dd_Reader_readLimits_9 rfl (lv_at hl 3 rfl) ?_
  refine lv_aload_n hx hb dd_Reader_readLimits_10 rfl (lv_at hl 1 rfl) ?_
  rcases xp_try h with ⟨a3, u4, hq, h⟩ | ⟨kx, ux, hq, h⟩
  rotate_left
  · obtain ⟨rfl, rfl⟩ := xp_q h
    exact xk_up (xr_V (As := []) (rest := [.int x1, .ref (ad 31)]) C hP hS (ct_Reader_readNumber htr hok hq) kq_Reader_78 54 7 rfl rfl ⟨rfl, rfl, Nat.le_of_ble_eq_true rfl, Nat.le_of_ble_eq_true rfl⟩ ⟨Nat.le_of_ble_eq_true rfl, Nat.le_of_ble_eq_true rfl⟩ hl.1 rfl rfl (Nat.le_of_ble_eq_true rfl) dd_Reader_readLimits_11) hS hne C.2.2.2.2.2.2.1
  refine xk_goesI (xr_V (As := []) (rest := [.int x1, .ref (ad 31)]) C hP hS (ct_Reader_readNumber htr hok hq) kq_Reader_78 54 7 rfl rfl ⟨rfl, rfl, Nat.le_of_ble_eq_true rfl, Nat.le_of_ble_eq_true rfl⟩ ⟨Nat.le_of_ble_eq_true rfl, Nat.le_of_ble_eq_true rfl⟩ hl.1 rfl rfl (Nat.le_of_ble_eq_true rfl) dd_Reader_readLimits_11) hS (fun H locs hP hS => ?_)
  clear hq
  obtain ⟨hi, h⟩ := xp_g h
  refine as_h_31 C hP hS hi dd_Reader_readLimits_14 (fun H locs hP hS => ?_)
  obtain ⟨u5, eu5, h⟩ := xp_let h
  rw [← eu5] at hP
  refine lv_aload_n hx hb dd_Reader_readLimits_15 rfl (lv_at hl 2 rfl) ?_
  refine gf_h_Reader_29_second C hP dd_Reader_readLimits_16 ?_
  refine lv_iload_n hx hb dd_Reader_readLimits_19 rfl (lv_at hl 3 rfl) ?_
  refine lv_iload_n hx hb dd_Reader_readLimits_20 rfl (lv_at hl 0 rfl) ?_
  refine lv_iconst (v := 1) hx hb dd_Reader_readLimits_21 (by decide) ?_
  refine lv_icmp_ne (tgt := 32) hx hb dd_Reader_readLimits_22 (by decide) (fun hc => ?_) (fun hc => ?_)
  · have h := xp_f hc h
    refine lv_ldc (v := 2147483647) hx hb C.1.2.2.2.1 (C.1.2.2.2.2 _ (xk_c4 (w := Jvm.Cond.constant "ModuleHouse$Reader" 195 2147483647) 218 rfl rfl)) dd_Reader_readLimits_32 ?_
    obtain ⟨hi, h⟩ := xp_g h
    refine as_h_32 C hP hS hi dd_Reader_readLimits_34 (fun H locs hP hS => ?_)
    obtain ⟨u6, eu6, h⟩ := xp_let h
    rw [← eu6] at hP
    obtain ⟨rfl, rfl⟩ := xp_r h
    exact xr_vret C hP hS dd_Reader_readLimits_35
  · have h := xp_t hc h
    refine lv_aload_n hx hb dd_Reader_readLimits_25 rfl (lv_at hl 1 rfl) ?_
    rcases xp_try h with ⟨a7, u8, hq, h⟩ | ⟨kx, ux, hq, h⟩
    rotate_left
    · obtain ⟨rfl, rfl⟩ := xp_q h
      exact xk_up (xr_V (As := []) (rest := [.int x1, .ref (ad 32)]) C hP hS (ct_Reader_readNumber htr hok hq) kq_Reader_78 54 7 rfl rfl ⟨rfl, rfl, Nat.le_of_ble_eq_true rfl, Nat.le_of_ble_eq_true rfl⟩ ⟨Nat.le_of_ble_eq_true rfl, Nat.le_of_ble_eq_true rfl⟩ hl.1 rfl rfl (Nat.le_of_ble_eq_true rfl) dd_Reader_readLimits_26) hS hne C.2.2.2.2.2.2.1
    refine xk_goesI (xr_V (As := []) (rest := [.int x1, .ref (ad 32)]) C hP hS (ct_Reader_readNumber htr hok hq) kq_Reader_78 54 7 rfl rfl ⟨rfl, rfl, Nat.le_of_ble_eq_true rfl, Nat.le_of_ble_eq_true rfl⟩ ⟨Nat.le_of_ble_eq_true rfl, Nat.le_of_ble_eq_true rfl⟩ hl.1 rfl rfl (Nat.le_of_ble_eq_true rfl) dd_Reader_readLimits_26) hS (fun H locs hP hS => ?_)
    clear hq
    refine lv_goto (tgt := 34) hx hb dd_Reader_readLimits_29 (by decide) ?_
    obtain ⟨hi, h⟩ := xp_g h
    refine as_h_32 C hP hS hi dd_Reader_readLimits_34 (fun H locs hP hS => ?_)
    obtain ⟨u9, eu9, h⟩ := xp_let h
    rw [← eu9] at hP
    obtain ⟨rfl, rfl⟩ := xp_r h
    exact xr_vret C hP hS dd_Reader_readLimits_35
abbrev rm_Reader_readMemories : Room := { frames := 9, cells := 1, slots := 6, locals := 167 }
noncomputable def jb_Reader_readMemories_18 (fu : Nat) : Nat → Int32 → Int32 → xk_St → Option ((Unit ⊕ Nat) × xk_St)
  | 0 => fun _ _ _ => none
  | n + 1 => fun b1 b2 u =>
    xs_let (jb_Reader_readMemories_18 fu  n) fun k18 =>
    if b1 ≤ b2 then (some (.inl (()), u)) else ((xs_try (fm_Reader_readLimits__h54_29 fu (if (64 : Int32) < b2 then (64 : Int32) else b2) u) fun _ u4 => xs_let (b2 + (1 : Int32)) fun a5 => k18 b1 a5 u4))
noncomputable def fm_Reader_readMemories (fu : Nat) (u : xk_St) : Option ((Unit ⊕ Nat) × xk_St) :=
  (xs_try (fm_Reader_readNumber fu u) fun a1 u2 => xs_let (xs_I u2 12 a1) fun u3 => jb_Reader_readMemories_18 fu fu a1 (0 : Int32) u3)
set_option maxHeartbeats 4000000 in
set_option maxRecDepth 100000 in
theorem wj_Reader_readMemories_18 {p : Program} {l : Launch} {e : Env} {s : State} {m : MethodId} {args : Array Value} {below : List Frame} {meth : Method} {c : Code} {D : va_G} {ad : Nat → Nat} {ca : Nat → ClassId} {ads : List Nat} {fu : Nat} (htr : l.stackTraces = false) (C : xk_C D kx_cl (kx_ty ca) (kw_h ad ca) ads "ModuleHouse$Reader" prog_9_method_19_code 3 none p e s m args meth c) (hne : c.exceptionTable.isEmpty = true) {u' : xk_St} {r : (Unit ⊕ Nat)} : ∀ {n : Nat} {b1 : Int32} {b2 : Int32} {u : xk_St} {H : Heap} {locs : List Loc} {ls : Array Slot} (h : jb_Reader_readMemories_18 fu  n b1 b2 u = some (r, u')) (hP : va_P D kx_cl (kw_h ad ca u) H) (hS : va_S (xk_A ads s.heap.size) s.heap H locs) (hl : lv_has ls 3 [(0, .ref (ad 54)), (1, .int b1), (2, .int b2)]), W p l e rm_Reader_readMemories s m args below meth c H locs 0 0 (xk_MQ below (xk_Qc D kx_cl (kw_h ad ca) ads (xo_v r) u') args s (xk_A ads s.heap.size)) (F0 m 18 ls []) := by
  intro n
  have hx := C.1.1
  have hb := C.1.2.1
  have hok := C.2.2.1
  induction n with
  | zero =>
    intro _ _ u H locs ls h
    have h : none = some (r, u') := h
    cases h
  | succ n ih =>
    intro b1 b2 u H locs ls h hP hS hl
    unfold jb_Reader_readMemories_18 at h
    obtain ⟨k18, ek18, h⟩ := xp_let h
    have hk18 : ∀ (c0 : Int32) (c1 : Int32) (u : xk_St) (H : Heap) (locs : List Loc) (ls : Array Slot), k18 c0 c1 u = some (r, u') → va_P D kx_cl (kw_h ad ca u) H → va_S (xk_A ads s.heap.size) s.heap H locs → lv_has ls 3 [(0, .ref (ad 54)), (1, .int c0), (2, .int c1)] → W p l e rm_Reader_readMemories s m args below meth c H locs 0 0 (xk_MQ below (xk_Qc D kx_cl (kw_h ad ca) ads (xo_v r) u') args s (xk_A ads s.heap.size)) (F0 m 18 ls []) := by
      intro c0 c1 u H locs ls h hP hS hl
      subst ek18
      exact ih h hP hS hl
    clear ih ek18
    refine lv_iload_n hx hb dd_Reader_readMemories_18 rfl (lv_at hl 2 rfl) ?_
    refine lv_iload_n hx hb dd_Reader_readMemories_19 rfl (lv_at hl 1 rfl) ?_
    refine lv_icmp_ge (tgt := 46) hx hb dd_Reader_readMemories_20 (by decide) (fun hc => ?_) (fun hc => ?_)
    · have h := xp_t hc h
      obtain ⟨rfl, rfl⟩ := xp_r h
      exact xr_vret C hP hS dd_Reader_readMemories_46
    · have h := xp_f hc h
      refine lv_aload_n hx hb dd_Reader_readMemories_23 rfl (lv_at hl 0 rfl) ?_
      refine lv_aload_n hx hb dd_Reader_readMemories_24 rfl (lv_at hl 0 rfl) ?_
      refine gf_h_Reader_54_module C hP dd_Reader_readMemories_25 ?_
      refine gf_h_Reader_4_memories C hP dd_Reader_readMemories_28 ?_
      refine lv_iload_n hx hb dd_Reader_readMemories_31 rfl (lv_at hl 2 rfl) ?_
      refine lv_bipush (v := 64) hx hb dd_Reader_readMemories_32 (by decide) ?_
      refine va_mmin hx hb (C.1.2.2.1.trans hl.1.symm) C.1.2.2.2.1 (C.1.2.2.2.2 _ (xk_c4 (w := Cond.methodLink "ModuleHouse$Reader" 139 Lib.Math.min.name) 159 rfl rfl)) (C.1.2.2.2.2 _ (xk_c3 (w := Cond.static Lib.Math.min.name) 164 rfl rfl)) (C.1.2.2.2.2 _ (xk_c1 (w := Cond.initialized "java/lang/Math") 24 rfl rfl)) (C.1.2.2.2.2 _ (xk_c3 (w := Cond.code Lib.Math.min.name Lib.Math.min.code 2 (some .int)) 165 rfl rfl)) (Nat.le_of_ble_eq_true rfl) (Nat.le_of_ble_eq_true rfl) (Nat.zero_le _) (Nat.zero_le _) dd_Reader_readMemories_34 ?_
      rcases xp_try h with ⟨rx, u4, hq, h⟩ | ⟨kx, ux, hq, h⟩
      rotate_left
      · obtain ⟨rfl, rfl⟩ := xp_q h
        exact xk_up (xr_V (As := [.ref (ad 29), .int (if (64 : Int32) < b2 then (64 : Int32) else b2)]) (rest := []) C hP hS (ct_Reader_readLimits__h54_29 htr hok hq) kq_Reader_182 54 7 rfl rfl ⟨rfl, rfl, Nat.le_of_ble_eq_true rfl, Nat.le_of_ble_eq_true rfl⟩ ⟨Nat.le_of_ble_eq_true rfl, Nat.le_of_ble_eq_true rfl⟩ hl.1 rfl rfl (Nat.le_of_ble_eq_true rfl) dd_Reader_readMemories_37) hS hne C.2.2.2.2.2.2.1
      refine xk_goesV (xr_V (As := [.ref (ad 29), .int (if (64 : Int32) < b2 then (64 : Int32) else b2)]) (rest := []) C hP hS (ct_Reader_readLimits__h54_29 htr hok hq) kq_Reader_182 54 7 rfl rfl ⟨rfl, rfl, Nat.le_of_ble_eq_true rfl, Nat.le_of_ble_eq_true rfl⟩ ⟨Nat.le_of_ble_eq_true rfl, Nat.le_of_ble_eq_true rfl⟩ hl.1 rfl rfl (Nat.le_of_ble_eq_true rfl) dd_Reader_readMemories_37) hS (fun H locs hP hS => ?_)
      clear hq
      obtain ⟨a5, ea5, h⟩ := xp_let h
      refine lv_iinc (v := a5) (lv' := [(2, .int a5), (0, .ref (ad 54)), (1, .int b1)]) hx hb dd_Reader_readMemories_40 hl (k := 2) rfl (by rw [ea5]; first | rfl | decide) (by decide) rfl (fun ls hl => ?_)
      refine lv_goto (tgt := 18) hx hb dd_Reader_readMemories_43 (by decide) ?_
      exact hk18 b1 a5 u4 _ _ _ h hP hS (lv_sub hl [1, 2, 0] rfl)
set_option maxHeartbeats 4000000 in
set_option maxRecDepth 100000 in
theorem ct_Reader_readMemories {l : Launch} {D : va_G} {ad : Nat → Nat} {ca : Nat → ClassId} {ads : List Nat} (htr : l.stackTraces = false) (hok : xk_ok (kw_h ad ca) ads) {fu : Nat} {u u' : xk_St} {r : (Unit ⊕ Nat)} (h : fm_Reader_readMemories fu u = some (r, u')) :
    ∀ sz, xk_Met l ⟨"ModuleHouse$Reader", "readMemories", "()V"⟩ (Cond.code ⟨"ModuleHouse$Reader", "readMemories", "()V"⟩ prog_9_method_19_code 3 none :: xk_gd) rm_Reader_readMemories (xk_Pc D kx_cl (kx_ty ca) (kw_h ad ca) ads xk_F sz [.ref (ad 54)] u) (xk_Qc D kx_cl (kw_h ad ca) ads (xo_v r) u') (xk_A ads sz) := by
  unfold fm_Reader_readMemories at h
  refine xk_con (by decide) htr hok (Nat.le_of_ble_eq_true rfl) (fun p e s m below meth c ls C hne hl hP => ?_)
  have hx := C.1.1
  have hb := C.1.2.1
  have hS : va_S (xk_A ads s.heap.size) s.heap s.heap [] := va_S.rf
  have hl : lv_has ls 3 [(0, .ref (ad 54))] := hl
  refine lv_aload_n hx hb dd_Reader_readMemories_0 rfl (lv_at hl 0 rfl) ?_
  rcases xp_try h with ⟨a1, u2, hq, h⟩ | ⟨kx, ux, hq, h⟩
  rotate_left
  · obtain ⟨rfl, rfl⟩ := xp_q h
    exact xk_up (xr_V (As := []) (rest := []) C hP hS (ct_Reader_readNumber htr hok hq) kq_Reader_78 54 7 rfl rfl ⟨rfl, rfl, Nat.le_of_ble_eq_true rfl, Nat.le_of_ble_eq_true rfl⟩ ⟨Nat.le_of_ble_eq_true rfl, Nat.le_of_ble_eq_true rfl⟩ hl.1 rfl rfl (Nat.le_of_ble_eq_true rfl) dd_Reader_readMemories_1) hS hne C.2.2.2.2.2.2.1
  refine xk_goesI (xr_V (As := []) (rest := []) C hP hS (ct_Reader_readNumber htr hok hq) kq_Reader_78 54 7 rfl rfl ⟨rfl, rfl, Nat.le_of_ble_eq_true rfl, Nat.le_of_ble_eq_true rfl⟩ ⟨Nat.le_of_ble_eq_true rfl, Nat.le_of_ble_eq_true rfl⟩ hl.1 rfl rfl (Nat.le_of_ble_eq_true rfl) dd_Reader_readMemories_1) hS (fun H locs hP hS => ?_)
  clear hq
  refine lv_istore_n (lv' := [(1, .int a1), (0, .ref (ad 54))]) hx hb dd_Reader_readMemories_4 rfl hl (by decide) rfl (fun ls hl => ?_)
  refine lv_aload_n hx hb dd_Reader_readMemories_5 rfl (lv_at hl 1 rfl) ?_
  refine gf_h_Reader_54_module C hP dd_Reader_readMemories_6 ?_
  refine gf_h_Reader_4_memories C hP dd_Reader_readMemories_9 ?_
  refine lv_iload_n hx hb dd_Reader_readMemories_12 rfl (lv_at hl 0 rfl) ?_
  refine pf_h_Reader_29_count C hP hS dd_Reader_readMemories_13 (fun H locs hP hS => ?_)
  obtain ⟨u3, eu3, h⟩ := xp_let h
  rw [← eu3] at hP
  refine lv_iconst (v := 0) hx hb dd_Reader_readMemories_16 (by decide) ?_
  refine lv_istore_n (lv' := [(2, .int (0 : Int32)), (1, .int a1), (0, .ref (ad 54))]) hx hb dd_Reader_readMemories_17 rfl hl (by decide) rfl (fun ls hl => ?_)
  exact wj_Reader_readMemories_18 htr C hne h hP hS (lv_sub hl [2, 1, 0] rfl)
abbrev rm_Reader_readGlobals : Room := { frames := 9, cells := 1, slots := 6, locals := 171 }
noncomputable def jb_Reader_readGlobals_166 (fu : Nat) (k20 : Int32 → Int32 → xk_St → Option ((Unit ⊕ Nat) × xk_St)) (b2 : Int32) (b3 : Int32) (u : xk_St) : Option ((Unit ⊕ Nat) × xk_St) :=
  (xs_try (fm_Reader_expect (11 : Int32) u) fun _ u17 => xs_let (b3 + (1 : Int32)) fun a18 => k20 b2 a18 u17)
noncomputable def jb_Reader_readGlobals_20 (fu : Nat) : Nat → Int32 → Int32 → xk_St → Option ((Unit ⊕ Nat) × xk_St)
  | 0 => fun _ _ _ => none
  | n + 1 => fun b2 b3 u =>
    xs_let (jb_Reader_readGlobals_20 fu  n) fun k20 =>
    if b2 ≤ b3 then (some (.inl (()), u)) else ((xs_let (if (64 : Int32) < b3 then (64 : Int32) else b3) fun a4 => xs_try (fm_Reader_readValueType fu u) fun a5 u6 => if a4 < 0 ∨ 65 ≤ a4.toNatClampNeg then none else xs_let (xs_A u6 21 a4.toNatClampNeg a5) fun u7 => xs_try (fm_Reader_readFlag u7) fun a8 u9 => if a4 < 0 ∨ 65 ≤ a4.toNatClampNeg then none else xs_let (xs_A u9 22 a4.toNatClampNeg a8) fun u10 => xs_try (fm_Reader_readByte u10) fun a11 u12 => if a11 = (65 : Int32) then ((if a4 < 0 ∨ 65 ≤ a4.toNatClampNeg then none else xs_let (xs_A u12 23 a4.toNatClampNeg (1 : Int32)) fun u13 => xs_try (fm_Reader_readSigned fu (32 : Int32) u13) fun a14 u15 => if a4 < 0 ∨ 65 ≤ a4.toNatClampNeg then none else xs_let (xs_B u15 6 a4.toNatClampNeg a14) fun u16 => jb_Reader_readGlobals_166 fu k20 b2 b3 u16)) else if a11 = (66 : Int32) then ((if a4 < 0 ∨ 65 ≤ a4.toNatClampNeg then none else xs_let (xs_A u12 23 a4.toNatClampNeg (2 : Int32)) fun u19 => xs_try (fm_Reader_readSigned fu (64 : Int32) u19) fun a20 u21 => if a4 < 0 ∨ 65 ≤ a4.toNatClampNeg then none else xs_let (xs_B u21 6 a4.toNatClampNeg a20) fun u22 => jb_Reader_readGlobals_166 fu k20 b2 b3 u22)) else if a11 = (208 : Int32) then ((xs_try (fm_Reader_readTarget fu u12) fun a23 u24 => xs_seq (fm_Types_reference a23 (1 : Int32) u24) fun a25 u26 => if a4 < 0 ∨ 65 ≤ a4.toNatClampNeg then none else xs_let (xs_A u26 23 a4.toNatClampNeg a25) fun u27 => jb_Reader_readGlobals_166 fu k20 b2 b3 u27)) else (some (.inr 0, u12))))
noncomputable def fm_Reader_readGlobals (fu : Nat) (u : xk_St) : Option ((Unit ⊕ Nat) × xk_St) :=
  (xs_try (fm_Reader_readNumber fu u) fun a1 u2 => xs_let (xs_I u2 13 a1) fun u3 => jb_Reader_readGlobals_20 fu fu a1 (0 : Int32) u3)
set_option maxHeartbeats 4000000 in
set_option maxRecDepth 100000 in
theorem wj_Reader_readGlobals_166 {p : Program} {l : Launch} {e : Env} {s : State} {m : MethodId} {args : Array Value} {below : List Frame} {meth : Method} {c : Code} {D : va_G} {ad : Nat → Nat} {ca : Nat → ClassId} {ads : List Nat} {fu : Nat} (htr : l.stackTraces = false) (C : xk_C D kx_cl (kx_ty ca) (kw_h ad ca) ads "ModuleHouse$Reader" prog_9_method_21_code 5 none p e s m args meth c) (hne : c.exceptionTable.isEmpty = true) {u' : xk_St} {r : (Unit ⊕ Nat)} {k20 : Int32 → Int32 → xk_St → Option ((Unit ⊕ Nat) × xk_St)} (hk20 : ∀ (c0 : Int32) (c1 : Int32) (u : xk_St) (H : Heap) (locs : List Loc) (ls : Array Slot), k20 c0 c1 u = some (r, u') → va_P D kx_cl (kw_h ad ca u) H → va_S (xk_A ads s.heap.size) s.heap H locs → lv_has ls 5 [(0, .ref (ad 54)), (1, .ref (ad 34)), (2, .int c0), (3, .int c1)] → W p l e rm_Reader_readGlobals s m args below meth c H locs 0 0 (xk_MQ below (xk_Qc D kx_cl (kw_h ad ca) ads (xo_v r) u') args s (xk_A ads s.heap.size)) (F0 m 20 ls [])) {b2 : Int32} {b3 : Int32} {u : xk_St} {H : Heap} {locs : List Loc} {ls : Array Slot} (h : jb_Reader_readGlobals_166 fu k20 b2 b3 u = some (r, u')) (hP : va_P D kx_cl (kw_h ad ca u) H) (hS : va_S (xk_A ads s.heap.size) s.heap H locs) (hl : lv_has ls 5 [(0, .ref (ad 54)), (1, .ref (ad 34)), (2, .int b2), (3, .int b3)]) : W p l e rm_Reader_readGlobals s m args below meth c H locs 0 0 (xk_MQ below (xk_Qc D kx_cl (kw_h ad ca) ads (xo_v r) u') args s (xk_A ads s.heap.size)) (F0 m 166 ls []) := by
  have hx := C.1.1
  have hb := C.1.2.1
  have hok := C.2.2.1
  unfold jb_Reader_readGlobals_166 at h
  refine lv_aload_n hx hb dd_Reader_readGlobals_166 rfl (lv_at hl 0 rfl) ?_
  refine lv_bipush (v := 11) hx hb dd_Reader_readGlobals_167 (by decide) ?_
  rcases xp_try h with ⟨rx, u17, hq, h⟩ | ⟨kx, ux, hq, h⟩
  rotate_left
  · obtain ⟨rfl, rfl⟩ := xp_q h
    exact xk_up (xr_V (As := [.int (11 : Int32)]) (rest := []) C hP hS (ct_Reader_expect htr hok hq) kq_Reader_179 54 7 rfl rfl ⟨rfl, rfl, Nat.le_of_ble_eq_true rfl, Nat.le_of_ble_eq_true rfl⟩ ⟨Nat.le_of_ble_eq_true rfl, Nat.le_of_ble_eq_true rfl⟩ hl.1 rfl rfl (Nat.le_of_ble_eq_true rfl) dd_Reader_readGlobals_169) hS hne C.2.2.2.2.2.2.1
  refine xk_goesV (xr_V (As := [.int (11 : Int32)]) (rest := []) C hP hS (ct_Reader_expect htr hok hq) kq_Reader_179 54 7 rfl rfl ⟨rfl, rfl, Nat.le_of_ble_eq_true rfl, Nat.le_of_ble_eq_true rfl⟩ ⟨Nat.le_of_ble_eq_true rfl, Nat.le_of_ble_eq_true rfl⟩ hl.1 rfl rfl (Nat.le_of_ble_eq_true rfl) dd_Reader_readGlobals_169) hS (fun H locs hP hS => ?_)
  clear hq
  obtain ⟨a18, ea18, h⟩ := xp_let h
  refine lv_iinc (v := a18) (lv' := [(3, .int a18), (0, .ref (ad 54)), (1, .ref (ad 34)), (2, .int b2)]) hx hb dd_Reader_readGlobals_172 hl (k := 3) rfl (by rw [ea18]; first | rfl | decide) (by decide) rfl (fun ls hl => ?_)
  refine lv_goto (tgt := 20) hx hb dd_Reader_readGlobals_175 (by decide) ?_
  exact hk20 b2 a18 u17 _ _ _ h hP hS (lv_sub hl [1, 2, 3, 0] rfl)
set_option maxHeartbeats 4000000 in
set_option maxRecDepth 100000 in
theorem wj_Reader_readGlobals_20 {p : Program} {l : Launch} {e : Env} {s : State} {m : MethodId} {args : Array Value} {below : List Frame} {meth : Method} {c : Code} {D : va_G} {ad : Nat → Nat} {ca : Nat → ClassId} {ads : List Nat} {fu : Nat} (htr : l.stackTraces = false) (C : xk_C D kx_cl (kx_ty ca) (kw_h ad ca) ads "ModuleHouse$Reader" prog_9_method_21_code 5 none p e s m args meth c) (hne : c.exceptionTable.isEmpty = true) {u' : xk_St} {r : (Unit ⊕ Nat)} : ∀ {n : Nat} {b2 : Int32} {b3 : Int32} {u : xk_St} {H : Heap} {locs : List Loc} {ls : Array Slot} (h : jb_Reader_readGlobals_20 fu  n b2 b3 u = some (r, u')) (hP : va_P D kx_cl (kw_h ad ca u) H) (hS : va_S (xk_A ads s.heap.size) s.heap H locs) (hl : lv_has ls 5 [(0, .ref (ad 54)), (1, .ref (ad 34)), (2, .int b2), (3, .int b3)]), W p l e rm_Reader_readGlobals s m args below meth c H locs 0 0 (xk_MQ below (xk_Qc D kx_cl (kw_h ad ca) ads (xo_v r) u') args s (xk_A ads s.heap.size)) (F0 m 20 ls []) := by
  intro n
  have hx := C.1.1
  have hb := C.1.2.1
  have hok := C.2.2.1
  induction n with
  | zero =>
    intro _ _ u H locs ls h
    have h : none = some (r, u') := h
    cases h
  | succ n ih =>
    intro b2 b3 u H locs ls h hP hS hl
    unfold jb_Reader_readGlobals_20 at h
    obtain ⟨k20, ek20, h⟩ := xp_let h
    have hk20 : ∀ (c0 : Int32) (c1 : Int32) (u : xk_St) (H : Heap) (locs : List Loc) (ls : Array Slot), k20 c0 c1 u = some (r, u') → va_P D kx_cl (kw_h ad ca u) H → va_S (xk_A ads s.heap.size) s.heap H locs → lv_has ls 5 [(0, .ref (ad 54)), (1, .ref (ad 34)), (2, .int c0), (3, .int c1)] → W p l e rm_Reader_readGlobals s m args below meth c H locs 0 0 (xk_MQ below (xk_Qc D kx_cl (kw_h ad ca) ads (xo_v r) u') args s (xk_A ads s.heap.size)) (F0 m 20 ls []) := by
      intro c0 c1 u H locs ls h hP hS hl
      subst ek20
      exact ih h hP hS hl
    clear ih ek20
    refine lv_iload_n hx hb dd_Reader_readGlobals_20 rfl (lv_at hl 3 rfl) ?_
    refine lv_iload_n hx hb dd_Reader_readGlobals_21 rfl (lv_at hl 2 rfl) ?_
    refine lv_icmp_ge (tgt := 178) hx hb dd_Reader_readGlobals_22 (by decide) (fun hc => ?_) (fun hc => ?_)
    · have h := xp_t hc h
      obtain ⟨rfl, rfl⟩ := xp_r h
      exact xr_vret C hP hS dd_Reader_readGlobals_178
    · have h := xp_f hc h
      refine lv_iload_n hx hb dd_Reader_readGlobals_25 rfl (lv_at hl 3 rfl) ?_
      refine lv_bipush (v := 64) hx hb dd_Reader_readGlobals_26 (by decide) ?_
      refine va_mmin hx hb (C.1.2.2.1.trans hl.1.symm) C.1.2.2.2.1 (C.1.2.2.2.2 _ (xk_c4 (w := Cond.methodLink "ModuleHouse$Reader" 139 Lib.Math.min.name) 159 rfl rfl)) (C.1.2.2.2.2 _ (xk_c3 (w := Cond.static Lib.Math.min.name) 164 rfl rfl)) (C.1.2.2.2.2 _ (xk_c1 (w := Cond.initialized "java/lang/Math") 24 rfl rfl)) (C.1.2.2.2.2 _ (xk_c3 (w := Cond.code Lib.Math.min.name Lib.Math.min.code 2 (some .int)) 165 rfl rfl)) (Nat.le_of_ble_eq_true rfl) (Nat.le_of_ble_eq_true rfl) (Nat.zero_le _) (Nat.zero_le _) dd_Reader_readGlobals_28 ?_
      obtain ⟨a4, ea4, h⟩ := xp_let h
      refine xr_nami ea4 ?_
      refine lv_istore (lv' := [(4, .int a4), (0, .ref (ad 54)), (1, .ref (ad 34)), (2, .int b2), (3, .int b3)]) hx hb dd_Reader_readGlobals_31 hl (by decide) rfl (fun ls hl => ?_)
      refine lv_aload_n hx hb dd_Reader_readGlobals_33 rfl (lv_at hl 2 rfl) ?_
      refine gf_h_Reader_34_kind C hP dd_Reader_readGlobals_34 ?_
      refine lv_iload hx hb dd_Reader_readGlobals_37 (lv_at hl 0 rfl) ?_
      refine lv_aload_n hx hb dd_Reader_readGlobals_39 rfl (lv_at hl 1 rfl) ?_
      rcases xp_try h with ⟨a5, u6, hq, h⟩ | ⟨kx, ux, hq, h⟩
      rotate_left
      · obtain ⟨rfl, rfl⟩ := xp_q h
        exact xk_up (xr_V (As := []) (rest := [.int a4, .ref (ad 35)]) C hP hS (ct_Reader_readValueType htr hok hq) kq_Reader_133 54 7 rfl rfl ⟨rfl, rfl, Nat.le_of_ble_eq_true rfl, Nat.le_of_ble_eq_true rfl⟩ ⟨Nat.le_of_ble_eq_true rfl, Nat.le_of_ble_eq_true rfl⟩ hl.1 rfl rfl (Nat.le_of_ble_eq_true rfl) dd_Reader_readGlobals_40) hS hne C.2.2.2.2.2.2.1
      refine xk_goesI (xr_V (As := []) (rest := [.int a4, .ref (ad 35)]) C hP hS (ct_Reader_readValueType htr hok hq) kq_Reader_133 54 7 rfl rfl ⟨rfl, rfl, Nat.le_of_ble_eq_true rfl, Nat.le_of_ble_eq_true rfl⟩ ⟨Nat.le_of_ble_eq_true rfl, Nat.le_of_ble_eq_true rfl⟩ hl.1 rfl rfl (Nat.le_of_ble_eq_true rfl) dd_Reader_readGlobals_40) hS (fun H locs hP hS => ?_)
      clear hq
      obtain ⟨hi, h⟩ := xp_g h
      refine as_h_35 C hP hS hi dd_Reader_readGlobals_43 (fun H locs hP hS => ?_)
      obtain ⟨u7, eu7, h⟩ := xp_let h
      rw [← eu7] at hP
      refine lv_aload_n hx hb dd_Reader_readGlobals_44 rfl (lv_at hl 2 rfl) ?_
      refine gf_h_Reader_34_first C hP dd_Reader_readGlobals_45 ?_
      refine lv_iload hx hb dd_Reader_readGlobals_48 (lv_at hl 0 rfl) ?_
      refine lv_aload_n hx hb dd_Reader_readGlobals_50 rfl (lv_at hl 1 rfl) ?_
      rcases xp_try h with ⟨a8, u9, hq, h⟩ | ⟨kx, ux, hq, h⟩
      rotate_left
      · obtain ⟨rfl, rfl⟩ := xp_q h
        exact xk_up (xr_V (As := []) (rest := [.int a4, .ref (ad 36)]) C hP hS (ct_Reader_readFlag htr hok hq) kq_Reader_165 54 7 rfl rfl ⟨rfl, rfl, Nat.le_of_ble_eq_true rfl, Nat.le_of_ble_eq_true rfl⟩ ⟨Nat.le_of_ble_eq_true rfl, Nat.le_of_ble_eq_true rfl⟩ hl.1 rfl rfl (Nat.le_of_ble_eq_true rfl) dd_Reader_readGlobals_51) hS hne C.2.2.2.2.2.2.1
      refine xk_goesI (xr_V (As := []) (rest := [.int a4, .ref (ad 36)]) C hP hS (ct_Reader_readFlag htr hok hq) kq_Reader_165 54 7 rfl rfl ⟨rfl, rfl, Nat.le_of_ble_eq_true rfl, Nat.le_of_ble_eq_true rfl⟩ ⟨Nat.le_of_ble_eq_true rfl, Nat.le_of_ble_eq_true rfl⟩ hl.1 rfl rfl (Nat.le_of_ble_eq_true rfl) dd_Reader_readGlobals_51) hS (fun H locs hP hS => ?_)
      clear hq
      obtain ⟨hi, h⟩ := xp_g h
      refine as_h_36 C hP hS hi dd_Reader_readGlobals_54 (fun H locs hP hS => ?_)
      obtain ⟨u10, eu10, h⟩ := xp_let h
      rw [← eu10] at hP
      refine lv_aload_n hx hb dd_Reader_readGlobals_55 rfl (lv_at hl 1 rfl) ?_
      rcases xp_try h with ⟨a11, u12, hq, h⟩ | ⟨kx, ux, hq, h⟩
      rotate_left
      · obtain ⟨rfl, rfl⟩ := xp_q h
        exact xk_up (xr_V (As := []) (rest := []) C hP hS (ct_Reader_readByte htr hok hq) kq_Reader_49 54 7 rfl rfl ⟨rfl, rfl, Nat.le_of_ble_eq_true rfl, Nat.le_of_ble_eq_true rfl⟩ ⟨Nat.le_of_ble_eq_true rfl, Nat.le_of_ble_eq_true rfl⟩ hl.1 rfl rfl (Nat.le_of_ble_eq_true rfl) dd_Reader_readGlobals_56) hS hne C.2.2.2.2.2.2.1
      refine xk_goesI (xr_V (As := []) (rest := []) C hP hS (ct_Reader_readByte htr hok hq) kq_Reader_49 54 7 rfl rfl ⟨rfl, rfl, Nat.le_of_ble_eq_true rfl, Nat.le_of_ble_eq_true rfl⟩ ⟨Nat.le_of_ble_eq_true rfl, Nat.le_of_ble_eq_true rfl⟩ hl.1 rfl rfl (Nat.le_of_ble_eq_true rfl) dd_Reader_readGlobals_56) hS (fun H locs hP hS => ?_)
      clear hq
      by_cases hc0 : a11 = (65 : Int32)
      · have h := xp_t hc0 h
        refine lv_lookup (off := 33) (tgt := 92) hx hb dd_Reader_readGlobals_59 (by decide) (by rw [hc0]; rfl) (by decide) ?_
        refine lv_aload_n hx hb dd_Reader_readGlobals_92 rfl (lv_at hl 2 rfl) ?_
        refine gf_h_Reader_34_second C hP dd_Reader_readGlobals_93 ?_
        refine lv_iload hx hb dd_Reader_readGlobals_96 (lv_at hl 0 rfl) ?_
        refine lv_iconst (v := 1) hx hb dd_Reader_readGlobals_98 (by decide) ?_
        obtain ⟨hi, h⟩ := xp_g h
        refine as_h_37 C hP hS hi dd_Reader_readGlobals_99 (fun H locs hP hS => ?_)
        obtain ⟨u13, eu13, h⟩ := xp_let h
        rw [← eu13] at hP
        refine lv_aload_n hx hb dd_Reader_readGlobals_100 rfl (lv_at hl 2 rfl) ?_
        refine gf_h_Reader_34_number C hP dd_Reader_readGlobals_101 ?_
        refine lv_iload hx hb dd_Reader_readGlobals_104 (lv_at hl 0 rfl) ?_
        refine lv_aload_n hx hb dd_Reader_readGlobals_106 rfl (lv_at hl 1 rfl) ?_
        refine lv_bipush (v := 32) hx hb dd_Reader_readGlobals_107 (by decide) ?_
        rcases xp_try h with ⟨a14, u15, hq, h⟩ | ⟨kx, ux, hq, h⟩
        rotate_left
        · obtain ⟨rfl, rfl⟩ := xp_q h
          exact xk_up (xr_V (As := [.int (32 : Int32)]) (rest := [.int a4, .ref (ad 38)]) C hP hS (ct_Reader_readSigned htr hok hq) kq_Reader_120 54 7 rfl rfl ⟨rfl, rfl, Nat.le_of_ble_eq_true rfl, Nat.le_of_ble_eq_true rfl⟩ ⟨Nat.le_of_ble_eq_true rfl, Nat.le_of_ble_eq_true rfl⟩ hl.1 rfl rfl (Nat.le_of_ble_eq_true rfl) dd_Reader_readGlobals_109) hS hne C.2.2.2.2.2.2.1
        refine xk_goesL (xr_V (As := [.int (32 : Int32)]) (rest := [.int a4, .ref (ad 38)]) C hP hS (ct_Reader_readSigned htr hok hq) kq_Reader_120 54 7 rfl rfl ⟨rfl, rfl, Nat.le_of_ble_eq_true rfl, Nat.le_of_ble_eq_true rfl⟩ ⟨Nat.le_of_ble_eq_true rfl, Nat.le_of_ble_eq_true rfl⟩ hl.1 rfl rfl (Nat.le_of_ble_eq_true rfl) dd_Reader_readGlobals_109) hS (fun H locs hP hS => ?_)
        clear hq
        obtain ⟨hi, h⟩ := xp_g h
        refine as_h_38 C hP hS hi dd_Reader_readGlobals_112 (fun H locs hP hS => ?_)
        obtain ⟨u16, eu16, h⟩ := xp_let h
        rw [← eu16] at hP
        refine lv_goto (tgt := 166) hx hb dd_Reader_readGlobals_113 (by decide) ?_
        exact wj_Reader_readGlobals_166 htr C hne hk20 h hP hS (lv_sub hl [1, 2, 3, 4] rfl)
      have h := xp_f hc0 h
      by_cases hc1 : a11 = (66 : Int32)
      · have h := xp_t hc1 h
        refine lv_lookup (off := 57) (tgt := 116) hx hb dd_Reader_readGlobals_59 (by decide) (by rw [hc1]; rfl) (by decide) ?_
        refine lv_aload_n hx hb dd_Reader_readGlobals_116 rfl (lv_at hl 2 rfl) ?_
        refine gf_h_Reader_34_second C hP dd_Reader_readGlobals_117 ?_
        refine lv_iload hx hb dd_Reader_readGlobals_120 (lv_at hl 0 rfl) ?_
        refine lv_iconst (v := 2) hx hb dd_Reader_readGlobals_122 (by decide) ?_
        obtain ⟨hi, h⟩ := xp_g h
        refine as_h_37 C hP hS hi dd_Reader_readGlobals_123 (fun H locs hP hS => ?_)
        obtain ⟨u19, eu19, h⟩ := xp_let h
        rw [← eu19] at hP
        refine lv_aload_n hx hb dd_Reader_readGlobals_124 rfl (lv_at hl 2 rfl) ?_
        refine gf_h_Reader_34_number C hP dd_Reader_readGlobals_125 ?_
        refine lv_iload hx hb dd_Reader_readGlobals_128 (lv_at hl 0 rfl) ?_
        refine lv_aload_n hx hb dd_Reader_readGlobals_130 rfl (lv_at hl 1 rfl) ?_
        refine lv_bipush (v := 64) hx hb dd_Reader_readGlobals_131 (by decide) ?_
        rcases xp_try h with ⟨a20, u21, hq, h⟩ | ⟨kx, ux, hq, h⟩
        rotate_left
        · obtain ⟨rfl, rfl⟩ := xp_q h
          exact xk_up (xr_V (As := [.int (64 : Int32)]) (rest := [.int a4, .ref (ad 38)]) C hP hS (ct_Reader_readSigned htr hok hq) kq_Reader_120 54 7 rfl rfl ⟨rfl, rfl, Nat.le_of_ble_eq_true rfl, Nat.le_of_ble_eq_true rfl⟩ ⟨Nat.le_of_ble_eq_true rfl, Nat.le_of_ble_eq_true rfl⟩ hl.1 rfl rfl (Nat.le_of_ble_eq_true rfl) dd_Reader_readGlobals_133) hS hne C.2.2.2.2.2.2.1
        refine xk_goesL (xr_V (As := [.int (64 : Int32)]) (rest := [.int a4, .ref (ad 38)]) C hP hS (ct_Reader_readSigned htr hok hq) kq_Reader_120 54 7 rfl rfl ⟨rfl, rfl, Nat.le_of_ble_eq_true rfl, Nat.le_of_ble_eq_true rfl⟩ ⟨Nat.le_of_ble_eq_true rfl, Nat.le_of_ble_eq_true rfl⟩ hl.1 rfl rfl (Nat.le_of_ble_eq_true rfl) dd_Reader_readGlobals_133) hS (fun H locs hP hS => ?_)
        clear hq
        obtain ⟨hi, h⟩ := xp_g h
        refine as_h_38 C hP hS hi dd_Reader_readGlobals_136 (fun H locs hP hS => ?_)
        obtain ⟨u22, eu22, h⟩ := xp_let h
        rw [← eu22] at hP
        refine lv_goto (tgt := 166) hx hb dd_Reader_readGlobals_137 (by decide) ?_
        exact wj_Reader_readGlobals_166 htr C hne hk20 h hP hS (lv_sub hl [1, 2, 3, 4] rfl)
      have h := xp_f hc1 h
      by_cases hc2 : a11 = (208 : Int32)
      · have h := xp_t hc2 h
        refine lv_lookup (off := 81) (tgt := 140) hx hb dd_Reader_readGlobals_59 (by decide) (by rw [hc2]; rfl) (by decide) ?_
        refine lv_aload_n hx hb dd_Reader_readGlobals_140 rfl (lv_at hl 2 rfl) ?_
        refine gf_h_Reader_34_second C hP dd_Reader_readGlobals_141 ?_
        refine lv_iload hx hb dd_Reader_readGlobals_144 (lv_at hl 0 rfl) ?_
        refine lv_aload_n hx hb dd_Reader_readGlobals_146 rfl (lv_at hl 1 rfl) ?_
        rcases xp_try h with ⟨a23, u24, hq, h⟩ | ⟨kx, ux, hq, h⟩
        rotate_left
        · obtain ⟨rfl, rfl⟩ := xp_q h
          exact xk_up (xr_V (As := []) (rest := [.int a4, .ref (ad 37)]) C hP hS (ct_Reader_readTarget htr hok hq) kq_Reader_130 54 7 rfl rfl ⟨rfl, rfl, Nat.le_of_ble_eq_true rfl, Nat.le_of_ble_eq_true rfl⟩ ⟨Nat.le_of_ble_eq_true rfl, Nat.le_of_ble_eq_true rfl⟩ hl.1 rfl rfl (Nat.le_of_ble_eq_true rfl) dd_Reader_readGlobals_147) hS hne C.2.2.2.2.2.2.1
        refine xk_goesI (xr_V (As := []) (rest := [.int a4, .ref (ad 37)]) C hP hS (ct_Reader_readTarget htr hok hq) kq_Reader_130 54 7 rfl rfl ⟨rfl, rfl, Nat.le_of_ble_eq_true rfl, Nat.le_of_ble_eq_true rfl⟩ ⟨Nat.le_of_ble_eq_true rfl, Nat.le_of_ble_eq_true rfl⟩ hl.1 rfl rfl (Nat.le_of_ble_eq_true rfl) dd_Reader_readGlobals_147) hS (fun H locs hP hS => ?_)
        clear hq
        refine lv_iconst (v := 1) hx hb dd_Reader_readGlobals_150 (by decide) ?_
        obtain ⟨a25, u26, hq, h⟩ := xp_seq h
        refine xk_goesI (xr_S (As := [.int a23, .int (1 : Int32)]) (rest := [.int a4, .ref (ad 37)]) C hP hS (ct_Types_reference htr hok hq) kq_Reader_126 ⟨rfl, rfl, Nat.le_of_ble_eq_true rfl, Nat.le_of_ble_eq_true rfl⟩ ⟨Nat.le_of_ble_eq_true rfl, Nat.le_of_ble_eq_true rfl⟩ hl.1 rfl rfl (Nat.le_of_ble_eq_true rfl) dd_Reader_readGlobals_151) hS (fun H locs hP hS => ?_)
        clear hq
        obtain ⟨hi, h⟩ := xp_g h
        refine as_h_37 C hP hS hi dd_Reader_readGlobals_154 (fun H locs hP hS => ?_)
        obtain ⟨u27, eu27, h⟩ := xp_let h
        rw [← eu27] at hP
        refine lv_goto (tgt := 166) hx hb dd_Reader_readGlobals_155 (by decide) ?_
        exact wj_Reader_readGlobals_166 htr C hne hk20 h hP hS (lv_sub hl [1, 2, 3, 4] rfl)
      have h := xp_f hc2 h
      refine lv_lookup (off := 99) (tgt := 158) hx hb dd_Reader_readGlobals_59 (by decide) ((lv_osw hc0 (by decide)).trans ((lv_osw hc1 (by decide)).trans ((lv_osw hc2 (by decide)).trans rfl))) (by decide) ?_
      obtain ⟨rfl, rfl⟩ := xp_r h
      exact xr_throw C hP hS hne kz_Reader_0 hl.1 ⟨Nat.le_of_ble_eq_true rfl, Nat.le_of_ble_eq_true rfl, Nat.le_of_ble_eq_true rfl, Nat.le_of_ble_eq_true rfl⟩ dd_Reader_readGlobals_158 dd_Reader_readGlobals_161 dd_Reader_readGlobals_162 dd_Reader_readGlobals_165
set_option maxHeartbeats 4000000 in
set_option maxRecDepth 100000 in
theorem ct_Reader_readGlobals {l : Launch} {D : va_G} {ad : Nat → Nat} {ca : Nat → ClassId} {ads : List Nat} (htr : l.stackTraces = false) (hok : xk_ok (kw_h ad ca) ads) {fu : Nat} {u u' : xk_St} {r : (Unit ⊕ Nat)} (h : fm_Reader_readGlobals fu u = some (r, u')) :
    ∀ sz, xk_Met l ⟨"ModuleHouse$Reader", "readGlobals", "()V"⟩ (Cond.code ⟨"ModuleHouse$Reader", "readGlobals", "()V"⟩ prog_9_method_21_code 5 none :: xk_gd) rm_Reader_readGlobals (xk_Pc D kx_cl (kx_ty ca) (kw_h ad ca) ads xk_F sz [.ref (ad 54)] u) (xk_Qc D kx_cl (kw_h ad ca) ads (xo_v r) u') (xk_A ads sz) := by
  unfold fm_Reader_readGlobals at h
  refine xk_con (by decide) htr hok (Nat.le_of_ble_eq_true rfl) (fun p e s m below meth c ls C hne hl hP => ?_)
  have hx := C.1.1
  have hb := C.1.2.1
  have hS : va_S (xk_A ads s.heap.size) s.heap s.heap [] := va_S.rf
  have hl : lv_has ls 5 [(0, .ref (ad 54))] := hl
  refine lv_aload_n hx hb dd_Reader_readGlobals_0 rfl (lv_at hl 0 rfl) ?_
  refine gf_h_Reader_54_module C hP dd_Reader_readGlobals_1 ?_
  refine gf_h_Reader_4_globals C hP dd_Reader_readGlobals_4 ?_
  refine lv_astore_n (lv' := [(1, .ref (ad 34)), (0, .ref (ad 54))]) hx hb dd_Reader_readGlobals_7 rfl hl (by decide) rfl (fun ls hl => ?_)
  refine lv_aload_n hx hb dd_Reader_readGlobals_8 rfl (lv_at hl 1 rfl) ?_
  rcases xp_try h with ⟨a1, u2, hq, h⟩ | ⟨kx, ux, hq, h⟩
  rotate_left
  · obtain ⟨rfl, rfl⟩ := xp_q h
    exact xk_up (xr_V (As := []) (rest := []) C hP hS (ct_Reader_readNumber htr hok hq) kq_Reader_78 54 7 rfl rfl ⟨rfl, rfl, Nat.le_of_ble_eq_true rfl, Nat.le_of_ble_eq_true rfl⟩ ⟨Nat.le_of_ble_eq_true rfl, Nat.le_of_ble_eq_true rfl⟩ hl.1 rfl rfl (Nat.le_of_ble_eq_true rfl) dd_Reader_readGlobals_9) hS hne C.2.2.2.2.2.2.1
  refine xk_goesI (xr_V (As := []) (rest := []) C hP hS (ct_Reader_readNumber htr hok hq) kq_Reader_78 54 7 rfl rfl ⟨rfl, rfl, Nat.le_of_ble_eq_true rfl, Nat.le_of_ble_eq_true rfl⟩ ⟨Nat.le_of_ble_eq_true rfl, Nat.le_of_ble_eq_true rfl⟩ hl.1 rfl rfl (Nat.le_of_ble_eq_true rfl) dd_Reader_readGlobals_9) hS (fun H locs hP hS => ?_)
  clear hq
  refine lv_istore_n (lv' := [(2, .int a1), (1, .ref (ad 34)), (0, .ref (ad 54))]) hx hb dd_Reader_readGlobals_12 rfl hl (by decide) rfl (fun ls hl => ?_)
  refine lv_aload_n hx hb dd_Reader_readGlobals_13 rfl (lv_at hl 1 rfl) ?_
  refine lv_iload_n hx hb dd_Reader_readGlobals_14 rfl (lv_at hl 0 rfl) ?_
  refine pf_h_Reader_34_count C hP hS dd_Reader_readGlobals_15 (fun H locs hP hS => ?_)
  obtain ⟨u3, eu3, h⟩ := xp_let h
  rw [← eu3] at hP
  refine lv_iconst (v := 0) hx hb dd_Reader_readGlobals_18 (by decide) ?_
  refine lv_istore_n (lv' := [(3, .int (0 : Int32)), (2, .int a1), (1, .ref (ad 34)), (0, .ref (ad 54))]) hx hb dd_Reader_readGlobals_19 rfl hl (by decide) rfl (fun ls hl => ?_)
  exact wj_Reader_readGlobals_20 htr C hne h hP hS (lv_sub hl [3, 2, 1, 0] rfl)
abbrev rm_Reader_passBytes__h54_39 : Room := { frames := 8, cells := 1, slots := 6, locals := 147 }
noncomputable def fm_Reader_passBytes__h54_39 (fu : Nat) (x1 : Int32) (u : xk_St) : Option ((Unit ⊕ Nat) × xk_St) :=
  (xs_try (fm_Reader_readSize fu (u.1 18) u) fun a1 u2 => if x1 < 0 ∨ 65 ≤ x1.toNatClampNeg then none else xs_let (xs_A u2 25 x1.toNatClampNeg (u2.1 17)) fun u3 => if x1 < 0 ∨ 65 ≤ x1.toNatClampNeg then none else xs_let (xs_A u3 26 x1.toNatClampNeg a1) fun u4 => xs_let (xs_I u4 17 ((u4.1 17) + a1)) fun u5 => some (.inl (()), u5))
set_option maxHeartbeats 4000000 in
set_option maxRecDepth 100000 in
theorem ct_Reader_passBytes__h54_39 {l : Launch} {D : va_G} {ad : Nat → Nat} {ca : Nat → ClassId} {ads : List Nat} (htr : l.stackTraces = false) (hok : xk_ok (kw_h ad ca) ads) {fu : Nat} {x1 : Int32} {u u' : xk_St} {r : (Unit ⊕ Nat)} (h : fm_Reader_passBytes__h54_39 fu x1 u = some (r, u')) :
    ∀ sz, xk_Met l ⟨"ModuleHouse$Reader", "passBytes", "(LModuleHouse$Row;I)V"⟩ (Cond.code ⟨"ModuleHouse$Reader", "passBytes", "(LModuleHouse$Row;I)V"⟩ prog_9_method_23_code 4 none :: xk_gd) rm_Reader_passBytes__h54_39 (xk_Pc D kx_cl (kx_ty ca) (kw_h ad ca) ads xk_F sz [.ref (ad 54), .ref (ad 39), .int x1] u) (xk_Qc D kx_cl (kw_h ad ca) ads (xo_v r) u') (xk_A ads sz) := by
  unfold fm_Reader_passBytes__h54_39 at h
  refine xk_con (by decide) htr hok (Nat.le_of_ble_eq_true rfl) (fun p e s m below meth c ls C hne hl hP => ?_)
  have hx := C.1.1
  have hb := C.1.2.1
  have hS : va_S (xk_A ads s.heap.size) s.heap s.heap [] := va_S.rf
  have hl : lv_has ls 4 [(0, .ref (ad 54)), (1, .ref (ad 39)), (2, .int x1)] := hl
  refine lv_aload_n hx hb dd_Reader_passBytes_0 rfl (lv_at hl 0 rfl) ?_
  refine lv_aload_n hx hb dd_Reader_passBytes_1 rfl (lv_at hl 0 rfl) ?_
  refine gf_h_Reader_54_end C hP dd_Reader_passBytes_2 ?_
  rcases xp_try h with ⟨a1, u2, hq, h⟩ | ⟨kx, ux, hq, h⟩
  rotate_left
  · obtain ⟨rfl, rfl⟩ := xp_q h
    exact xk_up (xr_V (As := [.int (u.1 18)]) (rest := []) C hP hS (ct_Reader_readSize htr hok hq) kq_Reader_56 54 7 rfl rfl ⟨rfl, rfl, Nat.le_of_ble_eq_true rfl, Nat.le_of_ble_eq_true rfl⟩ ⟨Nat.le_of_ble_eq_true rfl, Nat.le_of_ble_eq_true rfl⟩ hl.1 rfl rfl (Nat.le_of_ble_eq_true rfl) dd_Reader_passBytes_5) hS hne C.2.2.2.2.2.2.1
  refine xk_goesI (xr_V (As := [.int (u.1 18)]) (rest := []) C hP hS (ct_Reader_readSize htr hok hq) kq_Reader_56 54 7 rfl rfl ⟨rfl, rfl, Nat.le_of_ble_eq_true rfl, Nat.le_of_ble_eq_true rfl⟩ ⟨Nat.le_of_ble_eq_true rfl, Nat.le_of_ble_eq_true rfl⟩ hl.1 rfl rfl (Nat.le_of_ble_eq_true rfl) dd_Reader_passBytes_5) hS (fun H locs hP hS => ?_)
  clear hq
  refine lv_istore_n (lv' := [(3, .int a1), (0, .ref (ad 54)), (1, .ref (ad 39)), (2, .int x1)]) hx hb dd_Reader_passBytes_8 rfl hl (by decide) rfl (fun ls hl => ?_)
  refine lv_aload_n hx hb dd_Reader_passBytes_9 rfl (lv_at hl 2 rfl) ?_
  refine gf_h_Reader_39_first C hP dd_Reader_passBytes_10 ?_
  refine lv_iload_n hx hb dd_Reader_passBytes_13 rfl (lv_at hl 3 rfl) ?_
  refine lv_aload_n hx hb dd_Reader_passBytes_14 rfl (lv_at hl 1 rfl) ?_
  refine gf_h_Reader_54_next C hP dd_Reader_passBytes_15 ?_
  obtain ⟨hi, h⟩ := xp_g h
  refine as_h_41 C hP hS hi dd_Reader_passBytes_18 (fun H locs hP hS => ?_)
  obtain ⟨u3, eu3, h⟩ := xp_let h
  rw [← eu3] at hP
  refine lv_aload_n hx hb dd_Reader_passBytes_19 rfl (lv_at hl 2 rfl) ?_
  refine gf_h_Reader_39_second C hP dd_Reader_passBytes_20 ?_
  refine lv_iload_n hx hb dd_Reader_passBytes_23 rfl (lv_at hl 3 rfl) ?_
  refine lv_iload_n hx hb dd_Reader_passBytes_24 rfl (lv_at hl 0 rfl) ?_
  obtain ⟨hi, h⟩ := xp_g h
  refine as_h_42 C hP hS hi dd_Reader_passBytes_25 (fun H locs hP hS => ?_)
  obtain ⟨u4, eu4, h⟩ := xp_let h
  rw [← eu4] at hP
  refine lv_aload_n hx hb dd_Reader_passBytes_26 rfl (lv_at hl 1 rfl) ?_
  refine lv_dup hx hb dd_Reader_passBytes_27 rfl ?_
  refine gf_h_Reader_54_next C hP dd_Reader_passBytes_28 ?_
  refine lv_iload_n hx hb dd_Reader_passBytes_31 rfl (lv_at hl 0 rfl) ?_
  refine lv_iadd hx hb dd_Reader_passBytes_32 ?_
  refine pf_h_Reader_54_next C hP hS dd_Reader_passBytes_33 (fun H locs hP hS => ?_)
  obtain ⟨u5, eu5, h⟩ := xp_let h
  rw [← eu5] at hP
  obtain ⟨rfl, rfl⟩ := xp_r h
  exact xr_vret C hP hS dd_Reader_passBytes_36
abbrev rm_Reader_readExports : Room := { frames := 9, cells := 1, slots := 6, locals := 170 }
noncomputable def jb_Reader_readExports_18 (fu : Nat) : Nat → Int32 → Int32 → xk_St → Option ((Unit ⊕ Nat) × xk_St)
  | 0 => fun _ _ _ => none
  | n + 1 => fun b1 b2 u =>
    xs_let (jb_Reader_readExports_18 fu  n) fun k18 =>
    if b1 ≤ b2 then (some (.inl (()), u)) else ((xs_let (if (64 : Int32) < b2 then (64 : Int32) else b2) fun a4 => xs_try (fm_Reader_passBytes__h54_39 fu a4 u) fun _ u5 => xs_try (fm_Reader_readByte u5) fun a6 u7 => if a6 ≤ (3 : Int32) then ((if a4 < 0 ∨ 65 ≤ a4.toNatClampNeg then none else xs_let (xs_A u7 24 a4.toNatClampNeg a6) fun u8 => xs_try (fm_Reader_readNumber fu u8) fun a9 u10 => if a4 < 0 ∨ 65 ≤ a4.toNatClampNeg then none else xs_let (xs_B u10 7 a4.toNatClampNeg (a9.toInt64)) fun u11 => xs_let (b2 + (1 : Int32)) fun a12 => k18 b1 a12 u11)) else (some (.inr 0, u7))))
noncomputable def fm_Reader_readExports (fu : Nat) (u : xk_St) : Option ((Unit ⊕ Nat) × xk_St) :=
  (xs_try (fm_Reader_readNumber fu u) fun a1 u2 => xs_let (xs_I u2 14 a1) fun u3 => jb_Reader_readExports_18 fu fu a1 (0 : Int32) u3)
set_option maxHeartbeats 4000000 in
set_option maxRecDepth 100000 in
theorem wj_Reader_readExports_18 {p : Program} {l : Launch} {e : Env} {s : State} {m : MethodId} {args : Array Value} {below : List Frame} {meth : Method} {c : Code} {D : va_G} {ad : Nat → Nat} {ca : Nat → ClassId} {ads : List Nat} {fu : Nat} (htr : l.stackTraces = false) (C : xk_C D kx_cl (kx_ty ca) (kw_h ad ca) ads "ModuleHouse$Reader" prog_9_method_22_code 5 none p e s m args meth c) (hne : c.exceptionTable.isEmpty = true) {u' : xk_St} {r : (Unit ⊕ Nat)} : ∀ {n : Nat} {b1 : Int32} {b2 : Int32} {u : xk_St} {H : Heap} {locs : List Loc} {ls : Array Slot} (h : jb_Reader_readExports_18 fu  n b1 b2 u = some (r, u')) (hP : va_P D kx_cl (kw_h ad ca u) H) (hS : va_S (xk_A ads s.heap.size) s.heap H locs) (hl : lv_has ls 5 [(0, .ref (ad 54)), (1, .int b1), (2, .int b2)]), W p l e rm_Reader_readExports s m args below meth c H locs 0 0 (xk_MQ below (xk_Qc D kx_cl (kw_h ad ca) ads (xo_v r) u') args s (xk_A ads s.heap.size)) (F0 m 18 ls []) := by
  intro n
  have hx := C.1.1
  have hb := C.1.2.1
  have hok := C.2.2.1
  induction n with
  | zero =>
    intro _ _ u H locs ls h
    have h : none = some (r, u') := h
    cases h
  | succ n ih =>
    intro b1 b2 u H locs ls h hP hS hl
    unfold jb_Reader_readExports_18 at h
    obtain ⟨k18, ek18, h⟩ := xp_let h
    have hk18 : ∀ (c0 : Int32) (c1 : Int32) (u : xk_St) (H : Heap) (locs : List Loc) (ls : Array Slot), k18 c0 c1 u = some (r, u') → va_P D kx_cl (kw_h ad ca u) H → va_S (xk_A ads s.heap.size) s.heap H locs → lv_has ls 5 [(0, .ref (ad 54)), (1, .int c0), (2, .int c1)] → W p l e rm_Reader_readExports s m args below meth c H locs 0 0 (xk_MQ below (xk_Qc D kx_cl (kw_h ad ca) ads (xo_v r) u') args s (xk_A ads s.heap.size)) (F0 m 18 ls []) := by
      intro c0 c1 u H locs ls h hP hS hl
      subst ek18
      exact ih h hP hS hl
    clear ih ek18
    refine lv_iload_n hx hb dd_Reader_readExports_18 rfl (lv_at hl 2 rfl) ?_
    refine lv_iload_n hx hb dd_Reader_readExports_19 rfl (lv_at hl 1 rfl) ?_
    refine lv_icmp_ge (tgt := 99) hx hb dd_Reader_readExports_20 (by decide) (fun hc => ?_) (fun hc => ?_)
    · have h := xp_t hc h
      obtain ⟨rfl, rfl⟩ := xp_r h
      exact xr_vret C hP hS dd_Reader_readExports_99
    · have h := xp_f hc h
      refine lv_iload_n hx hb dd_Reader_readExports_23 rfl (lv_at hl 2 rfl) ?_
      refine lv_bipush (v := 64) hx hb dd_Reader_readExports_24 (by decide) ?_
      refine va_mmin hx hb (C.1.2.2.1.trans hl.1.symm) C.1.2.2.2.1 (C.1.2.2.2.2 _ (xk_c4 (w := Cond.methodLink "ModuleHouse$Reader" 139 Lib.Math.min.name) 159 rfl rfl)) (C.1.2.2.2.2 _ (xk_c3 (w := Cond.static Lib.Math.min.name) 164 rfl rfl)) (C.1.2.2.2.2 _ (xk_c1 (w := Cond.initialized "java/lang/Math") 24 rfl rfl)) (C.1.2.2.2.2 _ (xk_c3 (w := Cond.code Lib.Math.min.name Lib.Math.min.code 2 (some .int)) 165 rfl rfl)) (Nat.le_of_ble_eq_true rfl) (Nat.le_of_ble_eq_true rfl) (Nat.zero_le _) (Nat.zero_le _) dd_Reader_readExports_26 ?_
      obtain ⟨a4, ea4, h⟩ := xp_let h
      refine xr_nami ea4 ?_
      refine lv_istore_n (lv' := [(3, .int a4), (0, .ref (ad 54)), (1, .int b1), (2, .int b2)]) hx hb dd_Reader_readExports_29 rfl hl (by decide) rfl (fun ls hl => ?_)
      refine lv_aload_n hx hb dd_Reader_readExports_30 rfl (lv_at hl 1 rfl) ?_
      refine lv_aload_n hx hb dd_Reader_readExports_31 rfl (lv_at hl 1 rfl) ?_
      refine gf_h_Reader_54_module C hP dd_Reader_readExports_32 ?_
      refine gf_h_Reader_4_exports C hP dd_Reader_readExports_35 ?_
      refine lv_iload_n hx hb dd_Reader_readExports_38 rfl (lv_at hl 0 rfl) ?_
      rcases xp_try h with ⟨rx, u5, hq, h⟩ | ⟨kx, ux, hq, h⟩
      rotate_left
      · obtain ⟨rfl, rfl⟩ := xp_q h
        exact xk_up (xr_V (As := [.ref (ad 39), .int a4]) (rest := []) C hP hS (ct_Reader_passBytes__h54_39 htr hok hq) kq_Reader_206 54 7 rfl rfl ⟨rfl, rfl, Nat.le_of_ble_eq_true rfl, Nat.le_of_ble_eq_true rfl⟩ ⟨Nat.le_of_ble_eq_true rfl, Nat.le_of_ble_eq_true rfl⟩ hl.1 rfl rfl (Nat.le_of_ble_eq_true rfl) dd_Reader_readExports_39) hS hne C.2.2.2.2.2.2.1
      refine xk_goesV (xr_V (As := [.ref (ad 39), .int a4]) (rest := []) C hP hS (ct_Reader_passBytes__h54_39 htr hok hq) kq_Reader_206 54 7 rfl rfl ⟨rfl, rfl, Nat.le_of_ble_eq_true rfl, Nat.le_of_ble_eq_true rfl⟩ ⟨Nat.le_of_ble_eq_true rfl, Nat.le_of_ble_eq_true rfl⟩ hl.1 rfl rfl (Nat.le_of_ble_eq_true rfl) dd_Reader_readExports_39) hS (fun H locs hP hS => ?_)
      clear hq
      refine lv_aload_n hx hb dd_Reader_readExports_42 rfl (lv_at hl 1 rfl) ?_
      rcases xp_try h with ⟨a6, u7, hq, h⟩ | ⟨kx, ux, hq, h⟩
      rotate_left
      · obtain ⟨rfl, rfl⟩ := xp_q h
        exact xk_up (xr_V (As := []) (rest := []) C hP hS (ct_Reader_readByte htr hok hq) kq_Reader_49 54 7 rfl rfl ⟨rfl, rfl, Nat.le_of_ble_eq_true rfl, Nat.le_of_ble_eq_true rfl⟩ ⟨Nat.le_of_ble_eq_true rfl, Nat.le_of_ble_eq_true rfl⟩ hl.1 rfl rfl (Nat.le_of_ble_eq_true rfl) dd_Reader_readExports_43) hS hne C.2.2.2.2.2.2.1
      refine xk_goesI (xr_V (As := []) (rest := []) C hP hS (ct_Reader_readByte htr hok hq) kq_Reader_49 54 7 rfl rfl ⟨rfl, rfl, Nat.le_of_ble_eq_true rfl, Nat.le_of_ble_eq_true rfl⟩ ⟨Nat.le_of_ble_eq_true rfl, Nat.le_of_ble_eq_true rfl⟩ hl.1 rfl rfl (Nat.le_of_ble_eq_true rfl) dd_Reader_readExports_43) hS (fun H locs hP hS => ?_)
      clear hq
      refine lv_istore (lv' := [(4, .int a6), (3, .int a4), (0, .ref (ad 54)), (1, .int b1), (2, .int b2)]) hx hb dd_Reader_readExports_46 hl (by decide) rfl (fun ls hl => ?_)
      refine lv_iload hx hb dd_Reader_readExports_48 (lv_at hl 0 rfl) ?_
      refine lv_iconst (v := 3) hx hb dd_Reader_readExports_50 (by decide) ?_
      refine lv_icmp_le (tgt := 62) hx hb dd_Reader_readExports_51 (by decide) (fun hc => ?_) (fun hc => ?_)
      · have h := xp_t hc h
        refine lv_aload_n hx hb dd_Reader_readExports_62 rfl (lv_at hl 2 rfl) ?_
        refine gf_h_Reader_54_module C hP dd_Reader_readExports_63 ?_
        refine gf_h_Reader_4_exports C hP dd_Reader_readExports_66 ?_
        refine gf_h_Reader_39_kind C hP dd_Reader_readExports_69 ?_
        refine lv_iload_n hx hb dd_Reader_readExports_72 rfl (lv_at hl 1 rfl) ?_
        refine lv_iload hx hb dd_Reader_readExports_73 (lv_at hl 0 rfl) ?_
        obtain ⟨hi, h⟩ := xp_g h
        refine as_h_40 C hP hS hi dd_Reader_readExports_75 (fun H locs hP hS => ?_)
        obtain ⟨u8, eu8, h⟩ := xp_let h
        rw [← eu8] at hP
        refine lv_aload_n hx hb dd_Reader_readExports_76 rfl (lv_at hl 2 rfl) ?_
        refine gf_h_Reader_54_module C hP dd_Reader_readExports_77 ?_
        refine gf_h_Reader_4_exports C hP dd_Reader_readExports_80 ?_
        refine gf_h_Reader_39_number C hP dd_Reader_readExports_83 ?_
        refine lv_iload_n hx hb dd_Reader_readExports_86 rfl (lv_at hl 1 rfl) ?_
        refine lv_aload_n hx hb dd_Reader_readExports_87 rfl (lv_at hl 2 rfl) ?_
        rcases xp_try h with ⟨a9, u10, hq, h⟩ | ⟨kx, ux, hq, h⟩
        rotate_left
        · obtain ⟨rfl, rfl⟩ := xp_q h
          exact xk_up (xr_V (As := []) (rest := [.int a4, .ref (ad 43)]) C hP hS (ct_Reader_readNumber htr hok hq) kq_Reader_78 54 7 rfl rfl ⟨rfl, rfl, Nat.le_of_ble_eq_true rfl, Nat.le_of_ble_eq_true rfl⟩ ⟨Nat.le_of_ble_eq_true rfl, Nat.le_of_ble_eq_true rfl⟩ hl.1 rfl rfl (Nat.le_of_ble_eq_true rfl) dd_Reader_readExports_88) hS hne C.2.2.2.2.2.2.1
        refine xk_goesI (xr_V (As := []) (rest := [.int a4, .ref (ad 43)]) C hP hS (ct_Reader_readNumber htr hok hq) kq_Reader_78 54 7 rfl rfl ⟨rfl, rfl, Nat.le_of_ble_eq_true rfl, Nat.le_of_ble_eq_true rfl⟩ ⟨Nat.le_of_ble_eq_true rfl, Nat.le_of_ble_eq_true rfl⟩ hl.1 rfl rfl (Nat.le_of_ble_eq_true rfl) dd_Reader_readExports_88) hS (fun H locs hP hS => ?_)
        clear hq
        refine lv_i2l hx hb dd_Reader_readExports_91 rfl ?_
        obtain ⟨hi, h⟩ := xp_g h
        refine as_h_43 C hP hS hi dd_Reader_readExports_92 (fun H locs hP hS => ?_)
        obtain ⟨u11, eu11, h⟩ := xp_let h
        rw [← eu11] at hP
        obtain ⟨a12, ea12, h⟩ := xp_let h
        refine lv_iinc (v := a12) (lv' := [(2, .int a12), (4, .int a6), (3, .int a4), (0, .ref (ad 54)), (1, .int b1)]) hx hb dd_Reader_readExports_93 hl (k := 4) rfl (by rw [ea12]; first | rfl | decide) (by decide) rfl (fun ls hl => ?_)
        refine lv_goto (tgt := 18) hx hb dd_Reader_readExports_96 (by decide) ?_
        exact hk18 b1 a12 u11 _ _ _ h hP hS (lv_sub hl [3, 4, 0] rfl)
      · have h := xp_f hc h
        obtain ⟨rfl, rfl⟩ := xp_r h
        exact xr_throw C hP hS hne kz_Reader_0 hl.1 ⟨Nat.le_of_ble_eq_true rfl, Nat.le_of_ble_eq_true rfl, Nat.le_of_ble_eq_true rfl, Nat.le_of_ble_eq_true rfl⟩ dd_Reader_readExports_54 dd_Reader_readExports_57 dd_Reader_readExports_58 dd_Reader_readExports_61
set_option maxHeartbeats 4000000 in
set_option maxRecDepth 100000 in
theorem ct_Reader_readExports {l : Launch} {D : va_G} {ad : Nat → Nat} {ca : Nat → ClassId} {ads : List Nat} (htr : l.stackTraces = false) (hok : xk_ok (kw_h ad ca) ads) {fu : Nat} {u u' : xk_St} {r : (Unit ⊕ Nat)} (h : fm_Reader_readExports fu u = some (r, u')) :
    ∀ sz, xk_Met l ⟨"ModuleHouse$Reader", "readExports", "()V"⟩ (Cond.code ⟨"ModuleHouse$Reader", "readExports", "()V"⟩ prog_9_method_22_code 5 none :: xk_gd) rm_Reader_readExports (xk_Pc D kx_cl (kx_ty ca) (kw_h ad ca) ads xk_F sz [.ref (ad 54)] u) (xk_Qc D kx_cl (kw_h ad ca) ads (xo_v r) u') (xk_A ads sz) := by
  unfold fm_Reader_readExports at h
  refine xk_con (by decide) htr hok (Nat.le_of_ble_eq_true rfl) (fun p e s m below meth c ls C hne hl hP => ?_)
  have hx := C.1.1
  have hb := C.1.2.1
  have hS : va_S (xk_A ads s.heap.size) s.heap s.heap [] := va_S.rf
  have hl : lv_has ls 5 [(0, .ref (ad 54))] := hl
  refine lv_aload_n hx hb dd_Reader_readExports_0 rfl (lv_at hl 0 rfl) ?_
  rcases xp_try h with ⟨a1, u2, hq, h⟩ | ⟨kx, ux, hq, h⟩
  rotate_left
  · obtain ⟨rfl, rfl⟩ := xp_q h
    exact xk_up (xr_V (As := []) (rest := []) C hP hS (ct_Reader_readNumber htr hok hq) kq_Reader_78 54 7 rfl rfl ⟨rfl, rfl, Nat.le_of_ble_eq_true rfl, Nat.le_of_ble_eq_true rfl⟩ ⟨Nat.le_of_ble_eq_true rfl, Nat.le_of_ble_eq_true rfl⟩ hl.1 rfl rfl (Nat.le_of_ble_eq_true rfl) dd_Reader_readExports_1) hS hne C.2.2.2.2.2.2.1
  refine xk_goesI (xr_V (As := []) (rest := []) C hP hS (ct_Reader_readNumber htr hok hq) kq_Reader_78 54 7 rfl rfl ⟨rfl, rfl, Nat.le_of_ble_eq_true rfl, Nat.le_of_ble_eq_true rfl⟩ ⟨Nat.le_of_ble_eq_true rfl, Nat.le_of_ble_eq_true rfl⟩ hl.1 rfl rfl (Nat.le_of_ble_eq_true rfl) dd_Reader_readExports_1) hS (fun H locs hP hS => ?_)
  clear hq
  refine lv_istore_n (lv' := [(1, .int a1), (0, .ref (ad 54))]) hx hb dd_Reader_readExports_4 rfl hl (by decide) rfl (fun ls hl => ?_)
  refine lv_aload_n hx hb dd_Reader_readExports_5 rfl (lv_at hl 1 rfl) ?_
  refine gf_h_Reader_54_module C hP dd_Reader_readExports_6 ?_
  refine gf_h_Reader_4_exports C hP dd_Reader_readExports_9 ?_
  refine lv_iload_n hx hb dd_Reader_readExports_12 rfl (lv_at hl 0 rfl) ?_
  refine pf_h_Reader_39_count C hP hS dd_Reader_readExports_13 (fun H locs hP hS => ?_)
  obtain ⟨u3, eu3, h⟩ := xp_let h
  rw [← eu3] at hP
  refine lv_iconst (v := 0) hx hb dd_Reader_readExports_16 (by decide) ?_
  refine lv_istore_n (lv' := [(2, .int (0 : Int32)), (1, .int a1), (0, .ref (ad 54))]) hx hb dd_Reader_readExports_17 rfl hl (by decide) rfl (fun ls hl => ?_)
  exact wj_Reader_readExports_18 htr C hne h hP hS (lv_sub hl [2, 1, 0] rfl)
abbrev rm_Code_addNumber : Room := { frames := 1, cells := 1, slots := 6, locals := 0 }
noncomputable def fm_Code_addNumber (x0 : Int32) (u : xk_St) : Option (Unit × xk_St) :=
  if (8192 : Int32) ≤ (u.1 9) then (some ((()), u)) else ((if (u.1 9) < 0 ∨ 8192 ≤ (u.1 9).toNatClampNeg then none else xs_let (xs_A u 11 (u.1 9).toNatClampNeg x0) fun u1 => xs_let (xs_I u1 9 ((u1.1 9) + (1 : Int32))) fun u2 => some ((()), u2)))
set_option maxHeartbeats 4000000 in
set_option maxRecDepth 100000 in
theorem ct_Code_addNumber {l : Launch} {D : va_G} {ad : Nat → Nat} {ca : Nat → ClassId} {ads : List Nat} (htr : l.stackTraces = false) (hok : xk_ok (kw_h ad ca) ads) {x0 : Int32} {u u' : xk_St} {r : Unit} (h : fm_Code_addNumber x0 u = some (r, u')) :
    ∀ sz, xk_Met l ⟨"ModuleHouse$Code", "addNumber", "(I)V"⟩ (Cond.code ⟨"ModuleHouse$Code", "addNumber", "(I)V"⟩ prog_3_method_3_code 2 none :: xk_gd) rm_Code_addNumber (xk_Pc D kx_cl (kx_ty ca) (kw_h ad ca) ads xk_F sz [.ref (ad 12), .int x0] u) (xk_Qc D kx_cl (kw_h ad ca) ads (xo_v (.inl r)) u') (xk_A ads sz) := by
  unfold fm_Code_addNumber at h
  refine xk_con (by decide) htr hok (Nat.le_of_ble_eq_true rfl) (fun p e s m below meth c ls C hne hl hP => ?_)
  have hx := C.1.1
  have hb := C.1.2.1
  have hS : va_S (xk_A ads s.heap.size) s.heap s.heap [] := va_S.rf
  have hl : lv_has ls 2 [(0, .ref (ad 12)), (1, .int x0)] := hl
  refine lv_aload_n hx hb dd_Code_addNumber_0 rfl (lv_at hl 0 rfl) ?_
  refine gf_h_Code_12_numbersSize C hP dd_Code_addNumber_1 ?_
  refine lv_sipush (v := 8192) hx hb dd_Code_addNumber_4 (by decide) ?_
  refine lv_icmp_ge (tgt := 30) hx hb dd_Code_addNumber_7 (by decide) (fun hc => ?_) (fun hc => ?_)
  · have h := xp_t hc h
    obtain ⟨rfl, rfl⟩ := xp_r h
    exact xr_vret C hP hS dd_Code_addNumber_30
  · have h := xp_f hc h
    refine lv_aload_n hx hb dd_Code_addNumber_10 rfl (lv_at hl 0 rfl) ?_
    refine gf_h_Code_12_numbers C hP dd_Code_addNumber_11 ?_
    refine lv_aload_n hx hb dd_Code_addNumber_14 rfl (lv_at hl 0 rfl) ?_
    refine gf_h_Code_12_numbersSize C hP dd_Code_addNumber_15 ?_
    refine lv_iload_n hx hb dd_Code_addNumber_18 rfl (lv_at hl 1 rfl) ?_
    obtain ⟨hi, h⟩ := xp_g h
    refine as_h_18 C hP hS hi dd_Code_addNumber_19 (fun H locs hP hS => ?_)
    obtain ⟨u1, eu1, h⟩ := xp_let h
    rw [← eu1] at hP
    refine lv_aload_n hx hb dd_Code_addNumber_20 rfl (lv_at hl 0 rfl) ?_
    refine lv_dup hx hb dd_Code_addNumber_21 rfl ?_
    refine gf_h_Code_12_numbersSize C hP dd_Code_addNumber_22 ?_
    refine lv_iconst (v := 1) hx hb dd_Code_addNumber_25 (by decide) ?_
    refine lv_iadd hx hb dd_Code_addNumber_26 ?_
    refine pf_h_Code_12_numbersSize C hP hS dd_Code_addNumber_27 (fun H locs hP hS => ?_)
    obtain ⟨u2, eu2, h⟩ := xp_let h
    rw [← eu2] at hP
    obtain ⟨rfl, rfl⟩ := xp_r h
    exact xr_vret C hP hS dd_Code_addNumber_30
abbrev rm_Reader_readNumbers : Room := { frames := 8, cells := 1, slots := 6, locals := 144 }
noncomputable def jb_Reader_readNumbers_7 (fu : Nat) : Nat → Int32 → Int32 → xk_St → Option ((Int32 ⊕ Nat) × xk_St)
  | 0 => fun _ _ _ => none
  | n + 1 => fun b1 b2 u =>
    xs_let (jb_Reader_readNumbers_7 fu  n) fun k7 =>
    if b1 ≤ b2 then (some (.inl b1, u)) else ((xs_try (fm_Reader_readNumber fu u) fun a3 u4 => xs_seq (fm_Code_addNumber a3 u4) fun _ u5 => xs_let (b2 + (1 : Int32)) fun a6 => k7 b1 a6 u5))
noncomputable def fm_Reader_readNumbers (fu : Nat) (u : xk_St) : Option ((Int32 ⊕ Nat) × xk_St) :=
  (xs_try (fm_Reader_readNumber fu u) fun a1 u2 => jb_Reader_readNumbers_7 fu fu a1 (0 : Int32) u2)
set_option maxHeartbeats 4000000 in
set_option maxRecDepth 100000 in
theorem wj_Reader_readNumbers_7 {p : Program} {l : Launch} {e : Env} {s : State} {m : MethodId} {args : Array Value} {below : List Frame} {meth : Method} {c : Code} {D : va_G} {ad : Nat → Nat} {ca : Nat → ClassId} {ads : List Nat} {fu : Nat} (htr : l.stackTraces = false) (C : xk_C D kx_cl (kx_ty ca) (kw_h ad ca) ads "ModuleHouse$Reader" prog_9_method_26_code 3 (some .int) p e s m args meth c) (hne : c.exceptionTable.isEmpty = true) {u' : xk_St} {r : (Int32 ⊕ Nat)} : ∀ {n : Nat} {b1 : Int32} {b2 : Int32} {u : xk_St} {H : Heap} {locs : List Loc} {ls : Array Slot} (h : jb_Reader_readNumbers_7 fu  n b1 b2 u = some (r, u')) (hP : va_P D kx_cl (kw_h ad ca u) H) (hS : va_S (xk_A ads s.heap.size) s.heap H locs) (hl : lv_has ls 3 [(0, .ref (ad 54)), (1, .int b1), (2, .int b2)]), W p l e rm_Reader_readNumbers s m args below meth c H locs 0 0 (xk_MQ below (xk_Qc D kx_cl (kw_h ad ca) ads (xo_i r) u') args s (xk_A ads s.heap.size)) (F0 m 7 ls []) := by
  intro n
  have hx := C.1.1
  have hb := C.1.2.1
  have hok := C.2.2.1
  induction n with
  | zero =>
    intro _ _ u H locs ls h
    have h : none = some (r, u') := h
    cases h
  | succ n ih =>
    intro b1 b2 u H locs ls h hP hS hl
    unfold jb_Reader_readNumbers_7 at h
    obtain ⟨k7, ek7, h⟩ := xp_let h
    have hk7 : ∀ (c0 : Int32) (c1 : Int32) (u : xk_St) (H : Heap) (locs : List Loc) (ls : Array Slot), k7 c0 c1 u = some (r, u') → va_P D kx_cl (kw_h ad ca u) H → va_S (xk_A ads s.heap.size) s.heap H locs → lv_has ls 3 [(0, .ref (ad 54)), (1, .int c0), (2, .int c1)] → W p l e rm_Reader_readNumbers s m args below meth c H locs 0 0 (xk_MQ below (xk_Qc D kx_cl (kw_h ad ca) ads (xo_i r) u') args s (xk_A ads s.heap.size)) (F0 m 7 ls []) := by
      intro c0 c1 u H locs ls h hP hS hl
      subst ek7
      exact ih h hP hS hl
    clear ih ek7
    refine lv_iload_n hx hb dd_Reader_readNumbers_7 rfl (lv_at hl 2 rfl) ?_
    refine lv_iload_n hx hb dd_Reader_readNumbers_8 rfl (lv_at hl 1 rfl) ?_
    refine lv_icmp_ge (tgt := 29) hx hb dd_Reader_readNumbers_9 (by decide) (fun hc => ?_) (fun hc => ?_)
    · have h := xp_t hc h
      refine lv_iload_n hx hb dd_Reader_readNumbers_29 rfl (lv_at hl 1 rfl) ?_
      obtain ⟨rfl, rfl⟩ := xp_r h
      exact xr_iret C hP hS dd_Reader_readNumbers_30
    · have h := xp_f hc h
      refine lv_aload_n hx hb dd_Reader_readNumbers_12 rfl (lv_at hl 0 rfl) ?_
      refine gf_h_Reader_54_code C hP dd_Reader_readNumbers_13 ?_
      refine lv_aload_n hx hb dd_Reader_readNumbers_16 rfl (lv_at hl 0 rfl) ?_
      rcases xp_try h with ⟨a3, u4, hq, h⟩ | ⟨kx, ux, hq, h⟩
      rotate_left
      · obtain ⟨rfl, rfl⟩ := xp_q h
        exact xk_up (xr_V (As := []) (rest := [.ref (ad 12)]) C hP hS (ct_Reader_readNumber htr hok hq) kq_Reader_78 54 7 rfl rfl ⟨rfl, rfl, Nat.le_of_ble_eq_true rfl, Nat.le_of_ble_eq_true rfl⟩ ⟨Nat.le_of_ble_eq_true rfl, Nat.le_of_ble_eq_true rfl⟩ hl.1 rfl rfl (Nat.le_of_ble_eq_true rfl) dd_Reader_readNumbers_17) hS hne C.2.2.2.2.2.2.1
      refine xk_goesI (xr_V (As := []) (rest := [.ref (ad 12)]) C hP hS (ct_Reader_readNumber htr hok hq) kq_Reader_78 54 7 rfl rfl ⟨rfl, rfl, Nat.le_of_ble_eq_true rfl, Nat.le_of_ble_eq_true rfl⟩ ⟨Nat.le_of_ble_eq_true rfl, Nat.le_of_ble_eq_true rfl⟩ hl.1 rfl rfl (Nat.le_of_ble_eq_true rfl) dd_Reader_readNumbers_17) hS (fun H locs hP hS => ?_)
      clear hq
      obtain ⟨rx, u5, hq, h⟩ := xp_seq h
      refine xk_goesV (xr_V (As := [.int a3]) (rest := []) C hP hS (ct_Code_addNumber htr hok hq) kq_Reader_223 12 2 rfl rfl ⟨rfl, rfl, Nat.le_of_ble_eq_true rfl, Nat.le_of_ble_eq_true rfl⟩ ⟨Nat.le_of_ble_eq_true rfl, Nat.le_of_ble_eq_true rfl⟩ hl.1 rfl rfl (Nat.le_of_ble_eq_true rfl) dd_Reader_readNumbers_20) hS (fun H locs hP hS => ?_)
      clear hq
      obtain ⟨a6, ea6, h⟩ := xp_let h
      refine lv_iinc (v := a6) (lv' := [(2, .int a6), (0, .ref (ad 54)), (1, .int b1)]) hx hb dd_Reader_readNumbers_23 hl (k := 2) rfl (by rw [ea6]; first | rfl | decide) (by decide) rfl (fun ls hl => ?_)
      refine lv_goto (tgt := 7) hx hb dd_Reader_readNumbers_26 (by decide) ?_
      exact hk7 b1 a6 u5 _ _ _ h hP hS (lv_sub hl [1, 2, 0] rfl)
set_option maxHeartbeats 4000000 in
set_option maxRecDepth 100000 in
theorem ct_Reader_readNumbers {l : Launch} {D : va_G} {ad : Nat → Nat} {ca : Nat → ClassId} {ads : List Nat} (htr : l.stackTraces = false) (hok : xk_ok (kw_h ad ca) ads) {fu : Nat} {u u' : xk_St} {r : (Int32 ⊕ Nat)} (h : fm_Reader_readNumbers fu u = some (r, u')) :
    ∀ sz, xk_Met l ⟨"ModuleHouse$Reader", "readNumbers", "()I"⟩ (Cond.code ⟨"ModuleHouse$Reader", "readNumbers", "()I"⟩ prog_9_method_26_code 3 (some .int) :: xk_gd) rm_Reader_readNumbers (xk_Pc D kx_cl (kx_ty ca) (kw_h ad ca) ads xk_F sz [.ref (ad 54)] u) (xk_Qc D kx_cl (kw_h ad ca) ads (xo_i r) u') (xk_A ads sz) := by
  unfold fm_Reader_readNumbers at h
  refine xk_con (by decide) htr hok (Nat.le_of_ble_eq_true rfl) (fun p e s m below meth c ls C hne hl hP => ?_)
  have hx := C.1.1
  have hb := C.1.2.1
  have hS : va_S (xk_A ads s.heap.size) s.heap s.heap [] := va_S.rf
  have hl : lv_has ls 3 [(0, .ref (ad 54))] := hl
  refine lv_aload_n hx hb dd_Reader_readNumbers_0 rfl (lv_at hl 0 rfl) ?_
  rcases xp_try h with ⟨a1, u2, hq, h⟩ | ⟨kx, ux, hq, h⟩
  rotate_left
  · obtain ⟨rfl, rfl⟩ := xp_q h
    exact xk_up (xr_V (As := []) (rest := []) C hP hS (ct_Reader_readNumber htr hok hq) kq_Reader_78 54 7 rfl rfl ⟨rfl, rfl, Nat.le_of_ble_eq_true rfl, Nat.le_of_ble_eq_true rfl⟩ ⟨Nat.le_of_ble_eq_true rfl, Nat.le_of_ble_eq_true rfl⟩ hl.1 rfl rfl (Nat.le_of_ble_eq_true rfl) dd_Reader_readNumbers_1) hS hne C.2.2.2.2.2.2.1
  refine xk_goesI (xr_V (As := []) (rest := []) C hP hS (ct_Reader_readNumber htr hok hq) kq_Reader_78 54 7 rfl rfl ⟨rfl, rfl, Nat.le_of_ble_eq_true rfl, Nat.le_of_ble_eq_true rfl⟩ ⟨Nat.le_of_ble_eq_true rfl, Nat.le_of_ble_eq_true rfl⟩ hl.1 rfl rfl (Nat.le_of_ble_eq_true rfl) dd_Reader_readNumbers_1) hS (fun H locs hP hS => ?_)
  clear hq
  refine lv_istore_n (lv' := [(1, .int a1), (0, .ref (ad 54))]) hx hb dd_Reader_readNumbers_4 rfl hl (by decide) rfl (fun ls hl => ?_)
  refine lv_iconst (v := 0) hx hb dd_Reader_readNumbers_5 (by decide) ?_
  refine lv_istore_n (lv' := [(2, .int (0 : Int32)), (1, .int a1), (0, .ref (ad 54))]) hx hb dd_Reader_readNumbers_6 rfl hl (by decide) rfl (fun ls hl => ?_)
  exact wj_Reader_readNumbers_7 htr C hne h hP hS (lv_sub hl [2, 1, 0] rfl)
abbrev rm_Reader_readElements : Room := { frames := 9, cells := 1, slots := 6, locals := 166 }
noncomputable def jb_Reader_readElements_20 (fu : Nat) : Nat → Int32 → Int32 → xk_St → Option ((Unit ⊕ Nat) × xk_St)
  | 0 => fun _ _ _ => none
  | n + 1 => fun b2 b3 u =>
    xs_let (jb_Reader_readElements_20 fu  n) fun k20 =>
    if b2 ≤ b3 then (some (.inl (()), u)) else ((xs_let (if (64 : Int32) < b3 then (64 : Int32) else b3) fun a4 => xs_try (fm_Reader_readPlace fu u) fun a5 u6 => if a4 < 0 ∨ 65 ≤ a4.toNatClampNeg then none else xs_let (xs_B u6 8 a4.toNatClampNeg a5) fun u7 => if a4 < 0 ∨ 65 ≤ a4.toNatClampNeg then none else xs_let (xs_A u7 28 a4.toNatClampNeg (u7.1 9)) fun u8 => xs_try (fm_Reader_readNumbers fu u8) fun a9 u10 => if a4 < 0 ∨ 65 ≤ a4.toNatClampNeg then none else xs_let (xs_A u10 29 a4.toNatClampNeg a9) fun u11 => xs_let (b3 + (1 : Int32)) fun a12 => k20 b2 a12 u11))
noncomputable def fm_Reader_readElements (fu : Nat) (u : xk_St) : Option ((Unit ⊕ Nat) × xk_St) :=
  (xs_try (fm_Reader_readNumber fu u) fun a1 u2 => xs_let (xs_I u2 15 a1) fun u3 => jb_Reader_readElements_20 fu fu a1 (0 : Int32) u3)
set_option maxHeartbeats 4000000 in
set_option maxRecDepth 100000 in
theorem wj_Reader_readElements_20 {p : Program} {l : Launch} {e : Env} {s : State} {m : MethodId} {args : Array Value} {below : List Frame} {meth : Method} {c : Code} {D : va_G} {ad : Nat → Nat} {ca : Nat → ClassId} {ads : List Nat} {fu : Nat} (htr : l.stackTraces = false) (C : xk_C D kx_cl (kx_ty ca) (kw_h ad ca) ads "ModuleHouse$Reader" prog_9_method_25_code 5 none p e s m args meth c) (hne : c.exceptionTable.isEmpty = true) {u' : xk_St} {r : (Unit ⊕ Nat)} : ∀ {n : Nat} {b2 : Int32} {b3 : Int32} {u : xk_St} {H : Heap} {locs : List Loc} {ls : Array Slot} (h : jb_Reader_readElements_20 fu  n b2 b3 u = some (r, u')) (hP : va_P D kx_cl (kw_h ad ca u) H) (hS : va_S (xk_A ads s.heap.size) s.heap H locs) (hl : lv_has ls 5 [(0, .ref (ad 54)), (1, .ref (ad 44)), (2, .int b2), (3, .int b3)]), W p l e rm_Reader_readElements s m args below meth c H locs 0 0 (xk_MQ below (xk_Qc D kx_cl (kw_h ad ca) ads (xo_v r) u') args s (xk_A ads s.heap.size)) (F0 m 20 ls []) := by
  intro n
  have hx := C.1.1
  have hb := C.1.2.1
  have hok := C.2.2.1
  induction n with
  | zero =>
    intro _ _ u H locs ls h
    have h : none = some (r, u') := h
    cases h
  | succ n ih =>
    intro b2 b3 u H locs ls h hP hS hl
    unfold jb_Reader_readElements_20 at h
    obtain ⟨k20, ek20, h⟩ := xp_let h
    have hk20 : ∀ (c0 : Int32) (c1 : Int32) (u : xk_St) (H : Heap) (locs : List Loc) (ls : Array Slot), k20 c0 c1 u = some (r, u') → va_P D kx_cl (kw_h ad ca u) H → va_S (xk_A ads s.heap.size) s.heap H locs → lv_has ls 5 [(0, .ref (ad 54)), (1, .ref (ad 44)), (2, .int c0), (3, .int c1)] → W p l e rm_Reader_readElements s m args below meth c H locs 0 0 (xk_MQ below (xk_Qc D kx_cl (kw_h ad ca) ads (xo_v r) u') args s (xk_A ads s.heap.size)) (F0 m 20 ls []) := by
      intro c0 c1 u H locs ls h hP hS hl
      subst ek20
      exact ih h hP hS hl
    clear ih ek20
    refine lv_iload_n hx hb dd_Reader_readElements_20 rfl (lv_at hl 3 rfl) ?_
    refine lv_iload_n hx hb dd_Reader_readElements_21 rfl (lv_at hl 2 rfl) ?_
    refine lv_icmp_ge (tgt := 75) hx hb dd_Reader_readElements_22 (by decide) (fun hc => ?_) (fun hc => ?_)
    · have h := xp_t hc h
      obtain ⟨rfl, rfl⟩ := xp_r h
      exact xr_vret C hP hS dd_Reader_readElements_75
    · have h := xp_f hc h
      refine lv_iload_n hx hb dd_Reader_readElements_25 rfl (lv_at hl 3 rfl) ?_
      refine lv_bipush (v := 64) hx hb dd_Reader_readElements_26 (by decide) ?_
      refine va_mmin hx hb (C.1.2.2.1.trans hl.1.symm) C.1.2.2.2.1 (C.1.2.2.2.2 _ (xk_c4 (w := Cond.methodLink "ModuleHouse$Reader" 139 Lib.Math.min.name) 159 rfl rfl)) (C.1.2.2.2.2 _ (xk_c3 (w := Cond.static Lib.Math.min.name) 164 rfl rfl)) (C.1.2.2.2.2 _ (xk_c1 (w := Cond.initialized "java/lang/Math") 24 rfl rfl)) (C.1.2.2.2.2 _ (xk_c3 (w := Cond.code Lib.Math.min.name Lib.Math.min.code 2 (some .int)) 165 rfl rfl)) (Nat.le_of_ble_eq_true rfl) (Nat.le_of_ble_eq_true rfl) (Nat.zero_le _) (Nat.zero_le _) dd_Reader_readElements_28 ?_
      obtain ⟨a4, ea4, h⟩ := xp_let h
      refine xr_nami ea4 ?_
      refine lv_istore (lv' := [(4, .int a4), (0, .ref (ad 54)), (1, .ref (ad 44)), (2, .int b2), (3, .int b3)]) hx hb dd_Reader_readElements_31 hl (by decide) rfl (fun ls hl => ?_)
      refine lv_aload_n hx hb dd_Reader_readElements_33 rfl (lv_at hl 2 rfl) ?_
      refine gf_h_Reader_44_number C hP dd_Reader_readElements_34 ?_
      refine lv_iload hx hb dd_Reader_readElements_37 (lv_at hl 0 rfl) ?_
      refine lv_aload_n hx hb dd_Reader_readElements_39 rfl (lv_at hl 1 rfl) ?_
      rcases xp_try h with ⟨a5, u6, hq, h⟩ | ⟨kx, ux, hq, h⟩
      rotate_left
      · obtain ⟨rfl, rfl⟩ := xp_q h
        exact xk_up (xr_V (As := []) (rest := [.int a4, .ref (ad 48)]) C hP hS (ct_Reader_readPlace htr hok hq) kq_Reader_212 54 7 rfl rfl ⟨rfl, rfl, Nat.le_of_ble_eq_true rfl, Nat.le_of_ble_eq_true rfl⟩ ⟨Nat.le_of_ble_eq_true rfl, Nat.le_of_ble_eq_true rfl⟩ hl.1 rfl rfl (Nat.le_of_ble_eq_true rfl) dd_Reader_readElements_40) hS hne C.2.2.2.2.2.2.1
      refine xk_goesL (xr_V (As := []) (rest := [.int a4, .ref (ad 48)]) C hP hS (ct_Reader_readPlace htr hok hq) kq_Reader_212 54 7 rfl rfl ⟨rfl, rfl, Nat.le_of_ble_eq_true rfl, Nat.le_of_ble_eq_true rfl⟩ ⟨Nat.le_of_ble_eq_true rfl, Nat.le_of_ble_eq_true rfl⟩ hl.1 rfl rfl (Nat.le_of_ble_eq_true rfl) dd_Reader_readElements_40) hS (fun H locs hP hS => ?_)
      clear hq
      obtain ⟨hi, h⟩ := xp_g h
      refine as_h_48 C hP hS hi dd_Reader_readElements_43 (fun H locs hP hS => ?_)
      obtain ⟨u7, eu7, h⟩ := xp_let h
      rw [← eu7] at hP
      refine lv_aload_n hx hb dd_Reader_readElements_44 rfl (lv_at hl 2 rfl) ?_
      refine gf_h_Reader_44_first C hP dd_Reader_readElements_45 ?_
      refine lv_iload hx hb dd_Reader_readElements_48 (lv_at hl 0 rfl) ?_
      refine lv_aload_n hx hb dd_Reader_readElements_50 rfl (lv_at hl 1 rfl) ?_
      refine gf_h_Reader_54_code C hP dd_Reader_readElements_51 ?_
      refine gf_h_Reader_12_numbersSize C hP dd_Reader_readElements_54 ?_
      obtain ⟨hi, h⟩ := xp_g h
      refine as_h_46 C hP hS hi dd_Reader_readElements_57 (fun H locs hP hS => ?_)
      obtain ⟨u8, eu8, h⟩ := xp_let h
      rw [← eu8] at hP
      refine lv_aload_n hx hb dd_Reader_readElements_58 rfl (lv_at hl 2 rfl) ?_
      refine gf_h_Reader_44_second C hP dd_Reader_readElements_59 ?_
      refine lv_iload hx hb dd_Reader_readElements_62 (lv_at hl 0 rfl) ?_
      refine lv_aload_n hx hb dd_Reader_readElements_64 rfl (lv_at hl 1 rfl) ?_
      rcases xp_try h with ⟨a9, u10, hq, h⟩ | ⟨kx, ux, hq, h⟩
      rotate_left
      · obtain ⟨rfl, rfl⟩ := xp_q h
        exact xk_up (xr_V (As := []) (rest := [.int a4, .ref (ad 47)]) C hP hS (ct_Reader_readNumbers htr hok hq) kq_Reader_220 54 7 rfl rfl ⟨rfl, rfl, Nat.le_of_ble_eq_true rfl, Nat.le_of_ble_eq_true rfl⟩ ⟨Nat.le_of_ble_eq_true rfl, Nat.le_of_ble_eq_true rfl⟩ hl.1 rfl rfl (Nat.le_of_ble_eq_true rfl) dd_Reader_readElements_65) hS hne C.2.2.2.2.2.2.1
      refine xk_goesI (xr_V (As := []) (rest := [.int a4, .ref (ad 47)]) C hP hS (ct_Reader_readNumbers htr hok hq) kq_Reader_220 54 7 rfl rfl ⟨rfl, rfl, Nat.le_of_ble_eq_true rfl, Nat.le_of_ble_eq_true rfl⟩ ⟨Nat.le_of_ble_eq_true rfl, Nat.le_of_ble_eq_true rfl⟩ hl.1 rfl rfl (Nat.le_of_ble_eq_true rfl) dd_Reader_readElements_65) hS (fun H locs hP hS => ?_)
      clear hq
      obtain ⟨hi, h⟩ := xp_g h
      refine as_h_47 C hP hS hi dd_Reader_readElements_68 (fun H locs hP hS => ?_)
      obtain ⟨u11, eu11, h⟩ := xp_let h
      rw [← eu11] at hP
      obtain ⟨a12, ea12, h⟩ := xp_let h
      refine lv_iinc (v := a12) (lv' := [(3, .int a12), (4, .int a4), (0, .ref (ad 54)), (1, .ref (ad 44)), (2, .int b2)]) hx hb dd_Reader_readElements_69 hl (k := 4) rfl (by rw [ea12]; first | rfl | decide) (by decide) rfl (fun ls hl => ?_)
      refine lv_goto (tgt := 20) hx hb dd_Reader_readElements_72 (by decide) ?_
      exact hk20 b2 a12 u11 _ _ _ h hP hS (lv_sub hl [2, 3, 4, 0] rfl)
set_option maxHeartbeats 4000000 in
set_option maxRecDepth 100000 in
theorem ct_Reader_readElements {l : Launch} {D : va_G} {ad : Nat → Nat} {ca : Nat → ClassId} {ads : List Nat} (htr : l.stackTraces = false) (hok : xk_ok (kw_h ad ca) ads) {fu : Nat} {u u' : xk_St} {r : (Unit ⊕ Nat)} (h : fm_Reader_readElements fu u = some (r, u')) :
    ∀ sz, xk_Met l ⟨"ModuleHouse$Reader", "readElements", "()V"⟩ (Cond.code ⟨"ModuleHouse$Reader", "readElements", "()V"⟩ prog_9_method_25_code 5 none :: xk_gd) rm_Reader_readElements (xk_Pc D kx_cl (kx_ty ca) (kw_h ad ca) ads xk_F sz [.ref (ad 54)] u) (xk_Qc D kx_cl (kw_h ad ca) ads (xo_v r) u') (xk_A ads sz) := by
  unfold fm_Reader_readElements at h
  refine xk_con (by decide) htr hok (Nat.le_of_ble_eq_true rfl) (fun p e s m below meth c ls C hne hl hP => ?_)
  have hx := C.1.1
  have hb := C.1.2.1
  have hS : va_S (xk_A ads s.heap.size) s.heap s.heap [] := va_S.rf
  have hl : lv_has ls 5 [(0, .ref (ad 54))] := hl
  refine lv_aload_n hx hb dd_Reader_readElements_0 rfl (lv_at hl 0 rfl) ?_
  refine gf_h_Reader_54_module C hP dd_Reader_readElements_1 ?_
  refine gf_h_Reader_4_elements C hP dd_Reader_readElements_4 ?_
  refine lv_astore_n (lv' := [(1, .ref (ad 44)), (0, .ref (ad 54))]) hx hb dd_Reader_readElements_7 rfl hl (by decide) rfl (fun ls hl => ?_)
  refine lv_aload_n hx hb dd_Reader_readElements_8 rfl (lv_at hl 1 rfl) ?_
  rcases xp_try h with ⟨a1, u2, hq, h⟩ | ⟨kx, ux, hq, h⟩
  rotate_left
  · obtain ⟨rfl, rfl⟩ := xp_q h
    exact xk_up (xr_V (As := []) (rest := []) C hP hS (ct_Reader_readNumber htr hok hq) kq_Reader_78 54 7 rfl rfl ⟨rfl, rfl, Nat.le_of_ble_eq_true rfl, Nat.le_of_ble_eq_true rfl⟩ ⟨Nat.le_of_ble_eq_true rfl, Nat.le_of_ble_eq_true rfl⟩ hl.1 rfl rfl (Nat.le_of_ble_eq_true rfl) dd_Reader_readElements_9) hS hne C.2.2.2.2.2.2.1
  refine xk_goesI (xr_V (As := []) (rest := []) C hP hS (ct_Reader_readNumber htr hok hq) kq_Reader_78 54 7 rfl rfl ⟨rfl, rfl, Nat.le_of_ble_eq_true rfl, Nat.le_of_ble_eq_true rfl⟩ ⟨Nat.le_of_ble_eq_true rfl, Nat.le_of_ble_eq_true rfl⟩ hl.1 rfl rfl (Nat.le_of_ble_eq_true rfl) dd_Reader_readElements_9) hS (fun H locs hP hS => ?_)
  clear hq
  refine lv_istore_n (lv' := [(2, .int a1), (1, .ref (ad 44)), (0, .ref (ad 54))]) hx hb dd_Reader_readElements_12 rfl hl (by decide) rfl (fun ls hl => ?_)
  refine lv_aload_n hx hb dd_Reader_readElements_13 rfl (lv_at hl 1 rfl) ?_
  refine lv_iload_n hx hb dd_Reader_readElements_14 rfl (lv_at hl 0 rfl) ?_
  refine pf_h_Reader_44_count C hP hS dd_Reader_readElements_15 (fun H locs hP hS => ?_)
  obtain ⟨u3, eu3, h⟩ := xp_let h
  rw [← eu3] at hP
  refine lv_iconst (v := 0) hx hb dd_Reader_readElements_18 (by decide) ?_
  refine lv_istore_n (lv' := [(3, .int (0 : Int32)), (2, .int a1), (1, .ref (ad 44)), (0, .ref (ad 54))]) hx hb dd_Reader_readElements_19 rfl hl (by decide) rfl (fun ls hl => ?_)
  exact wj_Reader_readElements_20 htr C hne h hP hS (lv_sub hl [3, 2, 1, 0] rfl)
abbrev rm_Code_add : Room := { frames := 1, cells := 1, slots := 6, locals := 0 }
noncomputable def fm_Code_add (x0 : Int32) (x1 : Int32) (x2 : Int64) (u : xk_St) : Option (Unit × xk_St) :=
  if (8192 : Int32) ≤ (u.1 8) then (some ((()), u)) else ((if (u.1 8) < 0 ∨ 8192 ≤ (u.1 8).toNatClampNeg then none else xs_let (xs_A u 7 (u.1 8).toNatClampNeg (vp_nar .short (x0.toInt16.toInt32))) fun u1 => if (u1.1 8) < 0 ∨ 8192 ≤ (u1.1 8).toNatClampNeg then none else xs_let (xs_A u1 8 (u1.1 8).toNatClampNeg x1) fun u2 => if (u2.1 8) < 0 ∨ 8192 ≤ (u2.1 8).toNatClampNeg then none else xs_let (xs_B u2 2 (u2.1 8).toNatClampNeg x2) fun u3 => xs_let (xs_I u3 8 ((u3.1 8) + (1 : Int32))) fun u4 => some ((()), u4)))
set_option maxHeartbeats 4000000 in
set_option maxRecDepth 100000 in
theorem ct_Code_add {l : Launch} {D : va_G} {ad : Nat → Nat} {ca : Nat → ClassId} {ads : List Nat} (htr : l.stackTraces = false) (hok : xk_ok (kw_h ad ca) ads) {x0 : Int32} {x1 : Int32} {x2 : Int64} {u u' : xk_St} {r : Unit} (h : fm_Code_add x0 x1 x2 u = some (r, u')) :
    ∀ sz, xk_Met l ⟨"ModuleHouse$Code", "add", "(IIJ)V"⟩ (Cond.code ⟨"ModuleHouse$Code", "add", "(IIJ)V"⟩ prog_3_method_2_code 5 none :: xk_gd) rm_Code_add (xk_Pc D kx_cl (kx_ty ca) (kw_h ad ca) ads xk_F sz [.ref (ad 12), .int x0, .int x1, .long x2] u) (xk_Qc D kx_cl (kw_h ad ca) ads (xo_v (.inl r)) u') (xk_A ads sz) := by
  unfold fm_Code_add at h
  refine xk_con (by decide) htr hok (Nat.le_of_ble_eq_true rfl) (fun p e s m below meth c ls C hne hl hP => ?_)
  have hx := C.1.1
  have hb := C.1.2.1
  have hS : va_S (xk_A ads s.heap.size) s.heap s.heap [] := va_S.rf
  have hl : lv_has ls 5 [(0, .ref (ad 12)), (1, .int x0), (2, .int x1), (3, .long x2)] := hl
  refine lv_aload_n hx hb dd_Code_add_0 rfl (lv_at hl 0 rfl) ?_
  refine gf_h_Code_12_size C hP dd_Code_add_1 ?_
  refine lv_sipush (v := 8192) hx hb dd_Code_add_4 (by decide) ?_
  refine lv_icmp_ge (tgt := 51) hx hb dd_Code_add_7 (by decide) (fun hc => ?_) (fun hc => ?_)
  · have h := xp_t hc h
    obtain ⟨rfl, rfl⟩ := xp_r h
    exact xr_vret C hP hS dd_Code_add_51
  · have h := xp_f hc h
    refine lv_aload_n hx hb dd_Code_add_10 rfl (lv_at hl 0 rfl) ?_
    refine gf_h_Code_12_op C hP dd_Code_add_11 ?_
    refine lv_aload_n hx hb dd_Code_add_14 rfl (lv_at hl 0 rfl) ?_
    refine gf_h_Code_12_size C hP dd_Code_add_15 ?_
    refine lv_iload_n hx hb dd_Code_add_18 rfl (lv_at hl 1 rfl) ?_
    refine lv_i2s hx hb dd_Code_add_19 rfl ?_
    obtain ⟨hi, h⟩ := xp_g h
    refine as_h_13 C hP hS hi dd_Code_add_20 (fun H locs hP hS => ?_)
    obtain ⟨u1, eu1, h⟩ := xp_let h
    rw [← eu1] at hP
    refine lv_aload_n hx hb dd_Code_add_21 rfl (lv_at hl 0 rfl) ?_
    refine gf_h_Code_12_first C hP dd_Code_add_22 ?_
    refine lv_aload_n hx hb dd_Code_add_25 rfl (lv_at hl 0 rfl) ?_
    refine gf_h_Code_12_size C hP dd_Code_add_26 ?_
    refine lv_iload_n hx hb dd_Code_add_29 rfl (lv_at hl 2 rfl) ?_
    obtain ⟨hi, h⟩ := xp_g h
    refine as_h_14 C hP hS hi dd_Code_add_30 (fun H locs hP hS => ?_)
    obtain ⟨u2, eu2, h⟩ := xp_let h
    rw [← eu2] at hP
    refine lv_aload_n hx hb dd_Code_add_31 rfl (lv_at hl 0 rfl) ?_
    refine gf_h_Code_12_second C hP dd_Code_add_32 ?_
    refine lv_aload_n hx hb dd_Code_add_35 rfl (lv_at hl 0 rfl) ?_
    refine gf_h_Code_12_size C hP dd_Code_add_36 ?_
    refine lv_lload_n hx hb dd_Code_add_39 rfl (lv_at hl 3 rfl) ?_
    obtain ⟨hi, h⟩ := xp_g h
    refine as_h_15 C hP hS hi dd_Code_add_40 (fun H locs hP hS => ?_)
    obtain ⟨u3, eu3, h⟩ := xp_let h
    rw [← eu3] at hP
    refine lv_aload_n hx hb dd_Code_add_41 rfl (lv_at hl 0 rfl) ?_
    refine lv_dup hx hb dd_Code_add_42 rfl ?_
    refine gf_h_Code_12_size C hP dd_Code_add_43 ?_
    refine lv_iconst (v := 1) hx hb dd_Code_add_46 (by decide) ?_
    refine lv_iadd hx hb dd_Code_add_47 ?_
    refine pf_h_Code_12_size C hP hS dd_Code_add_48 (fun H locs hP hS => ?_)
    obtain ⟨u4, eu4, h⟩ := xp_let h
    rw [← eu4] at hP
    obtain ⟨rfl, rfl⟩ := xp_r h
    exact xr_vret C hP hS dd_Code_add_51
abbrev rm_Code_opened : Room := { frames := 1, cells := 1, slots := 6, locals := 0 }
noncomputable def fm_Code_opened (x0 : Int32) (u : xk_St) : Option (Int32 × xk_St) :=
  (if ((u.1 8) - (1 : Int32)) < 0 ∨ 8192 ≤ ((u.1 8) - (1 : Int32)).toNatClampNeg then none else xs_let (xs_A u 9 ((u.1 8) - (1 : Int32)).toNatClampNeg x0) fun u1 => some (((u1.1 8) - (1 : Int32)), u1))
set_option maxHeartbeats 4000000 in
set_option maxRecDepth 100000 in
theorem ct_Code_opened {l : Launch} {D : va_G} {ad : Nat → Nat} {ca : Nat → ClassId} {ads : List Nat} (htr : l.stackTraces = false) (hok : xk_ok (kw_h ad ca) ads) {x0 : Int32} {u u' : xk_St} {r : Int32} (h : fm_Code_opened x0 u = some (r, u')) :
    ∀ sz, xk_Met l ⟨"ModuleHouse$Code", "opened", "(I)I"⟩ (Cond.code ⟨"ModuleHouse$Code", "opened", "(I)I"⟩ prog_3_method_4_code 2 (some .int) :: xk_gd) rm_Code_opened (xk_Pc D kx_cl (kx_ty ca) (kw_h ad ca) ads xk_F sz [.ref (ad 12), .int x0] u) (xk_Qc D kx_cl (kw_h ad ca) ads (xo_i (.inl r)) u') (xk_A ads sz) := by
  unfold fm_Code_opened at h
  refine xk_con (by decide) htr hok (Nat.le_of_ble_eq_true rfl) (fun p e s m below meth c ls C hne hl hP => ?_)
  have hx := C.1.1
  have hb := C.1.2.1
  have hS : va_S (xk_A ads s.heap.size) s.heap s.heap [] := va_S.rf
  have hl : lv_has ls 2 [(0, .ref (ad 12)), (1, .int x0)] := hl
  refine lv_aload_n hx hb dd_Code_opened_0 rfl (lv_at hl 0 rfl) ?_
  refine gf_h_Code_12_mate C hP dd_Code_opened_1 ?_
  refine lv_aload_n hx hb dd_Code_opened_4 rfl (lv_at hl 0 rfl) ?_
  refine gf_h_Code_12_size C hP dd_Code_opened_5 ?_
  refine lv_iconst (v := 1) hx hb dd_Code_opened_8 (by decide) ?_
  refine lv_isub hx hb dd_Code_opened_9 ?_
  refine lv_iload_n hx hb dd_Code_opened_10 rfl (lv_at hl 1 rfl) ?_
  obtain ⟨hi, h⟩ := xp_g h
  refine as_h_16 C hP hS hi dd_Code_opened_11 (fun H locs hP hS => ?_)
  obtain ⟨u1, eu1, h⟩ := xp_let h
  rw [← eu1] at hP
  refine lv_aload_n hx hb dd_Code_opened_12 rfl (lv_at hl 0 rfl) ?_
  refine gf_h_Code_12_size C hP dd_Code_opened_13 ?_
  refine lv_iconst (v := 1) hx hb dd_Code_opened_16 (by decide) ?_
  refine lv_isub hx hb dd_Code_opened_17 ?_
  obtain ⟨rfl, rfl⟩ := xp_r h
  exact xr_iret C hP hS dd_Code_opened_18
abbrev rm_Reader_readLocals : Room := { frames := 9, cells := 1, slots := 6, locals := 171 }
noncomputable def jb_Reader_readLocals_7 (fu : Nat) : Nat → Int32 → Int32 → xk_St → Option ((Unit ⊕ Nat) × xk_St)
  | 0 => fun _ _ _ => none
  | n + 1 => fun b1 b2 u =>
    xs_let (jb_Reader_readLocals_7 fu  n) fun k7 =>
    if b1 ≤ b2 then (some (.inl (()), u)) else ((xs_try (fm_Reader_readNumber fu u) fun a3 u4 => xs_try (fm_Reader_readValueType fu u4) fun a5 u6 => xs_seq (fm_Code_add (8 : Int32) a3 (a5.toInt64) u6) fun _ u7 => xs_let (b2 + (1 : Int32)) fun a8 => k7 b1 a8 u7))
noncomputable def fm_Reader_readLocals (fu : Nat) (u : xk_St) : Option ((Unit ⊕ Nat) × xk_St) :=
  (xs_try (fm_Reader_readNumber fu u) fun a1 u2 => jb_Reader_readLocals_7 fu fu a1 (0 : Int32) u2)
set_option maxHeartbeats 4000000 in
set_option maxRecDepth 100000 in
theorem wj_Reader_readLocals_7 {p : Program} {l : Launch} {e : Env} {s : State} {m : MethodId} {args : Array Value} {below : List Frame} {meth : Method} {c : Code} {D : va_G} {ad : Nat → Nat} {ca : Nat → ClassId} {ads : List Nat} {fu : Nat} (htr : l.stackTraces = false) (C : xk_C D kx_cl (kx_ty ca) (kw_h ad ca) ads "ModuleHouse$Reader" prog_9_method_29_code 4 none p e s m args meth c) (hne : c.exceptionTable.isEmpty = true) {u' : xk_St} {r : (Unit ⊕ Nat)} : ∀ {n : Nat} {b1 : Int32} {b2 : Int32} {u : xk_St} {H : Heap} {locs : List Loc} {ls : Array Slot} (h : jb_Reader_readLocals_7 fu  n b1 b2 u = some (r, u')) (hP : va_P D kx_cl (kw_h ad ca u) H) (hS : va_S (xk_A ads s.heap.size) s.heap H locs) (hl : lv_has ls 4 [(0, .ref (ad 54)), (1, .int b1), (2, .int b2)]), W p l e rm_Reader_readLocals s m args below meth c H locs 0 0 (xk_MQ below (xk_Qc D kx_cl (kw_h ad ca) ads (xo_v r) u') args s (xk_A ads s.heap.size)) (F0 m 7 ls []) := by
  intro n
  have hx := C.1.1
  have hb := C.1.2.1
  have hok := C.2.2.1
  induction n with
  | zero =>
    intro _ _ u H locs ls h
    have h : none = some (r, u') := h
    cases h
  | succ n ih =>
    intro b1 b2 u H locs ls h hP hS hl
    unfold jb_Reader_readLocals_7 at h
    obtain ⟨k7, ek7, h⟩ := xp_let h
    have hk7 : ∀ (c0 : Int32) (c1 : Int32) (u : xk_St) (H : Heap) (locs : List Loc) (ls : Array Slot), k7 c0 c1 u = some (r, u') → va_P D kx_cl (kw_h ad ca u) H → va_S (xk_A ads s.heap.size) s.heap H locs → lv_has ls 4 [(0, .ref (ad 54)), (1, .int c0), (2, .int c1)] → W p l e rm_Reader_readLocals s m args below meth c H locs 0 0 (xk_MQ below (xk_Qc D kx_cl (kw_h ad ca) ads (xo_v r) u') args s (xk_A ads s.heap.size)) (F0 m 7 ls []) := by
      intro c0 c1 u H locs ls h hP hS hl
      subst ek7
      exact ih h hP hS hl
    clear ih ek7
    refine lv_iload_n hx hb dd_Reader_readLocals_7 rfl (lv_at hl 2 rfl) ?_
    refine lv_iload_n hx hb dd_Reader_readLocals_8 rfl (lv_at hl 1 rfl) ?_
    refine lv_icmp_ge (tgt := 38) hx hb dd_Reader_readLocals_9 (by decide) (fun hc => ?_) (fun hc => ?_)
    · have h := xp_t hc h
      obtain ⟨rfl, rfl⟩ := xp_r h
      exact xr_vret C hP hS dd_Reader_readLocals_38
    · have h := xp_f hc h
      refine lv_aload_n hx hb dd_Reader_readLocals_12 rfl (lv_at hl 0 rfl) ?_
      rcases xp_try h with ⟨a3, u4, hq, h⟩ | ⟨kx, ux, hq, h⟩
      rotate_left
      · obtain ⟨rfl, rfl⟩ := xp_q h
        exact xk_up (xr_V (As := []) (rest := []) C hP hS (ct_Reader_readNumber htr hok hq) kq_Reader_78 54 7 rfl rfl ⟨rfl, rfl, Nat.le_of_ble_eq_true rfl, Nat.le_of_ble_eq_true rfl⟩ ⟨Nat.le_of_ble_eq_true rfl, Nat.le_of_ble_eq_true rfl⟩ hl.1 rfl rfl (Nat.le_of_ble_eq_true rfl) dd_Reader_readLocals_13) hS hne C.2.2.2.2.2.2.1
      refine xk_goesI (xr_V (As := []) (rest := []) C hP hS (ct_Reader_readNumber htr hok hq) kq_Reader_78 54 7 rfl rfl ⟨rfl, rfl, Nat.le_of_ble_eq_true rfl, Nat.le_of_ble_eq_true rfl⟩ ⟨Nat.le_of_ble_eq_true rfl, Nat.le_of_ble_eq_true rfl⟩ hl.1 rfl rfl (Nat.le_of_ble_eq_true rfl) dd_Reader_readLocals_13) hS (fun H locs hP hS => ?_)
      clear hq
      refine lv_istore_n (lv' := [(3, .int a3), (0, .ref (ad 54)), (1, .int b1), (2, .int b2)]) hx hb dd_Reader_readLocals_16 rfl hl (by decide) rfl (fun ls hl => ?_)
      refine lv_aload_n hx hb dd_Reader_readLocals_17 rfl (lv_at hl 1 rfl) ?_
      refine gf_h_Reader_54_code C hP dd_Reader_readLocals_18 ?_
      refine lv_bipush (v := 8) hx hb dd_Reader_readLocals_21 (by decide) ?_
      refine lv_iload_n hx hb dd_Reader_readLocals_23 rfl (lv_at hl 0 rfl) ?_
      refine lv_aload_n hx hb dd_Reader_readLocals_24 rfl (lv_at hl 1 rfl) ?_
      rcases xp_try h with ⟨a5, u6, hq, h⟩ | ⟨kx, ux, hq, h⟩
      rotate_left
      · obtain ⟨rfl, rfl⟩ := xp_q h
        exact xk_up (xr_V (As := []) (rest := [.int a3, .int (8 : Int32), .ref (ad 12)]) C hP hS (ct_Reader_readValueType htr hok hq) kq_Reader_133 54 7 rfl rfl ⟨rfl, rfl, Nat.le_of_ble_eq_true rfl, Nat.le_of_ble_eq_true rfl⟩ ⟨Nat.le_of_ble_eq_true rfl, Nat.le_of_ble_eq_true rfl⟩ hl.1 rfl rfl (Nat.le_of_ble_eq_true rfl) dd_Reader_readLocals_25) hS hne C.2.2.2.2.2.2.1
      refine xk_goesI (xr_V (As := []) (rest := [.int a3, .int (8 : Int32), .ref (ad 12)]) C hP hS (ct_Reader_readValueType htr hok hq) kq_Reader_133 54 7 rfl rfl ⟨rfl, rfl, Nat.le_of_ble_eq_true rfl, Nat.le_of_ble_eq_true rfl⟩ ⟨Nat.le_of_ble_eq_true rfl, Nat.le_of_ble_eq_true rfl⟩ hl.1 rfl rfl (Nat.le_of_ble_eq_true rfl) dd_Reader_readLocals_25) hS (fun H locs hP hS => ?_)
      clear hq
      refine lv_i2l hx hb dd_Reader_readLocals_28 rfl ?_
      obtain ⟨rx, u7, hq, h⟩ := xp_seq h
      refine xk_goesV (xr_V (As := [.int (8 : Int32), .int a3, .long (a5.toInt64)]) (rest := []) C hP hS (ct_Code_add htr hok hq) kq_Reader_235 12 2 rfl rfl ⟨rfl, rfl, Nat.le_of_ble_eq_true rfl, Nat.le_of_ble_eq_true rfl⟩ ⟨Nat.le_of_ble_eq_true rfl, Nat.le_of_ble_eq_true rfl⟩ hl.1 rfl rfl (Nat.le_of_ble_eq_true rfl) dd_Reader_readLocals_29) hS (fun H locs hP hS => ?_)
      clear hq
      obtain ⟨a8, ea8, h⟩ := xp_let h
      refine lv_iinc (v := a8) (lv' := [(2, .int a8), (3, .int a3), (0, .ref (ad 54)), (1, .int b1)]) hx hb dd_Reader_readLocals_32 hl (k := 3) rfl (by rw [ea8]; first | rfl | decide) (by decide) rfl (fun ls hl => ?_)
      refine lv_goto (tgt := 7) hx hb dd_Reader_readLocals_35 (by decide) ?_
      exact hk7 b1 a8 u7 _ _ _ h hP hS (lv_sub hl [2, 3, 0] rfl)
set_option maxHeartbeats 4000000 in
set_option maxRecDepth 100000 in
theorem ct_Reader_readLocals {l : Launch} {D : va_G} {ad : Nat → Nat} {ca : Nat → ClassId} {ads : List Nat} (htr : l.stackTraces = false) (hok : xk_ok (kw_h ad ca) ads) {fu : Nat} {u u' : xk_St} {r : (Unit ⊕ Nat)} (h : fm_Reader_readLocals fu u = some (r, u')) :
    ∀ sz, xk_Met l ⟨"ModuleHouse$Reader", "readLocals", "()V"⟩ (Cond.code ⟨"ModuleHouse$Reader", "readLocals", "()V"⟩ prog_9_method_29_code 4 none :: xk_gd) rm_Reader_readLocals (xk_Pc D kx_cl (kx_ty ca) (kw_h ad ca) ads xk_F sz [.ref (ad 54)] u) (xk_Qc D kx_cl (kw_h ad ca) ads (xo_v r) u') (xk_A ads sz) := by
  unfold fm_Reader_readLocals at h
  refine xk_con (by decide) htr hok (Nat.le_of_ble_eq_true rfl) (fun p e s m below meth c ls C hne hl hP => ?_)
  have hx := C.1.1
  have hb := C.1.2.1
  have hS : va_S (xk_A ads s.heap.size) s.heap s.heap [] := va_S.rf
  have hl : lv_has ls 4 [(0, .ref (ad 54))] := hl
  refine lv_aload_n hx hb dd_Reader_readLocals_0 rfl (lv_at hl 0 rfl) ?_
  rcases xp_try h with ⟨a1, u2, hq, h⟩ | ⟨kx, ux, hq, h⟩
  rotate_left
  · obtain ⟨rfl, rfl⟩ := xp_q h
    exact xk_up (xr_V (As := []) (rest := []) C hP hS (ct_Reader_readNumber htr hok hq) kq_Reader_78 54 7 rfl rfl ⟨rfl, rfl, Nat.le_of_ble_eq_true rfl, Nat.le_of_ble_eq_true rfl⟩ ⟨Nat.le_of_ble_eq_true rfl, Nat.le_of_ble_eq_true rfl⟩ hl.1 rfl rfl (Nat.le_of_ble_eq_true rfl) dd_Reader_readLocals_1) hS hne C.2.2.2.2.2.2.1
  refine xk_goesI (xr_V (As := []) (rest := []) C hP hS (ct_Reader_readNumber htr hok hq) kq_Reader_78 54 7 rfl rfl ⟨rfl, rfl, Nat.le_of_ble_eq_true rfl, Nat.le_of_ble_eq_true rfl⟩ ⟨Nat.le_of_ble_eq_true rfl, Nat.le_of_ble_eq_true rfl⟩ hl.1 rfl rfl (Nat.le_of_ble_eq_true rfl) dd_Reader_readLocals_1) hS (fun H locs hP hS => ?_)
  clear hq
  refine lv_istore_n (lv' := [(1, .int a1), (0, .ref (ad 54))]) hx hb dd_Reader_readLocals_4 rfl hl (by decide) rfl (fun ls hl => ?_)
  refine lv_iconst (v := 0) hx hb dd_Reader_readLocals_5 (by decide) ?_
  refine lv_istore_n (lv' := [(2, .int (0 : Int32)), (1, .int a1), (0, .ref (ad 54))]) hx hb dd_Reader_readLocals_6 rfl hl (by decide) rfl (fun ls hl => ?_)
  exact wj_Reader_readLocals_7 htr C hne h hP hS (lv_sub hl [2, 1, 0] rfl)
abbrev rm_Reader_readBlockType : Room := { frames := 9, cells := 1, slots := 6, locals := 171 }
noncomputable def jb_Reader_readBlockType_84 (fu : Nat) (u : xk_St) : Option ((Int32 ⊕ Nat) × xk_St) :=
  (xs_try (fm_Reader_readValueType fu u) fun a4 u5 => some (.inl a4, u5))
noncomputable def fm_Reader_readBlockType (fu : Nat) (u : xk_St) : Option ((Int32 ⊕ Nat) × xk_St) :=
  (xs_try (fm_Reader_peekByte u) fun a1 u2 => if a1 = (64 : Int32) then ((xs_let (xs_I u2 17 ((u2.1 17) + (1 : Int32))) fun u3 => some (.inl (0 : Int32), u3))) else if a1 = (99 : Int32) then (jb_Reader_readBlockType_84 fu u2) else if a1 = (100 : Int32) then (jb_Reader_readBlockType_84 fu u2) else if a1 = (108 : Int32) then (jb_Reader_readBlockType_84 fu u2) else if a1 = (109 : Int32) then (jb_Reader_readBlockType_84 fu u2) else if a1 = (126 : Int32) then (jb_Reader_readBlockType_84 fu u2) else if a1 = (127 : Int32) then (jb_Reader_readBlockType_84 fu u2) else ((xs_try (fm_Reader_readSigned fu (33 : Int32) u2) fun a6 u7 => if (0 : Int64) ≤ a6 then (some (.inl ((1024 : Int32) + ((if (64 : Int64) < a6 then (64 : Int64) else a6).toInt32)), u7)) else (some (.inr 0, u7)))))
set_option maxHeartbeats 4000000 in
set_option maxRecDepth 100000 in
theorem wj_Reader_readBlockType_84 {p : Program} {l : Launch} {e : Env} {s : State} {m : MethodId} {args : Array Value} {below : List Frame} {meth : Method} {c : Code} {D : va_G} {ad : Nat → Nat} {ca : Nat → ClassId} {ads : List Nat} {fu : Nat} (htr : l.stackTraces = false) (C : xk_C D kx_cl (kx_ty ca) (kw_h ad ca) ads "ModuleHouse$Reader" prog_9_method_13_code 3 (some .int) p e s m args meth c) (hne : c.exceptionTable.isEmpty = true) {u' : xk_St} {r : (Int32 ⊕ Nat)} {u : xk_St} {H : Heap} {locs : List Loc} {ls : Array Slot} (h : jb_Reader_readBlockType_84 fu   u = some (r, u')) (hP : va_P D kx_cl (kw_h ad ca u) H) (hS : va_S (xk_A ads s.heap.size) s.heap H locs) (hl : lv_has ls 3 [(0, .ref (ad 54))]) : W p l e rm_Reader_readBlockType s m args below meth c H locs 0 0 (xk_MQ below (xk_Qc D kx_cl (kw_h ad ca) ads (xo_i r) u') args s (xk_A ads s.heap.size)) (F0 m 84 ls []) := by
  have hx := C.1.1
  have hb := C.1.2.1
  have hok := C.2.2.1
  unfold jb_Reader_readBlockType_84 at h
  refine lv_aload_n hx hb dd_Reader_readBlockType_84 rfl (lv_at hl 0 rfl) ?_
  rcases xp_try h with ⟨a4, u5, hq, h⟩ | ⟨kx, ux, hq, h⟩
  rotate_left
  · obtain ⟨rfl, rfl⟩ := xp_q h
    exact xk_up (xr_V (As := []) (rest := []) C hP hS (ct_Reader_readValueType htr hok hq) kq_Reader_133 54 7 rfl rfl ⟨rfl, rfl, Nat.le_of_ble_eq_true rfl, Nat.le_of_ble_eq_true rfl⟩ ⟨Nat.le_of_ble_eq_true rfl, Nat.le_of_ble_eq_true rfl⟩ hl.1 rfl rfl (Nat.le_of_ble_eq_true rfl) dd_Reader_readBlockType_85) hS hne C.2.2.2.2.2.2.1
  refine xk_goesI (xr_V (As := []) (rest := []) C hP hS (ct_Reader_readValueType htr hok hq) kq_Reader_133 54 7 rfl rfl ⟨rfl, rfl, Nat.le_of_ble_eq_true rfl, Nat.le_of_ble_eq_true rfl⟩ ⟨Nat.le_of_ble_eq_true rfl, Nat.le_of_ble_eq_true rfl⟩ hl.1 rfl rfl (Nat.le_of_ble_eq_true rfl) dd_Reader_readBlockType_85) hS (fun H locs hP hS => ?_)
  clear hq
  obtain ⟨rfl, rfl⟩ := xp_r h
  exact xr_iret C hP hS dd_Reader_readBlockType_88
set_option maxHeartbeats 4000000 in
set_option maxRecDepth 100000 in
theorem ct_Reader_readBlockType {l : Launch} {D : va_G} {ad : Nat → Nat} {ca : Nat → ClassId} {ads : List Nat} (htr : l.stackTraces = false) (hok : xk_ok (kw_h ad ca) ads) {fu : Nat} {u u' : xk_St} {r : (Int32 ⊕ Nat)} (h : fm_Reader_readBlockType fu u = some (r, u')) :
    ∀ sz, xk_Met l ⟨"ModuleHouse$Reader", "readBlockType", "()I"⟩ (Cond.code ⟨"ModuleHouse$Reader", "readBlockType", "()I"⟩ prog_9_method_13_code 3 (some .int) :: xk_gd) rm_Reader_readBlockType (xk_Pc D kx_cl (kx_ty ca) (kw_h ad ca) ads xk_F sz [.ref (ad 54)] u) (xk_Qc D kx_cl (kw_h ad ca) ads (xo_i r) u') (xk_A ads sz) := by
  unfold fm_Reader_readBlockType at h
  refine xk_con (by decide) htr hok (Nat.le_of_ble_eq_true rfl) (fun p e s m below meth c ls C hne hl hP => ?_)
  have hx := C.1.1
  have hb := C.1.2.1
  have hS : va_S (xk_A ads s.heap.size) s.heap s.heap [] := va_S.rf
  have hl : lv_has ls 3 [(0, .ref (ad 54))] := hl
  refine lv_aload_n hx hb dd_Reader_readBlockType_0 rfl (lv_at hl 0 rfl) ?_
  rcases xp_try h with ⟨a1, u2, hq, h⟩ | ⟨kx, ux, hq, h⟩
  rotate_left
  · obtain ⟨rfl, rfl⟩ := xp_q h
    exact xk_up (xr_V (As := []) (rest := []) C hP hS (ct_Reader_peekByte htr hok hq) kq_Reader_115 54 7 rfl rfl ⟨rfl, rfl, Nat.le_of_ble_eq_true rfl, Nat.le_of_ble_eq_true rfl⟩ ⟨Nat.le_of_ble_eq_true rfl, Nat.le_of_ble_eq_true rfl⟩ hl.1 rfl rfl (Nat.le_of_ble_eq_true rfl) dd_Reader_readBlockType_1) hS hne C.2.2.2.2.2.2.1
  refine xk_goesI (xr_V (As := []) (rest := []) C hP hS (ct_Reader_peekByte htr hok hq) kq_Reader_115 54 7 rfl rfl ⟨rfl, rfl, Nat.le_of_ble_eq_true rfl, Nat.le_of_ble_eq_true rfl⟩ ⟨Nat.le_of_ble_eq_true rfl, Nat.le_of_ble_eq_true rfl⟩ hl.1 rfl rfl (Nat.le_of_ble_eq_true rfl) dd_Reader_readBlockType_1) hS (fun H locs hP hS => ?_)
  clear hq
  by_cases hc0 : a1 = (64 : Int32)
  · have h := xp_t hc0 h
    refine lv_lookup (off := 68) (tgt := 72) hx hb dd_Reader_readBlockType_4 (by decide) (by rw [hc0]; rfl) (by decide) ?_
    refine lv_aload_n hx hb dd_Reader_readBlockType_72 rfl (lv_at hl 0 rfl) ?_
    refine lv_dup hx hb dd_Reader_readBlockType_73 rfl ?_
    refine gf_h_Reader_54_next C hP dd_Reader_readBlockType_74 ?_
    refine lv_iconst (v := 1) hx hb dd_Reader_readBlockType_77 (by decide) ?_
    refine lv_iadd hx hb dd_Reader_readBlockType_78 ?_
    refine pf_h_Reader_54_next C hP hS dd_Reader_readBlockType_79 (fun H locs hP hS => ?_)
    obtain ⟨u3, eu3, h⟩ := xp_let h
    rw [← eu3] at hP
    refine lv_iconst (v := 0) hx hb dd_Reader_readBlockType_82 (by decide) ?_
    obtain ⟨rfl, rfl⟩ := xp_r h
    exact xr_iret C hP hS dd_Reader_readBlockType_83
  have h := xp_f hc0 h
  by_cases hc1 : a1 = (99 : Int32)
  · have h := xp_t hc1 h
    refine lv_lookup (off := 80) (tgt := 84) hx hb dd_Reader_readBlockType_4 (by decide) (by rw [hc1]; rfl) (by decide) ?_
    exact wj_Reader_readBlockType_84 htr C hne h hP hS (lv_sub hl [0] rfl)
  have h := xp_f hc1 h
  by_cases hc2 : a1 = (100 : Int32)
  · have h := xp_t hc2 h
    refine lv_lookup (off := 80) (tgt := 84) hx hb dd_Reader_readBlockType_4 (by decide) (by rw [hc2]; rfl) (by decide) ?_
    exact wj_Reader_readBlockType_84 htr C hne h hP hS (lv_sub hl [0] rfl)
  have h := xp_f hc2 h
  by_cases hc3 : a1 = (108 : Int32)
  · have h := xp_t hc3 h
    refine lv_lookup (off := 80) (tgt := 84) hx hb dd_Reader_readBlockType_4 (by decide) (by rw [hc3]; rfl) (by decide) ?_
    exact wj_Reader_readBlockType_84 htr C hne h hP hS (lv_sub hl [0] rfl)
  have h := xp_f hc3 h
  by_cases hc4 : a1 = (109 : Int32)
  · have h := xp_t hc4 h
    refine lv_lookup (off := 80) (tgt := 84) hx hb dd_Reader_readBlockType_4 (by decide) (by rw [hc4]; rfl) (by decide) ?_
    exact wj_Reader_readBlockType_84 htr C hne h hP hS (lv_sub hl [0] rfl)
  have h := xp_f hc4 h
  by_cases hc5 : a1 = (126 : Int32)
  · have h := xp_t hc5 h
    refine lv_lookup (off := 80) (tgt := 84) hx hb dd_Reader_readBlockType_4 (by decide) (by rw [hc5]; rfl) (by decide) ?_
    exact wj_Reader_readBlockType_84 htr C hne h hP hS (lv_sub hl [0] rfl)
  have h := xp_f hc5 h
  by_cases hc6 : a1 = (127 : Int32)
  · have h := xp_t hc6 h
    refine lv_lookup (off := 80) (tgt := 84) hx hb dd_Reader_readBlockType_4 (by decide) (by rw [hc6]; rfl) (by decide) ?_
    exact wj_Reader_readBlockType_84 htr C hne h hP hS (lv_sub hl [0] rfl)
  have h := xp_f hc6 h
  refine lv_lookup (off := 85) (tgt := 89) hx hb dd_Reader_readBlockType_4 (by decide) ((lv_osw hc0 (by decide)).trans ((lv_osw hc1 (by decide)).trans ((lv_osw hc2 (by decide)).trans ((lv_osw hc3 (by decide)).trans ((lv_osw hc4 (by decide)).trans ((lv_osw hc5 (by decide)).trans ((lv_osw hc6 (by decide)).trans rfl))))))) (by decide) ?_
  refine lv_aload_n hx hb dd_Reader_readBlockType_89 rfl (lv_at hl 0 rfl) ?_
  refine lv_bipush (v := 33) hx hb dd_Reader_readBlockType_90 (by decide) ?_
  rcases xp_try h with ⟨a6, u7, hq, h⟩ | ⟨kx, ux, hq, h⟩
  rotate_left
  · obtain ⟨rfl, rfl⟩ := xp_q h
    exact xk_up (xr_V (As := [.int (33 : Int32)]) (rest := []) C hP hS (ct_Reader_readSigned htr hok hq) kq_Reader_120 54 7 rfl rfl ⟨rfl, rfl, Nat.le_of_ble_eq_true rfl, Nat.le_of_ble_eq_true rfl⟩ ⟨Nat.le_of_ble_eq_true rfl, Nat.le_of_ble_eq_true rfl⟩ hl.1 rfl rfl (Nat.le_of_ble_eq_true rfl) dd_Reader_readBlockType_92) hS hne C.2.2.2.2.2.2.1
  refine xk_goesL (xr_V (As := [.int (33 : Int32)]) (rest := []) C hP hS (ct_Reader_readSigned htr hok hq) kq_Reader_120 54 7 rfl rfl ⟨rfl, rfl, Nat.le_of_ble_eq_true rfl, Nat.le_of_ble_eq_true rfl⟩ ⟨Nat.le_of_ble_eq_true rfl, Nat.le_of_ble_eq_true rfl⟩ hl.1 rfl rfl (Nat.le_of_ble_eq_true rfl) dd_Reader_readBlockType_92) hS (fun H locs hP hS => ?_)
  clear hq
  refine lv_lstore_n (lv' := [(1, .long a6), (0, .ref (ad 54))]) hx hb dd_Reader_readBlockType_95 rfl hl (by decide) rfl (fun ls hl => ?_)
  refine lv_lload_n hx hb dd_Reader_readBlockType_96 rfl (lv_at hl 0 rfl) ?_
  refine lv_lconst (v := 0) hx hb dd_Reader_readBlockType_97 (by decide) ?_
  refine xr_lc_ge (tgt := 110) hx hb dd_Reader_readBlockType_98 dd_Reader_readBlockType_99 (by decide) (fun hc => ?_) (fun hc => ?_)
  · have h := xp_t hc h
    refine lv_sipush (v := 1024) hx hb dd_Reader_readBlockType_110 (by decide) ?_
    refine lv_lload_n hx hb dd_Reader_readBlockType_113 rfl (lv_at hl 0 rfl) ?_
    refine lv_ldc2 (v := 64) hx hb C.1.2.2.2.1 (C.1.2.2.2.2 _ (xk_c4 (w := Jvm.Cond.constantLong "ModuleHouse$Reader" 124 64) 184 rfl rfl)) dd_Reader_readBlockType_114 ?_
    refine va_mmin_long hx hb (C.1.2.2.1.trans hl.1.symm) C.1.2.2.2.1 (C.1.2.2.2.2 _ (xk_c4 (w := Cond.methodLink "ModuleHouse$Reader" 111 Lib.MathLoose.min_long.x) 156 rfl rfl)) (C.1.2.2.2.2 _ (xk_c4 (w := Cond.static Lib.MathLoose.min_long.x) 157 rfl rfl)) (C.1.2.2.2.2 _ (xk_c1 (w := Cond.initialized "java/lang/Math") 24 rfl rfl)) (C.1.2.2.2.2 _ (xk_c4 (w := Cond.code Lib.MathLoose.min_long.x Lib.MathLoose.min_long.code 4 (some .long)) 158 rfl rfl)) (Nat.le_of_ble_eq_true rfl) (Nat.le_of_ble_eq_true rfl) (Nat.zero_le _) (Nat.zero_le _) dd_Reader_readBlockType_117 ?_
    refine lv_l2i hx hb dd_Reader_readBlockType_120 rfl ?_
    refine lv_iadd hx hb dd_Reader_readBlockType_121 ?_
    obtain ⟨rfl, rfl⟩ := xp_r h
    exact xr_iret C hP hS dd_Reader_readBlockType_122
  · have h := xp_f hc h
    obtain ⟨rfl, rfl⟩ := xp_r h
    exact xr_throw C hP hS hne kz_Reader_0 hl.1 ⟨Nat.le_of_ble_eq_true rfl, Nat.le_of_ble_eq_true rfl, Nat.le_of_ble_eq_true rfl, Nat.le_of_ble_eq_true rfl⟩ dd_Reader_readBlockType_102 dd_Reader_readBlockType_105 dd_Reader_readBlockType_106 dd_Reader_readBlockType_109
abbrev rm_Code_turned : Room := { frames := 1, cells := 1, slots := 6, locals := 0 }
noncomputable def fm_Code_turned (x0 : Int32) (u : xk_St) : Option (Int32 × xk_St) :=
  (if x0 < 0 ∨ 8192 ≤ x0.toNatClampNeg then none else if ((u.1 8) - (1 : Int32)) < 0 ∨ 8192 ≤ ((u.1 8) - (1 : Int32)).toNatClampNeg then none else xs_let (xs_A u 9 ((u.1 8) - (1 : Int32)).toNatClampNeg (u.2.2.1 9 x0.toNatClampNeg)) fun u1 => if x0 < 0 ∨ 8192 ≤ x0.toNatClampNeg then none else xs_let (xs_A u1 9 x0.toNatClampNeg ((u1.1 8) - (1 : Int32))) fun u2 => some (((u2.1 8) - (1 : Int32)), u2))
set_option maxHeartbeats 4000000 in
set_option maxRecDepth 100000 in
theorem ct_Code_turned {l : Launch} {D : va_G} {ad : Nat → Nat} {ca : Nat → ClassId} {ads : List Nat} (htr : l.stackTraces = false) (hok : xk_ok (kw_h ad ca) ads) {x0 : Int32} {u u' : xk_St} {r : Int32} (h : fm_Code_turned x0 u = some (r, u')) :
    ∀ sz, xk_Met l ⟨"ModuleHouse$Code", "turned", "(I)I"⟩ (Cond.code ⟨"ModuleHouse$Code", "turned", "(I)I"⟩ prog_3_method_5_code 2 (some .int) :: xk_gd) rm_Code_turned (xk_Pc D kx_cl (kx_ty ca) (kw_h ad ca) ads xk_F sz [.ref (ad 12), .int x0] u) (xk_Qc D kx_cl (kw_h ad ca) ads (xo_i (.inl r)) u') (xk_A ads sz) := by
  unfold fm_Code_turned at h
  refine xk_con (by decide) htr hok (Nat.le_of_ble_eq_true rfl) (fun p e s m below meth c ls C hne hl hP => ?_)
  have hx := C.1.1
  have hb := C.1.2.1
  have hS : va_S (xk_A ads s.heap.size) s.heap s.heap [] := va_S.rf
  have hl : lv_has ls 2 [(0, .ref (ad 12)), (1, .int x0)] := hl
  refine lv_aload_n hx hb dd_Code_turned_0 rfl (lv_at hl 0 rfl) ?_
  refine gf_h_Code_12_mate C hP dd_Code_turned_1 ?_
  refine lv_aload_n hx hb dd_Code_turned_4 rfl (lv_at hl 0 rfl) ?_
  refine gf_h_Code_12_size C hP dd_Code_turned_5 ?_
  refine lv_iconst (v := 1) hx hb dd_Code_turned_8 (by decide) ?_
  refine lv_isub hx hb dd_Code_turned_9 ?_
  refine lv_aload_n hx hb dd_Code_turned_10 rfl (lv_at hl 0 rfl) ?_
  refine gf_h_Code_12_mate C hP dd_Code_turned_11 ?_
  refine lv_iload_n hx hb dd_Code_turned_14 rfl (lv_at hl 1 rfl) ?_
  obtain ⟨hi, h⟩ := xp_g h
  refine al_h_16 C hP hi dd_Code_turned_15 ?_
  obtain ⟨hi, h⟩ := xp_g h
  refine as_h_16 C hP hS hi dd_Code_turned_16 (fun H locs hP hS => ?_)
  obtain ⟨u1, eu1, h⟩ := xp_let h
  rw [← eu1] at hP
  refine lv_aload_n hx hb dd_Code_turned_17 rfl (lv_at hl 0 rfl) ?_
  refine gf_h_Code_12_mate C hP dd_Code_turned_18 ?_
  refine lv_iload_n hx hb dd_Code_turned_21 rfl (lv_at hl 1 rfl) ?_
  refine lv_aload_n hx hb dd_Code_turned_22 rfl (lv_at hl 0 rfl) ?_
  refine gf_h_Code_12_size C hP dd_Code_turned_23 ?_
  refine lv_iconst (v := 1) hx hb dd_Code_turned_26 (by decide) ?_
  refine lv_isub hx hb dd_Code_turned_27 ?_
  obtain ⟨hi, h⟩ := xp_g h
  refine as_h_16 C hP hS hi dd_Code_turned_28 (fun H locs hP hS => ?_)
  obtain ⟨u2, eu2, h⟩ := xp_let h
  rw [← eu2] at hP
  refine lv_aload_n hx hb dd_Code_turned_29 rfl (lv_at hl 0 rfl) ?_
  refine gf_h_Code_12_size C hP dd_Code_turned_30 ?_
  refine lv_iconst (v := 1) hx hb dd_Code_turned_33 (by decide) ?_
  refine lv_isub hx hb dd_Code_turned_34 ?_
  obtain ⟨rfl, rfl⟩ := xp_r h
  exact xr_iret C hP hS dd_Code_turned_35
abbrev rm_Code_closed : Room := { frames := 1, cells := 1, slots := 6, locals := 0 }
noncomputable def fm_Code_closed (x0 : Int32) (u : xk_St) : Option (Int32 × xk_St) :=
  (if x0 < 0 ∨ 8192 ≤ x0.toNatClampNeg then none else xs_let (u.2.2.1 9 x0.toNatClampNeg) fun a1 => if x0 < 0 ∨ 8192 ≤ x0.toNatClampNeg then none else xs_let (xs_A u 9 x0.toNatClampNeg ((u.1 8) - (1 : Int32))) fun u2 => some (a1, u2))
set_option maxHeartbeats 4000000 in
set_option maxRecDepth 100000 in
theorem ct_Code_closed {l : Launch} {D : va_G} {ad : Nat → Nat} {ca : Nat → ClassId} {ads : List Nat} (htr : l.stackTraces = false) (hok : xk_ok (kw_h ad ca) ads) {x0 : Int32} {u u' : xk_St} {r : Int32} (h : fm_Code_closed x0 u = some (r, u')) :
    ∀ sz, xk_Met l ⟨"ModuleHouse$Code", "closed", "(I)I"⟩ (Cond.code ⟨"ModuleHouse$Code", "closed", "(I)I"⟩ prog_3_method_6_code 3 (some .int) :: xk_gd) rm_Code_closed (xk_Pc D kx_cl (kx_ty ca) (kw_h ad ca) ads xk_F sz [.ref (ad 12), .int x0] u) (xk_Qc D kx_cl (kw_h ad ca) ads (xo_i (.inl r)) u') (xk_A ads sz) := by
  unfold fm_Code_closed at h
  refine xk_con (by decide) htr hok (Nat.le_of_ble_eq_true rfl) (fun p e s m below meth c ls C hne hl hP => ?_)
  have hx := C.1.1
  have hb := C.1.2.1
  have hS : va_S (xk_A ads s.heap.size) s.heap s.heap [] := va_S.rf
  have hl : lv_has ls 3 [(0, .ref (ad 12)), (1, .int x0)] := hl
  refine lv_aload_n hx hb dd_Code_closed_0 rfl (lv_at hl 0 rfl) ?_
  refine gf_h_Code_12_mate C hP dd_Code_closed_1 ?_
  refine lv_iload_n hx hb dd_Code_closed_4 rfl (lv_at hl 1 rfl) ?_
  obtain ⟨hi, h⟩ := xp_g h
  refine al_h_16 C hP hi dd_Code_closed_5 ?_
  obtain ⟨a1, ea1, h⟩ := xp_let h
  refine xr_nami ea1 ?_
  refine lv_istore_n (lv' := [(2, .int a1), (0, .ref (ad 12)), (1, .int x0)]) hx hb dd_Code_closed_6 rfl hl (by decide) rfl (fun ls hl => ?_)
  refine lv_aload_n hx hb dd_Code_closed_7 rfl (lv_at hl 1 rfl) ?_
  refine gf_h_Code_12_mate C hP dd_Code_closed_8 ?_
  refine lv_iload_n hx hb dd_Code_closed_11 rfl (lv_at hl 2 rfl) ?_
  refine lv_aload_n hx hb dd_Code_closed_12 rfl (lv_at hl 1 rfl) ?_
  refine gf_h_Code_12_size C hP dd_Code_closed_13 ?_
  refine lv_iconst (v := 1) hx hb dd_Code_closed_16 (by decide) ?_
  refine lv_isub hx hb dd_Code_closed_17 ?_
  obtain ⟨hi, h⟩ := xp_g h
  refine as_h_16 C hP hS hi dd_Code_closed_18 (fun H locs hP hS => ?_)
  obtain ⟨u2, eu2, h⟩ := xp_let h
  rw [← eu2] at hP
  refine lv_iload_n hx hb dd_Code_closed_19 rfl (lv_at hl 0 rfl) ?_
  obtain ⟨rfl, rfl⟩ := xp_r h
  exact xr_iret C hP hS dd_Code_closed_20
abbrev rm_Reader_readWays : Room := { frames := 9, cells := 1, slots := 6, locals := 166 }
noncomputable def fm_Reader_readWays (fu : Nat) (x0 : Int32) (u : xk_St) : Option ((Unit ⊕ Nat) × xk_St) :=
  (xs_let (u.1 9) fun a1 => xs_try (fm_Reader_readNumbers fu u) fun a2 u3 => xs_try (fm_Reader_readNumber fu u3) fun a4 u5 => xs_seq (fm_Code_addNumber a4 u5) fun _ u6 => xs_seq (fm_Code_add x0 a1 (a2.toInt64) u6) fun _ u7 => some (.inl (()), u7))
set_option maxHeartbeats 4000000 in
set_option maxRecDepth 100000 in
theorem ct_Reader_readWays {l : Launch} {D : va_G} {ad : Nat → Nat} {ca : Nat → ClassId} {ads : List Nat} (htr : l.stackTraces = false) (hok : xk_ok (kw_h ad ca) ads) {fu : Nat} {x0 : Int32} {u u' : xk_St} {r : (Unit ⊕ Nat)} (h : fm_Reader_readWays fu x0 u = some (r, u')) :
    ∀ sz, xk_Met l ⟨"ModuleHouse$Reader", "readWays", "(I)V"⟩ (Cond.code ⟨"ModuleHouse$Reader", "readWays", "(I)V"⟩ prog_9_method_31_code 4 none :: xk_gd) rm_Reader_readWays (xk_Pc D kx_cl (kx_ty ca) (kw_h ad ca) ads xk_F sz [.ref (ad 54), .int x0] u) (xk_Qc D kx_cl (kw_h ad ca) ads (xo_v r) u') (xk_A ads sz) := by
  unfold fm_Reader_readWays at h
  refine xk_con (by decide) htr hok (Nat.le_of_ble_eq_true rfl) (fun p e s m below meth c ls C hne hl hP => ?_)
  have hx := C.1.1
  have hb := C.1.2.1
  have hS : va_S (xk_A ads s.heap.size) s.heap s.heap [] := va_S.rf
  have hl : lv_has ls 4 [(0, .ref (ad 54)), (1, .int x0)] := hl
  refine lv_aload_n hx hb dd_Reader_readWays_0 rfl (lv_at hl 0 rfl) ?_
  refine gf_h_Reader_54_code C hP dd_Reader_readWays_1 ?_
  refine gf_h_Reader_12_numbersSize C hP dd_Reader_readWays_4 ?_
  obtain ⟨a1, ea1, h⟩ := xp_let h
  refine xr_nami ea1 ?_
  refine lv_istore_n (lv' := [(2, .int a1), (0, .ref (ad 54)), (1, .int x0)]) hx hb dd_Reader_readWays_7 rfl hl (by decide) rfl (fun ls hl => ?_)
  refine lv_aload_n hx hb dd_Reader_readWays_8 rfl (lv_at hl 1 rfl) ?_
  rcases xp_try h with ⟨a2, u3, hq, h⟩ | ⟨kx, ux, hq, h⟩
  rotate_left
  · obtain ⟨rfl, rfl⟩ := xp_q h
    exact xk_up (xr_V (As := []) (rest := []) C hP hS (ct_Reader_readNumbers htr hok hq) kq_Reader_220 54 7 rfl rfl ⟨rfl, rfl, Nat.le_of_ble_eq_true rfl, Nat.le_of_ble_eq_true rfl⟩ ⟨Nat.le_of_ble_eq_true rfl, Nat.le_of_ble_eq_true rfl⟩ hl.1 rfl rfl (Nat.le_of_ble_eq_true rfl) dd_Reader_readWays_9) hS hne C.2.2.2.2.2.2.1
  refine xk_goesI (xr_V (As := []) (rest := []) C hP hS (ct_Reader_readNumbers htr hok hq) kq_Reader_220 54 7 rfl rfl ⟨rfl, rfl, Nat.le_of_ble_eq_true rfl, Nat.le_of_ble_eq_true rfl⟩ ⟨Nat.le_of_ble_eq_true rfl, Nat.le_of_ble_eq_true rfl⟩ hl.1 rfl rfl (Nat.le_of_ble_eq_true rfl) dd_Reader_readWays_9) hS (fun H locs hP hS => ?_)
  clear hq
  refine lv_istore_n (lv' := [(3, .int a2), (2, .int a1), (0, .ref (ad 54)), (1, .int x0)]) hx hb dd_Reader_readWays_12 rfl hl (by decide) rfl (fun ls hl => ?_)
  refine lv_aload_n hx hb dd_Reader_readWays_13 rfl (lv_at hl 2 rfl) ?_
  refine gf_h_Reader_54_code C hP dd_Reader_readWays_14 ?_
  refine lv_aload_n hx hb dd_Reader_readWays_17 rfl (lv_at hl 2 rfl) ?_
  rcases xp_try h with ⟨a4, u5, hq, h⟩ | ⟨kx, ux, hq, h⟩
  rotate_left
  · obtain ⟨rfl, rfl⟩ := xp_q h
    exact xk_up (xr_V (As := []) (rest := [.ref (ad 12)]) C hP hS (ct_Reader_readNumber htr hok hq) kq_Reader_78 54 7 rfl rfl ⟨rfl, rfl, Nat.le_of_ble_eq_true rfl, Nat.le_of_ble_eq_true rfl⟩ ⟨Nat.le_of_ble_eq_true rfl, Nat.le_of_ble_eq_true rfl⟩ hl.1 rfl rfl (Nat.le_of_ble_eq_true rfl) dd_Reader_readWays_18) hS hne C.2.2.2.2.2.2.1
  refine xk_goesI (xr_V (As := []) (rest := [.ref (ad 12)]) C hP hS (ct_Reader_readNumber htr hok hq) kq_Reader_78 54 7 rfl rfl ⟨rfl, rfl, Nat.le_of_ble_eq_true rfl, Nat.le_of_ble_eq_true rfl⟩ ⟨Nat.le_of_ble_eq_true rfl, Nat.le_of_ble_eq_true rfl⟩ hl.1 rfl rfl (Nat.le_of_ble_eq_true rfl) dd_Reader_readWays_18) hS (fun H locs hP hS => ?_)
  clear hq
  obtain ⟨rx, u6, hq, h⟩ := xp_seq h
  refine xk_goesV (xr_V (As := [.int a4]) (rest := []) C hP hS (ct_Code_addNumber htr hok hq) kq_Reader_223 12 2 rfl rfl ⟨rfl, rfl, Nat.le_of_ble_eq_true rfl, Nat.le_of_ble_eq_true rfl⟩ ⟨Nat.le_of_ble_eq_true rfl, Nat.le_of_ble_eq_true rfl⟩ hl.1 rfl rfl (Nat.le_of_ble_eq_true rfl) dd_Reader_readWays_21) hS (fun H locs hP hS => ?_)
  clear hq
  refine lv_aload_n hx hb dd_Reader_readWays_24 rfl (lv_at hl 2 rfl) ?_
  refine gf_h_Reader_54_code C hP dd_Reader_readWays_25 ?_
  refine lv_iload_n hx hb dd_Reader_readWays_28 rfl (lv_at hl 3 rfl) ?_
  refine lv_iload_n hx hb dd_Reader_readWays_29 rfl (lv_at hl 1 rfl) ?_
  refine lv_iload_n hx hb dd_Reader_readWays_30 rfl (lv_at hl 0 rfl) ?_
  refine lv_i2l hx hb dd_Reader_readWays_31 rfl ?_
  obtain ⟨rx, u7, hq, h⟩ := xp_seq h
  refine xk_goesV (xr_V (As := [.int x0, .int a1, .long (a2.toInt64)]) (rest := []) C hP hS (ct_Code_add htr hok hq) kq_Reader_235 12 2 rfl rfl ⟨rfl, rfl, Nat.le_of_ble_eq_true rfl, Nat.le_of_ble_eq_true rfl⟩ ⟨Nat.le_of_ble_eq_true rfl, Nat.le_of_ble_eq_true rfl⟩ hl.1 rfl rfl (Nat.le_of_ble_eq_true rfl) dd_Reader_readWays_32) hS (fun H locs hP hS => ?_)
  clear hq
  obtain ⟨rfl, rfl⟩ := xp_r h
  exact xr_vret C hP hS dd_Reader_readWays_35
