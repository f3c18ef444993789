abbrev rm_Checker_parameterOf : Room := { frames := 2, cells := 1, slots := 6, locals := 22 }
noncomputable def fm_Checker_parameterOf (x0 : Int32) (x1 : Int32) (u : xk_St) : Option (Int32 × xk_St) :=
  (if x0 < 0 ∨ 8192 ≤ x0.toNatClampNeg then none else xs_seq (fm_Types_member ((u.2.2.1 8 x0.toNatClampNeg) - (1024 : Int32)) x1 u) fun a1 u2 => some (a1, u2))
set_option maxHeartbeats 4000000 in
set_option maxRecDepth 100000 in
theorem ct_Checker_parameterOf {l : Launch} {D : va_G} {ad : Nat → Nat} {ca : Nat → ClassId} {ads : List Nat} (htr : l.stackTraces = false) (hok : xk_ok (kw_h ad ca) ads) {x0 : Int32} {x1 : Int32} {u u' : xk_St} {r : Int32} (h : fm_Checker_parameterOf x0 x1 u = some (r, u')) :
    ∀ sz, xk_Met l ⟨"ModuleHouse$Checker", "parameterOf", "(II)I"⟩ (Cond.code ⟨"ModuleHouse$Checker", "parameterOf", "(II)I"⟩ prog_2_method_22_code 3 (some .int) :: xk_gd) rm_Checker_parameterOf (xk_Pc D kx_cl (kx_ty ca) (kw_h ad ca) ads xk_F sz [.ref (ad 55), .int x0, .int x1] u) (xk_Qc D kx_cl (kw_h ad ca) ads (xo_i (.inl r)) u') (xk_A ads sz) := by
  unfold fm_Checker_parameterOf at h
  refine xk_con (by decide) htr hok (Nat.le_of_ble_eq_true rfl) (fun p e s m below meth c ls C hne hl hP => ?_)
  have hx := C.1.1
  have hb := C.1.2.1
  have hS : va_S (xk_A ads s.heap.size) s.heap s.heap [] := va_S.rf
  have hl : lv_has ls 3 [(0, .ref (ad 55)), (1, .int x0), (2, .int x1)] := hl
  refine lv_aload_n hx hb dd_Checker_parameterOf_0 rfl (lv_at hl 0 rfl) ?_
  refine gf_h_Checker_55_types C hP dd_Checker_parameterOf_1 ?_
  refine lv_aload_n hx hb dd_Checker_parameterOf_4 rfl (lv_at hl 0 rfl) ?_
  refine gf_h_Checker_55_code C hP dd_Checker_parameterOf_5 ?_
  refine gf_h_Checker_12_first C hP dd_Checker_parameterOf_8 ?_
  refine lv_iload_n hx hb dd_Checker_parameterOf_11 rfl (lv_at hl 1 rfl) ?_
  obtain ⟨hi, h⟩ := xp_g h
  refine al_h_14 C hP hi dd_Checker_parameterOf_12 ?_
  refine lv_sipush (v := 1024) hx hb dd_Checker_parameterOf_13 (by decide) ?_
  refine lv_isub hx hb dd_Checker_parameterOf_16 ?_
  refine lv_iload_n hx hb dd_Checker_parameterOf_17 rfl (lv_at hl 2 rfl) ?_
  obtain ⟨a1, u2, hq, h⟩ := xp_seq h
  refine xk_goesI (xr_V (As := [.int ((u.2.2.1 8 x0.toNatClampNeg) - (1024 : Int32)), .int x1]) (rest := []) C hP hS (ct_Types_member htr hok hq) kq_Checker_107 6 9 rfl rfl ⟨rfl, rfl, Nat.le_of_ble_eq_true rfl, Nat.le_of_ble_eq_true rfl⟩ ⟨Nat.le_of_ble_eq_true rfl, Nat.le_of_ble_eq_true rfl⟩ hl.1 rfl rfl (Nat.le_of_ble_eq_true rfl) dd_Checker_parameterOf_18) hS (fun H locs hP hS => ?_)
  clear hq
  obtain ⟨rfl, rfl⟩ := xp_r h
  exact xr_iret C hP hS dd_Checker_parameterOf_21
abbrev rm_Checker_pushParameters : Room := { frames := 8, cells := 1, slots := 6, locals := 141 }
noncomputable def jb_Checker_pushParameters_2 (fu : Nat) : Nat → Int32 → Int32 → Int32 → xk_St → Option ((Unit ⊕ Nat) × xk_St)
  | 0 => fun _ _ _ _ => none
  | n + 1 => fun b1 b2 b3 u =>
    xs_let (jb_Checker_pushParameters_2 fu  n) fun k2 =>
    if b2 ≤ b3 then (some (.inl (()), u)) else ((xs_seq (fm_Checker_parameterOf b1 b3 u) fun a1 u2 => xs_try (fm_Checker_push a1 u2) fun _ u3 => xs_let (b3 + (1 : Int32)) fun a4 => k2 b1 b2 a4 u3))
noncomputable def fm_Checker_pushParameters (fu : Nat) (x0 : Int32) (x1 : Int32) (u : xk_St) : Option ((Unit ⊕ Nat) × xk_St) :=
  jb_Checker_pushParameters_2 fu fu x0 x1 (0 : Int32) u
set_option maxHeartbeats 4000000 in
set_option maxRecDepth 100000 in
theorem wj_Checker_pushParameters_2 {p : Program} {l : Launch} {e : Env} {s : State} {m : MethodId} {args : Array Value} {below : List Frame} {meth : Method} {c : Code} {D : va_G} {ad : Nat → Nat} {ca : Nat → ClassId} {ads : List Nat} {fu : Nat} (htr : l.stackTraces = false) (C : xk_C D kx_cl (kx_ty ca) (kw_h ad ca) ads "ModuleHouse$Checker" prog_2_method_33_code 4 none p e s m args meth c) (hne : c.exceptionTable.isEmpty = true) {u' : xk_St} {r : (Unit ⊕ Nat)} : ∀ {n : Nat} {b1 : Int32} {b2 : Int32} {b3 : Int32} {u : xk_St} {H : Heap} {locs : List Loc} {ls : Array Slot} (h : jb_Checker_pushParameters_2 fu  n b1 b2 b3 u = some (r, u')) (hP : va_P D kx_cl (kw_h ad ca u) H) (hS : va_S (xk_A ads s.heap.size) s.heap H locs) (hl : lv_has ls 4 [(0, .ref (ad 55)), (1, .int b1), (2, .int b2), (3, .int b3)]), W p l e rm_Checker_pushParameters s m args below meth c H locs 0 0 (xk_MQ below (xk_Qc D kx_cl (kw_h ad ca) ads (xo_v r) u') args s (xk_A ads s.heap.size)) (F0 m 2 ls []) := by
  intro n
  have hx := C.1.1
  have hb := C.1.2.1
  have hok := C.2.2.1
  induction n with
  | zero =>
    intro _ _ _ u H locs ls h
    have h : none = some (r, u') := h
    cases h
  | succ n ih =>
    intro b1 b2 b3 u H locs ls h hP hS hl
    unfold jb_Checker_pushParameters_2 at h
    obtain ⟨k2, ek2, h⟩ := xp_let h
    have hk2 : ∀ (c0 : Int32) (c1 : Int32) (c2 : Int32) (u : xk_St) (H : Heap) (locs : List Loc) (ls : Array Slot), k2 c0 c1 c2 u = some (r, u') → va_P D kx_cl (kw_h ad ca u) H → va_S (xk_A ads s.heap.size) s.heap H locs → lv_has ls 4 [(0, .ref (ad 55)), (1, .int c0), (2, .int c1), (3, .int c2)] → W p l e rm_Checker_pushParameters s m args below meth c H locs 0 0 (xk_MQ below (xk_Qc D kx_cl (kw_h ad ca) ads (xo_v r) u') args s (xk_A ads s.heap.size)) (F0 m 2 ls []) := by
      intro c0 c1 c2 u H locs ls h hP hS hl
      subst ek2
      exact ih h hP hS hl
    clear ih ek2
    refine lv_iload_n hx hb dd_Checker_pushParameters_2 rfl (lv_at hl 3 rfl) ?_
    refine lv_iload_n hx hb dd_Checker_pushParameters_3 rfl (lv_at hl 2 rfl) ?_
    refine lv_icmp_ge (tgt := 23) hx hb dd_Checker_pushParameters_4 (by decide) (fun hc => ?_) (fun hc => ?_)
    · have h := xp_t hc h
      obtain ⟨rfl, rfl⟩ := xp_r h
      exact xr_vret C hP hS dd_Checker_pushParameters_23
    · have h := xp_f hc h
      refine lv_aload_n hx hb dd_Checker_pushParameters_7 rfl (lv_at hl 0 rfl) ?_
      refine lv_aload_n hx hb dd_Checker_pushParameters_8 rfl (lv_at hl 0 rfl) ?_
      refine lv_iload_n hx hb dd_Checker_pushParameters_9 rfl (lv_at hl 1 rfl) ?_
      refine lv_iload_n hx hb dd_Checker_pushParameters_10 rfl (lv_at hl 3 rfl) ?_
      obtain ⟨a1, u2, hq, h⟩ := xp_seq h
      refine xk_goesI (xr_V (As := [.int b1, .int b3]) (rest := [.ref (ad 55)]) C hP hS (ct_Checker_parameterOf htr hok hq) kq_Checker_293 55 1 rfl rfl ⟨rfl, rfl, Nat.le_of_ble_eq_true rfl, Nat.le_of_ble_eq_true rfl⟩ ⟨Nat.le_of_ble_eq_true rfl, Nat.le_of_ble_eq_true rfl⟩ hl.1 rfl rfl (Nat.le_of_ble_eq_true rfl) dd_Checker_pushParameters_11) hS (fun H locs hP hS => ?_)
      clear hq
      rcases xp_try h with ⟨rx, u3, hq, h⟩ | ⟨kx, ux, hq, h⟩
      rotate_left
      · obtain ⟨rfl, rfl⟩ := xp_q h
        exact xk_up (xr_V (As := [.int a1]) (rest := []) C hP hS (ct_Checker_push htr hok hq) kq_Checker_203 55 1 rfl rfl ⟨rfl, rfl, Nat.le_of_ble_eq_true rfl, Nat.le_of_ble_eq_true rfl⟩ ⟨Nat.le_of_ble_eq_true rfl, Nat.le_of_ble_eq_true rfl⟩ hl.1 rfl rfl (Nat.le_of_ble_eq_true rfl) dd_Checker_pushParameters_14) hS hne C.2.2.2.2.2.2.1
      refine xk_goesV (xr_V (As := [.int a1]) (rest := []) C hP hS (ct_Checker_push htr hok hq) kq_Checker_203 55 1 rfl rfl ⟨rfl, rfl, Nat.le_of_ble_eq_true rfl, Nat.le_of_ble_eq_true rfl⟩ ⟨Nat.le_of_ble_eq_true rfl, Nat.le_of_ble_eq_true rfl⟩ hl.1 rfl rfl (Nat.le_of_ble_eq_true rfl) dd_Checker_pushParameters_14) hS (fun H locs hP hS => ?_)
      clear hq
      obtain ⟨a4, ea4, h⟩ := xp_let h
      refine lv_iinc (v := a4) (lv' := [(3, .int a4), (0, .ref (ad 55)), (1, .int b1), (2, .int b2)]) hx hb dd_Checker_pushParameters_17 hl (k := 3) rfl (by rw [ea4]; first | rfl | decide) (by decide) rfl (fun ls hl => ?_)
      refine lv_goto (tgt := 2) hx hb dd_Checker_pushParameters_20 (by decide) ?_
      exact hk2 b1 b2 a4 u3 _ _ _ h hP hS (lv_sub hl [1, 2, 3, 0] rfl)
set_option maxHeartbeats 4000000 in
set_option maxRecDepth 100000 in
theorem ct_Checker_pushParameters {l : Launch} {D : va_G} {ad : Nat → Nat} {ca : Nat → ClassId} {ads : List Nat} (htr : l.stackTraces = false) (hok : xk_ok (kw_h ad ca) ads) {fu : Nat} {x0 : Int32} {x1 : Int32} {u u' : xk_St} {r : (Unit ⊕ Nat)} (h : fm_Checker_pushParameters fu x0 x1 u = some (r, u')) :
    ∀ sz, xk_Met l ⟨"ModuleHouse$Checker", "pushParameters", "(II)V"⟩ (Cond.code ⟨"ModuleHouse$Checker", "pushParameters", "(II)V"⟩ prog_2_method_33_code 4 none :: xk_gd) rm_Checker_pushParameters (xk_Pc D kx_cl (kx_ty ca) (kw_h ad ca) ads xk_F sz [.ref (ad 55), .int x0, .int x1] u) (xk_Qc D kx_cl (kw_h ad ca) ads (xo_v r) u') (xk_A ads sz) := by
  unfold fm_Checker_pushParameters at h
  refine xk_con (by decide) htr hok (Nat.le_of_ble_eq_true rfl) (fun p e s m below meth c ls C hne hl hP => ?_)
  have hx := C.1.1
  have hb := C.1.2.1
  have hS : va_S (xk_A ads s.heap.size) s.heap s.heap [] := va_S.rf
  have hl : lv_has ls 4 [(0, .ref (ad 55)), (1, .int x0), (2, .int x1)] := hl
  refine lv_iconst (v := 0) hx hb dd_Checker_pushParameters_0 (by decide) ?_
  refine lv_istore_n (lv' := [(3, .int (0 : Int32)), (0, .ref (ad 55)), (1, .int x0), (2, .int x1)]) hx hb dd_Checker_pushParameters_1 rfl hl (by decide) rfl (fun ls hl => ?_)
  exact wj_Checker_pushParameters_2 htr C hne h hP hS (lv_sub hl [1, 2, 3, 0] rfl)
abbrev rm_Checker_open : Room := { frames := 9, cells := 1, slots := 6, locals := 164 }
noncomputable def jb_Checker_open_56 (fu : Nat) : Nat → Int32 → Int32 → Int32 → xk_St → Option ((Unit ⊕ Nat) × xk_St)
  | 0 => fun _ _ _ _ => none
  | n + 1 => fun b1 b3 b4 u =>
    xs_let (jb_Checker_open_56 fu  n) fun k56 =>
    if b4 < (0 : Int32) then ((xs_try (fm_Checker_openPart b1 u) fun _ u8 => xs_try (fm_Checker_pushParameters fu b1 b3 u8) fun _ u9 => some (.inl (()), u9))) else ((xs_seq (fm_Checker_parameterOf b1 b4 u) fun a10 u11 => xs_try (fm_Checker_pop_I a10 u11) fun _ u12 => xs_let (b4 + (-1 : Int32)) fun a13 => k56 b1 b3 a13 u12))
noncomputable def jb_Checker_open_42 (fu : Nat) (b1 : Int32) (s0 : Int32) (u : xk_St) : Option ((Unit ⊕ Nat) × xk_St) :=
  (xs_try (fm_Checker_need s0 u) fun _ u4 => xs_seq (fm_Checker_parameterCount b1 u4) fun a5 u6 => xs_let (a5 - (1 : Int32)) fun a7 => jb_Checker_open_56 fu fu b1 a5 a7 u6)
noncomputable def fm_Checker_open (fu : Nat) (x0 : Int32) (u : xk_St) : Option ((Unit ⊕ Nat) × xk_St) :=
  (if x0 < 0 ∨ 8192 ≤ x0.toNatClampNeg then none else xs_let (u.2.2.1 8 x0.toNatClampNeg) fun a1 => if a1 < (1024 : Int32) then ((xs_seq (fm_Types_knows a1 u) fun a2 u3 => jb_Checker_open_42 fu x0 a2 u3)) else ((xs_seq (fm_Types_is (a1 - (1024 : Int32)) (96 : Int32) u) fun a14 u15 => jb_Checker_open_42 fu x0 a14 u15)))
set_option maxHeartbeats 4000000 in
set_option maxRecDepth 100000 in
theorem wj_Checker_open_56 {p : Program} {l : Launch} {e : Env} {s : State} {m : MethodId} {args : Array Value} {below : List Frame} {meth : Method} {c : Code} {D : va_G} {ad : Nat → Nat} {ca : Nat → ClassId} {ads : List Nat} {fu : Nat} (htr : l.stackTraces = false) (C : xk_C D kx_cl (kx_ty ca) (kw_h ad ca) ads "ModuleHouse$Checker" prog_2_method_32_code 5 none p e s m args meth c) (hne : c.exceptionTable.isEmpty = true) {u' : xk_St} {r : (Unit ⊕ Nat)} : ∀ {n : Nat} {b1 : Int32} {b3 : Int32} {b4 : Int32} {u : xk_St} {H : Heap} {locs : List Loc} {ls : Array Slot} (h : jb_Checker_open_56 fu  n b1 b3 b4 u = some (r, u')) (hP : va_P D kx_cl (kw_h ad ca u) H) (hS : va_S (xk_A ads s.heap.size) s.heap H locs) (hl : lv_has ls 5 [(0, .ref (ad 55)), (1, .int b1), (3, .int b3), (4, .int b4)]), W p l e rm_Checker_open s m args below meth c H locs 0 0 (xk_MQ below (xk_Qc D kx_cl (kw_h ad ca) ads (xo_v r) u') args s (xk_A ads s.heap.size)) (F0 m 56 ls []) := by
  intro n
  have hx := C.1.1
  have hb := C.1.2.1
  have hok := C.2.2.1
  induction n with
  | zero =>
    intro _ _ _ u H locs ls h
    have h : none = some (r, u') := h
    cases h
  | succ n ih =>
    intro b1 b3 b4 u H locs ls h hP hS hl
    unfold jb_Checker_open_56 at h
    obtain ⟨k56, ek56, h⟩ := xp_let h
    have hk56 : ∀ (c0 : Int32) (c1 : Int32) (c2 : Int32) (u : xk_St) (H : Heap) (locs : List Loc) (ls : Array Slot), k56 c0 c1 c2 u = some (r, u') → va_P D kx_cl (kw_h ad ca u) H → va_S (xk_A ads s.heap.size) s.heap H locs → lv_has ls 5 [(0, .ref (ad 55)), (1, .int c0), (3, .int c1), (4, .int c2)] → W p l e rm_Checker_open s m args below meth c H locs 0 0 (xk_MQ below (xk_Qc D kx_cl (kw_h ad ca) ads (xo_v r) u') args s (xk_A ads s.heap.size)) (F0 m 56 ls []) := by
      intro c0 c1 c2 u H locs ls h hP hS hl
      subst ek56
      exact ih h hP hS hl
    clear ih ek56
    refine lv_iload hx hb dd_Checker_open_56 (lv_at hl 3 rfl) ?_
    refine lv_if_lt (tgt := 78) hx hb dd_Checker_open_58 (by decide) (fun hc => ?_) (fun hc => ?_)
    · have h := xp_t hc h
      refine lv_aload_n hx hb dd_Checker_open_78 rfl (lv_at hl 0 rfl) ?_
      refine lv_iload_n hx hb dd_Checker_open_79 rfl (lv_at hl 1 rfl) ?_
      rcases xp_try h with ⟨rx, u8, hq, h⟩ | ⟨kx, ux, hq, h⟩
      rotate_left
      · obtain ⟨rfl, rfl⟩ := xp_q h
        exact xk_up (xr_V (As := [.int b1]) (rest := []) C hP hS (ct_Checker_openPart htr hok hq) kq_Checker_177 55 1 rfl rfl ⟨rfl, rfl, Nat.le_of_ble_eq_true rfl, Nat.le_of_ble_eq_true rfl⟩ ⟨Nat.le_of_ble_eq_true rfl, Nat.le_of_ble_eq_true rfl⟩ hl.1 rfl rfl (Nat.le_of_ble_eq_true rfl) dd_Checker_open_80) hS hne C.2.2.2.2.2.2.1
      refine xk_goesV (xr_V (As := [.int b1]) (rest := []) C hP hS (ct_Checker_openPart htr hok hq) kq_Checker_177 55 1 rfl rfl ⟨rfl, rfl, Nat.le_of_ble_eq_true rfl, Nat.le_of_ble_eq_true rfl⟩ ⟨Nat.le_of_ble_eq_true rfl, Nat.le_of_ble_eq_true rfl⟩ hl.1 rfl rfl (Nat.le_of_ble_eq_true rfl) dd_Checker_open_80) hS (fun H locs hP hS => ?_)
      clear hq
      refine lv_aload_n hx hb dd_Checker_open_83 rfl (lv_at hl 0 rfl) ?_
      refine lv_iload_n hx hb dd_Checker_open_84 rfl (lv_at hl 1 rfl) ?_
      refine lv_iload_n hx hb dd_Checker_open_85 rfl (lv_at hl 2 rfl) ?_
      rcases xp_try h with ⟨rx, u9, hq, h⟩ | ⟨kx, ux, hq, h⟩
      rotate_left
      · obtain ⟨rfl, rfl⟩ := xp_q h
        exact xk_up (xr_V (As := [.int b1, .int b3]) (rest := []) C hP hS (ct_Checker_pushParameters htr hok hq) kq_Checker_296 55 1 rfl rfl ⟨rfl, rfl, Nat.le_of_ble_eq_true rfl, Nat.le_of_ble_eq_true rfl⟩ ⟨Nat.le_of_ble_eq_true rfl, Nat.le_of_ble_eq_true rfl⟩ hl.1 rfl rfl (Nat.le_of_ble_eq_true rfl) dd_Checker_open_86) hS hne C.2.2.2.2.2.2.1
      refine xk_goesV (xr_V (As := [.int b1, .int b3]) (rest := []) C hP hS (ct_Checker_pushParameters htr hok hq) kq_Checker_296 55 1 rfl rfl ⟨rfl, rfl, Nat.le_of_ble_eq_true rfl, Nat.le_of_ble_eq_true rfl⟩ ⟨Nat.le_of_ble_eq_true rfl, Nat.le_of_ble_eq_true rfl⟩ hl.1 rfl rfl (Nat.le_of_ble_eq_true rfl) dd_Checker_open_86) hS (fun H locs hP hS => ?_)
      clear hq
      obtain ⟨rfl, rfl⟩ := xp_r h
      exact xr_vret C hP hS dd_Checker_open_89
    · have h := xp_f hc h
      refine lv_aload_n hx hb dd_Checker_open_61 rfl (lv_at hl 0 rfl) ?_
      refine lv_aload_n hx hb dd_Checker_open_62 rfl (lv_at hl 0 rfl) ?_
      refine lv_iload_n hx hb dd_Checker_open_63 rfl (lv_at hl 1 rfl) ?_
      refine lv_iload hx hb dd_Checker_open_64 (lv_at hl 3 rfl) ?_
      obtain ⟨a10, u11, hq, h⟩ := xp_seq h
      refine xk_goesI (xr_V (As := [.int b1, .int b4]) (rest := [.ref (ad 55)]) C hP hS (ct_Checker_parameterOf htr hok hq) kq_Checker_293 55 1 rfl rfl ⟨rfl, rfl, Nat.le_of_ble_eq_true rfl, Nat.le_of_ble_eq_true rfl⟩ ⟨Nat.le_of_ble_eq_true rfl, Nat.le_of_ble_eq_true rfl⟩ hl.1 rfl rfl (Nat.le_of_ble_eq_true rfl) dd_Checker_open_66) hS (fun H locs hP hS => ?_)
      clear hq
      rcases xp_try h with ⟨rx, u12, hq, h⟩ | ⟨kx, ux, hq, h⟩
      rotate_left
      · obtain ⟨rfl, rfl⟩ := xp_q h
        exact xk_up (xr_V (As := [.int a10]) (rest := []) C hP hS (ct_Checker_pop_I htr hok hq) kq_Checker_238 55 1 rfl rfl ⟨rfl, rfl, Nat.le_of_ble_eq_true rfl, Nat.le_of_ble_eq_true rfl⟩ ⟨Nat.le_of_ble_eq_true rfl, Nat.le_of_ble_eq_true rfl⟩ hl.1 rfl rfl (Nat.le_of_ble_eq_true rfl) dd_Checker_open_69) hS hne C.2.2.2.2.2.2.1
      refine xk_goesV (xr_V (As := [.int a10]) (rest := []) C hP hS (ct_Checker_pop_I htr hok hq) kq_Checker_238 55 1 rfl rfl ⟨rfl, rfl, Nat.le_of_ble_eq_true rfl, Nat.le_of_ble_eq_true rfl⟩ ⟨Nat.le_of_ble_eq_true rfl, Nat.le_of_ble_eq_true rfl⟩ hl.1 rfl rfl (Nat.le_of_ble_eq_true rfl) dd_Checker_open_69) hS (fun H locs hP hS => ?_)
      clear hq
      obtain ⟨a13, ea13, h⟩ := xp_let h
      refine lv_iinc (v := a13) (lv' := [(4, .int a13), (0, .ref (ad 55)), (1, .int b1), (3, .int b3)]) hx hb dd_Checker_open_72 hl (k := 3) rfl (by rw [ea13]; first | rfl | decide) (by decide) rfl (fun ls hl => ?_)
      refine lv_goto (tgt := 56) hx hb dd_Checker_open_75 (by decide) ?_
      exact hk56 b1 b3 a13 u12 _ _ _ h hP hS (lv_sub hl [1, 2, 3, 0] rfl)
set_option maxHeartbeats 4000000 in
set_option maxRecDepth 100000 in
theorem wj_Checker_open_42 {p : Program} {l : Launch} {e : Env} {s : State} {m : MethodId} {args : Array Value} {below : List Frame} {meth : Method} {c : Code} {D : va_G} {ad : Nat → Nat} {ca : Nat → ClassId} {ads : List Nat} {fu : Nat} (htr : l.stackTraces = false) (C : xk_C D kx_cl (kx_ty ca) (kw_h ad ca) ads "ModuleHouse$Checker" prog_2_method_32_code 5 none p e s m args meth c) (hne : c.exceptionTable.isEmpty = true) {u' : xk_St} {r : (Unit ⊕ Nat)} {b1 : Int32} {s0 : Int32} {u : xk_St} {H : Heap} {locs : List Loc} {ls : Array Slot} (h : jb_Checker_open_42 fu  b1 s0 u = some (r, u')) (hP : va_P D kx_cl (kw_h ad ca u) H) (hS : va_S (xk_A ads s.heap.size) s.heap H locs) (hl : lv_has ls 5 [(0, .ref (ad 55)), (1, .int b1)]) : W p l e rm_Checker_open s m args below meth c H locs 0 0 (xk_MQ below (xk_Qc D kx_cl (kw_h ad ca) ads (xo_v r) u') args s (xk_A ads s.heap.size)) (F0 m 42 ls [.int s0]) := by
  have hx := C.1.1
  have hb := C.1.2.1
  have hok := C.2.2.1
  unfold jb_Checker_open_42 at h
  rcases xp_try h with ⟨rx, u4, hq, h⟩ | ⟨kx, ux, hq, h⟩
  rotate_left
  · obtain ⟨rfl, rfl⟩ := xp_q h
    exact xk_up (xr_S (As := [.int s0]) (rest := []) C hP hS (ct_Checker_need htr hok hq) kq_Checker_60 ⟨rfl, rfl, Nat.le_of_ble_eq_true rfl, Nat.le_of_ble_eq_true rfl⟩ ⟨Nat.le_of_ble_eq_true rfl, Nat.le_of_ble_eq_true rfl⟩ hl.1 rfl rfl (Nat.le_of_ble_eq_true rfl) dd_Checker_open_42) hS hne C.2.2.2.2.2.2.1
  refine xk_goesV (xr_S (As := [.int s0]) (rest := []) C hP hS (ct_Checker_need htr hok hq) kq_Checker_60 ⟨rfl, rfl, Nat.le_of_ble_eq_true rfl, Nat.le_of_ble_eq_true rfl⟩ ⟨Nat.le_of_ble_eq_true rfl, Nat.le_of_ble_eq_true rfl⟩ hl.1 rfl rfl (Nat.le_of_ble_eq_true rfl) dd_Checker_open_42) hS (fun H locs hP hS => ?_)
  clear hq
  refine lv_aload_n hx hb dd_Checker_open_45 rfl (lv_at hl 0 rfl) ?_
  refine lv_iload_n hx hb dd_Checker_open_46 rfl (lv_at hl 1 rfl) ?_
  obtain ⟨a5, u6, hq, h⟩ := xp_seq h
  refine xk_goesI (xr_V (As := [.int b1]) (rest := []) C hP hS (ct_Checker_parameterCount htr hok hq) kq_Checker_287 55 1 rfl rfl ⟨rfl, rfl, Nat.le_of_ble_eq_true rfl, Nat.le_of_ble_eq_true rfl⟩ ⟨Nat.le_of_ble_eq_true rfl, Nat.le_of_ble_eq_true rfl⟩ hl.1 rfl rfl (Nat.le_of_ble_eq_true rfl) dd_Checker_open_47) hS (fun H locs hP hS => ?_)
  clear hq
  refine lv_istore_n (lv' := [(3, .int a5), (0, .ref (ad 55)), (1, .int b1)]) hx hb dd_Checker_open_50 rfl hl (by decide) rfl (fun ls hl => ?_)
  refine lv_iload_n hx hb dd_Checker_open_51 rfl (lv_at hl 0 rfl) ?_
  refine lv_iconst (v := 1) hx hb dd_Checker_open_52 (by decide) ?_
  refine lv_isub hx hb dd_Checker_open_53 ?_
  obtain ⟨a7, ea7, h⟩ := xp_let h
  refine xr_nami ea7 ?_
  refine lv_istore (lv' := [(4, .int a7), (3, .int a5), (0, .ref (ad 55)), (1, .int b1)]) hx hb dd_Checker_open_54 hl (by decide) rfl (fun ls hl => ?_)
  exact wj_Checker_open_56 htr C hne h hP hS (lv_sub hl [2, 3, 1, 0] rfl)
set_option maxHeartbeats 4000000 in
set_option maxRecDepth 100000 in
theorem ct_Checker_open {l : Launch} {D : va_G} {ad : Nat → Nat} {ca : Nat → ClassId} {ads : List Nat} (htr : l.stackTraces = false) (hok : xk_ok (kw_h ad ca) ads) {fu : Nat} {x0 : Int32} {u u' : xk_St} {r : (Unit ⊕ Nat)} (h : fm_Checker_open fu x0 u = some (r, u')) :
    ∀ sz, xk_Met l ⟨"ModuleHouse$Checker", "open", "(I)V"⟩ (Cond.code ⟨"ModuleHouse$Checker", "open", "(I)V"⟩ prog_2_method_32_code 5 none :: xk_gd) rm_Checker_open (xk_Pc D kx_cl (kx_ty ca) (kw_h ad ca) ads xk_F sz [.ref (ad 55), .int x0] u) (xk_Qc D kx_cl (kw_h ad ca) ads (xo_v r) u') (xk_A ads sz) := by
  unfold fm_Checker_open at h
  refine xk_con (by decide) htr hok (Nat.le_of_ble_eq_true rfl) (fun p e s m below meth c ls C hne hl hP => ?_)
  have hx := C.1.1
  have hb := C.1.2.1
  have hS : va_S (xk_A ads s.heap.size) s.heap s.heap [] := va_S.rf
  have hl : lv_has ls 5 [(0, .ref (ad 55)), (1, .int x0)] := hl
  refine lv_aload_n hx hb dd_Checker_open_0 rfl (lv_at hl 0 rfl) ?_
  refine gf_h_Checker_55_code C hP dd_Checker_open_1 ?_
  refine gf_h_Checker_12_first C hP dd_Checker_open_4 ?_
  refine lv_iload_n hx hb dd_Checker_open_7 rfl (lv_at hl 1 rfl) ?_
  obtain ⟨hi, h⟩ := xp_g h
  refine al_h_14 C hP hi dd_Checker_open_8 ?_
  obtain ⟨a1, ea1, h⟩ := xp_let h
  refine xr_nami ea1 ?_
  refine lv_istore_n (lv' := [(2, .int a1), (0, .ref (ad 55)), (1, .int x0)]) hx hb dd_Checker_open_9 rfl hl (by decide) rfl (fun ls hl => ?_)
  refine lv_iload_n hx hb dd_Checker_open_10 rfl (lv_at hl 0 rfl) ?_
  refine lv_sipush (v := 1024) hx hb dd_Checker_open_11 (by decide) ?_
  refine lv_icmp_lt (tgt := 34) hx hb dd_Checker_open_14 (by decide) (fun hc => ?_) (fun hc => ?_)
  · have h := xp_t hc h
    refine lv_aload_n hx hb dd_Checker_open_34 rfl (lv_at hl 1 rfl) ?_
    refine gf_h_Checker_55_types C hP dd_Checker_open_35 ?_
    refine lv_iload_n hx hb dd_Checker_open_38 rfl (lv_at hl 0 rfl) ?_
    obtain ⟨a2, u3, hq, h⟩ := xp_seq h
    refine xk_goesI (xr_V (As := [.int a1]) (rest := []) C hP hS (ct_Types_knows htr hok hq) kq_Checker_121 6 9 rfl rfl ⟨rfl, rfl, Nat.le_of_ble_eq_true rfl, Nat.le_of_ble_eq_true rfl⟩ ⟨Nat.le_of_ble_eq_true rfl, Nat.le_of_ble_eq_true rfl⟩ hl.1 rfl rfl (Nat.le_of_ble_eq_true rfl) dd_Checker_open_39) hS (fun H locs hP hS => ?_)
    clear hq
    exact wj_Checker_open_42 htr C hne h hP hS (lv_sub hl [1, 2] rfl)
  · have h := xp_f hc h
    refine lv_aload_n hx hb dd_Checker_open_17 rfl (lv_at hl 1 rfl) ?_
    refine gf_h_Checker_55_types C hP dd_Checker_open_18 ?_
    refine lv_iload_n hx hb dd_Checker_open_21 rfl (lv_at hl 0 rfl) ?_
    refine lv_sipush (v := 1024) hx hb dd_Checker_open_22 (by decide) ?_
    refine lv_isub hx hb dd_Checker_open_25 ?_
    refine lv_bipush (v := 96) hx hb dd_Checker_open_26 (by decide) ?_
    obtain ⟨a14, u15, hq, h⟩ := xp_seq h
    refine xk_goesI (xr_V (As := [.int (a1 - (1024 : Int32)), .int (96 : Int32)]) (rest := []) C hP hS (ct_Types_is htr hok hq) kq_Checker_135 6 9 rfl rfl ⟨rfl, rfl, Nat.le_of_ble_eq_true rfl, Nat.le_of_ble_eq_true rfl⟩ ⟨Nat.le_of_ble_eq_true rfl, Nat.le_of_ble_eq_true rfl⟩ hl.1 rfl rfl (Nat.le_of_ble_eq_true rfl) dd_Checker_open_28) hS (fun H locs hP hS => ?_)
    clear hq
    refine lv_goto (tgt := 42) hx hb dd_Checker_open_31 (by decide) ?_
    exact wj_Checker_open_42 htr C hne h hP hS (lv_sub hl [1, 2] rfl)
abbrev rm_Checker_resultOf : Room := { frames := 2, cells := 1, slots := 6, locals := 22 }
noncomputable def fm_Checker_resultOf (x0 : Int32) (x1 : Int32) (u : xk_St) : Option (Int32 × xk_St) :=
  (if x0 < 0 ∨ 8192 ≤ x0.toNatClampNeg then none else xs_let (u.2.2.1 8 x0.toNatClampNeg) fun a1 => if (1024 : Int32) ≤ a1 then ((xs_seq (fm_Types_outcome (a1 - (1024 : Int32)) x1 u) fun a2 u3 => some (a2, u3))) else (some (a1, u)))
set_option maxHeartbeats 4000000 in
set_option maxRecDepth 100000 in
theorem ct_Checker_resultOf {l : Launch} {D : va_G} {ad : Nat → Nat} {ca : Nat → ClassId} {ads : List Nat} (htr : l.stackTraces = false) (hok : xk_ok (kw_h ad ca) ads) {x0 : Int32} {x1 : Int32} {u u' : xk_St} {r : Int32} (h : fm_Checker_resultOf x0 x1 u = some (r, u')) :
    ∀ sz, xk_Met l ⟨"ModuleHouse$Checker", "resultOf", "(II)I"⟩ (Cond.code ⟨"ModuleHouse$Checker", "resultOf", "(II)I"⟩ prog_2_method_21_code 4 (some .int) :: xk_gd) rm_Checker_resultOf (xk_Pc D kx_cl (kx_ty ca) (kw_h ad ca) ads xk_F sz [.ref (ad 55), .int x0, .int x1] u) (xk_Qc D kx_cl (kw_h ad ca) ads (xo_i (.inl r)) u') (xk_A ads sz) := by
  unfold fm_Checker_resultOf at h
  refine xk_con (by decide) htr hok (Nat.le_of_ble_eq_true rfl) (fun p e s m below meth c ls C hne hl hP => ?_)
  have hx := C.1.1
  have hb := C.1.2.1
  have hS : va_S (xk_A ads s.heap.size) s.heap s.heap [] := va_S.rf
  have hl : lv_has ls 4 [(0, .ref (ad 55)), (1, .int x0), (2, .int x1)] := hl
  refine lv_aload_n hx hb dd_Checker_resultOf_0 rfl (lv_at hl 0 rfl) ?_
  refine gf_h_Checker_55_code C hP dd_Checker_resultOf_1 ?_
  refine gf_h_Checker_12_first C hP dd_Checker_resultOf_4 ?_
  refine lv_iload_n hx hb dd_Checker_resultOf_7 rfl (lv_at hl 1 rfl) ?_
  obtain ⟨hi, h⟩ := xp_g h
  refine al_h_14 C hP hi dd_Checker_resultOf_8 ?_
  obtain ⟨a1, ea1, h⟩ := xp_let h
  refine xr_nami ea1 ?_
  refine lv_istore_n (lv' := [(3, .int a1), (0, .ref (ad 55)), (1, .int x0), (2, .int x1)]) hx hb dd_Checker_resultOf_9 rfl hl (by decide) rfl (fun ls hl => ?_)
  refine lv_iload_n hx hb dd_Checker_resultOf_10 rfl (lv_at hl 0 rfl) ?_
  refine lv_sipush (v := 1024) hx hb dd_Checker_resultOf_11 (by decide) ?_
  refine lv_icmp_ge (tgt := 21) hx hb dd_Checker_resultOf_14 (by decide) (fun hc => ?_) (fun hc => ?_)
  · have h := xp_t hc h
    refine lv_aload_n hx hb dd_Checker_resultOf_21 rfl (lv_at hl 1 rfl) ?_
    refine gf_h_Checker_55_types C hP dd_Checker_resultOf_22 ?_
    refine lv_iload_n hx hb dd_Checker_resultOf_25 rfl (lv_at hl 0 rfl) ?_
    refine lv_sipush (v := 1024) hx hb dd_Checker_resultOf_26 (by decide) ?_
    refine lv_isub hx hb dd_Checker_resultOf_29 ?_
    refine lv_iload_n hx hb dd_Checker_resultOf_30 rfl (lv_at hl 3 rfl) ?_
    obtain ⟨a2, u3, hq, h⟩ := xp_seq h
    refine xk_goesI (xr_V (As := [.int (a1 - (1024 : Int32)), .int x1]) (rest := []) C hP hS (ct_Types_outcome htr hok hq) kq_Checker_115 6 9 rfl rfl ⟨rfl, rfl, Nat.le_of_ble_eq_true rfl, Nat.le_of_ble_eq_true rfl⟩ ⟨Nat.le_of_ble_eq_true rfl, Nat.le_of_ble_eq_true rfl⟩ hl.1 rfl rfl (Nat.le_of_ble_eq_true rfl) dd_Checker_resultOf_31) hS (fun H locs hP hS => ?_)
    clear hq
    obtain ⟨rfl, rfl⟩ := xp_r h
    exact xr_iret C hP hS dd_Checker_resultOf_34
  · have h := xp_f hc h
    refine lv_iload_n hx hb dd_Checker_resultOf_17 rfl (lv_at hl 0 rfl) ?_
    refine lv_goto (tgt := 34) hx hb dd_Checker_resultOf_18 (by decide) ?_
    obtain ⟨rfl, rfl⟩ := xp_r h
    exact xr_iret C hP hS dd_Checker_resultOf_34
abbrev rm_Checker_popResults : Room := { frames := 8, cells := 1, slots := 6, locals := 141 }
noncomputable def jb_Checker_popResults_44 (fu : Nat) (s0 : Int32) (u : xk_St) : Option ((Unit ⊕ Nat) × xk_St) :=
  (xs_try (fm_Checker_need s0 u) fun _ u4 => some (.inl (()), u4))
noncomputable def jb_Checker_popResults_8 (fu : Nat) : Nat → Int32 → Int32 → xk_St → Option ((Unit ⊕ Nat) × xk_St)
  | 0 => fun _ _ _ => none
  | n + 1 => fun b1 b2 u =>
    xs_let (jb_Checker_popResults_8 fu  n) fun k8 =>
    if b2 < (0 : Int32) then (if (u.1 19) = (u.1 20) then (jb_Checker_popResults_44 fu (1 : Int32) u) else (jb_Checker_popResults_44 fu (0 : Int32) u)) else ((xs_seq (fm_Checker_resultOf b1 b2 u) fun a5 u6 => xs_try (fm_Checker_pop_I a5 u6) fun _ u7 => xs_let (b2 + (-1 : Int32)) fun a8 => k8 b1 a8 u7))
noncomputable def fm_Checker_popResults (fu : Nat) (x0 : Int32) (u : xk_St) : Option ((Unit ⊕ Nat) × xk_St) :=
  (xs_seq (fm_Checker_resultCount x0 u) fun a1 u2 => xs_let (a1 - (1 : Int32)) fun a3 => jb_Checker_popResults_8 fu fu x0 a3 u2)
set_option maxHeartbeats 4000000 in
set_option maxRecDepth 100000 in
theorem wj_Checker_popResults_44 {p : Program} {l : Launch} {e : Env} {s : State} {m : MethodId} {args : Array Value} {below : List Frame} {meth : Method} {c : Code} {D : va_G} {ad : Nat → Nat} {ca : Nat → ClassId} {ads : List Nat} {fu : Nat} (htr : l.stackTraces = false) (C : xk_C D kx_cl (kx_ty ca) (kw_h ad ca) ads "ModuleHouse$Checker" prog_2_method_34_code 3 none p e s m args meth c) (hne : c.exceptionTable.isEmpty = true) {u' : xk_St} {r : (Unit ⊕ Nat)} {s0 : Int32} {u : xk_St} {H : Heap} {locs : List Loc} {ls : Array Slot} (h : jb_Checker_popResults_44 fu  s0 u = some (r, u')) (hP : va_P D kx_cl (kw_h ad ca u) H) (hS : va_S (xk_A ads s.heap.size) s.heap H locs) (hl : lv_has ls 3 []) : W p l e rm_Checker_popResults s m args below meth c H locs 0 0 (xk_MQ below (xk_Qc D kx_cl (kw_h ad ca) ads (xo_v r) u') args s (xk_A ads s.heap.size)) (F0 m 44 ls [.int s0]) := by
  have hx := C.1.1
  have hb := C.1.2.1
  have hok := C.2.2.1
  unfold jb_Checker_popResults_44 at h
  rcases xp_try h with ⟨rx, u4, hq, h⟩ | ⟨kx, ux, hq, h⟩
  rotate_left
  · obtain ⟨rfl, rfl⟩ := xp_q h
    exact xk_up (xr_S (As := [.int s0]) (rest := []) C hP hS (ct_Checker_need htr hok hq) kq_Checker_60 ⟨rfl, rfl, Nat.le_of_ble_eq_true rfl, Nat.le_of_ble_eq_true rfl⟩ ⟨Nat.le_of_ble_eq_true rfl, Nat.le_of_ble_eq_true rfl⟩ hl.1 rfl rfl (Nat.le_of_ble_eq_true rfl) dd_Checker_popResults_44) hS hne C.2.2.2.2.2.2.1
  refine xk_goesV (xr_S (As := [.int s0]) (rest := []) C hP hS (ct_Checker_need htr hok hq) kq_Checker_60 ⟨rfl, rfl, Nat.le_of_ble_eq_true rfl, Nat.le_of_ble_eq_true rfl⟩ ⟨Nat.le_of_ble_eq_true rfl, Nat.le_of_ble_eq_true rfl⟩ hl.1 rfl rfl (Nat.le_of_ble_eq_true rfl) dd_Checker_popResults_44) hS (fun H locs hP hS => ?_)
  clear hq
  obtain ⟨rfl, rfl⟩ := xp_r h
  exact xr_vret C hP hS dd_Checker_popResults_47
set_option maxHeartbeats 4000000 in
set_option maxRecDepth 100000 in
theorem wj_Checker_popResults_8 {p : Program} {l : Launch} {e : Env} {s : State} {m : MethodId} {args : Array Value} {below : List Frame} {meth : Method} {c : Code} {D : va_G} {ad : Nat → Nat} {ca : Nat → ClassId} {ads : List Nat} {fu : Nat} (htr : l.stackTraces = false) (C : xk_C D kx_cl (kx_ty ca) (kw_h ad ca) ads "ModuleHouse$Checker" prog_2_method_34_code 3 none p e s m args meth c) (hne : c.exceptionTable.isEmpty = true) {u' : xk_St} {r : (Unit ⊕ Nat)} : ∀ {n : Nat} {b1 : Int32} {b2 : Int32} {u : xk_St} {H : Heap} {locs : List Loc} {ls : Array Slot} (h : jb_Checker_popResults_8 fu  n b1 b2 u = some (r, u')) (hP : va_P D kx_cl (kw_h ad ca u) H) (hS : va_S (xk_A ads s.heap.size) s.heap H locs) (hl : lv_has ls 3 [(0, .ref (ad 55)), (1, .int b1), (2, .int b2)]), W p l e rm_Checker_popResults s m args below meth c H locs 0 0 (xk_MQ below (xk_Qc D kx_cl (kw_h ad ca) ads (xo_v r) u') args s (xk_A ads s.heap.size)) (F0 m 8 ls []) := by
  intro n
  have hx := C.1.1
  have hb := C.1.2.1
  have hok := C.2.2.1
  induction n with
  | zero =>
    intro _ _ u H locs ls h
    have h : none = some (r, u') := h
    cases h
  | succ n ih =>
    intro b1 b2 u H locs ls h hP hS hl
    unfold jb_Checker_popResults_8 at h
    obtain ⟨k8, ek8, h⟩ := xp_let h
    have hk8 : ∀ (c0 : Int32) (c1 : Int32) (u : xk_St) (H : Heap) (locs : List Loc) (ls : Array Slot), k8 c0 c1 u = some (r, u') → va_P D kx_cl (kw_h ad ca u) H → va_S (xk_A ads s.heap.size) s.heap H locs → lv_has ls 3 [(0, .ref (ad 55)), (1, .int c0), (2, .int c1)] → W p l e rm_Checker_popResults s m args below meth c H locs 0 0 (xk_MQ below (xk_Qc D kx_cl (kw_h ad ca) ads (xo_v r) u') args s (xk_A ads s.heap.size)) (F0 m 8 ls []) := by
      intro c0 c1 u H locs ls h hP hS hl
      subst ek8
      exact ih h hP hS hl
    clear ih ek8
    refine lv_iload_n hx hb dd_Checker_popResults_8 rfl (lv_at hl 2 rfl) ?_
    refine lv_if_lt (tgt := 28) hx hb dd_Checker_popResults_9 (by decide) (fun hc => ?_) (fun hc => ?_)
    · have h := xp_t hc h
      refine lv_aload_n hx hb dd_Checker_popResults_28 rfl (lv_at hl 0 rfl) ?_
      refine gf_h_Checker_55_height C hP dd_Checker_popResults_29 ?_
      refine lv_aload_n hx hb dd_Checker_popResults_32 rfl (lv_at hl 0 rfl) ?_
      refine gf_h_Checker_55_floor C hP dd_Checker_popResults_33 ?_
      refine lv_icmp_ne (tgt := 43) hx hb dd_Checker_popResults_36 (by decide) (fun hc => ?_) (fun hc => ?_)
      · have h := xp_f hc h
        refine lv_iconst (v := 0) hx hb dd_Checker_popResults_43 (by decide) ?_
        exact wj_Checker_popResults_44 htr C hne h hP hS (lv_sub hl [] rfl)
      · have h := xp_t hc h
        refine lv_iconst (v := 1) hx hb dd_Checker_popResults_39 (by decide) ?_
        refine lv_goto (tgt := 44) hx hb dd_Checker_popResults_40 (by decide) ?_
        exact wj_Checker_popResults_44 htr C hne h hP hS (lv_sub hl [] rfl)
    · have h := xp_f hc h
      refine lv_aload_n hx hb dd_Checker_popResults_12 rfl (lv_at hl 0 rfl) ?_
      refine lv_aload_n hx hb dd_Checker_popResults_13 rfl (lv_at hl 0 rfl) ?_
      refine lv_iload_n hx hb dd_Checker_popResults_14 rfl (lv_at hl 1 rfl) ?_
      refine lv_iload_n hx hb dd_Checker_popResults_15 rfl (lv_at hl 2 rfl) ?_
      obtain ⟨a5, u6, hq, h⟩ := xp_seq h
      refine xk_goesI (xr_V (As := [.int b1, .int b2]) (rest := [.ref (ad 55)]) C hP hS (ct_Checker_resultOf htr hok hq) kq_Checker_299 55 1 rfl rfl ⟨rfl, rfl, Nat.le_of_ble_eq_true rfl, Nat.le_of_ble_eq_true rfl⟩ ⟨Nat.le_of_ble_eq_true rfl, Nat.le_of_ble_eq_true rfl⟩ hl.1 rfl rfl (Nat.le_of_ble_eq_true rfl) dd_Checker_popResults_16) hS (fun H locs hP hS => ?_)
      clear hq
      rcases xp_try h with ⟨rx, u7, hq, h⟩ | ⟨kx, ux, hq, h⟩
      rotate_left
      · obtain ⟨rfl, rfl⟩ := xp_q h
        exact xk_up (xr_V (As := [.int a5]) (rest := []) C hP hS (ct_Checker_pop_I htr hok hq) kq_Checker_238 55 1 rfl rfl ⟨rfl, rfl, Nat.le_of_ble_eq_true rfl, Nat.le_of_ble_eq_true rfl⟩ ⟨Nat.le_of_ble_eq_true rfl, Nat.le_of_ble_eq_true rfl⟩ hl.1 rfl rfl (Nat.le_of_ble_eq_true rfl) dd_Checker_popResults_19) hS hne C.2.2.2.2.2.2.1
      refine xk_goesV (xr_V (As := [.int a5]) (rest := []) C hP hS (ct_Checker_pop_I htr hok hq) kq_Checker_238 55 1 rfl rfl ⟨rfl, rfl, Nat.le_of_ble_eq_true rfl, Nat.le_of_ble_eq_true rfl⟩ ⟨Nat.le_of_ble_eq_true rfl, Nat.le_of_ble_eq_true rfl⟩ hl.1 rfl rfl (Nat.le_of_ble_eq_true rfl) dd_Checker_popResults_19) hS (fun H locs hP hS => ?_)
      clear hq
      obtain ⟨a8, ea8, h⟩ := xp_let h
      refine lv_iinc (v := a8) (lv' := [(2, .int a8), (0, .ref (ad 55)), (1, .int b1)]) hx hb dd_Checker_popResults_22 hl (k := 2) rfl (by rw [ea8]; first | rfl | decide) (by decide) rfl (fun ls hl => ?_)
      refine lv_goto (tgt := 8) hx hb dd_Checker_popResults_25 (by decide) ?_
      exact hk8 b1 a8 u7 _ _ _ h hP hS (lv_sub hl [1, 2, 0] rfl)
set_option maxHeartbeats 4000000 in
set_option maxRecDepth 100000 in
theorem ct_Checker_popResults {l : Launch} {D : va_G} {ad : Nat → Nat} {ca : Nat → ClassId} {ads : List Nat} (htr : l.stackTraces = false) (hok : xk_ok (kw_h ad ca) ads) {fu : Nat} {x0 : Int32} {u u' : xk_St} {r : (Unit ⊕ Nat)} (h : fm_Checker_popResults fu x0 u = some (r, u')) :
    ∀ sz, xk_Met l ⟨"ModuleHouse$Checker", "popResults", "(I)V"⟩ (Cond.code ⟨"ModuleHouse$Checker", "popResults", "(I)V"⟩ prog_2_method_34_code 3 none :: xk_gd) rm_Checker_popResults (xk_Pc D kx_cl (kx_ty ca) (kw_h ad ca) ads xk_F sz [.ref (ad 55), .int x0] u) (xk_Qc D kx_cl (kw_h ad ca) ads (xo_v r) u') (xk_A ads sz) := by
  unfold fm_Checker_popResults at h
  refine xk_con (by decide) htr hok (Nat.le_of_ble_eq_true rfl) (fun p e s m below meth c ls C hne hl hP => ?_)
  have hx := C.1.1
  have hb := C.1.2.1
  have hS : va_S (xk_A ads s.heap.size) s.heap s.heap [] := va_S.rf
  have hl : lv_has ls 3 [(0, .ref (ad 55)), (1, .int x0)] := hl
  refine lv_aload_n hx hb dd_Checker_popResults_0 rfl (lv_at hl 0 rfl) ?_
  refine lv_iload_n hx hb dd_Checker_popResults_1 rfl (lv_at hl 1 rfl) ?_
  obtain ⟨a1, u2, hq, h⟩ := xp_seq h
  refine xk_goesI (xr_V (As := [.int x0]) (rest := []) C hP hS (ct_Checker_resultCount htr hok hq) kq_Checker_290 55 1 rfl rfl ⟨rfl, rfl, Nat.le_of_ble_eq_true rfl, Nat.le_of_ble_eq_true rfl⟩ ⟨Nat.le_of_ble_eq_true rfl, Nat.le_of_ble_eq_true rfl⟩ hl.1 rfl rfl (Nat.le_of_ble_eq_true rfl) dd_Checker_popResults_2) hS (fun H locs hP hS => ?_)
  clear hq
  refine lv_iconst (v := 1) hx hb dd_Checker_popResults_5 (by decide) ?_
  refine lv_isub hx hb dd_Checker_popResults_6 ?_
  obtain ⟨a3, ea3, h⟩ := xp_let h
  refine xr_nami ea3 ?_
  refine lv_istore_n (lv' := [(2, .int a3), (0, .ref (ad 55)), (1, .int x0)]) hx hb dd_Checker_popResults_7 rfl hl (by decide) rfl (fun ls hl => ?_)
  exact wj_Checker_popResults_8 htr C hne h hP hS (lv_sub hl [1, 2, 0] rfl)
abbrev rm_Checker_turn : Room := { frames := 9, cells := 1, slots := 6, locals := 164 }
noncomputable def fm_Checker_turn (fu : Nat) (u : xk_St) : Option ((Unit ⊕ Nat) × xk_St) :=
  (if ((u.1 21) - (1 : Int32)) < 0 ∨ 100 ≤ ((u.1 21) - (1 : Int32)).toNatClampNeg then none else xs_let (u.2.2.1 34 ((u.1 21) - (1 : Int32)).toNatClampNeg) fun a1 => xs_try (fm_Checker_popResults fu a1 u) fun _ u2 => if ((u2.1 21) - (1 : Int32)) < 0 ∨ 100 ≤ ((u2.1 21) - (1 : Int32)).toNatClampNeg then none else xs_let (xs_A u2 35 ((u2.1 21) - (1 : Int32)).toNatClampNeg (vp_nar .boolean (0 : Int32))) fun u3 => xs_seq (fm_Checker_parameterCount a1 u3) fun a4 u5 => xs_try (fm_Checker_pushParameters fu a1 a4 u5) fun _ u6 => some (.inl (()), u6))
set_option maxHeartbeats 4000000 in
set_option maxRecDepth 100000 in
theorem ct_Checker_turn {l : Launch} {D : va_G} {ad : Nat → Nat} {ca : Nat → ClassId} {ads : List Nat} (htr : l.stackTraces = false) (hok : xk_ok (kw_h ad ca) ads) {fu : Nat} {u u' : xk_St} {r : (Unit ⊕ Nat)} (h : fm_Checker_turn fu u = some (r, u')) :
    ∀ sz, xk_Met l ⟨"ModuleHouse$Checker", "turn", "()V"⟩ (Cond.code ⟨"ModuleHouse$Checker", "turn", "()V"⟩ prog_2_method_35_code 2 none :: xk_gd) rm_Checker_turn (xk_Pc D kx_cl (kx_ty ca) (kw_h ad ca) ads xk_F sz [.ref (ad 55)] u) (xk_Qc D kx_cl (kw_h ad ca) ads (xo_v r) u') (xk_A ads sz) := by
  unfold fm_Checker_turn at h
  refine xk_con (by decide) htr hok (Nat.le_of_ble_eq_true rfl) (fun p e s m below meth c ls C hne hl hP => ?_)
  have hx := C.1.1
  have hb := C.1.2.1
  have hS : va_S (xk_A ads s.heap.size) s.heap s.heap [] := va_S.rf
  have hl : lv_has ls 2 [(0, .ref (ad 55))] := hl
  refine lv_aload_n hx hb dd_Checker_turn_0 rfl (lv_at hl 0 rfl) ?_
  refine gf_h_Checker_55_opened C hP dd_Checker_turn_1 ?_
  refine lv_aload_n hx hb dd_Checker_turn_4 rfl (lv_at hl 0 rfl) ?_
  refine gf_h_Checker_55_depth C hP dd_Checker_turn_5 ?_
  refine lv_iconst (v := 1) hx hb dd_Checker_turn_8 (by decide) ?_
  refine lv_isub hx hb dd_Checker_turn_9 ?_
  obtain ⟨hi, h⟩ := xp_g h
  refine al_h_57 C hP hi dd_Checker_turn_10 ?_
  obtain ⟨a1, ea1, h⟩ := xp_let h
  refine xr_nami ea1 ?_
  refine lv_istore_n (lv' := [(1, .int a1), (0, .ref (ad 55))]) hx hb dd_Checker_turn_11 rfl hl (by decide) rfl (fun ls hl => ?_)
  refine lv_aload_n hx hb dd_Checker_turn_12 rfl (lv_at hl 1 rfl) ?_
  refine lv_iload_n hx hb dd_Checker_turn_13 rfl (lv_at hl 0 rfl) ?_
  rcases xp_try h with ⟨rx, u2, hq, h⟩ | ⟨kx, ux, hq, h⟩
  rotate_left
  · obtain ⟨rfl, rfl⟩ := xp_q h
    exact xk_up (xr_V (As := [.int a1]) (rest := []) C hP hS (ct_Checker_popResults htr hok hq) kq_Checker_302 55 1 rfl rfl ⟨rfl, rfl, Nat.le_of_ble_eq_true rfl, Nat.le_of_ble_eq_true rfl⟩ ⟨Nat.le_of_ble_eq_true rfl, Nat.le_of_ble_eq_true rfl⟩ hl.1 rfl rfl (Nat.le_of_ble_eq_true rfl) dd_Checker_turn_14) hS hne C.2.2.2.2.2.2.1
  refine xk_goesV (xr_V (As := [.int a1]) (rest := []) C hP hS (ct_Checker_popResults htr hok hq) kq_Checker_302 55 1 rfl rfl ⟨rfl, rfl, Nat.le_of_ble_eq_true rfl, Nat.le_of_ble_eq_true rfl⟩ ⟨Nat.le_of_ble_eq_true rfl, Nat.le_of_ble_eq_true rfl⟩ hl.1 rfl rfl (Nat.le_of_ble_eq_true rfl) dd_Checker_turn_14) hS (fun H locs hP hS => ?_)
  clear hq
  refine lv_aload_n hx hb dd_Checker_turn_17 rfl (lv_at hl 1 rfl) ?_
  refine gf_h_Checker_55_lost C hP dd_Checker_turn_18 ?_
  refine lv_aload_n hx hb dd_Checker_turn_21 rfl (lv_at hl 1 rfl) ?_
  refine gf_h_Checker_55_depth C hP dd_Checker_turn_22 ?_
  refine lv_iconst (v := 1) hx hb dd_Checker_turn_25 (by decide) ?_
  refine lv_isub hx hb dd_Checker_turn_26 ?_
  refine lv_iconst (v := 0) hx hb dd_Checker_turn_27 (by decide) ?_
  obtain ⟨hi, h⟩ := xp_g h
  refine as_h_58 C hP hS hi dd_Checker_turn_28 (fun H locs hP hS => ?_)
  obtain ⟨u3, eu3, h⟩ := xp_let h
  rw [← eu3] at hP
  refine lv_aload_n hx hb dd_Checker_turn_29 rfl (lv_at hl 1 rfl) ?_
  refine lv_iload_n hx hb dd_Checker_turn_30 rfl (lv_at hl 0 rfl) ?_
  refine lv_aload_n hx hb dd_Checker_turn_31 rfl (lv_at hl 1 rfl) ?_
  refine lv_iload_n hx hb dd_Checker_turn_32 rfl (lv_at hl 0 rfl) ?_
  obtain ⟨a4, u5, hq, h⟩ := xp_seq h
  refine xk_goesI (xr_V (As := [.int a1]) (rest := [.int a1, .ref (ad 55)]) C hP hS (ct_Checker_parameterCount htr hok hq) kq_Checker_287 55 1 rfl rfl ⟨rfl, rfl, Nat.le_of_ble_eq_true rfl, Nat.le_of_ble_eq_true rfl⟩ ⟨Nat.le_of_ble_eq_true rfl, Nat.le_of_ble_eq_true rfl⟩ hl.1 rfl rfl (Nat.le_of_ble_eq_true rfl) dd_Checker_turn_33) hS (fun H locs hP hS => ?_)
  clear hq
  rcases xp_try h with ⟨rx, u6, hq, h⟩ | ⟨kx, ux, hq, h⟩
  rotate_left
  · obtain ⟨rfl, rfl⟩ := xp_q h
    exact xk_up (xr_V (As := [.int a1, .int a4]) (rest := []) C hP hS (ct_Checker_pushParameters htr hok hq) kq_Checker_296 55 1 rfl rfl ⟨rfl, rfl, Nat.le_of_ble_eq_true rfl, Nat.le_of_ble_eq_true rfl⟩ ⟨Nat.le_of_ble_eq_true rfl, Nat.le_of_ble_eq_true rfl⟩ hl.1 rfl rfl (Nat.le_of_ble_eq_true rfl) dd_Checker_turn_36) hS hne C.2.2.2.2.2.2.1
  refine xk_goesV (xr_V (As := [.int a1, .int a4]) (rest := []) C hP hS (ct_Checker_pushParameters htr hok hq) kq_Checker_296 55 1 rfl rfl ⟨rfl, rfl, Nat.le_of_ble_eq_true rfl, Nat.le_of_ble_eq_true rfl⟩ ⟨Nat.le_of_ble_eq_true rfl, Nat.le_of_ble_eq_true rfl⟩ hl.1 rfl rfl (Nat.le_of_ble_eq_true rfl) dd_Checker_turn_36) hS (fun H locs hP hS => ?_)
  clear hq
  obtain ⟨rfl, rfl⟩ := xp_r h
  exact xr_vret C hP hS dd_Checker_turn_39
abbrev rm_Types_same : Room := { frames := 2, cells := 1, slots := 6, locals := 24 }
noncomputable def fm_Types_same (x0 : Int32) (x1 : Int32) (u : xk_St) : Option (Int32 × xk_St) :=
  (xs_seq (fm_Types_fits x0 x1 u) fun a1 u2 => if a1 = (0 : Int32) then (some ((0 : Int32), u2)) else ((xs_seq (fm_Types_fits x1 x0 u2) fun a3 u4 => if a3 = (0 : Int32) then (some ((0 : Int32), u4)) else (some ((1 : Int32), u4)))))
set_option maxHeartbeats 4000000 in
set_option maxRecDepth 100000 in
theorem ct_Types_same {l : Launch} {D : va_G} {ad : Nat → Nat} {ca : Nat → ClassId} {ads : List Nat} (htr : l.stackTraces = false) (hok : xk_ok (kw_h ad ca) ads) {x0 : Int32} {x1 : Int32} {u u' : xk_St} {r : Int32} (h : fm_Types_same x0 x1 u = some (r, u')) :
    ∀ sz, xk_Met l ⟨"ModuleHouse$Types", "same", "(II)Z"⟩ (Cond.code ⟨"ModuleHouse$Types", "same", "(II)Z"⟩ prog_11_method_21_code 3 (some .boolean) :: xk_gd) rm_Types_same (xk_Pc D kx_cl (kx_ty ca) (kw_h ad ca) ads xk_F sz [.ref (ad 6), .int x0, .int x1] u) (xk_Qc D kx_cl (kw_h ad ca) ads (xo_i (.inl r)) u') (xk_A ads sz) := by
  unfold fm_Types_same at h
  refine xk_con (by decide) htr hok (Nat.le_of_ble_eq_true rfl) (fun p e s m below meth c ls C hne hl hP => ?_)
  have hx := C.1.1
  have hb := C.1.2.1
  have hS : va_S (xk_A ads s.heap.size) s.heap s.heap [] := va_S.rf
  have hl : lv_has ls 3 [(0, .ref (ad 6)), (1, .int x0), (2, .int x1)] := hl
  refine lv_aload_n hx hb dd_Types_same_0 rfl (lv_at hl 0 rfl) ?_
  refine lv_iload_n hx hb dd_Types_same_1 rfl (lv_at hl 1 rfl) ?_
  refine lv_iload_n hx hb dd_Types_same_2 rfl (lv_at hl 2 rfl) ?_
  obtain ⟨a1, u2, hq, h⟩ := xp_seq h
  refine xk_goesI (xr_V (As := [.int x0, .int x1]) (rest := []) C hP hS (ct_Types_fits htr hok hq) kq_Types_65 6 9 rfl rfl ⟨rfl, rfl, Nat.le_of_ble_eq_true rfl, Nat.le_of_ble_eq_true rfl⟩ ⟨Nat.le_of_ble_eq_true rfl, Nat.le_of_ble_eq_true rfl⟩ hl.1 rfl rfl (Nat.le_of_ble_eq_true rfl) dd_Types_same_3) hS (fun H locs hP hS => ?_)
  clear hq
  refine lv_if_eq (tgt := 22) hx hb dd_Types_same_6 (by decide) (fun hc => ?_) (fun hc => ?_)
  · have h := xp_t hc h
    refine lv_iconst (v := 0) hx hb dd_Types_same_22 (by decide) ?_
    obtain ⟨rfl, rfl⟩ := xp_r h
    exact xr_zret C hP hS (by decide) dd_Types_same_23
  · have h := xp_f hc h
    refine lv_aload_n hx hb dd_Types_same_9 rfl (lv_at hl 0 rfl) ?_
    refine lv_iload_n hx hb dd_Types_same_10 rfl (lv_at hl 2 rfl) ?_
    refine lv_iload_n hx hb dd_Types_same_11 rfl (lv_at hl 1 rfl) ?_
    obtain ⟨a3, u4, hq, h⟩ := xp_seq h
    refine xk_goesI (xr_V (As := [.int x1, .int x0]) (rest := []) C hP hS (ct_Types_fits htr hok hq) kq_Types_65 6 9 rfl rfl ⟨rfl, rfl, Nat.le_of_ble_eq_true rfl, Nat.le_of_ble_eq_true rfl⟩ ⟨Nat.le_of_ble_eq_true rfl, Nat.le_of_ble_eq_true rfl⟩ hl.1 rfl rfl (Nat.le_of_ble_eq_true rfl) dd_Types_same_12) hS (fun H locs hP hS => ?_)
    clear hq
    refine lv_if_eq (tgt := 22) hx hb dd_Types_same_15 (by decide) (fun hc => ?_) (fun hc => ?_)
    · have h := xp_t hc h
      refine lv_iconst (v := 0) hx hb dd_Types_same_22 (by decide) ?_
      obtain ⟨rfl, rfl⟩ := xp_r h
      exact xr_zret C hP hS (by decide) dd_Types_same_23
    · have h := xp_f hc h
      refine lv_iconst (v := 1) hx hb dd_Types_same_18 (by decide) ?_
      refine lv_goto (tgt := 23) hx hb dd_Types_same_19 (by decide) ?_
      obtain ⟨rfl, rfl⟩ := xp_r h
      exact xr_zret C hP hS (by decide) dd_Types_same_23
abbrev rm_Checker_needUnchanged : Room := { frames := 7, cells := 1, slots := 6, locals := 120 }
noncomputable def jb_Checker_needUnchanged_25 (fu : Nat) : Nat → Int32 → Int32 → Int32 → xk_St → Option ((Unit ⊕ Nat) × xk_St)
  | 0 => fun _ _ _ _ => none
  | n + 1 => fun b1 b2 b3 u =>
    xs_let (jb_Checker_needUnchanged_25 fu  n) fun k25 =>
    if b2 ≤ b3 then (some (.inl (()), u)) else ((xs_seq (fm_Checker_parameterOf b1 b3 u) fun a6 u7 => xs_seq (fm_Checker_resultOf b1 b3 u7) fun a8 u9 => xs_seq (fm_Types_same a6 a8 u9) fun a10 u11 => xs_try (fm_Checker_need a10 u11) fun _ u12 => xs_let (b3 + (1 : Int32)) fun a13 => k25 b1 b2 a13 u12))
noncomputable def jb_Checker_needUnchanged_20 (fu : Nat) (b1 : Int32) (b2 : Int32) (s0 : Int32) (u : xk_St) : Option ((Unit ⊕ Nat) × xk_St) :=
  (xs_try (fm_Checker_need s0 u) fun _ u5 => jb_Checker_needUnchanged_25 fu fu b1 b2 (0 : Int32) u5)
noncomputable def fm_Checker_needUnchanged (fu : Nat) (x0 : Int32) (u : xk_St) : Option ((Unit ⊕ Nat) × xk_St) :=
  (xs_seq (fm_Checker_resultCount x0 u) fun a1 u2 => xs_seq (fm_Checker_parameterCount x0 u2) fun a3 u4 => if a3 = a1 then (jb_Checker_needUnchanged_20 fu x0 a1 (1 : Int32) u4) else (jb_Checker_needUnchanged_20 fu x0 a1 (0 : Int32) u4))
set_option maxHeartbeats 4000000 in
set_option maxRecDepth 100000 in
theorem wj_Checker_needUnchanged_25 {p : Program} {l : Launch} {e : Env} {s : State} {m : MethodId} {args : Array Value} {below : List Frame} {meth : Method} {c : Code} {D : va_G} {ad : Nat → Nat} {ca : Nat → ClassId} {ads : List Nat} {fu : Nat} (htr : l.stackTraces = false) (C : xk_C D kx_cl (kx_ty ca) (kw_h ad ca) ads "ModuleHouse$Checker" prog_2_method_37_code 4 none p e s m args meth c) (hne : c.exceptionTable.isEmpty = true) {u' : xk_St} {r : (Unit ⊕ Nat)} : ∀ {n : Nat} {b1 : Int32} {b2 : Int32} {b3 : Int32} {u : xk_St} {H : Heap} {locs : List Loc} {ls : Array Slot} (h : jb_Checker_needUnchanged_25 fu  n b1 b2 b3 u = some (r, u')) (hP : va_P D kx_cl (kw_h ad ca u) H) (hS : va_S (xk_A ads s.heap.size) s.heap H locs) (hl : lv_has ls 4 [(0, .ref (ad 55)), (1, .int b1), (2, .int b2), (3, .int b3)]), W p l e rm_Checker_needUnchanged s m args below meth c H locs 0 0 (xk_MQ below (xk_Qc D kx_cl (kw_h ad ca) ads (xo_v r) u') args s (xk_A ads s.heap.size)) (F0 m 25 ls []) := by
  intro n
  have hx := C.1.1
  have hb := C.1.2.1
  have hok := C.2.2.1
  induction n with
  | zero =>
    intro _ _ _ u H locs ls h
    have h : none = some (r, u') := h
    cases h
  | succ n ih =>
    intro b1 b2 b3 u H locs ls h hP hS hl
    unfold jb_Checker_needUnchanged_25 at h
    obtain ⟨k25, ek25, h⟩ := xp_let h
    have hk25 : ∀ (c0 : Int32) (c1 : Int32) (c2 : Int32) (u : xk_St) (H : Heap) (locs : List Loc) (ls : Array Slot), k25 c0 c1 c2 u = some (r, u') → va_P D kx_cl (kw_h ad ca u) H → va_S (xk_A ads s.heap.size) s.heap H locs → lv_has ls 4 [(0, .ref (ad 55)), (1, .int c0), (2, .int c1), (3, .int c2)] → W p l e rm_Checker_needUnchanged s m args below meth c H locs 0 0 (xk_MQ below (xk_Qc D kx_cl (kw_h ad ca) ads (xo_v r) u') args s (xk_A ads s.heap.size)) (F0 m 25 ls []) := by
      intro c0 c1 c2 u H locs ls h hP hS hl
      subst ek25
      exact ih h hP hS hl
    clear ih ek25
    refine lv_iload_n hx hb dd_Checker_needUnchanged_25 rfl (lv_at hl 3 rfl) ?_
    refine lv_iload_n hx hb dd_Checker_needUnchanged_26 rfl (lv_at hl 2 rfl) ?_
    refine lv_icmp_ge (tgt := 58) hx hb dd_Checker_needUnchanged_27 (by decide) (fun hc => ?_) (fun hc => ?_)
    · have h := xp_t hc h
      obtain ⟨rfl, rfl⟩ := xp_r h
      exact xr_vret C hP hS dd_Checker_needUnchanged_58
    · have h := xp_f hc h
      refine lv_aload_n hx hb dd_Checker_needUnchanged_30 rfl (lv_at hl 0 rfl) ?_
      refine gf_h_Checker_55_types C hP dd_Checker_needUnchanged_31 ?_
      refine lv_aload_n hx hb dd_Checker_needUnchanged_34 rfl (lv_at hl 0 rfl) ?_
      refine lv_iload_n hx hb dd_Checker_needUnchanged_35 rfl (lv_at hl 1 rfl) ?_
      refine lv_iload_n hx hb dd_Checker_needUnchanged_36 rfl (lv_at hl 3 rfl) ?_
      obtain ⟨a6, u7, hq, h⟩ := xp_seq h
      refine xk_goesI (xr_V (As := [.int b1, .int b3]) (rest := [.ref (ad 6)]) C hP hS (ct_Checker_parameterOf htr hok hq) kq_Checker_293 55 1 rfl rfl ⟨rfl, rfl, Nat.le_of_ble_eq_true rfl, Nat.le_of_ble_eq_true rfl⟩ ⟨Nat.le_of_ble_eq_true rfl, Nat.le_of_ble_eq_true rfl⟩ hl.1 rfl rfl (Nat.le_of_ble_eq_true rfl) dd_Checker_needUnchanged_37) hS (fun H locs hP hS => ?_)
      clear hq
      refine lv_aload_n hx hb dd_Checker_needUnchanged_40 rfl (lv_at hl 0 rfl) ?_
      refine lv_iload_n hx hb dd_Checker_needUnchanged_41 rfl (lv_at hl 1 rfl) ?_
      refine lv_iload_n hx hb dd_Checker_needUnchanged_42 rfl (lv_at hl 3 rfl) ?_
      obtain ⟨a8, u9, hq, h⟩ := xp_seq h
      refine xk_goesI (xr_V (As := [.int b1, .int b3]) (rest := [.int a6, .ref (ad 6)]) C hP hS (ct_Checker_resultOf htr hok hq) kq_Checker_299 55 1 rfl rfl ⟨rfl, rfl, Nat.le_of_ble_eq_true rfl, Nat.le_of_ble_eq_true rfl⟩ ⟨Nat.le_of_ble_eq_true rfl, Nat.le_of_ble_eq_true rfl⟩ hl.1 rfl rfl (Nat.le_of_ble_eq_true rfl) dd_Checker_needUnchanged_43) hS (fun H locs hP hS => ?_)
      clear hq
      obtain ⟨a10, u11, hq, h⟩ := xp_seq h
      refine xk_goesI (xr_V (As := [.int a6, .int a8]) (rest := []) C hP hS (ct_Types_same htr hok hq) kq_Checker_308 6 9 rfl rfl ⟨rfl, rfl, Nat.le_of_ble_eq_true rfl, Nat.le_of_ble_eq_true rfl⟩ ⟨Nat.le_of_ble_eq_true rfl, Nat.le_of_ble_eq_true rfl⟩ hl.1 rfl rfl (Nat.le_of_ble_eq_true rfl) dd_Checker_needUnchanged_46) hS (fun H locs hP hS => ?_)
      clear hq
      rcases xp_try h with ⟨rx, u12, hq, h⟩ | ⟨kx, ux, hq, h⟩
      rotate_left
      · obtain ⟨rfl, rfl⟩ := xp_q h
        exact xk_up (xr_S (As := [.int a10]) (rest := []) C hP hS (ct_Checker_need htr hok hq) kq_Checker_60 ⟨rfl, rfl, Nat.le_of_ble_eq_true rfl, Nat.le_of_ble_eq_true rfl⟩ ⟨Nat.le_of_ble_eq_true rfl, Nat.le_of_ble_eq_true rfl⟩ hl.1 rfl rfl (Nat.le_of_ble_eq_true rfl) dd_Checker_needUnchanged_49) hS hne C.2.2.2.2.2.2.1
      refine xk_goesV (xr_S (As := [.int a10]) (rest := []) C hP hS (ct_Checker_need htr hok hq) kq_Checker_60 ⟨rfl, rfl, Nat.le_of_ble_eq_true rfl, Nat.le_of_ble_eq_true rfl⟩ ⟨Nat.le_of_ble_eq_true rfl, Nat.le_of_ble_eq_true rfl⟩ hl.1 rfl rfl (Nat.le_of_ble_eq_true rfl) dd_Checker_needUnchanged_49) hS (fun H locs hP hS => ?_)
      clear hq
      obtain ⟨a13, ea13, h⟩ := xp_let h
      refine lv_iinc (v := a13) (lv' := [(3, .int a13), (0, .ref (ad 55)), (1, .int b1), (2, .int b2)]) hx hb dd_Checker_needUnchanged_52 hl (k := 3) rfl (by rw [ea13]; first | rfl | decide) (by decide) rfl (fun ls hl => ?_)
      refine lv_goto (tgt := 25) hx hb dd_Checker_needUnchanged_55 (by decide) ?_
      exact hk25 b1 b2 a13 u12 _ _ _ h hP hS (lv_sub hl [1, 2, 3, 0] rfl)
set_option maxHeartbeats 4000000 in
set_option maxRecDepth 100000 in
theorem wj_Checker_needUnchanged_20 {p : Program} {l : Launch} {e : Env} {s : State} {m : MethodId} {args : Array Value} {below : List Frame} {meth : Method} {c : Code} {D : va_G} {ad : Nat → Nat} {ca : Nat → ClassId} {ads : List Nat} {fu : Nat} (htr : l.stackTraces = false) (C : xk_C D kx_cl (kx_ty ca) (kw_h ad ca) ads "ModuleHouse$Checker" prog_2_method_37_code 4 none p e s m args meth c) (hne : c.exceptionTable.isEmpty = true) {u' : xk_St} {r : (Unit ⊕ Nat)} {b1 : Int32} {b2 : Int32} {s0 : Int32} {u : xk_St} {H : Heap} {locs : List Loc} {ls : Array Slot} (h : jb_Checker_needUnchanged_20 fu  b1 b2 s0 u = some (r, u')) (hP : va_P D kx_cl (kw_h ad ca u) H) (hS : va_S (xk_A ads s.heap.size) s.heap H locs) (hl : lv_has ls 4 [(0, .ref (ad 55)), (1, .int b1), (2, .int b2)]) : W p l e rm_Checker_needUnchanged s m args below meth c H locs 0 0 (xk_MQ below (xk_Qc D kx_cl (kw_h ad ca) ads (xo_v r) u') args s (xk_A ads s.heap.size)) (F0 m 20 ls [.int s0]) := by
  have hx := C.1.1
  have hb := C.1.2.1
  have hok := C.2.2.1
  unfold jb_Checker_needUnchanged_20 at h
  rcases xp_try h with ⟨rx, u5, hq, h⟩ | ⟨kx, ux, hq, h⟩
  rotate_left
  · obtain ⟨rfl, rfl⟩ := xp_q h
    exact xk_up (xr_S (As := [.int s0]) (rest := []) C hP hS (ct_Checker_need htr hok hq) kq_Checker_60 ⟨rfl, rfl, Nat.le_of_ble_eq_true rfl, Nat.le_of_ble_eq_true rfl⟩ ⟨Nat.le_of_ble_eq_true rfl, Nat.le_of_ble_eq_true rfl⟩ hl.1 rfl rfl (Nat.le_of_ble_eq_true rfl) dd_Checker_needUnchanged_20) hS hne C.2.2.2.2.2.2.1
  refine xk_goesV (xr_S (As := [.int s0]) (rest := []) C hP hS (ct_Checker_need htr hok hq) kq_Checker_60 ⟨rfl, rfl, Nat.le_of_ble_eq_true rfl, Nat.le_of_ble_eq_true rfl⟩ ⟨Nat.le_of_ble_eq_true rfl, Nat.le_of_ble_eq_true rfl⟩ hl.1 rfl rfl (Nat.le_of_ble_eq_true rfl) dd_Checker_needUnchanged_20) hS (fun H locs hP hS => ?_)
  clear hq
  refine lv_iconst (v := 0) hx hb dd_Checker_needUnchanged_23 (by decide) ?_
  refine lv_istore_n (lv' := [(3, .int (0 : Int32)), (0, .ref (ad 55)), (1, .int b1), (2, .int b2)]) hx hb dd_Checker_needUnchanged_24 rfl hl (by decide) rfl (fun ls hl => ?_)
  exact wj_Checker_needUnchanged_25 htr C hne h hP hS (lv_sub hl [1, 2, 3, 0] rfl)
set_option maxHeartbeats 4000000 in
set_option maxRecDepth 100000 in
theorem ct_Checker_needUnchanged {l : Launch} {D : va_G} {ad : Nat → Nat} {ca : Nat → ClassId} {ads : List Nat} (htr : l.stackTraces = false) (hok : xk_ok (kw_h ad ca) ads) {fu : Nat} {x0 : Int32} {u u' : xk_St} {r : (Unit ⊕ Nat)} (h : fm_Checker_needUnchanged fu x0 u = some (r, u')) :
    ∀ sz, xk_Met l ⟨"ModuleHouse$Checker", "needUnchanged", "(I)V"⟩ (Cond.code ⟨"ModuleHouse$Checker", "needUnchanged", "(I)V"⟩ prog_2_method_37_code 4 none :: xk_gd) rm_Checker_needUnchanged (xk_Pc D kx_cl (kx_ty ca) (kw_h ad ca) ads xk_F sz [.ref (ad 55), .int x0] u) (xk_Qc D kx_cl (kw_h ad ca) ads (xo_v r) u') (xk_A ads sz) := by
  unfold fm_Checker_needUnchanged at h
  refine xk_con (by decide) htr hok (Nat.le_of_ble_eq_true rfl) (fun p e s m below meth c ls C hne hl hP => ?_)
  have hx := C.1.1
  have hb := C.1.2.1
  have hS : va_S (xk_A ads s.heap.size) s.heap s.heap [] := va_S.rf
  have hl : lv_has ls 4 [(0, .ref (ad 55)), (1, .int x0)] := hl
  refine lv_aload_n hx hb dd_Checker_needUnchanged_0 rfl (lv_at hl 0 rfl) ?_
  refine lv_iload_n hx hb dd_Checker_needUnchanged_1 rfl (lv_at hl 1 rfl) ?_
  obtain ⟨a1, u2, hq, h⟩ := xp_seq h
  refine xk_goesI (xr_V (As := [.int x0]) (rest := []) C hP hS (ct_Checker_resultCount htr hok hq) kq_Checker_290 55 1 rfl rfl ⟨rfl, rfl, Nat.le_of_ble_eq_true rfl, Nat.le_of_ble_eq_true rfl⟩ ⟨Nat.le_of_ble_eq_true rfl, Nat.le_of_ble_eq_true rfl⟩ hl.1 rfl rfl (Nat.le_of_ble_eq_true rfl) dd_Checker_needUnchanged_2) hS (fun H locs hP hS => ?_)
  clear hq
  refine lv_istore_n (lv' := [(2, .int a1), (0, .ref (ad 55)), (1, .int x0)]) hx hb dd_Checker_needUnchanged_5 rfl hl (by decide) rfl (fun ls hl => ?_)
  refine lv_aload_n hx hb dd_Checker_needUnchanged_6 rfl (lv_at hl 1 rfl) ?_
  refine lv_iload_n hx hb dd_Checker_needUnchanged_7 rfl (lv_at hl 2 rfl) ?_
  obtain ⟨a3, u4, hq, h⟩ := xp_seq h
  refine xk_goesI (xr_V (As := [.int x0]) (rest := []) C hP hS (ct_Checker_parameterCount htr hok hq) kq_Checker_287 55 1 rfl rfl ⟨rfl, rfl, Nat.le_of_ble_eq_true rfl, Nat.le_of_ble_eq_true rfl⟩ ⟨Nat.le_of_ble_eq_true rfl, Nat.le_of_ble_eq_true rfl⟩ hl.1 rfl rfl (Nat.le_of_ble_eq_true rfl) dd_Checker_needUnchanged_8) hS (fun H locs hP hS => ?_)
  clear hq
  refine lv_iload_n hx hb dd_Checker_needUnchanged_11 rfl (lv_at hl 0 rfl) ?_
  refine lv_icmp_ne (tgt := 19) hx hb dd_Checker_needUnchanged_12 (by decide) (fun hc => ?_) (fun hc => ?_)
  · have h := xp_f hc h
    refine lv_iconst (v := 0) hx hb dd_Checker_needUnchanged_19 (by decide) ?_
    exact wj_Checker_needUnchanged_20 htr C hne h hP hS (lv_sub hl [1, 2, 0] rfl)
  · have h := xp_t hc h
    refine lv_iconst (v := 1) hx hb dd_Checker_needUnchanged_15 (by decide) ?_
    refine lv_goto (tgt := 20) hx hb dd_Checker_needUnchanged_16 (by decide) ?_
    exact wj_Checker_needUnchanged_20 htr C hne h hP hS (lv_sub hl [1, 2, 0] rfl)
abbrev rm_Checker_close : Room := { frames := 9, cells := 1, slots := 6, locals := 163 }
noncomputable def jb_Checker_close_99 (fu : Nat) : Nat → Int32 → Int32 → xk_St → Option ((Unit ⊕ Nat) × xk_St)
  | 0 => fun _ _ _ => none
  | n + 1 => fun b1 b2 u =>
    xs_let (jb_Checker_close_99 fu  n) fun k99 =>
    (xs_seq (fm_Checker_resultCount b1 u) fun a5 u6 => if a5 ≤ b2 then (some (.inl (()), u6)) else ((xs_seq (fm_Checker_resultOf b1 b2 u6) fun a7 u8 => xs_try (fm_Checker_push a7 u8) fun _ u9 => xs_let (b2 + (1 : Int32)) fun a10 => k99 b1 a10 u9)))
noncomputable def jb_Checker_close_57 (fu : Nat) (b1 : Int32) (u : xk_St) : Option ((Unit ⊕ Nat) × xk_St) :=
  (xs_let (xs_I u 21 ((u.1 21) - (1 : Int32))) fun u3 => if (u3.1 21) ≤ (0 : Int32) then (some (.inl (()), u3)) else ((if ((u3.1 21) - (1 : Int32)) < 0 ∨ 100 ≤ ((u3.1 21) - (1 : Int32)).toNatClampNeg then none else if (u3.2.2.1 34 ((u3.1 21) - (1 : Int32)).toNatClampNeg) < 0 ∨ 8192 ≤ (u3.2.2.1 34 ((u3.1 21) - (1 : Int32)).toNatClampNeg).toNatClampNeg then none else xs_let (xs_I u3 20 (u3.2.2.1 10 (u3.2.2.1 34 ((u3.1 21) - (1 : Int32)).toNatClampNeg).toNatClampNeg)) fun u4 => jb_Checker_close_99 fu fu b1 (0 : Int32) u4)))
noncomputable def fm_Checker_close (fu : Nat) (u : xk_St) : Option ((Unit ⊕ Nat) × xk_St) :=
  (if ((u.1 21) - (1 : Int32)) < 0 ∨ 100 ≤ ((u.1 21) - (1 : Int32)).toNatClampNeg then none else xs_let (u.2.2.1 34 ((u.1 21) - (1 : Int32)).toNatClampNeg) fun a1 => xs_try (fm_Checker_popResults fu a1 u) fun _ u2 => if a1 < 0 ∨ 8192 ≤ a1.toNatClampNeg then none else if (u2.2.2.1 7 a1.toNatClampNeg) = (4 : Int32) then ((if a1 < 0 ∨ 8192 ≤ a1.toNatClampNeg then none else if (u2.2.2.1 9 a1.toNatClampNeg) < 0 ∨ 8192 ≤ (u2.2.2.1 9 a1.toNatClampNeg).toNatClampNeg then none else if (u2.2.2.1 7 (u2.2.2.1 9 a1.toNatClampNeg).toNatClampNeg) = (11 : Int32) then ((xs_try (fm_Checker_needUnchanged fu a1 u2) fun _ u11 => jb_Checker_close_57 fu a1 u11)) else (jb_Checker_close_57 fu a1 u2))) else (jb_Checker_close_57 fu a1 u2))
set_option maxHeartbeats 4000000 in
set_option maxRecDepth 100000 in
theorem wj_Checker_close_99 {p : Program} {l : Launch} {e : Env} {s : State} {m : MethodId} {args : Array Value} {below : List Frame} {meth : Method} {c : Code} {D : va_G} {ad : Nat → Nat} {ca : Nat → ClassId} {ads : List Nat} {fu : Nat} (htr : l.stackTraces = false) (C : xk_C D kx_cl (kx_ty ca) (kw_h ad ca) ads "ModuleHouse$Checker" prog_2_method_36_code 3 none p e s m args meth c) (hne : c.exceptionTable.isEmpty = true) {u' : xk_St} {r : (Unit ⊕ Nat)} : ∀ {n : Nat} {b1 : Int32} {b2 : Int32} {u : xk_St} {H : Heap} {locs : List Loc} {ls : Array Slot} (h : jb_Checker_close_99 fu  n b1 b2 u = some (r, u')) (hP : va_P D kx_cl (kw_h ad ca u) H) (hS : va_S (xk_A ads s.heap.size) s.heap H locs) (hl : lv_has ls 3 [(0, .ref (ad 55)), (1, .int b1), (2, .int b2)]), W p l e rm_Checker_close s m args below meth c H locs 0 0 (xk_MQ below (xk_Qc D kx_cl (kw_h ad ca) ads (xo_v r) u') args s (xk_A ads s.heap.size)) (F0 m 99 ls []) := by
  intro n
  have hx := C.1.1
  have hb := C.1.2.1
  have hok := C.2.2.1
  induction n with
  | zero =>
    intro _ _ u H locs ls h
    have h : none = some (r, u') := h
    cases h
  | succ n ih =>
    intro b1 b2 u H locs ls h hP hS hl
    unfold jb_Checker_close_99 at h
    obtain ⟨k99, ek99, h⟩ := xp_let h
    have hk99 : ∀ (c0 : Int32) (c1 : Int32) (u : xk_St) (H : Heap) (locs : List Loc) (ls : Array Slot), k99 c0 c1 u = some (r, u') → va_P D kx_cl (kw_h ad ca u) H → va_S (xk_A ads s.heap.size) s.heap H locs → lv_has ls 3 [(0, .ref (ad 55)), (1, .int c0), (2, .int c1)] → W p l e rm_Checker_close s m args below meth c H locs 0 0 (xk_MQ below (xk_Qc D kx_cl (kw_h ad ca) ads (xo_v r) u') args s (xk_A ads s.heap.size)) (F0 m 99 ls []) := by
      intro c0 c1 u H locs ls h hP hS hl
      subst ek99
      exact ih h hP hS hl
    clear ih ek99
    refine lv_iload_n hx hb dd_Checker_close_99 rfl (lv_at hl 2 rfl) ?_
    refine lv_aload_n hx hb dd_Checker_close_100 rfl (lv_at hl 0 rfl) ?_
    refine lv_iload_n hx hb dd_Checker_close_101 rfl (lv_at hl 1 rfl) ?_
    obtain ⟨a5, u6, hq, h⟩ := xp_seq h
    refine xk_goesI (xr_V (As := [.int b1]) (rest := [.int b2]) C hP hS (ct_Checker_resultCount htr hok hq) kq_Checker_290 55 1 rfl rfl ⟨rfl, rfl, Nat.le_of_ble_eq_true rfl, Nat.le_of_ble_eq_true rfl⟩ ⟨Nat.le_of_ble_eq_true rfl, Nat.le_of_ble_eq_true rfl⟩ hl.1 rfl rfl (Nat.le_of_ble_eq_true rfl) dd_Checker_close_102) hS (fun H locs hP hS => ?_)
    clear hq
    refine lv_icmp_ge (tgt := 124) hx hb dd_Checker_close_105 (by decide) (fun hc => ?_) (fun hc => ?_)
    · have h := xp_t hc h
      obtain ⟨rfl, rfl⟩ := xp_r h
      exact xr_vret C hP hS dd_Checker_close_124
    · have h := xp_f hc h
      refine lv_aload_n hx hb dd_Checker_close_108 rfl (lv_at hl 0 rfl) ?_
      refine lv_aload_n hx hb dd_Checker_close_109 rfl (lv_at hl 0 rfl) ?_
      refine lv_iload_n hx hb dd_Checker_close_110 rfl (lv_at hl 1 rfl) ?_
      refine lv_iload_n hx hb dd_Checker_close_111 rfl (lv_at hl 2 rfl) ?_
      obtain ⟨a7, u8, hq, h⟩ := xp_seq h
      refine xk_goesI (xr_V (As := [.int b1, .int b2]) (rest := [.ref (ad 55)]) C hP hS (ct_Checker_resultOf htr hok hq) kq_Checker_299 55 1 rfl rfl ⟨rfl, rfl, Nat.le_of_ble_eq_true rfl, Nat.le_of_ble_eq_true rfl⟩ ⟨Nat.le_of_ble_eq_true rfl, Nat.le_of_ble_eq_true rfl⟩ hl.1 rfl rfl (Nat.le_of_ble_eq_true rfl) dd_Checker_close_112) hS (fun H locs hP hS => ?_)
      clear hq
      rcases xp_try h with ⟨rx, u9, hq, h⟩ | ⟨kx, ux, hq, h⟩
      rotate_left
      · obtain ⟨rfl, rfl⟩ := xp_q h
        exact xk_up (xr_V (As := [.int a7]) (rest := []) C hP hS (ct_Checker_push htr hok hq) kq_Checker_203 55 1 rfl rfl ⟨rfl, rfl, Nat.le_of_ble_eq_true rfl, Nat.le_of_ble_eq_true rfl⟩ ⟨Nat.le_of_ble_eq_true rfl, Nat.le_of_ble_eq_true rfl⟩ hl.1 rfl rfl (Nat.le_of_ble_eq_true rfl) dd_Checker_close_115) hS hne C.2.2.2.2.2.2.1
      refine xk_goesV (xr_V (As := [.int a7]) (rest := []) C hP hS (ct_Checker_push htr hok hq) kq_Checker_203 55 1 rfl rfl ⟨rfl, rfl, Nat.le_of_ble_eq_true rfl, Nat.le_of_ble_eq_true rfl⟩ ⟨Nat.le_of_ble_eq_true rfl, Nat.le_of_ble_eq_true rfl⟩ hl.1 rfl rfl (Nat.le_of_ble_eq_true rfl) dd_Checker_close_115) hS (fun H locs hP hS => ?_)
      clear hq
      obtain ⟨a10, ea10, h⟩ := xp_let h
      refine lv_iinc (v := a10) (lv' := [(2, .int a10), (0, .ref (ad 55)), (1, .int b1)]) hx hb dd_Checker_close_118 hl (k := 2) rfl (by rw [ea10]; first | rfl | decide) (by decide) rfl (fun ls hl => ?_)
      refine lv_goto (tgt := 99) hx hb dd_Checker_close_121 (by decide) ?_
      exact hk99 b1 a10 u9 _ _ _ h hP hS (lv_sub hl [1, 2, 0] rfl)
set_option maxHeartbeats 4000000 in
set_option maxRecDepth 100000 in
theorem wj_Checker_close_57 {p : Program} {l : Launch} {e : Env} {s : State} {m : MethodId} {args : Array Value} {below : List Frame} {meth : Method} {c : Code} {D : va_G} {ad : Nat → Nat} {ca : Nat → ClassId} {ads : List Nat} {fu : Nat} (htr : l.stackTraces = false) (C : xk_C D kx_cl (kx_ty ca) (kw_h ad ca) ads "ModuleHouse$Checker" prog_2_method_36_code 3 none p e s m args meth c) (hne : c.exceptionTable.isEmpty = true) {u' : xk_St} {r : (Unit ⊕ Nat)} {b1 : Int32} {u : xk_St} {H : Heap} {locs : List Loc} {ls : Array Slot} (h : jb_Checker_close_57 fu  b1 u = some (r, u')) (hP : va_P D kx_cl (kw_h ad ca u) H) (hS : va_S (xk_A ads s.heap.size) s.heap H locs) (hl : lv_has ls 3 [(0, .ref (ad 55)), (1, .int b1)]) : W p l e rm_Checker_close s m args below meth c H locs 0 0 (xk_MQ below (xk_Qc D kx_cl (kw_h ad ca) ads (xo_v r) u') args s (xk_A ads s.heap.size)) (F0 m 57 ls []) := by
  have hx := C.1.1
  have hb := C.1.2.1
  have hok := C.2.2.1
  unfold jb_Checker_close_57 at h
  refine lv_aload_n hx hb dd_Checker_close_57 rfl (lv_at hl 0 rfl) ?_
  refine lv_dup hx hb dd_Checker_close_58 rfl ?_
  refine gf_h_Checker_55_depth C hP dd_Checker_close_59 ?_
  refine lv_iconst (v := 1) hx hb dd_Checker_close_62 (by decide) ?_
  refine lv_isub hx hb dd_Checker_close_63 ?_
  refine pf_h_Checker_55_depth C hP hS dd_Checker_close_64 (fun H locs hP hS => ?_)
  obtain ⟨u3, eu3, h⟩ := xp_let h
  rw [← eu3] at hP
  refine lv_aload_n hx hb dd_Checker_close_67 rfl (lv_at hl 0 rfl) ?_
  refine gf_h_Checker_55_depth C hP dd_Checker_close_68 ?_
  refine lv_if_le (tgt := 124) hx hb dd_Checker_close_71 (by decide) (fun hc => ?_) (fun hc => ?_)
  · have h := xp_t hc h
    obtain ⟨rfl, rfl⟩ := xp_r h
    exact xr_vret C hP hS dd_Checker_close_124
  · have h := xp_f hc h
    refine lv_aload_n hx hb dd_Checker_close_74 rfl (lv_at hl 0 rfl) ?_
    refine lv_aload_n hx hb dd_Checker_close_75 rfl (lv_at hl 0 rfl) ?_
    refine gf_h_Checker_55_code C hP dd_Checker_close_76 ?_
    refine gf_h_Checker_12_height C hP dd_Checker_close_79 ?_
    refine lv_aload_n hx hb dd_Checker_close_82 rfl (lv_at hl 0 rfl) ?_
    refine gf_h_Checker_55_opened C hP dd_Checker_close_83 ?_
    refine lv_aload_n hx hb dd_Checker_close_86 rfl (lv_at hl 0 rfl) ?_
    refine gf_h_Checker_55_depth C hP dd_Checker_close_87 ?_
    refine lv_iconst (v := 1) hx hb dd_Checker_close_90 (by decide) ?_
    refine lv_isub hx hb dd_Checker_close_91 ?_
    obtain ⟨hi, h⟩ := xp_g h
    refine al_h_57 C hP hi dd_Checker_close_92 ?_
    obtain ⟨hi, h⟩ := xp_g h
    refine al_h_17 C hP hi dd_Checker_close_93 ?_
    refine pf_h_Checker_55_floor C hP hS dd_Checker_close_94 (fun H locs hP hS => ?_)
    obtain ⟨u4, eu4, h⟩ := xp_let h
    rw [← eu4] at hP
    refine lv_iconst (v := 0) hx hb dd_Checker_close_97 (by decide) ?_
    refine lv_istore_n (lv' := [(2, .int (0 : Int32)), (0, .ref (ad 55)), (1, .int b1)]) hx hb dd_Checker_close_98 rfl hl (by decide) rfl (fun ls hl => ?_)
    exact wj_Checker_close_99 htr C hne h hP hS (lv_sub hl [1, 2, 0] rfl)
set_option maxHeartbeats 4000000 in
set_option maxRecDepth 100000 in
theorem ct_Checker_close {l : Launch} {D : va_G} {ad : Nat → Nat} {ca : Nat → ClassId} {ads : List Nat} (htr : l.stackTraces = false) (hok : xk_ok (kw_h ad ca) ads) {fu : Nat} {u u' : xk_St} {r : (Unit ⊕ Nat)} (h : fm_Checker_close fu u = some (r, u')) :
    ∀ sz, xk_Met l ⟨"ModuleHouse$Checker", "close", "()V"⟩ (Cond.code ⟨"ModuleHouse$Checker", "close", "()V"⟩ prog_2_method_36_code 3 none :: xk_gd) rm_Checker_close (xk_Pc D kx_cl (kx_ty ca) (kw_h ad ca) ads xk_F sz [.ref (ad 55)] u) (xk_Qc D kx_cl (kw_h ad ca) ads (xo_v r) u') (xk_A ads sz) := by
  unfold fm_Checker_close at h
  refine xk_con (by decide) htr hok (Nat.le_of_ble_eq_true rfl) (fun p e s m below meth c ls C hne hl hP => ?_)
  have hx := C.1.1
  have hb := C.1.2.1
  have hS : va_S (xk_A ads s.heap.size) s.heap s.heap [] := va_S.rf
  have hl : lv_has ls 3 [(0, .ref (ad 55))] := hl
  refine lv_aload_n hx hb dd_Checker_close_0 rfl (lv_at hl 0 rfl) ?_
  refine gf_h_Checker_55_opened C hP dd_Checker_close_1 ?_
  refine lv_aload_n hx hb dd_Checker_close_4 rfl (lv_at hl 0 rfl) ?_
  refine gf_h_Checker_55_depth C hP dd_Checker_close_5 ?_
  refine lv_iconst (v := 1) hx hb dd_Checker_close_8 (by decide) ?_
  refine lv_isub hx hb dd_Checker_close_9 ?_
  obtain ⟨hi, h⟩ := xp_g h
  refine al_h_57 C hP hi dd_Checker_close_10 ?_
  obtain ⟨a1, ea1, h⟩ := xp_let h
  refine xr_nami ea1 ?_
  refine lv_istore_n (lv' := [(1, .int a1), (0, .ref (ad 55))]) hx hb dd_Checker_close_11 rfl hl (by decide) rfl (fun ls hl => ?_)
  refine lv_aload_n hx hb dd_Checker_close_12 rfl (lv_at hl 1 rfl) ?_
  refine lv_iload_n hx hb dd_Checker_close_13 rfl (lv_at hl 0 rfl) ?_
  rcases xp_try h with ⟨rx, u2, hq, h⟩ | ⟨kx, ux, hq, h⟩
  rotate_left
  · obtain ⟨rfl, rfl⟩ := xp_q h
    exact xk_up (xr_V (As := [.int a1]) (rest := []) C hP hS (ct_Checker_popResults htr hok hq) kq_Checker_302 55 1 rfl rfl ⟨rfl, rfl, Nat.le_of_ble_eq_true rfl, Nat.le_of_ble_eq_true rfl⟩ ⟨Nat.le_of_ble_eq_true rfl, Nat.le_of_ble_eq_true rfl⟩ hl.1 rfl rfl (Nat.le_of_ble_eq_true rfl) dd_Checker_close_14) hS hne C.2.2.2.2.2.2.1
  refine xk_goesV (xr_V (As := [.int a1]) (rest := []) C hP hS (ct_Checker_popResults htr hok hq) kq_Checker_302 55 1 rfl rfl ⟨rfl, rfl, Nat.le_of_ble_eq_true rfl, Nat.le_of_ble_eq_true rfl⟩ ⟨Nat.le_of_ble_eq_true rfl, Nat.le_of_ble_eq_true rfl⟩ hl.1 rfl rfl (Nat.le_of_ble_eq_true rfl) dd_Checker_close_14) hS (fun H locs hP hS => ?_)
  clear hq
  refine lv_aload_n hx hb dd_Checker_close_17 rfl (lv_at hl 1 rfl) ?_
  refine gf_h_Checker_55_code C hP dd_Checker_close_18 ?_
  refine gf_h_Checker_12_op C hP dd_Checker_close_21 ?_
  refine lv_iload_n hx hb dd_Checker_close_24 rfl (lv_at hl 0 rfl) ?_
  obtain ⟨hi, h⟩ := xp_g h
  refine al_h_13 C hP hi dd_Checker_close_25 ?_
  refine lv_iconst (v := 4) hx hb dd_Checker_close_26 (by decide) ?_
  refine lv_icmp_ne (tgt := 57) hx hb dd_Checker_close_27 (by decide) (fun hc => ?_) (fun hc => ?_)
  · have h := xp_f hc h
    exact wj_Checker_close_57 htr C hne h hP hS (lv_sub hl [1, 0] rfl)
  · have h := xp_t hc h
    refine lv_aload_n hx hb dd_Checker_close_30 rfl (lv_at hl 1 rfl) ?_
    refine gf_h_Checker_55_code C hP dd_Checker_close_31 ?_
    refine gf_h_Checker_12_op C hP dd_Checker_close_34 ?_
    refine lv_aload_n hx hb dd_Checker_close_37 rfl (lv_at hl 1 rfl) ?_
    refine gf_h_Checker_55_code C hP dd_Checker_close_38 ?_
    refine gf_h_Checker_12_mate C hP dd_Checker_close_41 ?_
    refine lv_iload_n hx hb dd_Checker_close_44 rfl (lv_at hl 0 rfl) ?_
    obtain ⟨hi, h⟩ := xp_g h
    refine al_h_16 C hP hi dd_Checker_close_45 ?_
    obtain ⟨hi, h⟩ := xp_g h
    refine al_h_13 C hP hi dd_Checker_close_46 ?_
    refine lv_bipush (v := 11) hx hb dd_Checker_close_47 (by decide) ?_
    refine lv_icmp_ne (tgt := 57) hx hb dd_Checker_close_49 (by decide) (fun hc => ?_) (fun hc => ?_)
    · have h := xp_f hc h
      exact wj_Checker_close_57 htr C hne h hP hS (lv_sub hl [1, 0] rfl)
    · have h := xp_t hc h
      refine lv_aload_n hx hb dd_Checker_close_52 rfl (lv_at hl 1 rfl) ?_
      refine lv_iload_n hx hb dd_Checker_close_53 rfl (lv_at hl 0 rfl) ?_
      rcases xp_try h with ⟨rx, u11, hq, h⟩ | ⟨kx, ux, hq, h⟩
      rotate_left
      · obtain ⟨rfl, rfl⟩ := xp_q h
        exact xk_up (xr_V (As := [.int a1]) (rest := []) C hP hS (ct_Checker_needUnchanged htr hok hq) kq_Checker_305 55 1 rfl rfl ⟨rfl, rfl, Nat.le_of_ble_eq_true rfl, Nat.le_of_ble_eq_true rfl⟩ ⟨Nat.le_of_ble_eq_true rfl, Nat.le_of_ble_eq_true rfl⟩ hl.1 rfl rfl (Nat.le_of_ble_eq_true rfl) dd_Checker_close_54) hS hne C.2.2.2.2.2.2.1
      refine xk_goesV (xr_V (As := [.int a1]) (rest := []) C hP hS (ct_Checker_needUnchanged htr hok hq) kq_Checker_305 55 1 rfl rfl ⟨rfl, rfl, Nat.le_of_ble_eq_true rfl, Nat.le_of_ble_eq_true rfl⟩ ⟨Nat.le_of_ble_eq_true rfl, Nat.le_of_ble_eq_true rfl⟩ hl.1 rfl rfl (Nat.le_of_ble_eq_true rfl) dd_Checker_close_54) hS (fun H locs hP hS => ?_)
      clear hq
      exact wj_Checker_close_57 htr C hne h hP hS (lv_sub hl [1, 0] rfl)
abbrev rm_Arrays_fill_AIIII__h59 : Room := { frames := 7, cells := 1, slots := 6, locals := 122 }
noncomputable def jb_Arrays_fill_AIIII__h59_10 (fu : Nat) : Nat → Int32 → Int32 → Int32 → xk_St → Option (Unit × xk_St)
  | 0 => fun _ _ _ _ => none
  | n + 1 => fun b2 b3 b4 u =>
    xs_let (jb_Arrays_fill_AIIII__h59_10 fu  n) fun k10 =>
    if b2 ≤ b4 then (some ((()), u)) else ((if b4 < 0 ∨ 200 ≤ b4.toNatClampNeg then none else xs_let (xs_A u 36 b4.toNatClampNeg b3) fun u2 => xs_let (b4 + (1 : Int32)) fun a3 => k10 b2 b3 a3 u2))
noncomputable def fm_Arrays_fill_AIIII__h59 (fu : Nat) (x1 : Int32) (x2 : Int32) (x3 : Int32) (u : xk_St) : Option (Unit × xk_St) :=
  (xs_seq (fm_Arrays_rangeCheck__h (200 : Int32) x1 x2 u) fun _ u1 => jb_Arrays_fill_AIIII__h59_10 fu fu x2 x3 x1 u1)
set_option maxHeartbeats 4000000 in
set_option maxRecDepth 100000 in
theorem wj_Arrays_fill_AIIII__h59_10 {p : Program} {l : Launch} {e : Env} {s : State} {m : MethodId} {args : Array Value} {below : List Frame} {meth : Method} {c : Code} {D : va_G} {ad : Nat → Nat} {ca : Nat → ClassId} {ads : List Nat} {fu : Nat} (htr : l.stackTraces = false) (C : xk_C D kx_cl (kx_ty ca) (kw_h ad ca) ads "java/util/Arrays" prog_31_method_104_code 5 none p e s m args meth c) (hne : c.exceptionTable.isEmpty = true) {u' : xk_St} {r : Unit} : ∀ {n : Nat} {b2 : Int32} {b3 : Int32} {b4 : Int32} {u : xk_St} {H : Heap} {locs : List Loc} {ls : Array Slot} (h : jb_Arrays_fill_AIIII__h59_10 fu  n b2 b3 b4 u = some (r, u')) (hP : va_P D kx_cl (kw_h ad ca u) H) (hS : va_S (xk_A ads s.heap.size) s.heap H locs) (hl : lv_has ls 5 [(0, .ref (ad 59)), (2, .int b2), (3, .int b3), (4, .int b4)]), W p l e rm_Arrays_fill_AIIII__h59 s m args below meth c H locs 0 0 (xk_MQ below (xk_Qc D kx_cl (kw_h ad ca) ads (xo_v (.inl r)) u') args s (xk_A ads s.heap.size)) (F0 m 10 ls []) := by
  intro n
  have hx := C.1.1
  have hb := C.1.2.1
  have hok := C.2.2.1
  induction n with
  | zero =>
    intro _ _ _ u H locs ls h
    have h : none = some (r, u') := h
    cases h
  | succ n ih =>
    intro b2 b3 b4 u H locs ls h hP hS hl
    unfold jb_Arrays_fill_AIIII__h59_10 at h
    obtain ⟨k10, ek10, h⟩ := xp_let h
    have hk10 : ∀ (c0 : Int32) (c1 : Int32) (c2 : Int32) (u : xk_St) (H : Heap) (locs : List Loc) (ls : Array Slot), k10 c0 c1 c2 u = some (r, u') → va_P D kx_cl (kw_h ad ca u) H → va_S (xk_A ads s.heap.size) s.heap H locs → lv_has ls 5 [(0, .ref (ad 59)), (2, .int c0), (3, .int c1), (4, .int c2)] → W p l e rm_Arrays_fill_AIIII__h59 s m args below meth c H locs 0 0 (xk_MQ below (xk_Qc D kx_cl (kw_h ad ca) ads (xo_v (.inl r)) u') args s (xk_A ads s.heap.size)) (F0 m 10 ls []) := by
      intro c0 c1 c2 u H locs ls h hP hS hl
      subst ek10
      exact ih h hP hS hl
    clear ih ek10
    refine lv_iload hx hb dd_Arrays_fill_AIIII_10 (lv_at hl 3 rfl) ?_
    refine lv_iload_n hx hb dd_Arrays_fill_AIIII_12 rfl (lv_at hl 1 rfl) ?_
    refine lv_icmp_ge (tgt := 27) hx hb dd_Arrays_fill_AIIII_13 (by decide) (fun hc => ?_) (fun hc => ?_)
    · have h := xp_t hc h
      obtain ⟨rfl, rfl⟩ := xp_r h
      exact xr_vret C hP hS dd_Arrays_fill_AIIII_27
    · have h := xp_f hc h
      refine lv_aload_n hx hb dd_Arrays_fill_AIIII_16 rfl (lv_at hl 0 rfl) ?_
      refine lv_iload hx hb dd_Arrays_fill_AIIII_17 (lv_at hl 3 rfl) ?_
      refine lv_iload_n hx hb dd_Arrays_fill_AIIII_19 rfl (lv_at hl 2 rfl) ?_
      obtain ⟨hi, h⟩ := xp_g h
      refine as_h_59 C hP hS hi dd_Arrays_fill_AIIII_20 (fun H locs hP hS => ?_)
      obtain ⟨u2, eu2, h⟩ := xp_let h
      rw [← eu2] at hP
      obtain ⟨a3, ea3, h⟩ := xp_let h
      refine lv_iinc (v := a3) (lv' := [(4, .int a3), (0, .ref (ad 59)), (2, .int b2), (3, .int b3)]) hx hb dd_Arrays_fill_AIIII_21 hl (k := 3) rfl (by rw [ea3]; first | rfl | decide) (by decide) rfl (fun ls hl => ?_)
      refine lv_goto (tgt := 10) hx hb dd_Arrays_fill_AIIII_24 (by decide) ?_
      exact hk10 b2 b3 a3 u2 _ _ _ h hP hS (lv_sub hl [1, 2, 3, 0] rfl)
set_option maxHeartbeats 4000000 in
set_option maxRecDepth 100000 in
theorem ct_Arrays_fill_AIIII__h59 {l : Launch} {D : va_G} {ad : Nat → Nat} {ca : Nat → ClassId} {ads : List Nat} (htr : l.stackTraces = false) (hok : xk_ok (kw_h ad ca) ads) {fu : Nat} {x1 : Int32} {x2 : Int32} {x3 : Int32} {u u' : xk_St} {r : Unit} (h : fm_Arrays_fill_AIIII__h59 fu x1 x2 x3 u = some (r, u')) :
    ∀ sz, xk_Met l ⟨"java/util/Arrays", "fill", "([IIII)V"⟩ (Cond.code ⟨"java/util/Arrays", "fill", "([IIII)V"⟩ prog_31_method_104_code 5 none :: xk_gd) rm_Arrays_fill_AIIII__h59 (xk_Pc D kx_cl (kx_ty ca) (kw_h ad ca) ads xk_F sz [.ref (ad 59), .int x1, .int x2, .int x3] u) (xk_Qc D kx_cl (kw_h ad ca) ads (xo_v (.inl r)) u') (xk_A ads sz) := by
  unfold fm_Arrays_fill_AIIII__h59 at h
  refine xk_con (by decide) htr hok (Nat.le_of_ble_eq_true rfl) (fun p e s m below meth c ls C hne hl hP => ?_)
  have hx := C.1.1
  have hb := C.1.2.1
  have hS : va_S (xk_A ads s.heap.size) s.heap s.heap [] := va_S.rf
  have hl : lv_has ls 5 [(0, .ref (ad 59)), (1, .int x1), (2, .int x2), (3, .int x3)] := hl
  refine lv_aload_n hx hb dd_Arrays_fill_AIIII_0 rfl (lv_at hl 0 rfl) ?_
  refine va_alen (v := 200) hx hb C.2.1 hP 59 1 rfl rfl rfl dd_Arrays_fill_AIIII_1 ?_
  refine lv_iload_n hx hb dd_Arrays_fill_AIIII_2 rfl (lv_at hl 1 rfl) ?_
  refine lv_iload_n hx hb dd_Arrays_fill_AIIII_3 rfl (lv_at hl 2 rfl) ?_
  obtain ⟨rx, u1, hq, h⟩ := xp_seq h
  refine xk_goesV (xr_S (As := [.int (200 : Int32), .int x1, .int x2]) (rest := []) C hP hS (ct_Arrays_rangeCheck__h htr hok hq) kq_Arrays_13 ⟨rfl, rfl, Nat.le_of_ble_eq_true rfl, Nat.le_of_ble_eq_true rfl⟩ ⟨Nat.le_of_ble_eq_true rfl, Nat.le_of_ble_eq_true rfl⟩ hl.1 rfl rfl (Nat.le_of_ble_eq_true rfl) dd_Arrays_fill_AIIII_4) hS (fun H locs hP hS => ?_)
  clear hq
  refine lv_iload_n hx hb dd_Arrays_fill_AIIII_7 rfl (lv_at hl 1 rfl) ?_
  refine lv_istore (lv' := [(4, .int x1), (0, .ref (ad 59)), (1, .int x1), (2, .int x2), (3, .int x3)]) hx hb dd_Arrays_fill_AIIII_8 hl (by decide) rfl (fun ls hl => ?_)
  exact wj_Arrays_fill_AIIII__h59_10 htr C hne h hP hS (lv_sub hl [1, 3, 4, 0] rfl)
abbrev rm_Checker_declare : Room := { frames := 8, cells := 1, slots := 6, locals := 146 }
noncomputable def jb_Checker_declare_43 (fu : Nat) (b1 : Int32) (b2 : Int32) (s0 : Int32) (u : xk_St) : Option ((Unit ⊕ Nat) × xk_St) :=
  (xs_try (fm_Checker_need s0 u) fun _ u4 => xs_seq (fm_Arrays_fill_AIIII__h59 fu (u4.1 22) ((u4.1 22) + b1) b2 u4) fun _ u5 => xs_let (xs_I u5 22 ((u5.1 22) + b1)) fun u6 => some (.inl (()), u6))
noncomputable def jb_Checker_declare_23 (fu : Nat) (b1 : Int32) (b2 : Int32) (s0 : Int32) (u : xk_St) : Option ((Unit ⊕ Nat) × xk_St) :=
  (xs_try (fm_Checker_need s0 u) fun _ u3 => if ((200 : Int32) - (u3.1 22)) < b1 then (jb_Checker_declare_43 fu b1 b2 (0 : Int32) u3) else (jb_Checker_declare_43 fu b1 b2 (1 : Int32) u3))
noncomputable def jb_Checker_declare_22 (fu : Nat) (b1 : Int32) (b2 : Int32) (u : xk_St) : Option ((Unit ⊕ Nat) × xk_St) :=
  jb_Checker_declare_23 fu b1 b2 (0 : Int32) u
noncomputable def fm_Checker_declare (fu : Nat) (x0 : Int32) (x1 : Int32) (u : xk_St) : Option ((Unit ⊕ Nat) × xk_St) :=
  (xs_seq (fm_Types_knows x1 u) fun a1 u2 => if a1 = (0 : Int32) then (jb_Checker_declare_22 fu x0 x1 u2) else ((xs_seq (fm_Types_hasDefault x1 u2) fun a7 u8 => if a7 = (0 : Int32) then (jb_Checker_declare_22 fu x0 x1 u8) else (jb_Checker_declare_23 fu x0 x1 (1 : Int32) u8))))
set_option maxHeartbeats 4000000 in
set_option maxRecDepth 100000 in
theorem wj_Checker_declare_43 {p : Program} {l : Launch} {e : Env} {s : State} {m : MethodId} {args : Array Value} {below : List Frame} {meth : Method} {c : Code} {D : va_G} {ad : Nat → Nat} {ca : Nat → ClassId} {ads : List Nat} {fu : Nat} (htr : l.stackTraces = false) (C : xk_C D kx_cl (kx_ty ca) (kw_h ad ca) ads "ModuleHouse$Checker" prog_2_method_30_code 3 none p e s m args meth c) (hne : c.exceptionTable.isEmpty = true) {u' : xk_St} {r : (Unit ⊕ Nat)} {b1 : Int32} {b2 : Int32} {s0 : Int32} {u : xk_St} {H : Heap} {locs : List Loc} {ls : Array Slot} (h : jb_Checker_declare_43 fu  b1 b2 s0 u = some (r, u')) (hP : va_P D kx_cl (kw_h ad ca u) H) (hS : va_S (xk_A ads s.heap.size) s.heap H locs) (hl : lv_has ls 3 [(0, .ref (ad 55)), (1, .int b1), (2, .int b2)]) : W p l e rm_Checker_declare s m args below meth c H locs 0 0 (xk_MQ below (xk_Qc D kx_cl (kw_h ad ca) ads (xo_v r) u') args s (xk_A ads s.heap.size)) (F0 m 43 ls [.int s0]) := by
  have hx := C.1.1
  have hb := C.1.2.1
  have hok := C.2.2.1
  unfold jb_Checker_declare_43 at h
  rcases xp_try h with ⟨rx, u4, hq, h⟩ | ⟨kx, ux, hq, h⟩
  rotate_left
  · obtain ⟨rfl, rfl⟩ := xp_q h
    exact xk_up (xr_S (As := [.int s0]) (rest := []) C hP hS (ct_Checker_need htr hok hq) kq_Checker_60 ⟨rfl, rfl, Nat.le_of_ble_eq_true rfl, Nat.le_of_ble_eq_true rfl⟩ ⟨Nat.le_of_ble_eq_true rfl, Nat.le_of_ble_eq_true rfl⟩ hl.1 rfl rfl (Nat.le_of_ble_eq_true rfl) dd_Checker_declare_43) hS hne C.2.2.2.2.2.2.1
  refine xk_goesV (xr_S (As := [.int s0]) (rest := []) C hP hS (ct_Checker_need htr hok hq) kq_Checker_60 ⟨rfl, rfl, Nat.le_of_ble_eq_true rfl, Nat.le_of_ble_eq_true rfl⟩ ⟨Nat.le_of_ble_eq_true rfl, Nat.le_of_ble_eq_true rfl⟩ hl.1 rfl rfl (Nat.le_of_ble_eq_true rfl) dd_Checker_declare_43) hS (fun H locs hP hS => ?_)
  clear hq
  refine lv_aload_n hx hb dd_Checker_declare_46 rfl (lv_at hl 0 rfl) ?_
  refine gf_h_Checker_55_local C hP dd_Checker_declare_47 ?_
  refine lv_aload_n hx hb dd_Checker_declare_50 rfl (lv_at hl 0 rfl) ?_
  refine gf_h_Checker_55_locals C hP dd_Checker_declare_51 ?_
  refine lv_aload_n hx hb dd_Checker_declare_54 rfl (lv_at hl 0 rfl) ?_
  refine gf_h_Checker_55_locals C hP dd_Checker_declare_55 ?_
  refine lv_iload_n hx hb dd_Checker_declare_58 rfl (lv_at hl 1 rfl) ?_
  refine lv_iadd hx hb dd_Checker_declare_59 ?_
  refine lv_iload_n hx hb dd_Checker_declare_60 rfl (lv_at hl 2 rfl) ?_
  obtain ⟨rx, u5, hq, h⟩ := xp_seq h
  refine xk_goesV (xr_S (As := [.ref (ad 59), .int (u4.1 22), .int ((u4.1 22) + b1), .int b2]) (rest := []) C hP hS (ct_Arrays_fill_AIIII__h59 htr hok hq) kq_Checker_279 ⟨rfl, rfl, Nat.le_of_ble_eq_true rfl, Nat.le_of_ble_eq_true rfl⟩ ⟨Nat.le_of_ble_eq_true rfl, Nat.le_of_ble_eq_true rfl⟩ hl.1 rfl rfl (Nat.le_of_ble_eq_true rfl) dd_Checker_declare_61) hS (fun H locs hP hS => ?_)
  clear hq
  refine lv_aload_n hx hb dd_Checker_declare_64 rfl (lv_at hl 0 rfl) ?_
  refine lv_dup hx hb dd_Checker_declare_65 rfl ?_
  refine gf_h_Checker_55_locals C hP dd_Checker_declare_66 ?_
  refine lv_iload_n hx hb dd_Checker_declare_69 rfl (lv_at hl 1 rfl) ?_
  refine lv_iadd hx hb dd_Checker_declare_70 ?_
  refine pf_h_Checker_55_locals C hP hS dd_Checker_declare_71 (fun H locs hP hS => ?_)
  obtain ⟨u6, eu6, h⟩ := xp_let h
  rw [← eu6] at hP
  obtain ⟨rfl, rfl⟩ := xp_r h
  exact xr_vret C hP hS dd_Checker_declare_74
set_option maxHeartbeats 4000000 in
set_option maxRecDepth 100000 in
theorem wj_Checker_declare_23 {p : Program} {l : Launch} {e : Env} {s : State} {m : MethodId} {args : Array Value} {below : List Frame} {meth : Method} {c : Code} {D : va_G} {ad : Nat → Nat} {ca : Nat → ClassId} {ads : List Nat} {fu : Nat} (htr : l.stackTraces = false) (C : xk_C D kx_cl (kx_ty ca) (kw_h ad ca) ads "ModuleHouse$Checker" prog_2_method_30_code 3 none p e s m args meth c) (hne : c.exceptionTable.isEmpty = true) {u' : xk_St} {r : (Unit ⊕ Nat)} {b1 : Int32} {b2 : Int32} {s0 : Int32} {u : xk_St} {H : Heap} {locs : List Loc} {ls : Array Slot} (h : jb_Checker_declare_23 fu  b1 b2 s0 u = some (r, u')) (hP : va_P D kx_cl (kw_h ad ca u) H) (hS : va_S (xk_A ads s.heap.size) s.heap H locs) (hl : lv_has ls 3 [(0, .ref (ad 55)), (1, .int b1), (2, .int b2)]) : W p l e rm_Checker_declare s m args below meth c H locs 0 0 (xk_MQ below (xk_Qc D kx_cl (kw_h ad ca) ads (xo_v r) u') args s (xk_A ads s.heap.size)) (F0 m 23 ls [.int s0]) := by
  have hx := C.1.1
  have hb := C.1.2.1
  have hok := C.2.2.1
  unfold jb_Checker_declare_23 at h
  rcases xp_try h with ⟨rx, u3, hq, h⟩ | ⟨kx, ux, hq, h⟩
  rotate_left
  · obtain ⟨rfl, rfl⟩ := xp_q h
    exact xk_up (xr_S (As := [.int s0]) (rest := []) C hP hS (ct_Checker_need htr hok hq) kq_Checker_60 ⟨rfl, rfl, Nat.le_of_ble_eq_true rfl, Nat.le_of_ble_eq_true rfl⟩ ⟨Nat.le_of_ble_eq_true rfl, Nat.le_of_ble_eq_true rfl⟩ hl.1 rfl rfl (Nat.le_of_ble_eq_true rfl) dd_Checker_declare_23) hS hne C.2.2.2.2.2.2.1
  refine xk_goesV (xr_S (As := [.int s0]) (rest := []) C hP hS (ct_Checker_need htr hok hq) kq_Checker_60 ⟨rfl, rfl, Nat.le_of_ble_eq_true rfl, Nat.le_of_ble_eq_true rfl⟩ ⟨Nat.le_of_ble_eq_true rfl, Nat.le_of_ble_eq_true rfl⟩ hl.1 rfl rfl (Nat.le_of_ble_eq_true rfl) dd_Checker_declare_23) hS (fun H locs hP hS => ?_)
  clear hq
  refine lv_iload_n hx hb dd_Checker_declare_26 rfl (lv_at hl 1 rfl) ?_
  refine lv_sipush (v := 200) hx hb dd_Checker_declare_27 (by decide) ?_
  refine lv_aload_n hx hb dd_Checker_declare_30 rfl (lv_at hl 0 rfl) ?_
  refine gf_h_Checker_55_locals C hP dd_Checker_declare_31 ?_
  refine lv_isub hx hb dd_Checker_declare_34 ?_
  refine lv_icmp_gt (tgt := 42) hx hb dd_Checker_declare_35 (by decide) (fun hc => ?_) (fun hc => ?_)
  · have h := xp_t hc h
    refine lv_iconst (v := 0) hx hb dd_Checker_declare_42 (by decide) ?_
    exact wj_Checker_declare_43 htr C hne h hP hS (lv_sub hl [0, 1, 2] rfl)
  · have h := xp_f hc h
    refine lv_iconst (v := 1) hx hb dd_Checker_declare_38 (by decide) ?_
    refine lv_goto (tgt := 43) hx hb dd_Checker_declare_39 (by decide) ?_
    exact wj_Checker_declare_43 htr C hne h hP hS (lv_sub hl [0, 1, 2] rfl)
set_option maxHeartbeats 4000000 in
set_option maxRecDepth 100000 in
theorem wj_Checker_declare_22 {p : Program} {l : Launch} {e : Env} {s : State} {m : MethodId} {args : Array Value} {below : List Frame} {meth : Method} {c : Code} {D : va_G} {ad : Nat → Nat} {ca : Nat → ClassId} {ads : List Nat} {fu : Nat} (htr : l.stackTraces = false) (C : xk_C D kx_cl (kx_ty ca) (kw_h ad ca) ads "ModuleHouse$Checker" prog_2_method_30_code 3 none p e s m args meth c) (hne : c.exceptionTable.isEmpty = true) {u' : xk_St} {r : (Unit ⊕ Nat)} {b1 : Int32} {b2 : Int32} {u : xk_St} {H : Heap} {locs : List Loc} {ls : Array Slot} (h : jb_Checker_declare_22 fu  b1 b2 u = some (r, u')) (hP : va_P D kx_cl (kw_h ad ca u) H) (hS : va_S (xk_A ads s.heap.size) s.heap H locs) (hl : lv_has ls 3 [(0, .ref (ad 55)), (1, .int b1), (2, .int b2)]) : W p l e rm_Checker_declare s m args below meth c H locs 0 0 (xk_MQ below (xk_Qc D kx_cl (kw_h ad ca) ads (xo_v r) u') args s (xk_A ads s.heap.size)) (F0 m 22 ls []) := by
  have hx := C.1.1
  have hb := C.1.2.1
  have hok := C.2.2.1
  unfold jb_Checker_declare_22 at h
  refine lv_iconst (v := 0) hx hb dd_Checker_declare_22 (by decide) ?_
  exact wj_Checker_declare_23 htr C hne h hP hS (lv_sub hl [0, 1, 2] rfl)
set_option maxHeartbeats 4000000 in
set_option maxRecDepth 100000 in
theorem ct_Checker_declare {l : Launch} {D : va_G} {ad : Nat → Nat} {ca : Nat → ClassId} {ads : List Nat} (htr : l.stackTraces = false) (hok : xk_ok (kw_h ad ca) ads) {fu : Nat} {x0 : Int32} {x1 : Int32} {u u' : xk_St} {r : (Unit ⊕ Nat)} (h : fm_Checker_declare fu x0 x1 u = some (r, u')) :
    ∀ sz, xk_Met l ⟨"ModuleHouse$Checker", "declare", "(II)V"⟩ (Cond.code ⟨"ModuleHouse$Checker", "declare", "(II)V"⟩ prog_2_method_30_code 3 none :: xk_gd) rm_Checker_declare (xk_Pc D kx_cl (kx_ty ca) (kw_h ad ca) ads xk_F sz [.ref (ad 55), .int x0, .int x1] u) (xk_Qc D kx_cl (kw_h ad ca) ads (xo_v r) u') (xk_A ads sz) := by
  unfold fm_Checker_declare at h
  refine xk_con (by decide) htr hok (Nat.le_of_ble_eq_true rfl) (fun p e s m below meth c ls C hne hl hP => ?_)
  have hx := C.1.1
  have hb := C.1.2.1
  have hS : va_S (xk_A ads s.heap.size) s.heap s.heap [] := va_S.rf
  have hl : lv_has ls 3 [(0, .ref (ad 55)), (1, .int x0), (2, .int x1)] := hl
  refine lv_aload_n hx hb dd_Checker_declare_0 rfl (lv_at hl 0 rfl) ?_
  refine gf_h_Checker_55_types C hP dd_Checker_declare_1 ?_
  refine lv_iload_n hx hb dd_Checker_declare_4 rfl (lv_at hl 2 rfl) ?_
  obtain ⟨a1, u2, hq, h⟩ := xp_seq h
  refine xk_goesI (xr_V (As := [.int x1]) (rest := []) C hP hS (ct_Types_knows htr hok hq) kq_Checker_121 6 9 rfl rfl ⟨rfl, rfl, Nat.le_of_ble_eq_true rfl, Nat.le_of_ble_eq_true rfl⟩ ⟨Nat.le_of_ble_eq_true rfl, Nat.le_of_ble_eq_true rfl⟩ hl.1 rfl rfl (Nat.le_of_ble_eq_true rfl) dd_Checker_declare_5) hS (fun H locs hP hS => ?_)
  clear hq
  refine lv_if_eq (tgt := 22) hx hb dd_Checker_declare_8 (by decide) (fun hc => ?_) (fun hc => ?_)
  · have h := xp_t hc h
    exact wj_Checker_declare_22 htr C hne h hP hS (lv_sub hl [0, 1, 2] rfl)
  · have h := xp_f hc h
    refine lv_iload_n hx hb dd_Checker_declare_11 rfl (lv_at hl 2 rfl) ?_
    obtain ⟨a7, u8, hq, h⟩ := xp_seq h
    refine xk_goesI (xr_S (As := [.int x1]) (rest := []) C hP hS (ct_Types_hasDefault htr hok hq) kq_Checker_276 ⟨rfl, rfl, Nat.le_of_ble_eq_true rfl, Nat.le_of_ble_eq_true rfl⟩ ⟨Nat.le_of_ble_eq_true rfl, Nat.le_of_ble_eq_true rfl⟩ hl.1 rfl rfl (Nat.le_of_ble_eq_true rfl) dd_Checker_declare_12) hS (fun H locs hP hS => ?_)
    clear hq
    refine lv_if_eq (tgt := 22) hx hb dd_Checker_declare_15 (by decide) (fun hc => ?_) (fun hc => ?_)
    · have h := xp_t hc h
      exact wj_Checker_declare_22 htr C hne h hP hS (lv_sub hl [0, 1, 2] rfl)
    · have h := xp_f hc h
      refine lv_iconst (v := 1) hx hb dd_Checker_declare_18 (by decide) ?_
      refine lv_goto (tgt := 23) hx hb dd_Checker_declare_19 (by decide) ?_
      exact wj_Checker_declare_23 htr C hne h hP hS (lv_sub hl [0, 1, 2] rfl)
abbrev rm_Checker_needThere : Room := { frames := 7, cells := 1, slots := 6, locals := 120 }
noncomputable def jb_Checker_needThere_60 (fu : Nat) (k2 : Int32 → Int32 → Int32 → xk_St → Option ((Unit ⊕ Nat) × xk_St)) (b1 : Int32) (b2 : Int32) (b3 : Int32) (s0 : Int32) (u : xk_St) : Option ((Unit ⊕ Nat) × xk_St) :=
  (xs_try (fm_Checker_need s0 u) fun _ u2 => xs_let (b3 + (1 : Int32)) fun a3 => k2 b1 b2 a3 u2)
noncomputable def jb_Checker_needThere_2 (fu : Nat) : Nat → Int32 → Int32 → Int32 → xk_St → Option ((Unit ⊕ Nat) × xk_St)
  | 0 => fun _ _ _ _ => none
  | n + 1 => fun b1 b2 b3 u =>
    xs_let (jb_Checker_needThere_2 fu  n) fun k2 =>
    if b2 ≤ b3 then (some (.inl (()), u)) else ((xs_let (((u.1 19) - b2) + b3) fun a1 => if a1 < (u.1 20) then ((if ((u.1 21) - (1 : Int32)) < 0 ∨ 100 ≤ ((u.1 21) - (1 : Int32)).toNatClampNeg then none else jb_Checker_needThere_60 fu k2 b1 b2 b3 (u.2.2.1 35 ((u.1 21) - (1 : Int32)).toNatClampNeg) u)) else ((if a1 < 0 ∨ 100 ≤ a1.toNatClampNeg then none else xs_seq (fm_Checker_wayType b1 b3 u) fun a4 u5 => xs_seq (fm_Types_fits (u.2.2.1 33 a1.toNatClampNeg) a4 u5) fun a6 u7 => jb_Checker_needThere_60 fu k2 b1 b2 b3 a6 u7))))
noncomputable def fm_Checker_needThere (fu : Nat) (x0 : Int32) (x1 : Int32) (u : xk_St) : Option ((Unit ⊕ Nat) × xk_St) :=
  jb_Checker_needThere_2 fu fu x0 x1 (0 : Int32) u
set_option maxHeartbeats 4000000 in
set_option maxRecDepth 100000 in
theorem wj_Checker_needThere_60 {p : Program} {l : Launch} {e : Env} {s : State} {m : MethodId} {args : Array Value} {below : List Frame} {meth : Method} {c : Code} {D : va_G} {ad : Nat → Nat} {ca : Nat → ClassId} {ads : List Nat} {fu : Nat} (htr : l.stackTraces = false) (C : xk_C D kx_cl (kx_ty ca) (kw_h ad ca) ads "ModuleHouse$Checker" prog_2_method_39_code 5 none p e s m args meth c) (hne : c.exceptionTable.isEmpty = true) {u' : xk_St} {r : (Unit ⊕ Nat)} {k2 : Int32 → Int32 → Int32 → xk_St → Option ((Unit ⊕ Nat) × xk_St)} (hk2 : ∀ (c0 : Int32) (c1 : Int32) (c2 : Int32) (u : xk_St) (H : Heap) (locs : List Loc) (ls : Array Slot), k2 c0 c1 c2 u = some (r, u') → va_P D kx_cl (kw_h ad ca u) H → va_S (xk_A ads s.heap.size) s.heap H locs → lv_has ls 5 [(0, .ref (ad 55)), (1, .int c0), (2, .int c1), (3, .int c2)] → W p l e rm_Checker_needThere s m args below meth c H locs 0 0 (xk_MQ below (xk_Qc D kx_cl (kw_h ad ca) ads (xo_v r) u') args s (xk_A ads s.heap.size)) (F0 m 2 ls [])) {b1 : Int32} {b2 : Int32} {b3 : Int32} {s0 : Int32} {u : xk_St} {H : Heap} {locs : List Loc} {ls : Array Slot} (h : jb_Checker_needThere_60 fu k2 b1 b2 b3 s0 u = some (r, u')) (hP : va_P D kx_cl (kw_h ad ca u) H) (hS : va_S (xk_A ads s.heap.size) s.heap H locs) (hl : lv_has ls 5 [(0, .ref (ad 55)), (1, .int b1), (2, .int b2), (3, .int b3)]) : W p l e rm_Checker_needThere s m args below meth c H locs 0 0 (xk_MQ below (xk_Qc D kx_cl (kw_h ad ca) ads (xo_v r) u') args s (xk_A ads s.heap.size)) (F0 m 60 ls [.int s0]) := by
  have hx := C.1.1
  have hb := C.1.2.1
  have hok := C.2.2.1
  unfold jb_Checker_needThere_60 at h
  rcases xp_try h with ⟨rx, u2, hq, h⟩ | ⟨kx, ux, hq, h⟩
  rotate_left
  · obtain ⟨rfl, rfl⟩ := xp_q h
    exact xk_up (xr_S (As := [.int s0]) (rest := []) C hP hS (ct_Checker_need htr hok hq) kq_Checker_60 ⟨rfl, rfl, Nat.le_of_ble_eq_true rfl, Nat.le_of_ble_eq_true rfl⟩ ⟨Nat.le_of_ble_eq_true rfl, Nat.le_of_ble_eq_true rfl⟩ hl.1 rfl rfl (Nat.le_of_ble_eq_true rfl) dd_Checker_needThere_60) hS hne C.2.2.2.2.2.2.1
  refine xk_goesV (xr_S (As := [.int s0]) (rest := []) C hP hS (ct_Checker_need htr hok hq) kq_Checker_60 ⟨rfl, rfl, Nat.le_of_ble_eq_true rfl, Nat.le_of_ble_eq_true rfl⟩ ⟨Nat.le_of_ble_eq_true rfl, Nat.le_of_ble_eq_true rfl⟩ hl.1 rfl rfl (Nat.le_of_ble_eq_true rfl) dd_Checker_needThere_60) hS (fun H locs hP hS => ?_)
  clear hq
  obtain ⟨a3, ea3, h⟩ := xp_let h
  refine lv_iinc (v := a3) (lv' := [(3, .int a3), (0, .ref (ad 55)), (1, .int b1), (2, .int b2)]) hx hb dd_Checker_needThere_63 hl (k := 3) rfl (by rw [ea3]; first | rfl | decide) (by decide) rfl (fun ls hl => ?_)
  refine lv_goto (tgt := 2) hx hb dd_Checker_needThere_66 (by decide) ?_
  exact hk2 b1 b2 a3 u2 _ _ _ h hP hS (lv_sub hl [1, 2, 3, 0] rfl)
set_option maxHeartbeats 4000000 in
set_option maxRecDepth 100000 in
theorem wj_Checker_needThere_2 {p : Program} {l : Launch} {e : Env} {s : State} {m : MethodId} {args : Array Value} {below : List Frame} {meth : Method} {c : Code} {D : va_G} {ad : Nat → Nat} {ca : Nat → ClassId} {ads : List Nat} {fu : Nat} (htr : l.stackTraces = false) (C : xk_C D kx_cl (kx_ty ca) (kw_h ad ca) ads "ModuleHouse$Checker" prog_2_method_39_code 5 none p e s m args meth c) (hne : c.exceptionTable.isEmpty = true) {u' : xk_St} {r : (Unit ⊕ Nat)} : ∀ {n : Nat} {b1 : Int32} {b2 : Int32} {b3 : Int32} {u : xk_St} {H : Heap} {locs : List Loc} {ls : Array Slot} (h : jb_Checker_needThere_2 fu  n b1 b2 b3 u = some (r, u')) (hP : va_P D kx_cl (kw_h ad ca u) H) (hS : va_S (xk_A ads s.heap.size) s.heap H locs) (hl : lv_has ls 5 [(0, .ref (ad 55)), (1, .int b1), (2, .int b2), (3, .int b3)]), W p l e rm_Checker_needThere s m args below meth c H locs 0 0 (xk_MQ below (xk_Qc D kx_cl (kw_h ad ca) ads (xo_v r) u') args s (xk_A ads s.heap.size)) (F0 m 2 ls []) := by
  intro n
  have hx := C.1.1
  have hb := C.1.2.1
  have hok := C.2.2.1
  induction n with
  | zero =>
    intro _ _ _ u H locs ls h
    have h : none = some (r, u') := h
    cases h
  | succ n ih =>
    intro b1 b2 b3 u H locs ls h hP hS hl
    unfold jb_Checker_needThere_2 at h
    obtain ⟨k2, ek2, h⟩ := xp_let h
    have hk2 : ∀ (c0 : Int32) (c1 : Int32) (c2 : Int32) (u : xk_St) (H : Heap) (locs : List Loc) (ls : Array Slot), k2 c0 c1 c2 u = some (r, u') → va_P D kx_cl (kw_h ad ca u) H → va_S (xk_A ads s.heap.size) s.heap H locs → lv_has ls 5 [(0, .ref (ad 55)), (1, .int c0), (2, .int c1), (3, .int c2)] → W p l e rm_Checker_needThere s m args below meth c H locs 0 0 (xk_MQ below (xk_Qc D kx_cl (kw_h ad ca) ads (xo_v r) u') args s (xk_A ads s.heap.size)) (F0 m 2 ls []) := by
      intro c0 c1 c2 u H locs ls h hP hS hl
      subst ek2
      exact ih h hP hS hl
    clear ih ek2
    refine lv_iload_n hx hb dd_Checker_needThere_2 rfl (lv_at hl 3 rfl) ?_
    refine lv_iload_n hx hb dd_Checker_needThere_3 rfl (lv_at hl 2 rfl) ?_
    refine lv_icmp_ge (tgt := 69) hx hb dd_Checker_needThere_4 (by decide) (fun hc => ?_) (fun hc => ?_)
    · have h := xp_t hc h
      obtain ⟨rfl, rfl⟩ := xp_r h
      exact xr_vret C hP hS dd_Checker_needThere_69
    · have h := xp_f hc h
      refine lv_aload_n hx hb dd_Checker_needThere_7 rfl (lv_at hl 0 rfl) ?_
      refine gf_h_Checker_55_height C hP dd_Checker_needThere_8 ?_
      refine lv_iload_n hx hb dd_Checker_needThere_11 rfl (lv_at hl 2 rfl) ?_
      refine lv_isub hx hb dd_Checker_needThere_12 ?_
      refine lv_iload_n hx hb dd_Checker_needThere_13 rfl (lv_at hl 3 rfl) ?_
      refine lv_iadd hx hb dd_Checker_needThere_14 ?_
      obtain ⟨a1, ea1, h⟩ := xp_let h
      refine xr_nami ea1 ?_
      refine lv_istore (lv' := [(4, .int a1), (0, .ref (ad 55)), (1, .int b1), (2, .int b2), (3, .int b3)]) hx hb dd_Checker_needThere_15 hl (by decide) rfl (fun ls hl => ?_)
      refine lv_iload hx hb dd_Checker_needThere_17 (lv_at hl 0 rfl) ?_
      refine lv_aload_n hx hb dd_Checker_needThere_19 rfl (lv_at hl 1 rfl) ?_
      refine gf_h_Checker_55_floor C hP dd_Checker_needThere_20 ?_
      refine lv_icmp_lt (tgt := 49) hx hb dd_Checker_needThere_23 (by decide) (fun hc => ?_) (fun hc => ?_)
      · have h := xp_t hc h
        refine lv_aload_n hx hb dd_Checker_needThere_49 rfl (lv_at hl 1 rfl) ?_
        refine gf_h_Checker_55_lost C hP dd_Checker_needThere_50 ?_
        refine lv_aload_n hx hb dd_Checker_needThere_53 rfl (lv_at hl 1 rfl) ?_
        refine gf_h_Checker_55_depth C hP dd_Checker_needThere_54 ?_
        refine lv_iconst (v := 1) hx hb dd_Checker_needThere_57 (by decide) ?_
        refine lv_isub hx hb dd_Checker_needThere_58 ?_
        obtain ⟨hi, h⟩ := xp_g h
        refine al_h_58 C hP hi dd_Checker_needThere_59 ?_
        exact wj_Checker_needThere_60 htr C hne hk2 h hP hS (lv_sub hl [1, 2, 3, 4] rfl)
      · have h := xp_f hc h
        refine lv_aload_n hx hb dd_Checker_needThere_26 rfl (lv_at hl 1 rfl) ?_
        refine gf_h_Checker_55_types C hP dd_Checker_needThere_27 ?_
        refine lv_aload_n hx hb dd_Checker_needThere_30 rfl (lv_at hl 1 rfl) ?_
        refine gf_h_Checker_55_stack C hP dd_Checker_needThere_31 ?_
        refine lv_iload hx hb dd_Checker_needThere_34 (lv_at hl 0 rfl) ?_
        obtain ⟨hi, h⟩ := xp_g h
        refine al_h_56 C hP hi dd_Checker_needThere_36 ?_
        refine lv_aload_n hx hb dd_Checker_needThere_37 rfl (lv_at hl 1 rfl) ?_
        refine lv_iload_n hx hb dd_Checker_needThere_38 rfl (lv_at hl 2 rfl) ?_
        refine lv_iload_n hx hb dd_Checker_needThere_39 rfl (lv_at hl 4 rfl) ?_
        obtain ⟨a4, u5, hq, h⟩ := xp_seq h
        refine xk_goesI (xr_V (As := [.int b1, .int b3]) (rest := [.int (u.2.2.1 33 a1.toNatClampNeg), .ref (ad 6)]) C hP hS (ct_Checker_wayType htr hok hq) kq_Checker_235 55 1 rfl rfl ⟨rfl, rfl, Nat.le_of_ble_eq_true rfl, Nat.le_of_ble_eq_true rfl⟩ ⟨Nat.le_of_ble_eq_true rfl, Nat.le_of_ble_eq_true rfl⟩ hl.1 rfl rfl (Nat.le_of_ble_eq_true rfl) dd_Checker_needThere_40) hS (fun H locs hP hS => ?_)
        clear hq
        obtain ⟨a6, u7, hq, h⟩ := xp_seq h
        refine xk_goesI (xr_V (As := [.int (u.2.2.1 33 a1.toNatClampNeg), .int a4]) (rest := []) C hP hS (ct_Types_fits htr hok hq) kq_Checker_148 6 9 rfl rfl ⟨rfl, rfl, Nat.le_of_ble_eq_true rfl, Nat.le_of_ble_eq_true rfl⟩ ⟨Nat.le_of_ble_eq_true rfl, Nat.le_of_ble_eq_true rfl⟩ hl.1 rfl rfl (Nat.le_of_ble_eq_true rfl) dd_Checker_needThere_43) hS (fun H locs hP hS => ?_)
        clear hq
        refine lv_goto (tgt := 60) hx hb dd_Checker_needThere_46 (by decide) ?_
        exact wj_Checker_needThere_60 htr C hne hk2 h hP hS (lv_sub hl [1, 2, 3, 4] rfl)
set_option maxHeartbeats 4000000 in
set_option maxRecDepth 100000 in
theorem ct_Checker_needThere {l : Launch} {D : va_G} {ad : Nat → Nat} {ca : Nat → ClassId} {ads : List Nat} (htr : l.stackTraces = false) (hok : xk_ok (kw_h ad ca) ads) {fu : Nat} {x0 : Int32} {x1 : Int32} {u u' : xk_St} {r : (Unit ⊕ Nat)} (h : fm_Checker_needThere fu x0 x1 u = some (r, u')) :
    ∀ sz, xk_Met l ⟨"ModuleHouse$Checker", "needThere", "(II)V"⟩ (Cond.code ⟨"ModuleHouse$Checker", "needThere", "(II)V"⟩ prog_2_method_39_code 5 none :: xk_gd) rm_Checker_needThere (xk_Pc D kx_cl (kx_ty ca) (kw_h ad ca) ads xk_F sz [.ref (ad 55), .int x0, .int x1] u) (xk_Qc D kx_cl (kw_h ad ca) ads (xo_v r) u') (xk_A ads sz) := by
  unfold fm_Checker_needThere at h
  refine xk_con (by decide) htr hok (Nat.le_of_ble_eq_true rfl) (fun p e s m below meth c ls C hne hl hP => ?_)
  have hx := C.1.1
  have hb := C.1.2.1
  have hS : va_S (xk_A ads s.heap.size) s.heap s.heap [] := va_S.rf
  have hl : lv_has ls 5 [(0, .ref (ad 55)), (1, .int x0), (2, .int x1)] := hl
  refine lv_iconst (v := 0) hx hb dd_Checker_needThere_0 (by decide) ?_
  refine lv_istore_n (lv' := [(3, .int (0 : Int32)), (0, .ref (ad 55)), (1, .int x0), (2, .int x1)]) hx hb dd_Checker_needThere_1 rfl hl (by decide) rfl (fun ls hl => ?_)
  exact wj_Checker_needThere_2 htr C hne h hP hS (lv_sub hl [1, 2, 3, 0] rfl)
abbrev rm_Checker_checkWays : Room := { frames := 8, cells := 1, slots := 6, locals := 144 }
noncomputable def jb_Checker_checkWays_79 (fu : Nat) (k28 : Int32 → Int32 → Int32 → Int32 → xk_St → Option ((Unit ⊕ Nat) × xk_St)) (b1 : Int32) (b2 : Int32) (b3 : Int32) (b4 : Int32) (b5 : Int32) (s0 : Int32) (u : xk_St) : Option ((Unit ⊕ Nat) × xk_St) :=
  (xs_try (fm_Checker_need s0 u) fun _ u12 => xs_try (fm_Checker_needThere fu b5 b3 u12) fun _ u13 => xs_let (b4 + (1 : Int32)) fun a14 => k28 b1 b2 b3 a14 u13)
noncomputable def jb_Checker_checkWays_28 (fu : Nat) : Nat → Int32 → Int32 → Int32 → Int32 → xk_St → Option ((Unit ⊕ Nat) × xk_St)
  | 0 => fun _ _ _ _ _ => none
  | n + 1 => fun b1 b2 b3 b4 u =>
    xs_let (jb_Checker_checkWays_28 fu  n) fun k28 =>
    if (b1 + b2) < b4 then ((xs_seq (fm_Checker_lose u) fun _ u6 => some (.inl (()), u6))) else ((if b4 < 0 ∨ 8192 ≤ b4.toNatClampNeg then none else xs_try (fm_Checker_blockAt (u.2.2.1 11 b4.toNatClampNeg) u) fun a7 u8 => if b4 < 0 ∨ 8192 ≤ b4.toNatClampNeg then none else xs_let (xs_A u8 11 b4.toNatClampNeg a7) fun u9 => xs_seq (fm_Checker_wayCount a7 u9) fun a10 u11 => if a10 = b3 then (jb_Checker_checkWays_79 fu k28 b1 b2 b3 b4 a7 (1 : Int32) u11) else (jb_Checker_checkWays_79 fu k28 b1 b2 b3 b4 a7 (0 : Int32) u11)))
noncomputable def fm_Checker_checkWays (fu : Nat) (x0 : Int32) (x1 : Int32) (u : xk_St) : Option ((Unit ⊕ Nat) × xk_St) :=
  (xs_try (fm_Checker_pop_I (1 : Int32) u) fun _ u1 => if (x0 + x1) < 0 ∨ 8192 ≤ (x0 + x1).toNatClampNeg then none else xs_try (fm_Checker_blockAt (u1.2.2.1 11 (x0 + x1).toNatClampNeg) u1) fun a2 u3 => xs_seq (fm_Checker_wayCount a2 u3) fun a4 u5 => jb_Checker_checkWays_28 fu fu x0 x1 a4 x0 u5)
set_option maxHeartbeats 4000000 in
set_option maxRecDepth 100000 in
theorem wj_Checker_checkWays_79 {p : Program} {l : Launch} {e : Env} {s : State} {m : MethodId} {args : Array Value} {below : List Frame} {meth : Method} {c : Code} {D : va_G} {ad : Nat → Nat} {ca : Nat → ClassId} {ads : List Nat} {fu : Nat} (htr : l.stackTraces = false) (C : xk_C D kx_cl (kx_ty ca) (kw_h ad ca) ads "ModuleHouse$Checker" prog_2_method_38_code 6 none p e s m args meth c) (hne : c.exceptionTable.isEmpty = true) {u' : xk_St} {r : (Unit ⊕ Nat)} {k28 : Int32 → Int32 → Int32 → Int32 → xk_St → Option ((Unit ⊕ Nat) × xk_St)} (hk28 : ∀ (c0 : Int32) (c1 : Int32) (c2 : Int32) (c3 : Int32) (u : xk_St) (H : Heap) (locs : List Loc) (ls : Array Slot), k28 c0 c1 c2 c3 u = some (r, u') → va_P D kx_cl (kw_h ad ca u) H → va_S (xk_A ads s.heap.size) s.heap H locs → lv_has ls 6 [(0, .ref (ad 55)), (1, .int c0), (2, .int c1), (3, .int c2), (4, .int c3)] → W p l e rm_Checker_checkWays s m args below meth c H locs 0 0 (xk_MQ below (xk_Qc D kx_cl (kw_h ad ca) ads (xo_v r) u') args s (xk_A ads s.heap.size)) (F0 m 28 ls [])) {b1 : Int32} {b2 : Int32} {b3 : Int32} {b4 : Int32} {b5 : Int32} {s0 : Int32} {u : xk_St} {H : Heap} {locs : List Loc} {ls : Array Slot} (h : jb_Checker_checkWays_79 fu k28 b1 b2 b3 b4 b5 s0 u = some (r, u')) (hP : va_P D kx_cl (kw_h ad ca u) H) (hS : va_S (xk_A ads s.heap.size) s.heap H locs) (hl : lv_has ls 6 [(0, .ref (ad 55)), (1, .int b1), (2, .int b2), (3, .int b3), (4, .int b4), (5, .int b5)]) : W p l e rm_Checker_checkWays s m args below meth c H locs 0 0 (xk_MQ below (xk_Qc D kx_cl (kw_h ad ca) ads (xo_v r) u') args s (xk_A ads s.heap.size)) (F0 m 79 ls [.int s0]) := by
  have hx := C.1.1
  have hb := C.1.2.1
  have hok := C.2.2.1
  unfold jb_Checker_checkWays_79 at h
  rcases xp_try h with ⟨rx, u12, hq, h⟩ | ⟨kx, ux, hq, h⟩
  rotate_left
  · obtain ⟨rfl, rfl⟩ := xp_q h
    exact xk_up (xr_S (As := [.int s0]) (rest := []) C hP hS (ct_Checker_need htr hok hq) kq_Checker_60 ⟨rfl, rfl, Nat.le_of_ble_eq_true rfl, Nat.le_of_ble_eq_true rfl⟩ ⟨Nat.le_of_ble_eq_true rfl, Nat.le_of_ble_eq_true rfl⟩ hl.1 rfl rfl (Nat.le_of_ble_eq_true rfl) dd_Checker_checkWays_79) hS hne C.2.2.2.2.2.2.1
  refine xk_goesV (xr_S (As := [.int s0]) (rest := []) C hP hS (ct_Checker_need htr hok hq) kq_Checker_60 ⟨rfl, rfl, Nat.le_of_ble_eq_true rfl, Nat.le_of_ble_eq_true rfl⟩ ⟨Nat.le_of_ble_eq_true rfl, Nat.le_of_ble_eq_true rfl⟩ hl.1 rfl rfl (Nat.le_of_ble_eq_true rfl) dd_Checker_checkWays_79) hS (fun H locs hP hS => ?_)
  clear hq
  refine lv_aload_n hx hb dd_Checker_checkWays_82 rfl (lv_at hl 0 rfl) ?_
  refine lv_iload hx hb dd_Checker_checkWays_83 (lv_at hl 5 rfl) ?_
  refine lv_iload_n hx hb dd_Checker_checkWays_85 rfl (lv_at hl 3 rfl) ?_
  rcases xp_try h with ⟨rx, u13, hq, h⟩ | ⟨kx, ux, hq, h⟩
  rotate_left
  · obtain ⟨rfl, rfl⟩ := xp_q h
    exact xk_up (xr_V (As := [.int b5, .int b3]) (rest := []) C hP hS (ct_Checker_needThere htr hok hq) kq_Checker_311 55 1 rfl rfl ⟨rfl, rfl, Nat.le_of_ble_eq_true rfl, Nat.le_of_ble_eq_true rfl⟩ ⟨Nat.le_of_ble_eq_true rfl, Nat.le_of_ble_eq_true rfl⟩ hl.1 rfl rfl (Nat.le_of_ble_eq_true rfl) dd_Checker_checkWays_86) hS hne C.2.2.2.2.2.2.1
  refine xk_goesV (xr_V (As := [.int b5, .int b3]) (rest := []) C hP hS (ct_Checker_needThere htr hok hq) kq_Checker_311 55 1 rfl rfl ⟨rfl, rfl, Nat.le_of_ble_eq_true rfl, Nat.le_of_ble_eq_true rfl⟩ ⟨Nat.le_of_ble_eq_true rfl, Nat.le_of_ble_eq_true rfl⟩ hl.1 rfl rfl (Nat.le_of_ble_eq_true rfl) dd_Checker_checkWays_86) hS (fun H locs hP hS => ?_)
  clear hq
  obtain ⟨a14, ea14, h⟩ := xp_let h
  refine lv_iinc (v := a14) (lv' := [(4, .int a14), (0, .ref (ad 55)), (1, .int b1), (2, .int b2), (3, .int b3), (5, .int b5)]) hx hb dd_Checker_checkWays_89 hl (k := 4) rfl (by rw [ea14]; first | rfl | decide) (by decide) rfl (fun ls hl => ?_)
  refine lv_goto (tgt := 28) hx hb dd_Checker_checkWays_92 (by decide) ?_
  exact hk28 b1 b2 b3 a14 u13 _ _ _ h hP hS (lv_sub hl [1, 2, 3, 4, 0] rfl)
set_option maxHeartbeats 4000000 in
set_option maxRecDepth 100000 in
theorem wj_Checker_checkWays_28 {p : Program} {l : Launch} {e : Env} {s : State} {m : MethodId} {args : Array Value} {below : List Frame} {meth : Method} {c : Code} {D : va_G} {ad : Nat → Nat} {ca : Nat → ClassId} {ads : List Nat} {fu : Nat} (htr : l.stackTraces = false) (C : xk_C D kx_cl (kx_ty ca) (kw_h ad ca) ads "ModuleHouse$Checker" prog_2_method_38_code 6 none p e s m args meth c) (hne : c.exceptionTable.isEmpty = true) {u' : xk_St} {r : (Unit ⊕ Nat)} : ∀ {n : Nat} {b1 : Int32} {b2 : Int32} {b3 : Int32} {b4 : Int32} {u : xk_St} {H : Heap} {locs : List Loc} {ls : Array Slot} (h : jb_Checker_checkWays_28 fu  n b1 b2 b3 b4 u = some (r, u')) (hP : va_P D kx_cl (kw_h ad ca u) H) (hS : va_S (xk_A ads s.heap.size) s.heap H locs) (hl : lv_has ls 6 [(0, .ref (ad 55)), (1, .int b1), (2, .int b2), (3, .int b3), (4, .int b4)]), W p l e rm_Checker_checkWays s m args below meth c H locs 0 0 (xk_MQ below (xk_Qc D kx_cl (kw_h ad ca) ads (xo_v r) u') args s (xk_A ads s.heap.size)) (F0 m 28 ls []) := by
  intro n
  have hx := C.1.1
  have hb := C.1.2.1
  have hok := C.2.2.1
  induction n with
  | zero =>
    intro _ _ _ _ u H locs ls h
    have h : none = some (r, u') := h
    cases h
  | succ n ih =>
    intro b1 b2 b3 b4 u H locs ls h hP hS hl
    unfold jb_Checker_checkWays_28 at h
    obtain ⟨k28, ek28, h⟩ := xp_let h
    have hk28 : ∀ (c0 : Int32) (c1 : Int32) (c2 : Int32) (c3 : Int32) (u : xk_St) (H : Heap) (locs : List Loc) (ls : Array Slot), k28 c0 c1 c2 c3 u = some (r, u') → va_P D kx_cl (kw_h ad ca u) H → va_S (xk_A ads s.heap.size) s.heap H locs → lv_has ls 6 [(0, .ref (ad 55)), (1, .int c0), (2, .int c1), (3, .int c2), (4, .int c3)] → W p l e rm_Checker_checkWays s m args below meth c H locs 0 0 (xk_MQ below (xk_Qc D kx_cl (kw_h ad ca) ads (xo_v r) u') args s (xk_A ads s.heap.size)) (F0 m 28 ls []) := by
      intro c0 c1 c2 c3 u H locs ls h hP hS hl
      subst ek28
      exact ih h hP hS hl
    clear ih ek28
    refine lv_iload hx hb dd_Checker_checkWays_28 (lv_at hl 4 rfl) ?_
    refine lv_iload_n hx hb dd_Checker_checkWays_30 rfl (lv_at hl 1 rfl) ?_
    refine lv_iload_n hx hb dd_Checker_checkWays_31 rfl (lv_at hl 2 rfl) ?_
    refine lv_iadd hx hb dd_Checker_checkWays_32 ?_
    refine lv_icmp_gt (tgt := 95) hx hb dd_Checker_checkWays_33 (by decide) (fun hc => ?_) (fun hc => ?_)
    · have h := xp_t hc h
      refine lv_aload_n hx hb dd_Checker_checkWays_95 rfl (lv_at hl 0 rfl) ?_
      obtain ⟨rx, u6, hq, h⟩ := xp_seq h
      refine xk_goesV (xr_V (As := []) (rest := []) C hP hS (ct_Checker_lose htr hok hq) kq_Checker_240 55 1 rfl rfl ⟨rfl, rfl, Nat.le_of_ble_eq_true rfl, Nat.le_of_ble_eq_true rfl⟩ ⟨Nat.le_of_ble_eq_true rfl, Nat.le_of_ble_eq_true rfl⟩ hl.1 rfl rfl (Nat.le_of_ble_eq_true rfl) dd_Checker_checkWays_96) hS (fun H locs hP hS => ?_)
      clear hq
      obtain ⟨rfl, rfl⟩ := xp_r h
      exact xr_vret C hP hS dd_Checker_checkWays_99
    · have h := xp_f hc h
      refine lv_aload_n hx hb dd_Checker_checkWays_36 rfl (lv_at hl 0 rfl) ?_
      refine lv_aload_n hx hb dd_Checker_checkWays_37 rfl (lv_at hl 0 rfl) ?_
      refine gf_h_Checker_55_code C hP dd_Checker_checkWays_38 ?_
      refine gf_h_Checker_12_numbers C hP dd_Checker_checkWays_41 ?_
      refine lv_iload hx hb dd_Checker_checkWays_44 (lv_at hl 4 rfl) ?_
      obtain ⟨hi, h⟩ := xp_g h
      refine al_h_18 C hP hi dd_Checker_checkWays_46 ?_
      rcases xp_try h with ⟨a7, u8, hq, h⟩ | ⟨kx, ux, hq, h⟩
      rotate_left
      · obtain ⟨rfl, rfl⟩ := xp_q h
        exact xk_up (xr_V (As := [.int (u.2.2.1 11 b4.toNatClampNeg)]) (rest := []) C hP hS (ct_Checker_blockAt htr hok hq) kq_Checker_270 55 1 rfl rfl ⟨rfl, rfl, Nat.le_of_ble_eq_true rfl, Nat.le_of_ble_eq_true rfl⟩ ⟨Nat.le_of_ble_eq_true rfl, Nat.le_of_ble_eq_true rfl⟩ hl.1 rfl rfl (Nat.le_of_ble_eq_true rfl) dd_Checker_checkWays_47) hS hne C.2.2.2.2.2.2.1
      refine xk_goesI (xr_V (As := [.int (u.2.2.1 11 b4.toNatClampNeg)]) (rest := []) C hP hS (ct_Checker_blockAt htr hok hq) kq_Checker_270 55 1 rfl rfl ⟨rfl, rfl, Nat.le_of_ble_eq_true rfl, Nat.le_of_ble_eq_true rfl⟩ ⟨Nat.le_of_ble_eq_true rfl, Nat.le_of_ble_eq_true rfl⟩ hl.1 rfl rfl (Nat.le_of_ble_eq_true rfl) dd_Checker_checkWays_47) hS (fun H locs hP hS => ?_)
      clear hq
      refine lv_istore (lv' := [(5, .int a7), (0, .ref (ad 55)), (1, .int b1), (2, .int b2), (3, .int b3), (4, .int b4)]) hx hb dd_Checker_checkWays_50 hl (by decide) rfl (fun ls hl => ?_)
      refine lv_aload_n hx hb dd_Checker_checkWays_52 rfl (lv_at hl 1 rfl) ?_
      refine gf_h_Checker_55_code C hP dd_Checker_checkWays_53 ?_
      refine gf_h_Checker_12_numbers C hP dd_Checker_checkWays_56 ?_
      refine lv_iload hx hb dd_Checker_checkWays_59 (lv_at hl 5 rfl) ?_
      refine lv_iload hx hb dd_Checker_checkWays_61 (lv_at hl 0 rfl) ?_
      obtain ⟨hi, h⟩ := xp_g h
      refine as_h_18 C hP hS hi dd_Checker_checkWays_63 (fun H locs hP hS => ?_)
      obtain ⟨u9, eu9, h⟩ := xp_let h
      rw [← eu9] at hP
      refine lv_aload_n hx hb dd_Checker_checkWays_64 rfl (lv_at hl 1 rfl) ?_
      refine lv_iload hx hb dd_Checker_checkWays_65 (lv_at hl 0 rfl) ?_
      obtain ⟨a10, u11, hq, h⟩ := xp_seq h
      refine xk_goesI (xr_V (As := [.int a7]) (rest := []) C hP hS (ct_Checker_wayCount htr hok hq) kq_Checker_258 55 1 rfl rfl ⟨rfl, rfl, Nat.le_of_ble_eq_true rfl, Nat.le_of_ble_eq_true rfl⟩ ⟨Nat.le_of_ble_eq_true rfl, Nat.le_of_ble_eq_true rfl⟩ hl.1 rfl rfl (Nat.le_of_ble_eq_true rfl) dd_Checker_checkWays_67) hS (fun H locs hP hS => ?_)
      clear hq
      refine lv_iload_n hx hb dd_Checker_checkWays_70 rfl (lv_at hl 4 rfl) ?_
      refine lv_icmp_ne (tgt := 78) hx hb dd_Checker_checkWays_71 (by decide) (fun hc => ?_) (fun hc => ?_)
      · have h := xp_f hc h
        refine lv_iconst (v := 0) hx hb dd_Checker_checkWays_78 (by decide) ?_
        exact wj_Checker_checkWays_79 htr C hne hk28 h hP hS (lv_sub hl [1, 2, 3, 4, 5, 0] rfl)
      · have h := xp_t hc h
        refine lv_iconst (v := 1) hx hb dd_Checker_checkWays_74 (by decide) ?_
        refine lv_goto (tgt := 79) hx hb dd_Checker_checkWays_75 (by decide) ?_
        exact wj_Checker_checkWays_79 htr C hne hk28 h hP hS (lv_sub hl [1, 2, 3, 4, 5, 0] rfl)
set_option maxHeartbeats 4000000 in
set_option maxRecDepth 100000 in
theorem ct_Checker_checkWays {l : Launch} {D : va_G} {ad : Nat → Nat} {ca : Nat → ClassId} {ads : List Nat} (htr : l.stackTraces = false) (hok : xk_ok (kw_h ad ca) ads) {fu : Nat} {x0 : Int32} {x1 : Int32} {u u' : xk_St} {r : (Unit ⊕ Nat)} (h : fm_Checker_checkWays fu x0 x1 u = some (r, u')) :
    ∀ sz, xk_Met l ⟨"ModuleHouse$Checker", "checkWays", "(II)V"⟩ (Cond.code ⟨"ModuleHouse$Checker", "checkWays", "(II)V"⟩ prog_2_method_38_code 6 none :: xk_gd) rm_Checker_checkWays (xk_Pc D kx_cl (kx_ty ca) (kw_h ad ca) ads xk_F sz [.ref (ad 55), .int x0, .int x1] u) (xk_Qc D kx_cl (kw_h ad ca) ads (xo_v r) u') (xk_A ads sz) := by
  unfold fm_Checker_checkWays at h
  refine xk_con (by decide) htr hok (Nat.le_of_ble_eq_true rfl) (fun p e s m below meth c ls C hne hl hP => ?_)
  have hx := C.1.1
  have hb := C.1.2.1
  have hS : va_S (xk_A ads s.heap.size) s.heap s.heap [] := va_S.rf
  have hl : lv_has ls 6 [(0, .ref (ad 55)), (1, .int x0), (2, .int x1)] := hl
  refine lv_aload_n hx hb dd_Checker_checkWays_0 rfl (lv_at hl 0 rfl) ?_
  refine lv_iconst (v := 1) hx hb dd_Checker_checkWays_1 (by decide) ?_
  rcases xp_try h with ⟨rx, u1, hq, h⟩ | ⟨kx, ux, hq, h⟩
  rotate_left
  · obtain ⟨rfl, rfl⟩ := xp_q h
    exact xk_up (xr_V (As := [.int (1 : Int32)]) (rest := []) C hP hS (ct_Checker_pop_I htr hok hq) kq_Checker_238 55 1 rfl rfl ⟨rfl, rfl, Nat.le_of_ble_eq_true rfl, Nat.le_of_ble_eq_true rfl⟩ ⟨Nat.le_of_ble_eq_true rfl, Nat.le_of_ble_eq_true rfl⟩ hl.1 rfl rfl (Nat.le_of_ble_eq_true rfl) dd_Checker_checkWays_2) hS hne C.2.2.2.2.2.2.1
  refine xk_goesV (xr_V (As := [.int (1 : Int32)]) (rest := []) C hP hS (ct_Checker_pop_I htr hok hq) kq_Checker_238 55 1 rfl rfl ⟨rfl, rfl, Nat.le_of_ble_eq_true rfl, Nat.le_of_ble_eq_true rfl⟩ ⟨Nat.le_of_ble_eq_true rfl, Nat.le_of_ble_eq_true rfl⟩ hl.1 rfl rfl (Nat.le_of_ble_eq_true rfl) dd_Checker_checkWays_2) hS (fun H locs hP hS => ?_)
  clear hq
  refine lv_aload_n hx hb dd_Checker_checkWays_5 rfl (lv_at hl 0 rfl) ?_
  refine lv_aload_n hx hb dd_Checker_checkWays_6 rfl (lv_at hl 0 rfl) ?_
  refine lv_aload_n hx hb dd_Checker_checkWays_7 rfl (lv_at hl 0 rfl) ?_
  refine gf_h_Checker_55_code C hP dd_Checker_checkWays_8 ?_
  refine gf_h_Checker_12_numbers C hP dd_Checker_checkWays_11 ?_
  refine lv_iload_n hx hb dd_Checker_checkWays_14 rfl (lv_at hl 1 rfl) ?_
  refine lv_iload_n hx hb dd_Checker_checkWays_15 rfl (lv_at hl 2 rfl) ?_
  refine lv_iadd hx hb dd_Checker_checkWays_16 ?_
  obtain ⟨hi, h⟩ := xp_g h
  refine al_h_18 C hP hi dd_Checker_checkWays_17 ?_
  rcases xp_try h with ⟨a2, u3, hq, h⟩ | ⟨kx, ux, hq, h⟩
  rotate_left
  · obtain ⟨rfl, rfl⟩ := xp_q h
    exact xk_up (xr_V (As := [.int (u1.2.2.1 11 (x0 + x1).toNatClampNeg)]) (rest := [.ref (ad 55)]) C hP hS (ct_Checker_blockAt htr hok hq) kq_Checker_270 55 1 rfl rfl ⟨rfl, rfl, Nat.le_of_ble_eq_true rfl, Nat.le_of_ble_eq_true rfl⟩ ⟨Nat.le_of_ble_eq_true rfl, Nat.le_of_ble_eq_true rfl⟩ hl.1 rfl rfl (Nat.le_of_ble_eq_true rfl) dd_Checker_checkWays_18) hS hne C.2.2.2.2.2.2.1
  refine xk_goesI (xr_V (As := [.int (u1.2.2.1 11 (x0 + x1).toNatClampNeg)]) (rest := [.ref (ad 55)]) C hP hS (ct_Checker_blockAt htr hok hq) kq_Checker_270 55 1 rfl rfl ⟨rfl, rfl, Nat.le_of_ble_eq_true rfl, Nat.le_of_ble_eq_true rfl⟩ ⟨Nat.le_of_ble_eq_true rfl, Nat.le_of_ble_eq_true rfl⟩ hl.1 rfl rfl (Nat.le_of_ble_eq_true rfl) dd_Checker_checkWays_18) hS (fun H locs hP hS => ?_)
  clear hq
  obtain ⟨a4, u5, hq, h⟩ := xp_seq h
  refine xk_goesI (xr_V (As := [.int a2]) (rest := []) C hP hS (ct_Checker_wayCount htr hok hq) kq_Checker_258 55 1 rfl rfl ⟨rfl, rfl, Nat.le_of_ble_eq_true rfl, Nat.le_of_ble_eq_true rfl⟩ ⟨Nat.le_of_ble_eq_true rfl, Nat.le_of_ble_eq_true rfl⟩ hl.1 rfl rfl (Nat.le_of_ble_eq_true rfl) dd_Checker_checkWays_21) hS (fun H locs hP hS => ?_)
  clear hq
  refine lv_istore_n (lv' := [(3, .int a4), (0, .ref (ad 55)), (1, .int x0), (2, .int x1)]) hx hb dd_Checker_checkWays_24 rfl hl (by decide) rfl (fun ls hl => ?_)
  refine lv_iload_n hx hb dd_Checker_checkWays_25 rfl (lv_at hl 2 rfl) ?_
  refine lv_istore (lv' := [(4, .int x0), (3, .int a4), (0, .ref (ad 55)), (1, .int x0), (2, .int x1)]) hx hb dd_Checker_checkWays_26 hl (by decide) rfl (fun ls hl => ?_)
  exact wj_Checker_checkWays_28 htr C hne h hP hS (lv_sub hl [2, 3, 4, 1, 0] rfl)
