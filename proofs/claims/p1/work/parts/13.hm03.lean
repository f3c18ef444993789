abbrev rm_Machine_setElements : Room := { frames := 3, cells := 1, slots := 6, locals := 46 }
noncomputable def jb_Machine_setElements_43 (fu : Nat) : Nat → Int32 → Int32 → Int64 → Int32 → Int32 → xk_St → Option (Unit × xk_St)
  | 0 => fun _ _ _ _ _ _ => none
  | n + 1 => fun b1 b2 b3 b5 b6 u =>
    xs_let (jb_Machine_setElements_43 fu  n) fun k43 =>
    if b3 ≤ (b6.toInt64) then ((xs_let (xs_I u 28 b2) fun u6 => some ((()), u6))) else ((xs_seq (fm_Types_member b1 (0 : Int32) u) fun a7 u8 => xs_seq (fm_Machine_setCell (b5 + b6) a7 (b2 + (2 : Int32)) u8) fun _ u9 => xs_let (b6 + (1 : Int32)) fun a10 => k43 b1 b2 b3 b5 a10 u9))
noncomputable def fm_Machine_setElements (fu : Nat) (x0 : Int32) (x1 : Int32) (x2 : Int64) (u : xk_St) : Option (Unit × xk_St) :=
  (xs_seq (fm_Machine_hasElements x1 x2 u) fun a1 u2 => if a1 = (0 : Int32) then ((xs_let (xs_I u2 28 x1) fun u3 => some ((()), u3))) else ((if x1 < 0 ∨ 18000 ≤ x1.toNatClampNeg then none else if (x1 + (1 : Int32)) < 0 ∨ 18000 ≤ (x1 + (1 : Int32)).toNatClampNeg then none else xs_seq (fm_Heap_cellOf ((u2.2.2.2 10 x1.toNatClampNeg).toInt32) ((u2.2.2.2 10 (x1 + (1 : Int32)).toNatClampNeg).toInt32) u2) fun a4 u5 => jb_Machine_setElements_43 fu fu x0 x1 x2 a4 (0 : Int32) u5)))
set_option maxHeartbeats 4000000 in
set_option maxRecDepth 100000 in
theorem wj_Machine_setElements_43 {p : Program} {l : Launch} {e : Env} {s : State} {m : MethodId} {args : Array Value} {below : List Frame} {meth : Method} {c : Code} {D : va_G} {ad : Nat → Nat} {ca : Nat → ClassId} {ads : List Nat} {fu : Nat} (htr : l.stackTraces = false) (C : xk_C D kx_cl (kx_ty ca) (kw_h ad ca) ads "ModuleHouse$Machine" prog_5_method_29_code 7 none p e s m args meth c) (hne : c.exceptionTable.isEmpty = true) {u' : xk_St} {r : Unit} : ∀ {n : Nat} {b1 : Int32} {b2 : Int32} {b3 : Int64} {b5 : Int32} {b6 : Int32} {u : xk_St} {H : Heap} {locs : List Loc} {ls : Array Slot} (h : jb_Machine_setElements_43 fu  n b1 b2 b3 b5 b6 u = some (r, u')) (hP : va_P D kx_cl (kw_h ad ca u) H) (hS : va_S (xk_A ads s.heap.size) s.heap H locs) (hl : lv_has ls 7 [(0, .ref (ad 60)), (1, .int b1), (2, .int b2), (3, .long b3), (5, .int b5), (6, .int b6)]), W p l e rm_Machine_setElements s m args below meth c H locs 0 0 (xk_MQ below (xk_Qc D kx_cl (kw_h ad ca) ads (xo_v (.inl r)) u') args s (xk_A ads s.heap.size)) (F0 m 43 ls []) := by
  intro n
  have hx := C.1.1
  have hb := C.1.2.1
  have hok := C.2.2.1
  induction n with
  | zero =>
    intro _ _ _ _ _ u H locs ls h
    have h : none = some (r, u') := h
    cases h
  | succ n ih =>
    intro b1 b2 b3 b5 b6 u H locs ls h hP hS hl
    unfold jb_Machine_setElements_43 at h
    obtain ⟨k43, ek43, h⟩ := xp_let h
    have hk43 : ∀ (c0 : Int32) (c1 : Int32) (c2 : Int64) (c3 : Int32) (c4 : Int32) (u : xk_St) (H : Heap) (locs : List Loc) (ls : Array Slot), k43 c0 c1 c2 c3 c4 u = some (r, u') → va_P D kx_cl (kw_h ad ca u) H → va_S (xk_A ads s.heap.size) s.heap H locs → lv_has ls 7 [(0, .ref (ad 60)), (1, .int c0), (2, .int c1), (3, .long c2), (5, .int c3), (6, .int c4)] → W p l e rm_Machine_setElements s m args below meth c H locs 0 0 (xk_MQ below (xk_Qc D kx_cl (kw_h ad ca) ads (xo_v (.inl r)) u') args s (xk_A ads s.heap.size)) (F0 m 43 ls []) := by
      intro c0 c1 c2 c3 c4 u H locs ls h hP hS hl
      subst ek43
      exact ih h hP hS hl
    clear ih ek43
    refine lv_iload hx hb dd_Machine_setElements_43 (lv_at hl 5 rfl) ?_
    refine lv_i2l hx hb dd_Machine_setElements_45 rfl ?_
    refine lv_lload_n hx hb dd_Machine_setElements_46 rfl (lv_at hl 3 rfl) ?_
    refine xr_lc_ge (tgt := 78) hx hb dd_Machine_setElements_47 dd_Machine_setElements_48 (by decide) (fun hc => ?_) (fun hc => ?_)
    · have h := xp_t hc h
      refine lv_aload_n hx hb dd_Machine_setElements_78 rfl (lv_at hl 0 rfl) ?_
      refine gf_h_Machine_60_values C hP dd_Machine_setElements_79 ?_
      refine lv_iload_n hx hb dd_Machine_setElements_82 rfl (lv_at hl 2 rfl) ?_
      refine pf_h_Machine_61_top C hP hS dd_Machine_setElements_83 (fun H locs hP hS => ?_)
      obtain ⟨u6, eu6, h⟩ := xp_let h
      rw [← eu6] at hP
      obtain ⟨rfl, rfl⟩ := xp_r h
      exact xr_vret C hP hS dd_Machine_setElements_86
    · have h := xp_f hc h
      refine lv_aload_n hx hb dd_Machine_setElements_51 rfl (lv_at hl 0 rfl) ?_
      refine lv_iload hx hb dd_Machine_setElements_52 (lv_at hl 4 rfl) ?_
      refine lv_iload hx hb dd_Machine_setElements_54 (lv_at hl 5 rfl) ?_
      refine lv_iadd hx hb dd_Machine_setElements_56 ?_
      refine lv_aload_n hx hb dd_Machine_setElements_57 rfl (lv_at hl 0 rfl) ?_
      refine gf_h_Machine_60_types C hP dd_Machine_setElements_58 ?_
      refine lv_iload_n hx hb dd_Machine_setElements_61 rfl (lv_at hl 1 rfl) ?_
      refine lv_iconst (v := 0) hx hb dd_Machine_setElements_62 (by decide) ?_
      obtain ⟨a7, u8, hq, h⟩ := xp_seq h
      refine xk_goesI (xr_V (As := [.int b1, .int (0 : Int32)]) (rest := [.int (b5 + b6), .ref (ad 60)]) C hP hS (ct_Types_member htr hok hq) kq_Machine_358 6 9 rfl rfl ⟨rfl, rfl, Nat.le_of_ble_eq_true rfl, Nat.le_of_ble_eq_true rfl⟩ ⟨Nat.le_of_ble_eq_true rfl, Nat.le_of_ble_eq_true rfl⟩ hl.1 rfl rfl (Nat.le_of_ble_eq_true rfl) dd_Machine_setElements_63) hS (fun H locs hP hS => ?_)
      clear hq
      refine lv_iload_n hx hb dd_Machine_setElements_66 rfl (lv_at hl 2 rfl) ?_
      refine lv_iconst (v := 2) hx hb dd_Machine_setElements_67 (by decide) ?_
      refine lv_iadd hx hb dd_Machine_setElements_68 ?_
      obtain ⟨rx, u9, hq, h⟩ := xp_seq h
      refine xk_goesV (xr_V (As := [.int (b5 + b6), .int a7, .int (b2 + (2 : Int32))]) (rest := []) C hP hS (ct_Machine_setCell htr hok hq) kq_Machine_361 60 4 rfl rfl ⟨rfl, rfl, Nat.le_of_ble_eq_true rfl, Nat.le_of_ble_eq_true rfl⟩ ⟨Nat.le_of_ble_eq_true rfl, Nat.le_of_ble_eq_true rfl⟩ hl.1 rfl rfl (Nat.le_of_ble_eq_true rfl) dd_Machine_setElements_69) hS (fun H locs hP hS => ?_)
      clear hq
      obtain ⟨a10, ea10, h⟩ := xp_let h
      refine lv_iinc (v := a10) (lv' := [(6, .int a10), (0, .ref (ad 60)), (1, .int b1), (2, .int b2), (3, .long b3), (5, .int b5)]) hx hb dd_Machine_setElements_72 hl (k := 5) rfl (by rw [ea10]; first | rfl | decide) (by decide) rfl (fun ls hl => ?_)
      refine lv_goto (tgt := 43) hx hb dd_Machine_setElements_75 (by decide) ?_
      exact hk43 b1 b2 b3 b5 a10 u9 _ _ _ h hP hS (lv_sub hl [1, 2, 3, 4, 5, 0] rfl)
set_option maxHeartbeats 4000000 in
set_option maxRecDepth 100000 in
theorem ct_Machine_setElements {l : Launch} {D : va_G} {ad : Nat → Nat} {ca : Nat → ClassId} {ads : List Nat} (htr : l.stackTraces = false) (hok : xk_ok (kw_h ad ca) ads) {fu : Nat} {x0 : Int32} {x1 : Int32} {x2 : Int64} {u u' : xk_St} {r : Unit} (h : fm_Machine_setElements fu x0 x1 x2 u = some (r, u')) :
    ∀ sz, xk_Met l ⟨"ModuleHouse$Machine", "setElements", "(IIJ)V"⟩ (Cond.code ⟨"ModuleHouse$Machine", "setElements", "(IIJ)V"⟩ prog_5_method_29_code 7 none :: xk_gd) rm_Machine_setElements (xk_Pc D kx_cl (kx_ty ca) (kw_h ad ca) ads xk_F sz [.ref (ad 60), .int x0, .int x1, .long x2] u) (xk_Qc D kx_cl (kw_h ad ca) ads (xo_v (.inl r)) u') (xk_A ads sz) := by
  unfold fm_Machine_setElements at h
  refine xk_con (by decide) htr hok (Nat.le_of_ble_eq_true rfl) (fun p e s m below meth c ls C hne hl hP => ?_)
  have hx := C.1.1
  have hb := C.1.2.1
  have hS : va_S (xk_A ads s.heap.size) s.heap s.heap [] := va_S.rf
  have hl : lv_has ls 7 [(0, .ref (ad 60)), (1, .int x0), (2, .int x1), (3, .long x2)] := hl
  refine lv_aload_n hx hb dd_Machine_setElements_0 rfl (lv_at hl 0 rfl) ?_
  refine lv_iload_n hx hb dd_Machine_setElements_1 rfl (lv_at hl 2 rfl) ?_
  refine lv_lload_n hx hb dd_Machine_setElements_2 rfl (lv_at hl 3 rfl) ?_
  obtain ⟨a1, u2, hq, h⟩ := xp_seq h
  refine xk_goesI (xr_V (As := [.int x1, .long x2]) (rest := []) C hP hS (ct_Machine_hasElements htr hok hq) kq_Machine_387 60 4 rfl rfl ⟨rfl, rfl, Nat.le_of_ble_eq_true rfl, Nat.le_of_ble_eq_true rfl⟩ ⟨Nat.le_of_ble_eq_true rfl, Nat.le_of_ble_eq_true rfl⟩ hl.1 rfl rfl (Nat.le_of_ble_eq_true rfl) dd_Machine_setElements_3) hS (fun H locs hP hS => ?_)
  clear hq
  refine lv_if_eq (tgt := 78) hx hb dd_Machine_setElements_6 (by decide) (fun hc => ?_) (fun hc => ?_)
  · have h := xp_t hc h
    refine lv_aload_n hx hb dd_Machine_setElements_78 rfl (lv_at hl 0 rfl) ?_
    refine gf_h_Machine_60_values C hP dd_Machine_setElements_79 ?_
    refine lv_iload_n hx hb dd_Machine_setElements_82 rfl (lv_at hl 2 rfl) ?_
    refine pf_h_Machine_61_top C hP hS dd_Machine_setElements_83 (fun H locs hP hS => ?_)
    obtain ⟨u3, eu3, h⟩ := xp_let h
    rw [← eu3] at hP
    obtain ⟨rfl, rfl⟩ := xp_r h
    exact xr_vret C hP hS dd_Machine_setElements_86
  · have h := xp_f hc h
    refine lv_aload_n hx hb dd_Machine_setElements_9 rfl (lv_at hl 0 rfl) ?_
    refine gf_h_Machine_60_heap C hP dd_Machine_setElements_10 ?_
    refine lv_aload_n hx hb dd_Machine_setElements_13 rfl (lv_at hl 0 rfl) ?_
    refine gf_h_Machine_60_values C hP dd_Machine_setElements_14 ?_
    refine gf_h_Machine_61_value C hP dd_Machine_setElements_17 ?_
    refine lv_iload_n hx hb dd_Machine_setElements_20 rfl (lv_at hl 2 rfl) ?_
    obtain ⟨hi, h⟩ := xp_g h
    refine al_h_62 C hP hi dd_Machine_setElements_21 ?_
    refine lv_l2i hx hb dd_Machine_setElements_22 rfl ?_
    refine lv_aload_n hx hb dd_Machine_setElements_23 rfl (lv_at hl 0 rfl) ?_
    refine gf_h_Machine_60_values C hP dd_Machine_setElements_24 ?_
    refine gf_h_Machine_61_value C hP dd_Machine_setElements_27 ?_
    refine lv_iload_n hx hb dd_Machine_setElements_30 rfl (lv_at hl 2 rfl) ?_
    refine lv_iconst (v := 1) hx hb dd_Machine_setElements_31 (by decide) ?_
    refine lv_iadd hx hb dd_Machine_setElements_32 ?_
    obtain ⟨hi, h⟩ := xp_g h
    refine al_h_62 C hP hi dd_Machine_setElements_33 ?_
    refine lv_l2i hx hb dd_Machine_setElements_34 rfl ?_
    obtain ⟨a4, u5, hq, h⟩ := xp_seq h
    refine xk_goesI (xr_V (As := [.int ((u2.2.2.2 10 x1.toNatClampNeg).toInt32), .int ((u2.2.2.2 10 (x1 + (1 : Int32)).toNatClampNeg).toInt32)]) (rest := []) C hP hS (ct_Heap_cellOf htr hok hq) kq_Machine_355 67 3 rfl rfl ⟨rfl, rfl, Nat.le_of_ble_eq_true rfl, Nat.le_of_ble_eq_true rfl⟩ ⟨Nat.le_of_ble_eq_true rfl, Nat.le_of_ble_eq_true rfl⟩ hl.1 rfl rfl (Nat.le_of_ble_eq_true rfl) dd_Machine_setElements_35) hS (fun H locs hP hS => ?_)
    clear hq
    refine lv_istore (lv' := [(5, .int a4), (0, .ref (ad 60)), (1, .int x0), (2, .int x1), (3, .long x2)]) hx hb dd_Machine_setElements_38 hl (by decide) rfl (fun ls hl => ?_)
    refine lv_iconst (v := 0) hx hb dd_Machine_setElements_40 (by decide) ?_
    refine lv_istore (lv' := [(6, .int (0 : Int32)), (5, .int a4), (0, .ref (ad 60)), (1, .int x0), (2, .int x1), (3, .long x2)]) hx hb dd_Machine_setElements_41 hl (by decide) rfl (fun ls hl => ?_)
    exact wj_Machine_setElements_43 htr C hne h hP hS (lv_sub hl [2, 3, 4, 5, 1, 0] rfl)
abbrev rm_Machine_doArray : Room := { frames := 11, cells := 1, slots := 6, locals := 221 }
noncomputable def jb_Machine_doArray_73 (fu : Nat) (s0 : Int32) (s1 : Int32) (u : xk_St) : Option (Unit × xk_St) :=
  (xs_seq (fm_Machine_makeArray fu s1 s0 u) fun _ u1 => some ((()), u1))
noncomputable def jb_Machine_doArray_60 (fu : Nat) (b1 : Int32) (b2 : Int32) (u : xk_St) : Option (Unit × xk_St) :=
  if b1 = (6 : Int32) then (jb_Machine_doArray_73 fu (1 : Int32) b2 u) else (jb_Machine_doArray_73 fu (0 : Int32) b2 u)
noncomputable def jb_Machine_doArray_202 (fu : Nat) (s0 : Int32) (s1 : Int32) (u : xk_St) : Option (Unit × xk_St) :=
  (xs_seq (fm_Machine_pushElement s1 s0 u) fun _ u3 => some ((()), u3))
noncomputable def jb_Machine_doArray_189 (fu : Nat) (b1 : Int32) (b2 : Int32) (u : xk_St) : Option (Unit × xk_St) :=
  if b1 = (12 : Int32) then (jb_Machine_doArray_202 fu (1 : Int32) b2 u) else (jb_Machine_doArray_202 fu (0 : Int32) b2 u)
noncomputable def jb_Machine_doArray_130 (fu : Nat) (u : xk_St) : Option (Unit × xk_St) :=
  some ((()), u)
noncomputable def fm_Machine_doArray (fu : Nat) (x0 : Int32) (x1 : Int32) (x2 : Int32) (u : xk_St) : Option (Unit × xk_St) :=
  if x0 = (6 : Int32) then (jb_Machine_doArray_60 fu x0 x1 u) else if x0 = (7 : Int32) then (jb_Machine_doArray_60 fu x0 x1 u) else if x0 = (8 : Int32) then ((xs_seq (fm_Machine_makeArrayOf fu x1 x2 u) fun _ u2 => some ((()), u2))) else if x0 = (9 : Int32) then (jb_Machine_doArray_189 fu x0 x1 u) else if x0 = (10 : Int32) then (jb_Machine_doArray_189 fu x0 x1 u) else if x0 = (11 : Int32) then (jb_Machine_doArray_189 fu x0 x1 u) else if x0 = (12 : Int32) then (jb_Machine_doArray_189 fu x0 x1 u) else if x0 = (13 : Int32) then (jb_Machine_doArray_189 fu x0 x1 u) else if x0 = (14 : Int32) then ((xs_seq (fm_Machine_setElements fu x1 ((u.1 28) - (3 : Int32)) (1 : Int64) u) fun _ u4 => some ((()), u4))) else if x0 = (15 : Int32) then ((xs_seq (fm_Values_pop__h61 u) fun a5 u6 => xs_let (a5.toInt32) fun a7 => if a7 = (0 : Int32) then ((xs_let (xs_I u6 27 (8 : Int32)) fun u9 => jb_Machine_doArray_130 fu u9)) else ((if a7 < 0 ∨ 2001 ≤ a7.toNatClampNeg then none else xs_seq (fm_Values_push__h61 ((u6.2.2.1 41 a7.toNatClampNeg).toInt64) u6) fun _ u8 => jb_Machine_doArray_130 fu u8)))) else if x0 = (16 : Int32) then ((if ((u.1 28) - (1 : Int32)) < 0 ∨ 18000 ≤ ((u.1 28) - (1 : Int32)).toNatClampNeg then none else xs_seq (fm_Machine_setElements fu x1 ((u.1 28) - (4 : Int32)) ((u.2.2.2 10 ((u.1 28) - (1 : Int32)).toNatClampNeg) &&& (4294967295 : Int64)) u) fun _ u10 => some ((()), u10))) else (jb_Machine_doArray_189 fu x0 x1 u)
set_option maxHeartbeats 4000000 in
set_option maxRecDepth 100000 in
theorem wj_Machine_doArray_73 {p : Program} {l : Launch} {e : Env} {s : State} {m : MethodId} {args : Array Value} {below : List Frame} {meth : Method} {c : Code} {D : va_G} {ad : Nat → Nat} {ca : Nat → ClassId} {ads : List Nat} {fu : Nat} (htr : l.stackTraces = false) (C : xk_C D kx_cl (kx_ty ca) (kw_h ad ca) ads "ModuleHouse$Machine" prog_5_method_25_code 5 none p e s m args meth c) (hne : c.exceptionTable.isEmpty = true) {u' : xk_St} {r : Unit} {s0 : Int32} {s1 : Int32} {u : xk_St} {H : Heap} {locs : List Loc} {ls : Array Slot} (h : jb_Machine_doArray_73 fu  s0 s1 u = some (r, u')) (hP : va_P D kx_cl (kw_h ad ca u) H) (hS : va_S (xk_A ads s.heap.size) s.heap H locs) (hl : lv_has ls 5 []) : W p l e rm_Machine_doArray s m args below meth c H locs 0 0 (xk_MQ below (xk_Qc D kx_cl (kw_h ad ca) ads (xo_v (.inl r)) u') args s (xk_A ads s.heap.size)) (F0 m 73 ls [.int s0, .int s1, .ref (ad 60)]) := by
  have hx := C.1.1
  have hb := C.1.2.1
  have hok := C.2.2.1
  unfold jb_Machine_doArray_73 at h
  obtain ⟨rx, u1, hq, h⟩ := xp_seq h
  refine xk_goesV (xr_V (As := [.int s1, .int s0]) (rest := []) C hP hS (ct_Machine_makeArray htr hok hq) kq_Machine_371 60 4 rfl rfl ⟨rfl, rfl, Nat.le_of_ble_eq_true rfl, Nat.le_of_ble_eq_true rfl⟩ ⟨Nat.le_of_ble_eq_true rfl, Nat.le_of_ble_eq_true rfl⟩ hl.1 rfl rfl (Nat.le_of_ble_eq_true rfl) dd_Machine_doArray_73) hS (fun H locs hP hS => ?_)
  clear hq
  refine lv_goto (tgt := 205) hx hb dd_Machine_doArray_76 (by decide) ?_
  obtain ⟨rfl, rfl⟩ := xp_r h
  exact xr_vret C hP hS dd_Machine_doArray_205
set_option maxHeartbeats 4000000 in
set_option maxRecDepth 100000 in
theorem wj_Machine_doArray_60 {p : Program} {l : Launch} {e : Env} {s : State} {m : MethodId} {args : Array Value} {below : List Frame} {meth : Method} {c : Code} {D : va_G} {ad : Nat → Nat} {ca : Nat → ClassId} {ads : List Nat} {fu : Nat} (htr : l.stackTraces = false) (C : xk_C D kx_cl (kx_ty ca) (kw_h ad ca) ads "ModuleHouse$Machine" prog_5_method_25_code 5 none p e s m args meth c) (hne : c.exceptionTable.isEmpty = true) {u' : xk_St} {r : Unit} {b1 : Int32} {b2 : Int32} {u : xk_St} {H : Heap} {locs : List Loc} {ls : Array Slot} (h : jb_Machine_doArray_60 fu  b1 b2 u = some (r, u')) (hP : va_P D kx_cl (kw_h ad ca u) H) (hS : va_S (xk_A ads s.heap.size) s.heap H locs) (hl : lv_has ls 5 [(0, .ref (ad 60)), (1, .int b1), (2, .int b2)]) : W p l e rm_Machine_doArray s m args below meth c H locs 0 0 (xk_MQ below (xk_Qc D kx_cl (kw_h ad ca) ads (xo_v (.inl r)) u') args s (xk_A ads s.heap.size)) (F0 m 60 ls []) := by
  have hx := C.1.1
  have hb := C.1.2.1
  have hok := C.2.2.1
  unfold jb_Machine_doArray_60 at h
  refine lv_aload_n hx hb dd_Machine_doArray_60 rfl (lv_at hl 0 rfl) ?_
  refine lv_iload_n hx hb dd_Machine_doArray_61 rfl (lv_at hl 2 rfl) ?_
  refine lv_iload_n hx hb dd_Machine_doArray_62 rfl (lv_at hl 1 rfl) ?_
  refine lv_bipush (v := 6) hx hb dd_Machine_doArray_63 (by decide) ?_
  refine lv_icmp_ne (tgt := 72) hx hb dd_Machine_doArray_65 (by decide) (fun hc => ?_) (fun hc => ?_)
  · have h := xp_f hc h
    refine lv_iconst (v := 0) hx hb dd_Machine_doArray_72 (by decide) ?_
    exact wj_Machine_doArray_73 htr C hne h hP hS (lv_sub hl [] rfl)
  · have h := xp_t hc h
    refine lv_iconst (v := 1) hx hb dd_Machine_doArray_68 (by decide) ?_
    refine lv_goto (tgt := 73) hx hb dd_Machine_doArray_69 (by decide) ?_
    exact wj_Machine_doArray_73 htr C hne h hP hS (lv_sub hl [] rfl)
set_option maxHeartbeats 4000000 in
set_option maxRecDepth 100000 in
theorem wj_Machine_doArray_202 {p : Program} {l : Launch} {e : Env} {s : State} {m : MethodId} {args : Array Value} {below : List Frame} {meth : Method} {c : Code} {D : va_G} {ad : Nat → Nat} {ca : Nat → ClassId} {ads : List Nat} {fu : Nat} (htr : l.stackTraces = false) (C : xk_C D kx_cl (kx_ty ca) (kw_h ad ca) ads "ModuleHouse$Machine" prog_5_method_25_code 5 none p e s m args meth c) (hne : c.exceptionTable.isEmpty = true) {u' : xk_St} {r : Unit} {s0 : Int32} {s1 : Int32} {u : xk_St} {H : Heap} {locs : List Loc} {ls : Array Slot} (h : jb_Machine_doArray_202 fu  s0 s1 u = some (r, u')) (hP : va_P D kx_cl (kw_h ad ca u) H) (hS : va_S (xk_A ads s.heap.size) s.heap H locs) (hl : lv_has ls 5 []) : W p l e rm_Machine_doArray s m args below meth c H locs 0 0 (xk_MQ below (xk_Qc D kx_cl (kw_h ad ca) ads (xo_v (.inl r)) u') args s (xk_A ads s.heap.size)) (F0 m 202 ls [.int s0, .int s1, .ref (ad 60)]) := by
  have hx := C.1.1
  have hb := C.1.2.1
  have hok := C.2.2.1
  unfold jb_Machine_doArray_202 at h
  obtain ⟨rx, u3, hq, h⟩ := xp_seq h
  refine xk_goesV (xr_V (As := [.int s1, .int s0]) (rest := []) C hP hS (ct_Machine_pushElement htr hok hq) kq_Machine_384 60 4 rfl rfl ⟨rfl, rfl, Nat.le_of_ble_eq_true rfl, Nat.le_of_ble_eq_true rfl⟩ ⟨Nat.le_of_ble_eq_true rfl, Nat.le_of_ble_eq_true rfl⟩ hl.1 rfl rfl (Nat.le_of_ble_eq_true rfl) dd_Machine_doArray_202) hS (fun H locs hP hS => ?_)
  clear hq
  obtain ⟨rfl, rfl⟩ := xp_r h
  exact xr_vret C hP hS dd_Machine_doArray_205
set_option maxHeartbeats 4000000 in
set_option maxRecDepth 100000 in
theorem wj_Machine_doArray_189 {p : Program} {l : Launch} {e : Env} {s : State} {m : MethodId} {args : Array Value} {below : List Frame} {meth : Method} {c : Code} {D : va_G} {ad : Nat → Nat} {ca : Nat → ClassId} {ads : List Nat} {fu : Nat} (htr : l.stackTraces = false) (C : xk_C D kx_cl (kx_ty ca) (kw_h ad ca) ads "ModuleHouse$Machine" prog_5_method_25_code 5 none p e s m args meth c) (hne : c.exceptionTable.isEmpty = true) {u' : xk_St} {r : Unit} {b1 : Int32} {b2 : Int32} {u : xk_St} {H : Heap} {locs : List Loc} {ls : Array Slot} (h : jb_Machine_doArray_189 fu  b1 b2 u = some (r, u')) (hP : va_P D kx_cl (kw_h ad ca u) H) (hS : va_S (xk_A ads s.heap.size) s.heap H locs) (hl : lv_has ls 5 [(0, .ref (ad 60)), (1, .int b1), (2, .int b2)]) : W p l e rm_Machine_doArray s m args below meth c H locs 0 0 (xk_MQ below (xk_Qc D kx_cl (kw_h ad ca) ads (xo_v (.inl r)) u') args s (xk_A ads s.heap.size)) (F0 m 189 ls []) := by
  have hx := C.1.1
  have hb := C.1.2.1
  have hok := C.2.2.1
  unfold jb_Machine_doArray_189 at h
  refine lv_aload_n hx hb dd_Machine_doArray_189 rfl (lv_at hl 0 rfl) ?_
  refine lv_iload_n hx hb dd_Machine_doArray_190 rfl (lv_at hl 2 rfl) ?_
  refine lv_iload_n hx hb dd_Machine_doArray_191 rfl (lv_at hl 1 rfl) ?_
  refine lv_bipush (v := 12) hx hb dd_Machine_doArray_192 (by decide) ?_
  refine lv_icmp_ne (tgt := 201) hx hb dd_Machine_doArray_194 (by decide) (fun hc => ?_) (fun hc => ?_)
  · have h := xp_f hc h
    refine lv_iconst (v := 0) hx hb dd_Machine_doArray_201 (by decide) ?_
    exact wj_Machine_doArray_202 htr C hne h hP hS (lv_sub hl [] rfl)
  · have h := xp_t hc h
    refine lv_iconst (v := 1) hx hb dd_Machine_doArray_197 (by decide) ?_
    refine lv_goto (tgt := 202) hx hb dd_Machine_doArray_198 (by decide) ?_
    exact wj_Machine_doArray_202 htr C hne h hP hS (lv_sub hl [] rfl)
set_option maxHeartbeats 4000000 in
set_option maxRecDepth 100000 in
theorem wj_Machine_doArray_130 {p : Program} {l : Launch} {e : Env} {s : State} {m : MethodId} {args : Array Value} {below : List Frame} {meth : Method} {c : Code} {D : va_G} {ad : Nat → Nat} {ca : Nat → ClassId} {ads : List Nat} {fu : Nat} (htr : l.stackTraces = false) (C : xk_C D kx_cl (kx_ty ca) (kw_h ad ca) ads "ModuleHouse$Machine" prog_5_method_25_code 5 none p e s m args meth c) (hne : c.exceptionTable.isEmpty = true) {u' : xk_St} {r : Unit} {u : xk_St} {H : Heap} {locs : List Loc} {ls : Array Slot} (h : jb_Machine_doArray_130 fu   u = some (r, u')) (hP : va_P D kx_cl (kw_h ad ca u) H) (hS : va_S (xk_A ads s.heap.size) s.heap H locs) (hl : lv_has ls 5 []) : W p l e rm_Machine_doArray s m args below meth c H locs 0 0 (xk_MQ below (xk_Qc D kx_cl (kw_h ad ca) ads (xo_v (.inl r)) u') args s (xk_A ads s.heap.size)) (F0 m 130 ls []) := by
  have hx := C.1.1
  have hb := C.1.2.1
  have hok := C.2.2.1
  unfold jb_Machine_doArray_130 at h
  refine lv_goto (tgt := 205) hx hb dd_Machine_doArray_130 (by decide) ?_
  obtain ⟨rfl, rfl⟩ := xp_r h
  exact xr_vret C hP hS dd_Machine_doArray_205
set_option maxHeartbeats 4000000 in
set_option maxRecDepth 100000 in
theorem ct_Machine_doArray {l : Launch} {D : va_G} {ad : Nat → Nat} {ca : Nat → ClassId} {ads : List Nat} (htr : l.stackTraces = false) (hok : xk_ok (kw_h ad ca) ads) {fu : Nat} {x0 : Int32} {x1 : Int32} {x2 : Int32} {u u' : xk_St} {r : Unit} (h : fm_Machine_doArray fu x0 x1 x2 u = some (r, u')) :
    ∀ sz, xk_Met l ⟨"ModuleHouse$Machine", "doArray", "(III)V"⟩ (Cond.code ⟨"ModuleHouse$Machine", "doArray", "(III)V"⟩ prog_5_method_25_code 5 none :: xk_gd) rm_Machine_doArray (xk_Pc D kx_cl (kx_ty ca) (kw_h ad ca) ads xk_F sz [.ref (ad 60), .int x0, .int x1, .int x2] u) (xk_Qc D kx_cl (kw_h ad ca) ads (xo_v (.inl r)) u') (xk_A ads sz) := by
  unfold fm_Machine_doArray at h
  refine xk_con (by decide) htr hok (Nat.le_of_ble_eq_true rfl) (fun p e s m below meth c ls C hne hl hP => ?_)
  have hx := C.1.1
  have hb := C.1.2.1
  have hS : va_S (xk_A ads s.heap.size) s.heap s.heap [] := va_S.rf
  have hl : lv_has ls 5 [(0, .ref (ad 60)), (1, .int x0), (2, .int x1), (3, .int x2)] := hl
  refine lv_iload_n hx hb dd_Machine_doArray_0 rfl (lv_at hl 1 rfl) ?_
  by_cases hc0 : x0 = (6 : Int32)
  · have h := xp_t hc0 h
    refine lv_tableIn (off := 59) (tgt := 60) hx hb dd_Machine_doArray_1 (by rw [hc0]; decide) (by rw [hc0]; decide) (by rw [hc0]; rfl) (by decide) ?_
    exact wj_Machine_doArray_60 htr C hne h hP hS (lv_sub hl [0, 1, 2] rfl)
  have h := xp_f hc0 h
  by_cases hc1 : x0 = (7 : Int32)
  · have h := xp_t hc1 h
    refine lv_tableIn (off := 59) (tgt := 60) hx hb dd_Machine_doArray_1 (by rw [hc1]; decide) (by rw [hc1]; decide) (by rw [hc1]; rfl) (by decide) ?_
    exact wj_Machine_doArray_60 htr C hne h hP hS (lv_sub hl [0, 1, 2] rfl)
  have h := xp_f hc1 h
  by_cases hc2 : x0 = (8 : Int32)
  · have h := xp_t hc2 h
    refine lv_tableIn (off := 78) (tgt := 79) hx hb dd_Machine_doArray_1 (by rw [hc2]; decide) (by rw [hc2]; decide) (by rw [hc2]; rfl) (by decide) ?_
    refine lv_aload_n hx hb dd_Machine_doArray_79 rfl (lv_at hl 0 rfl) ?_
    refine lv_iload_n hx hb dd_Machine_doArray_80 rfl (lv_at hl 2 rfl) ?_
    refine lv_iload_n hx hb dd_Machine_doArray_81 rfl (lv_at hl 3 rfl) ?_
    obtain ⟨rx, u2, hq, h⟩ := xp_seq h
    refine xk_goesV (xr_V (As := [.int x1, .int x2]) (rest := []) C hP hS (ct_Machine_makeArrayOf htr hok hq) kq_Machine_375 60 4 rfl rfl ⟨rfl, rfl, Nat.le_of_ble_eq_true rfl, Nat.le_of_ble_eq_true rfl⟩ ⟨Nat.le_of_ble_eq_true rfl, Nat.le_of_ble_eq_true rfl⟩ hl.1 rfl rfl (Nat.le_of_ble_eq_true rfl) dd_Machine_doArray_82) hS (fun H locs hP hS => ?_)
    clear hq
    refine lv_goto (tgt := 205) hx hb dd_Machine_doArray_85 (by decide) ?_
    obtain ⟨rfl, rfl⟩ := xp_r h
    exact xr_vret C hP hS dd_Machine_doArray_205
  have h := xp_f hc2 h
  by_cases hc3 : x0 = (9 : Int32)
  · have h := xp_t hc3 h
    refine lv_tableIn (off := 188) (tgt := 189) hx hb dd_Machine_doArray_1 (by rw [hc3]; decide) (by rw [hc3]; decide) (by rw [hc3]; rfl) (by decide) ?_
    exact wj_Machine_doArray_189 htr C hne h hP hS (lv_sub hl [0, 1, 2] rfl)
  have h := xp_f hc3 h
  by_cases hc4 : x0 = (10 : Int32)
  · have h := xp_t hc4 h
    refine lv_tableIn (off := 188) (tgt := 189) hx hb dd_Machine_doArray_1 (by rw [hc4]; decide) (by rw [hc4]; decide) (by rw [hc4]; rfl) (by decide) ?_
    exact wj_Machine_doArray_189 htr C hne h hP hS (lv_sub hl [0, 1, 2] rfl)
  have h := xp_f hc4 h
  by_cases hc5 : x0 = (11 : Int32)
  · have h := xp_t hc5 h
    refine lv_tableIn (off := 188) (tgt := 189) hx hb dd_Machine_doArray_1 (by rw [hc5]; decide) (by rw [hc5]; decide) (by rw [hc5]; rfl) (by decide) ?_
    exact wj_Machine_doArray_189 htr C hne h hP hS (lv_sub hl [0, 1, 2] rfl)
  have h := xp_f hc5 h
  by_cases hc6 : x0 = (12 : Int32)
  · have h := xp_t hc6 h
    refine lv_tableIn (off := 188) (tgt := 189) hx hb dd_Machine_doArray_1 (by rw [hc6]; decide) (by rw [hc6]; decide) (by rw [hc6]; rfl) (by decide) ?_
    exact wj_Machine_doArray_189 htr C hne h hP hS (lv_sub hl [0, 1, 2] rfl)
  have h := xp_f hc6 h
  by_cases hc7 : x0 = (13 : Int32)
  · have h := xp_t hc7 h
    refine lv_tableIn (off := 188) (tgt := 189) hx hb dd_Machine_doArray_1 (by rw [hc7]; decide) (by rw [hc7]; decide) (by rw [hc7]; rfl) (by decide) ?_
    exact wj_Machine_doArray_189 htr C hne h hP hS (lv_sub hl [0, 1, 2] rfl)
  have h := xp_f hc7 h
  by_cases hc8 : x0 = (14 : Int32)
  · have h := xp_t hc8 h
    refine lv_tableIn (off := 170) (tgt := 171) hx hb dd_Machine_doArray_1 (by rw [hc8]; decide) (by rw [hc8]; decide) (by rw [hc8]; rfl) (by decide) ?_
    refine lv_aload_n hx hb dd_Machine_doArray_171 rfl (lv_at hl 0 rfl) ?_
    refine lv_iload_n hx hb dd_Machine_doArray_172 rfl (lv_at hl 2 rfl) ?_
    refine lv_aload_n hx hb dd_Machine_doArray_173 rfl (lv_at hl 0 rfl) ?_
    refine gf_h_Machine_60_values C hP dd_Machine_doArray_174 ?_
    refine gf_h_Machine_61_top C hP dd_Machine_doArray_177 ?_
    refine lv_iconst (v := 3) hx hb dd_Machine_doArray_180 (by decide) ?_
    refine lv_isub hx hb dd_Machine_doArray_181 ?_
    refine lv_lconst (v := 1) hx hb dd_Machine_doArray_182 (by decide) ?_
    obtain ⟨rx, u4, hq, h⟩ := xp_seq h
    refine xk_goesV (xr_V (As := [.int x1, .int ((u.1 28) - (3 : Int32)), .long (1 : Int64)]) (rest := []) C hP hS (ct_Machine_setElements htr hok hq) kq_Machine_381 60 4 rfl rfl ⟨rfl, rfl, Nat.le_of_ble_eq_true rfl, Nat.le_of_ble_eq_true rfl⟩ ⟨Nat.le_of_ble_eq_true rfl, Nat.le_of_ble_eq_true rfl⟩ hl.1 rfl rfl (Nat.le_of_ble_eq_true rfl) dd_Machine_doArray_183) hS (fun H locs hP hS => ?_)
    clear hq
    refine lv_goto (tgt := 205) hx hb dd_Machine_doArray_186 (by decide) ?_
    obtain ⟨rfl, rfl⟩ := xp_r h
    exact xr_vret C hP hS dd_Machine_doArray_205
  have h := xp_f hc8 h
  by_cases hc9 : x0 = (15 : Int32)
  · have h := xp_t hc9 h
    refine lv_tableIn (off := 87) (tgt := 88) hx hb dd_Machine_doArray_1 (by rw [hc9]; decide) (by rw [hc9]; decide) (by rw [hc9]; rfl) (by decide) ?_
    refine lv_aload_n hx hb dd_Machine_doArray_88 rfl (lv_at hl 0 rfl) ?_
    refine gf_h_Machine_60_values C hP dd_Machine_doArray_89 ?_
    obtain ⟨a5, u6, hq, h⟩ := xp_seq h
    refine xk_goesL (xr_V (As := []) (rest := []) C hP hS (ct_Values_pop__h61 htr hok hq) kq_Machine_245 61 10 rfl rfl ⟨rfl, rfl, Nat.le_of_ble_eq_true rfl, Nat.le_of_ble_eq_true rfl⟩ ⟨Nat.le_of_ble_eq_true rfl, Nat.le_of_ble_eq_true rfl⟩ hl.1 rfl rfl (Nat.le_of_ble_eq_true rfl) dd_Machine_doArray_92) hS (fun H locs hP hS => ?_)
    clear hq
    refine lv_l2i hx hb dd_Machine_doArray_95 rfl ?_
    obtain ⟨a7, ea7, h⟩ := xp_let h
    refine xr_nami ea7 ?_
    refine lv_istore (lv' := [(4, .int a7), (0, .ref (ad 60)), (1, .int x0), (2, .int x1), (3, .int x2)]) hx hb dd_Machine_doArray_96 hl (by decide) rfl (fun ls hl => ?_)
    refine lv_iload hx hb dd_Machine_doArray_98 (lv_at hl 0 rfl) ?_
    refine lv_if_ne (tgt := 112) hx hb dd_Machine_doArray_100 (by decide) (fun hc => ?_) (fun hc => ?_)
    · have h := xp_f hc h
      refine lv_aload_n hx hb dd_Machine_doArray_112 rfl (lv_at hl 1 rfl) ?_
      refine gf_h_Machine_60_values C hP dd_Machine_doArray_113 ?_
      refine lv_aload_n hx hb dd_Machine_doArray_116 rfl (lv_at hl 1 rfl) ?_
      refine gf_h_Machine_60_heap C hP dd_Machine_doArray_117 ?_
      refine gf_h_Machine_67_size C hP dd_Machine_doArray_120 ?_
      refine lv_iload hx hb dd_Machine_doArray_123 (lv_at hl 0 rfl) ?_
      obtain ⟨hi, h⟩ := xp_g h
      refine al_h_72 C hP hi dd_Machine_doArray_125 ?_
      refine lv_i2l hx hb dd_Machine_doArray_126 rfl ?_
      obtain ⟨rx, u8, hq, h⟩ := xp_seq h
      refine xk_goesV (xr_V (As := [.long ((u6.2.2.1 41 a7.toNatClampNeg).toInt64)]) (rest := []) C hP hS (ct_Values_push__h61 htr hok hq) kq_Machine_99 61 10 rfl rfl ⟨rfl, rfl, Nat.le_of_ble_eq_true rfl, Nat.le_of_ble_eq_true rfl⟩ ⟨Nat.le_of_ble_eq_true rfl, Nat.le_of_ble_eq_true rfl⟩ hl.1 rfl rfl (Nat.le_of_ble_eq_true rfl) dd_Machine_doArray_127) hS (fun H locs hP hS => ?_)
      clear hq
      exact wj_Machine_doArray_130 htr C hne h hP hS (lv_sub hl [] rfl)
    · have h := xp_t hc h
      refine lv_aload_n hx hb dd_Machine_doArray_103 rfl (lv_at hl 1 rfl) ?_
      refine lv_bipush (v := 8) hx hb dd_Machine_doArray_104 (by decide) ?_
      refine pf_h_Machine_60_trap C hP hS dd_Machine_doArray_106 (fun H locs hP hS => ?_)
      obtain ⟨u9, eu9, h⟩ := xp_let h
      rw [← eu9] at hP
      refine lv_goto (tgt := 130) hx hb dd_Machine_doArray_109 (by decide) ?_
      exact wj_Machine_doArray_130 htr C hne h hP hS (lv_sub hl [] rfl)
  have h := xp_f hc9 h
  by_cases hc10 : x0 = (16 : Int32)
  · have h := xp_t hc10 h
    refine lv_tableIn (off := 132) (tgt := 133) hx hb dd_Machine_doArray_1 (by rw [hc10]; decide) (by rw [hc10]; decide) (by rw [hc10]; rfl) (by decide) ?_
    refine lv_aload_n hx hb dd_Machine_doArray_133 rfl (lv_at hl 0 rfl) ?_
    refine lv_iload_n hx hb dd_Machine_doArray_134 rfl (lv_at hl 2 rfl) ?_
    refine lv_aload_n hx hb dd_Machine_doArray_135 rfl (lv_at hl 0 rfl) ?_
    refine gf_h_Machine_60_values C hP dd_Machine_doArray_136 ?_
    refine gf_h_Machine_61_top C hP dd_Machine_doArray_139 ?_
    refine lv_iconst (v := 4) hx hb dd_Machine_doArray_142 (by decide) ?_
    refine lv_isub hx hb dd_Machine_doArray_143 ?_
    refine lv_aload_n hx hb dd_Machine_doArray_144 rfl (lv_at hl 0 rfl) ?_
    refine gf_h_Machine_60_values C hP dd_Machine_doArray_145 ?_
    refine gf_h_Machine_61_value C hP dd_Machine_doArray_148 ?_
    refine lv_aload_n hx hb dd_Machine_doArray_151 rfl (lv_at hl 0 rfl) ?_
    refine gf_h_Machine_60_values C hP dd_Machine_doArray_152 ?_
    refine gf_h_Machine_61_top C hP dd_Machine_doArray_155 ?_
    refine lv_iconst (v := 1) hx hb dd_Machine_doArray_158 (by decide) ?_
    refine lv_isub hx hb dd_Machine_doArray_159 ?_
    obtain ⟨hi, h⟩ := xp_g h
    refine al_h_62 C hP hi dd_Machine_doArray_160 ?_
    refine lv_ldc2 (v := 4294967295) hx hb C.1.2.2.2.1 (C.1.2.2.2.2 _ (xk_c6 (w := Jvm.Cond.constantLong "ModuleHouse$Machine" 255 4294967295) 215 rfl rfl)) dd_Machine_doArray_161 ?_
    refine lv_land hx hb dd_Machine_doArray_164 ?_
    obtain ⟨rx, u10, hq, h⟩ := xp_seq h
    refine xk_goesV (xr_V (As := [.int x1, .int ((u.1 28) - (4 : Int32)), .long ((u.2.2.2 10 ((u.1 28) - (1 : Int32)).toNatClampNeg) &&& (4294967295 : Int64))]) (rest := []) C hP hS (ct_Machine_setElements htr hok hq) kq_Machine_381 60 4 rfl rfl ⟨rfl, rfl, Nat.le_of_ble_eq_true rfl, Nat.le_of_ble_eq_true rfl⟩ ⟨Nat.le_of_ble_eq_true rfl, Nat.le_of_ble_eq_true rfl⟩ hl.1 rfl rfl (Nat.le_of_ble_eq_true rfl) dd_Machine_doArray_165) hS (fun H locs hP hS => ?_)
    clear hq
    refine lv_goto (tgt := 205) hx hb dd_Machine_doArray_168 (by decide) ?_
    obtain ⟨rfl, rfl⟩ := xp_r h
    exact xr_vret C hP hS dd_Machine_doArray_205
  have h := xp_f hc10 h
  have hd0 := lv_neT hc0 (a := 6) (by decide)
  have hd1 := lv_neT hc1 (a := 7) (by decide)
  have hd2 := lv_neT hc2 (a := 8) (by decide)
  have hd3 := lv_neT hc3 (a := 9) (by decide)
  have hd4 := lv_neT hc4 (a := 10) (by decide)
  have hd5 := lv_neT hc5 (a := 11) (by decide)
  have hd6 := lv_neT hc6 (a := 12) (by decide)
  have hd7 := lv_neT hc7 (a := 13) (by decide)
  have hd8 := lv_neT hc8 (a := 14) (by decide)
  have hd9 := lv_neT hc9 (a := 15) (by decide)
  have hd10 := lv_neT hc10 (a := 16) (by decide)
  refine lv_tableOut (tgt := 189) hx hb dd_Machine_doArray_1 (by omega) (by decide) ?_
  exact wj_Machine_doArray_189 htr C hne h hP hS (lv_sub hl [0, 1, 2] rfl)
abbrev rm_Machine_makeStructure : Room := { frames := 10, cells := 1, slots := 6, locals := 195 }
noncomputable def jb_Machine_makeStructure_107 (fu : Nat) (b4 : Int32) (u : xk_St) : Option (Unit × xk_St) :=
  (xs_seq (fm_Values_pushReference__h61 (b4.toInt64) u) fun _ u3 => some ((()), u3))
noncomputable def jb_Machine_makeStructure_60 (fu : Nat) : Nat → Int32 → Int32 → Int32 → Int32 → xk_St → Option (Unit × xk_St)
  | 0 => fun _ _ _ _ _ => none
  | n + 1 => fun b1 b2 b4 b5 u =>
    xs_let (jb_Machine_makeStructure_60 fu  n) fun k60 =>
    if b2 ≤ b5 then (jb_Machine_makeStructure_107 fu b4 u) else ((xs_seq (fm_Heap_cellOf b4 b5 u) fun a5 u6 => xs_seq (fm_Types_member b1 b5 u6) fun a7 u8 => xs_seq (fm_Machine_setCell a5 a7 ((u8.1 28) + b5) u8) fun _ u9 => xs_let (b5 + (1 : Int32)) fun a10 => k60 b1 b2 b4 a10 u9))
noncomputable def fm_Machine_makeStructure (fu : Nat) (x0 : Int32) (x1 : Int32) (x2 : Int32) (u : xk_St) : Option (Unit × xk_St) :=
  (if x0 < 0 ∨ 65 ≤ x0.toNatClampNeg then none else xs_seq (fm_Heap_make fu (u.2.2.1 5 x0.toNatClampNeg) (x1.toInt64) u) fun a1 u2 => if a1 = (0 : Int32) then ((xs_let (xs_I u2 27 (11 : Int32)) fun u11 => some ((()), u11))) else (if x2 = (0 : Int32) then (jb_Machine_makeStructure_107 fu a1 u2) else ((xs_let (xs_I u2 28 ((u2.1 28) - x1)) fun u4 => jb_Machine_makeStructure_60 fu fu x0 x1 a1 (0 : Int32) u4))))
set_option maxHeartbeats 4000000 in
set_option maxRecDepth 100000 in
theorem wj_Machine_makeStructure_107 {p : Program} {l : Launch} {e : Env} {s : State} {m : MethodId} {args : Array Value} {below : List Frame} {meth : Method} {c : Code} {D : va_G} {ad : Nat → Nat} {ca : Nat → ClassId} {ads : List Nat} {fu : Nat} (htr : l.stackTraces = false) (C : xk_C D kx_cl (kx_ty ca) (kw_h ad ca) ads "ModuleHouse$Machine" prog_5_method_24_code 6 none p e s m args meth c) (hne : c.exceptionTable.isEmpty = true) {u' : xk_St} {r : Unit} {b4 : Int32} {u : xk_St} {H : Heap} {locs : List Loc} {ls : Array Slot} (h : jb_Machine_makeStructure_107 fu  b4 u = some (r, u')) (hP : va_P D kx_cl (kw_h ad ca u) H) (hS : va_S (xk_A ads s.heap.size) s.heap H locs) (hl : lv_has ls 6 [(0, .ref (ad 60)), (4, .int b4)]) : W p l e rm_Machine_makeStructure s m args below meth c H locs 0 0 (xk_MQ below (xk_Qc D kx_cl (kw_h ad ca) ads (xo_v (.inl r)) u') args s (xk_A ads s.heap.size)) (F0 m 107 ls []) := by
  have hx := C.1.1
  have hb := C.1.2.1
  have hok := C.2.2.1
  unfold jb_Machine_makeStructure_107 at h
  refine lv_aload_n hx hb dd_Machine_makeStructure_107 rfl (lv_at hl 0 rfl) ?_
  refine gf_h_Machine_60_values C hP dd_Machine_makeStructure_108 ?_
  refine lv_iload hx hb dd_Machine_makeStructure_111 (lv_at hl 1 rfl) ?_
  refine lv_i2l hx hb dd_Machine_makeStructure_113 rfl ?_
  obtain ⟨rx, u3, hq, h⟩ := xp_seq h
  refine xk_goesV (xr_V (As := [.long (b4.toInt64)]) (rest := []) C hP hS (ct_Values_pushReference__h61 htr hok hq) kq_Machine_91 61 10 rfl rfl ⟨rfl, rfl, Nat.le_of_ble_eq_true rfl, Nat.le_of_ble_eq_true rfl⟩ ⟨Nat.le_of_ble_eq_true rfl, Nat.le_of_ble_eq_true rfl⟩ hl.1 rfl rfl (Nat.le_of_ble_eq_true rfl) dd_Machine_makeStructure_114) hS (fun H locs hP hS => ?_)
  clear hq
  obtain ⟨rfl, rfl⟩ := xp_r h
  exact xr_vret C hP hS dd_Machine_makeStructure_117
set_option maxHeartbeats 4000000 in
set_option maxRecDepth 100000 in
theorem wj_Machine_makeStructure_60 {p : Program} {l : Launch} {e : Env} {s : State} {m : MethodId} {args : Array Value} {below : List Frame} {meth : Method} {c : Code} {D : va_G} {ad : Nat → Nat} {ca : Nat → ClassId} {ads : List Nat} {fu : Nat} (htr : l.stackTraces = false) (C : xk_C D kx_cl (kx_ty ca) (kw_h ad ca) ads "ModuleHouse$Machine" prog_5_method_24_code 6 none p e s m args meth c) (hne : c.exceptionTable.isEmpty = true) {u' : xk_St} {r : Unit} : ∀ {n : Nat} {b1 : Int32} {b2 : Int32} {b4 : Int32} {b5 : Int32} {u : xk_St} {H : Heap} {locs : List Loc} {ls : Array Slot} (h : jb_Machine_makeStructure_60 fu  n b1 b2 b4 b5 u = some (r, u')) (hP : va_P D kx_cl (kw_h ad ca u) H) (hS : va_S (xk_A ads s.heap.size) s.heap H locs) (hl : lv_has ls 6 [(0, .ref (ad 60)), (1, .int b1), (2, .int b2), (4, .int b4), (5, .int b5)]), W p l e rm_Machine_makeStructure s m args below meth c H locs 0 0 (xk_MQ below (xk_Qc D kx_cl (kw_h ad ca) ads (xo_v (.inl r)) u') args s (xk_A ads s.heap.size)) (F0 m 60 ls []) := by
  intro n
  have hx := C.1.1
  have hb := C.1.2.1
  have hok := C.2.2.1
  induction n with
  | zero =>
    intro _ _ _ _ u H locs ls h
    have h : none = some (r, u') := h
    cases h
  | succ n ih =>
    intro b1 b2 b4 b5 u H locs ls h hP hS hl
    unfold jb_Machine_makeStructure_60 at h
    obtain ⟨k60, ek60, h⟩ := xp_let h
    have hk60 : ∀ (c0 : Int32) (c1 : Int32) (c2 : Int32) (c3 : Int32) (u : xk_St) (H : Heap) (locs : List Loc) (ls : Array Slot), k60 c0 c1 c2 c3 u = some (r, u') → va_P D kx_cl (kw_h ad ca u) H → va_S (xk_A ads s.heap.size) s.heap H locs → lv_has ls 6 [(0, .ref (ad 60)), (1, .int c0), (2, .int c1), (4, .int c2), (5, .int c3)] → W p l e rm_Machine_makeStructure s m args below meth c H locs 0 0 (xk_MQ below (xk_Qc D kx_cl (kw_h ad ca) ads (xo_v (.inl r)) u') args s (xk_A ads s.heap.size)) (F0 m 60 ls []) := by
      intro c0 c1 c2 c3 u H locs ls h hP hS hl
      subst ek60
      exact ih h hP hS hl
    clear ih ek60
    refine lv_iload hx hb dd_Machine_makeStructure_60 (lv_at hl 4 rfl) ?_
    refine lv_iload_n hx hb dd_Machine_makeStructure_62 rfl (lv_at hl 2 rfl) ?_
    refine lv_icmp_ge (tgt := 107) hx hb dd_Machine_makeStructure_63 (by decide) (fun hc => ?_) (fun hc => ?_)
    · have h := xp_t hc h
      exact wj_Machine_makeStructure_107 htr C hne h hP hS (lv_sub hl [0, 3] rfl)
    · have h := xp_f hc h
      refine lv_aload_n hx hb dd_Machine_makeStructure_66 rfl (lv_at hl 0 rfl) ?_
      refine lv_aload_n hx hb dd_Machine_makeStructure_67 rfl (lv_at hl 0 rfl) ?_
      refine gf_h_Machine_60_heap C hP dd_Machine_makeStructure_68 ?_
      refine lv_iload hx hb dd_Machine_makeStructure_71 (lv_at hl 3 rfl) ?_
      refine lv_iload hx hb dd_Machine_makeStructure_73 (lv_at hl 4 rfl) ?_
      obtain ⟨a5, u6, hq, h⟩ := xp_seq h
      refine xk_goesI (xr_V (As := [.int b4, .int b5]) (rest := [.ref (ad 60)]) C hP hS (ct_Heap_cellOf htr hok hq) kq_Machine_355 67 3 rfl rfl ⟨rfl, rfl, Nat.le_of_ble_eq_true rfl, Nat.le_of_ble_eq_true rfl⟩ ⟨Nat.le_of_ble_eq_true rfl, Nat.le_of_ble_eq_true rfl⟩ hl.1 rfl rfl (Nat.le_of_ble_eq_true rfl) dd_Machine_makeStructure_75) hS (fun H locs hP hS => ?_)
      clear hq
      refine lv_aload_n hx hb dd_Machine_makeStructure_78 rfl (lv_at hl 0 rfl) ?_
      refine gf_h_Machine_60_types C hP dd_Machine_makeStructure_79 ?_
      refine lv_iload_n hx hb dd_Machine_makeStructure_82 rfl (lv_at hl 1 rfl) ?_
      refine lv_iload hx hb dd_Machine_makeStructure_83 (lv_at hl 4 rfl) ?_
      obtain ⟨a7, u8, hq, h⟩ := xp_seq h
      refine xk_goesI (xr_V (As := [.int b1, .int b5]) (rest := [.int a5, .ref (ad 60)]) C hP hS (ct_Types_member htr hok hq) kq_Machine_358 6 9 rfl rfl ⟨rfl, rfl, Nat.le_of_ble_eq_true rfl, Nat.le_of_ble_eq_true rfl⟩ ⟨Nat.le_of_ble_eq_true rfl, Nat.le_of_ble_eq_true rfl⟩ hl.1 rfl rfl (Nat.le_of_ble_eq_true rfl) dd_Machine_makeStructure_85) hS (fun H locs hP hS => ?_)
      clear hq
      refine lv_aload_n hx hb dd_Machine_makeStructure_88 rfl (lv_at hl 0 rfl) ?_
      refine gf_h_Machine_60_values C hP dd_Machine_makeStructure_89 ?_
      refine gf_h_Machine_61_top C hP dd_Machine_makeStructure_92 ?_
      refine lv_iload hx hb dd_Machine_makeStructure_95 (lv_at hl 4 rfl) ?_
      refine lv_iadd hx hb dd_Machine_makeStructure_97 ?_
      obtain ⟨rx, u9, hq, h⟩ := xp_seq h
      refine xk_goesV (xr_V (As := [.int a5, .int a7, .int ((u8.1 28) + b5)]) (rest := []) C hP hS (ct_Machine_setCell htr hok hq) kq_Machine_361 60 4 rfl rfl ⟨rfl, rfl, Nat.le_of_ble_eq_true rfl, Nat.le_of_ble_eq_true rfl⟩ ⟨Nat.le_of_ble_eq_true rfl, Nat.le_of_ble_eq_true rfl⟩ hl.1 rfl rfl (Nat.le_of_ble_eq_true rfl) dd_Machine_makeStructure_98) hS (fun H locs hP hS => ?_)
      clear hq
      obtain ⟨a10, ea10, h⟩ := xp_let h
      refine lv_iinc (v := a10) (lv' := [(5, .int a10), (0, .ref (ad 60)), (1, .int b1), (2, .int b2), (4, .int b4)]) hx hb dd_Machine_makeStructure_101 hl (k := 4) rfl (by rw [ea10]; first | rfl | decide) (by decide) rfl (fun ls hl => ?_)
      refine lv_goto (tgt := 60) hx hb dd_Machine_makeStructure_104 (by decide) ?_
      exact hk60 b1 b2 b4 a10 u9 _ _ _ h hP hS (lv_sub hl [1, 2, 3, 4, 0] rfl)
set_option maxHeartbeats 4000000 in
set_option maxRecDepth 100000 in
theorem ct_Machine_makeStructure {l : Launch} {D : va_G} {ad : Nat → Nat} {ca : Nat → ClassId} {ads : List Nat} (htr : l.stackTraces = false) (hok : xk_ok (kw_h ad ca) ads) {fu : Nat} {x0 : Int32} {x1 : Int32} {x2 : Int32} {u u' : xk_St} {r : Unit} (h : fm_Machine_makeStructure fu x0 x1 x2 u = some (r, u')) :
    ∀ sz, xk_Met l ⟨"ModuleHouse$Machine", "makeStructure", "(IIZ)V"⟩ (Cond.code ⟨"ModuleHouse$Machine", "makeStructure", "(IIZ)V"⟩ prog_5_method_24_code 6 none :: xk_gd) rm_Machine_makeStructure (xk_Pc D kx_cl (kx_ty ca) (kw_h ad ca) ads xk_F sz [.ref (ad 60), .int x0, .int x1, .int x2] u) (xk_Qc D kx_cl (kw_h ad ca) ads (xo_v (.inl r)) u') (xk_A ads sz) := by
  unfold fm_Machine_makeStructure at h
  refine xk_con (by decide) htr hok (Nat.le_of_ble_eq_true rfl) (fun p e s m below meth c ls C hne hl hP => ?_)
  have hx := C.1.1
  have hb := C.1.2.1
  have hS : va_S (xk_A ads s.heap.size) s.heap s.heap [] := va_S.rf
  have hl : lv_has ls 6 [(0, .ref (ad 60)), (1, .int x0), (2, .int x1), (3, .int x2)] := hl
  refine lv_aload_n hx hb dd_Machine_makeStructure_0 rfl (lv_at hl 0 rfl) ?_
  refine gf_h_Machine_60_heap C hP dd_Machine_makeStructure_1 ?_
  refine lv_aload_n hx hb dd_Machine_makeStructure_4 rfl (lv_at hl 0 rfl) ?_
  refine gf_h_Machine_60_types C hP dd_Machine_makeStructure_5 ?_
  refine gf_h_Machine_6_like C hP dd_Machine_makeStructure_8 ?_
  refine lv_iload_n hx hb dd_Machine_makeStructure_11 rfl (lv_at hl 1 rfl) ?_
  obtain ⟨hi, h⟩ := xp_g h
  refine al_h_10 C hP hi dd_Machine_makeStructure_12 ?_
  refine lv_iload_n hx hb dd_Machine_makeStructure_13 rfl (lv_at hl 2 rfl) ?_
  refine lv_i2l hx hb dd_Machine_makeStructure_14 rfl ?_
  refine lv_aload_n hx hb dd_Machine_makeStructure_15 rfl (lv_at hl 0 rfl) ?_
  refine gf_h_Machine_60_values C hP dd_Machine_makeStructure_16 ?_
  refine lv_aload_n hx hb dd_Machine_makeStructure_19 rfl (lv_at hl 0 rfl) ?_
  refine gf_h_Machine_60_globals C hP dd_Machine_makeStructure_20 ?_
  obtain ⟨a1, u2, hq, h⟩ := xp_seq h
  refine xk_goesI (xr_V (As := [.int (u.2.2.1 5 x0.toNatClampNeg), .long (x1.toInt64), .ref (ad 61), .ref (ad 64)]) (rest := []) C hP hS (ct_Heap_make htr hok hq) kq_Machine_367 67 3 rfl rfl ⟨rfl, rfl, Nat.le_of_ble_eq_true rfl, Nat.le_of_ble_eq_true rfl⟩ ⟨Nat.le_of_ble_eq_true rfl, Nat.le_of_ble_eq_true rfl⟩ hl.1 rfl rfl (Nat.le_of_ble_eq_true rfl) dd_Machine_makeStructure_23) hS (fun H locs hP hS => ?_)
  clear hq
  refine lv_istore (lv' := [(4, .int a1), (0, .ref (ad 60)), (1, .int x0), (2, .int x1), (3, .int x2)]) hx hb dd_Machine_makeStructure_26 hl (by decide) rfl (fun ls hl => ?_)
  refine lv_iload hx hb dd_Machine_makeStructure_28 (lv_at hl 0 rfl) ?_
  refine lv_if_ne (tgt := 40) hx hb dd_Machine_makeStructure_30 (by decide) (fun hc => ?_) (fun hc => ?_)
  · have h := xp_f hc h
    refine lv_iload_n hx hb dd_Machine_makeStructure_40 rfl (lv_at hl 4 rfl) ?_
    refine lv_if_eq (tgt := 107) hx hb dd_Machine_makeStructure_41 (by decide) (fun hc => ?_) (fun hc => ?_)
    · have h := xp_t hc h
      exact wj_Machine_makeStructure_107 htr C hne h hP hS (lv_sub hl [1, 0] rfl)
    · have h := xp_f hc h
      refine lv_aload_n hx hb dd_Machine_makeStructure_44 rfl (lv_at hl 1 rfl) ?_
      refine gf_h_Machine_60_values C hP dd_Machine_makeStructure_45 ?_
      refine lv_dup hx hb dd_Machine_makeStructure_48 rfl ?_
      refine gf_h_Machine_61_top C hP dd_Machine_makeStructure_49 ?_
      refine lv_iload_n hx hb dd_Machine_makeStructure_52 rfl (lv_at hl 3 rfl) ?_
      refine lv_isub hx hb dd_Machine_makeStructure_53 ?_
      refine pf_h_Machine_61_top C hP hS dd_Machine_makeStructure_54 (fun H locs hP hS => ?_)
      obtain ⟨u4, eu4, h⟩ := xp_let h
      rw [← eu4] at hP
      refine lv_iconst (v := 0) hx hb dd_Machine_makeStructure_57 (by decide) ?_
      refine lv_istore (lv' := [(5, .int (0 : Int32)), (4, .int a1), (0, .ref (ad 60)), (1, .int x0), (2, .int x1), (3, .int x2)]) hx hb dd_Machine_makeStructure_58 hl (by decide) rfl (fun ls hl => ?_)
      exact wj_Machine_makeStructure_60 htr C hne h hP hS (lv_sub hl [2, 3, 4, 1, 0] rfl)
  · have h := xp_t hc h
    refine lv_aload_n hx hb dd_Machine_makeStructure_33 rfl (lv_at hl 1 rfl) ?_
    refine lv_bipush (v := 11) hx hb dd_Machine_makeStructure_34 (by decide) ?_
    refine pf_h_Machine_60_trap C hP hS dd_Machine_makeStructure_36 (fun H locs hP hS => ?_)
    obtain ⟨u11, eu11, h⟩ := xp_let h
    rw [← eu11] at hP
    obtain ⟨rfl, rfl⟩ := xp_r h
    exact xr_vret C hP hS dd_Machine_makeStructure_39
abbrev rm_Machine_doStructure : Room := { frames := 11, cells := 1, slots := 6, locals := 220 }
noncomputable def jb_Machine_doStructure_151 (fu : Nat) (s0 : Int32) (s1 : Int32) (s2 : Int32) (u : xk_St) : Option (Unit × xk_St) :=
  (xs_seq (fm_Machine_pushCell s2 s1 s0 u) fun _ u7 => some ((()), u7))
noncomputable def jb_Machine_doStructure_122 (fu : Nat) (b1 : Int32) (b4 : Int32) (b6 : Int32) (b7 : Int32) (u : xk_St) : Option (Unit × xk_St) :=
  (xs_let (xs_I u 28 b4) fun u6 => if b1 = (5 : Int32) then (some ((()), u6)) else (if b1 = (3 : Int32) then (jb_Machine_doStructure_151 fu (1 : Int32) b7 b6 u6) else (jb_Machine_doStructure_151 fu (0 : Int32) b7 b6 u6)))
noncomputable def jb_Machine_doStructure_55 (fu : Nat) (b1 : Int32) (b2 : Int32) (b3 : Int32) (s0 : Int32) (u : xk_St) : Option (Unit × xk_St) :=
  (if s0 < 0 ∨ 18000 ≤ s0.toNatClampNeg then none else xs_let ((u.2.2.2 10 s0.toNatClampNeg).toInt32) fun a1 => if a1 = (0 : Int32) then ((xs_let (xs_I u 27 (8 : Int32)) fun u9 => some ((()), u9))) else ((xs_seq (fm_Heap_cellOf a1 b3 u) fun a2 u3 => xs_seq (fm_Types_member b2 b3 u3) fun a4 u5 => if b1 = (5 : Int32) then ((xs_seq (fm_Machine_setCell a2 a4 (s0 + (1 : Int32)) u5) fun _ u8 => jb_Machine_doStructure_122 fu b1 s0 a2 a4 u8)) else (jb_Machine_doStructure_122 fu b1 s0 a2 a4 u5))))
noncomputable def jb_Machine_doStructure_25 (fu : Nat) (s0 : Int32) (s1 : Int32) (s2 : Int32) (u : xk_St) : Option (Unit × xk_St) :=
  (xs_seq (fm_Machine_makeStructure fu s2 s1 s0 u) fun _ u10 => some ((()), u10))
noncomputable def fm_Machine_doStructure (fu : Nat) (x0 : Int32) (x1 : Int32) (x2 : Int32) (u : xk_St) : Option (Unit × xk_St) :=
  if (1 : Int32) < x0 then (if x0 = (5 : Int32) then (jb_Machine_doStructure_55 fu x0 x1 x2 ((u.1 28) - (2 : Int32)) u) else (jb_Machine_doStructure_55 fu x0 x1 x2 ((u.1 28) - (1 : Int32)) u)) else ((if x1 < 0 ∨ 65 ≤ x1.toNatClampNeg then none else if x0 = (0 : Int32) then (jb_Machine_doStructure_25 fu (1 : Int32) (u.2.2.1 3 x1.toNatClampNeg) x1 u) else (jb_Machine_doStructure_25 fu (0 : Int32) (u.2.2.1 3 x1.toNatClampNeg) x1 u)))
set_option maxHeartbeats 4000000 in
set_option maxRecDepth 100000 in
theorem wj_Machine_doStructure_151 {p : Program} {l : Launch} {e : Env} {s : State} {m : MethodId} {args : Array Value} {below : List Frame} {meth : Method} {c : Code} {D : va_G} {ad : Nat → Nat} {ca : Nat → ClassId} {ads : List Nat} {fu : Nat} (htr : l.stackTraces = false) (C : xk_C D kx_cl (kx_ty ca) (kw_h ad ca) ads "ModuleHouse$Machine" prog_5_method_23_code 8 none p e s m args meth c) (hne : c.exceptionTable.isEmpty = true) {u' : xk_St} {r : Unit} {s0 : Int32} {s1 : Int32} {s2 : Int32} {u : xk_St} {H : Heap} {locs : List Loc} {ls : Array Slot} (h : jb_Machine_doStructure_151 fu  s0 s1 s2 u = some (r, u')) (hP : va_P D kx_cl (kw_h ad ca u) H) (hS : va_S (xk_A ads s.heap.size) s.heap H locs) (hl : lv_has ls 8 []) : W p l e rm_Machine_doStructure s m args below meth c H locs 0 0 (xk_MQ below (xk_Qc D kx_cl (kw_h ad ca) ads (xo_v (.inl r)) u') args s (xk_A ads s.heap.size)) (F0 m 151 ls [.int s0, .int s1, .int s2, .ref (ad 60)]) := by
  have hx := C.1.1
  have hb := C.1.2.1
  have hok := C.2.2.1
  unfold jb_Machine_doStructure_151 at h
  obtain ⟨rx, u7, hq, h⟩ := xp_seq h
  refine xk_goesV (xr_V (As := [.int s2, .int s1, .int s0]) (rest := []) C hP hS (ct_Machine_pushCell htr hok hq) kq_Machine_364 60 4 rfl rfl ⟨rfl, rfl, Nat.le_of_ble_eq_true rfl, Nat.le_of_ble_eq_true rfl⟩ ⟨Nat.le_of_ble_eq_true rfl, Nat.le_of_ble_eq_true rfl⟩ hl.1 rfl rfl (Nat.le_of_ble_eq_true rfl) dd_Machine_doStructure_151) hS (fun H locs hP hS => ?_)
  clear hq
  obtain ⟨rfl, rfl⟩ := xp_r h
  exact xr_vret C hP hS dd_Machine_doStructure_154
set_option maxHeartbeats 4000000 in
set_option maxRecDepth 100000 in
theorem wj_Machine_doStructure_122 {p : Program} {l : Launch} {e : Env} {s : State} {m : MethodId} {args : Array Value} {below : List Frame} {meth : Method} {c : Code} {D : va_G} {ad : Nat → Nat} {ca : Nat → ClassId} {ads : List Nat} {fu : Nat} (htr : l.stackTraces = false) (C : xk_C D kx_cl (kx_ty ca) (kw_h ad ca) ads "ModuleHouse$Machine" prog_5_method_23_code 8 none p e s m args meth c) (hne : c.exceptionTable.isEmpty = true) {u' : xk_St} {r : Unit} {b1 : Int32} {b4 : Int32} {b6 : Int32} {b7 : Int32} {u : xk_St} {H : Heap} {locs : List Loc} {ls : Array Slot} (h : jb_Machine_doStructure_122 fu  b1 b4 b6 b7 u = some (r, u')) (hP : va_P D kx_cl (kw_h ad ca u) H) (hS : va_S (xk_A ads s.heap.size) s.heap H locs) (hl : lv_has ls 8 [(0, .ref (ad 60)), (1, .int b1), (4, .int b4), (6, .int b6), (7, .int b7)]) : W p l e rm_Machine_doStructure s m args below meth c H locs 0 0 (xk_MQ below (xk_Qc D kx_cl (kw_h ad ca) ads (xo_v (.inl r)) u') args s (xk_A ads s.heap.size)) (F0 m 122 ls []) := by
  have hx := C.1.1
  have hb := C.1.2.1
  have hok := C.2.2.1
  unfold jb_Machine_doStructure_122 at h
  refine lv_aload_n hx hb dd_Machine_doStructure_122 rfl (lv_at hl 0 rfl) ?_
  refine gf_h_Machine_60_values C hP dd_Machine_doStructure_123 ?_
  refine lv_iload hx hb dd_Machine_doStructure_126 (lv_at hl 2 rfl) ?_
  refine pf_h_Machine_61_top C hP hS dd_Machine_doStructure_128 (fun H locs hP hS => ?_)
  obtain ⟨u6, eu6, h⟩ := xp_let h
  rw [← eu6] at hP
  refine lv_iload_n hx hb dd_Machine_doStructure_131 rfl (lv_at hl 1 rfl) ?_
  refine lv_iconst (v := 5) hx hb dd_Machine_doStructure_132 (by decide) ?_
  refine lv_icmp_eq (tgt := 154) hx hb dd_Machine_doStructure_133 (by decide) (fun hc => ?_) (fun hc => ?_)
  · have h := xp_t hc h
    obtain ⟨rfl, rfl⟩ := xp_r h
    exact xr_vret C hP hS dd_Machine_doStructure_154
  · have h := xp_f hc h
    refine lv_aload_n hx hb dd_Machine_doStructure_136 rfl (lv_at hl 0 rfl) ?_
    refine lv_iload hx hb dd_Machine_doStructure_137 (lv_at hl 3 rfl) ?_
    refine lv_iload hx hb dd_Machine_doStructure_139 (lv_at hl 4 rfl) ?_
    refine lv_iload_n hx hb dd_Machine_doStructure_141 rfl (lv_at hl 1 rfl) ?_
    refine lv_iconst (v := 3) hx hb dd_Machine_doStructure_142 (by decide) ?_
    refine lv_icmp_ne (tgt := 150) hx hb dd_Machine_doStructure_143 (by decide) (fun hc => ?_) (fun hc => ?_)
    · have h := xp_f hc h
      refine lv_iconst (v := 0) hx hb dd_Machine_doStructure_150 (by decide) ?_
      exact wj_Machine_doStructure_151 htr C hne h hP hS (lv_sub hl [] rfl)
    · have h := xp_t hc h
      refine lv_iconst (v := 1) hx hb dd_Machine_doStructure_146 (by decide) ?_
      refine lv_goto (tgt := 151) hx hb dd_Machine_doStructure_147 (by decide) ?_
      exact wj_Machine_doStructure_151 htr C hne h hP hS (lv_sub hl [] rfl)
set_option maxHeartbeats 4000000 in
set_option maxRecDepth 100000 in
theorem wj_Machine_doStructure_55 {p : Program} {l : Launch} {e : Env} {s : State} {m : MethodId} {args : Array Value} {below : List Frame} {meth : Method} {c : Code} {D : va_G} {ad : Nat → Nat} {ca : Nat → ClassId} {ads : List Nat} {fu : Nat} (htr : l.stackTraces = false) (C : xk_C D kx_cl (kx_ty ca) (kw_h ad ca) ads "ModuleHouse$Machine" prog_5_method_23_code 8 none p e s m args meth c) (hne : c.exceptionTable.isEmpty = true) {u' : xk_St} {r : Unit} {b1 : Int32} {b2 : Int32} {b3 : Int32} {s0 : Int32} {u : xk_St} {H : Heap} {locs : List Loc} {ls : Array Slot} (h : jb_Machine_doStructure_55 fu  b1 b2 b3 s0 u = some (r, u')) (hP : va_P D kx_cl (kw_h ad ca u) H) (hS : va_S (xk_A ads s.heap.size) s.heap H locs) (hl : lv_has ls 8 [(0, .ref (ad 60)), (1, .int b1), (2, .int b2), (3, .int b3)]) : W p l e rm_Machine_doStructure s m args below meth c H locs 0 0 (xk_MQ below (xk_Qc D kx_cl (kw_h ad ca) ads (xo_v (.inl r)) u') args s (xk_A ads s.heap.size)) (F0 m 55 ls [.int s0]) := by
  have hx := C.1.1
  have hb := C.1.2.1
  have hok := C.2.2.1
  unfold jb_Machine_doStructure_55 at h
  refine lv_istore (lv' := [(4, .int s0), (0, .ref (ad 60)), (1, .int b1), (2, .int b2), (3, .int b3)]) hx hb dd_Machine_doStructure_55 hl (by decide) rfl (fun ls hl => ?_)
  refine lv_aload_n hx hb dd_Machine_doStructure_57 rfl (lv_at hl 1 rfl) ?_
  refine gf_h_Machine_60_values C hP dd_Machine_doStructure_58 ?_
  refine gf_h_Machine_61_value C hP dd_Machine_doStructure_61 ?_
  refine lv_iload hx hb dd_Machine_doStructure_64 (lv_at hl 0 rfl) ?_
  obtain ⟨hi, h⟩ := xp_g h
  refine al_h_62 C hP hi dd_Machine_doStructure_66 ?_
  refine lv_l2i hx hb dd_Machine_doStructure_67 rfl ?_
  obtain ⟨a1, ea1, h⟩ := xp_let h
  refine xr_nami ea1 ?_
  refine lv_istore (lv' := [(5, .int a1), (4, .int s0), (0, .ref (ad 60)), (1, .int b1), (2, .int b2), (3, .int b3)]) hx hb dd_Machine_doStructure_68 hl (by decide) rfl (fun ls hl => ?_)
  refine lv_iload hx hb dd_Machine_doStructure_70 (lv_at hl 0 rfl) ?_
  refine lv_if_ne (tgt := 82) hx hb dd_Machine_doStructure_72 (by decide) (fun hc => ?_) (fun hc => ?_)
  · have h := xp_f hc h
    refine lv_aload_n hx hb dd_Machine_doStructure_82 rfl (lv_at hl 2 rfl) ?_
    refine gf_h_Machine_60_heap C hP dd_Machine_doStructure_83 ?_
    refine lv_iload hx hb dd_Machine_doStructure_86 (lv_at hl 0 rfl) ?_
    refine lv_iload_n hx hb dd_Machine_doStructure_88 rfl (lv_at hl 5 rfl) ?_
    obtain ⟨a2, u3, hq, h⟩ := xp_seq h
    refine xk_goesI (xr_V (As := [.int a1, .int b3]) (rest := []) C hP hS (ct_Heap_cellOf htr hok hq) kq_Machine_355 67 3 rfl rfl ⟨rfl, rfl, Nat.le_of_ble_eq_true rfl, Nat.le_of_ble_eq_true rfl⟩ ⟨Nat.le_of_ble_eq_true rfl, Nat.le_of_ble_eq_true rfl⟩ hl.1 rfl rfl (Nat.le_of_ble_eq_true rfl) dd_Machine_doStructure_89) hS (fun H locs hP hS => ?_)
    clear hq
    refine lv_istore (lv' := [(6, .int a2), (5, .int a1), (4, .int s0), (0, .ref (ad 60)), (1, .int b1), (2, .int b2), (3, .int b3)]) hx hb dd_Machine_doStructure_92 hl (by decide) rfl (fun ls hl => ?_)
    refine lv_aload_n hx hb dd_Machine_doStructure_94 rfl (lv_at hl 3 rfl) ?_
    refine gf_h_Machine_60_types C hP dd_Machine_doStructure_95 ?_
    refine lv_iload_n hx hb dd_Machine_doStructure_98 rfl (lv_at hl 5 rfl) ?_
    refine lv_iload_n hx hb dd_Machine_doStructure_99 rfl (lv_at hl 6 rfl) ?_
    obtain ⟨a4, u5, hq, h⟩ := xp_seq h
    refine xk_goesI (xr_V (As := [.int b2, .int b3]) (rest := []) C hP hS (ct_Types_member htr hok hq) kq_Machine_358 6 9 rfl rfl ⟨rfl, rfl, Nat.le_of_ble_eq_true rfl, Nat.le_of_ble_eq_true rfl⟩ ⟨Nat.le_of_ble_eq_true rfl, Nat.le_of_ble_eq_true rfl⟩ hl.1 rfl rfl (Nat.le_of_ble_eq_true rfl) dd_Machine_doStructure_100) hS (fun H locs hP hS => ?_)
    clear hq
    refine lv_istore (lv' := [(7, .int a4), (6, .int a2), (5, .int a1), (4, .int s0), (0, .ref (ad 60)), (1, .int b1), (2, .int b2), (3, .int b3)]) hx hb dd_Machine_doStructure_103 hl (by decide) rfl (fun ls hl => ?_)
    refine lv_iload_n hx hb dd_Machine_doStructure_105 rfl (lv_at hl 5 rfl) ?_
    refine lv_iconst (v := 5) hx hb dd_Machine_doStructure_106 (by decide) ?_
    refine lv_icmp_ne (tgt := 122) hx hb dd_Machine_doStructure_107 (by decide) (fun hc => ?_) (fun hc => ?_)
    · have h := xp_f hc h
      exact wj_Machine_doStructure_122 htr C hne h hP hS (lv_sub hl [4, 5, 3, 1, 0] rfl)
    · have h := xp_t hc h
      refine lv_aload_n hx hb dd_Machine_doStructure_110 rfl (lv_at hl 4 rfl) ?_
      refine lv_iload hx hb dd_Machine_doStructure_111 (lv_at hl 1 rfl) ?_
      refine lv_iload hx hb dd_Machine_doStructure_113 (lv_at hl 0 rfl) ?_
      refine lv_iload hx hb dd_Machine_doStructure_115 (lv_at hl 3 rfl) ?_
      refine lv_iconst (v := 1) hx hb dd_Machine_doStructure_117 (by decide) ?_
      refine lv_iadd hx hb dd_Machine_doStructure_118 ?_
      obtain ⟨rx, u8, hq, h⟩ := xp_seq h
      refine xk_goesV (xr_V (As := [.int a2, .int a4, .int (s0 + (1 : Int32))]) (rest := []) C hP hS (ct_Machine_setCell htr hok hq) kq_Machine_361 60 4 rfl rfl ⟨rfl, rfl, Nat.le_of_ble_eq_true rfl, Nat.le_of_ble_eq_true rfl⟩ ⟨Nat.le_of_ble_eq_true rfl, Nat.le_of_ble_eq_true rfl⟩ hl.1 rfl rfl (Nat.le_of_ble_eq_true rfl) dd_Machine_doStructure_119) hS (fun H locs hP hS => ?_)
      clear hq
      exact wj_Machine_doStructure_122 htr C hne h hP hS (lv_sub hl [4, 5, 3, 1, 0] rfl)
  · have h := xp_t hc h
    refine lv_aload_n hx hb dd_Machine_doStructure_75 rfl (lv_at hl 2 rfl) ?_
    refine lv_bipush (v := 8) hx hb dd_Machine_doStructure_76 (by decide) ?_
    refine pf_h_Machine_60_trap C hP hS dd_Machine_doStructure_78 (fun H locs hP hS => ?_)
    obtain ⟨u9, eu9, h⟩ := xp_let h
    rw [← eu9] at hP
    obtain ⟨rfl, rfl⟩ := xp_r h
    exact xr_vret C hP hS dd_Machine_doStructure_81
set_option maxHeartbeats 4000000 in
set_option maxRecDepth 100000 in
theorem wj_Machine_doStructure_25 {p : Program} {l : Launch} {e : Env} {s : State} {m : MethodId} {args : Array Value} {below : List Frame} {meth : Method} {c : Code} {D : va_G} {ad : Nat → Nat} {ca : Nat → ClassId} {ads : List Nat} {fu : Nat} (htr : l.stackTraces = false) (C : xk_C D kx_cl (kx_ty ca) (kw_h ad ca) ads "ModuleHouse$Machine" prog_5_method_23_code 8 none p e s m args meth c) (hne : c.exceptionTable.isEmpty = true) {u' : xk_St} {r : Unit} {s0 : Int32} {s1 : Int32} {s2 : Int32} {u : xk_St} {H : Heap} {locs : List Loc} {ls : Array Slot} (h : jb_Machine_doStructure_25 fu  s0 s1 s2 u = some (r, u')) (hP : va_P D kx_cl (kw_h ad ca u) H) (hS : va_S (xk_A ads s.heap.size) s.heap H locs) (hl : lv_has ls 8 []) : W p l e rm_Machine_doStructure s m args below meth c H locs 0 0 (xk_MQ below (xk_Qc D kx_cl (kw_h ad ca) ads (xo_v (.inl r)) u') args s (xk_A ads s.heap.size)) (F0 m 25 ls [.int s0, .int s1, .int s2, .ref (ad 60)]) := by
  have hx := C.1.1
  have hb := C.1.2.1
  have hok := C.2.2.1
  unfold jb_Machine_doStructure_25 at h
  obtain ⟨rx, u10, hq, h⟩ := xp_seq h
  refine xk_goesV (xr_V (As := [.int s2, .int s1, .int s0]) (rest := []) C hP hS (ct_Machine_makeStructure htr hok hq) kq_Machine_351 60 4 rfl rfl ⟨rfl, rfl, Nat.le_of_ble_eq_true rfl, Nat.le_of_ble_eq_true rfl⟩ ⟨Nat.le_of_ble_eq_true rfl, Nat.le_of_ble_eq_true rfl⟩ hl.1 rfl rfl (Nat.le_of_ble_eq_true rfl) dd_Machine_doStructure_25) hS (fun H locs hP hS => ?_)
  clear hq
  obtain ⟨rfl, rfl⟩ := xp_r h
  exact xr_vret C hP hS dd_Machine_doStructure_28
set_option maxHeartbeats 4000000 in
set_option maxRecDepth 100000 in
theorem ct_Machine_doStructure {l : Launch} {D : va_G} {ad : Nat → Nat} {ca : Nat → ClassId} {ads : List Nat} (htr : l.stackTraces = false) (hok : xk_ok (kw_h ad ca) ads) {fu : Nat} {x0 : Int32} {x1 : Int32} {x2 : Int32} {u u' : xk_St} {r : Unit} (h : fm_Machine_doStructure fu x0 x1 x2 u = some (r, u')) :
    ∀ sz, xk_Met l ⟨"ModuleHouse$Machine", "doStructure", "(III)V"⟩ (Cond.code ⟨"ModuleHouse$Machine", "doStructure", "(III)V"⟩ prog_5_method_23_code 8 none :: xk_gd) rm_Machine_doStructure (xk_Pc D kx_cl (kx_ty ca) (kw_h ad ca) ads xk_F sz [.ref (ad 60), .int x0, .int x1, .int x2] u) (xk_Qc D kx_cl (kw_h ad ca) ads (xo_v (.inl r)) u') (xk_A ads sz) := by
  unfold fm_Machine_doStructure at h
  refine xk_con (by decide) htr hok (Nat.le_of_ble_eq_true rfl) (fun p e s m below meth c ls C hne hl hP => ?_)
  have hx := C.1.1
  have hb := C.1.2.1
  have hS : va_S (xk_A ads s.heap.size) s.heap s.heap [] := va_S.rf
  have hl : lv_has ls 8 [(0, .ref (ad 60)), (1, .int x0), (2, .int x1), (3, .int x2)] := hl
  refine lv_iload_n hx hb dd_Machine_doStructure_0 rfl (lv_at hl 1 rfl) ?_
  refine lv_iconst (v := 1) hx hb dd_Machine_doStructure_1 (by decide) ?_
  refine lv_icmp_gt (tgt := 29) hx hb dd_Machine_doStructure_2 (by decide) (fun hc => ?_) (fun hc => ?_)
  · have h := xp_t hc h
    refine lv_iload_n hx hb dd_Machine_doStructure_29 rfl (lv_at hl 1 rfl) ?_
    refine lv_iconst (v := 5) hx hb dd_Machine_doStructure_30 (by decide) ?_
    refine lv_icmp_ne (tgt := 46) hx hb dd_Machine_doStructure_31 (by decide) (fun hc => ?_) (fun hc => ?_)
    · have h := xp_f hc h
      refine lv_aload_n hx hb dd_Machine_doStructure_46 rfl (lv_at hl 0 rfl) ?_
      refine gf_h_Machine_60_values C hP dd_Machine_doStructure_47 ?_
      refine gf_h_Machine_61_top C hP dd_Machine_doStructure_50 ?_
      refine lv_iconst (v := 1) hx hb dd_Machine_doStructure_53 (by decide) ?_
      refine lv_isub hx hb dd_Machine_doStructure_54 ?_
      exact wj_Machine_doStructure_55 htr C hne h hP hS (lv_sub hl [0, 1, 2, 3] rfl)
    · have h := xp_t hc h
      refine lv_aload_n hx hb dd_Machine_doStructure_34 rfl (lv_at hl 0 rfl) ?_
      refine gf_h_Machine_60_values C hP dd_Machine_doStructure_35 ?_
      refine gf_h_Machine_61_top C hP dd_Machine_doStructure_38 ?_
      refine lv_iconst (v := 2) hx hb dd_Machine_doStructure_41 (by decide) ?_
      refine lv_isub hx hb dd_Machine_doStructure_42 ?_
      refine lv_goto (tgt := 55) hx hb dd_Machine_doStructure_43 (by decide) ?_
      exact wj_Machine_doStructure_55 htr C hne h hP hS (lv_sub hl [0, 1, 2, 3] rfl)
  · have h := xp_f hc h
    refine lv_aload_n hx hb dd_Machine_doStructure_5 rfl (lv_at hl 0 rfl) ?_
    refine lv_iload_n hx hb dd_Machine_doStructure_6 rfl (lv_at hl 2 rfl) ?_
    refine lv_aload_n hx hb dd_Machine_doStructure_7 rfl (lv_at hl 0 rfl) ?_
    refine gf_h_Machine_60_types C hP dd_Machine_doStructure_8 ?_
    refine gf_h_Machine_6_members C hP dd_Machine_doStructure_11 ?_
    refine lv_iload_n hx hb dd_Machine_doStructure_14 rfl (lv_at hl 2 rfl) ?_
    obtain ⟨hi, h⟩ := xp_g h
    refine al_h_8 C hP hi dd_Machine_doStructure_15 ?_
    refine lv_iload_n hx hb dd_Machine_doStructure_16 rfl (lv_at hl 1 rfl) ?_
    refine lv_if_ne (tgt := 24) hx hb dd_Machine_doStructure_17 (by decide) (fun hc => ?_) (fun hc => ?_)
    · have h := xp_f hc h
      refine lv_iconst (v := 0) hx hb dd_Machine_doStructure_24 (by decide) ?_
      exact wj_Machine_doStructure_25 htr C hne h hP hS (lv_sub hl [] rfl)
    · have h := xp_t hc h
      refine lv_iconst (v := 1) hx hb dd_Machine_doStructure_20 (by decide) ?_
      refine lv_goto (tgt := 25) hx hb dd_Machine_doStructure_21 (by decide) ?_
      exact wj_Machine_doStructure_25 htr C hne h hP hS (lv_sub hl [] rfl)
abbrev rm_Values_copy__h61_61 : Room := { frames := 1, cells := 1, slots := 6, locals := 0 }
noncomputable def fm_Values_copy__h61_61 (x1 : Int32) (x2 : Int32) (u : xk_St) : Option (Unit × xk_St) :=
  (if x1 < 0 ∨ 18000 ≤ x1.toNatClampNeg then none else if x2 < 0 ∨ 18000 ≤ x2.toNatClampNeg then none else xs_let (xs_B u 10 x2.toNatClampNeg (u.2.2.2 10 x1.toNatClampNeg)) fun u1 => if x1 < 0 ∨ 18000 ≤ x1.toNatClampNeg then none else if x2 < 0 ∨ 18000 ≤ x2.toNatClampNeg then none else xs_let (xs_A u1 37 x2.toNatClampNeg (vp_nar .boolean (u1.2.2.1 37 x1.toNatClampNeg))) fun u2 => some ((()), u2))
set_option maxHeartbeats 4000000 in
set_option maxRecDepth 100000 in
theorem ct_Values_copy__h61_61 {l : Launch} {D : va_G} {ad : Nat → Nat} {ca : Nat → ClassId} {ads : List Nat} (htr : l.stackTraces = false) (hok : xk_ok (kw_h ad ca) ads) {x1 : Int32} {x2 : Int32} {u u' : xk_St} {r : Unit} (h : fm_Values_copy__h61_61 x1 x2 u = some (r, u')) :
    ∀ sz, xk_Met l ⟨"ModuleHouse$Values", "copy", "(LModuleHouse$Values;II)V"⟩ (Cond.code ⟨"ModuleHouse$Values", "copy", "(LModuleHouse$Values;II)V"⟩ prog_12_method_6_code 4 none :: xk_gd) rm_Values_copy__h61_61 (xk_Pc D kx_cl (kx_ty ca) (kw_h ad ca) ads xk_F sz [.ref (ad 61), .ref (ad 61), .int x1, .int x2] u) (xk_Qc D kx_cl (kw_h ad ca) ads (xo_v (.inl r)) u') (xk_A ads sz) := by
  unfold fm_Values_copy__h61_61 at h
  refine xk_con (by decide) htr hok (Nat.le_of_ble_eq_true rfl) (fun p e s m below meth c ls C hne hl hP => ?_)
  have hx := C.1.1
  have hb := C.1.2.1
  have hS : va_S (xk_A ads s.heap.size) s.heap s.heap [] := va_S.rf
  have hl : lv_has ls 4 [(0, .ref (ad 61)), (1, .ref (ad 61)), (2, .int x1), (3, .int x2)] := hl
  refine lv_aload_n hx hb dd_Values_copy_0 rfl (lv_at hl 0 rfl) ?_
  refine gf_h_Values_61_value C hP dd_Values_copy_1 ?_
  refine lv_iload_n hx hb dd_Values_copy_4 rfl (lv_at hl 3 rfl) ?_
  refine lv_aload_n hx hb dd_Values_copy_5 rfl (lv_at hl 1 rfl) ?_
  refine gf_h_Values_61_value C hP dd_Values_copy_6 ?_
  refine lv_iload_n hx hb dd_Values_copy_9 rfl (lv_at hl 2 rfl) ?_
  obtain ⟨hi, h⟩ := xp_g h
  refine al_h_62 C hP hi dd_Values_copy_10 ?_
  obtain ⟨hi, h⟩ := xp_g h
  refine as_h_62 C hP hS hi dd_Values_copy_11 (fun H locs hP hS => ?_)
  obtain ⟨u1, eu1, h⟩ := xp_let h
  rw [← eu1] at hP
  refine lv_aload_n hx hb dd_Values_copy_12 rfl (lv_at hl 0 rfl) ?_
  refine gf_h_Values_61_refers C hP dd_Values_copy_13 ?_
  refine lv_iload_n hx hb dd_Values_copy_16 rfl (lv_at hl 3 rfl) ?_
  refine lv_aload_n hx hb dd_Values_copy_17 rfl (lv_at hl 1 rfl) ?_
  refine gf_h_Values_61_refers C hP dd_Values_copy_18 ?_
  refine lv_iload_n hx hb dd_Values_copy_21 rfl (lv_at hl 2 rfl) ?_
  obtain ⟨hi, h⟩ := xp_g h
  refine al_h_63 C hP hi dd_Values_copy_22 ?_
  obtain ⟨hi, h⟩ := xp_g h
  refine as_h_63 C hP hS hi dd_Values_copy_23 (fun H locs hP hS => ?_)
  obtain ⟨u2, eu2, h⟩ := xp_let h
  rw [← eu2] at hP
  obtain ⟨rfl, rfl⟩ := xp_r h
  exact xr_vret C hP hS dd_Values_copy_24
abbrev rm_Values_slide__h61 : Room := { frames := 2, cells := 1, slots := 6, locals := 23 }
noncomputable def jb_Values_slide__h61_40 (fu : Nat) (b1 : Int32) (b2 : Int32) (u : xk_St) : Option (Unit × xk_St) :=
  (xs_let (xs_I u 28 (b2 + b1)) fun u2 => some ((()), u2))
noncomputable def jb_Values_slide__h61_10 (fu : Nat) : Nat → Int32 → Int32 → Int32 → Int32 → xk_St → Option (Unit × xk_St)
  | 0 => fun _ _ _ _ _ => none
  | n + 1 => fun b1 b2 b3 b4 u =>
    xs_let (jb_Values_slide__h61_10 fu  n) fun k10 =>
    if b1 ≤ b4 then (jb_Values_slide__h61_40 fu b1 b2 u) else (if b3 = b2 then (jb_Values_slide__h61_40 fu b1 b2 u) else ((xs_seq (fm_Values_copy__h61_61 (b3 + b4) (b2 + b4) u) fun _ u3 => xs_let (b4 + (1 : Int32)) fun a4 => k10 b1 b2 b3 a4 u3)))
noncomputable def fm_Values_slide__h61 (fu : Nat) (x0 : Int32) (x1 : Int32) (u : xk_St) : Option (Unit × xk_St) :=
  (xs_let ((u.1 28) - x0) fun a1 => jb_Values_slide__h61_10 fu fu x0 x1 a1 (0 : Int32) u)
set_option maxHeartbeats 4000000 in
set_option maxRecDepth 100000 in
theorem wj_Values_slide__h61_40 {p : Program} {l : Launch} {e : Env} {s : State} {m : MethodId} {args : Array Value} {below : List Frame} {meth : Method} {c : Code} {D : va_G} {ad : Nat → Nat} {ca : Nat → ClassId} {ads : List Nat} {fu : Nat} (htr : l.stackTraces = false) (C : xk_C D kx_cl (kx_ty ca) (kw_h ad ca) ads "ModuleHouse$Values" prog_12_method_9_code 5 none p e s m args meth c) (hne : c.exceptionTable.isEmpty = true) {u' : xk_St} {r : Unit} {b1 : Int32} {b2 : Int32} {u : xk_St} {H : Heap} {locs : List Loc} {ls : Array Slot} (h : jb_Values_slide__h61_40 fu  b1 b2 u = some (r, u')) (hP : va_P D kx_cl (kw_h ad ca u) H) (hS : va_S (xk_A ads s.heap.size) s.heap H locs) (hl : lv_has ls 5 [(0, .ref (ad 61)), (1, .int b1), (2, .int b2)]) : W p l e rm_Values_slide__h61 s m args below meth c H locs 0 0 (xk_MQ below (xk_Qc D kx_cl (kw_h ad ca) ads (xo_v (.inl r)) u') args s (xk_A ads s.heap.size)) (F0 m 40 ls []) := by
  have hx := C.1.1
  have hb := C.1.2.1
  have hok := C.2.2.1
  unfold jb_Values_slide__h61_40 at h
  refine lv_aload_n hx hb dd_Values_slide_40 rfl (lv_at hl 0 rfl) ?_
  refine lv_iload_n hx hb dd_Values_slide_41 rfl (lv_at hl 2 rfl) ?_
  refine lv_iload_n hx hb dd_Values_slide_42 rfl (lv_at hl 1 rfl) ?_
  refine lv_iadd hx hb dd_Values_slide_43 ?_
  refine pf_h_Values_61_top C hP hS dd_Values_slide_44 (fun H locs hP hS => ?_)
  obtain ⟨u2, eu2, h⟩ := xp_let h
  rw [← eu2] at hP
  obtain ⟨rfl, rfl⟩ := xp_r h
  exact xr_vret C hP hS dd_Values_slide_47
set_option maxHeartbeats 4000000 in
set_option maxRecDepth 100000 in
theorem wj_Values_slide__h61_10 {p : Program} {l : Launch} {e : Env} {s : State} {m : MethodId} {args : Array Value} {below : List Frame} {meth : Method} {c : Code} {D : va_G} {ad : Nat → Nat} {ca : Nat → ClassId} {ads : List Nat} {fu : Nat} (htr : l.stackTraces = false) (C : xk_C D kx_cl (kx_ty ca) (kw_h ad ca) ads "ModuleHouse$Values" prog_12_method_9_code 5 none p e s m args meth c) (hne : c.exceptionTable.isEmpty = true) {u' : xk_St} {r : Unit} : ∀ {n : Nat} {b1 : Int32} {b2 : Int32} {b3 : Int32} {b4 : Int32} {u : xk_St} {H : Heap} {locs : List Loc} {ls : Array Slot} (h : jb_Values_slide__h61_10 fu  n b1 b2 b3 b4 u = some (r, u')) (hP : va_P D kx_cl (kw_h ad ca u) H) (hS : va_S (xk_A ads s.heap.size) s.heap H locs) (hl : lv_has ls 5 [(0, .ref (ad 61)), (1, .int b1), (2, .int b2), (3, .int b3), (4, .int b4)]), W p l e rm_Values_slide__h61 s m args below meth c H locs 0 0 (xk_MQ below (xk_Qc D kx_cl (kw_h ad ca) ads (xo_v (.inl r)) u') args s (xk_A ads s.heap.size)) (F0 m 10 ls []) := by
  intro n
  have hx := C.1.1
  have hb := C.1.2.1
  have hok := C.2.2.1
  induction n with
  | zero =>
    intro _ _ _ _ u H locs ls h
    have h : none = some (r, u') := h
    cases h
  | succ n ih =>
    intro b1 b2 b3 b4 u H locs ls h hP hS hl
    unfold jb_Values_slide__h61_10 at h
    obtain ⟨k10, ek10, h⟩ := xp_let h
    have hk10 : ∀ (c0 : Int32) (c1 : Int32) (c2 : Int32) (c3 : Int32) (u : xk_St) (H : Heap) (locs : List Loc) (ls : Array Slot), k10 c0 c1 c2 c3 u = some (r, u') → va_P D kx_cl (kw_h ad ca u) H → va_S (xk_A ads s.heap.size) s.heap H locs → lv_has ls 5 [(0, .ref (ad 61)), (1, .int c0), (2, .int c1), (3, .int c2), (4, .int c3)] → W p l e rm_Values_slide__h61 s m args below meth c H locs 0 0 (xk_MQ below (xk_Qc D kx_cl (kw_h ad ca) ads (xo_v (.inl r)) u') args s (xk_A ads s.heap.size)) (F0 m 10 ls []) := by
      intro c0 c1 c2 c3 u H locs ls h hP hS hl
      subst ek10
      exact ih h hP hS hl
    clear ih ek10
    refine lv_iload hx hb dd_Values_slide_10 (lv_at hl 4 rfl) ?_
    refine lv_iload_n hx hb dd_Values_slide_12 rfl (lv_at hl 1 rfl) ?_
    refine lv_icmp_ge (tgt := 40) hx hb dd_Values_slide_13 (by decide) (fun hc => ?_) (fun hc => ?_)
    · have h := xp_t hc h
      exact wj_Values_slide__h61_40 htr C hne h hP hS (lv_sub hl [0, 1, 2] rfl)
    · have h := xp_f hc h
      refine lv_iload_n hx hb dd_Values_slide_16 rfl (lv_at hl 3 rfl) ?_
      refine lv_iload_n hx hb dd_Values_slide_17 rfl (lv_at hl 2 rfl) ?_
      refine lv_icmp_eq (tgt := 40) hx hb dd_Values_slide_18 (by decide) (fun hc => ?_) (fun hc => ?_)
      · have h := xp_t hc h
        exact wj_Values_slide__h61_40 htr C hne h hP hS (lv_sub hl [0, 1, 2] rfl)
      · have h := xp_f hc h
        refine lv_aload_n hx hb dd_Values_slide_21 rfl (lv_at hl 0 rfl) ?_
        refine lv_aload_n hx hb dd_Values_slide_22 rfl (lv_at hl 0 rfl) ?_
        refine lv_iload_n hx hb dd_Values_slide_23 rfl (lv_at hl 3 rfl) ?_
        refine lv_iload hx hb dd_Values_slide_24 (lv_at hl 4 rfl) ?_
        refine lv_iadd hx hb dd_Values_slide_26 ?_
        refine lv_iload_n hx hb dd_Values_slide_27 rfl (lv_at hl 2 rfl) ?_
        refine lv_iload hx hb dd_Values_slide_28 (lv_at hl 4 rfl) ?_
        refine lv_iadd hx hb dd_Values_slide_30 ?_
        obtain ⟨rx, u3, hq, h⟩ := xp_seq h
        refine xk_goesV (xr_V (As := [.ref (ad 61), .int (b3 + b4), .int (b2 + b4)]) (rest := []) C hP hS (ct_Values_copy__h61_61 htr hok hq) kq_Values_25 61 10 rfl rfl ⟨rfl, rfl, Nat.le_of_ble_eq_true rfl, Nat.le_of_ble_eq_true rfl⟩ ⟨Nat.le_of_ble_eq_true rfl, Nat.le_of_ble_eq_true rfl⟩ hl.1 rfl rfl (Nat.le_of_ble_eq_true rfl) dd_Values_slide_31) hS (fun H locs hP hS => ?_)
        clear hq
        obtain ⟨a4, ea4, h⟩ := xp_let h
        refine lv_iinc (v := a4) (lv' := [(4, .int a4), (0, .ref (ad 61)), (1, .int b1), (2, .int b2), (3, .int b3)]) hx hb dd_Values_slide_34 hl (k := 4) rfl (by rw [ea4]; first | rfl | decide) (by decide) rfl (fun ls hl => ?_)
        refine lv_goto (tgt := 10) hx hb dd_Values_slide_37 (by decide) ?_
        exact hk10 b1 b2 b3 a4 u3 _ _ _ h hP hS (lv_sub hl [1, 2, 3, 4, 0] rfl)
set_option maxHeartbeats 4000000 in
set_option maxRecDepth 100000 in
theorem ct_Values_slide__h61 {l : Launch} {D : va_G} {ad : Nat → Nat} {ca : Nat → ClassId} {ads : List Nat} (htr : l.stackTraces = false) (hok : xk_ok (kw_h ad ca) ads) {fu : Nat} {x0 : Int32} {x1 : Int32} {u u' : xk_St} {r : Unit} (h : fm_Values_slide__h61 fu x0 x1 u = some (r, u')) :
    ∀ sz, xk_Met l ⟨"ModuleHouse$Values", "slide", "(II)V"⟩ (Cond.code ⟨"ModuleHouse$Values", "slide", "(II)V"⟩ prog_12_method_9_code 5 none :: xk_gd) rm_Values_slide__h61 (xk_Pc D kx_cl (kx_ty ca) (kw_h ad ca) ads xk_F sz [.ref (ad 61), .int x0, .int x1] u) (xk_Qc D kx_cl (kw_h ad ca) ads (xo_v (.inl r)) u') (xk_A ads sz) := by
  unfold fm_Values_slide__h61 at h
  refine xk_con (by decide) htr hok (Nat.le_of_ble_eq_true rfl) (fun p e s m below meth c ls C hne hl hP => ?_)
  have hx := C.1.1
  have hb := C.1.2.1
  have hS : va_S (xk_A ads s.heap.size) s.heap s.heap [] := va_S.rf
  have hl : lv_has ls 5 [(0, .ref (ad 61)), (1, .int x0), (2, .int x1)] := hl
  refine lv_aload_n hx hb dd_Values_slide_0 rfl (lv_at hl 0 rfl) ?_
  refine gf_h_Values_61_top C hP dd_Values_slide_1 ?_
  refine lv_iload_n hx hb dd_Values_slide_4 rfl (lv_at hl 1 rfl) ?_
  refine lv_isub hx hb dd_Values_slide_5 ?_
  obtain ⟨a1, ea1, h⟩ := xp_let h
  refine xr_nami ea1 ?_
  refine lv_istore_n (lv' := [(3, .int a1), (0, .ref (ad 61)), (1, .int x0), (2, .int x1)]) hx hb dd_Values_slide_6 rfl hl (by decide) rfl (fun ls hl => ?_)
  refine lv_iconst (v := 0) hx hb dd_Values_slide_7 (by decide) ?_
  refine lv_istore (lv' := [(4, .int (0 : Int32)), (3, .int a1), (0, .ref (ad 61)), (1, .int x0), (2, .int x1)]) hx hb dd_Values_slide_8 hl (by decide) rfl (fun ls hl => ?_)
  exact wj_Values_slide__h61_10 htr C hne h hP hS (lv_sub hl [2, 3, 4, 1, 0] rfl)
abbrev rm_Code_endOf : Room := { frames := 1, cells := 1, slots := 6, locals := 0 }
noncomputable def fm_Code_endOf (x0 : Int32) (u : xk_St) : Option (Int32 × xk_St) :=
  (if x0 < 0 ∨ 8192 ≤ x0.toNatClampNeg then none else xs_let (u.2.2.1 9 x0.toNatClampNeg) fun a1 => if a1 < 0 ∨ 8192 ≤ a1.toNatClampNeg then none else if (u.2.2.1 7 a1.toNatClampNeg) = (5 : Int32) then ((if a1 < 0 ∨ 8192 ≤ a1.toNatClampNeg then none else some ((u.2.2.1 9 a1.toNatClampNeg), u))) else (some (a1, u)))
set_option maxHeartbeats 4000000 in
set_option maxRecDepth 100000 in
theorem ct_Code_endOf {l : Launch} {D : va_G} {ad : Nat → Nat} {ca : Nat → ClassId} {ads : List Nat} (htr : l.stackTraces = false) (hok : xk_ok (kw_h ad ca) ads) {x0 : Int32} {u u' : xk_St} {r : Int32} (h : fm_Code_endOf x0 u = some (r, u')) :
    ∀ sz, xk_Met l ⟨"ModuleHouse$Code", "endOf", "(I)I"⟩ (Cond.code ⟨"ModuleHouse$Code", "endOf", "(I)I"⟩ prog_3_method_7_code 3 (some .int) :: xk_gd) rm_Code_endOf (xk_Pc D kx_cl (kx_ty ca) (kw_h ad ca) ads xk_F sz [.ref (ad 12), .int x0] u) (xk_Qc D kx_cl (kw_h ad ca) ads (xo_i (.inl r)) u') (xk_A ads sz) := by
  unfold fm_Code_endOf at h
  refine xk_con (by decide) htr hok (Nat.le_of_ble_eq_true rfl) (fun p e s m below meth c ls C hne hl hP => ?_)
  have hx := C.1.1
  have hb := C.1.2.1
  have hS : va_S (xk_A ads s.heap.size) s.heap s.heap [] := va_S.rf
  have hl : lv_has ls 3 [(0, .ref (ad 12)), (1, .int x0)] := hl
  refine lv_aload_n hx hb dd_Code_endOf_0 rfl (lv_at hl 0 rfl) ?_
  refine gf_h_Code_12_mate C hP dd_Code_endOf_1 ?_
  refine lv_iload_n hx hb dd_Code_endOf_4 rfl (lv_at hl 1 rfl) ?_
  obtain ⟨hi, h⟩ := xp_g h
  refine al_h_16 C hP hi dd_Code_endOf_5 ?_
  obtain ⟨a1, ea1, h⟩ := xp_let h
  refine xr_nami ea1 ?_
  refine lv_istore_n (lv' := [(2, .int a1), (0, .ref (ad 12)), (1, .int x0)]) hx hb dd_Code_endOf_6 rfl hl (by decide) rfl (fun ls hl => ?_)
  refine lv_aload_n hx hb dd_Code_endOf_7 rfl (lv_at hl 1 rfl) ?_
  refine gf_h_Code_12_op C hP dd_Code_endOf_8 ?_
  refine lv_iload_n hx hb dd_Code_endOf_11 rfl (lv_at hl 0 rfl) ?_
  obtain ⟨hi, h⟩ := xp_g h
  refine al_h_13 C hP hi dd_Code_endOf_12 ?_
  refine lv_iconst (v := 5) hx hb dd_Code_endOf_13 (by decide) ?_
  refine lv_icmp_ne (tgt := 26) hx hb dd_Code_endOf_14 (by decide) (fun hc => ?_) (fun hc => ?_)
  · have h := xp_f hc h
    refine lv_iload_n hx hb dd_Code_endOf_26 rfl (lv_at hl 0 rfl) ?_
    obtain ⟨rfl, rfl⟩ := xp_r h
    exact xr_iret C hP hS dd_Code_endOf_27
  · have h := xp_t hc h
    refine lv_aload_n hx hb dd_Code_endOf_17 rfl (lv_at hl 1 rfl) ?_
    refine gf_h_Code_12_mate C hP dd_Code_endOf_18 ?_
    refine lv_iload_n hx hb dd_Code_endOf_21 rfl (lv_at hl 0 rfl) ?_
    obtain ⟨hi, h⟩ := xp_g h
    refine al_h_16 C hP hi dd_Code_endOf_22 ?_
    refine lv_goto (tgt := 27) hx hb dd_Code_endOf_23 (by decide) ?_
    obtain ⟨rfl, rfl⟩ := xp_r h
    exact xr_iret C hP hS dd_Code_endOf_27
abbrev rm_Machine_leave : Room := { frames := 3, cells := 1, slots := 6, locals := 47 }
noncomputable def fm_Machine_leave (fu : Nat) (u : xk_St) : Option (Unit × xk_St) :=
  (xs_let (xs_I u 24 ((u.1 24) - (1 : Int32))) fun u1 => if (u1.1 24) < 0 ∨ 60 ≤ (u1.1 24).toNatClampNeg then none else if (u1.2.2.1 48 (u1.1 24).toNatClampNeg) < 0 ∨ 65 ≤ (u1.2.2.1 48 (u1.1 24).toNatClampNeg).toNatClampNeg then none else if (u1.2.2.1 12 (u1.2.2.1 48 (u1.1 24).toNatClampNeg).toNatClampNeg) < 0 ∨ 65 ≤ (u1.2.2.1 12 (u1.2.2.1 48 (u1.1 24).toNatClampNeg).toNatClampNeg).toNatClampNeg then none else if (u1.1 24) < 0 ∨ 60 ≤ (u1.1 24).toNatClampNeg then none else xs_seq (fm_Values_slide__h61 fu (u1.2.2.1 4 (u1.2.2.1 12 (u1.2.2.1 48 (u1.1 24).toNatClampNeg).toNatClampNeg).toNatClampNeg) (u1.2.2.1 49 (u1.1 24).toNatClampNeg) u1) fun _ u2 => if (u2.1 24) < 0 ∨ 60 ≤ (u2.1 24).toNatClampNeg then none else xs_let (xs_I u2 26 (u2.2.2.1 50 (u2.1 24).toNatClampNeg)) fun u3 => if (u3.1 24) ≤ (0 : Int32) then (some ((()), u3)) else ((if ((u3.1 24) - (1 : Int32)) < 0 ∨ 60 ≤ ((u3.1 24) - (1 : Int32)).toNatClampNeg then none else if ((u3.1 24) - (1 : Int32)) < 0 ∨ 60 ≤ ((u3.1 24) - (1 : Int32)).toNatClampNeg then none else if (u3.2.2.1 48 ((u3.1 24) - (1 : Int32)).toNatClampNeg) < 0 ∨ 65 ≤ (u3.2.2.1 48 ((u3.1 24) - (1 : Int32)).toNatClampNeg).toNatClampNeg then none else xs_let (xs_I u3 25 ((u3.2.2.1 49 ((u3.1 24) - (1 : Int32)).toNatClampNeg) + (u3.2.2.1 14 (u3.2.2.1 48 ((u3.1 24) - (1 : Int32)).toNatClampNeg).toNatClampNeg))) fun u4 => some ((()), u4))))
set_option maxHeartbeats 4000000 in
set_option maxRecDepth 100000 in
theorem ct_Machine_leave {l : Launch} {D : va_G} {ad : Nat → Nat} {ca : Nat → ClassId} {ads : List Nat} (htr : l.stackTraces = false) (hok : xk_ok (kw_h ad ca) ads) {fu : Nat} {u u' : xk_St} {r : Unit} (h : fm_Machine_leave fu u = some (r, u')) :
    ∀ sz, xk_Met l ⟨"ModuleHouse$Machine", "leave", "()V"⟩ (Cond.code ⟨"ModuleHouse$Machine", "leave", "()V"⟩ prog_5_method_10_code 1 none :: xk_gd) rm_Machine_leave (xk_Pc D kx_cl (kx_ty ca) (kw_h ad ca) ads xk_F sz [.ref (ad 60)] u) (xk_Qc D kx_cl (kw_h ad ca) ads (xo_v (.inl r)) u') (xk_A ads sz) := by
  unfold fm_Machine_leave at h
  refine xk_con (by decide) htr hok (Nat.le_of_ble_eq_true rfl) (fun p e s m below meth c ls C hne hl hP => ?_)
  have hx := C.1.1
  have hb := C.1.2.1
  have hS : va_S (xk_A ads s.heap.size) s.heap s.heap [] := va_S.rf
  have hl : lv_has ls 1 [(0, .ref (ad 60))] := hl
  refine lv_aload_n hx hb dd_Machine_leave_0 rfl (lv_at hl 0 rfl) ?_
  refine lv_dup hx hb dd_Machine_leave_1 rfl ?_
  refine gf_h_Machine_60_depth C hP dd_Machine_leave_2 ?_
  refine lv_iconst (v := 1) hx hb dd_Machine_leave_5 (by decide) ?_
  refine lv_isub hx hb dd_Machine_leave_6 ?_
  refine pf_h_Machine_60_depth C hP hS dd_Machine_leave_7 (fun H locs hP hS => ?_)
  obtain ⟨u1, eu1, h⟩ := xp_let h
  rw [← eu1] at hP
  refine lv_aload_n hx hb dd_Machine_leave_10 rfl (lv_at hl 0 rfl) ?_
  refine gf_h_Machine_60_values C hP dd_Machine_leave_11 ?_
  refine lv_aload_n hx hb dd_Machine_leave_14 rfl (lv_at hl 0 rfl) ?_
  refine gf_h_Machine_60_types C hP dd_Machine_leave_15 ?_
  refine gf_h_Machine_6_results C hP dd_Machine_leave_18 ?_
  refine lv_aload_n hx hb dd_Machine_leave_21 rfl (lv_at hl 0 rfl) ?_
  refine gf_h_Machine_60_module C hP dd_Machine_leave_22 ?_
  refine gf_h_Machine_4_functions C hP dd_Machine_leave_25 ?_
  refine gf_h_Machine_19_kind C hP dd_Machine_leave_28 ?_
  refine lv_aload_n hx hb dd_Machine_leave_31 rfl (lv_at hl 0 rfl) ?_
  refine gf_h_Machine_60_function C hP dd_Machine_leave_32 ?_
  refine lv_aload_n hx hb dd_Machine_leave_35 rfl (lv_at hl 0 rfl) ?_
  refine gf_h_Machine_60_depth C hP dd_Machine_leave_36 ?_
  obtain ⟨hi, h⟩ := xp_g h
  refine al_h_80 C hP hi dd_Machine_leave_39 ?_
  obtain ⟨hi, h⟩ := xp_g h
  refine al_h_20 C hP hi dd_Machine_leave_40 ?_
  obtain ⟨hi, h⟩ := xp_g h
  refine al_h_9 C hP hi dd_Machine_leave_41 ?_
  refine lv_aload_n hx hb dd_Machine_leave_42 rfl (lv_at hl 0 rfl) ?_
  refine gf_h_Machine_60_base C hP dd_Machine_leave_43 ?_
  refine lv_aload_n hx hb dd_Machine_leave_46 rfl (lv_at hl 0 rfl) ?_
  refine gf_h_Machine_60_depth C hP dd_Machine_leave_47 ?_
  obtain ⟨hi, h⟩ := xp_g h
  refine al_h_81 C hP hi dd_Machine_leave_50 ?_
  obtain ⟨rx, u2, hq, h⟩ := xp_seq h
  refine xk_goesV (xr_V (As := [.int (u1.2.2.1 4 (u1.2.2.1 12 (u1.2.2.1 48 (u1.1 24).toNatClampNeg).toNatClampNeg).toNatClampNeg), .int (u1.2.2.1 49 (u1.1 24).toNatClampNeg)]) (rest := []) C hP hS (ct_Values_slide__h61 htr hok hq) kq_Machine_229 61 10 rfl rfl ⟨rfl, rfl, Nat.le_of_ble_eq_true rfl, Nat.le_of_ble_eq_true rfl⟩ ⟨Nat.le_of_ble_eq_true rfl, Nat.le_of_ble_eq_true rfl⟩ hl.1 rfl rfl (Nat.le_of_ble_eq_true rfl) dd_Machine_leave_51) hS (fun H locs hP hS => ?_)
  clear hq
  refine lv_aload_n hx hb dd_Machine_leave_54 rfl (lv_at hl 0 rfl) ?_
  refine lv_aload_n hx hb dd_Machine_leave_55 rfl (lv_at hl 0 rfl) ?_
  refine gf_h_Machine_60_back C hP dd_Machine_leave_56 ?_
  refine lv_aload_n hx hb dd_Machine_leave_59 rfl (lv_at hl 0 rfl) ?_
  refine gf_h_Machine_60_depth C hP dd_Machine_leave_60 ?_
  obtain ⟨hi, h⟩ := xp_g h
  refine al_h_82 C hP hi dd_Machine_leave_63 ?_
  refine pf_h_Machine_60_next C hP hS dd_Machine_leave_64 (fun H locs hP hS => ?_)
  obtain ⟨u3, eu3, h⟩ := xp_let h
  rw [← eu3] at hP
  refine lv_aload_n hx hb dd_Machine_leave_67 rfl (lv_at hl 0 rfl) ?_
  refine gf_h_Machine_60_depth C hP dd_Machine_leave_68 ?_
  refine lv_if_le (tgt := 112) hx hb dd_Machine_leave_71 (by decide) (fun hc => ?_) (fun hc => ?_)
  · have h := xp_t hc h
    obtain ⟨rfl, rfl⟩ := xp_r h
    exact xr_vret C hP hS dd_Machine_leave_112
  · have h := xp_f hc h
    refine lv_aload_n hx hb dd_Machine_leave_74 rfl (lv_at hl 0 rfl) ?_
    refine lv_aload_n hx hb dd_Machine_leave_75 rfl (lv_at hl 0 rfl) ?_
    refine gf_h_Machine_60_base C hP dd_Machine_leave_76 ?_
    refine lv_aload_n hx hb dd_Machine_leave_79 rfl (lv_at hl 0 rfl) ?_
    refine gf_h_Machine_60_depth C hP dd_Machine_leave_80 ?_
    refine lv_iconst (v := 1) hx hb dd_Machine_leave_83 (by decide) ?_
    refine lv_isub hx hb dd_Machine_leave_84 ?_
    obtain ⟨hi, h⟩ := xp_g h
    refine al_h_81 C hP hi dd_Machine_leave_85 ?_
    refine lv_aload_n hx hb dd_Machine_leave_86 rfl (lv_at hl 0 rfl) ?_
    refine gf_h_Machine_60_module C hP dd_Machine_leave_87 ?_
    refine gf_h_Machine_4_functions C hP dd_Machine_leave_90 ?_
    refine gf_h_Machine_19_second C hP dd_Machine_leave_93 ?_
    refine lv_aload_n hx hb dd_Machine_leave_96 rfl (lv_at hl 0 rfl) ?_
    refine gf_h_Machine_60_function C hP dd_Machine_leave_97 ?_
    refine lv_aload_n hx hb dd_Machine_leave_100 rfl (lv_at hl 0 rfl) ?_
    refine gf_h_Machine_60_depth C hP dd_Machine_leave_101 ?_
    refine lv_iconst (v := 1) hx hb dd_Machine_leave_104 (by decide) ?_
    refine lv_isub hx hb dd_Machine_leave_105 ?_
    obtain ⟨hi, h⟩ := xp_g h
    refine al_h_80 C hP hi dd_Machine_leave_106 ?_
    obtain ⟨hi, h⟩ := xp_g h
    refine al_h_22 C hP hi dd_Machine_leave_107 ?_
    refine lv_iadd hx hb dd_Machine_leave_108 ?_
    refine pf_h_Machine_60_floor C hP hS dd_Machine_leave_109 (fun H locs hP hS => ?_)
    obtain ⟨u4, eu4, h⟩ := xp_let h
    rw [← eu4] at hP
    obtain ⟨rfl, rfl⟩ := xp_r h
    exact xr_vret C hP hS dd_Machine_leave_112
abbrev rm_Machine_branch : Room := { frames := 4, cells := 1, slots := 6, locals := 67 }
noncomputable def jb_Machine_branch_34 (fu : Nat) (b1 : Int32) (b2 : Int32) (u : xk_St) : Option (Unit × xk_St) :=
  (if b1 < 0 ∨ 8192 ≤ b1.toNatClampNeg then none else if b1 < 0 ∨ 8192 ≤ b1.toNatClampNeg then none else xs_seq (fm_Values_slide__h61 fu ((u.2.2.2 2 b1.toNatClampNeg).toInt32) ((u.1 25) + (u.2.2.1 10 b1.toNatClampNeg)) u) fun _ u2 => if b2 = (3 : Int32) then ((xs_let (xs_I u2 26 ((1 : Int32) + b1)) fun u6 => some ((()), u6))) else ((xs_seq (fm_Code_endOf b1 u2) fun a3 u4 => xs_let (xs_I u4 26 ((1 : Int32) + a3)) fun u5 => some ((()), u5))))
noncomputable def fm_Machine_branch (fu : Nat) (x0 : Int32) (u : xk_St) : Option (Unit × xk_St) :=
  (if x0 < 0 ∨ 8192 ≤ x0.toNatClampNeg then none else xs_let (u.2.2.1 7 x0.toNatClampNeg) fun a1 => if a1 = (6 : Int32) then ((xs_seq (fm_Machine_leave fu u) fun _ u9 => some ((()), u9))) else (if a1 = (3 : Int32) then ((xs_seq (fm_Machine_spendTurn u) fun a7 u8 => if a7 = (0 : Int32) then (some ((()), u8)) else (jb_Machine_branch_34 fu x0 a1 u8))) else (jb_Machine_branch_34 fu x0 a1 u)))
set_option maxHeartbeats 4000000 in
set_option maxRecDepth 100000 in
theorem wj_Machine_branch_34 {p : Program} {l : Launch} {e : Env} {s : State} {m : MethodId} {args : Array Value} {below : List Frame} {meth : Method} {c : Code} {D : va_G} {ad : Nat → Nat} {ca : Nat → ClassId} {ads : List Nat} {fu : Nat} (htr : l.stackTraces = false) (C : xk_C D kx_cl (kx_ty ca) (kw_h ad ca) ads "ModuleHouse$Machine" prog_5_method_11_code 3 none p e s m args meth c) (hne : c.exceptionTable.isEmpty = true) {u' : xk_St} {r : Unit} {b1 : Int32} {b2 : Int32} {u : xk_St} {H : Heap} {locs : List Loc} {ls : Array Slot} (h : jb_Machine_branch_34 fu  b1 b2 u = some (r, u')) (hP : va_P D kx_cl (kw_h ad ca u) H) (hS : va_S (xk_A ads s.heap.size) s.heap H locs) (hl : lv_has ls 3 [(0, .ref (ad 60)), (1, .int b1), (2, .int b2)]) : W p l e rm_Machine_branch s m args below meth c H locs 0 0 (xk_MQ below (xk_Qc D kx_cl (kw_h ad ca) ads (xo_v (.inl r)) u') args s (xk_A ads s.heap.size)) (F0 m 34 ls []) := by
  have hx := C.1.1
  have hb := C.1.2.1
  have hok := C.2.2.1
  unfold jb_Machine_branch_34 at h
  refine lv_aload_n hx hb dd_Machine_branch_34 rfl (lv_at hl 0 rfl) ?_
  refine gf_h_Machine_60_values C hP dd_Machine_branch_35 ?_
  refine lv_aload_n hx hb dd_Machine_branch_38 rfl (lv_at hl 0 rfl) ?_
  refine gf_h_Machine_60_code C hP dd_Machine_branch_39 ?_
  refine gf_h_Machine_12_second C hP dd_Machine_branch_42 ?_
  refine lv_iload_n hx hb dd_Machine_branch_45 rfl (lv_at hl 1 rfl) ?_
  obtain ⟨hi, h⟩ := xp_g h
  refine al_h_15 C hP hi dd_Machine_branch_46 ?_
  refine lv_l2i hx hb dd_Machine_branch_47 rfl ?_
  refine lv_aload_n hx hb dd_Machine_branch_48 rfl (lv_at hl 0 rfl) ?_
  refine gf_h_Machine_60_floor C hP dd_Machine_branch_49 ?_
  refine lv_aload_n hx hb dd_Machine_branch_52 rfl (lv_at hl 0 rfl) ?_
  refine gf_h_Machine_60_code C hP dd_Machine_branch_53 ?_
  refine gf_h_Machine_12_height C hP dd_Machine_branch_56 ?_
  refine lv_iload_n hx hb dd_Machine_branch_59 rfl (lv_at hl 1 rfl) ?_
  obtain ⟨hi, h⟩ := xp_g h
  refine al_h_17 C hP hi dd_Machine_branch_60 ?_
  refine lv_iadd hx hb dd_Machine_branch_61 ?_
  obtain ⟨rx, u2, hq, h⟩ := xp_seq h
  refine xk_goesV (xr_V (As := [.int ((u.2.2.2 2 b1.toNatClampNeg).toInt32), .int ((u.1 25) + (u.2.2.1 10 b1.toNatClampNeg))]) (rest := []) C hP hS (ct_Values_slide__h61 htr hok hq) kq_Machine_229 61 10 rfl rfl ⟨rfl, rfl, Nat.le_of_ble_eq_true rfl, Nat.le_of_ble_eq_true rfl⟩ ⟨Nat.le_of_ble_eq_true rfl, Nat.le_of_ble_eq_true rfl⟩ hl.1 rfl rfl (Nat.le_of_ble_eq_true rfl) dd_Machine_branch_62) hS (fun H locs hP hS => ?_)
  clear hq
  refine lv_aload_n hx hb dd_Machine_branch_65 rfl (lv_at hl 0 rfl) ?_
  refine lv_iconst (v := 1) hx hb dd_Machine_branch_66 (by decide) ?_
  refine lv_iload_n hx hb dd_Machine_branch_67 rfl (lv_at hl 2 rfl) ?_
  refine lv_iconst (v := 3) hx hb dd_Machine_branch_68 (by decide) ?_
  refine lv_icmp_ne (tgt := 76) hx hb dd_Machine_branch_69 (by decide) (fun hc => ?_) (fun hc => ?_)
  · have h := xp_f hc h
    refine lv_aload_n hx hb dd_Machine_branch_76 rfl (lv_at hl 0 rfl) ?_
    refine gf_h_Machine_60_code C hP dd_Machine_branch_77 ?_
    refine lv_iload_n hx hb dd_Machine_branch_80 rfl (lv_at hl 1 rfl) ?_
    obtain ⟨a3, u4, hq, h⟩ := xp_seq h
    refine xk_goesI (xr_V (As := [.int b1]) (rest := [.int (1 : Int32), .ref (ad 60)]) C hP hS (ct_Code_endOf htr hok hq) kq_Machine_238 12 2 rfl rfl ⟨rfl, rfl, Nat.le_of_ble_eq_true rfl, Nat.le_of_ble_eq_true rfl⟩ ⟨Nat.le_of_ble_eq_true rfl, Nat.le_of_ble_eq_true rfl⟩ hl.1 rfl rfl (Nat.le_of_ble_eq_true rfl) dd_Machine_branch_81) hS (fun H locs hP hS => ?_)
    clear hq
    refine lv_iadd hx hb dd_Machine_branch_84 ?_
    refine pf_h_Machine_60_next C hP hS dd_Machine_branch_85 (fun H locs hP hS => ?_)
    obtain ⟨u5, eu5, h⟩ := xp_let h
    rw [← eu5] at hP
    obtain ⟨rfl, rfl⟩ := xp_r h
    exact xr_vret C hP hS dd_Machine_branch_88
  · have h := xp_t hc h
    refine lv_iload_n hx hb dd_Machine_branch_72 rfl (lv_at hl 1 rfl) ?_
    refine lv_goto (tgt := 84) hx hb dd_Machine_branch_73 (by decide) ?_
    refine lv_iadd hx hb dd_Machine_branch_84 ?_
    refine pf_h_Machine_60_next C hP hS dd_Machine_branch_85 (fun H locs hP hS => ?_)
    obtain ⟨u6, eu6, h⟩ := xp_let h
    rw [← eu6] at hP
    obtain ⟨rfl, rfl⟩ := xp_r h
    exact xr_vret C hP hS dd_Machine_branch_88
set_option maxHeartbeats 4000000 in
set_option maxRecDepth 100000 in
theorem ct_Machine_branch {l : Launch} {D : va_G} {ad : Nat → Nat} {ca : Nat → ClassId} {ads : List Nat} (htr : l.stackTraces = false) (hok : xk_ok (kw_h ad ca) ads) {fu : Nat} {x0 : Int32} {u u' : xk_St} {r : Unit} (h : fm_Machine_branch fu x0 u = some (r, u')) :
    ∀ sz, xk_Met l ⟨"ModuleHouse$Machine", "branch", "(I)V"⟩ (Cond.code ⟨"ModuleHouse$Machine", "branch", "(I)V"⟩ prog_5_method_11_code 3 none :: xk_gd) rm_Machine_branch (xk_Pc D kx_cl (kx_ty ca) (kw_h ad ca) ads xk_F sz [.ref (ad 60), .int x0] u) (xk_Qc D kx_cl (kw_h ad ca) ads (xo_v (.inl r)) u') (xk_A ads sz) := by
  unfold fm_Machine_branch at h
  refine xk_con (by decide) htr hok (Nat.le_of_ble_eq_true rfl) (fun p e s m below meth c ls C hne hl hP => ?_)
  have hx := C.1.1
  have hb := C.1.2.1
  have hS : va_S (xk_A ads s.heap.size) s.heap s.heap [] := va_S.rf
  have hl : lv_has ls 3 [(0, .ref (ad 60)), (1, .int x0)] := hl
  refine lv_aload_n hx hb dd_Machine_branch_0 rfl (lv_at hl 0 rfl) ?_
  refine gf_h_Machine_60_code C hP dd_Machine_branch_1 ?_
  refine gf_h_Machine_12_op C hP dd_Machine_branch_4 ?_
  refine lv_iload_n hx hb dd_Machine_branch_7 rfl (lv_at hl 1 rfl) ?_
  obtain ⟨hi, h⟩ := xp_g h
  refine al_h_13 C hP hi dd_Machine_branch_8 ?_
  obtain ⟨a1, ea1, h⟩ := xp_let h
  refine xr_nami ea1 ?_
  refine lv_istore_n (lv' := [(2, .int a1), (0, .ref (ad 60)), (1, .int x0)]) hx hb dd_Machine_branch_9 rfl hl (by decide) rfl (fun ls hl => ?_)
  refine lv_iload_n hx hb dd_Machine_branch_10 rfl (lv_at hl 0 rfl) ?_
  refine lv_bipush (v := 6) hx hb dd_Machine_branch_11 (by decide) ?_
  refine lv_icmp_ne (tgt := 21) hx hb dd_Machine_branch_13 (by decide) (fun hc => ?_) (fun hc => ?_)
  · have h := xp_f hc h
    refine lv_iload_n hx hb dd_Machine_branch_21 rfl (lv_at hl 0 rfl) ?_
    refine lv_iconst (v := 3) hx hb dd_Machine_branch_22 (by decide) ?_
    refine lv_icmp_ne (tgt := 34) hx hb dd_Machine_branch_23 (by decide) (fun hc => ?_) (fun hc => ?_)
    · have h := xp_f hc h
      exact wj_Machine_branch_34 htr C hne h hP hS (lv_sub hl [1, 2, 0] rfl)
    · have h := xp_t hc h
      refine lv_aload_n hx hb dd_Machine_branch_26 rfl (lv_at hl 1 rfl) ?_
      obtain ⟨a7, u8, hq, h⟩ := xp_seq h
      refine xk_goesI (xr_V (As := []) (rest := []) C hP hS (ct_Machine_spendTurn htr hok hq) kq_Machine_213 60 4 rfl rfl ⟨rfl, rfl, Nat.le_of_ble_eq_true rfl, Nat.le_of_ble_eq_true rfl⟩ ⟨Nat.le_of_ble_eq_true rfl, Nat.le_of_ble_eq_true rfl⟩ hl.1 rfl rfl (Nat.le_of_ble_eq_true rfl) dd_Machine_branch_27) hS (fun H locs hP hS => ?_)
      clear hq
      refine lv_if_ne (tgt := 34) hx hb dd_Machine_branch_30 (by decide) (fun hc => ?_) (fun hc => ?_)
      · have h := xp_f hc h
        exact wj_Machine_branch_34 htr C hne h hP hS (lv_sub hl [1, 2, 0] rfl)
      · have h := xp_t hc h
        obtain ⟨rfl, rfl⟩ := xp_r h
        exact xr_vret C hP hS dd_Machine_branch_33
  · have h := xp_t hc h
    refine lv_aload_n hx hb dd_Machine_branch_16 rfl (lv_at hl 1 rfl) ?_
    obtain ⟨rx, u9, hq, h⟩ := xp_seq h
    refine xk_goesV (xr_V (As := []) (rest := []) C hP hS (ct_Machine_leave htr hok hq) kq_Machine_232 60 4 rfl rfl ⟨rfl, rfl, Nat.le_of_ble_eq_true rfl, Nat.le_of_ble_eq_true rfl⟩ ⟨Nat.le_of_ble_eq_true rfl, Nat.le_of_ble_eq_true rfl⟩ hl.1 rfl rfl (Nat.le_of_ble_eq_true rfl) dd_Machine_branch_17) hS (fun H locs hP hS => ?_)
    clear hq
    obtain ⟨rfl, rfl⟩ := xp_r h
    exact xr_vret C hP hS dd_Machine_branch_20
abbrev rm_Machine_doReference : Room := { frames := 5, cells := 1, slots := 6, locals := 89 }
noncomputable def jb_Machine_doReference_72 (fu : Nat) (s0 : Int32) (u : xk_St) : Option (Unit × xk_St) :=
  (xs_seq (fm_Values_pushTruth__h61 s0 u) fun _ u4 => some ((()), u4))
noncomputable def jb_Machine_doReference_188 (fu : Nat) (b2 : Int32) (u : xk_St) : Option (Unit × xk_St) :=
  (if ((u.1 28) - (1 : Int32)) < 0 ∨ 18000 ≤ ((u.1 28) - (1 : Int32)).toNatClampNeg then none else if (u.2.2.2 10 ((u.1 28) - (1 : Int32)).toNatClampNeg) = (0 : Int64) then ((xs_seq (fm_Values_pop__h61 u) fun a6 u7 => some ((()), u7))) else ((if b2 < 0 ∨ 8192 ≤ b2.toNatClampNeg then none else xs_seq (fm_Machine_branch fu (u.2.2.1 9 b2.toNatClampNeg) u) fun _ u5 => some ((()), u5))))
noncomputable def jb_Machine_doReference_105 (fu : Nat) (s0 : Int32) (u : xk_St) : Option (Unit × xk_St) :=
  (xs_seq (fm_Values_pushTruth__h61 s0 u) fun _ u12 => some ((()), u12))
noncomputable def fm_Machine_doReference (fu : Nat) (x0 : Int32) (x1 : Int32) (u : xk_St) : Option (Unit × xk_St) :=
  if x0 = (208 : Int32) then ((xs_seq (fm_Values_pushReference__h61 (0 : Int64) u) fun _ u1 => some ((()), u1))) else if x0 = (209 : Int32) then ((xs_seq (fm_Values_pop__h61 u) fun a2 u3 => if a2 = (0 : Int64) then (jb_Machine_doReference_72 fu (1 : Int32) u3) else (jb_Machine_doReference_72 fu (0 : Int32) u3))) else if x0 = (210 : Int32) then (jb_Machine_doReference_188 fu x1 u) else if x0 = (211 : Int32) then ((xs_seq (fm_Values_pop__h61 u) fun a8 u9 => xs_seq (fm_Values_pop__h61 u9) fun a10 u11 => if a8 = a10 then (jb_Machine_doReference_105 fu (1 : Int32) u11) else (jb_Machine_doReference_105 fu (0 : Int32) u11))) else if x0 = (212 : Int32) then ((if ((u.1 28) - (1 : Int32)) < 0 ∨ 18000 ≤ ((u.1 28) - (1 : Int32)).toNatClampNeg then none else if (u.2.2.2 10 ((u.1 28) - (1 : Int32)).toNatClampNeg) = (0 : Int64) then ((xs_let (xs_I u 27 (8 : Int32)) fun u13 => some ((()), u13))) else (some ((()), u)))) else if x0 = (213 : Int32) then ((if ((u.1 28) - (1 : Int32)) < 0 ∨ 18000 ≤ ((u.1 28) - (1 : Int32)).toNatClampNeg then none else if (u.2.2.2 10 ((u.1 28) - (1 : Int32)).toNatClampNeg) = (0 : Int64) then ((xs_seq (fm_Values_pop__h61 u) fun a14 u15 => if x1 < 0 ∨ 8192 ≤ x1.toNatClampNeg then none else xs_seq (fm_Machine_branch fu (u15.2.2.1 9 x1.toNatClampNeg) u15) fun _ u16 => some ((()), u16))) else (some ((()), u)))) else (jb_Machine_doReference_188 fu x1 u)
set_option maxHeartbeats 4000000 in
set_option maxRecDepth 100000 in
theorem wj_Machine_doReference_72 {p : Program} {l : Launch} {e : Env} {s : State} {m : MethodId} {args : Array Value} {below : List Frame} {meth : Method} {c : Code} {D : va_G} {ad : Nat → Nat} {ca : Nat → ClassId} {ads : List Nat} {fu : Nat} (htr : l.stackTraces = false) (C : xk_C D kx_cl (kx_ty ca) (kw_h ad ca) ads "ModuleHouse$Machine" prog_5_method_20_code 3 none p e s m args meth c) (hne : c.exceptionTable.isEmpty = true) {u' : xk_St} {r : Unit} {s0 : Int32} {u : xk_St} {H : Heap} {locs : List Loc} {ls : Array Slot} (h : jb_Machine_doReference_72 fu  s0 u = some (r, u')) (hP : va_P D kx_cl (kw_h ad ca u) H) (hS : va_S (xk_A ads s.heap.size) s.heap H locs) (hl : lv_has ls 3 []) : W p l e rm_Machine_doReference s m args below meth c H locs 0 0 (xk_MQ below (xk_Qc D kx_cl (kw_h ad ca) ads (xo_v (.inl r)) u') args s (xk_A ads s.heap.size)) (F0 m 72 ls [.int s0, .ref (ad 61)]) := by
  have hx := C.1.1
  have hb := C.1.2.1
  have hok := C.2.2.1
  unfold jb_Machine_doReference_72 at h
  obtain ⟨rx, u4, hq, h⟩ := xp_seq h
  refine xk_goesV (xr_V (As := [.int s0]) (rest := []) C hP hS (ct_Values_pushTruth__h61 htr hok hq) kq_Machine_301 61 10 rfl rfl ⟨rfl, rfl, Nat.le_of_ble_eq_true rfl, Nat.le_of_ble_eq_true rfl⟩ ⟨Nat.le_of_ble_eq_true rfl, Nat.le_of_ble_eq_true rfl⟩ hl.1 rfl rfl (Nat.le_of_ble_eq_true rfl) dd_Machine_doReference_72) hS (fun H locs hP hS => ?_)
  clear hq
  refine lv_goto (tgt := 234) hx hb dd_Machine_doReference_75 (by decide) ?_
  obtain ⟨rfl, rfl⟩ := xp_r h
  exact xr_vret C hP hS dd_Machine_doReference_234
set_option maxHeartbeats 4000000 in
set_option maxRecDepth 100000 in
theorem wj_Machine_doReference_188 {p : Program} {l : Launch} {e : Env} {s : State} {m : MethodId} {args : Array Value} {below : List Frame} {meth : Method} {c : Code} {D : va_G} {ad : Nat → Nat} {ca : Nat → ClassId} {ads : List Nat} {fu : Nat} (htr : l.stackTraces = false) (C : xk_C D kx_cl (kx_ty ca) (kw_h ad ca) ads "ModuleHouse$Machine" prog_5_method_20_code 3 none p e s m args meth c) (hne : c.exceptionTable.isEmpty = true) {u' : xk_St} {r : Unit} {b2 : Int32} {u : xk_St} {H : Heap} {locs : List Loc} {ls : Array Slot} (h : jb_Machine_doReference_188 fu  b2 u = some (r, u')) (hP : va_P D kx_cl (kw_h ad ca u) H) (hS : va_S (xk_A ads s.heap.size) s.heap H locs) (hl : lv_has ls 3 [(0, .ref (ad 60)), (2, .int b2)]) : W p l e rm_Machine_doReference s m args below meth c H locs 0 0 (xk_MQ below (xk_Qc D kx_cl (kw_h ad ca) ads (xo_v (.inl r)) u') args s (xk_A ads s.heap.size)) (F0 m 188 ls []) := by
  have hx := C.1.1
  have hb := C.1.2.1
  have hok := C.2.2.1
  unfold jb_Machine_doReference_188 at h
  refine lv_aload_n hx hb dd_Machine_doReference_188 rfl (lv_at hl 0 rfl) ?_
  refine gf_h_Machine_60_values C hP dd_Machine_doReference_189 ?_
  refine gf_h_Machine_61_value C hP dd_Machine_doReference_192 ?_
  refine lv_aload_n hx hb dd_Machine_doReference_195 rfl (lv_at hl 0 rfl) ?_
  refine gf_h_Machine_60_values C hP dd_Machine_doReference_196 ?_
  refine gf_h_Machine_61_top C hP dd_Machine_doReference_199 ?_
  refine lv_iconst (v := 1) hx hb dd_Machine_doReference_202 (by decide) ?_
  refine lv_isub hx hb dd_Machine_doReference_203 ?_
  obtain ⟨hi, h⟩ := xp_g h
  refine al_h_62 C hP hi dd_Machine_doReference_204 ?_
  refine lv_lconst (v := 0) hx hb dd_Machine_doReference_205 (by decide) ?_
  refine xr_lc_ne (tgt := 221) hx hb dd_Machine_doReference_206 dd_Machine_doReference_207 (by decide) (fun hc => ?_) (fun hc => ?_)
  · have h := xp_f hc h
    refine lv_aload_n hx hb dd_Machine_doReference_221 rfl (lv_at hl 0 rfl) ?_
    refine lv_aload_n hx hb dd_Machine_doReference_222 rfl (lv_at hl 0 rfl) ?_
    refine gf_h_Machine_60_code C hP dd_Machine_doReference_223 ?_
    refine gf_h_Machine_12_mate C hP dd_Machine_doReference_226 ?_
    refine lv_iload_n hx hb dd_Machine_doReference_229 rfl (lv_at hl 1 rfl) ?_
    obtain ⟨hi, h⟩ := xp_g h
    refine al_h_16 C hP hi dd_Machine_doReference_230 ?_
    obtain ⟨rx, u5, hq, h⟩ := xp_seq h
    refine xk_goesV (xr_V (As := [.int (u.2.2.1 9 b2.toNatClampNeg)]) (rest := []) C hP hS (ct_Machine_branch htr hok hq) kq_Machine_252 60 4 rfl rfl ⟨rfl, rfl, Nat.le_of_ble_eq_true rfl, Nat.le_of_ble_eq_true rfl⟩ ⟨Nat.le_of_ble_eq_true rfl, Nat.le_of_ble_eq_true rfl⟩ hl.1 rfl rfl (Nat.le_of_ble_eq_true rfl) dd_Machine_doReference_231) hS (fun H locs hP hS => ?_)
    clear hq
    obtain ⟨rfl, rfl⟩ := xp_r h
    exact xr_vret C hP hS dd_Machine_doReference_234
  · have h := xp_t hc h
    refine lv_aload_n hx hb dd_Machine_doReference_210 rfl (lv_at hl 0 rfl) ?_
    refine gf_h_Machine_60_values C hP dd_Machine_doReference_211 ?_
    obtain ⟨a6, u7, hq, h⟩ := xp_seq h
    refine xk_goesL (xr_V (As := []) (rest := []) C hP hS (ct_Values_pop__h61 htr hok hq) kq_Machine_245 61 10 rfl rfl ⟨rfl, rfl, Nat.le_of_ble_eq_true rfl, Nat.le_of_ble_eq_true rfl⟩ ⟨Nat.le_of_ble_eq_true rfl, Nat.le_of_ble_eq_true rfl⟩ hl.1 rfl rfl (Nat.le_of_ble_eq_true rfl) dd_Machine_doReference_214) hS (fun H locs hP hS => ?_)
    clear hq
    refine lv_pop2_2 hx hb dd_Machine_doReference_217 rfl ?_
    refine lv_goto (tgt := 234) hx hb dd_Machine_doReference_218 (by decide) ?_
    obtain ⟨rfl, rfl⟩ := xp_r h
    exact xr_vret C hP hS dd_Machine_doReference_234
set_option maxHeartbeats 4000000 in
set_option maxRecDepth 100000 in
theorem wj_Machine_doReference_105 {p : Program} {l : Launch} {e : Env} {s : State} {m : MethodId} {args : Array Value} {below : List Frame} {meth : Method} {c : Code} {D : va_G} {ad : Nat → Nat} {ca : Nat → ClassId} {ads : List Nat} {fu : Nat} (htr : l.stackTraces = false) (C : xk_C D kx_cl (kx_ty ca) (kw_h ad ca) ads "ModuleHouse$Machine" prog_5_method_20_code 3 none p e s m args meth c) (hne : c.exceptionTable.isEmpty = true) {u' : xk_St} {r : Unit} {s0 : Int32} {u : xk_St} {H : Heap} {locs : List Loc} {ls : Array Slot} (h : jb_Machine_doReference_105 fu  s0 u = some (r, u')) (hP : va_P D kx_cl (kw_h ad ca u) H) (hS : va_S (xk_A ads s.heap.size) s.heap H locs) (hl : lv_has ls 3 []) : W p l e rm_Machine_doReference s m args below meth c H locs 0 0 (xk_MQ below (xk_Qc D kx_cl (kw_h ad ca) ads (xo_v (.inl r)) u') args s (xk_A ads s.heap.size)) (F0 m 105 ls [.int s0, .ref (ad 61)]) := by
  have hx := C.1.1
  have hb := C.1.2.1
  have hok := C.2.2.1
  unfold jb_Machine_doReference_105 at h
  obtain ⟨rx, u12, hq, h⟩ := xp_seq h
  refine xk_goesV (xr_V (As := [.int s0]) (rest := []) C hP hS (ct_Values_pushTruth__h61 htr hok hq) kq_Machine_301 61 10 rfl rfl ⟨rfl, rfl, Nat.le_of_ble_eq_true rfl, Nat.le_of_ble_eq_true rfl⟩ ⟨Nat.le_of_ble_eq_true rfl, Nat.le_of_ble_eq_true rfl⟩ hl.1 rfl rfl (Nat.le_of_ble_eq_true rfl) dd_Machine_doReference_105) hS (fun H locs hP hS => ?_)
  clear hq
  refine lv_goto (tgt := 234) hx hb dd_Machine_doReference_108 (by decide) ?_
  obtain ⟨rfl, rfl⟩ := xp_r h
  exact xr_vret C hP hS dd_Machine_doReference_234
set_option maxHeartbeats 4000000 in
set_option maxRecDepth 100000 in
theorem ct_Machine_doReference {l : Launch} {D : va_G} {ad : Nat → Nat} {ca : Nat → ClassId} {ads : List Nat} (htr : l.stackTraces = false) (hok : xk_ok (kw_h ad ca) ads) {fu : Nat} {x0 : Int32} {x1 : Int32} {u u' : xk_St} {r : Unit} (h : fm_Machine_doReference fu x0 x1 u = some (r, u')) :
    ∀ sz, xk_Met l ⟨"ModuleHouse$Machine", "doReference", "(II)V"⟩ (Cond.code ⟨"ModuleHouse$Machine", "doReference", "(II)V"⟩ prog_5_method_20_code 3 none :: xk_gd) rm_Machine_doReference (xk_Pc D kx_cl (kx_ty ca) (kw_h ad ca) ads xk_F sz [.ref (ad 60), .int x0, .int x1] u) (xk_Qc D kx_cl (kw_h ad ca) ads (xo_v (.inl r)) u') (xk_A ads sz) := by
  unfold fm_Machine_doReference at h
  refine xk_con (by decide) htr hok (Nat.le_of_ble_eq_true rfl) (fun p e s m below meth c ls C hne hl hP => ?_)
  have hx := C.1.1
  have hb := C.1.2.1
  have hS : va_S (xk_A ads s.heap.size) s.heap s.heap [] := va_S.rf
  have hl : lv_has ls 3 [(0, .ref (ad 60)), (1, .int x0), (2, .int x1)] := hl
  refine lv_iload_n hx hb dd_Machine_doReference_0 rfl (lv_at hl 1 rfl) ?_
  by_cases hc0 : x0 = (208 : Int32)
  · have h := xp_t hc0 h
    refine lv_tableIn (off := 39) (tgt := 40) hx hb dd_Machine_doReference_1 (by rw [hc0]; decide) (by rw [hc0]; decide) (by rw [hc0]; rfl) (by decide) ?_
    refine lv_aload_n hx hb dd_Machine_doReference_40 rfl (lv_at hl 0 rfl) ?_
    refine gf_h_Machine_60_values C hP dd_Machine_doReference_41 ?_
    refine lv_lconst (v := 0) hx hb dd_Machine_doReference_44 (by decide) ?_
    obtain ⟨rx, u1, hq, h⟩ := xp_seq h
    refine xk_goesV (xr_V (As := [.long (0 : Int64)]) (rest := []) C hP hS (ct_Values_pushReference__h61 htr hok hq) kq_Machine_91 61 10 rfl rfl ⟨rfl, rfl, Nat.le_of_ble_eq_true rfl, Nat.le_of_ble_eq_true rfl⟩ ⟨Nat.le_of_ble_eq_true rfl, Nat.le_of_ble_eq_true rfl⟩ hl.1 rfl rfl (Nat.le_of_ble_eq_true rfl) dd_Machine_doReference_45) hS (fun H locs hP hS => ?_)
    clear hq
    refine lv_goto (tgt := 234) hx hb dd_Machine_doReference_48 (by decide) ?_
    obtain ⟨rfl, rfl⟩ := xp_r h
    exact xr_vret C hP hS dd_Machine_doReference_234
  have h := xp_f hc0 h
  by_cases hc1 : x0 = (209 : Int32)
  · have h := xp_t hc1 h
    refine lv_tableIn (off := 50) (tgt := 51) hx hb dd_Machine_doReference_1 (by rw [hc1]; decide) (by rw [hc1]; decide) (by rw [hc1]; rfl) (by decide) ?_
    refine lv_aload_n hx hb dd_Machine_doReference_51 rfl (lv_at hl 0 rfl) ?_
    refine gf_h_Machine_60_values C hP dd_Machine_doReference_52 ?_
    refine lv_aload_n hx hb dd_Machine_doReference_55 rfl (lv_at hl 0 rfl) ?_
    refine gf_h_Machine_60_values C hP dd_Machine_doReference_56 ?_
    obtain ⟨a2, u3, hq, h⟩ := xp_seq h
    refine xk_goesL (xr_V (As := []) (rest := [.ref (ad 61)]) C hP hS (ct_Values_pop__h61 htr hok hq) kq_Machine_245 61 10 rfl rfl ⟨rfl, rfl, Nat.le_of_ble_eq_true rfl, Nat.le_of_ble_eq_true rfl⟩ ⟨Nat.le_of_ble_eq_true rfl, Nat.le_of_ble_eq_true rfl⟩ hl.1 rfl rfl (Nat.le_of_ble_eq_true rfl) dd_Machine_doReference_59) hS (fun H locs hP hS => ?_)
    clear hq
    refine lv_lconst (v := 0) hx hb dd_Machine_doReference_62 (by decide) ?_
    refine xr_lc_ne (tgt := 71) hx hb dd_Machine_doReference_63 dd_Machine_doReference_64 (by decide) (fun hc => ?_) (fun hc => ?_)
    · have h := xp_f hc h
      refine lv_iconst (v := 0) hx hb dd_Machine_doReference_71 (by decide) ?_
      exact wj_Machine_doReference_72 htr C hne h hP hS (lv_sub hl [] rfl)
    · have h := xp_t hc h
      refine lv_iconst (v := 1) hx hb dd_Machine_doReference_67 (by decide) ?_
      refine lv_goto (tgt := 72) hx hb dd_Machine_doReference_68 (by decide) ?_
      exact wj_Machine_doReference_72 htr C hne h hP hS (lv_sub hl [] rfl)
  have h := xp_f hc1 h
  by_cases hc2 : x0 = (210 : Int32)
  · have h := xp_t hc2 h
    refine lv_tableIn (off := 187) (tgt := 188) hx hb dd_Machine_doReference_1 (by rw [hc2]; decide) (by rw [hc2]; decide) (by rw [hc2]; rfl) (by decide) ?_
    exact wj_Machine_doReference_188 htr C hne h hP hS (lv_sub hl [0, 2] rfl)
  have h := xp_f hc2 h
  by_cases hc3 : x0 = (211 : Int32)
  · have h := xp_t hc3 h
    refine lv_tableIn (off := 77) (tgt := 78) hx hb dd_Machine_doReference_1 (by rw [hc3]; decide) (by rw [hc3]; decide) (by rw [hc3]; rfl) (by decide) ?_
    refine lv_aload_n hx hb dd_Machine_doReference_78 rfl (lv_at hl 0 rfl) ?_
    refine gf_h_Machine_60_values C hP dd_Machine_doReference_79 ?_
    refine lv_aload_n hx hb dd_Machine_doReference_82 rfl (lv_at hl 0 rfl) ?_
    refine gf_h_Machine_60_values C hP dd_Machine_doReference_83 ?_
    obtain ⟨a8, u9, hq, h⟩ := xp_seq h
    refine xk_goesL (xr_V (As := []) (rest := [.ref (ad 61)]) C hP hS (ct_Values_pop__h61 htr hok hq) kq_Machine_245 61 10 rfl rfl ⟨rfl, rfl, Nat.le_of_ble_eq_true rfl, Nat.le_of_ble_eq_true rfl⟩ ⟨Nat.le_of_ble_eq_true rfl, Nat.le_of_ble_eq_true rfl⟩ hl.1 rfl rfl (Nat.le_of_ble_eq_true rfl) dd_Machine_doReference_86) hS (fun H locs hP hS => ?_)
    clear hq
    refine lv_aload_n hx hb dd_Machine_doReference_89 rfl (lv_at hl 0 rfl) ?_
    refine gf_h_Machine_60_values C hP dd_Machine_doReference_90 ?_
    obtain ⟨a10, u11, hq, h⟩ := xp_seq h
    refine xk_goesL (xr_V (As := []) (rest := [.long a8, .ref (ad 61)]) C hP hS (ct_Values_pop__h61 htr hok hq) kq_Machine_245 61 10 rfl rfl ⟨rfl, rfl, Nat.le_of_ble_eq_true rfl, Nat.le_of_ble_eq_true rfl⟩ ⟨Nat.le_of_ble_eq_true rfl, Nat.le_of_ble_eq_true rfl⟩ hl.1 rfl rfl (Nat.le_of_ble_eq_true rfl) dd_Machine_doReference_93) hS (fun H locs hP hS => ?_)
    clear hq
    refine xr_lc_ne (tgt := 104) hx hb dd_Machine_doReference_96 dd_Machine_doReference_97 (by decide) (fun hc => ?_) (fun hc => ?_)
    · have h := xp_f hc h
      refine lv_iconst (v := 0) hx hb dd_Machine_doReference_104 (by decide) ?_
      exact wj_Machine_doReference_105 htr C hne h hP hS (lv_sub hl [] rfl)
    · have h := xp_t hc h
      refine lv_iconst (v := 1) hx hb dd_Machine_doReference_100 (by decide) ?_
      refine lv_goto (tgt := 105) hx hb dd_Machine_doReference_101 (by decide) ?_
      exact wj_Machine_doReference_105 htr C hne h hP hS (lv_sub hl [] rfl)
  have h := xp_f hc3 h
  by_cases hc4 : x0 = (212 : Int32)
  · have h := xp_t hc4 h
    refine lv_tableIn (off := 110) (tgt := 111) hx hb dd_Machine_doReference_1 (by rw [hc4]; decide) (by rw [hc4]; decide) (by rw [hc4]; rfl) (by decide) ?_
    refine lv_aload_n hx hb dd_Machine_doReference_111 rfl (lv_at hl 0 rfl) ?_
    refine gf_h_Machine_60_values C hP dd_Machine_doReference_112 ?_
    refine gf_h_Machine_61_value C hP dd_Machine_doReference_115 ?_
    refine lv_aload_n hx hb dd_Machine_doReference_118 rfl (lv_at hl 0 rfl) ?_
    refine gf_h_Machine_60_values C hP dd_Machine_doReference_119 ?_
    refine gf_h_Machine_61_top C hP dd_Machine_doReference_122 ?_
    refine lv_iconst (v := 1) hx hb dd_Machine_doReference_125 (by decide) ?_
    refine lv_isub hx hb dd_Machine_doReference_126 ?_
    obtain ⟨hi, h⟩ := xp_g h
    refine al_h_62 C hP hi dd_Machine_doReference_127 ?_
    refine lv_lconst (v := 0) hx hb dd_Machine_doReference_128 (by decide) ?_
    refine xr_lc_ne (tgt := 234) hx hb dd_Machine_doReference_129 dd_Machine_doReference_130 (by decide) (fun hc => ?_) (fun hc => ?_)
    · have h := xp_f hc h
      obtain ⟨rfl, rfl⟩ := xp_r h
      exact xr_vret C hP hS dd_Machine_doReference_234
    · have h := xp_t hc h
      refine lv_aload_n hx hb dd_Machine_doReference_133 rfl (lv_at hl 0 rfl) ?_
      refine lv_bipush (v := 8) hx hb dd_Machine_doReference_134 (by decide) ?_
      refine pf_h_Machine_60_trap C hP hS dd_Machine_doReference_136 (fun H locs hP hS => ?_)
      obtain ⟨u13, eu13, h⟩ := xp_let h
      rw [← eu13] at hP
      refine lv_goto (tgt := 234) hx hb dd_Machine_doReference_139 (by decide) ?_
      obtain ⟨rfl, rfl⟩ := xp_r h
      exact xr_vret C hP hS dd_Machine_doReference_234
  have h := xp_f hc4 h
  by_cases hc5 : x0 = (213 : Int32)
  · have h := xp_t hc5 h
    refine lv_tableIn (off := 141) (tgt := 142) hx hb dd_Machine_doReference_1 (by rw [hc5]; decide) (by rw [hc5]; decide) (by rw [hc5]; rfl) (by decide) ?_
    refine lv_aload_n hx hb dd_Machine_doReference_142 rfl (lv_at hl 0 rfl) ?_
    refine gf_h_Machine_60_values C hP dd_Machine_doReference_143 ?_
    refine gf_h_Machine_61_value C hP dd_Machine_doReference_146 ?_
    refine lv_aload_n hx hb dd_Machine_doReference_149 rfl (lv_at hl 0 rfl) ?_
    refine gf_h_Machine_60_values C hP dd_Machine_doReference_150 ?_
    refine gf_h_Machine_61_top C hP dd_Machine_doReference_153 ?_
    refine lv_iconst (v := 1) hx hb dd_Machine_doReference_156 (by decide) ?_
    refine lv_isub hx hb dd_Machine_doReference_157 ?_
    obtain ⟨hi, h⟩ := xp_g h
    refine al_h_62 C hP hi dd_Machine_doReference_158 ?_
    refine lv_lconst (v := 0) hx hb dd_Machine_doReference_159 (by decide) ?_
    refine xr_lc_ne (tgt := 234) hx hb dd_Machine_doReference_160 dd_Machine_doReference_161 (by decide) (fun hc => ?_) (fun hc => ?_)
    · have h := xp_f hc h
      obtain ⟨rfl, rfl⟩ := xp_r h
      exact xr_vret C hP hS dd_Machine_doReference_234
    · have h := xp_t hc h
      refine lv_aload_n hx hb dd_Machine_doReference_164 rfl (lv_at hl 0 rfl) ?_
      refine gf_h_Machine_60_values C hP dd_Machine_doReference_165 ?_
      obtain ⟨a14, u15, hq, h⟩ := xp_seq h
      refine xk_goesL (xr_V (As := []) (rest := []) C hP hS (ct_Values_pop__h61 htr hok hq) kq_Machine_245 61 10 rfl rfl ⟨rfl, rfl, Nat.le_of_ble_eq_true rfl, Nat.le_of_ble_eq_true rfl⟩ ⟨Nat.le_of_ble_eq_true rfl, Nat.le_of_ble_eq_true rfl⟩ hl.1 rfl rfl (Nat.le_of_ble_eq_true rfl) dd_Machine_doReference_168) hS (fun H locs hP hS => ?_)
      clear hq
      refine lv_pop2_2 hx hb dd_Machine_doReference_171 rfl ?_
      refine lv_aload_n hx hb dd_Machine_doReference_172 rfl (lv_at hl 0 rfl) ?_
      refine lv_aload_n hx hb dd_Machine_doReference_173 rfl (lv_at hl 0 rfl) ?_
      refine gf_h_Machine_60_code C hP dd_Machine_doReference_174 ?_
      refine gf_h_Machine_12_mate C hP dd_Machine_doReference_177 ?_
      refine lv_iload_n hx hb dd_Machine_doReference_180 rfl (lv_at hl 2 rfl) ?_
      obtain ⟨hi, h⟩ := xp_g h
      refine al_h_16 C hP hi dd_Machine_doReference_181 ?_
      obtain ⟨rx, u16, hq, h⟩ := xp_seq h
      refine xk_goesV (xr_V (As := [.int (u15.2.2.1 9 x1.toNatClampNeg)]) (rest := []) C hP hS (ct_Machine_branch htr hok hq) kq_Machine_252 60 4 rfl rfl ⟨rfl, rfl, Nat.le_of_ble_eq_true rfl, Nat.le_of_ble_eq_true rfl⟩ ⟨Nat.le_of_ble_eq_true rfl, Nat.le_of_ble_eq_true rfl⟩ hl.1 rfl rfl (Nat.le_of_ble_eq_true rfl) dd_Machine_doReference_182) hS (fun H locs hP hS => ?_)
      clear hq
      refine lv_goto (tgt := 234) hx hb dd_Machine_doReference_185 (by decide) ?_
      obtain ⟨rfl, rfl⟩ := xp_r h
      exact xr_vret C hP hS dd_Machine_doReference_234
  have h := xp_f hc5 h
  have hd0 := lv_neT hc0 (a := 208) (by decide)
  have hd1 := lv_neT hc1 (a := 209) (by decide)
  have hd2 := lv_neT hc2 (a := 210) (by decide)
  have hd3 := lv_neT hc3 (a := 211) (by decide)
  have hd4 := lv_neT hc4 (a := 212) (by decide)
  have hd5 := lv_neT hc5 (a := 213) (by decide)
  refine lv_tableOut (tgt := 188) hx hb dd_Machine_doReference_1 (by omega) (by decide) ?_
  exact wj_Machine_doReference_188 htr C hne h hP hS (lv_sub hl [0, 2] rfl)
abbrev rm_Machine_convert : Room := { frames := 2, cells := 1, slots := 6, locals := 22 }
noncomputable def jb_Machine_convert_105 (s0 : Int64) (u : xk_St) : Option (Unit × xk_St) :=
  (xs_seq (fm_Values_push__h61 s0 u) fun _ u3 => some ((()), u3))
noncomputable def jb_Machine_convert_72 (b2 : Int64) (u : xk_St) : Option (Unit × xk_St) :=
  jb_Machine_convert_105 ((b2.toInt32).toInt64) u
noncomputable def jb_Machine_convert_90 (b2 : Int64) (u : xk_St) : Option (Unit × xk_St) :=
  (xs_seq (fm_Numbers_signed b2 (8 : Int32) u) fun a4 u5 => jb_Machine_convert_105 a4 u5)
noncomputable def fm_Machine_convert (x0 : Int32) (u : xk_St) : Option (Unit × xk_St) :=
  (xs_seq (fm_Values_pop__h61 u) fun a1 u2 => if x0 = (167 : Int32) then (jb_Machine_convert_72 a1 u2) else if x0 = (172 : Int32) then (jb_Machine_convert_105 a1 u2) else if x0 = (173 : Int32) then (jb_Machine_convert_105 (a1 &&& (4294967295 : Int64)) u2) else if x0 = (192 : Int32) then (jb_Machine_convert_90 a1 u2) else if x0 = (194 : Int32) then (jb_Machine_convert_90 a1 u2) else if x0 = (196 : Int32) then (jb_Machine_convert_72 a1 u2) else ((xs_seq (fm_Numbers_signed a1 (16 : Int32) u2) fun a6 u7 => jb_Machine_convert_105 a6 u7)))
set_option maxHeartbeats 4000000 in
set_option maxRecDepth 100000 in
theorem wj_Machine_convert_105 {p : Program} {l : Launch} {e : Env} {s : State} {m : MethodId} {args : Array Value} {below : List Frame} {meth : Method} {c : Code} {D : va_G} {ad : Nat → Nat} {ca : Nat → ClassId} {ads : List Nat} (htr : l.stackTraces = false) (C : xk_C D kx_cl (kx_ty ca) (kw_h ad ca) ads "ModuleHouse$Machine" prog_5_method_19_code 4 none p e s m args meth c) (hne : c.exceptionTable.isEmpty = true) {u' : xk_St} {r : Unit} {s0 : Int64} {u : xk_St} {H : Heap} {locs : List Loc} {ls : Array Slot} (h : jb_Machine_convert_105  s0 u = some (r, u')) (hP : va_P D kx_cl (kw_h ad ca u) H) (hS : va_S (xk_A ads s.heap.size) s.heap H locs) (hl : lv_has ls 4 []) : W p l e rm_Machine_convert s m args below meth c H locs 0 0 (xk_MQ below (xk_Qc D kx_cl (kw_h ad ca) ads (xo_v (.inl r)) u') args s (xk_A ads s.heap.size)) (F0 m 105 ls [.long s0, .ref (ad 61)]) := by
  have hx := C.1.1
  have hb := C.1.2.1
  have hok := C.2.2.1
  unfold jb_Machine_convert_105 at h
  obtain ⟨rx, u3, hq, h⟩ := xp_seq h
  refine xk_goesV (xr_V (As := [.long s0]) (rest := []) C hP hS (ct_Values_push__h61 htr hok hq) kq_Machine_99 61 10 rfl rfl ⟨rfl, rfl, Nat.le_of_ble_eq_true rfl, Nat.le_of_ble_eq_true rfl⟩ ⟨Nat.le_of_ble_eq_true rfl, Nat.le_of_ble_eq_true rfl⟩ hl.1 rfl rfl (Nat.le_of_ble_eq_true rfl) dd_Machine_convert_105) hS (fun H locs hP hS => ?_)
  clear hq
  obtain ⟨rfl, rfl⟩ := xp_r h
  exact xr_vret C hP hS dd_Machine_convert_108
set_option maxHeartbeats 4000000 in
set_option maxRecDepth 100000 in
theorem wj_Machine_convert_72 {p : Program} {l : Launch} {e : Env} {s : State} {m : MethodId} {args : Array Value} {below : List Frame} {meth : Method} {c : Code} {D : va_G} {ad : Nat → Nat} {ca : Nat → ClassId} {ads : List Nat} (htr : l.stackTraces = false) (C : xk_C D kx_cl (kx_ty ca) (kw_h ad ca) ads "ModuleHouse$Machine" prog_5_method_19_code 4 none p e s m args meth c) (hne : c.exceptionTable.isEmpty = true) {u' : xk_St} {r : Unit} {b2 : Int64} {u : xk_St} {H : Heap} {locs : List Loc} {ls : Array Slot} (h : jb_Machine_convert_72  b2 u = some (r, u')) (hP : va_P D kx_cl (kw_h ad ca u) H) (hS : va_S (xk_A ads s.heap.size) s.heap H locs) (hl : lv_has ls 4 [(2, .long b2)]) : W p l e rm_Machine_convert s m args below meth c H locs 0 0 (xk_MQ below (xk_Qc D kx_cl (kw_h ad ca) ads (xo_v (.inl r)) u') args s (xk_A ads s.heap.size)) (F0 m 72 ls [.ref (ad 61)]) := by
  have hx := C.1.1
  have hb := C.1.2.1
  have hok := C.2.2.1
  unfold jb_Machine_convert_72 at h
  refine lv_lload_n hx hb dd_Machine_convert_72 rfl (lv_at hl 0 rfl) ?_
  refine lv_l2i hx hb dd_Machine_convert_73 rfl ?_
  refine lv_i2l hx hb dd_Machine_convert_74 rfl ?_
  refine lv_goto (tgt := 105) hx hb dd_Machine_convert_75 (by decide) ?_
  exact wj_Machine_convert_105 htr C hne h hP hS (lv_sub hl [] rfl)
set_option maxHeartbeats 4000000 in
set_option maxRecDepth 100000 in
theorem wj_Machine_convert_90 {p : Program} {l : Launch} {e : Env} {s : State} {m : MethodId} {args : Array Value} {below : List Frame} {meth : Method} {c : Code} {D : va_G} {ad : Nat → Nat} {ca : Nat → ClassId} {ads : List Nat} (htr : l.stackTraces = false) (C : xk_C D kx_cl (kx_ty ca) (kw_h ad ca) ads "ModuleHouse$Machine" prog_5_method_19_code 4 none p e s m args meth c) (hne : c.exceptionTable.isEmpty = true) {u' : xk_St} {r : Unit} {b2 : Int64} {u : xk_St} {H : Heap} {locs : List Loc} {ls : Array Slot} (h : jb_Machine_convert_90  b2 u = some (r, u')) (hP : va_P D kx_cl (kw_h ad ca u) H) (hS : va_S (xk_A ads s.heap.size) s.heap H locs) (hl : lv_has ls 4 [(2, .long b2)]) : W p l e rm_Machine_convert s m args below meth c H locs 0 0 (xk_MQ below (xk_Qc D kx_cl (kw_h ad ca) ads (xo_v (.inl r)) u') args s (xk_A ads s.heap.size)) (F0 m 90 ls [.ref (ad 61)]) := by
  have hx := C.1.1
  have hb := C.1.2.1
  have hok := C.2.2.1
  unfold jb_Machine_convert_90 at h
  refine lv_lload_n hx hb dd_Machine_convert_90 rfl (lv_at hl 0 rfl) ?_
  refine lv_bipush (v := 8) hx hb dd_Machine_convert_91 (by decide) ?_
  obtain ⟨a4, u5, hq, h⟩ := xp_seq h
  refine xk_goesL (xr_S (As := [.long b2, .int (8 : Int32)]) (rest := [.ref (ad 61)]) C hP hS (ct_Numbers_signed htr hok hq) kq_Machine_295 ⟨rfl, rfl, Nat.le_of_ble_eq_true rfl, Nat.le_of_ble_eq_true rfl⟩ ⟨Nat.le_of_ble_eq_true rfl, Nat.le_of_ble_eq_true rfl⟩ hl.1 rfl rfl (Nat.le_of_ble_eq_true rfl) dd_Machine_convert_93) hS (fun H locs hP hS => ?_)
  clear hq
  refine lv_goto (tgt := 105) hx hb dd_Machine_convert_96 (by decide) ?_
  exact wj_Machine_convert_105 htr C hne h hP hS (lv_sub hl [] rfl)
set_option maxHeartbeats 4000000 in
set_option maxRecDepth 100000 in
theorem ct_Machine_convert {l : Launch} {D : va_G} {ad : Nat → Nat} {ca : Nat → ClassId} {ads : List Nat} (htr : l.stackTraces = false) (hok : xk_ok (kw_h ad ca) ads) {x0 : Int32} {u u' : xk_St} {r : Unit} (h : fm_Machine_convert x0 u = some (r, u')) :
    ∀ sz, xk_Met l ⟨"ModuleHouse$Machine", "convert", "(I)V"⟩ (Cond.code ⟨"ModuleHouse$Machine", "convert", "(I)V"⟩ prog_5_method_19_code 4 none :: xk_gd) rm_Machine_convert (xk_Pc D kx_cl (kx_ty ca) (kw_h ad ca) ads xk_F sz [.ref (ad 60), .int x0] u) (xk_Qc D kx_cl (kw_h ad ca) ads (xo_v (.inl r)) u') (xk_A ads sz) := by
  unfold fm_Machine_convert at h
  refine xk_con (by decide) htr hok (Nat.le_of_ble_eq_true rfl) (fun p e s m below meth c ls C hne hl hP => ?_)
  have hx := C.1.1
  have hb := C.1.2.1
  have hS : va_S (xk_A ads s.heap.size) s.heap s.heap [] := va_S.rf
  have hl : lv_has ls 4 [(0, .ref (ad 60)), (1, .int x0)] := hl
  refine lv_aload_n hx hb dd_Machine_convert_0 rfl (lv_at hl 0 rfl) ?_
  refine gf_h_Machine_60_values C hP dd_Machine_convert_1 ?_
  obtain ⟨a1, u2, hq, h⟩ := xp_seq h
  refine xk_goesL (xr_V (As := []) (rest := []) C hP hS (ct_Values_pop__h61 htr hok hq) kq_Machine_245 61 10 rfl rfl ⟨rfl, rfl, Nat.le_of_ble_eq_true rfl, Nat.le_of_ble_eq_true rfl⟩ ⟨Nat.le_of_ble_eq_true rfl, Nat.le_of_ble_eq_true rfl⟩ hl.1 rfl rfl (Nat.le_of_ble_eq_true rfl) dd_Machine_convert_4) hS (fun H locs hP hS => ?_)
  clear hq
  refine lv_lstore_n (lv' := [(2, .long a1), (0, .ref (ad 60)), (1, .int x0)]) hx hb dd_Machine_convert_7 rfl hl (by decide) rfl (fun ls hl => ?_)
  refine lv_aload_n hx hb dd_Machine_convert_8 rfl (lv_at hl 1 rfl) ?_
  refine gf_h_Machine_60_values C hP dd_Machine_convert_9 ?_
  refine lv_iload_n hx hb dd_Machine_convert_12 rfl (lv_at hl 2 rfl) ?_
  by_cases hc0 : x0 = (167 : Int32)
  · have h := xp_t hc0 h
    refine lv_lookup (off := 59) (tgt := 72) hx hb dd_Machine_convert_13 (by decide) (by rw [hc0]; rfl) (by decide) ?_
    exact wj_Machine_convert_72 htr C hne h hP hS (lv_sub hl [0] rfl)
  have h := xp_f hc0 h
  by_cases hc1 : x0 = (172 : Int32)
  · have h := xp_t hc1 h
    refine lv_lookup (off := 65) (tgt := 78) hx hb dd_Machine_convert_13 (by decide) (by rw [hc1]; rfl) (by decide) ?_
    refine lv_lload_n hx hb dd_Machine_convert_78 rfl (lv_at hl 0 rfl) ?_
    refine lv_goto (tgt := 105) hx hb dd_Machine_convert_79 (by decide) ?_
    exact wj_Machine_convert_105 htr C hne h hP hS (lv_sub hl [] rfl)
  have h := xp_f hc1 h
  by_cases hc2 : x0 = (173 : Int32)
  · have h := xp_t hc2 h
    refine lv_lookup (off := 69) (tgt := 82) hx hb dd_Machine_convert_13 (by decide) (by rw [hc2]; rfl) (by decide) ?_
    refine lv_lload_n hx hb dd_Machine_convert_82 rfl (lv_at hl 0 rfl) ?_
    refine lv_ldc2 (v := 4294967295) hx hb C.1.2.2.2.1 (C.1.2.2.2.2 _ (xk_c6 (w := Jvm.Cond.constantLong "ModuleHouse$Machine" 255 4294967295) 215 rfl rfl)) dd_Machine_convert_83 ?_
    refine lv_land hx hb dd_Machine_convert_86 ?_
    refine lv_goto (tgt := 105) hx hb dd_Machine_convert_87 (by decide) ?_
    exact wj_Machine_convert_105 htr C hne h hP hS (lv_sub hl [] rfl)
  have h := xp_f hc2 h
  by_cases hc3 : x0 = (192 : Int32)
  · have h := xp_t hc3 h
    refine lv_lookup (off := 77) (tgt := 90) hx hb dd_Machine_convert_13 (by decide) (by rw [hc3]; rfl) (by decide) ?_
    exact wj_Machine_convert_90 htr C hne h hP hS (lv_sub hl [0] rfl)
  have h := xp_f hc3 h
  by_cases hc4 : x0 = (194 : Int32)
  · have h := xp_t hc4 h
    refine lv_lookup (off := 77) (tgt := 90) hx hb dd_Machine_convert_13 (by decide) (by rw [hc4]; rfl) (by decide) ?_
    exact wj_Machine_convert_90 htr C hne h hP hS (lv_sub hl [0] rfl)
  have h := xp_f hc4 h
  by_cases hc5 : x0 = (196 : Int32)
  · have h := xp_t hc5 h
    refine lv_lookup (off := 59) (tgt := 72) hx hb dd_Machine_convert_13 (by decide) (by rw [hc5]; rfl) (by decide) ?_
    exact wj_Machine_convert_72 htr C hne h hP hS (lv_sub hl [0] rfl)
  have h := xp_f hc5 h
  refine lv_lookup (off := 86) (tgt := 99) hx hb dd_Machine_convert_13 (by decide) ((lv_osw hc0 (by decide)).trans ((lv_osw hc1 (by decide)).trans ((lv_osw hc2 (by decide)).trans ((lv_osw hc3 (by decide)).trans ((lv_osw hc4 (by decide)).trans ((lv_osw hc5 (by decide)).trans rfl)))))) (by decide) ?_
  refine lv_lload_n hx hb dd_Machine_convert_99 rfl (lv_at hl 0 rfl) ?_
  refine lv_bipush (v := 16) hx hb dd_Machine_convert_100 (by decide) ?_
  obtain ⟨a6, u7, hq, h⟩ := xp_seq h
  refine xk_goesL (xr_S (As := [.long a1, .int (16 : Int32)]) (rest := [.ref (ad 61)]) C hP hS (ct_Numbers_signed htr hok hq) kq_Machine_295 ⟨rfl, rfl, Nat.le_of_ble_eq_true rfl, Nat.le_of_ble_eq_true rfl⟩ ⟨Nat.le_of_ble_eq_true rfl, Nat.le_of_ble_eq_true rfl⟩ hl.1 rfl rfl (Nat.le_of_ble_eq_true rfl) dd_Machine_convert_102) hS (fun H locs hP hS => ?_)
  clear hq
  exact wj_Machine_convert_105 htr C hne h hP hS (lv_sub hl [] rfl)
