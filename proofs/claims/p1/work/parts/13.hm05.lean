abbrev rm_Memory_put : Room := { frames := 1, cells := 1, slots := 6, locals := 0 }
noncomputable def jb_Memory_put_3 (fu : Nat) : Nat → Int32 → Int32 → Int64 → Int32 → xk_St → Option (Unit × xk_St)
  | 0 => fun _ _ _ _ _ => none
  | n + 1 => fun b1 b2 b3 b5 u =>
    xs_let (jb_Memory_put_3 fu  n) fun k3 =>
    if b2 ≤ b5 then (some ((()), u)) else ((if (b1 + b5) < 0 ∨ 65536 ≤ (b1 + b5).toNatClampNeg then none else xs_let (xs_A u 46 (b1 + b5).toNatClampNeg (vp_nar .byte ((((b3.toUInt64 >>> (((8 : Int32) * b5).toInt64.toUInt64 &&& Int64.toUInt64 63)).toInt64).toInt32).toInt8.toInt32))) fun u1 => xs_let (b5 + (1 : Int32)) fun a2 => k3 b1 b2 b3 a2 u1))
noncomputable def fm_Memory_put (fu : Nat) (x0 : Int32) (x1 : Int32) (x2 : Int64) (u : xk_St) : Option (Unit × xk_St) :=
  jb_Memory_put_3 fu fu x0 x1 x2 (0 : Int32) u
set_option maxHeartbeats 4000000 in
set_option maxRecDepth 100000 in
theorem wj_Memory_put_3 {p : Program} {l : Launch} {e : Env} {s : State} {m : MethodId} {args : Array Value} {below : List Frame} {meth : Method} {c : Code} {D : va_G} {ad : Nat → Nat} {ca : Nat → ClassId} {ads : List Nat} {fu : Nat} (htr : l.stackTraces = false) (C : xk_C D kx_cl (kx_ty ca) (kw_h ad ca) ads "ModuleHouse$Memory" prog_6_method_8_code 6 none p e s m args meth c) (hne : c.exceptionTable.isEmpty = true) {u' : xk_St} {r : Unit} : ∀ {n : Nat} {b1 : Int32} {b2 : Int32} {b3 : Int64} {b5 : Int32} {u : xk_St} {H : Heap} {locs : List Loc} {ls : Array Slot} (h : jb_Memory_put_3 fu  n b1 b2 b3 b5 u = some (r, u')) (hP : va_P D kx_cl (kw_h ad ca u) H) (hS : va_S (xk_A ads s.heap.size) s.heap H locs) (hl : lv_has ls 6 [(0, .ref (ad 77)), (1, .int b1), (2, .int b2), (3, .long b3), (5, .int b5)]), W p l e rm_Memory_put s m args below meth c H locs 0 0 (xk_MQ below (xk_Qc D kx_cl (kw_h ad ca) ads (xo_v (.inl r)) u') args s (xk_A ads s.heap.size)) (F0 m 3 ls []) := by
  intro n
  have hx := C.1.1
  have hb := C.1.2.1
  have hok := C.2.2.1
  induction n with
  | zero =>
    intro _ _ _ _ u H locs ls h
    have h : none = some (r, u') := h
    cases h
  | succ n ih =>
    intro b1 b2 b3 b5 u H locs ls h hP hS hl
    unfold jb_Memory_put_3 at h
    obtain ⟨k3, ek3, h⟩ := xp_let h
    have hk3 : ∀ (c0 : Int32) (c1 : Int32) (c2 : Int64) (c3 : Int32) (u : xk_St) (H : Heap) (locs : List Loc) (ls : Array Slot), k3 c0 c1 c2 c3 u = some (r, u') → va_P D kx_cl (kw_h ad ca u) H → va_S (xk_A ads s.heap.size) s.heap H locs → lv_has ls 6 [(0, .ref (ad 77)), (1, .int c0), (2, .int c1), (3, .long c2), (5, .int c3)] → W p l e rm_Memory_put s m args below meth c H locs 0 0 (xk_MQ below (xk_Qc D kx_cl (kw_h ad ca) ads (xo_v (.inl r)) u') args s (xk_A ads s.heap.size)) (F0 m 3 ls []) := by
      intro c0 c1 c2 c3 u H locs ls h hP hS hl
      subst ek3
      exact ih h hP hS hl
    clear ih ek3
    refine lv_iload hx hb dd_Memory_put_3 (lv_at hl 4 rfl) ?_
    refine lv_iload_n hx hb dd_Memory_put_5 rfl (lv_at hl 2 rfl) ?_
    refine lv_icmp_ge (tgt := 33) hx hb dd_Memory_put_6 (by decide) (fun hc => ?_) (fun hc => ?_)
    · have h := xp_t hc h
      obtain ⟨rfl, rfl⟩ := xp_r h
      exact xr_vret C hP hS dd_Memory_put_33
    · have h := xp_f hc h
      refine lv_aload_n hx hb dd_Memory_put_9 rfl (lv_at hl 0 rfl) ?_
      refine gf_h_Memory_77_bytes C hP dd_Memory_put_10 ?_
      refine lv_iload_n hx hb dd_Memory_put_13 rfl (lv_at hl 1 rfl) ?_
      refine lv_iload hx hb dd_Memory_put_14 (lv_at hl 4 rfl) ?_
      refine lv_iadd hx hb dd_Memory_put_16 ?_
      refine lv_lload_n hx hb dd_Memory_put_17 rfl (lv_at hl 3 rfl) ?_
      refine lv_bipush (v := 8) hx hb dd_Memory_put_18 (by decide) ?_
      refine lv_iload hx hb dd_Memory_put_20 (lv_at hl 4 rfl) ?_
      refine lv_imul hx hb dd_Memory_put_22 ?_
      refine lv_lushr hx hb dd_Memory_put_23 rfl ?_
      refine lv_l2i hx hb dd_Memory_put_24 rfl ?_
      refine lv_i2b hx hb dd_Memory_put_25 rfl ?_
      obtain ⟨hi, h⟩ := xp_g h
      refine as_h_78 C hP hS hi dd_Memory_put_26 (fun H locs hP hS => ?_)
      obtain ⟨u1, eu1, h⟩ := xp_let h
      rw [← eu1] at hP
      obtain ⟨a2, ea2, h⟩ := xp_let h
      refine lv_iinc (v := a2) (lv' := [(5, .int a2), (0, .ref (ad 77)), (1, .int b1), (2, .int b2), (3, .long b3)]) hx hb dd_Memory_put_27 hl (k := 4) rfl (by rw [ea2]; first | rfl | decide) (by decide) rfl (fun ls hl => ?_)
      refine lv_goto (tgt := 3) hx hb dd_Memory_put_30 (by decide) ?_
      exact hk3 b1 b2 b3 a2 u1 _ _ _ h hP hS (lv_sub hl [1, 2, 3, 4, 0] rfl)
set_option maxHeartbeats 4000000 in
set_option maxRecDepth 100000 in
theorem ct_Memory_put {l : Launch} {D : va_G} {ad : Nat → Nat} {ca : Nat → ClassId} {ads : List Nat} (htr : l.stackTraces = false) (hok : xk_ok (kw_h ad ca) ads) {fu : Nat} {x0 : Int32} {x1 : Int32} {x2 : Int64} {u u' : xk_St} {r : Unit} (h : fm_Memory_put fu x0 x1 x2 u = some (r, u')) :
    ∀ sz, xk_Met l ⟨"ModuleHouse$Memory", "put", "(IIJ)V"⟩ (Cond.code ⟨"ModuleHouse$Memory", "put", "(IIJ)V"⟩ prog_6_method_8_code 6 none :: xk_gd) rm_Memory_put (xk_Pc D kx_cl (kx_ty ca) (kw_h ad ca) ads xk_F sz [.ref (ad 77), .int x0, .int x1, .long x2] u) (xk_Qc D kx_cl (kw_h ad ca) ads (xo_v (.inl r)) u') (xk_A ads sz) := by
  unfold fm_Memory_put at h
  refine xk_con (by decide) htr hok (Nat.le_of_ble_eq_true rfl) (fun p e s m below meth c ls C hne hl hP => ?_)
  have hx := C.1.1
  have hb := C.1.2.1
  have hS : va_S (xk_A ads s.heap.size) s.heap s.heap [] := va_S.rf
  have hl : lv_has ls 6 [(0, .ref (ad 77)), (1, .int x0), (2, .int x1), (3, .long x2)] := hl
  refine lv_iconst (v := 0) hx hb dd_Memory_put_0 (by decide) ?_
  refine lv_istore (lv' := [(5, .int (0 : Int32)), (0, .ref (ad 77)), (1, .int x0), (2, .int x1), (3, .long x2)]) hx hb dd_Memory_put_1 hl (by decide) rfl (fun ls hl => ?_)
  exact wj_Memory_put_3 htr C hne h hP hS (lv_sub hl [1, 2, 3, 4, 0] rfl)
abbrev rm_Memory_grow : Room := { frames := 1, cells := 1, slots := 6, locals := 0 }
noncomputable def fm_Memory_grow (x0 : Int64) (u : xk_St) : Option (Int32 × xk_St) :=
  if (((u.1 33).toInt64) + x0) ≤ ((u.1 34).toInt64) then ((xs_let (u.1 33) fun a1 => xs_let (xs_I u 33 ((u.1 33) + (x0.toInt32))) fun u2 => some (a1, u2))) else (some ((-1 : Int32), u))
set_option maxHeartbeats 4000000 in
set_option maxRecDepth 100000 in
theorem ct_Memory_grow {l : Launch} {D : va_G} {ad : Nat → Nat} {ca : Nat → ClassId} {ads : List Nat} (htr : l.stackTraces = false) (hok : xk_ok (kw_h ad ca) ads) {x0 : Int64} {u u' : xk_St} {r : Int32} (h : fm_Memory_grow x0 u = some (r, u')) :
    ∀ sz, xk_Met l ⟨"ModuleHouse$Memory", "grow", "(J)I"⟩ (Cond.code ⟨"ModuleHouse$Memory", "grow", "(J)I"⟩ prog_6_method_10_code 4 (some .int) :: xk_gd) rm_Memory_grow (xk_Pc D kx_cl (kx_ty ca) (kw_h ad ca) ads xk_F sz [.ref (ad 77), .long x0] u) (xk_Qc D kx_cl (kw_h ad ca) ads (xo_i (.inl r)) u') (xk_A ads sz) := by
  unfold fm_Memory_grow at h
  refine xk_con (by decide) htr hok (Nat.le_of_ble_eq_true rfl) (fun p e s m below meth c ls C hne hl hP => ?_)
  have hx := C.1.1
  have hb := C.1.2.1
  have hS : va_S (xk_A ads s.heap.size) s.heap s.heap [] := va_S.rf
  have hl : lv_has ls 4 [(0, .ref (ad 77)), (1, .long x0)] := hl
  refine lv_aload_n hx hb dd_Memory_grow_0 rfl (lv_at hl 0 rfl) ?_
  refine gf_h_Memory_77_pages C hP dd_Memory_grow_1 ?_
  refine lv_i2l hx hb dd_Memory_grow_4 rfl ?_
  refine lv_lload_n hx hb dd_Memory_grow_5 rfl (lv_at hl 1 rfl) ?_
  refine lv_ladd hx hb dd_Memory_grow_6 ?_
  refine lv_aload_n hx hb dd_Memory_grow_7 rfl (lv_at hl 0 rfl) ?_
  refine gf_h_Memory_77_most C hP dd_Memory_grow_8 ?_
  refine lv_i2l hx hb dd_Memory_grow_11 rfl ?_
  refine xr_lc_le (tgt := 18) hx hb dd_Memory_grow_12 dd_Memory_grow_13 (by decide) (fun hc => ?_) (fun hc => ?_)
  · have h := xp_t hc h
    refine lv_aload_n hx hb dd_Memory_grow_18 rfl (lv_at hl 0 rfl) ?_
    refine gf_h_Memory_77_pages C hP dd_Memory_grow_19 ?_
    obtain ⟨a1, ea1, h⟩ := xp_let h
    refine xr_nami ea1 ?_
    refine lv_istore_n (lv' := [(3, .int a1), (0, .ref (ad 77)), (1, .long x0)]) hx hb dd_Memory_grow_22 rfl hl (by decide) rfl (fun ls hl => ?_)
    refine lv_aload_n hx hb dd_Memory_grow_23 rfl (lv_at hl 1 rfl) ?_
    refine lv_dup hx hb dd_Memory_grow_24 rfl ?_
    refine gf_h_Memory_77_pages C hP dd_Memory_grow_25 ?_
    refine lv_lload_n hx hb dd_Memory_grow_28 rfl (lv_at hl 2 rfl) ?_
    refine lv_l2i hx hb dd_Memory_grow_29 rfl ?_
    refine lv_iadd hx hb dd_Memory_grow_30 ?_
    refine pf_h_Memory_77_pages C hP hS dd_Memory_grow_31 (fun H locs hP hS => ?_)
    obtain ⟨u2, eu2, h⟩ := xp_let h
    rw [← eu2] at hP
    refine lv_iload_n hx hb dd_Memory_grow_34 rfl (lv_at hl 0 rfl) ?_
    obtain ⟨rfl, rfl⟩ := xp_r h
    exact xr_iret C hP hS dd_Memory_grow_35
  · have h := xp_f hc h
    refine lv_iconst (v := (-1)) hx hb dd_Memory_grow_16 (by decide) ?_
    obtain ⟨rfl, rfl⟩ := xp_r h
    exact xr_iret C hP hS dd_Memory_grow_17
abbrev rm_Machine_doMemory : Room := { frames := 2, cells := 1, slots := 6, locals := 25 }
noncomputable def jb_Machine_doMemory_191 (fu : Nat) (s0 : Int64) (u : xk_St) : Option (Unit × xk_St) :=
  (xs_seq (fm_Values_push__h61 s0 u) fun _ u10 => some ((()), u10))
noncomputable def jb_Machine_doMemory_90 (fu : Nat) (b1 : Int32) (b2 : Int64) (b4 : Int32) (b5 : Int32) (s0 : Int64) (u : xk_St) : Option (Unit × xk_St) :=
  (xs_seq (fm_Values_pop__h61 u) fun a3 u4 => xs_let ((a3 &&& (4294967295 : Int64)) + b2) fun a5 => xs_seq (fm_Memory_holds a5 (b5.toInt64) u4) fun a6 u7 => if a6 = (0 : Int32) then ((xs_let (xs_I u7 27 (2 : Int32)) fun u14 => some ((()), u14))) else (if b4 = (0 : Int32) then ((xs_seq (fm_Memory_taken fu (a5.toInt32) b5 u7) fun a8 u9 => if (b1 &&& (1 : Int32)) = (0 : Int32) then ((xs_seq (fm_Numbers_signed a8 ((8 : Int32) * b5) u9) fun a11 u12 => jb_Machine_doMemory_191 fu a11 u12)) else (jb_Machine_doMemory_191 fu a8 u9))) else ((xs_seq (fm_Memory_put fu (a5.toInt32) b5 s0 u7) fun _ u13 => some ((()), u13)))))
noncomputable def jb_Machine_doMemory_66 (fu : Nat) (b1 : Int32) (b2 : Int64) (s0 : Int32) (u : xk_St) : Option (Unit × xk_St) :=
  (xs_seq (fm_Memory_width b1 u) fun a1 u2 => if s0 = (0 : Int32) then (jb_Machine_doMemory_90 fu b1 b2 s0 a1 (0 : Int64) u2) else ((xs_seq (fm_Values_pop__h61 u2) fun a15 u16 => jb_Machine_doMemory_90 fu b1 b2 s0 a1 a15 u16)))
noncomputable def fm_Machine_doMemory (fu : Nat) (x0 : Int32) (x1 : Int64) (u : xk_St) : Option (Unit × xk_St) :=
  if x0 = (63 : Int32) then ((xs_seq (fm_Values_push__h61 ((u.1 33).toInt64) u) fun _ u22 => some ((()), u22))) else (if x0 = (64 : Int32) then ((xs_seq (fm_Values_pop__h61 u) fun a17 u18 => xs_seq (fm_Memory_grow (a17 &&& (4294967295 : Int64)) u18) fun a19 u20 => xs_seq (fm_Values_push__h61 (a19.toInt64) u20) fun _ u21 => some ((()), u21))) else (if x0 < (54 : Int32) then (jb_Machine_doMemory_66 fu x0 x1 (0 : Int32) u) else (jb_Machine_doMemory_66 fu x0 x1 (1 : Int32) u)))
set_option maxHeartbeats 4000000 in
set_option maxRecDepth 100000 in
theorem wj_Machine_doMemory_191 {p : Program} {l : Launch} {e : Env} {s : State} {m : MethodId} {args : Array Value} {below : List Frame} {meth : Method} {c : Code} {D : va_G} {ad : Nat → Nat} {ca : Nat → ClassId} {ads : List Nat} {fu : Nat} (htr : l.stackTraces = false) (C : xk_C D kx_cl (kx_ty ca) (kw_h ad ca) ads "ModuleHouse$Machine" prog_5_method_15_code 10 none p e s m args meth c) (hne : c.exceptionTable.isEmpty = true) {u' : xk_St} {r : Unit} {s0 : Int64} {u : xk_St} {H : Heap} {locs : List Loc} {ls : Array Slot} (h : jb_Machine_doMemory_191 fu  s0 u = some (r, u')) (hP : va_P D kx_cl (kw_h ad ca u) H) (hS : va_S (xk_A ads s.heap.size) s.heap H locs) (hl : lv_has ls 10 []) : W p l e rm_Machine_doMemory s m args below meth c H locs 0 0 (xk_MQ below (xk_Qc D kx_cl (kw_h ad ca) ads (xo_v (.inl r)) u') args s (xk_A ads s.heap.size)) (F0 m 191 ls [.long s0, .ref (ad 61)]) := by
  have hx := C.1.1
  have hb := C.1.2.1
  have hok := C.2.2.1
  unfold jb_Machine_doMemory_191 at h
  obtain ⟨rx, u10, hq, h⟩ := xp_seq h
  refine xk_goesV (xr_V (As := [.long s0]) (rest := []) C hP hS (ct_Values_push__h61 htr hok hq) kq_Machine_99 61 10 rfl rfl ⟨rfl, rfl, Nat.le_of_ble_eq_true rfl, Nat.le_of_ble_eq_true rfl⟩ ⟨Nat.le_of_ble_eq_true rfl, Nat.le_of_ble_eq_true rfl⟩ hl.1 rfl rfl (Nat.le_of_ble_eq_true rfl) dd_Machine_doMemory_191) hS (fun H locs hP hS => ?_)
  clear hq
  obtain ⟨rfl, rfl⟩ := xp_r h
  exact xr_vret C hP hS dd_Machine_doMemory_194
set_option maxHeartbeats 4000000 in
set_option maxRecDepth 100000 in
theorem wj_Machine_doMemory_90 {p : Program} {l : Launch} {e : Env} {s : State} {m : MethodId} {args : Array Value} {below : List Frame} {meth : Method} {c : Code} {D : va_G} {ad : Nat → Nat} {ca : Nat → ClassId} {ads : List Nat} {fu : Nat} (htr : l.stackTraces = false) (C : xk_C D kx_cl (kx_ty ca) (kw_h ad ca) ads "ModuleHouse$Machine" prog_5_method_15_code 10 none p e s m args meth c) (hne : c.exceptionTable.isEmpty = true) {u' : xk_St} {r : Unit} {b1 : Int32} {b2 : Int64} {b4 : Int32} {b5 : Int32} {s0 : Int64} {u : xk_St} {H : Heap} {locs : List Loc} {ls : Array Slot} (h : jb_Machine_doMemory_90 fu  b1 b2 b4 b5 s0 u = some (r, u')) (hP : va_P D kx_cl (kw_h ad ca u) H) (hS : va_S (xk_A ads s.heap.size) s.heap H locs) (hl : lv_has ls 10 [(0, .ref (ad 60)), (1, .int b1), (2, .long b2), (4, .int b4), (5, .int b5)]) : W p l e rm_Machine_doMemory s m args below meth c H locs 0 0 (xk_MQ below (xk_Qc D kx_cl (kw_h ad ca) ads (xo_v (.inl r)) u') args s (xk_A ads s.heap.size)) (F0 m 90 ls [.long s0]) := by
  have hx := C.1.1
  have hb := C.1.2.1
  have hok := C.2.2.1
  unfold jb_Machine_doMemory_90 at h
  refine lv_lstore (lv' := [(6, .long s0), (0, .ref (ad 60)), (1, .int b1), (2, .long b2), (4, .int b4), (5, .int b5)]) hx hb dd_Machine_doMemory_90 hl (by decide) rfl (fun ls hl => ?_)
  refine lv_aload_n hx hb dd_Machine_doMemory_92 rfl (lv_at hl 1 rfl) ?_
  refine gf_h_Machine_60_values C hP dd_Machine_doMemory_93 ?_
  obtain ⟨a3, u4, hq, h⟩ := xp_seq h
  refine xk_goesL (xr_V (As := []) (rest := []) C hP hS (ct_Values_pop__h61 htr hok hq) kq_Machine_245 61 10 rfl rfl ⟨rfl, rfl, Nat.le_of_ble_eq_true rfl, Nat.le_of_ble_eq_true rfl⟩ ⟨Nat.le_of_ble_eq_true rfl, Nat.le_of_ble_eq_true rfl⟩ hl.1 rfl rfl (Nat.le_of_ble_eq_true rfl) dd_Machine_doMemory_96) hS (fun H locs hP hS => ?_)
  clear hq
  refine lv_ldc2 (v := 4294967295) hx hb C.1.2.2.2.1 (C.1.2.2.2.2 _ (xk_c6 (w := Jvm.Cond.constantLong "ModuleHouse$Machine" 255 4294967295) 215 rfl rfl)) dd_Machine_doMemory_99 ?_
  refine lv_land hx hb dd_Machine_doMemory_102 ?_
  refine lv_lload_n hx hb dd_Machine_doMemory_103 rfl (lv_at hl 3 rfl) ?_
  refine lv_ladd hx hb dd_Machine_doMemory_104 ?_
  obtain ⟨a5, ea5, h⟩ := xp_let h
  refine xr_naml ea5 ?_
  refine lv_lstore (lv' := [(8, .long a5), (6, .long s0), (0, .ref (ad 60)), (1, .int b1), (2, .long b2), (4, .int b4), (5, .int b5)]) hx hb dd_Machine_doMemory_105 hl (by decide) rfl (fun ls hl => ?_)
  refine lv_aload_n hx hb dd_Machine_doMemory_107 rfl (lv_at hl 2 rfl) ?_
  refine gf_h_Machine_60_memory C hP dd_Machine_doMemory_108 ?_
  refine lv_lload hx hb dd_Machine_doMemory_111 (lv_at hl 0 rfl) ?_
  refine lv_iload hx hb dd_Machine_doMemory_113 (lv_at hl 6 rfl) ?_
  refine lv_i2l hx hb dd_Machine_doMemory_115 rfl ?_
  obtain ⟨a6, u7, hq, h⟩ := xp_seq h
  refine xk_goesI (xr_V (As := [.long a5, .long (b5.toInt64)]) (rest := []) C hP hS (ct_Memory_holds htr hok hq) kq_Machine_148 77 5 rfl rfl ⟨rfl, rfl, Nat.le_of_ble_eq_true rfl, Nat.le_of_ble_eq_true rfl⟩ ⟨Nat.le_of_ble_eq_true rfl, Nat.le_of_ble_eq_true rfl⟩ hl.1 rfl rfl (Nat.le_of_ble_eq_true rfl) dd_Machine_doMemory_116) hS (fun H locs hP hS => ?_)
  clear hq
  refine lv_if_ne (tgt := 130) hx hb dd_Machine_doMemory_119 (by decide) (fun hc => ?_) (fun hc => ?_)
  · have h := xp_f hc h
    refine lv_iload hx hb dd_Machine_doMemory_130 (lv_at hl 5 rfl) ?_
    refine lv_if_eq (tgt := 152) hx hb dd_Machine_doMemory_132 (by decide) (fun hc => ?_) (fun hc => ?_)
    · have h := xp_t hc h
      refine lv_aload_n hx hb dd_Machine_doMemory_152 rfl (lv_at hl 2 rfl) ?_
      refine gf_h_Machine_60_memory C hP dd_Machine_doMemory_153 ?_
      refine lv_lload hx hb dd_Machine_doMemory_156 (lv_at hl 0 rfl) ?_
      refine lv_l2i hx hb dd_Machine_doMemory_158 rfl ?_
      refine lv_iload hx hb dd_Machine_doMemory_159 (lv_at hl 6 rfl) ?_
      obtain ⟨a8, u9, hq, h⟩ := xp_seq h
      refine xk_goesL (xr_V (As := [.int (a5.toInt32), .int b5]) (rest := []) C hP hS (ct_Memory_taken htr hok hq) kq_Machine_291 77 5 rfl rfl ⟨rfl, rfl, Nat.le_of_ble_eq_true rfl, Nat.le_of_ble_eq_true rfl⟩ ⟨Nat.le_of_ble_eq_true rfl, Nat.le_of_ble_eq_true rfl⟩ hl.1 rfl rfl (Nat.le_of_ble_eq_true rfl) dd_Machine_doMemory_161) hS (fun H locs hP hS => ?_)
      clear hq
      refine lv_lstore (lv' := [(6, .long a8), (8, .long a5), (0, .ref (ad 60)), (1, .int b1), (2, .long b2), (4, .int b4), (5, .int b5)]) hx hb dd_Machine_doMemory_164 hl (by decide) rfl (fun ls hl => ?_)
      refine lv_aload_n hx hb dd_Machine_doMemory_166 rfl (lv_at hl 2 rfl) ?_
      refine gf_h_Machine_60_values C hP dd_Machine_doMemory_167 ?_
      refine lv_iload_n hx hb dd_Machine_doMemory_170 rfl (lv_at hl 3 rfl) ?_
      refine lv_iconst (v := 1) hx hb dd_Machine_doMemory_171 (by decide) ?_
      refine lv_iand hx hb dd_Machine_doMemory_172 ?_
      refine lv_if_ne (tgt := 189) hx hb dd_Machine_doMemory_173 (by decide) (fun hc => ?_) (fun hc => ?_)
      · have h := xp_f hc h
        refine lv_lload hx hb dd_Machine_doMemory_189 (lv_at hl 0 rfl) ?_
        exact wj_Machine_doMemory_191 htr C hne h hP hS (lv_sub hl [] rfl)
      · have h := xp_t hc h
        refine lv_lload hx hb dd_Machine_doMemory_176 (lv_at hl 0 rfl) ?_
        refine lv_bipush (v := 8) hx hb dd_Machine_doMemory_178 (by decide) ?_
        refine lv_iload hx hb dd_Machine_doMemory_180 (lv_at hl 6 rfl) ?_
        refine lv_imul hx hb dd_Machine_doMemory_182 ?_
        obtain ⟨a11, u12, hq, h⟩ := xp_seq h
        refine xk_goesL (xr_S (As := [.long a8, .int ((8 : Int32) * b5)]) (rest := [.ref (ad 61)]) C hP hS (ct_Numbers_signed htr hok hq) kq_Machine_295 ⟨rfl, rfl, Nat.le_of_ble_eq_true rfl, Nat.le_of_ble_eq_true rfl⟩ ⟨Nat.le_of_ble_eq_true rfl, Nat.le_of_ble_eq_true rfl⟩ hl.1 rfl rfl (Nat.le_of_ble_eq_true rfl) dd_Machine_doMemory_183) hS (fun H locs hP hS => ?_)
        clear hq
        refine lv_goto (tgt := 191) hx hb dd_Machine_doMemory_186 (by decide) ?_
        exact wj_Machine_doMemory_191 htr C hne h hP hS (lv_sub hl [] rfl)
    · have h := xp_f hc h
      refine lv_aload_n hx hb dd_Machine_doMemory_135 rfl (lv_at hl 2 rfl) ?_
      refine gf_h_Machine_60_memory C hP dd_Machine_doMemory_136 ?_
      refine lv_lload hx hb dd_Machine_doMemory_139 (lv_at hl 0 rfl) ?_
      refine lv_l2i hx hb dd_Machine_doMemory_141 rfl ?_
      refine lv_iload hx hb dd_Machine_doMemory_142 (lv_at hl 6 rfl) ?_
      refine lv_lload hx hb dd_Machine_doMemory_144 (lv_at hl 1 rfl) ?_
      obtain ⟨rx, u13, hq, h⟩ := xp_seq h
      refine xk_goesV (xr_V (As := [.int (a5.toInt32), .int b5, .long s0]) (rest := []) C hP hS (ct_Memory_put htr hok hq) kq_Machine_287 77 5 rfl rfl ⟨rfl, rfl, Nat.le_of_ble_eq_true rfl, Nat.le_of_ble_eq_true rfl⟩ ⟨Nat.le_of_ble_eq_true rfl, Nat.le_of_ble_eq_true rfl⟩ hl.1 rfl rfl (Nat.le_of_ble_eq_true rfl) dd_Machine_doMemory_146) hS (fun H locs hP hS => ?_)
      clear hq
      refine lv_goto (tgt := 194) hx hb dd_Machine_doMemory_149 (by decide) ?_
      obtain ⟨rfl, rfl⟩ := xp_r h
      exact xr_vret C hP hS dd_Machine_doMemory_194
  · have h := xp_t hc h
    refine lv_aload_n hx hb dd_Machine_doMemory_122 rfl (lv_at hl 2 rfl) ?_
    refine lv_iconst (v := 2) hx hb dd_Machine_doMemory_123 (by decide) ?_
    refine pf_h_Machine_60_trap C hP hS dd_Machine_doMemory_124 (fun H locs hP hS => ?_)
    obtain ⟨u14, eu14, h⟩ := xp_let h
    rw [← eu14] at hP
    refine lv_goto (tgt := 194) hx hb dd_Machine_doMemory_127 (by decide) ?_
    obtain ⟨rfl, rfl⟩ := xp_r h
    exact xr_vret C hP hS dd_Machine_doMemory_194
set_option maxHeartbeats 4000000 in
set_option maxRecDepth 100000 in
theorem wj_Machine_doMemory_66 {p : Program} {l : Launch} {e : Env} {s : State} {m : MethodId} {args : Array Value} {below : List Frame} {meth : Method} {c : Code} {D : va_G} {ad : Nat → Nat} {ca : Nat → ClassId} {ads : List Nat} {fu : Nat} (htr : l.stackTraces = false) (C : xk_C D kx_cl (kx_ty ca) (kw_h ad ca) ads "ModuleHouse$Machine" prog_5_method_15_code 10 none p e s m args meth c) (hne : c.exceptionTable.isEmpty = true) {u' : xk_St} {r : Unit} {b1 : Int32} {b2 : Int64} {s0 : Int32} {u : xk_St} {H : Heap} {locs : List Loc} {ls : Array Slot} (h : jb_Machine_doMemory_66 fu  b1 b2 s0 u = some (r, u')) (hP : va_P D kx_cl (kw_h ad ca u) H) (hS : va_S (xk_A ads s.heap.size) s.heap H locs) (hl : lv_has ls 10 [(0, .ref (ad 60)), (1, .int b1), (2, .long b2)]) : W p l e rm_Machine_doMemory s m args below meth c H locs 0 0 (xk_MQ below (xk_Qc D kx_cl (kw_h ad ca) ads (xo_v (.inl r)) u') args s (xk_A ads s.heap.size)) (F0 m 66 ls [.int s0]) := by
  have hx := C.1.1
  have hb := C.1.2.1
  have hok := C.2.2.1
  unfold jb_Machine_doMemory_66 at h
  refine lv_istore (lv' := [(4, .int s0), (0, .ref (ad 60)), (1, .int b1), (2, .long b2)]) hx hb dd_Machine_doMemory_66 hl (by decide) rfl (fun ls hl => ?_)
  refine lv_iload_n hx hb dd_Machine_doMemory_68 rfl (lv_at hl 2 rfl) ?_
  obtain ⟨a1, u2, hq, h⟩ := xp_seq h
  refine xk_goesI (xr_S (As := [.int b1]) (rest := []) C hP hS (ct_Memory_width htr hok hq) kq_Machine_284 ⟨rfl, rfl, Nat.le_of_ble_eq_true rfl, Nat.le_of_ble_eq_true rfl⟩ ⟨Nat.le_of_ble_eq_true rfl, Nat.le_of_ble_eq_true rfl⟩ hl.1 rfl rfl (Nat.le_of_ble_eq_true rfl) dd_Machine_doMemory_69) hS (fun H locs hP hS => ?_)
  clear hq
  refine lv_istore (lv' := [(5, .int a1), (4, .int s0), (0, .ref (ad 60)), (1, .int b1), (2, .long b2)]) hx hb dd_Machine_doMemory_72 hl (by decide) rfl (fun ls hl => ?_)
  refine lv_iload hx hb dd_Machine_doMemory_74 (lv_at hl 1 rfl) ?_
  refine lv_if_eq (tgt := 89) hx hb dd_Machine_doMemory_76 (by decide) (fun hc => ?_) (fun hc => ?_)
  · have h := xp_t hc h
    refine lv_lconst (v := 0) hx hb dd_Machine_doMemory_89 (by decide) ?_
    exact wj_Machine_doMemory_90 htr C hne h hP hS (lv_sub hl [2, 3, 4, 1, 0] rfl)
  · have h := xp_f hc h
    refine lv_aload_n hx hb dd_Machine_doMemory_79 rfl (lv_at hl 2 rfl) ?_
    refine gf_h_Machine_60_values C hP dd_Machine_doMemory_80 ?_
    obtain ⟨a15, u16, hq, h⟩ := xp_seq h
    refine xk_goesL (xr_V (As := []) (rest := []) C hP hS (ct_Values_pop__h61 htr hok hq) kq_Machine_245 61 10 rfl rfl ⟨rfl, rfl, Nat.le_of_ble_eq_true rfl, Nat.le_of_ble_eq_true rfl⟩ ⟨Nat.le_of_ble_eq_true rfl, Nat.le_of_ble_eq_true rfl⟩ hl.1 rfl rfl (Nat.le_of_ble_eq_true rfl) dd_Machine_doMemory_83) hS (fun H locs hP hS => ?_)
    clear hq
    refine lv_goto (tgt := 90) hx hb dd_Machine_doMemory_86 (by decide) ?_
    exact wj_Machine_doMemory_90 htr C hne h hP hS (lv_sub hl [2, 3, 4, 1, 0] rfl)
set_option maxHeartbeats 4000000 in
set_option maxRecDepth 100000 in
theorem ct_Machine_doMemory {l : Launch} {D : va_G} {ad : Nat → Nat} {ca : Nat → ClassId} {ads : List Nat} (htr : l.stackTraces = false) (hok : xk_ok (kw_h ad ca) ads) {fu : Nat} {x0 : Int32} {x1 : Int64} {u u' : xk_St} {r : Unit} (h : fm_Machine_doMemory fu x0 x1 u = some (r, u')) :
    ∀ sz, xk_Met l ⟨"ModuleHouse$Machine", "doMemory", "(IJ)V"⟩ (Cond.code ⟨"ModuleHouse$Machine", "doMemory", "(IJ)V"⟩ prog_5_method_15_code 10 none :: xk_gd) rm_Machine_doMemory (xk_Pc D kx_cl (kx_ty ca) (kw_h ad ca) ads xk_F sz [.ref (ad 60), .int x0, .long x1] u) (xk_Qc D kx_cl (kw_h ad ca) ads (xo_v (.inl r)) u') (xk_A ads sz) := by
  unfold fm_Machine_doMemory at h
  refine xk_con (by decide) htr hok (Nat.le_of_ble_eq_true rfl) (fun p e s m below meth c ls C hne hl hP => ?_)
  have hx := C.1.1
  have hb := C.1.2.1
  have hS : va_S (xk_A ads s.heap.size) s.heap s.heap [] := va_S.rf
  have hl : lv_has ls 10 [(0, .ref (ad 60)), (1, .int x0), (2, .long x1)] := hl
  refine lv_iload_n hx hb dd_Machine_doMemory_0 rfl (lv_at hl 1 rfl) ?_
  refine lv_bipush (v := 63) hx hb dd_Machine_doMemory_1 (by decide) ?_
  refine lv_icmp_ne (tgt := 22) hx hb dd_Machine_doMemory_3 (by decide) (fun hc => ?_) (fun hc => ?_)
  · have h := xp_f hc h
    refine lv_iload_n hx hb dd_Machine_doMemory_22 rfl (lv_at hl 1 rfl) ?_
    refine lv_bipush (v := 64) hx hb dd_Machine_doMemory_23 (by decide) ?_
    refine lv_icmp_ne (tgt := 55) hx hb dd_Machine_doMemory_25 (by decide) (fun hc => ?_) (fun hc => ?_)
    · have h := xp_f hc h
      refine lv_iload_n hx hb dd_Machine_doMemory_55 rfl (lv_at hl 1 rfl) ?_
      refine lv_bipush (v := 54) hx hb dd_Machine_doMemory_56 (by decide) ?_
      refine lv_icmp_lt (tgt := 65) hx hb dd_Machine_doMemory_58 (by decide) (fun hc => ?_) (fun hc => ?_)
      · have h := xp_t hc h
        refine lv_iconst (v := 0) hx hb dd_Machine_doMemory_65 (by decide) ?_
        exact wj_Machine_doMemory_66 htr C hne h hP hS (lv_sub hl [0, 1, 2] rfl)
      · have h := xp_f hc h
        refine lv_iconst (v := 1) hx hb dd_Machine_doMemory_61 (by decide) ?_
        refine lv_goto (tgt := 66) hx hb dd_Machine_doMemory_62 (by decide) ?_
        exact wj_Machine_doMemory_66 htr C hne h hP hS (lv_sub hl [0, 1, 2] rfl)
    · have h := xp_t hc h
      refine lv_aload_n hx hb dd_Machine_doMemory_28 rfl (lv_at hl 0 rfl) ?_
      refine gf_h_Machine_60_values C hP dd_Machine_doMemory_29 ?_
      refine lv_aload_n hx hb dd_Machine_doMemory_32 rfl (lv_at hl 0 rfl) ?_
      refine gf_h_Machine_60_memory C hP dd_Machine_doMemory_33 ?_
      refine lv_aload_n hx hb dd_Machine_doMemory_36 rfl (lv_at hl 0 rfl) ?_
      refine gf_h_Machine_60_values C hP dd_Machine_doMemory_37 ?_
      obtain ⟨a17, u18, hq, h⟩ := xp_seq h
      refine xk_goesL (xr_V (As := []) (rest := [.ref (ad 77), .ref (ad 61)]) C hP hS (ct_Values_pop__h61 htr hok hq) kq_Machine_245 61 10 rfl rfl ⟨rfl, rfl, Nat.le_of_ble_eq_true rfl, Nat.le_of_ble_eq_true rfl⟩ ⟨Nat.le_of_ble_eq_true rfl, Nat.le_of_ble_eq_true rfl⟩ hl.1 rfl rfl (Nat.le_of_ble_eq_true rfl) dd_Machine_doMemory_40) hS (fun H locs hP hS => ?_)
      clear hq
      refine lv_ldc2 (v := 4294967295) hx hb C.1.2.2.2.1 (C.1.2.2.2.2 _ (xk_c6 (w := Jvm.Cond.constantLong "ModuleHouse$Machine" 255 4294967295) 215 rfl rfl)) dd_Machine_doMemory_43 ?_
      refine lv_land hx hb dd_Machine_doMemory_46 ?_
      obtain ⟨a19, u20, hq, h⟩ := xp_seq h
      refine xk_goesI (xr_V (As := [.long (a17 &&& (4294967295 : Int64))]) (rest := [.ref (ad 61)]) C hP hS (ct_Memory_grow htr hok hq) kq_Machine_280 77 5 rfl rfl ⟨rfl, rfl, Nat.le_of_ble_eq_true rfl, Nat.le_of_ble_eq_true rfl⟩ ⟨Nat.le_of_ble_eq_true rfl, Nat.le_of_ble_eq_true rfl⟩ hl.1 rfl rfl (Nat.le_of_ble_eq_true rfl) dd_Machine_doMemory_47) hS (fun H locs hP hS => ?_)
      clear hq
      refine lv_i2l hx hb dd_Machine_doMemory_50 rfl ?_
      obtain ⟨rx, u21, hq, h⟩ := xp_seq h
      refine xk_goesV (xr_V (As := [.long (a19.toInt64)]) (rest := []) C hP hS (ct_Values_push__h61 htr hok hq) kq_Machine_99 61 10 rfl rfl ⟨rfl, rfl, Nat.le_of_ble_eq_true rfl, Nat.le_of_ble_eq_true rfl⟩ ⟨Nat.le_of_ble_eq_true rfl, Nat.le_of_ble_eq_true rfl⟩ hl.1 rfl rfl (Nat.le_of_ble_eq_true rfl) dd_Machine_doMemory_51) hS (fun H locs hP hS => ?_)
      clear hq
      obtain ⟨rfl, rfl⟩ := xp_r h
      exact xr_vret C hP hS dd_Machine_doMemory_54
  · have h := xp_t hc h
    refine lv_aload_n hx hb dd_Machine_doMemory_6 rfl (lv_at hl 0 rfl) ?_
    refine gf_h_Machine_60_values C hP dd_Machine_doMemory_7 ?_
    refine lv_aload_n hx hb dd_Machine_doMemory_10 rfl (lv_at hl 0 rfl) ?_
    refine gf_h_Machine_60_memory C hP dd_Machine_doMemory_11 ?_
    refine gf_h_Machine_77_pages C hP dd_Machine_doMemory_14 ?_
    refine lv_i2l hx hb dd_Machine_doMemory_17 rfl ?_
    obtain ⟨rx, u22, hq, h⟩ := xp_seq h
    refine xk_goesV (xr_V (As := [.long ((u.1 33).toInt64)]) (rest := []) C hP hS (ct_Values_push__h61 htr hok hq) kq_Machine_99 61 10 rfl rfl ⟨rfl, rfl, Nat.le_of_ble_eq_true rfl, Nat.le_of_ble_eq_true rfl⟩ ⟨Nat.le_of_ble_eq_true rfl, Nat.le_of_ble_eq_true rfl⟩ hl.1 rfl rfl (Nat.le_of_ble_eq_true rfl) dd_Machine_doMemory_18) hS (fun H locs hP hS => ?_)
    clear hq
    obtain ⟨rfl, rfl⟩ := xp_r h
    exact xr_vret C hP hS dd_Machine_doMemory_21
abbrev rm_Mod_tablePlaces : Room := { frames := 1, cells := 1, slots := 6, locals := 0 }
noncomputable def fm_Mod_tablePlaces (u : xk_St) : Option (Int32 × xk_St) :=
  if (u.1 11) = (0 : Int32) then (some ((0 : Int32), u)) else ((if (0 : Int32) < 0 ∨ 65 ≤ (0 : Int32).toNatClampNeg then none else some ((u.2.2.1 16 (0 : Int32).toNatClampNeg), u)))
set_option maxHeartbeats 4000000 in
set_option maxRecDepth 100000 in
theorem ct_Mod_tablePlaces {l : Launch} {D : va_G} {ad : Nat → Nat} {ca : Nat → ClassId} {ads : List Nat} (htr : l.stackTraces = false) (hok : xk_ok (kw_h ad ca) ads) {u u' : xk_St} {r : Int32} (h : fm_Mod_tablePlaces u = some (r, u')) :
    ∀ sz, xk_Met l ⟨"ModuleHouse$ReadModule", "tablePlaces", "()I"⟩ (Cond.code ⟨"ModuleHouse$ReadModule", "tablePlaces", "()I"⟩ prog_8_method_3_code 1 (some .int) :: xk_gd) rm_Mod_tablePlaces (xk_Pc D kx_cl (kx_ty ca) (kw_h ad ca) ads xk_F sz [.ref (ad 4)] u) (xk_Qc D kx_cl (kw_h ad ca) ads (xo_i (.inl r)) u') (xk_A ads sz) := by
  unfold fm_Mod_tablePlaces at h
  refine xk_con (by decide) htr hok (Nat.le_of_ble_eq_true rfl) (fun p e s m below meth c ls C hne hl hP => ?_)
  have hx := C.1.1
  have hb := C.1.2.1
  have hS : va_S (xk_A ads s.heap.size) s.heap s.heap [] := va_S.rf
  have hl : lv_has ls 1 [(0, .ref (ad 4))] := hl
  refine lv_aload_n hx hb dd_Mod_tablePlaces_0 rfl (lv_at hl 0 rfl) ?_
  refine gf_h_Mod_4_tables C hP dd_Mod_tablePlaces_1 ?_
  refine gf_h_Mod_24_count C hP dd_Mod_tablePlaces_4 ?_
  refine lv_if_ne (tgt := 14) hx hb dd_Mod_tablePlaces_7 (by decide) (fun hc => ?_) (fun hc => ?_)
  · have h := xp_f hc h
    refine lv_aload_n hx hb dd_Mod_tablePlaces_14 rfl (lv_at hl 0 rfl) ?_
    refine gf_h_Mod_4_tables C hP dd_Mod_tablePlaces_15 ?_
    refine gf_h_Mod_24_first C hP dd_Mod_tablePlaces_18 ?_
    refine lv_iconst (v := 0) hx hb dd_Mod_tablePlaces_21 (by decide) ?_
    obtain ⟨hi, h⟩ := xp_g h
    refine al_h_26 C hP hi dd_Mod_tablePlaces_22 ?_
    obtain ⟨rfl, rfl⟩ := xp_r h
    exact xr_iret C hP hS dd_Mod_tablePlaces_23
  · have h := xp_t hc h
    refine lv_iconst (v := 0) hx hb dd_Mod_tablePlaces_10 (by decide) ?_
    refine lv_goto (tgt := 23) hx hb dd_Mod_tablePlaces_11 (by decide) ?_
    obtain ⟨rfl, rfl⟩ := xp_r h
    exact xr_iret C hP hS dd_Mod_tablePlaces_23
abbrev rm_Machine_enterByTable : Room := { frames := 3, cells := 1, slots := 6, locals := 41 }
noncomputable def fm_Machine_enterByTable (x0 : Int32) (u : xk_St) : Option (Unit × xk_St) :=
  (xs_seq (fm_Values_pop__h61 u) fun a1 u2 => xs_let (a1 &&& (4294967295 : Int64)) fun a3 => xs_seq (fm_Mod_tablePlaces u2) fun a4 u5 => if a3 < (a4.toInt64) then ((if (a3.toInt32) < 0 ∨ 64 ≤ (a3.toInt32).toNatClampNeg then none else xs_let (u5.2.2.1 47 (a3.toInt32).toNatClampNeg) fun a6 => if a6 = (-1 : Int32) then ((xs_let (xs_I u5 27 (6 : Int32)) fun u9 => some ((()), u9))) else ((if a6 < 0 ∨ 65 ≤ a6.toNatClampNeg then none else if (u5.2.2.1 12 a6.toNatClampNeg) < 0 ∨ 65 ≤ (u5.2.2.1 12 a6.toNatClampNeg).toNatClampNeg then none else if x0 < 0 ∨ 65 ≤ x0.toNatClampNeg then none else if (u5.2.2.1 5 (u5.2.2.1 12 a6.toNatClampNeg).toNatClampNeg) = (u5.2.2.1 5 x0.toNatClampNeg) then ((xs_seq (fm_Machine_enter a6 u5) fun _ u7 => some ((()), u7))) else ((xs_let (xs_I u5 27 (7 : Int32)) fun u8 => some ((()), u8))))))) else ((xs_let (xs_I u5 27 (5 : Int32)) fun u10 => some ((()), u10))))
set_option maxHeartbeats 4000000 in
set_option maxRecDepth 100000 in
theorem ct_Machine_enterByTable {l : Launch} {D : va_G} {ad : Nat → Nat} {ca : Nat → ClassId} {ads : List Nat} (htr : l.stackTraces = false) (hok : xk_ok (kw_h ad ca) ads) {x0 : Int32} {u u' : xk_St} {r : Unit} (h : fm_Machine_enterByTable x0 u = some (r, u')) :
    ∀ sz, xk_Met l ⟨"ModuleHouse$Machine", "enterByTable", "(I)V"⟩ (Cond.code ⟨"ModuleHouse$Machine", "enterByTable", "(I)V"⟩ prog_5_method_14_code 5 none :: xk_gd) rm_Machine_enterByTable (xk_Pc D kx_cl (kx_ty ca) (kw_h ad ca) ads xk_F sz [.ref (ad 60), .int x0] u) (xk_Qc D kx_cl (kw_h ad ca) ads (xo_v (.inl r)) u') (xk_A ads sz) := by
  unfold fm_Machine_enterByTable at h
  refine xk_con (by decide) htr hok (Nat.le_of_ble_eq_true rfl) (fun p e s m below meth c ls C hne hl hP => ?_)
  have hx := C.1.1
  have hb := C.1.2.1
  have hS : va_S (xk_A ads s.heap.size) s.heap s.heap [] := va_S.rf
  have hl : lv_has ls 5 [(0, .ref (ad 60)), (1, .int x0)] := hl
  refine lv_aload_n hx hb dd_Machine_enterByTable_0 rfl (lv_at hl 0 rfl) ?_
  refine gf_h_Machine_60_values C hP dd_Machine_enterByTable_1 ?_
  obtain ⟨a1, u2, hq, h⟩ := xp_seq h
  refine xk_goesL (xr_V (As := []) (rest := []) C hP hS (ct_Values_pop__h61 htr hok hq) kq_Machine_245 61 10 rfl rfl ⟨rfl, rfl, Nat.le_of_ble_eq_true rfl, Nat.le_of_ble_eq_true rfl⟩ ⟨Nat.le_of_ble_eq_true rfl, Nat.le_of_ble_eq_true rfl⟩ hl.1 rfl rfl (Nat.le_of_ble_eq_true rfl) dd_Machine_enterByTable_4) hS (fun H locs hP hS => ?_)
  clear hq
  refine lv_ldc2 (v := 4294967295) hx hb C.1.2.2.2.1 (C.1.2.2.2.2 _ (xk_c6 (w := Jvm.Cond.constantLong "ModuleHouse$Machine" 255 4294967295) 215 rfl rfl)) dd_Machine_enterByTable_7 ?_
  refine lv_land hx hb dd_Machine_enterByTable_10 ?_
  obtain ⟨a3, ea3, h⟩ := xp_let h
  refine xr_naml ea3 ?_
  refine lv_lstore_n (lv' := [(2, .long a3), (0, .ref (ad 60)), (1, .int x0)]) hx hb dd_Machine_enterByTable_11 rfl hl (by decide) rfl (fun ls hl => ?_)
  refine lv_lload_n hx hb dd_Machine_enterByTable_12 rfl (lv_at hl 0 rfl) ?_
  refine lv_aload_n hx hb dd_Machine_enterByTable_13 rfl (lv_at hl 1 rfl) ?_
  refine gf_h_Machine_60_module C hP dd_Machine_enterByTable_14 ?_
  obtain ⟨a4, u5, hq, h⟩ := xp_seq h
  refine xk_goesI (xr_V (As := []) (rest := [.long a3]) C hP hS (ct_Mod_tablePlaces htr hok hq) kq_Machine_131 4 6 rfl rfl ⟨rfl, rfl, Nat.le_of_ble_eq_true rfl, Nat.le_of_ble_eq_true rfl⟩ ⟨Nat.le_of_ble_eq_true rfl, Nat.le_of_ble_eq_true rfl⟩ hl.1 rfl rfl (Nat.le_of_ble_eq_true rfl) dd_Machine_enterByTable_17) hS (fun H locs hP hS => ?_)
  clear hq
  refine lv_i2l hx hb dd_Machine_enterByTable_20 rfl ?_
  refine xr_lc_lt (tgt := 31) hx hb dd_Machine_enterByTable_21 dd_Machine_enterByTable_22 (by decide) (fun hc => ?_) (fun hc => ?_)
  · have h := xp_t hc h
    refine lv_aload_n hx hb dd_Machine_enterByTable_31 rfl (lv_at hl 1 rfl) ?_
    refine gf_h_Machine_60_table C hP dd_Machine_enterByTable_32 ?_
    refine lv_lload_n hx hb dd_Machine_enterByTable_35 rfl (lv_at hl 0 rfl) ?_
    refine lv_l2i hx hb dd_Machine_enterByTable_36 rfl ?_
    obtain ⟨hi, h⟩ := xp_g h
    refine al_h_79 C hP hi dd_Machine_enterByTable_37 ?_
    obtain ⟨a6, ea6, h⟩ := xp_let h
    refine xr_nami ea6 ?_
    refine lv_istore (lv' := [(4, .int a6), (2, .long a3), (0, .ref (ad 60)), (1, .int x0)]) hx hb dd_Machine_enterByTable_38 hl (by decide) rfl (fun ls hl => ?_)
    refine lv_iload hx hb dd_Machine_enterByTable_40 (lv_at hl 0 rfl) ?_
    refine lv_iconst (v := (-1)) hx hb dd_Machine_enterByTable_42 (by decide) ?_
    refine lv_icmp_ne (tgt := 55) hx hb dd_Machine_enterByTable_43 (by decide) (fun hc => ?_) (fun hc => ?_)
    · have h := xp_f hc h
      refine lv_aload_n hx hb dd_Machine_enterByTable_55 rfl (lv_at hl 2 rfl) ?_
      refine gf_h_Machine_60_types C hP dd_Machine_enterByTable_56 ?_
      refine gf_h_Machine_6_like C hP dd_Machine_enterByTable_59 ?_
      refine lv_aload_n hx hb dd_Machine_enterByTable_62 rfl (lv_at hl 2 rfl) ?_
      refine gf_h_Machine_60_module C hP dd_Machine_enterByTable_63 ?_
      refine gf_h_Machine_4_functions C hP dd_Machine_enterByTable_66 ?_
      refine gf_h_Machine_19_kind C hP dd_Machine_enterByTable_69 ?_
      refine lv_iload hx hb dd_Machine_enterByTable_72 (lv_at hl 0 rfl) ?_
      obtain ⟨hi, h⟩ := xp_g h
      refine al_h_20 C hP hi dd_Machine_enterByTable_74 ?_
      obtain ⟨hi, h⟩ := xp_g h
      refine al_h_10 C hP hi dd_Machine_enterByTable_75 ?_
      refine lv_aload_n hx hb dd_Machine_enterByTable_76 rfl (lv_at hl 2 rfl) ?_
      refine gf_h_Machine_60_types C hP dd_Machine_enterByTable_77 ?_
      refine gf_h_Machine_6_like C hP dd_Machine_enterByTable_80 ?_
      refine lv_iload_n hx hb dd_Machine_enterByTable_83 rfl (lv_at hl 3 rfl) ?_
      obtain ⟨hi, h⟩ := xp_g h
      refine al_h_10 C hP hi dd_Machine_enterByTable_84 ?_
      refine lv_icmp_eq (tgt := 97) hx hb dd_Machine_enterByTable_85 (by decide) (fun hc => ?_) (fun hc => ?_)
      · have h := xp_t hc h
        refine lv_aload_n hx hb dd_Machine_enterByTable_97 rfl (lv_at hl 2 rfl) ?_
        refine lv_iload hx hb dd_Machine_enterByTable_98 (lv_at hl 0 rfl) ?_
        obtain ⟨rx, u7, hq, h⟩ := xp_seq h
        refine xk_goesV (xr_V (As := [.int a6]) (rest := []) C hP hS (ct_Machine_enter htr hok hq) kq_Machine_169 60 4 rfl rfl ⟨rfl, rfl, Nat.le_of_ble_eq_true rfl, Nat.le_of_ble_eq_true rfl⟩ ⟨Nat.le_of_ble_eq_true rfl, Nat.le_of_ble_eq_true rfl⟩ hl.1 rfl rfl (Nat.le_of_ble_eq_true rfl) dd_Machine_enterByTable_100) hS (fun H locs hP hS => ?_)
        clear hq
        obtain ⟨rfl, rfl⟩ := xp_r h
        exact xr_vret C hP hS dd_Machine_enterByTable_103
      · have h := xp_f hc h
        refine lv_aload_n hx hb dd_Machine_enterByTable_88 rfl (lv_at hl 2 rfl) ?_
        refine lv_bipush (v := 7) hx hb dd_Machine_enterByTable_89 (by decide) ?_
        refine pf_h_Machine_60_trap C hP hS dd_Machine_enterByTable_91 (fun H locs hP hS => ?_)
        obtain ⟨u8, eu8, h⟩ := xp_let h
        rw [← eu8] at hP
        refine lv_goto (tgt := 103) hx hb dd_Machine_enterByTable_94 (by decide) ?_
        obtain ⟨rfl, rfl⟩ := xp_r h
        exact xr_vret C hP hS dd_Machine_enterByTable_103
    · have h := xp_t hc h
      refine lv_aload_n hx hb dd_Machine_enterByTable_46 rfl (lv_at hl 2 rfl) ?_
      refine lv_bipush (v := 6) hx hb dd_Machine_enterByTable_47 (by decide) ?_
      refine pf_h_Machine_60_trap C hP hS dd_Machine_enterByTable_49 (fun H locs hP hS => ?_)
      obtain ⟨u9, eu9, h⟩ := xp_let h
      rw [← eu9] at hP
      refine lv_goto (tgt := 103) hx hb dd_Machine_enterByTable_52 (by decide) ?_
      obtain ⟨rfl, rfl⟩ := xp_r h
      exact xr_vret C hP hS dd_Machine_enterByTable_103
  · have h := xp_f hc h
    refine lv_aload_n hx hb dd_Machine_enterByTable_25 rfl (lv_at hl 1 rfl) ?_
    refine lv_iconst (v := 5) hx hb dd_Machine_enterByTable_26 (by decide) ?_
    refine pf_h_Machine_60_trap C hP hS dd_Machine_enterByTable_27 (fun H locs hP hS => ?_)
    obtain ⟨u10, eu10, h⟩ := xp_let h
    rw [← eu10] at hP
    obtain ⟨rfl, rfl⟩ := xp_r h
    exact xr_vret C hP hS dd_Machine_enterByTable_30
abbrev rm_Values_copy__h64_61 : Room := { frames := 1, cells := 1, slots := 6, locals := 0 }
noncomputable def fm_Values_copy__h64_61 (x1 : Int32) (x2 : Int32) (u : xk_St) : Option (Unit × xk_St) :=
  (if x1 < 0 ∨ 18000 ≤ x1.toNatClampNeg then none else if x2 < 0 ∨ 64 ≤ x2.toNatClampNeg then none else xs_let (xs_B u 11 x2.toNatClampNeg (u.2.2.2 10 x1.toNatClampNeg)) fun u1 => if x1 < 0 ∨ 18000 ≤ x1.toNatClampNeg then none else if x2 < 0 ∨ 64 ≤ x2.toNatClampNeg then none else xs_let (xs_A u1 38 x2.toNatClampNeg (vp_nar .boolean (u1.2.2.1 37 x1.toNatClampNeg))) fun u2 => some ((()), u2))
set_option maxHeartbeats 4000000 in
set_option maxRecDepth 100000 in
theorem ct_Values_copy__h64_61 {l : Launch} {D : va_G} {ad : Nat → Nat} {ca : Nat → ClassId} {ads : List Nat} (htr : l.stackTraces = false) (hok : xk_ok (kw_h ad ca) ads) {x1 : Int32} {x2 : Int32} {u u' : xk_St} {r : Unit} (h : fm_Values_copy__h64_61 x1 x2 u = some (r, u')) :
    ∀ sz, xk_Met l ⟨"ModuleHouse$Values", "copy", "(LModuleHouse$Values;II)V"⟩ (Cond.code ⟨"ModuleHouse$Values", "copy", "(LModuleHouse$Values;II)V"⟩ prog_12_method_6_code 4 none :: xk_gd) rm_Values_copy__h64_61 (xk_Pc D kx_cl (kx_ty ca) (kw_h ad ca) ads xk_F sz [.ref (ad 64), .ref (ad 61), .int x1, .int x2] u) (xk_Qc D kx_cl (kw_h ad ca) ads (xo_v (.inl r)) u') (xk_A ads sz) := by
  unfold fm_Values_copy__h64_61 at h
  refine xk_con (by decide) htr hok (Nat.le_of_ble_eq_true rfl) (fun p e s m below meth c ls C hne hl hP => ?_)
  have hx := C.1.1
  have hb := C.1.2.1
  have hS : va_S (xk_A ads s.heap.size) s.heap s.heap [] := va_S.rf
  have hl : lv_has ls 4 [(0, .ref (ad 64)), (1, .ref (ad 61)), (2, .int x1), (3, .int x2)] := hl
  refine lv_aload_n hx hb dd_Values_copy_0 rfl (lv_at hl 0 rfl) ?_
  refine gf_h_Values_64_value C hP dd_Values_copy_1 ?_
  refine lv_iload_n hx hb dd_Values_copy_4 rfl (lv_at hl 3 rfl) ?_
  refine lv_aload_n hx hb dd_Values_copy_5 rfl (lv_at hl 1 rfl) ?_
  refine gf_h_Values_61_value C hP dd_Values_copy_6 ?_
  refine lv_iload_n hx hb dd_Values_copy_9 rfl (lv_at hl 2 rfl) ?_
  obtain ⟨hi, h⟩ := xp_g h
  refine al_h_62 C hP hi dd_Values_copy_10 ?_
  obtain ⟨hi, h⟩ := xp_g h
  refine as_h_65 C hP hS hi dd_Values_copy_11 (fun H locs hP hS => ?_)
  obtain ⟨u1, eu1, h⟩ := xp_let h
  rw [← eu1] at hP
  refine lv_aload_n hx hb dd_Values_copy_12 rfl (lv_at hl 0 rfl) ?_
  refine gf_h_Values_64_refers C hP dd_Values_copy_13 ?_
  refine lv_iload_n hx hb dd_Values_copy_16 rfl (lv_at hl 3 rfl) ?_
  refine lv_aload_n hx hb dd_Values_copy_17 rfl (lv_at hl 1 rfl) ?_
  refine gf_h_Values_61_refers C hP dd_Values_copy_18 ?_
  refine lv_iload_n hx hb dd_Values_copy_21 rfl (lv_at hl 2 rfl) ?_
  obtain ⟨hi, h⟩ := xp_g h
  refine al_h_63 C hP hi dd_Values_copy_22 ?_
  obtain ⟨hi, h⟩ := xp_g h
  refine as_h_66 C hP hS hi dd_Values_copy_23 (fun H locs hP hS => ?_)
  obtain ⟨u2, eu2, h⟩ := xp_let h
  rw [← eu2] at hP
  obtain ⟨rfl, rfl⟩ := xp_r h
  exact xr_vret C hP hS dd_Values_copy_24
abbrev rm_Values_pushFrom__h61_61 : Room := { frames := 2, cells := 1, slots := 6, locals := 23 }
noncomputable def fm_Values_pushFrom__h61_61 (x1 : Int32) (u : xk_St) : Option (Unit × xk_St) :=
  (xs_seq (fm_Values_copy__h61_61 x1 (u.1 28) u) fun _ u1 => xs_let (xs_I u1 28 ((u1.1 28) + (1 : Int32))) fun u2 => some ((()), u2))
set_option maxHeartbeats 4000000 in
set_option maxRecDepth 100000 in
theorem ct_Values_pushFrom__h61_61 {l : Launch} {D : va_G} {ad : Nat → Nat} {ca : Nat → ClassId} {ads : List Nat} (htr : l.stackTraces = false) (hok : xk_ok (kw_h ad ca) ads) {x1 : Int32} {u u' : xk_St} {r : Unit} (h : fm_Values_pushFrom__h61_61 x1 u = some (r, u')) :
    ∀ sz, xk_Met l ⟨"ModuleHouse$Values", "pushFrom", "(LModuleHouse$Values;I)V"⟩ (Cond.code ⟨"ModuleHouse$Values", "pushFrom", "(LModuleHouse$Values;I)V"⟩ prog_12_method_7_code 3 none :: xk_gd) rm_Values_pushFrom__h61_61 (xk_Pc D kx_cl (kx_ty ca) (kw_h ad ca) ads xk_F sz [.ref (ad 61), .ref (ad 61), .int x1] u) (xk_Qc D kx_cl (kw_h ad ca) ads (xo_v (.inl r)) u') (xk_A ads sz) := by
  unfold fm_Values_pushFrom__h61_61 at h
  refine xk_con (by decide) htr hok (Nat.le_of_ble_eq_true rfl) (fun p e s m below meth c ls C hne hl hP => ?_)
  have hx := C.1.1
  have hb := C.1.2.1
  have hS : va_S (xk_A ads s.heap.size) s.heap s.heap [] := va_S.rf
  have hl : lv_has ls 3 [(0, .ref (ad 61)), (1, .ref (ad 61)), (2, .int x1)] := hl
  refine lv_aload_n hx hb dd_Values_pushFrom_0 rfl (lv_at hl 0 rfl) ?_
  refine lv_aload_n hx hb dd_Values_pushFrom_1 rfl (lv_at hl 1 rfl) ?_
  refine lv_iload_n hx hb dd_Values_pushFrom_2 rfl (lv_at hl 2 rfl) ?_
  refine lv_aload_n hx hb dd_Values_pushFrom_3 rfl (lv_at hl 0 rfl) ?_
  refine gf_h_Values_61_top C hP dd_Values_pushFrom_4 ?_
  obtain ⟨rx, u1, hq, h⟩ := xp_seq h
  refine xk_goesV (xr_V (As := [.ref (ad 61), .int x1, .int (u.1 28)]) (rest := []) C hP hS (ct_Values_copy__h61_61 htr hok hq) kq_Values_25 61 10 rfl rfl ⟨rfl, rfl, Nat.le_of_ble_eq_true rfl, Nat.le_of_ble_eq_true rfl⟩ ⟨Nat.le_of_ble_eq_true rfl, Nat.le_of_ble_eq_true rfl⟩ hl.1 rfl rfl (Nat.le_of_ble_eq_true rfl) dd_Values_pushFrom_7) hS (fun H locs hP hS => ?_)
  clear hq
  refine lv_aload_n hx hb dd_Values_pushFrom_10 rfl (lv_at hl 0 rfl) ?_
  refine lv_dup hx hb dd_Values_pushFrom_11 rfl ?_
  refine gf_h_Values_61_top C hP dd_Values_pushFrom_12 ?_
  refine lv_iconst (v := 1) hx hb dd_Values_pushFrom_15 (by decide) ?_
  refine lv_iadd hx hb dd_Values_pushFrom_16 ?_
  refine pf_h_Values_61_top C hP hS dd_Values_pushFrom_17 (fun H locs hP hS => ?_)
  obtain ⟨u2, eu2, h⟩ := xp_let h
  rw [← eu2] at hP
  obtain ⟨rfl, rfl⟩ := xp_r h
  exact xr_vret C hP hS dd_Values_pushFrom_20
abbrev rm_Values_copy__h61_64 : Room := { frames := 1, cells := 1, slots := 6, locals := 0 }
noncomputable def fm_Values_copy__h61_64 (x1 : Int32) (x2 : Int32) (u : xk_St) : Option (Unit × xk_St) :=
  (if x1 < 0 ∨ 64 ≤ x1.toNatClampNeg then none else if x2 < 0 ∨ 18000 ≤ x2.toNatClampNeg then none else xs_let (xs_B u 10 x2.toNatClampNeg (u.2.2.2 11 x1.toNatClampNeg)) fun u1 => if x1 < 0 ∨ 64 ≤ x1.toNatClampNeg then none else if x2 < 0 ∨ 18000 ≤ x2.toNatClampNeg then none else xs_let (xs_A u1 37 x2.toNatClampNeg (vp_nar .boolean (u1.2.2.1 38 x1.toNatClampNeg))) fun u2 => some ((()), u2))
set_option maxHeartbeats 4000000 in
set_option maxRecDepth 100000 in
theorem ct_Values_copy__h61_64 {l : Launch} {D : va_G} {ad : Nat → Nat} {ca : Nat → ClassId} {ads : List Nat} (htr : l.stackTraces = false) (hok : xk_ok (kw_h ad ca) ads) {x1 : Int32} {x2 : Int32} {u u' : xk_St} {r : Unit} (h : fm_Values_copy__h61_64 x1 x2 u = some (r, u')) :
    ∀ sz, xk_Met l ⟨"ModuleHouse$Values", "copy", "(LModuleHouse$Values;II)V"⟩ (Cond.code ⟨"ModuleHouse$Values", "copy", "(LModuleHouse$Values;II)V"⟩ prog_12_method_6_code 4 none :: xk_gd) rm_Values_copy__h61_64 (xk_Pc D kx_cl (kx_ty ca) (kw_h ad ca) ads xk_F sz [.ref (ad 61), .ref (ad 64), .int x1, .int x2] u) (xk_Qc D kx_cl (kw_h ad ca) ads (xo_v (.inl r)) u') (xk_A ads sz) := by
  unfold fm_Values_copy__h61_64 at h
  refine xk_con (by decide) htr hok (Nat.le_of_ble_eq_true rfl) (fun p e s m below meth c ls C hne hl hP => ?_)
  have hx := C.1.1
  have hb := C.1.2.1
  have hS : va_S (xk_A ads s.heap.size) s.heap s.heap [] := va_S.rf
  have hl : lv_has ls 4 [(0, .ref (ad 61)), (1, .ref (ad 64)), (2, .int x1), (3, .int x2)] := hl
  refine lv_aload_n hx hb dd_Values_copy_0 rfl (lv_at hl 0 rfl) ?_
  refine gf_h_Values_61_value C hP dd_Values_copy_1 ?_
  refine lv_iload_n hx hb dd_Values_copy_4 rfl (lv_at hl 3 rfl) ?_
  refine lv_aload_n hx hb dd_Values_copy_5 rfl (lv_at hl 1 rfl) ?_
  refine gf_h_Values_64_value C hP dd_Values_copy_6 ?_
  refine lv_iload_n hx hb dd_Values_copy_9 rfl (lv_at hl 2 rfl) ?_
  obtain ⟨hi, h⟩ := xp_g h
  refine al_h_65 C hP hi dd_Values_copy_10 ?_
  obtain ⟨hi, h⟩ := xp_g h
  refine as_h_62 C hP hS hi dd_Values_copy_11 (fun H locs hP hS => ?_)
  obtain ⟨u1, eu1, h⟩ := xp_let h
  rw [← eu1] at hP
  refine lv_aload_n hx hb dd_Values_copy_12 rfl (lv_at hl 0 rfl) ?_
  refine gf_h_Values_61_refers C hP dd_Values_copy_13 ?_
  refine lv_iload_n hx hb dd_Values_copy_16 rfl (lv_at hl 3 rfl) ?_
  refine lv_aload_n hx hb dd_Values_copy_17 rfl (lv_at hl 1 rfl) ?_
  refine gf_h_Values_64_refers C hP dd_Values_copy_18 ?_
  refine lv_iload_n hx hb dd_Values_copy_21 rfl (lv_at hl 2 rfl) ?_
  obtain ⟨hi, h⟩ := xp_g h
  refine al_h_66 C hP hi dd_Values_copy_22 ?_
  obtain ⟨hi, h⟩ := xp_g h
  refine as_h_63 C hP hS hi dd_Values_copy_23 (fun H locs hP hS => ?_)
  obtain ⟨u2, eu2, h⟩ := xp_let h
  rw [← eu2] at hP
  obtain ⟨rfl, rfl⟩ := xp_r h
  exact xr_vret C hP hS dd_Values_copy_24
abbrev rm_Values_pushFrom__h61_64 : Room := { frames := 2, cells := 1, slots := 6, locals := 23 }
noncomputable def fm_Values_pushFrom__h61_64 (x1 : Int32) (u : xk_St) : Option (Unit × xk_St) :=
  (xs_seq (fm_Values_copy__h61_64 x1 (u.1 28) u) fun _ u1 => xs_let (xs_I u1 28 ((u1.1 28) + (1 : Int32))) fun u2 => some ((()), u2))
set_option maxHeartbeats 4000000 in
set_option maxRecDepth 100000 in
theorem ct_Values_pushFrom__h61_64 {l : Launch} {D : va_G} {ad : Nat → Nat} {ca : Nat → ClassId} {ads : List Nat} (htr : l.stackTraces = false) (hok : xk_ok (kw_h ad ca) ads) {x1 : Int32} {u u' : xk_St} {r : Unit} (h : fm_Values_pushFrom__h61_64 x1 u = some (r, u')) :
    ∀ sz, xk_Met l ⟨"ModuleHouse$Values", "pushFrom", "(LModuleHouse$Values;I)V"⟩ (Cond.code ⟨"ModuleHouse$Values", "pushFrom", "(LModuleHouse$Values;I)V"⟩ prog_12_method_7_code 3 none :: xk_gd) rm_Values_pushFrom__h61_64 (xk_Pc D kx_cl (kx_ty ca) (kw_h ad ca) ads xk_F sz [.ref (ad 61), .ref (ad 64), .int x1] u) (xk_Qc D kx_cl (kw_h ad ca) ads (xo_v (.inl r)) u') (xk_A ads sz) := by
  unfold fm_Values_pushFrom__h61_64 at h
  refine xk_con (by decide) htr hok (Nat.le_of_ble_eq_true rfl) (fun p e s m below meth c ls C hne hl hP => ?_)
  have hx := C.1.1
  have hb := C.1.2.1
  have hS : va_S (xk_A ads s.heap.size) s.heap s.heap [] := va_S.rf
  have hl : lv_has ls 3 [(0, .ref (ad 61)), (1, .ref (ad 64)), (2, .int x1)] := hl
  refine lv_aload_n hx hb dd_Values_pushFrom_0 rfl (lv_at hl 0 rfl) ?_
  refine lv_aload_n hx hb dd_Values_pushFrom_1 rfl (lv_at hl 1 rfl) ?_
  refine lv_iload_n hx hb dd_Values_pushFrom_2 rfl (lv_at hl 2 rfl) ?_
  refine lv_aload_n hx hb dd_Values_pushFrom_3 rfl (lv_at hl 0 rfl) ?_
  refine gf_h_Values_61_top C hP dd_Values_pushFrom_4 ?_
  obtain ⟨rx, u1, hq, h⟩ := xp_seq h
  refine xk_goesV (xr_V (As := [.ref (ad 64), .int x1, .int (u.1 28)]) (rest := []) C hP hS (ct_Values_copy__h61_64 htr hok hq) kq_Values_25 61 10 rfl rfl ⟨rfl, rfl, Nat.le_of_ble_eq_true rfl, Nat.le_of_ble_eq_true rfl⟩ ⟨Nat.le_of_ble_eq_true rfl, Nat.le_of_ble_eq_true rfl⟩ hl.1 rfl rfl (Nat.le_of_ble_eq_true rfl) dd_Values_pushFrom_7) hS (fun H locs hP hS => ?_)
  clear hq
  refine lv_aload_n hx hb dd_Values_pushFrom_10 rfl (lv_at hl 0 rfl) ?_
  refine lv_dup hx hb dd_Values_pushFrom_11 rfl ?_
  refine gf_h_Values_61_top C hP dd_Values_pushFrom_12 ?_
  refine lv_iconst (v := 1) hx hb dd_Values_pushFrom_15 (by decide) ?_
  refine lv_iadd hx hb dd_Values_pushFrom_16 ?_
  refine pf_h_Values_61_top C hP hS dd_Values_pushFrom_17 (fun H locs hP hS => ?_)
  obtain ⟨u2, eu2, h⟩ := xp_let h
  rw [← eu2] at hP
  obtain ⟨rfl, rfl⟩ := xp_r h
  exact xr_vret C hP hS dd_Values_pushFrom_20
abbrev rm_Machine_doSimple : Room := { frames := 4, cells := 1, slots := 6, locals := 65 }
noncomputable def jb_Machine_doSimple_267 (b2 : Int32) (u : xk_St) : Option (Unit × xk_St) :=
  (xs_seq (fm_Values_copy__h64_61 ((u.1 28) - (1 : Int32)) b2 u) fun _ u3 => xs_let (xs_I u3 28 ((u3.1 28) - (1 : Int32))) fun u4 => some ((()), u4))
noncomputable def jb_Machine_doSimple_163 (u : xk_St) : Option (Unit × xk_St) :=
  some ((()), u)
noncomputable def jb_Machine_doSimple_245 (s0 : Int32) (s1 : Int32) (u : xk_St) : Option (Unit × xk_St) :=
  (xs_let (xs_I u 28 (s1 - s0)) fun u16 => some ((()), u16))
noncomputable def jb_Machine_doSimple_193 (b1 : Int32) (b2 : Int32) (u : xk_St) : Option (Unit × xk_St) :=
  (if ((u.1 24) - (1 : Int32)) < 0 ∨ 60 ≤ ((u.1 24) - (1 : Int32)).toNatClampNeg then none else xs_seq (fm_Values_copy__h61_61 ((u.1 28) - (1 : Int32)) ((u.2.2.1 49 ((u.1 24) - (1 : Int32)).toNatClampNeg) + b2) u) fun _ u15 => if b1 = (33 : Int32) then (jb_Machine_doSimple_245 (1 : Int32) (u15.1 28) u15) else (jb_Machine_doSimple_245 (0 : Int32) (u15.1 28) u15))
noncomputable def fm_Machine_doSimple (x0 : Int32) (x1 : Int32) (u : xk_St) : Option (Unit × xk_St) :=
  if x0 = (16 : Int32) then ((xs_seq (fm_Machine_enter x1 u) fun _ u1 => some ((()), u1))) else if x0 = (17 : Int32) then ((xs_seq (fm_Machine_enterByTable x1 u) fun _ u2 => some ((()), u2))) else if x0 = (18 : Int32) then (jb_Machine_doSimple_267 x1 u) else if x0 = (19 : Int32) then (jb_Machine_doSimple_267 x1 u) else if x0 = (20 : Int32) then (jb_Machine_doSimple_267 x1 u) else if x0 = (21 : Int32) then (jb_Machine_doSimple_267 x1 u) else if x0 = (22 : Int32) then (jb_Machine_doSimple_267 x1 u) else if x0 = (23 : Int32) then (jb_Machine_doSimple_267 x1 u) else if x0 = (24 : Int32) then (jb_Machine_doSimple_267 x1 u) else if x0 = (25 : Int32) then (jb_Machine_doSimple_267 x1 u) else if x0 = (26 : Int32) then ((xs_seq (fm_Values_pop__h61 u) fun a5 u6 => some ((()), u6))) else if x0 = (27 : Int32) then ((xs_seq (fm_Values_pop__h61 u) fun a7 u8 => xs_seq (fm_Values_pop__h61 u8) fun a9 u10 => if a7 = (0 : Int64) then ((xs_seq (fm_Values_pop__h61 u10) fun a11 u12 => xs_seq (fm_Values_push__h61 a9 u12) fun _ u13 => jb_Machine_doSimple_163 u13)) else (jb_Machine_doSimple_163 u10))) else if x0 = (28 : Int32) then (jb_Machine_doSimple_267 x1 u) else if x0 = (29 : Int32) then (jb_Machine_doSimple_267 x1 u) else if x0 = (30 : Int32) then (jb_Machine_doSimple_267 x1 u) else if x0 = (31 : Int32) then (jb_Machine_doSimple_267 x1 u) else if x0 = (32 : Int32) then ((if ((u.1 24) - (1 : Int32)) < 0 ∨ 60 ≤ ((u.1 24) - (1 : Int32)).toNatClampNeg then none else xs_seq (fm_Values_pushFrom__h61_61 ((u.2.2.1 49 ((u.1 24) - (1 : Int32)).toNatClampNeg) + x1) u) fun _ u14 => some ((()), u14))) else if x0 = (33 : Int32) then (jb_Machine_doSimple_193 x0 x1 u) else if x0 = (34 : Int32) then (jb_Machine_doSimple_193 x0 x1 u) else if x0 = (35 : Int32) then ((xs_seq (fm_Values_pushFrom__h61_64 x1 u) fun _ u17 => some ((()), u17))) else (jb_Machine_doSimple_267 x1 u)
set_option maxHeartbeats 4000000 in
set_option maxRecDepth 100000 in
theorem wj_Machine_doSimple_267 {p : Program} {l : Launch} {e : Env} {s : State} {m : MethodId} {args : Array Value} {below : List Frame} {meth : Method} {c : Code} {D : va_G} {ad : Nat → Nat} {ca : Nat → ClassId} {ads : List Nat} (htr : l.stackTraces = false) (C : xk_C D kx_cl (kx_ty ca) (kw_h ad ca) ads "ModuleHouse$Machine" prog_5_method_13_code 7 none p e s m args meth c) (hne : c.exceptionTable.isEmpty = true) {u' : xk_St} {r : Unit} {b2 : Int32} {u : xk_St} {H : Heap} {locs : List Loc} {ls : Array Slot} (h : jb_Machine_doSimple_267  b2 u = some (r, u')) (hP : va_P D kx_cl (kw_h ad ca u) H) (hS : va_S (xk_A ads s.heap.size) s.heap H locs) (hl : lv_has ls 7 [(0, .ref (ad 60)), (2, .int b2)]) : W p l e rm_Machine_doSimple s m args below meth c H locs 0 0 (xk_MQ below (xk_Qc D kx_cl (kw_h ad ca) ads (xo_v (.inl r)) u') args s (xk_A ads s.heap.size)) (F0 m 267 ls []) := by
  have hx := C.1.1
  have hb := C.1.2.1
  have hok := C.2.2.1
  unfold jb_Machine_doSimple_267 at h
  refine lv_aload_n hx hb dd_Machine_doSimple_267 rfl (lv_at hl 0 rfl) ?_
  refine gf_h_Machine_60_globals C hP dd_Machine_doSimple_268 ?_
  refine lv_aload_n hx hb dd_Machine_doSimple_271 rfl (lv_at hl 0 rfl) ?_
  refine gf_h_Machine_60_values C hP dd_Machine_doSimple_272 ?_
  refine lv_aload_n hx hb dd_Machine_doSimple_275 rfl (lv_at hl 0 rfl) ?_
  refine gf_h_Machine_60_values C hP dd_Machine_doSimple_276 ?_
  refine gf_h_Machine_61_top C hP dd_Machine_doSimple_279 ?_
  refine lv_iconst (v := 1) hx hb dd_Machine_doSimple_282 (by decide) ?_
  refine lv_isub hx hb dd_Machine_doSimple_283 ?_
  refine lv_iload_n hx hb dd_Machine_doSimple_284 rfl (lv_at hl 1 rfl) ?_
  obtain ⟨rx, u3, hq, h⟩ := xp_seq h
  refine xk_goesV (xr_V (As := [.ref (ad 61), .int ((u.1 28) - (1 : Int32)), .int b2]) (rest := []) C hP hS (ct_Values_copy__h64_61 htr hok hq) kq_Machine_270 64 10 rfl rfl ⟨rfl, rfl, Nat.le_of_ble_eq_true rfl, Nat.le_of_ble_eq_true rfl⟩ ⟨Nat.le_of_ble_eq_true rfl, Nat.le_of_ble_eq_true rfl⟩ hl.1 rfl rfl (Nat.le_of_ble_eq_true rfl) dd_Machine_doSimple_285) hS (fun H locs hP hS => ?_)
  clear hq
  refine lv_aload_n hx hb dd_Machine_doSimple_288 rfl (lv_at hl 0 rfl) ?_
  refine gf_h_Machine_60_values C hP dd_Machine_doSimple_289 ?_
  refine lv_dup hx hb dd_Machine_doSimple_292 rfl ?_
  refine gf_h_Machine_61_top C hP dd_Machine_doSimple_293 ?_
  refine lv_iconst (v := 1) hx hb dd_Machine_doSimple_296 (by decide) ?_
  refine lv_isub hx hb dd_Machine_doSimple_297 ?_
  refine pf_h_Machine_61_top C hP hS dd_Machine_doSimple_298 (fun H locs hP hS => ?_)
  obtain ⟨u4, eu4, h⟩ := xp_let h
  rw [← eu4] at hP
  obtain ⟨rfl, rfl⟩ := xp_r h
  exact xr_vret C hP hS dd_Machine_doSimple_301
set_option maxHeartbeats 4000000 in
set_option maxRecDepth 100000 in
theorem wj_Machine_doSimple_163 {p : Program} {l : Launch} {e : Env} {s : State} {m : MethodId} {args : Array Value} {below : List Frame} {meth : Method} {c : Code} {D : va_G} {ad : Nat → Nat} {ca : Nat → ClassId} {ads : List Nat} (htr : l.stackTraces = false) (C : xk_C D kx_cl (kx_ty ca) (kw_h ad ca) ads "ModuleHouse$Machine" prog_5_method_13_code 7 none p e s m args meth c) (hne : c.exceptionTable.isEmpty = true) {u' : xk_St} {r : Unit} {u : xk_St} {H : Heap} {locs : List Loc} {ls : Array Slot} (h : jb_Machine_doSimple_163   u = some (r, u')) (hP : va_P D kx_cl (kw_h ad ca u) H) (hS : va_S (xk_A ads s.heap.size) s.heap H locs) (hl : lv_has ls 7 []) : W p l e rm_Machine_doSimple s m args below meth c H locs 0 0 (xk_MQ below (xk_Qc D kx_cl (kw_h ad ca) ads (xo_v (.inl r)) u') args s (xk_A ads s.heap.size)) (F0 m 163 ls []) := by
  have hx := C.1.1
  have hb := C.1.2.1
  have hok := C.2.2.1
  unfold jb_Machine_doSimple_163 at h
  refine lv_goto (tgt := 301) hx hb dd_Machine_doSimple_163 (by decide) ?_
  obtain ⟨rfl, rfl⟩ := xp_r h
  exact xr_vret C hP hS dd_Machine_doSimple_301
set_option maxHeartbeats 4000000 in
set_option maxRecDepth 100000 in
theorem wj_Machine_doSimple_245 {p : Program} {l : Launch} {e : Env} {s : State} {m : MethodId} {args : Array Value} {below : List Frame} {meth : Method} {c : Code} {D : va_G} {ad : Nat → Nat} {ca : Nat → ClassId} {ads : List Nat} (htr : l.stackTraces = false) (C : xk_C D kx_cl (kx_ty ca) (kw_h ad ca) ads "ModuleHouse$Machine" prog_5_method_13_code 7 none p e s m args meth c) (hne : c.exceptionTable.isEmpty = true) {u' : xk_St} {r : Unit} {s0 : Int32} {s1 : Int32} {u : xk_St} {H : Heap} {locs : List Loc} {ls : Array Slot} (h : jb_Machine_doSimple_245  s0 s1 u = some (r, u')) (hP : va_P D kx_cl (kw_h ad ca u) H) (hS : va_S (xk_A ads s.heap.size) s.heap H locs) (hl : lv_has ls 7 []) : W p l e rm_Machine_doSimple s m args below meth c H locs 0 0 (xk_MQ below (xk_Qc D kx_cl (kw_h ad ca) ads (xo_v (.inl r)) u') args s (xk_A ads s.heap.size)) (F0 m 245 ls [.int s0, .int s1, .ref (ad 61)]) := by
  have hx := C.1.1
  have hb := C.1.2.1
  have hok := C.2.2.1
  unfold jb_Machine_doSimple_245 at h
  refine lv_isub hx hb dd_Machine_doSimple_245 ?_
  refine pf_h_Machine_61_top C hP hS dd_Machine_doSimple_246 (fun H locs hP hS => ?_)
  obtain ⟨u16, eu16, h⟩ := xp_let h
  rw [← eu16] at hP
  refine lv_goto (tgt := 301) hx hb dd_Machine_doSimple_249 (by decide) ?_
  obtain ⟨rfl, rfl⟩ := xp_r h
  exact xr_vret C hP hS dd_Machine_doSimple_301
set_option maxHeartbeats 4000000 in
set_option maxRecDepth 100000 in
theorem wj_Machine_doSimple_193 {p : Program} {l : Launch} {e : Env} {s : State} {m : MethodId} {args : Array Value} {below : List Frame} {meth : Method} {c : Code} {D : va_G} {ad : Nat → Nat} {ca : Nat → ClassId} {ads : List Nat} (htr : l.stackTraces = false) (C : xk_C D kx_cl (kx_ty ca) (kw_h ad ca) ads "ModuleHouse$Machine" prog_5_method_13_code 7 none p e s m args meth c) (hne : c.exceptionTable.isEmpty = true) {u' : xk_St} {r : Unit} {b1 : Int32} {b2 : Int32} {u : xk_St} {H : Heap} {locs : List Loc} {ls : Array Slot} (h : jb_Machine_doSimple_193  b1 b2 u = some (r, u')) (hP : va_P D kx_cl (kw_h ad ca u) H) (hS : va_S (xk_A ads s.heap.size) s.heap H locs) (hl : lv_has ls 7 [(0, .ref (ad 60)), (1, .int b1), (2, .int b2)]) : W p l e rm_Machine_doSimple s m args below meth c H locs 0 0 (xk_MQ below (xk_Qc D kx_cl (kw_h ad ca) ads (xo_v (.inl r)) u') args s (xk_A ads s.heap.size)) (F0 m 193 ls []) := by
  have hx := C.1.1
  have hb := C.1.2.1
  have hok := C.2.2.1
  unfold jb_Machine_doSimple_193 at h
  refine lv_aload_n hx hb dd_Machine_doSimple_193 rfl (lv_at hl 0 rfl) ?_
  refine gf_h_Machine_60_values C hP dd_Machine_doSimple_194 ?_
  refine lv_aload_n hx hb dd_Machine_doSimple_197 rfl (lv_at hl 0 rfl) ?_
  refine gf_h_Machine_60_values C hP dd_Machine_doSimple_198 ?_
  refine lv_aload_n hx hb dd_Machine_doSimple_201 rfl (lv_at hl 0 rfl) ?_
  refine gf_h_Machine_60_values C hP dd_Machine_doSimple_202 ?_
  refine gf_h_Machine_61_top C hP dd_Machine_doSimple_205 ?_
  refine lv_iconst (v := 1) hx hb dd_Machine_doSimple_208 (by decide) ?_
  refine lv_isub hx hb dd_Machine_doSimple_209 ?_
  refine lv_aload_n hx hb dd_Machine_doSimple_210 rfl (lv_at hl 0 rfl) ?_
  refine gf_h_Machine_60_base C hP dd_Machine_doSimple_211 ?_
  refine lv_aload_n hx hb dd_Machine_doSimple_214 rfl (lv_at hl 0 rfl) ?_
  refine gf_h_Machine_60_depth C hP dd_Machine_doSimple_215 ?_
  refine lv_iconst (v := 1) hx hb dd_Machine_doSimple_218 (by decide) ?_
  refine lv_isub hx hb dd_Machine_doSimple_219 ?_
  obtain ⟨hi, h⟩ := xp_g h
  refine al_h_81 C hP hi dd_Machine_doSimple_220 ?_
  refine lv_iload_n hx hb dd_Machine_doSimple_221 rfl (lv_at hl 2 rfl) ?_
  refine lv_iadd hx hb dd_Machine_doSimple_222 ?_
  obtain ⟨rx, u15, hq, h⟩ := xp_seq h
  refine xk_goesV (xr_V (As := [.ref (ad 61), .int ((u.1 28) - (1 : Int32)), .int ((u.2.2.1 49 ((u.1 24) - (1 : Int32)).toNatClampNeg) + b2)]) (rest := []) C hP hS (ct_Values_copy__h61_61 htr hok hq) kq_Machine_270 61 10 rfl rfl ⟨rfl, rfl, Nat.le_of_ble_eq_true rfl, Nat.le_of_ble_eq_true rfl⟩ ⟨Nat.le_of_ble_eq_true rfl, Nat.le_of_ble_eq_true rfl⟩ hl.1 rfl rfl (Nat.le_of_ble_eq_true rfl) dd_Machine_doSimple_223) hS (fun H locs hP hS => ?_)
  clear hq
  refine lv_aload_n hx hb dd_Machine_doSimple_226 rfl (lv_at hl 0 rfl) ?_
  refine gf_h_Machine_60_values C hP dd_Machine_doSimple_227 ?_
  refine lv_dup hx hb dd_Machine_doSimple_230 rfl ?_
  refine gf_h_Machine_61_top C hP dd_Machine_doSimple_231 ?_
  refine lv_iload_n hx hb dd_Machine_doSimple_234 rfl (lv_at hl 1 rfl) ?_
  refine lv_bipush (v := 33) hx hb dd_Machine_doSimple_235 (by decide) ?_
  refine lv_icmp_ne (tgt := 244) hx hb dd_Machine_doSimple_237 (by decide) (fun hc => ?_) (fun hc => ?_)
  · have h := xp_f hc h
    refine lv_iconst (v := 0) hx hb dd_Machine_doSimple_244 (by decide) ?_
    exact wj_Machine_doSimple_245 htr C hne h hP hS (lv_sub hl [] rfl)
  · have h := xp_t hc h
    refine lv_iconst (v := 1) hx hb dd_Machine_doSimple_240 (by decide) ?_
    refine lv_goto (tgt := 245) hx hb dd_Machine_doSimple_241 (by decide) ?_
    exact wj_Machine_doSimple_245 htr C hne h hP hS (lv_sub hl [] rfl)
set_option maxHeartbeats 4000000 in
set_option maxRecDepth 100000 in
theorem ct_Machine_doSimple {l : Launch} {D : va_G} {ad : Nat → Nat} {ca : Nat → ClassId} {ads : List Nat} (htr : l.stackTraces = false) (hok : xk_ok (kw_h ad ca) ads) {x0 : Int32} {x1 : Int32} {u u' : xk_St} {r : Unit} (h : fm_Machine_doSimple x0 x1 u = some (r, u')) :
    ∀ sz, xk_Met l ⟨"ModuleHouse$Machine", "doSimple", "(II)V"⟩ (Cond.code ⟨"ModuleHouse$Machine", "doSimple", "(II)V"⟩ prog_5_method_13_code 7 none :: xk_gd) rm_Machine_doSimple (xk_Pc D kx_cl (kx_ty ca) (kw_h ad ca) ads xk_F sz [.ref (ad 60), .int x0, .int x1] u) (xk_Qc D kx_cl (kw_h ad ca) ads (xo_v (.inl r)) u') (xk_A ads sz) := by
  unfold fm_Machine_doSimple at h
  refine xk_con (by decide) htr hok (Nat.le_of_ble_eq_true rfl) (fun p e s m below meth c ls C hne hl hP => ?_)
  have hx := C.1.1
  have hb := C.1.2.1
  have hS : va_S (xk_A ads s.heap.size) s.heap s.heap [] := va_S.rf
  have hl : lv_has ls 7 [(0, .ref (ad 60)), (1, .int x0), (2, .int x1)] := hl
  refine lv_iload_n hx hb dd_Machine_doSimple_0 rfl (lv_at hl 1 rfl) ?_
  by_cases hc0 : x0 = (16 : Int32)
  · have h := xp_t hc0 h
    refine lv_tableIn (off := 95) (tgt := 96) hx hb dd_Machine_doSimple_1 (by rw [hc0]; decide) (by rw [hc0]; decide) (by rw [hc0]; rfl) (by decide) ?_
    refine lv_aload_n hx hb dd_Machine_doSimple_96 rfl (lv_at hl 0 rfl) ?_
    refine lv_iload_n hx hb dd_Machine_doSimple_97 rfl (lv_at hl 2 rfl) ?_
    obtain ⟨rx, u1, hq, h⟩ := xp_seq h
    refine xk_goesV (xr_V (As := [.int x1]) (rest := []) C hP hS (ct_Machine_enter htr hok hq) kq_Machine_169 60 4 rfl rfl ⟨rfl, rfl, Nat.le_of_ble_eq_true rfl, Nat.le_of_ble_eq_true rfl⟩ ⟨Nat.le_of_ble_eq_true rfl, Nat.le_of_ble_eq_true rfl⟩ hl.1 rfl rfl (Nat.le_of_ble_eq_true rfl) dd_Machine_doSimple_98) hS (fun H locs hP hS => ?_)
    clear hq
    refine lv_goto (tgt := 301) hx hb dd_Machine_doSimple_101 (by decide) ?_
    obtain ⟨rfl, rfl⟩ := xp_r h
    exact xr_vret C hP hS dd_Machine_doSimple_301
  have h := xp_f hc0 h
  by_cases hc1 : x0 = (17 : Int32)
  · have h := xp_t hc1 h
    refine lv_tableIn (off := 103) (tgt := 104) hx hb dd_Machine_doSimple_1 (by rw [hc1]; decide) (by rw [hc1]; decide) (by rw [hc1]; rfl) (by decide) ?_
    refine lv_aload_n hx hb dd_Machine_doSimple_104 rfl (lv_at hl 0 rfl) ?_
    refine lv_iload_n hx hb dd_Machine_doSimple_105 rfl (lv_at hl 2 rfl) ?_
    obtain ⟨rx, u2, hq, h⟩ := xp_seq h
    refine xk_goesV (xr_V (As := [.int x1]) (rest := []) C hP hS (ct_Machine_enterByTable htr hok hq) kq_Machine_263 60 4 rfl rfl ⟨rfl, rfl, Nat.le_of_ble_eq_true rfl, Nat.le_of_ble_eq_true rfl⟩ ⟨Nat.le_of_ble_eq_true rfl, Nat.le_of_ble_eq_true rfl⟩ hl.1 rfl rfl (Nat.le_of_ble_eq_true rfl) dd_Machine_doSimple_106) hS (fun H locs hP hS => ?_)
    clear hq
    refine lv_goto (tgt := 301) hx hb dd_Machine_doSimple_109 (by decide) ?_
    obtain ⟨rfl, rfl⟩ := xp_r h
    exact xr_vret C hP hS dd_Machine_doSimple_301
  have h := xp_f hc1 h
  by_cases hc2 : x0 = (18 : Int32)
  · have h := xp_t hc2 h
    refine lv_tableIn (off := 266) (tgt := 267) hx hb dd_Machine_doSimple_1 (by rw [hc2]; decide) (by rw [hc2]; decide) (by rw [hc2]; rfl) (by decide) ?_
    exact wj_Machine_doSimple_267 htr C hne h hP hS (lv_sub hl [0, 2] rfl)
  have h := xp_f hc2 h
  by_cases hc3 : x0 = (19 : Int32)
  · have h := xp_t hc3 h
    refine lv_tableIn (off := 266) (tgt := 267) hx hb dd_Machine_doSimple_1 (by rw [hc3]; decide) (by rw [hc3]; decide) (by rw [hc3]; rfl) (by decide) ?_
    exact wj_Machine_doSimple_267 htr C hne h hP hS (lv_sub hl [0, 2] rfl)
  have h := xp_f hc3 h
  by_cases hc4 : x0 = (20 : Int32)
  · have h := xp_t hc4 h
    refine lv_tableIn (off := 266) (tgt := 267) hx hb dd_Machine_doSimple_1 (by rw [hc4]; decide) (by rw [hc4]; decide) (by rw [hc4]; rfl) (by decide) ?_
    exact wj_Machine_doSimple_267 htr C hne h hP hS (lv_sub hl [0, 2] rfl)
  have h := xp_f hc4 h
  by_cases hc5 : x0 = (21 : Int32)
  · have h := xp_t hc5 h
    refine lv_tableIn (off := 266) (tgt := 267) hx hb dd_Machine_doSimple_1 (by rw [hc5]; decide) (by rw [hc5]; decide) (by rw [hc5]; rfl) (by decide) ?_
    exact wj_Machine_doSimple_267 htr C hne h hP hS (lv_sub hl [0, 2] rfl)
  have h := xp_f hc5 h
  by_cases hc6 : x0 = (22 : Int32)
  · have h := xp_t hc6 h
    refine lv_tableIn (off := 266) (tgt := 267) hx hb dd_Machine_doSimple_1 (by rw [hc6]; decide) (by rw [hc6]; decide) (by rw [hc6]; rfl) (by decide) ?_
    exact wj_Machine_doSimple_267 htr C hne h hP hS (lv_sub hl [0, 2] rfl)
  have h := xp_f hc6 h
  by_cases hc7 : x0 = (23 : Int32)
  · have h := xp_t hc7 h
    refine lv_tableIn (off := 266) (tgt := 267) hx hb dd_Machine_doSimple_1 (by rw [hc7]; decide) (by rw [hc7]; decide) (by rw [hc7]; rfl) (by decide) ?_
    exact wj_Machine_doSimple_267 htr C hne h hP hS (lv_sub hl [0, 2] rfl)
  have h := xp_f hc7 h
  by_cases hc8 : x0 = (24 : Int32)
  · have h := xp_t hc8 h
    refine lv_tableIn (off := 266) (tgt := 267) hx hb dd_Machine_doSimple_1 (by rw [hc8]; decide) (by rw [hc8]; decide) (by rw [hc8]; rfl) (by decide) ?_
    exact wj_Machine_doSimple_267 htr C hne h hP hS (lv_sub hl [0, 2] rfl)
  have h := xp_f hc8 h
  by_cases hc9 : x0 = (25 : Int32)
  · have h := xp_t hc9 h
    refine lv_tableIn (off := 266) (tgt := 267) hx hb dd_Machine_doSimple_1 (by rw [hc9]; decide) (by rw [hc9]; decide) (by rw [hc9]; rfl) (by decide) ?_
    exact wj_Machine_doSimple_267 htr C hne h hP hS (lv_sub hl [0, 2] rfl)
  have h := xp_f hc9 h
  by_cases hc10 : x0 = (26 : Int32)
  · have h := xp_t hc10 h
    refine lv_tableIn (off := 111) (tgt := 112) hx hb dd_Machine_doSimple_1 (by rw [hc10]; decide) (by rw [hc10]; decide) (by rw [hc10]; rfl) (by decide) ?_
    refine lv_aload_n hx hb dd_Machine_doSimple_112 rfl (lv_at hl 0 rfl) ?_
    refine gf_h_Machine_60_values C hP dd_Machine_doSimple_113 ?_
    obtain ⟨a5, u6, hq, h⟩ := xp_seq h
    refine xk_goesL (xr_V (As := []) (rest := []) C hP hS (ct_Values_pop__h61 htr hok hq) kq_Machine_245 61 10 rfl rfl ⟨rfl, rfl, Nat.le_of_ble_eq_true rfl, Nat.le_of_ble_eq_true rfl⟩ ⟨Nat.le_of_ble_eq_true rfl, Nat.le_of_ble_eq_true rfl⟩ hl.1 rfl rfl (Nat.le_of_ble_eq_true rfl) dd_Machine_doSimple_116) hS (fun H locs hP hS => ?_)
    clear hq
    refine lv_pop2_2 hx hb dd_Machine_doSimple_119 rfl ?_
    refine lv_goto (tgt := 301) hx hb dd_Machine_doSimple_120 (by decide) ?_
    obtain ⟨rfl, rfl⟩ := xp_r h
    exact xr_vret C hP hS dd_Machine_doSimple_301
  have h := xp_f hc10 h
  by_cases hc11 : x0 = (27 : Int32)
  · have h := xp_t hc11 h
    refine lv_tableIn (off := 122) (tgt := 123) hx hb dd_Machine_doSimple_1 (by rw [hc11]; decide) (by rw [hc11]; decide) (by rw [hc11]; rfl) (by decide) ?_
    refine lv_aload_n hx hb dd_Machine_doSimple_123 rfl (lv_at hl 0 rfl) ?_
    refine gf_h_Machine_60_values C hP dd_Machine_doSimple_124 ?_
    obtain ⟨a7, u8, hq, h⟩ := xp_seq h
    refine xk_goesL (xr_V (As := []) (rest := []) C hP hS (ct_Values_pop__h61 htr hok hq) kq_Machine_245 61 10 rfl rfl ⟨rfl, rfl, Nat.le_of_ble_eq_true rfl, Nat.le_of_ble_eq_true rfl⟩ ⟨Nat.le_of_ble_eq_true rfl, Nat.le_of_ble_eq_true rfl⟩ hl.1 rfl rfl (Nat.le_of_ble_eq_true rfl) dd_Machine_doSimple_127) hS (fun H locs hP hS => ?_)
    clear hq
    refine lv_lstore_n (lv' := [(3, .long a7), (0, .ref (ad 60)), (1, .int x0), (2, .int x1)]) hx hb dd_Machine_doSimple_130 rfl hl (by decide) rfl (fun ls hl => ?_)
    refine lv_aload_n hx hb dd_Machine_doSimple_131 rfl (lv_at hl 1 rfl) ?_
    refine gf_h_Machine_60_values C hP dd_Machine_doSimple_132 ?_
    obtain ⟨a9, u10, hq, h⟩ := xp_seq h
    refine xk_goesL (xr_V (As := []) (rest := []) C hP hS (ct_Values_pop__h61 htr hok hq) kq_Machine_245 61 10 rfl rfl ⟨rfl, rfl, Nat.le_of_ble_eq_true rfl, Nat.le_of_ble_eq_true rfl⟩ ⟨Nat.le_of_ble_eq_true rfl, Nat.le_of_ble_eq_true rfl⟩ hl.1 rfl rfl (Nat.le_of_ble_eq_true rfl) dd_Machine_doSimple_135) hS (fun H locs hP hS => ?_)
    clear hq
    refine lv_lstore (lv' := [(5, .long a9), (3, .long a7), (0, .ref (ad 60)), (1, .int x0), (2, .int x1)]) hx hb dd_Machine_doSimple_138 hl (by decide) rfl (fun ls hl => ?_)
    refine lv_lload_n hx hb dd_Machine_doSimple_140 rfl (lv_at hl 1 rfl) ?_
    refine lv_lconst (v := 0) hx hb dd_Machine_doSimple_141 (by decide) ?_
    refine xr_lc_ne (tgt := 163) hx hb dd_Machine_doSimple_142 dd_Machine_doSimple_143 (by decide) (fun hc => ?_) (fun hc => ?_)
    · have h := xp_f hc h
      exact wj_Machine_doSimple_163 htr C hne h hP hS (lv_sub hl [] rfl)
    · have h := xp_t hc h
      refine lv_aload_n hx hb dd_Machine_doSimple_146 rfl (lv_at hl 2 rfl) ?_
      refine gf_h_Machine_60_values C hP dd_Machine_doSimple_147 ?_
      obtain ⟨a11, u12, hq, h⟩ := xp_seq h
      refine xk_goesL (xr_V (As := []) (rest := []) C hP hS (ct_Values_pop__h61 htr hok hq) kq_Machine_245 61 10 rfl rfl ⟨rfl, rfl, Nat.le_of_ble_eq_true rfl, Nat.le_of_ble_eq_true rfl⟩ ⟨Nat.le_of_ble_eq_true rfl, Nat.le_of_ble_eq_true rfl⟩ hl.1 rfl rfl (Nat.le_of_ble_eq_true rfl) dd_Machine_doSimple_150) hS (fun H locs hP hS => ?_)
      clear hq
      refine lv_pop2_2 hx hb dd_Machine_doSimple_153 rfl ?_
      refine lv_aload_n hx hb dd_Machine_doSimple_154 rfl (lv_at hl 2 rfl) ?_
      refine gf_h_Machine_60_values C hP dd_Machine_doSimple_155 ?_
      refine lv_lload hx hb dd_Machine_doSimple_158 (lv_at hl 0 rfl) ?_
      obtain ⟨rx, u13, hq, h⟩ := xp_seq h
      refine xk_goesV (xr_V (As := [.long a9]) (rest := []) C hP hS (ct_Values_push__h61 htr hok hq) kq_Machine_99 61 10 rfl rfl ⟨rfl, rfl, Nat.le_of_ble_eq_true rfl, Nat.le_of_ble_eq_true rfl⟩ ⟨Nat.le_of_ble_eq_true rfl, Nat.le_of_ble_eq_true rfl⟩ hl.1 rfl rfl (Nat.le_of_ble_eq_true rfl) dd_Machine_doSimple_160) hS (fun H locs hP hS => ?_)
      clear hq
      exact wj_Machine_doSimple_163 htr C hne h hP hS (lv_sub hl [] rfl)
  have h := xp_f hc11 h
  by_cases hc12 : x0 = (28 : Int32)
  · have h := xp_t hc12 h
    refine lv_tableIn (off := 266) (tgt := 267) hx hb dd_Machine_doSimple_1 (by rw [hc12]; decide) (by rw [hc12]; decide) (by rw [hc12]; rfl) (by decide) ?_
    exact wj_Machine_doSimple_267 htr C hne h hP hS (lv_sub hl [0, 2] rfl)
  have h := xp_f hc12 h
  by_cases hc13 : x0 = (29 : Int32)
  · have h := xp_t hc13 h
    refine lv_tableIn (off := 266) (tgt := 267) hx hb dd_Machine_doSimple_1 (by rw [hc13]; decide) (by rw [hc13]; decide) (by rw [hc13]; rfl) (by decide) ?_
    exact wj_Machine_doSimple_267 htr C hne h hP hS (lv_sub hl [0, 2] rfl)
  have h := xp_f hc13 h
  by_cases hc14 : x0 = (30 : Int32)
  · have h := xp_t hc14 h
    refine lv_tableIn (off := 266) (tgt := 267) hx hb dd_Machine_doSimple_1 (by rw [hc14]; decide) (by rw [hc14]; decide) (by rw [hc14]; rfl) (by decide) ?_
    exact wj_Machine_doSimple_267 htr C hne h hP hS (lv_sub hl [0, 2] rfl)
  have h := xp_f hc14 h
  by_cases hc15 : x0 = (31 : Int32)
  · have h := xp_t hc15 h
    refine lv_tableIn (off := 266) (tgt := 267) hx hb dd_Machine_doSimple_1 (by rw [hc15]; decide) (by rw [hc15]; decide) (by rw [hc15]; rfl) (by decide) ?_
    exact wj_Machine_doSimple_267 htr C hne h hP hS (lv_sub hl [0, 2] rfl)
  have h := xp_f hc15 h
  by_cases hc16 : x0 = (32 : Int32)
  · have h := xp_t hc16 h
    refine lv_tableIn (off := 165) (tgt := 166) hx hb dd_Machine_doSimple_1 (by rw [hc16]; decide) (by rw [hc16]; decide) (by rw [hc16]; rfl) (by decide) ?_
    refine lv_aload_n hx hb dd_Machine_doSimple_166 rfl (lv_at hl 0 rfl) ?_
    refine gf_h_Machine_60_values C hP dd_Machine_doSimple_167 ?_
    refine lv_aload_n hx hb dd_Machine_doSimple_170 rfl (lv_at hl 0 rfl) ?_
    refine gf_h_Machine_60_values C hP dd_Machine_doSimple_171 ?_
    refine lv_aload_n hx hb dd_Machine_doSimple_174 rfl (lv_at hl 0 rfl) ?_
    refine gf_h_Machine_60_base C hP dd_Machine_doSimple_175 ?_
    refine lv_aload_n hx hb dd_Machine_doSimple_178 rfl (lv_at hl 0 rfl) ?_
    refine gf_h_Machine_60_depth C hP dd_Machine_doSimple_179 ?_
    refine lv_iconst (v := 1) hx hb dd_Machine_doSimple_182 (by decide) ?_
    refine lv_isub hx hb dd_Machine_doSimple_183 ?_
    obtain ⟨hi, h⟩ := xp_g h
    refine al_h_81 C hP hi dd_Machine_doSimple_184 ?_
    refine lv_iload_n hx hb dd_Machine_doSimple_185 rfl (lv_at hl 2 rfl) ?_
    refine lv_iadd hx hb dd_Machine_doSimple_186 ?_
    obtain ⟨rx, u14, hq, h⟩ := xp_seq h
    refine xk_goesV (xr_V (As := [.ref (ad 61), .int ((u.2.2.1 49 ((u.1 24) - (1 : Int32)).toNatClampNeg) + x1)]) (rest := []) C hP hS (ct_Values_pushFrom__h61_61 htr hok hq) kq_Machine_266 61 10 rfl rfl ⟨rfl, rfl, Nat.le_of_ble_eq_true rfl, Nat.le_of_ble_eq_true rfl⟩ ⟨Nat.le_of_ble_eq_true rfl, Nat.le_of_ble_eq_true rfl⟩ hl.1 rfl rfl (Nat.le_of_ble_eq_true rfl) dd_Machine_doSimple_187) hS (fun H locs hP hS => ?_)
    clear hq
    refine lv_goto (tgt := 301) hx hb dd_Machine_doSimple_190 (by decide) ?_
    obtain ⟨rfl, rfl⟩ := xp_r h
    exact xr_vret C hP hS dd_Machine_doSimple_301
  have h := xp_f hc16 h
  by_cases hc17 : x0 = (33 : Int32)
  · have h := xp_t hc17 h
    refine lv_tableIn (off := 192) (tgt := 193) hx hb dd_Machine_doSimple_1 (by rw [hc17]; decide) (by rw [hc17]; decide) (by rw [hc17]; rfl) (by decide) ?_
    exact wj_Machine_doSimple_193 htr C hne h hP hS (lv_sub hl [0, 1, 2] rfl)
  have h := xp_f hc17 h
  by_cases hc18 : x0 = (34 : Int32)
  · have h := xp_t hc18 h
    refine lv_tableIn (off := 192) (tgt := 193) hx hb dd_Machine_doSimple_1 (by rw [hc18]; decide) (by rw [hc18]; decide) (by rw [hc18]; rfl) (by decide) ?_
    exact wj_Machine_doSimple_193 htr C hne h hP hS (lv_sub hl [0, 1, 2] rfl)
  have h := xp_f hc18 h
  by_cases hc19 : x0 = (35 : Int32)
  · have h := xp_t hc19 h
    refine lv_tableIn (off := 251) (tgt := 252) hx hb dd_Machine_doSimple_1 (by rw [hc19]; decide) (by rw [hc19]; decide) (by rw [hc19]; rfl) (by decide) ?_
    refine lv_aload_n hx hb dd_Machine_doSimple_252 rfl (lv_at hl 0 rfl) ?_
    refine gf_h_Machine_60_values C hP dd_Machine_doSimple_253 ?_
    refine lv_aload_n hx hb dd_Machine_doSimple_256 rfl (lv_at hl 0 rfl) ?_
    refine gf_h_Machine_60_globals C hP dd_Machine_doSimple_257 ?_
    refine lv_iload_n hx hb dd_Machine_doSimple_260 rfl (lv_at hl 2 rfl) ?_
    obtain ⟨rx, u17, hq, h⟩ := xp_seq h
    refine xk_goesV (xr_V (As := [.ref (ad 64), .int x1]) (rest := []) C hP hS (ct_Values_pushFrom__h61_64 htr hok hq) kq_Machine_266 61 10 rfl rfl ⟨rfl, rfl, Nat.le_of_ble_eq_true rfl, Nat.le_of_ble_eq_true rfl⟩ ⟨Nat.le_of_ble_eq_true rfl, Nat.le_of_ble_eq_true rfl⟩ hl.1 rfl rfl (Nat.le_of_ble_eq_true rfl) dd_Machine_doSimple_261) hS (fun H locs hP hS => ?_)
    clear hq
    refine lv_goto (tgt := 301) hx hb dd_Machine_doSimple_264 (by decide) ?_
    obtain ⟨rfl, rfl⟩ := xp_r h
    exact xr_vret C hP hS dd_Machine_doSimple_301
  have h := xp_f hc19 h
  have hd0 := lv_neT hc0 (a := 16) (by decide)
  have hd1 := lv_neT hc1 (a := 17) (by decide)
  have hd2 := lv_neT hc2 (a := 18) (by decide)
  have hd3 := lv_neT hc3 (a := 19) (by decide)
  have hd4 := lv_neT hc4 (a := 20) (by decide)
  have hd5 := lv_neT hc5 (a := 21) (by decide)
  have hd6 := lv_neT hc6 (a := 22) (by decide)
  have hd7 := lv_neT hc7 (a := 23) (by decide)
  have hd8 := lv_neT hc8 (a := 24) (by decide)
  have hd9 := lv_neT hc9 (a := 25) (by decide)
  have hd10 := lv_neT hc10 (a := 26) (by decide)
  have hd11 := lv_neT hc11 (a := 27) (by decide)
  have hd12 := lv_neT hc12 (a := 28) (by decide)
  have hd13 := lv_neT hc13 (a := 29) (by decide)
  have hd14 := lv_neT hc14 (a := 30) (by decide)
  have hd15 := lv_neT hc15 (a := 31) (by decide)
  have hd16 := lv_neT hc16 (a := 32) (by decide)
  have hd17 := lv_neT hc17 (a := 33) (by decide)
  have hd18 := lv_neT hc18 (a := 34) (by decide)
  have hd19 := lv_neT hc19 (a := 35) (by decide)
  refine lv_tableOut (tgt := 267) hx hb dd_Machine_doSimple_1 (by omega) (by decide) ?_
  exact wj_Machine_doSimple_267 htr C hne h hP hS (lv_sub hl [0, 2] rfl)
abbrev rm_Arrays_fill_AJIIJ__h62 : Room := { frames := 7, cells := 1, slots := 6, locals := 122 }
noncomputable def jb_Arrays_fill_AJIIJ__h62_10 (fu : Nat) : Nat → Int32 → Int64 → Int32 → xk_St → Option (Unit × xk_St)
  | 0 => fun _ _ _ _ => none
  | n + 1 => fun b2 b3 b5 u =>
    xs_let (jb_Arrays_fill_AJIIJ__h62_10 fu  n) fun k10 =>
    if b2 ≤ b5 then (some ((()), u)) else ((if b5 < 0 ∨ 18000 ≤ b5.toNatClampNeg then none else xs_let (xs_B u 10 b5.toNatClampNeg b3) fun u2 => xs_let (b5 + (1 : Int32)) fun a3 => k10 b2 b3 a3 u2))
noncomputable def fm_Arrays_fill_AJIIJ__h62 (fu : Nat) (x1 : Int32) (x2 : Int32) (x3 : Int64) (u : xk_St) : Option (Unit × xk_St) :=
  (xs_seq (fm_Arrays_rangeCheck__h (18000 : Int32) x1 x2 u) fun _ u1 => jb_Arrays_fill_AJIIJ__h62_10 fu fu x2 x3 x1 u1)
set_option maxHeartbeats 4000000 in
set_option maxRecDepth 100000 in
theorem wj_Arrays_fill_AJIIJ__h62_10 {p : Program} {l : Launch} {e : Env} {s : State} {m : MethodId} {args : Array Value} {below : List Frame} {meth : Method} {c : Code} {D : va_G} {ad : Nat → Nat} {ca : Nat → ClassId} {ads : List Nat} {fu : Nat} (htr : l.stackTraces = false) (C : xk_C D kx_cl (kx_ty ca) (kw_h ad ca) ads "java/util/Arrays" prog_31_method_102_code 6 none p e s m args meth c) (hne : c.exceptionTable.isEmpty = true) {u' : xk_St} {r : Unit} : ∀ {n : Nat} {b2 : Int32} {b3 : Int64} {b5 : Int32} {u : xk_St} {H : Heap} {locs : List Loc} {ls : Array Slot} (h : jb_Arrays_fill_AJIIJ__h62_10 fu  n b2 b3 b5 u = some (r, u')) (hP : va_P D kx_cl (kw_h ad ca u) H) (hS : va_S (xk_A ads s.heap.size) s.heap H locs) (hl : lv_has ls 6 [(0, .ref (ad 62)), (2, .int b2), (3, .long b3), (5, .int b5)]), W p l e rm_Arrays_fill_AJIIJ__h62 s m args below meth c H locs 0 0 (xk_MQ below (xk_Qc D kx_cl (kw_h ad ca) ads (xo_v (.inl r)) u') args s (xk_A ads s.heap.size)) (F0 m 10 ls []) := by
  intro n
  have hx := C.1.1
  have hb := C.1.2.1
  have hok := C.2.2.1
  induction n with
  | zero =>
    intro _ _ _ u H locs ls h
    have h : none = some (r, u') := h
    cases h
  | succ n ih =>
    intro b2 b3 b5 u H locs ls h hP hS hl
    unfold jb_Arrays_fill_AJIIJ__h62_10 at h
    obtain ⟨k10, ek10, h⟩ := xp_let h
    have hk10 : ∀ (c0 : Int32) (c1 : Int64) (c2 : Int32) (u : xk_St) (H : Heap) (locs : List Loc) (ls : Array Slot), k10 c0 c1 c2 u = some (r, u') → va_P D kx_cl (kw_h ad ca u) H → va_S (xk_A ads s.heap.size) s.heap H locs → lv_has ls 6 [(0, .ref (ad 62)), (2, .int c0), (3, .long c1), (5, .int c2)] → W p l e rm_Arrays_fill_AJIIJ__h62 s m args below meth c H locs 0 0 (xk_MQ below (xk_Qc D kx_cl (kw_h ad ca) ads (xo_v (.inl r)) u') args s (xk_A ads s.heap.size)) (F0 m 10 ls []) := by
      intro c0 c1 c2 u H locs ls h hP hS hl
      subst ek10
      exact ih h hP hS hl
    clear ih ek10
    refine lv_iload hx hb dd_Arrays_fill_AJIIJ_10 (lv_at hl 3 rfl) ?_
    refine lv_iload_n hx hb dd_Arrays_fill_AJIIJ_12 rfl (lv_at hl 1 rfl) ?_
    refine lv_icmp_ge (tgt := 27) hx hb dd_Arrays_fill_AJIIJ_13 (by decide) (fun hc => ?_) (fun hc => ?_)
    · have h := xp_t hc h
      obtain ⟨rfl, rfl⟩ := xp_r h
      exact xr_vret C hP hS dd_Arrays_fill_AJIIJ_27
    · have h := xp_f hc h
      refine lv_aload_n hx hb dd_Arrays_fill_AJIIJ_16 rfl (lv_at hl 0 rfl) ?_
      refine lv_iload hx hb dd_Arrays_fill_AJIIJ_17 (lv_at hl 3 rfl) ?_
      refine lv_lload_n hx hb dd_Arrays_fill_AJIIJ_19 rfl (lv_at hl 2 rfl) ?_
      obtain ⟨hi, h⟩ := xp_g h
      refine as_h_62 C hP hS hi dd_Arrays_fill_AJIIJ_20 (fun H locs hP hS => ?_)
      obtain ⟨u2, eu2, h⟩ := xp_let h
      rw [← eu2] at hP
      obtain ⟨a3, ea3, h⟩ := xp_let h
      refine lv_iinc (v := a3) (lv' := [(5, .int a3), (0, .ref (ad 62)), (2, .int b2), (3, .long b3)]) hx hb dd_Arrays_fill_AJIIJ_21 hl (k := 3) rfl (by rw [ea3]; first | rfl | decide) (by decide) rfl (fun ls hl => ?_)
      refine lv_goto (tgt := 10) hx hb dd_Arrays_fill_AJIIJ_24 (by decide) ?_
      exact hk10 b2 b3 a3 u2 _ _ _ h hP hS (lv_sub hl [1, 2, 3, 0] rfl)
set_option maxHeartbeats 4000000 in
set_option maxRecDepth 100000 in
theorem ct_Arrays_fill_AJIIJ__h62 {l : Launch} {D : va_G} {ad : Nat → Nat} {ca : Nat → ClassId} {ads : List Nat} (htr : l.stackTraces = false) (hok : xk_ok (kw_h ad ca) ads) {fu : Nat} {x1 : Int32} {x2 : Int32} {x3 : Int64} {u u' : xk_St} {r : Unit} (h : fm_Arrays_fill_AJIIJ__h62 fu x1 x2 x3 u = some (r, u')) :
    ∀ sz, xk_Met l ⟨"java/util/Arrays", "fill", "([JIIJ)V"⟩ (Cond.code ⟨"java/util/Arrays", "fill", "([JIIJ)V"⟩ prog_31_method_102_code 6 none :: xk_gd) rm_Arrays_fill_AJIIJ__h62 (xk_Pc D kx_cl (kx_ty ca) (kw_h ad ca) ads xk_F sz [.ref (ad 62), .int x1, .int x2, .long x3] u) (xk_Qc D kx_cl (kw_h ad ca) ads (xo_v (.inl r)) u') (xk_A ads sz) := by
  unfold fm_Arrays_fill_AJIIJ__h62 at h
  refine xk_con (by decide) htr hok (Nat.le_of_ble_eq_true rfl) (fun p e s m below meth c ls C hne hl hP => ?_)
  have hx := C.1.1
  have hb := C.1.2.1
  have hS : va_S (xk_A ads s.heap.size) s.heap s.heap [] := va_S.rf
  have hl : lv_has ls 6 [(0, .ref (ad 62)), (1, .int x1), (2, .int x2), (3, .long x3)] := hl
  refine lv_aload_n hx hb dd_Arrays_fill_AJIIJ_0 rfl (lv_at hl 0 rfl) ?_
  refine va_alen (v := 18000) hx hb C.2.1 hP 62 2 rfl rfl rfl dd_Arrays_fill_AJIIJ_1 ?_
  refine lv_iload_n hx hb dd_Arrays_fill_AJIIJ_2 rfl (lv_at hl 1 rfl) ?_
  refine lv_iload_n hx hb dd_Arrays_fill_AJIIJ_3 rfl (lv_at hl 2 rfl) ?_
  obtain ⟨rx, u1, hq, h⟩ := xp_seq h
  refine xk_goesV (xr_S (As := [.int (18000 : Int32), .int x1, .int x2]) (rest := []) C hP hS (ct_Arrays_rangeCheck__h htr hok hq) kq_Arrays_13 ⟨rfl, rfl, Nat.le_of_ble_eq_true rfl, Nat.le_of_ble_eq_true rfl⟩ ⟨Nat.le_of_ble_eq_true rfl, Nat.le_of_ble_eq_true rfl⟩ hl.1 rfl rfl (Nat.le_of_ble_eq_true rfl) dd_Arrays_fill_AJIIJ_4) hS (fun H locs hP hS => ?_)
  clear hq
  refine lv_iload_n hx hb dd_Arrays_fill_AJIIJ_7 rfl (lv_at hl 1 rfl) ?_
  refine lv_istore (lv' := [(5, .int x1), (0, .ref (ad 62)), (1, .int x1), (2, .int x2), (3, .long x3)]) hx hb dd_Arrays_fill_AJIIJ_8 hl (by decide) rfl (fun ls hl => ?_)
  exact wj_Arrays_fill_AJIIJ__h62_10 htr C hne h hP hS (lv_sub hl [1, 3, 4, 0] rfl)
abbrev rm_Values_pushZeros__h61 : Room := { frames := 8, cells := 1, slots := 6, locals := 147 }
noncomputable def jb_Values_pushZeros__h61_20 (fu : Nat) : Nat → Int32 → Int32 → xk_St → Option (Unit × xk_St)
  | 0 => fun _ _ _ => none
  | n + 1 => fun b1 b2 u =>
    xs_let (jb_Values_pushZeros__h61_20 fu  n) fun k20 =>
    if b1 ≤ b2 then ((xs_let (xs_I u 28 ((u.1 28) + b1)) fun u2 => some ((()), u2))) else ((if ((u.1 28) + b2) < 0 ∨ 18000 ≤ ((u.1 28) + b2).toNatClampNeg then none else xs_let (xs_A u 37 ((u.1 28) + b2).toNatClampNeg (vp_nar .boolean (0 : Int32))) fun u3 => xs_let (b2 + (1 : Int32)) fun a4 => k20 b1 a4 u3))
noncomputable def fm_Values_pushZeros__h61 (fu : Nat) (x0 : Int32) (u : xk_St) : Option (Unit × xk_St) :=
  (xs_seq (fm_Arrays_fill_AJIIJ__h62 fu (u.1 28) ((u.1 28) + x0) (0 : Int64) u) fun _ u1 => jb_Values_pushZeros__h61_20 fu fu x0 (0 : Int32) u1)
set_option maxHeartbeats 4000000 in
set_option maxRecDepth 100000 in
theorem wj_Values_pushZeros__h61_20 {p : Program} {l : Launch} {e : Env} {s : State} {m : MethodId} {args : Array Value} {below : List Frame} {meth : Method} {c : Code} {D : va_G} {ad : Nat → Nat} {ca : Nat → ClassId} {ads : List Nat} {fu : Nat} (htr : l.stackTraces = false) (C : xk_C D kx_cl (kx_ty ca) (kw_h ad ca) ads "ModuleHouse$Values" prog_12_method_8_code 3 none p e s m args meth c) (hne : c.exceptionTable.isEmpty = true) {u' : xk_St} {r : Unit} : ∀ {n : Nat} {b1 : Int32} {b2 : Int32} {u : xk_St} {H : Heap} {locs : List Loc} {ls : Array Slot} (h : jb_Values_pushZeros__h61_20 fu  n b1 b2 u = some (r, u')) (hP : va_P D kx_cl (kw_h ad ca u) H) (hS : va_S (xk_A ads s.heap.size) s.heap H locs) (hl : lv_has ls 3 [(0, .ref (ad 61)), (1, .int b1), (2, .int b2)]), W p l e rm_Values_pushZeros__h61 s m args below meth c H locs 0 0 (xk_MQ below (xk_Qc D kx_cl (kw_h ad ca) ads (xo_v (.inl r)) u') args s (xk_A ads s.heap.size)) (F0 m 20 ls []) := by
  intro n
  have hx := C.1.1
  have hb := C.1.2.1
  have hok := C.2.2.1
  induction n with
  | zero =>
    intro _ _ u H locs ls h
    have h : none = some (r, u') := h
    cases h
  | succ n ih =>
    intro b1 b2 u H locs ls h hP hS hl
    unfold jb_Values_pushZeros__h61_20 at h
    obtain ⟨k20, ek20, h⟩ := xp_let h
    have hk20 : ∀ (c0 : Int32) (c1 : Int32) (u : xk_St) (H : Heap) (locs : List Loc) (ls : Array Slot), k20 c0 c1 u = some (r, u') → va_P D kx_cl (kw_h ad ca u) H → va_S (xk_A ads s.heap.size) s.heap H locs → lv_has ls 3 [(0, .ref (ad 61)), (1, .int c0), (2, .int c1)] → W p l e rm_Values_pushZeros__h61 s m args below meth c H locs 0 0 (xk_MQ below (xk_Qc D kx_cl (kw_h ad ca) ads (xo_v (.inl r)) u') args s (xk_A ads s.heap.size)) (F0 m 20 ls []) := by
      intro c0 c1 u H locs ls h hP hS hl
      subst ek20
      exact ih h hP hS hl
    clear ih ek20
    refine lv_iload_n hx hb dd_Values_pushZeros_20 rfl (lv_at hl 2 rfl) ?_
    refine lv_iload_n hx hb dd_Values_pushZeros_21 rfl (lv_at hl 1 rfl) ?_
    refine lv_icmp_ge (tgt := 43) hx hb dd_Values_pushZeros_22 (by decide) (fun hc => ?_) (fun hc => ?_)
    · have h := xp_t hc h
      refine lv_aload_n hx hb dd_Values_pushZeros_43 rfl (lv_at hl 0 rfl) ?_
      refine lv_dup hx hb dd_Values_pushZeros_44 rfl ?_
      refine gf_h_Values_61_top C hP dd_Values_pushZeros_45 ?_
      refine lv_iload_n hx hb dd_Values_pushZeros_48 rfl (lv_at hl 1 rfl) ?_
      refine lv_iadd hx hb dd_Values_pushZeros_49 ?_
      refine pf_h_Values_61_top C hP hS dd_Values_pushZeros_50 (fun H locs hP hS => ?_)
      obtain ⟨u2, eu2, h⟩ := xp_let h
      rw [← eu2] at hP
      obtain ⟨rfl, rfl⟩ := xp_r h
      exact xr_vret C hP hS dd_Values_pushZeros_53
    · have h := xp_f hc h
      refine lv_aload_n hx hb dd_Values_pushZeros_25 rfl (lv_at hl 0 rfl) ?_
      refine gf_h_Values_61_refers C hP dd_Values_pushZeros_26 ?_
      refine lv_aload_n hx hb dd_Values_pushZeros_29 rfl (lv_at hl 0 rfl) ?_
      refine gf_h_Values_61_top C hP dd_Values_pushZeros_30 ?_
      refine lv_iload_n hx hb dd_Values_pushZeros_33 rfl (lv_at hl 2 rfl) ?_
      refine lv_iadd hx hb dd_Values_pushZeros_34 ?_
      refine lv_iconst (v := 0) hx hb dd_Values_pushZeros_35 (by decide) ?_
      obtain ⟨hi, h⟩ := xp_g h
      refine as_h_63 C hP hS hi dd_Values_pushZeros_36 (fun H locs hP hS => ?_)
      obtain ⟨u3, eu3, h⟩ := xp_let h
      rw [← eu3] at hP
      obtain ⟨a4, ea4, h⟩ := xp_let h
      refine lv_iinc (v := a4) (lv' := [(2, .int a4), (0, .ref (ad 61)), (1, .int b1)]) hx hb dd_Values_pushZeros_37 hl (k := 2) rfl (by rw [ea4]; first | rfl | decide) (by decide) rfl (fun ls hl => ?_)
      refine lv_goto (tgt := 20) hx hb dd_Values_pushZeros_40 (by decide) ?_
      exact hk20 b1 a4 u3 _ _ _ h hP hS (lv_sub hl [1, 2, 0] rfl)
set_option maxHeartbeats 4000000 in
set_option maxRecDepth 100000 in
theorem ct_Values_pushZeros__h61 {l : Launch} {D : va_G} {ad : Nat → Nat} {ca : Nat → ClassId} {ads : List Nat} (htr : l.stackTraces = false) (hok : xk_ok (kw_h ad ca) ads) {fu : Nat} {x0 : Int32} {u u' : xk_St} {r : Unit} (h : fm_Values_pushZeros__h61 fu x0 u = some (r, u')) :
    ∀ sz, xk_Met l ⟨"ModuleHouse$Values", "pushZeros", "(I)V"⟩ (Cond.code ⟨"ModuleHouse$Values", "pushZeros", "(I)V"⟩ prog_12_method_8_code 3 none :: xk_gd) rm_Values_pushZeros__h61 (xk_Pc D kx_cl (kx_ty ca) (kw_h ad ca) ads xk_F sz [.ref (ad 61), .int x0] u) (xk_Qc D kx_cl (kw_h ad ca) ads (xo_v (.inl r)) u') (xk_A ads sz) := by
  unfold fm_Values_pushZeros__h61 at h
  refine xk_con (by decide) htr hok (Nat.le_of_ble_eq_true rfl) (fun p e s m below meth c ls C hne hl hP => ?_)
  have hx := C.1.1
  have hb := C.1.2.1
  have hS : va_S (xk_A ads s.heap.size) s.heap s.heap [] := va_S.rf
  have hl : lv_has ls 3 [(0, .ref (ad 61)), (1, .int x0)] := hl
  refine lv_aload_n hx hb dd_Values_pushZeros_0 rfl (lv_at hl 0 rfl) ?_
  refine gf_h_Values_61_value C hP dd_Values_pushZeros_1 ?_
  refine lv_aload_n hx hb dd_Values_pushZeros_4 rfl (lv_at hl 0 rfl) ?_
  refine gf_h_Values_61_top C hP dd_Values_pushZeros_5 ?_
  refine lv_aload_n hx hb dd_Values_pushZeros_8 rfl (lv_at hl 0 rfl) ?_
  refine gf_h_Values_61_top C hP dd_Values_pushZeros_9 ?_
  refine lv_iload_n hx hb dd_Values_pushZeros_12 rfl (lv_at hl 1 rfl) ?_
  refine lv_iadd hx hb dd_Values_pushZeros_13 ?_
  refine lv_lconst (v := 0) hx hb dd_Values_pushZeros_14 (by decide) ?_
  obtain ⟨rx, u1, hq, h⟩ := xp_seq h
  refine xk_goesV (xr_S (As := [.ref (ad 62), .int (u.1 28), .int ((u.1 28) + x0), .long (0 : Int64)]) (rest := []) C hP hS (ct_Arrays_fill_AJIIJ__h62 htr hok hq) kq_Values_29 ⟨rfl, rfl, Nat.le_of_ble_eq_true rfl, Nat.le_of_ble_eq_true rfl⟩ ⟨Nat.le_of_ble_eq_true rfl, Nat.le_of_ble_eq_true rfl⟩ hl.1 rfl rfl (Nat.le_of_ble_eq_true rfl) dd_Values_pushZeros_15) hS (fun H locs hP hS => ?_)
  clear hq
  refine lv_iconst (v := 0) hx hb dd_Values_pushZeros_18 (by decide) ?_
  refine lv_istore_n (lv' := [(2, .int (0 : Int32)), (0, .ref (ad 61)), (1, .int x0)]) hx hb dd_Values_pushZeros_19 rfl hl (by decide) rfl (fun ls hl => ?_)
  exact wj_Values_pushZeros__h61_20 htr C hne h hP hS (lv_sub hl [1, 2, 0] rfl)
abbrev rm_Machine_doControl : Room := { frames := 9, cells := 1, slots := 6, locals := 169 }
noncomputable def jb_Machine_doControl_155 (fu : Nat) (u : xk_St) : Option (Unit × xk_St) :=
  (xs_seq (fm_Machine_leave fu u) fun _ u6 => some ((()), u6))
noncomputable def fm_Machine_doControl (fu : Nat) (x0 : Int32) (x1 : Int32) (u : xk_St) : Option (Unit × xk_St) :=
  if x0 = (0 : Int32) then ((xs_let (xs_I u 27 (1 : Int32)) fun u1 => some ((()), u1))) else if x0 = (1 : Int32) then (some ((()), u)) else if x0 = (2 : Int32) then (some ((()), u)) else if x0 = (3 : Int32) then (some ((()), u)) else if x0 = (4 : Int32) then ((xs_seq (fm_Values_pop__h61 u) fun a2 u3 => if a2 = (0 : Int64) then ((if x1 < 0 ∨ 8192 ≤ x1.toNatClampNeg then none else xs_let (xs_I u3 26 ((u3.2.2.1 9 x1.toNatClampNeg) + (1 : Int32))) fun u4 => some ((()), u4))) else (some ((()), u3)))) else if x0 = (5 : Int32) then ((if x1 < 0 ∨ 8192 ≤ x1.toNatClampNeg then none else xs_let (xs_I u 26 ((u.2.2.1 9 x1.toNatClampNeg) + (1 : Int32))) fun u5 => some ((()), u5))) else if x0 = (6 : Int32) then (some ((()), u)) else if x0 = (7 : Int32) then (jb_Machine_doControl_155 fu u) else if x0 = (8 : Int32) then ((if x1 < 0 ∨ 8192 ≤ x1.toNatClampNeg then none else xs_seq (fm_Values_pushZeros__h61 fu (u.2.2.1 8 x1.toNatClampNeg) u) fun _ u7 => some ((()), u7))) else if x0 = (9 : Int32) then (some ((()), u)) else if x0 = (10 : Int32) then (some ((()), u)) else if x0 = (11 : Int32) then (some ((()), u)) else if x0 = (12 : Int32) then ((if x1 < 0 ∨ 8192 ≤ x1.toNatClampNeg then none else xs_seq (fm_Machine_branch fu (u.2.2.1 9 x1.toNatClampNeg) u) fun _ u8 => some ((()), u8))) else if x0 = (13 : Int32) then ((xs_seq (fm_Values_pop__h61 u) fun a9 u10 => if a9 = (0 : Int64) then (some ((()), u10)) else ((if x1 < 0 ∨ 8192 ≤ x1.toNatClampNeg then none else xs_seq (fm_Machine_branch fu (u10.2.2.1 9 x1.toNatClampNeg) u10) fun _ u11 => some ((()), u11))))) else if x0 = (14 : Int32) then ((xs_seq (fm_Values_pop__h61 u) fun a12 u13 => if x1 < 0 ∨ 8192 ≤ x1.toNatClampNeg then none else xs_let (if u13.2.2.2 2 x1.toNatClampNeg < a12 &&& (4294967295 : Int64) then u13.2.2.2 2 x1.toNatClampNeg else a12 &&& (4294967295 : Int64)) fun a14 => if x1 < 0 ∨ 8192 ≤ x1.toNatClampNeg then none else if ((u13.2.2.1 8 x1.toNatClampNeg) + (a14.toInt32)) < 0 ∨ 8192 ≤ ((u13.2.2.1 8 x1.toNatClampNeg) + (a14.toInt32)).toNatClampNeg then none else xs_seq (fm_Machine_branch fu (u13.2.2.1 11 ((u13.2.2.1 8 x1.toNatClampNeg) + (a14.toInt32)).toNatClampNeg) u13) fun _ u15 => some ((()), u15))) else if x0 = (15 : Int32) then (jb_Machine_doControl_155 fu u) else (some ((()), u))
set_option maxHeartbeats 4000000 in
set_option maxRecDepth 100000 in
theorem wj_Machine_doControl_155 {p : Program} {l : Launch} {e : Env} {s : State} {m : MethodId} {args : Array Value} {below : List Frame} {meth : Method} {c : Code} {D : va_G} {ad : Nat → Nat} {ca : Nat → ClassId} {ads : List Nat} {fu : Nat} (htr : l.stackTraces = false) (C : xk_C D kx_cl (kx_ty ca) (kw_h ad ca) ads "ModuleHouse$Machine" prog_5_method_12_code 5 none p e s m args meth c) (hne : c.exceptionTable.isEmpty = true) {u' : xk_St} {r : Unit} {u : xk_St} {H : Heap} {locs : List Loc} {ls : Array Slot} (h : jb_Machine_doControl_155 fu   u = some (r, u')) (hP : va_P D kx_cl (kw_h ad ca u) H) (hS : va_S (xk_A ads s.heap.size) s.heap H locs) (hl : lv_has ls 5 [(0, .ref (ad 60))]) : W p l e rm_Machine_doControl s m args below meth c H locs 0 0 (xk_MQ below (xk_Qc D kx_cl (kw_h ad ca) ads (xo_v (.inl r)) u') args s (xk_A ads s.heap.size)) (F0 m 155 ls []) := by
  have hx := C.1.1
  have hb := C.1.2.1
  have hok := C.2.2.1
  unfold jb_Machine_doControl_155 at h
  refine lv_aload_n hx hb dd_Machine_doControl_155 rfl (lv_at hl 0 rfl) ?_
  obtain ⟨rx, u6, hq, h⟩ := xp_seq h
  refine xk_goesV (xr_V (As := []) (rest := []) C hP hS (ct_Machine_leave htr hok hq) kq_Machine_232 60 4 rfl rfl ⟨rfl, rfl, Nat.le_of_ble_eq_true rfl, Nat.le_of_ble_eq_true rfl⟩ ⟨Nat.le_of_ble_eq_true rfl, Nat.le_of_ble_eq_true rfl⟩ hl.1 rfl rfl (Nat.le_of_ble_eq_true rfl) dd_Machine_doControl_156) hS (fun H locs hP hS => ?_)
  clear hq
  refine lv_goto (tgt := 257) hx hb dd_Machine_doControl_159 (by decide) ?_
  obtain ⟨rfl, rfl⟩ := xp_r h
  exact xr_vret C hP hS dd_Machine_doControl_257
set_option maxHeartbeats 4000000 in
set_option maxRecDepth 100000 in
theorem ct_Machine_doControl {l : Launch} {D : va_G} {ad : Nat → Nat} {ca : Nat → ClassId} {ads : List Nat} (htr : l.stackTraces = false) (hok : xk_ok (kw_h ad ca) ads) {fu : Nat} {x0 : Int32} {x1 : Int32} {u u' : xk_St} {r : Unit} (h : fm_Machine_doControl fu x0 x1 u = some (r, u')) :
    ∀ sz, xk_Met l ⟨"ModuleHouse$Machine", "doControl", "(II)V"⟩ (Cond.code ⟨"ModuleHouse$Machine", "doControl", "(II)V"⟩ prog_5_method_12_code 5 none :: xk_gd) rm_Machine_doControl (xk_Pc D kx_cl (kx_ty ca) (kw_h ad ca) ads xk_F sz [.ref (ad 60), .int x0, .int x1] u) (xk_Qc D kx_cl (kw_h ad ca) ads (xo_v (.inl r)) u') (xk_A ads sz) := by
  unfold fm_Machine_doControl at h
  refine xk_con (by decide) htr hok (Nat.le_of_ble_eq_true rfl) (fun p e s m below meth c ls C hne hl hP => ?_)
  have hx := C.1.1
  have hb := C.1.2.1
  have hS : va_S (xk_A ads s.heap.size) s.heap s.heap [] := va_S.rf
  have hl : lv_has ls 5 [(0, .ref (ad 60)), (1, .int x0), (2, .int x1)] := hl
  refine lv_iload_n hx hb dd_Machine_doControl_0 rfl (lv_at hl 1 rfl) ?_
  by_cases hc0 : x0 = (0 : Int32)
  · have h := xp_t hc0 h
    refine lv_tableIn (off := 79) (tgt := 80) hx hb dd_Machine_doControl_1 (by rw [hc0]; decide) (by rw [hc0]; decide) (by rw [hc0]; rfl) (by decide) ?_
    refine lv_aload_n hx hb dd_Machine_doControl_80 rfl (lv_at hl 0 rfl) ?_
    refine lv_iconst (v := 1) hx hb dd_Machine_doControl_81 (by decide) ?_
    refine pf_h_Machine_60_trap C hP hS dd_Machine_doControl_82 (fun H locs hP hS => ?_)
    obtain ⟨u1, eu1, h⟩ := xp_let h
    rw [← eu1] at hP
    refine lv_goto (tgt := 257) hx hb dd_Machine_doControl_85 (by decide) ?_
    obtain ⟨rfl, rfl⟩ := xp_r h
    exact xr_vret C hP hS dd_Machine_doControl_257
  have h := xp_f hc0 h
  by_cases hc1 : x0 = (1 : Int32)
  · have h := xp_t hc1 h
    refine lv_tableIn (off := 256) (tgt := 257) hx hb dd_Machine_doControl_1 (by rw [hc1]; decide) (by rw [hc1]; decide) (by rw [hc1]; rfl) (by decide) ?_
    obtain ⟨rfl, rfl⟩ := xp_r h
    exact xr_vret C hP hS dd_Machine_doControl_257
  have h := xp_f hc1 h
  by_cases hc2 : x0 = (2 : Int32)
  · have h := xp_t hc2 h
    refine lv_tableIn (off := 256) (tgt := 257) hx hb dd_Machine_doControl_1 (by rw [hc2]; decide) (by rw [hc2]; decide) (by rw [hc2]; rfl) (by decide) ?_
    obtain ⟨rfl, rfl⟩ := xp_r h
    exact xr_vret C hP hS dd_Machine_doControl_257
  have h := xp_f hc2 h
  by_cases hc3 : x0 = (3 : Int32)
  · have h := xp_t hc3 h
    refine lv_tableIn (off := 256) (tgt := 257) hx hb dd_Machine_doControl_1 (by rw [hc3]; decide) (by rw [hc3]; decide) (by rw [hc3]; rfl) (by decide) ?_
    obtain ⟨rfl, rfl⟩ := xp_r h
    exact xr_vret C hP hS dd_Machine_doControl_257
  have h := xp_f hc3 h
  by_cases hc4 : x0 = (4 : Int32)
  · have h := xp_t hc4 h
    refine lv_tableIn (off := 106) (tgt := 107) hx hb dd_Machine_doControl_1 (by rw [hc4]; decide) (by rw [hc4]; decide) (by rw [hc4]; rfl) (by decide) ?_
    refine lv_aload_n hx hb dd_Machine_doControl_107 rfl (lv_at hl 0 rfl) ?_
    refine gf_h_Machine_60_values C hP dd_Machine_doControl_108 ?_
    obtain ⟨a2, u3, hq, h⟩ := xp_seq h
    refine xk_goesL (xr_V (As := []) (rest := []) C hP hS (ct_Values_pop__h61 htr hok hq) kq_Machine_245 61 10 rfl rfl ⟨rfl, rfl, Nat.le_of_ble_eq_true rfl, Nat.le_of_ble_eq_true rfl⟩ ⟨Nat.le_of_ble_eq_true rfl, Nat.le_of_ble_eq_true rfl⟩ hl.1 rfl rfl (Nat.le_of_ble_eq_true rfl) dd_Machine_doControl_111) hS (fun H locs hP hS => ?_)
    clear hq
    refine lv_lconst (v := 0) hx hb dd_Machine_doControl_114 (by decide) ?_
    refine xr_lc_ne (tgt := 257) hx hb dd_Machine_doControl_115 dd_Machine_doControl_116 (by decide) (fun hc => ?_) (fun hc => ?_)
    · have h := xp_f hc h
      obtain ⟨rfl, rfl⟩ := xp_r h
      exact xr_vret C hP hS dd_Machine_doControl_257
    · have h := xp_t hc h
      refine lv_aload_n hx hb dd_Machine_doControl_119 rfl (lv_at hl 0 rfl) ?_
      refine lv_aload_n hx hb dd_Machine_doControl_120 rfl (lv_at hl 0 rfl) ?_
      refine gf_h_Machine_60_code C hP dd_Machine_doControl_121 ?_
      refine gf_h_Machine_12_mate C hP dd_Machine_doControl_124 ?_
      refine lv_iload_n hx hb dd_Machine_doControl_127 rfl (lv_at hl 2 rfl) ?_
      obtain ⟨hi, h⟩ := xp_g h
      refine al_h_16 C hP hi dd_Machine_doControl_128 ?_
      refine lv_iconst (v := 1) hx hb dd_Machine_doControl_129 (by decide) ?_
      refine lv_iadd hx hb dd_Machine_doControl_130 ?_
      refine pf_h_Machine_60_next C hP hS dd_Machine_doControl_131 (fun H locs hP hS => ?_)
      obtain ⟨u4, eu4, h⟩ := xp_let h
      rw [← eu4] at hP
      refine lv_goto (tgt := 257) hx hb dd_Machine_doControl_134 (by decide) ?_
      obtain ⟨rfl, rfl⟩ := xp_r h
      exact xr_vret C hP hS dd_Machine_doControl_257
  have h := xp_f hc4 h
  by_cases hc5 : x0 = (5 : Int32)
  · have h := xp_t hc5 h
    refine lv_tableIn (off := 136) (tgt := 137) hx hb dd_Machine_doControl_1 (by rw [hc5]; decide) (by rw [hc5]; decide) (by rw [hc5]; rfl) (by decide) ?_
    refine lv_aload_n hx hb dd_Machine_doControl_137 rfl (lv_at hl 0 rfl) ?_
    refine lv_aload_n hx hb dd_Machine_doControl_138 rfl (lv_at hl 0 rfl) ?_
    refine gf_h_Machine_60_code C hP dd_Machine_doControl_139 ?_
    refine gf_h_Machine_12_mate C hP dd_Machine_doControl_142 ?_
    refine lv_iload_n hx hb dd_Machine_doControl_145 rfl (lv_at hl 2 rfl) ?_
    obtain ⟨hi, h⟩ := xp_g h
    refine al_h_16 C hP hi dd_Machine_doControl_146 ?_
    refine lv_iconst (v := 1) hx hb dd_Machine_doControl_147 (by decide) ?_
    refine lv_iadd hx hb dd_Machine_doControl_148 ?_
    refine pf_h_Machine_60_next C hP hS dd_Machine_doControl_149 (fun H locs hP hS => ?_)
    obtain ⟨u5, eu5, h⟩ := xp_let h
    rw [← eu5] at hP
    refine lv_goto (tgt := 257) hx hb dd_Machine_doControl_152 (by decide) ?_
    obtain ⟨rfl, rfl⟩ := xp_r h
    exact xr_vret C hP hS dd_Machine_doControl_257
  have h := xp_f hc5 h
  by_cases hc6 : x0 = (6 : Int32)
  · have h := xp_t hc6 h
    refine lv_tableIn (off := 256) (tgt := 257) hx hb dd_Machine_doControl_1 (by rw [hc6]; decide) (by rw [hc6]; decide) (by rw [hc6]; rfl) (by decide) ?_
    obtain ⟨rfl, rfl⟩ := xp_r h
    exact xr_vret C hP hS dd_Machine_doControl_257
  have h := xp_f hc6 h
  by_cases hc7 : x0 = (7 : Int32)
  · have h := xp_t hc7 h
    refine lv_tableIn (off := 154) (tgt := 155) hx hb dd_Machine_doControl_1 (by rw [hc7]; decide) (by rw [hc7]; decide) (by rw [hc7]; rfl) (by decide) ?_
    exact wj_Machine_doControl_155 htr C hne h hP hS (lv_sub hl [0] rfl)
  have h := xp_f hc7 h
  by_cases hc8 : x0 = (8 : Int32)
  · have h := xp_t hc8 h
    refine lv_tableIn (off := 87) (tgt := 88) hx hb dd_Machine_doControl_1 (by rw [hc8]; decide) (by rw [hc8]; decide) (by rw [hc8]; rfl) (by decide) ?_
    refine lv_aload_n hx hb dd_Machine_doControl_88 rfl (lv_at hl 0 rfl) ?_
    refine gf_h_Machine_60_values C hP dd_Machine_doControl_89 ?_
    refine lv_aload_n hx hb dd_Machine_doControl_92 rfl (lv_at hl 0 rfl) ?_
    refine gf_h_Machine_60_code C hP dd_Machine_doControl_93 ?_
    refine gf_h_Machine_12_first C hP dd_Machine_doControl_96 ?_
    refine lv_iload_n hx hb dd_Machine_doControl_99 rfl (lv_at hl 2 rfl) ?_
    obtain ⟨hi, h⟩ := xp_g h
    refine al_h_14 C hP hi dd_Machine_doControl_100 ?_
    obtain ⟨rx, u7, hq, h⟩ := xp_seq h
    refine xk_goesV (xr_V (As := [.int (u.2.2.1 8 x1.toNatClampNeg)]) (rest := []) C hP hS (ct_Values_pushZeros__h61 htr hok hq) kq_Machine_242 61 10 rfl rfl ⟨rfl, rfl, Nat.le_of_ble_eq_true rfl, Nat.le_of_ble_eq_true rfl⟩ ⟨Nat.le_of_ble_eq_true rfl, Nat.le_of_ble_eq_true rfl⟩ hl.1 rfl rfl (Nat.le_of_ble_eq_true rfl) dd_Machine_doControl_101) hS (fun H locs hP hS => ?_)
    clear hq
    refine lv_goto (tgt := 257) hx hb dd_Machine_doControl_104 (by decide) ?_
    obtain ⟨rfl, rfl⟩ := xp_r h
    exact xr_vret C hP hS dd_Machine_doControl_257
  have h := xp_f hc8 h
  by_cases hc9 : x0 = (9 : Int32)
  · have h := xp_t hc9 h
    refine lv_tableIn (off := 256) (tgt := 257) hx hb dd_Machine_doControl_1 (by rw [hc9]; decide) (by rw [hc9]; decide) (by rw [hc9]; rfl) (by decide) ?_
    obtain ⟨rfl, rfl⟩ := xp_r h
    exact xr_vret C hP hS dd_Machine_doControl_257
  have h := xp_f hc9 h
  by_cases hc10 : x0 = (10 : Int32)
  · have h := xp_t hc10 h
    refine lv_tableIn (off := 256) (tgt := 257) hx hb dd_Machine_doControl_1 (by rw [hc10]; decide) (by rw [hc10]; decide) (by rw [hc10]; rfl) (by decide) ?_
    obtain ⟨rfl, rfl⟩ := xp_r h
    exact xr_vret C hP hS dd_Machine_doControl_257
  have h := xp_f hc10 h
  by_cases hc11 : x0 = (11 : Int32)
  · have h := xp_t hc11 h
    refine lv_tableIn (off := 256) (tgt := 257) hx hb dd_Machine_doControl_1 (by rw [hc11]; decide) (by rw [hc11]; decide) (by rw [hc11]; rfl) (by decide) ?_
    obtain ⟨rfl, rfl⟩ := xp_r h
    exact xr_vret C hP hS dd_Machine_doControl_257
  have h := xp_f hc11 h
  by_cases hc12 : x0 = (12 : Int32)
  · have h := xp_t hc12 h
    refine lv_tableIn (off := 161) (tgt := 162) hx hb dd_Machine_doControl_1 (by rw [hc12]; decide) (by rw [hc12]; decide) (by rw [hc12]; rfl) (by decide) ?_
    refine lv_aload_n hx hb dd_Machine_doControl_162 rfl (lv_at hl 0 rfl) ?_
    refine lv_aload_n hx hb dd_Machine_doControl_163 rfl (lv_at hl 0 rfl) ?_
    refine gf_h_Machine_60_code C hP dd_Machine_doControl_164 ?_
    refine gf_h_Machine_12_mate C hP dd_Machine_doControl_167 ?_
    refine lv_iload_n hx hb dd_Machine_doControl_170 rfl (lv_at hl 2 rfl) ?_
    obtain ⟨hi, h⟩ := xp_g h
    refine al_h_16 C hP hi dd_Machine_doControl_171 ?_
    obtain ⟨rx, u8, hq, h⟩ := xp_seq h
    refine xk_goesV (xr_V (As := [.int (u.2.2.1 9 x1.toNatClampNeg)]) (rest := []) C hP hS (ct_Machine_branch htr hok hq) kq_Machine_252 60 4 rfl rfl ⟨rfl, rfl, Nat.le_of_ble_eq_true rfl, Nat.le_of_ble_eq_true rfl⟩ ⟨Nat.le_of_ble_eq_true rfl, Nat.le_of_ble_eq_true rfl⟩ hl.1 rfl rfl (Nat.le_of_ble_eq_true rfl) dd_Machine_doControl_172) hS (fun H locs hP hS => ?_)
    clear hq
    refine lv_goto (tgt := 257) hx hb dd_Machine_doControl_175 (by decide) ?_
    obtain ⟨rfl, rfl⟩ := xp_r h
    exact xr_vret C hP hS dd_Machine_doControl_257
  have h := xp_f hc12 h
  by_cases hc13 : x0 = (13 : Int32)
  · have h := xp_t hc13 h
    refine lv_tableIn (off := 177) (tgt := 178) hx hb dd_Machine_doControl_1 (by rw [hc13]; decide) (by rw [hc13]; decide) (by rw [hc13]; rfl) (by decide) ?_
    refine lv_aload_n hx hb dd_Machine_doControl_178 rfl (lv_at hl 0 rfl) ?_
    refine gf_h_Machine_60_values C hP dd_Machine_doControl_179 ?_
    obtain ⟨a9, u10, hq, h⟩ := xp_seq h
    refine xk_goesL (xr_V (As := []) (rest := []) C hP hS (ct_Values_pop__h61 htr hok hq) kq_Machine_245 61 10 rfl rfl ⟨rfl, rfl, Nat.le_of_ble_eq_true rfl, Nat.le_of_ble_eq_true rfl⟩ ⟨Nat.le_of_ble_eq_true rfl, Nat.le_of_ble_eq_true rfl⟩ hl.1 rfl rfl (Nat.le_of_ble_eq_true rfl) dd_Machine_doControl_182) hS (fun H locs hP hS => ?_)
    clear hq
    refine lv_lconst (v := 0) hx hb dd_Machine_doControl_185 (by decide) ?_
    refine xr_lc_eq (tgt := 257) hx hb dd_Machine_doControl_186 dd_Machine_doControl_187 (by decide) (fun hc => ?_) (fun hc => ?_)
    · have h := xp_t hc h
      obtain ⟨rfl, rfl⟩ := xp_r h
      exact xr_vret C hP hS dd_Machine_doControl_257
    · have h := xp_f hc h
      refine lv_aload_n hx hb dd_Machine_doControl_190 rfl (lv_at hl 0 rfl) ?_
      refine lv_aload_n hx hb dd_Machine_doControl_191 rfl (lv_at hl 0 rfl) ?_
      refine gf_h_Machine_60_code C hP dd_Machine_doControl_192 ?_
      refine gf_h_Machine_12_mate C hP dd_Machine_doControl_195 ?_
      refine lv_iload_n hx hb dd_Machine_doControl_198 rfl (lv_at hl 2 rfl) ?_
      obtain ⟨hi, h⟩ := xp_g h
      refine al_h_16 C hP hi dd_Machine_doControl_199 ?_
      obtain ⟨rx, u11, hq, h⟩ := xp_seq h
      refine xk_goesV (xr_V (As := [.int (u10.2.2.1 9 x1.toNatClampNeg)]) (rest := []) C hP hS (ct_Machine_branch htr hok hq) kq_Machine_252 60 4 rfl rfl ⟨rfl, rfl, Nat.le_of_ble_eq_true rfl, Nat.le_of_ble_eq_true rfl⟩ ⟨Nat.le_of_ble_eq_true rfl, Nat.le_of_ble_eq_true rfl⟩ hl.1 rfl rfl (Nat.le_of_ble_eq_true rfl) dd_Machine_doControl_200) hS (fun H locs hP hS => ?_)
      clear hq
      refine lv_goto (tgt := 257) hx hb dd_Machine_doControl_203 (by decide) ?_
      obtain ⟨rfl, rfl⟩ := xp_r h
      exact xr_vret C hP hS dd_Machine_doControl_257
  have h := xp_f hc13 h
  by_cases hc14 : x0 = (14 : Int32)
  · have h := xp_t hc14 h
    refine lv_tableIn (off := 205) (tgt := 206) hx hb dd_Machine_doControl_1 (by rw [hc14]; decide) (by rw [hc14]; decide) (by rw [hc14]; rfl) (by decide) ?_
    refine lv_aload_n hx hb dd_Machine_doControl_206 rfl (lv_at hl 0 rfl) ?_
    refine gf_h_Machine_60_values C hP dd_Machine_doControl_207 ?_
    obtain ⟨a12, u13, hq, h⟩ := xp_seq h
    refine xk_goesL (xr_V (As := []) (rest := []) C hP hS (ct_Values_pop__h61 htr hok hq) kq_Machine_245 61 10 rfl rfl ⟨rfl, rfl, Nat.le_of_ble_eq_true rfl, Nat.le_of_ble_eq_true rfl⟩ ⟨Nat.le_of_ble_eq_true rfl, Nat.le_of_ble_eq_true rfl⟩ hl.1 rfl rfl (Nat.le_of_ble_eq_true rfl) dd_Machine_doControl_210) hS (fun H locs hP hS => ?_)
    clear hq
    refine lv_ldc2 (v := 4294967295) hx hb C.1.2.2.2.1 (C.1.2.2.2.2 _ (xk_c6 (w := Jvm.Cond.constantLong "ModuleHouse$Machine" 255 4294967295) 215 rfl rfl)) dd_Machine_doControl_213 ?_
    refine lv_land hx hb dd_Machine_doControl_216 ?_
    refine lv_aload_n hx hb dd_Machine_doControl_217 rfl (lv_at hl 0 rfl) ?_
    refine gf_h_Machine_60_code C hP dd_Machine_doControl_218 ?_
    refine gf_h_Machine_12_second C hP dd_Machine_doControl_221 ?_
    refine lv_iload_n hx hb dd_Machine_doControl_224 rfl (lv_at hl 2 rfl) ?_
    obtain ⟨hi, h⟩ := xp_g h
    refine al_h_15 C hP hi dd_Machine_doControl_225 ?_
    refine va_mmin_long hx hb (C.1.2.2.1.trans hl.1.symm) C.1.2.2.2.1 (C.1.2.2.2.2 _ (xk_c6 (w := Cond.methodLink "ModuleHouse$Machine" 257 Lib.MathLoose.min_long.x) 216 rfl rfl)) (C.1.2.2.2.2 _ (xk_c4 (w := Cond.static Lib.MathLoose.min_long.x) 157 rfl rfl)) (C.1.2.2.2.2 _ (xk_c1 (w := Cond.initialized "java/lang/Math") 24 rfl rfl)) (C.1.2.2.2.2 _ (xk_c4 (w := Cond.code Lib.MathLoose.min_long.x Lib.MathLoose.min_long.code 4 (some .long)) 158 rfl rfl)) (Nat.le_of_ble_eq_true rfl) (Nat.le_of_ble_eq_true rfl) (Nat.zero_le _) (Nat.zero_le _) dd_Machine_doControl_226 ?_
    obtain ⟨a14, ea14, h⟩ := xp_let h
    refine xr_naml ea14 ?_
    refine lv_lstore_n (lv' := [(3, .long a14), (0, .ref (ad 60)), (1, .int x0), (2, .int x1)]) hx hb dd_Machine_doControl_229 rfl hl (by decide) rfl (fun ls hl => ?_)
    refine lv_aload_n hx hb dd_Machine_doControl_230 rfl (lv_at hl 1 rfl) ?_
    refine lv_aload_n hx hb dd_Machine_doControl_231 rfl (lv_at hl 1 rfl) ?_
    refine gf_h_Machine_60_code C hP dd_Machine_doControl_232 ?_
    refine gf_h_Machine_12_numbers C hP dd_Machine_doControl_235 ?_
    refine lv_aload_n hx hb dd_Machine_doControl_238 rfl (lv_at hl 1 rfl) ?_
    refine gf_h_Machine_60_code C hP dd_Machine_doControl_239 ?_
    refine gf_h_Machine_12_first C hP dd_Machine_doControl_242 ?_
    refine lv_iload_n hx hb dd_Machine_doControl_245 rfl (lv_at hl 3 rfl) ?_
    obtain ⟨hi, h⟩ := xp_g h
    refine al_h_14 C hP hi dd_Machine_doControl_246 ?_
    refine lv_lload_n hx hb dd_Machine_doControl_247 rfl (lv_at hl 0 rfl) ?_
    refine lv_l2i hx hb dd_Machine_doControl_248 rfl ?_
    refine lv_iadd hx hb dd_Machine_doControl_249 ?_
    obtain ⟨hi, h⟩ := xp_g h
    refine al_h_18 C hP hi dd_Machine_doControl_250 ?_
    obtain ⟨rx, u15, hq, h⟩ := xp_seq h
    refine xk_goesV (xr_V (As := [.int (u13.2.2.1 11 ((u13.2.2.1 8 x1.toNatClampNeg) + (a14.toInt32)).toNatClampNeg)]) (rest := []) C hP hS (ct_Machine_branch htr hok hq) kq_Machine_252 60 4 rfl rfl ⟨rfl, rfl, Nat.le_of_ble_eq_true rfl, Nat.le_of_ble_eq_true rfl⟩ ⟨Nat.le_of_ble_eq_true rfl, Nat.le_of_ble_eq_true rfl⟩ hl.1 rfl rfl (Nat.le_of_ble_eq_true rfl) dd_Machine_doControl_251) hS (fun H locs hP hS => ?_)
    clear hq
    refine lv_goto (tgt := 257) hx hb dd_Machine_doControl_254 (by decide) ?_
    obtain ⟨rfl, rfl⟩ := xp_r h
    exact xr_vret C hP hS dd_Machine_doControl_257
  have h := xp_f hc14 h
  by_cases hc15 : x0 = (15 : Int32)
  · have h := xp_t hc15 h
    refine lv_tableIn (off := 154) (tgt := 155) hx hb dd_Machine_doControl_1 (by rw [hc15]; decide) (by rw [hc15]; decide) (by rw [hc15]; rfl) (by decide) ?_
    exact wj_Machine_doControl_155 htr C hne h hP hS (lv_sub hl [0] rfl)
  have h := xp_f hc15 h
  have hd0 := lv_neT hc0 (a := 0) (by decide)
  have hd1 := lv_neT hc1 (a := 1) (by decide)
  have hd2 := lv_neT hc2 (a := 2) (by decide)
  have hd3 := lv_neT hc3 (a := 3) (by decide)
  have hd4 := lv_neT hc4 (a := 4) (by decide)
  have hd5 := lv_neT hc5 (a := 5) (by decide)
  have hd6 := lv_neT hc6 (a := 6) (by decide)
  have hd7 := lv_neT hc7 (a := 7) (by decide)
  have hd8 := lv_neT hc8 (a := 8) (by decide)
  have hd9 := lv_neT hc9 (a := 9) (by decide)
  have hd10 := lv_neT hc10 (a := 10) (by decide)
  have hd11 := lv_neT hc11 (a := 11) (by decide)
  have hd12 := lv_neT hc12 (a := 12) (by decide)
  have hd13 := lv_neT hc13 (a := 13) (by decide)
  have hd14 := lv_neT hc14 (a := 14) (by decide)
  have hd15 := lv_neT hc15 (a := 15) (by decide)
  refine lv_tableOut (tgt := 257) hx hb dd_Machine_doControl_1 (by omega) (by decide) ?_
  obtain ⟨rfl, rfl⟩ := xp_r h
  exact xr_vret C hP hS dd_Machine_doControl_257
abbrev rm_Machine_step : Room := { frames := 12, cells := 1, slots := 6, locals := 247 }
noncomputable def fm_Machine_step (fu : Nat) (x0 : Int32) (x1 : Int32) (u : xk_St) : Option (Unit × xk_St) :=
  if (16 : Int32) ≤ x0 then (if (40 : Int32) ≤ x0 then (if (64 : Int32) < x0 then (if (66 : Int32) < x0 then (if (208 : Int32) ≤ x0 then (if (256 : Int32) ≤ x0 then (if (262 : Int32) ≤ x0 then (if (276 : Int32) ≤ x0 then ((if x1 < 0 ∨ 8192 ≤ x1.toNatClampNeg then none else xs_seq (fm_Machine_doKind (x0 - (256 : Int32)) (u.2.2.1 8 x1.toNatClampNeg) u) fun _ u1 => some ((()), u1))) else ((if x1 < 0 ∨ 8192 ≤ x1.toNatClampNeg then none else if x1 < 0 ∨ 8192 ≤ x1.toNatClampNeg then none else xs_seq (fm_Machine_doArray fu (x0 - (256 : Int32)) (u.2.2.1 8 x1.toNatClampNeg) ((u.2.2.2 2 x1.toNatClampNeg).toInt32) u) fun _ u2 => some ((()), u2)))) else ((if x1 < 0 ∨ 8192 ≤ x1.toNatClampNeg then none else if x1 < 0 ∨ 8192 ≤ x1.toNatClampNeg then none else xs_seq (fm_Machine_doStructure fu (x0 - (256 : Int32)) (u.2.2.1 8 x1.toNatClampNeg) ((u.2.2.2 2 x1.toNatClampNeg).toInt32) u) fun _ u3 => some ((()), u3)))) else ((xs_seq (fm_Machine_doReference fu x0 x1 u) fun _ u4 => some ((()), u4)))) else ((xs_seq (fm_Machine_doNumeric fu x0 u) fun _ u5 => some ((()), u5)))) else ((if x1 < 0 ∨ 8192 ≤ x1.toNatClampNeg then none else xs_seq (fm_Values_push__h61 (u.2.2.2 2 x1.toNatClampNeg) u) fun _ u6 => some ((()), u6)))) else ((if x1 < 0 ∨ 8192 ≤ x1.toNatClampNeg then none else xs_seq (fm_Machine_doMemory fu x0 (u.2.2.2 2 x1.toNatClampNeg) u) fun _ u7 => some ((()), u7)))) else ((if x1 < 0 ∨ 8192 ≤ x1.toNatClampNeg then none else xs_seq (fm_Machine_doSimple x0 (u.2.2.1 8 x1.toNatClampNeg) u) fun _ u8 => some ((()), u8)))) else ((xs_seq (fm_Machine_doControl fu x0 x1 u) fun _ u9 => some ((()), u9)))
set_option maxHeartbeats 4000000 in
set_option maxRecDepth 100000 in
theorem ct_Machine_step {l : Launch} {D : va_G} {ad : Nat → Nat} {ca : Nat → ClassId} {ads : List Nat} (htr : l.stackTraces = false) (hok : xk_ok (kw_h ad ca) ads) {fu : Nat} {x0 : Int32} {x1 : Int32} {u u' : xk_St} {r : Unit} (h : fm_Machine_step fu x0 x1 u = some (r, u')) :
    ∀ sz, xk_Met l ⟨"ModuleHouse$Machine", "step", "(II)V"⟩ (Cond.code ⟨"ModuleHouse$Machine", "step", "(II)V"⟩ prog_5_method_7_code 3 none :: xk_gd) rm_Machine_step (xk_Pc D kx_cl (kx_ty ca) (kw_h ad ca) ads xk_F sz [.ref (ad 60), .int x0, .int x1] u) (xk_Qc D kx_cl (kw_h ad ca) ads (xo_v (.inl r)) u') (xk_A ads sz) := by
  unfold fm_Machine_step at h
  refine xk_con (by decide) htr hok (Nat.le_of_ble_eq_true rfl) (fun p e s m below meth c ls C hne hl hP => ?_)
  have hx := C.1.1
  have hb := C.1.2.1
  have hS : va_S (xk_A ads s.heap.size) s.heap s.heap [] := va_S.rf
  have hl : lv_has ls 3 [(0, .ref (ad 60)), (1, .int x0), (2, .int x1)] := hl
  refine lv_iload_n hx hb dd_Machine_step_0 rfl (lv_at hl 1 rfl) ?_
  refine lv_bipush (v := 16) hx hb dd_Machine_step_1 (by decide) ?_
  refine lv_icmp_ge (tgt := 15) hx hb dd_Machine_step_3 (by decide) (fun hc => ?_) (fun hc => ?_)
  · have h := xp_t hc h
    refine lv_iload_n hx hb dd_Machine_step_15 rfl (lv_at hl 1 rfl) ?_
    refine lv_bipush (v := 40) hx hb dd_Machine_step_16 (by decide) ?_
    refine lv_icmp_ge (tgt := 38) hx hb dd_Machine_step_18 (by decide) (fun hc => ?_) (fun hc => ?_)
    · have h := xp_t hc h
      refine lv_iload_n hx hb dd_Machine_step_38 rfl (lv_at hl 1 rfl) ?_
      refine lv_bipush (v := 64) hx hb dd_Machine_step_39 (by decide) ?_
      refine lv_icmp_gt (tgt := 61) hx hb dd_Machine_step_41 (by decide) (fun hc => ?_) (fun hc => ?_)
      · have h := xp_t hc h
        refine lv_iload_n hx hb dd_Machine_step_61 rfl (lv_at hl 1 rfl) ?_
        refine lv_bipush (v := 66) hx hb dd_Machine_step_62 (by decide) ?_
        refine lv_icmp_gt (tgt := 86) hx hb dd_Machine_step_64 (by decide) (fun hc => ?_) (fun hc => ?_)
        · have h := xp_t hc h
          refine lv_iload_n hx hb dd_Machine_step_86 rfl (lv_at hl 1 rfl) ?_
          refine lv_sipush (v := 208) hx hb dd_Machine_step_87 (by decide) ?_
          refine lv_icmp_ge (tgt := 101) hx hb dd_Machine_step_90 (by decide) (fun hc => ?_) (fun hc => ?_)
          · have h := xp_t hc h
            refine lv_iload_n hx hb dd_Machine_step_101 rfl (lv_at hl 1 rfl) ?_
            refine lv_sipush (v := 256) hx hb dd_Machine_step_102 (by decide) ?_
            refine lv_icmp_ge (tgt := 117) hx hb dd_Machine_step_105 (by decide) (fun hc => ?_) (fun hc => ?_)
            · have h := xp_t hc h
              refine lv_iload_n hx hb dd_Machine_step_117 rfl (lv_at hl 1 rfl) ?_
              refine lv_sipush (v := 262) hx hb dd_Machine_step_118 (by decide) ?_
              refine lv_icmp_ge (tgt := 155) hx hb dd_Machine_step_121 (by decide) (fun hc => ?_) (fun hc => ?_)
              · have h := xp_t hc h
                refine lv_iload_n hx hb dd_Machine_step_155 rfl (lv_at hl 1 rfl) ?_
                refine lv_sipush (v := 276) hx hb dd_Machine_step_156 (by decide) ?_
                refine lv_icmp_ge (tgt := 193) hx hb dd_Machine_step_159 (by decide) (fun hc => ?_) (fun hc => ?_)
                · have h := xp_t hc h
                  refine lv_aload_n hx hb dd_Machine_step_193 rfl (lv_at hl 0 rfl) ?_
                  refine lv_iload_n hx hb dd_Machine_step_194 rfl (lv_at hl 1 rfl) ?_
                  refine lv_sipush (v := 256) hx hb dd_Machine_step_195 (by decide) ?_
                  refine lv_isub hx hb dd_Machine_step_198 ?_
                  refine lv_aload_n hx hb dd_Machine_step_199 rfl (lv_at hl 0 rfl) ?_
                  refine gf_h_Machine_60_code C hP dd_Machine_step_200 ?_
                  refine gf_h_Machine_12_first C hP dd_Machine_step_203 ?_
                  refine lv_iload_n hx hb dd_Machine_step_206 rfl (lv_at hl 2 rfl) ?_
                  obtain ⟨hi, h⟩ := xp_g h
                  refine al_h_14 C hP hi dd_Machine_step_207 ?_
                  obtain ⟨rx, u1, hq, h⟩ := xp_seq h
                  refine xk_goesV (xr_V (As := [.int (x0 - (256 : Int32)), .int (u.2.2.1 8 x1.toNatClampNeg)]) (rest := []) C hP hS (ct_Machine_doKind htr hok hq) kq_Machine_210 60 4 rfl rfl ⟨rfl, rfl, Nat.le_of_ble_eq_true rfl, Nat.le_of_ble_eq_true rfl⟩ ⟨Nat.le_of_ble_eq_true rfl, Nat.le_of_ble_eq_true rfl⟩ hl.1 rfl rfl (Nat.le_of_ble_eq_true rfl) dd_Machine_step_208) hS (fun H locs hP hS => ?_)
                  clear hq
                  obtain ⟨rfl, rfl⟩ := xp_r h
                  exact xr_vret C hP hS dd_Machine_step_211
                · have h := xp_f hc h
                  refine lv_aload_n hx hb dd_Machine_step_162 rfl (lv_at hl 0 rfl) ?_
                  refine lv_iload_n hx hb dd_Machine_step_163 rfl (lv_at hl 1 rfl) ?_
                  refine lv_sipush (v := 256) hx hb dd_Machine_step_164 (by decide) ?_
                  refine lv_isub hx hb dd_Machine_step_167 ?_
                  refine lv_aload_n hx hb dd_Machine_step_168 rfl (lv_at hl 0 rfl) ?_
                  refine gf_h_Machine_60_code C hP dd_Machine_step_169 ?_
                  refine gf_h_Machine_12_first C hP dd_Machine_step_172 ?_
                  refine lv_iload_n hx hb dd_Machine_step_175 rfl (lv_at hl 2 rfl) ?_
                  obtain ⟨hi, h⟩ := xp_g h
                  refine al_h_14 C hP hi dd_Machine_step_176 ?_
                  refine lv_aload_n hx hb dd_Machine_step_177 rfl (lv_at hl 0 rfl) ?_
                  refine gf_h_Machine_60_code C hP dd_Machine_step_178 ?_
                  refine gf_h_Machine_12_second C hP dd_Machine_step_181 ?_
                  refine lv_iload_n hx hb dd_Machine_step_184 rfl (lv_at hl 2 rfl) ?_
                  obtain ⟨hi, h⟩ := xp_g h
                  refine al_h_15 C hP hi dd_Machine_step_185 ?_
                  refine lv_l2i hx hb dd_Machine_step_186 rfl ?_
                  obtain ⟨rx, u2, hq, h⟩ := xp_seq h
                  refine xk_goesV (xr_V (As := [.int (x0 - (256 : Int32)), .int (u.2.2.1 8 x1.toNatClampNeg), .int ((u.2.2.2 2 x1.toNatClampNeg).toInt32)]) (rest := []) C hP hS (ct_Machine_doArray htr hok hq) kq_Machine_207 60 4 rfl rfl ⟨rfl, rfl, Nat.le_of_ble_eq_true rfl, Nat.le_of_ble_eq_true rfl⟩ ⟨Nat.le_of_ble_eq_true rfl, Nat.le_of_ble_eq_true rfl⟩ hl.1 rfl rfl (Nat.le_of_ble_eq_true rfl) dd_Machine_step_187) hS (fun H locs hP hS => ?_)
                  clear hq
                  refine lv_goto (tgt := 211) hx hb dd_Machine_step_190 (by decide) ?_
                  obtain ⟨rfl, rfl⟩ := xp_r h
                  exact xr_vret C hP hS dd_Machine_step_211
              · have h := xp_f hc h
                refine lv_aload_n hx hb dd_Machine_step_124 rfl (lv_at hl 0 rfl) ?_
                refine lv_iload_n hx hb dd_Machine_step_125 rfl (lv_at hl 1 rfl) ?_
                refine lv_sipush (v := 256) hx hb dd_Machine_step_126 (by decide) ?_
                refine lv_isub hx hb dd_Machine_step_129 ?_
                refine lv_aload_n hx hb dd_Machine_step_130 rfl (lv_at hl 0 rfl) ?_
                refine gf_h_Machine_60_code C hP dd_Machine_step_131 ?_
                refine gf_h_Machine_12_first C hP dd_Machine_step_134 ?_
                refine lv_iload_n hx hb dd_Machine_step_137 rfl (lv_at hl 2 rfl) ?_
                obtain ⟨hi, h⟩ := xp_g h
                refine al_h_14 C hP hi dd_Machine_step_138 ?_
                refine lv_aload_n hx hb dd_Machine_step_139 rfl (lv_at hl 0 rfl) ?_
                refine gf_h_Machine_60_code C hP dd_Machine_step_140 ?_
                refine gf_h_Machine_12_second C hP dd_Machine_step_143 ?_
                refine lv_iload_n hx hb dd_Machine_step_146 rfl (lv_at hl 2 rfl) ?_
                obtain ⟨hi, h⟩ := xp_g h
                refine al_h_15 C hP hi dd_Machine_step_147 ?_
                refine lv_l2i hx hb dd_Machine_step_148 rfl ?_
                obtain ⟨rx, u3, hq, h⟩ := xp_seq h
                refine xk_goesV (xr_V (As := [.int (x0 - (256 : Int32)), .int (u.2.2.1 8 x1.toNatClampNeg), .int ((u.2.2.2 2 x1.toNatClampNeg).toInt32)]) (rest := []) C hP hS (ct_Machine_doStructure htr hok hq) kq_Machine_203 60 4 rfl rfl ⟨rfl, rfl, Nat.le_of_ble_eq_true rfl, Nat.le_of_ble_eq_true rfl⟩ ⟨Nat.le_of_ble_eq_true rfl, Nat.le_of_ble_eq_true rfl⟩ hl.1 rfl rfl (Nat.le_of_ble_eq_true rfl) dd_Machine_step_149) hS (fun H locs hP hS => ?_)
                clear hq
                refine lv_goto (tgt := 211) hx hb dd_Machine_step_152 (by decide) ?_
                obtain ⟨rfl, rfl⟩ := xp_r h
                exact xr_vret C hP hS dd_Machine_step_211
            · have h := xp_f hc h
              refine lv_aload_n hx hb dd_Machine_step_108 rfl (lv_at hl 0 rfl) ?_
              refine lv_iload_n hx hb dd_Machine_step_109 rfl (lv_at hl 1 rfl) ?_
              refine lv_iload_n hx hb dd_Machine_step_110 rfl (lv_at hl 2 rfl) ?_
              obtain ⟨rx, u4, hq, h⟩ := xp_seq h
              refine xk_goesV (xr_V (As := [.int x0, .int x1]) (rest := []) C hP hS (ct_Machine_doReference htr hok hq) kq_Machine_200 60 4 rfl rfl ⟨rfl, rfl, Nat.le_of_ble_eq_true rfl, Nat.le_of_ble_eq_true rfl⟩ ⟨Nat.le_of_ble_eq_true rfl, Nat.le_of_ble_eq_true rfl⟩ hl.1 rfl rfl (Nat.le_of_ble_eq_true rfl) dd_Machine_step_111) hS (fun H locs hP hS => ?_)
              clear hq
              refine lv_goto (tgt := 211) hx hb dd_Machine_step_114 (by decide) ?_
              obtain ⟨rfl, rfl⟩ := xp_r h
              exact xr_vret C hP hS dd_Machine_step_211
          · have h := xp_f hc h
            refine lv_aload_n hx hb dd_Machine_step_93 rfl (lv_at hl 0 rfl) ?_
            refine lv_iload_n hx hb dd_Machine_step_94 rfl (lv_at hl 1 rfl) ?_
            obtain ⟨rx, u5, hq, h⟩ := xp_seq h
            refine xk_goesV (xr_V (As := [.int x0]) (rest := []) C hP hS (ct_Machine_doNumeric htr hok hq) kq_Machine_197 60 4 rfl rfl ⟨rfl, rfl, Nat.le_of_ble_eq_true rfl, Nat.le_of_ble_eq_true rfl⟩ ⟨Nat.le_of_ble_eq_true rfl, Nat.le_of_ble_eq_true rfl⟩ hl.1 rfl rfl (Nat.le_of_ble_eq_true rfl) dd_Machine_step_95) hS (fun H locs hP hS => ?_)
            clear hq
            refine lv_goto (tgt := 211) hx hb dd_Machine_step_98 (by decide) ?_
            obtain ⟨rfl, rfl⟩ := xp_r h
            exact xr_vret C hP hS dd_Machine_step_211
        · have h := xp_f hc h
          refine lv_aload_n hx hb dd_Machine_step_67 rfl (lv_at hl 0 rfl) ?_
          refine gf_h_Machine_60_values C hP dd_Machine_step_68 ?_
          refine lv_aload_n hx hb dd_Machine_step_71 rfl (lv_at hl 0 rfl) ?_
          refine gf_h_Machine_60_code C hP dd_Machine_step_72 ?_
          refine gf_h_Machine_12_second C hP dd_Machine_step_75 ?_
          refine lv_iload_n hx hb dd_Machine_step_78 rfl (lv_at hl 2 rfl) ?_
          obtain ⟨hi, h⟩ := xp_g h
          refine al_h_15 C hP hi dd_Machine_step_79 ?_
          obtain ⟨rx, u6, hq, h⟩ := xp_seq h
          refine xk_goesV (xr_V (As := [.long (u.2.2.2 2 x1.toNatClampNeg)]) (rest := []) C hP hS (ct_Values_push__h61 htr hok hq) kq_Machine_99 61 10 rfl rfl ⟨rfl, rfl, Nat.le_of_ble_eq_true rfl, Nat.le_of_ble_eq_true rfl⟩ ⟨Nat.le_of_ble_eq_true rfl, Nat.le_of_ble_eq_true rfl⟩ hl.1 rfl rfl (Nat.le_of_ble_eq_true rfl) dd_Machine_step_80) hS (fun H locs hP hS => ?_)
          clear hq
          refine lv_goto (tgt := 211) hx hb dd_Machine_step_83 (by decide) ?_
          obtain ⟨rfl, rfl⟩ := xp_r h
          exact xr_vret C hP hS dd_Machine_step_211
      · have h := xp_f hc h
        refine lv_aload_n hx hb dd_Machine_step_44 rfl (lv_at hl 0 rfl) ?_
        refine lv_iload_n hx hb dd_Machine_step_45 rfl (lv_at hl 1 rfl) ?_
        refine lv_aload_n hx hb dd_Machine_step_46 rfl (lv_at hl 0 rfl) ?_
        refine gf_h_Machine_60_code C hP dd_Machine_step_47 ?_
        refine gf_h_Machine_12_second C hP dd_Machine_step_50 ?_
        refine lv_iload_n hx hb dd_Machine_step_53 rfl (lv_at hl 2 rfl) ?_
        obtain ⟨hi, h⟩ := xp_g h
        refine al_h_15 C hP hi dd_Machine_step_54 ?_
        obtain ⟨rx, u7, hq, h⟩ := xp_seq h
        refine xk_goesV (xr_V (As := [.int x0, .long (u.2.2.2 2 x1.toNatClampNeg)]) (rest := []) C hP hS (ct_Machine_doMemory htr hok hq) kq_Machine_193 60 4 rfl rfl ⟨rfl, rfl, Nat.le_of_ble_eq_true rfl, Nat.le_of_ble_eq_true rfl⟩ ⟨Nat.le_of_ble_eq_true rfl, Nat.le_of_ble_eq_true rfl⟩ hl.1 rfl rfl (Nat.le_of_ble_eq_true rfl) dd_Machine_step_55) hS (fun H locs hP hS => ?_)
        clear hq
        refine lv_goto (tgt := 211) hx hb dd_Machine_step_58 (by decide) ?_
        obtain ⟨rfl, rfl⟩ := xp_r h
        exact xr_vret C hP hS dd_Machine_step_211
    · have h := xp_f hc h
      refine lv_aload_n hx hb dd_Machine_step_21 rfl (lv_at hl 0 rfl) ?_
      refine lv_iload_n hx hb dd_Machine_step_22 rfl (lv_at hl 1 rfl) ?_
      refine lv_aload_n hx hb dd_Machine_step_23 rfl (lv_at hl 0 rfl) ?_
      refine gf_h_Machine_60_code C hP dd_Machine_step_24 ?_
      refine gf_h_Machine_12_first C hP dd_Machine_step_27 ?_
      refine lv_iload_n hx hb dd_Machine_step_30 rfl (lv_at hl 2 rfl) ?_
      obtain ⟨hi, h⟩ := xp_g h
      refine al_h_14 C hP hi dd_Machine_step_31 ?_
      obtain ⟨rx, u8, hq, h⟩ := xp_seq h
      refine xk_goesV (xr_V (As := [.int x0, .int (u.2.2.1 8 x1.toNatClampNeg)]) (rest := []) C hP hS (ct_Machine_doSimple htr hok hq) kq_Machine_188 60 4 rfl rfl ⟨rfl, rfl, Nat.le_of_ble_eq_true rfl, Nat.le_of_ble_eq_true rfl⟩ ⟨Nat.le_of_ble_eq_true rfl, Nat.le_of_ble_eq_true rfl⟩ hl.1 rfl rfl (Nat.le_of_ble_eq_true rfl) dd_Machine_step_32) hS (fun H locs hP hS => ?_)
      clear hq
      refine lv_goto (tgt := 211) hx hb dd_Machine_step_35 (by decide) ?_
      obtain ⟨rfl, rfl⟩ := xp_r h
      exact xr_vret C hP hS dd_Machine_step_211
  · have h := xp_f hc h
    refine lv_aload_n hx hb dd_Machine_step_6 rfl (lv_at hl 0 rfl) ?_
    refine lv_iload_n hx hb dd_Machine_step_7 rfl (lv_at hl 1 rfl) ?_
    refine lv_iload_n hx hb dd_Machine_step_8 rfl (lv_at hl 2 rfl) ?_
    obtain ⟨rx, u9, hq, h⟩ := xp_seq h
    refine xk_goesV (xr_V (As := [.int x0, .int x1]) (rest := []) C hP hS (ct_Machine_doControl htr hok hq) kq_Machine_184 60 4 rfl rfl ⟨rfl, rfl, Nat.le_of_ble_eq_true rfl, Nat.le_of_ble_eq_true rfl⟩ ⟨Nat.le_of_ble_eq_true rfl, Nat.le_of_ble_eq_true rfl⟩ hl.1 rfl rfl (Nat.le_of_ble_eq_true rfl) dd_Machine_step_9) hS (fun H locs hP hS => ?_)
    clear hq
    refine lv_goto (tgt := 211) hx hb dd_Machine_step_12 (by decide) ?_
    obtain ⟨rfl, rfl⟩ := xp_r h
    exact xr_vret C hP hS dd_Machine_step_211
