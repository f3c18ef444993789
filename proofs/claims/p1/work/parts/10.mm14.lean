abbrev rm_Model_divided : Room := { frames := 2, cells := 1, slots := 6, locals := 27 }
noncomputable def jb_Model_divided_124 (b1 : Int32) (b7 : Int64) (s0 : Int64) (u : xk_St) : Option (Int64 × xk_St) :=
  if b1 = (1 : Int32) then ((xs_seq (fm_Long_divideUnsigned__m b7 s0 u) fun a3 u4 => some (a3, u4))) else ((xs_seq (fm_Long_remainderUnsigned__m b7 s0 u) fun a1 u2 => some (a1, u2)))
noncomputable def jb_Model_divided_104 (b1 : Int32) (b4 : Int64) (b6 : Int32) (s0 : Int64) (u : xk_St) : Option (Int64 × xk_St) :=
  if b6 = (32 : Int32) then (jb_Model_divided_124 b1 s0 (b4 &&& (4294967295 : Int64)) u) else (jb_Model_divided_124 b1 s0 b4 u)
noncomputable def jb_Model_divided_63 (b1 : Int32) (b2 : Int64) (b4 : Int64) (b7 : Int32) (u : xk_St) : Option (Int64 × xk_St) :=
  if b7 = (0 : Int32) then (if b1 = (0 : Int32) then ((if b4 = (0 : Int64) then none else some ((b2 / b4), u))) else ((if b4 = (0 : Int64) then none else some ((b2 - b2 / b4 * b4), u)))) else (some ((0 : Int64), u))
noncomputable def jb_Model_divided_47 (b1 : Int32) (b2 : Int64) (b4 : Int64) (s0 : Int32) (u : xk_St) : Option (Int64 × xk_St) :=
  if b1 = (0 : Int32) then (if s0 = (0 : Int32) then (jb_Model_divided_63 b1 b2 b4 s0 u) else ((xs_let (xs_I u 29 (4 : Int32)) fun u5 => jb_Model_divided_63 b1 b2 b4 s0 u5))) else (jb_Model_divided_63 b1 b2 b4 s0 u)
noncomputable def jb_Model_divided_46 (b1 : Int32) (b2 : Int64) (b4 : Int64) (u : xk_St) : Option (Int64 × xk_St) :=
  jb_Model_divided_47 b1 b2 b4 (0 : Int32) u
noncomputable def fm_Model_divided (x0 : Int32) (x1 : Int64) (x2 : Int64) (x3 : Int32) (u : xk_St) : Option (Int64 × xk_St) :=
  if x2 = (0 : Int64) then ((xs_let (xs_I u 29 (3 : Int32)) fun u6 => some ((0 : Int64), u6))) else ((if (2 : Int32) = (0 : Int32) then none else if (x0 - x0 / (2 : Int32) * (2 : Int32)) = (0 : Int32) then (if x2 = (-1 : Int64) then (if x1 = ((-1 : Int64) <<< ((x3 - (1 : Int32)).toInt64 &&& 63)) then (jb_Model_divided_47 x0 x1 x2 (1 : Int32) u) else (jb_Model_divided_46 x0 x1 x2 u)) else (jb_Model_divided_46 x0 x1 x2 u)) else (if x3 = (32 : Int32) then (jb_Model_divided_104 x0 x2 x3 (x1 &&& (4294967295 : Int64)) u) else (jb_Model_divided_104 x0 x2 x3 x1 u))))
set_option maxHeartbeats 4000000 in
set_option maxRecDepth 100000 in
theorem wj_Model_divided_124 {p : Program} {l : Launch} {e : Env} {s : State} {m : MethodId} {args : Array Value} {below : List Frame} {meth : Method} {c : Code} {D : va_G} {ad : Nat → Nat} {ca : Nat → ClassId} {ads : List Nat} (htr : l.stackTraces = false) (C : xk_C D kx_cl (kx_ty ca) (kw_m ad ca) ads "ModuleHouseModel" prog_14_method_120_code 11 (some .long) p e s m args meth c) (hne : c.exceptionTable.isEmpty = true) {u' : xk_St} {r : Int64} {b1 : Int32} {b7 : Int64} {s0 : Int64} {u : xk_St} {H : Heap} {locs : List Loc} {ls : Array Slot} (h : jb_Model_divided_124  b1 b7 s0 u = some (r, u')) (hP : va_P D kx_cl (kw_m ad ca u) H) (hS : va_S (xk_A ads s.heap.size) s.heap H locs) (hl : lv_has ls 11 [(1, .int b1), (7, .long b7)]) : W p l e rm_Model_divided s m args below meth c H locs 0 0 (xk_MQ below (xk_Qc D kx_cl (kw_m ad ca) ads (xo_l (.inl r)) u') args s (xk_A ads s.heap.size)) (F0 m 124 ls [.long s0]) := by
  have hx := C.1.1
  have hb := C.1.2.1
  have hok := C.2.2.1
  unfold jb_Model_divided_124 at h
  refine lv_lstore (lv' := [(9, .long s0), (1, .int b1), (7, .long b7)]) hx hb dd_Model_divided_124 hl (by decide) rfl (fun ls hl => ?_)
  refine lv_iload_n hx hb dd_Model_divided_126 rfl (lv_at hl 1 rfl) ?_
  refine lv_iconst (v := 1) hx hb dd_Model_divided_127 (by decide) ?_
  refine lv_icmp_ne (tgt := 141) hx hb dd_Model_divided_128 (by decide) (fun hc => ?_) (fun hc => ?_)
  · have h := xp_f hc h
    refine lv_lload hx hb dd_Model_divided_141 (lv_at hl 2 rfl) ?_
    refine lv_lload hx hb dd_Model_divided_143 (lv_at hl 0 rfl) ?_
    obtain ⟨a1, u2, hq, h⟩ := xp_seq h
    refine xk_goesL (xr_S (As := [.long b7, .long s0]) (rest := []) C hP hS (ct_Long_remainderUnsigned__m htr hok hq) kq_Model_756 ⟨rfl, rfl, Nat.le_of_ble_eq_true rfl, Nat.le_of_ble_eq_true rfl⟩ ⟨Nat.le_of_ble_eq_true rfl, Nat.le_of_ble_eq_true rfl⟩ hl.1 rfl rfl (Nat.le_of_ble_eq_true rfl) dd_Model_divided_145) hS (fun H locs hP hS => ?_)
    clear hq
    obtain ⟨rfl, rfl⟩ := xp_r h
    exact xr_lret C hP hS dd_Model_divided_148
  · have h := xp_t hc h
    refine lv_lload hx hb dd_Model_divided_131 (lv_at hl 2 rfl) ?_
    refine lv_lload hx hb dd_Model_divided_133 (lv_at hl 0 rfl) ?_
    obtain ⟨a3, u4, hq, h⟩ := xp_seq h
    refine xk_goesL (xr_S (As := [.long b7, .long s0]) (rest := []) C hP hS (ct_Long_divideUnsigned__m htr hok hq) kq_Model_750 ⟨rfl, rfl, Nat.le_of_ble_eq_true rfl, Nat.le_of_ble_eq_true rfl⟩ ⟨Nat.le_of_ble_eq_true rfl, Nat.le_of_ble_eq_true rfl⟩ hl.1 rfl rfl (Nat.le_of_ble_eq_true rfl) dd_Model_divided_135) hS (fun H locs hP hS => ?_)
    clear hq
    refine lv_goto (tgt := 148) hx hb dd_Model_divided_138 (by decide) ?_
    obtain ⟨rfl, rfl⟩ := xp_r h
    exact xr_lret C hP hS dd_Model_divided_148
set_option maxHeartbeats 4000000 in
set_option maxRecDepth 100000 in
theorem wj_Model_divided_104 {p : Program} {l : Launch} {e : Env} {s : State} {m : MethodId} {args : Array Value} {below : List Frame} {meth : Method} {c : Code} {D : va_G} {ad : Nat → Nat} {ca : Nat → ClassId} {ads : List Nat} (htr : l.stackTraces = false) (C : xk_C D kx_cl (kx_ty ca) (kw_m ad ca) ads "ModuleHouseModel" prog_14_method_120_code 11 (some .long) p e s m args meth c) (hne : c.exceptionTable.isEmpty = true) {u' : xk_St} {r : Int64} {b1 : Int32} {b4 : Int64} {b6 : Int32} {s0 : Int64} {u : xk_St} {H : Heap} {locs : List Loc} {ls : Array Slot} (h : jb_Model_divided_104  b1 b4 b6 s0 u = some (r, u')) (hP : va_P D kx_cl (kw_m ad ca u) H) (hS : va_S (xk_A ads s.heap.size) s.heap H locs) (hl : lv_has ls 11 [(1, .int b1), (4, .long b4), (6, .int b6)]) : W p l e rm_Model_divided s m args below meth c H locs 0 0 (xk_MQ below (xk_Qc D kx_cl (kw_m ad ca) ads (xo_l (.inl r)) u') args s (xk_A ads s.heap.size)) (F0 m 104 ls [.long s0]) := by
  have hx := C.1.1
  have hb := C.1.2.1
  have hok := C.2.2.1
  unfold jb_Model_divided_104 at h
  refine lv_lstore (lv' := [(7, .long s0), (1, .int b1), (4, .long b4), (6, .int b6)]) hx hb dd_Model_divided_104 hl (by decide) rfl (fun ls hl => ?_)
  refine lv_iload hx hb dd_Model_divided_106 (lv_at hl 3 rfl) ?_
  refine lv_bipush (v := 32) hx hb dd_Model_divided_108 (by decide) ?_
  refine lv_icmp_ne (tgt := 122) hx hb dd_Model_divided_110 (by decide) (fun hc => ?_) (fun hc => ?_)
  · have h := xp_f hc h
    refine lv_lload hx hb dd_Model_divided_122 (lv_at hl 2 rfl) ?_
    exact wj_Model_divided_124 htr C hne h hP hS (lv_sub hl [1, 0] rfl)
  · have h := xp_t hc h
    refine lv_lload hx hb dd_Model_divided_113 (lv_at hl 2 rfl) ?_
    refine lv_ldc2 (v := 4294967295) hx hb C.1.2.2.2.1 (C.1.2.2.2.2 _ (xk_c9 (w := Jvm.Cond.constantLong "ModuleHouseModel" 182 4294967295) 103 rfl rfl)) dd_Model_divided_115 ?_
    refine lv_land hx hb dd_Model_divided_118 ?_
    refine lv_goto (tgt := 124) hx hb dd_Model_divided_119 (by decide) ?_
    exact wj_Model_divided_124 htr C hne h hP hS (lv_sub hl [1, 0] rfl)
set_option maxHeartbeats 4000000 in
set_option maxRecDepth 100000 in
theorem wj_Model_divided_63 {p : Program} {l : Launch} {e : Env} {s : State} {m : MethodId} {args : Array Value} {below : List Frame} {meth : Method} {c : Code} {D : va_G} {ad : Nat → Nat} {ca : Nat → ClassId} {ads : List Nat} (htr : l.stackTraces = false) (C : xk_C D kx_cl (kx_ty ca) (kw_m ad ca) ads "ModuleHouseModel" prog_14_method_120_code 11 (some .long) p e s m args meth c) (hne : c.exceptionTable.isEmpty = true) {u' : xk_St} {r : Int64} {b1 : Int32} {b2 : Int64} {b4 : Int64} {b7 : Int32} {u : xk_St} {H : Heap} {locs : List Loc} {ls : Array Slot} (h : jb_Model_divided_63  b1 b2 b4 b7 u = some (r, u')) (hP : va_P D kx_cl (kw_m ad ca u) H) (hS : va_S (xk_A ads s.heap.size) s.heap H locs) (hl : lv_has ls 11 [(1, .int b1), (2, .long b2), (4, .long b4), (7, .int b7)]) : W p l e rm_Model_divided s m args below meth c H locs 0 0 (xk_MQ below (xk_Qc D kx_cl (kw_m ad ca) ads (xo_l (.inl r)) u') args s (xk_A ads s.heap.size)) (F0 m 63 ls []) := by
  have hx := C.1.1
  have hb := C.1.2.1
  have hok := C.2.2.1
  unfold jb_Model_divided_63 at h
  refine lv_iload hx hb dd_Model_divided_63 (lv_at hl 3 rfl) ?_
  refine lv_if_eq (tgt := 72) hx hb dd_Model_divided_65 (by decide) (fun hc => ?_) (fun hc => ?_)
  · have h := xp_t hc h
    refine lv_iload_n hx hb dd_Model_divided_72 rfl (lv_at hl 0 rfl) ?_
    refine lv_if_ne (tgt := 83) hx hb dd_Model_divided_73 (by decide) (fun hc => ?_) (fun hc => ?_)
    · have h := xp_f hc h
      refine lv_lload_n hx hb dd_Model_divided_83 rfl (lv_at hl 1 rfl) ?_
      refine lv_lload hx hb dd_Model_divided_84 (lv_at hl 2 rfl) ?_
      obtain ⟨hz, h⟩ := xp_g h
      refine lv_lrem hx hb dd_Model_divided_86 hz ?_
      obtain ⟨rfl, rfl⟩ := xp_r h
      exact xr_lret C hP hS dd_Model_divided_87
    · have h := xp_t hc h
      refine lv_lload_n hx hb dd_Model_divided_76 rfl (lv_at hl 1 rfl) ?_
      refine lv_lload hx hb dd_Model_divided_77 (lv_at hl 2 rfl) ?_
      obtain ⟨hz, h⟩ := xp_g h
      refine lv_ldiv hx hb dd_Model_divided_79 hz ?_
      refine lv_goto (tgt := 87) hx hb dd_Model_divided_80 (by decide) ?_
      obtain ⟨rfl, rfl⟩ := xp_r h
      exact xr_lret C hP hS dd_Model_divided_87
  · have h := xp_f hc h
    refine lv_lconst (v := 0) hx hb dd_Model_divided_68 (by decide) ?_
    refine lv_goto (tgt := 87) hx hb dd_Model_divided_69 (by decide) ?_
    obtain ⟨rfl, rfl⟩ := xp_r h
    exact xr_lret C hP hS dd_Model_divided_87
set_option maxHeartbeats 4000000 in
set_option maxRecDepth 100000 in
theorem wj_Model_divided_47 {p : Program} {l : Launch} {e : Env} {s : State} {m : MethodId} {args : Array Value} {below : List Frame} {meth : Method} {c : Code} {D : va_G} {ad : Nat → Nat} {ca : Nat → ClassId} {ads : List Nat} (htr : l.stackTraces = false) (C : xk_C D kx_cl (kx_ty ca) (kw_m ad ca) ads "ModuleHouseModel" prog_14_method_120_code 11 (some .long) p e s m args meth c) (hne : c.exceptionTable.isEmpty = true) {u' : xk_St} {r : Int64} {b1 : Int32} {b2 : Int64} {b4 : Int64} {s0 : Int32} {u : xk_St} {H : Heap} {locs : List Loc} {ls : Array Slot} (h : jb_Model_divided_47  b1 b2 b4 s0 u = some (r, u')) (hP : va_P D kx_cl (kw_m ad ca u) H) (hS : va_S (xk_A ads s.heap.size) s.heap H locs) (hl : lv_has ls 11 [(0, .ref (ad 0)), (1, .int b1), (2, .long b2), (4, .long b4)]) : W p l e rm_Model_divided s m args below meth c H locs 0 0 (xk_MQ below (xk_Qc D kx_cl (kw_m ad ca) ads (xo_l (.inl r)) u') args s (xk_A ads s.heap.size)) (F0 m 47 ls [.int s0]) := by
  have hx := C.1.1
  have hb := C.1.2.1
  have hok := C.2.2.1
  unfold jb_Model_divided_47 at h
  refine lv_istore (lv' := [(7, .int s0), (0, .ref (ad 0)), (1, .int b1), (2, .long b2), (4, .long b4)]) hx hb dd_Model_divided_47 hl (by decide) rfl (fun ls hl => ?_)
  refine lv_iload_n hx hb dd_Model_divided_49 rfl (lv_at hl 2 rfl) ?_
  refine lv_if_ne (tgt := 63) hx hb dd_Model_divided_50 (by decide) (fun hc => ?_) (fun hc => ?_)
  · have h := xp_f hc h
    exact wj_Model_divided_63 htr C hne h hP hS (lv_sub hl [2, 3, 4, 0] rfl)
  · have h := xp_t hc h
    refine lv_iload hx hb dd_Model_divided_53 (lv_at hl 0 rfl) ?_
    refine lv_if_eq (tgt := 63) hx hb dd_Model_divided_55 (by decide) (fun hc => ?_) (fun hc => ?_)
    · have h := xp_t hc h
      exact wj_Model_divided_63 htr C hne h hP hS (lv_sub hl [2, 3, 4, 0] rfl)
    · have h := xp_f hc h
      refine lv_aload_n hx hb dd_Model_divided_58 rfl (lv_at hl 1 rfl) ?_
      refine lv_iconst (v := 4) hx hb dd_Model_divided_59 (by decide) ?_
      refine pf_m_Model_0_trap C hP hS dd_Model_divided_60 (fun H locs hP hS => ?_)
      obtain ⟨u5, eu5, h⟩ := xp_let h
      rw [← eu5] at hP
      exact wj_Model_divided_63 htr C hne h hP hS (lv_sub hl [2, 3, 4, 0] rfl)
set_option maxHeartbeats 4000000 in
set_option maxRecDepth 100000 in
theorem wj_Model_divided_46 {p : Program} {l : Launch} {e : Env} {s : State} {m : MethodId} {args : Array Value} {below : List Frame} {meth : Method} {c : Code} {D : va_G} {ad : Nat → Nat} {ca : Nat → ClassId} {ads : List Nat} (htr : l.stackTraces = false) (C : xk_C D kx_cl (kx_ty ca) (kw_m ad ca) ads "ModuleHouseModel" prog_14_method_120_code 11 (some .long) p e s m args meth c) (hne : c.exceptionTable.isEmpty = true) {u' : xk_St} {r : Int64} {b1 : Int32} {b2 : Int64} {b4 : Int64} {u : xk_St} {H : Heap} {locs : List Loc} {ls : Array Slot} (h : jb_Model_divided_46  b1 b2 b4 u = some (r, u')) (hP : va_P D kx_cl (kw_m ad ca u) H) (hS : va_S (xk_A ads s.heap.size) s.heap H locs) (hl : lv_has ls 11 [(0, .ref (ad 0)), (1, .int b1), (2, .long b2), (4, .long b4)]) : W p l e rm_Model_divided s m args below meth c H locs 0 0 (xk_MQ below (xk_Qc D kx_cl (kw_m ad ca) ads (xo_l (.inl r)) u') args s (xk_A ads s.heap.size)) (F0 m 46 ls []) := by
  have hx := C.1.1
  have hb := C.1.2.1
  have hok := C.2.2.1
  unfold jb_Model_divided_46 at h
  refine lv_iconst (v := 0) hx hb dd_Model_divided_46 (by decide) ?_
  exact wj_Model_divided_47 htr C hne h hP hS (lv_sub hl [0, 1, 2, 3] rfl)
set_option maxHeartbeats 4000000 in
set_option maxRecDepth 100000 in
theorem ct_Model_divided {l : Launch} {D : va_G} {ad : Nat → Nat} {ca : Nat → ClassId} {ads : List Nat} (htr : l.stackTraces = false) (hok : xk_ok (kw_m ad ca) ads) {x0 : Int32} {x1 : Int64} {x2 : Int64} {x3 : Int32} {u u' : xk_St} {r : Int64} (h : fm_Model_divided x0 x1 x2 x3 u = some (r, u')) :
    ∀ sz, xk_Met l ⟨"ModuleHouseModel", "divided", "(IJJI)J"⟩ (Cond.code ⟨"ModuleHouseModel", "divided", "(IJJI)J"⟩ prog_14_method_120_code 11 (some .long) :: xk_gd) rm_Model_divided (xk_Pc D kx_cl (kx_ty ca) (kw_m ad ca) ads xk_F sz [.ref (ad 0), .int x0, .long x1, .long x2, .int x3] u) (xk_Qc D kx_cl (kw_m ad ca) ads (xo_l (.inl r)) u') (xk_A ads sz) := by
  unfold fm_Model_divided at h
  refine xk_con (by decide) htr hok (Nat.le_of_ble_eq_true rfl) (fun p e s m below meth c ls C hne hl hP => ?_)
  have hx := C.1.1
  have hb := C.1.2.1
  have hS : va_S (xk_A ads s.heap.size) s.heap s.heap [] := va_S.rf
  have hl : lv_has ls 11 [(0, .ref (ad 0)), (1, .int x0), (2, .long x1), (4, .long x2), (6, .int x3)] := hl
  refine lv_lload hx hb dd_Model_divided_0 (lv_at hl 3 rfl) ?_
  refine lv_lconst (v := 0) hx hb dd_Model_divided_2 (by decide) ?_
  refine xr_lc_ne (tgt := 14) hx hb dd_Model_divided_3 dd_Model_divided_4 (by decide) (fun hc => ?_) (fun hc => ?_)
  · have h := xp_f hc h
    refine lv_iload_n hx hb dd_Model_divided_14 rfl (lv_at hl 1 rfl) ?_
    refine lv_iconst (v := 2) hx hb dd_Model_divided_15 (by decide) ?_
    obtain ⟨hz, h⟩ := xp_g h
    refine lv_irem hx hb dd_Model_divided_16 hz ?_
    refine lv_if_ne (tgt := 88) hx hb dd_Model_divided_17 (by decide) (fun hc => ?_) (fun hc => ?_)
    · have h := xp_f hc h
      refine lv_iload hx hb dd_Model_divided_88 (lv_at hl 4 rfl) ?_
      refine lv_bipush (v := 32) hx hb dd_Model_divided_90 (by decide) ?_
      refine lv_icmp_ne (tgt := 103) hx hb dd_Model_divided_92 (by decide) (fun hc => ?_) (fun hc => ?_)
      · have h := xp_f hc h
        refine lv_lload_n hx hb dd_Model_divided_103 rfl (lv_at hl 2 rfl) ?_
        exact wj_Model_divided_104 htr C hne h hP hS (lv_sub hl [1, 3, 4] rfl)
      · have h := xp_t hc h
        refine lv_lload_n hx hb dd_Model_divided_95 rfl (lv_at hl 2 rfl) ?_
        refine lv_ldc2 (v := 4294967295) hx hb C.1.2.2.2.1 (C.1.2.2.2.2 _ (xk_c9 (w := Jvm.Cond.constantLong "ModuleHouseModel" 182 4294967295) 103 rfl rfl)) dd_Model_divided_96 ?_
        refine lv_land hx hb dd_Model_divided_99 ?_
        refine lv_goto (tgt := 104) hx hb dd_Model_divided_100 (by decide) ?_
        exact wj_Model_divided_104 htr C hne h hP hS (lv_sub hl [1, 3, 4] rfl)
    · have h := xp_t hc h
      refine lv_lload hx hb dd_Model_divided_20 (lv_at hl 3 rfl) ?_
      refine lv_ldc2 (v := (-1)) hx hb C.1.2.2.2.1 (C.1.2.2.2.2 _ (xk_c9 (w := Jvm.Cond.constantLong "ModuleHouseModel" 184 (-1)) 138 rfl rfl)) dd_Model_divided_22 ?_
      refine xr_lc_ne (tgt := 46) hx hb dd_Model_divided_25 dd_Model_divided_26 (by decide) (fun hc => ?_) (fun hc => ?_)
      · have h := xp_f hc h
        exact wj_Model_divided_46 htr C hne h hP hS (lv_sub hl [0, 1, 2, 3] rfl)
      · have h := xp_t hc h
        refine lv_lload_n hx hb dd_Model_divided_29 rfl (lv_at hl 2 rfl) ?_
        refine lv_ldc2 (v := (-1)) hx hb C.1.2.2.2.1 (C.1.2.2.2.2 _ (xk_c9 (w := Jvm.Cond.constantLong "ModuleHouseModel" 184 (-1)) 138 rfl rfl)) dd_Model_divided_30 ?_
        refine lv_iload hx hb dd_Model_divided_33 (lv_at hl 4 rfl) ?_
        refine lv_iconst (v := 1) hx hb dd_Model_divided_35 (by decide) ?_
        refine lv_isub hx hb dd_Model_divided_36 ?_
        refine lv_lshl hx hb dd_Model_divided_37 rfl ?_
        refine xr_lc_ne (tgt := 46) hx hb dd_Model_divided_38 dd_Model_divided_39 (by decide) (fun hc => ?_) (fun hc => ?_)
        · have h := xp_f hc h
          exact wj_Model_divided_46 htr C hne h hP hS (lv_sub hl [0, 1, 2, 3] rfl)
        · have h := xp_t hc h
          refine lv_iconst (v := 1) hx hb dd_Model_divided_42 (by decide) ?_
          refine lv_goto (tgt := 47) hx hb dd_Model_divided_43 (by decide) ?_
          exact wj_Model_divided_47 htr C hne h hP hS (lv_sub hl [0, 1, 2, 3] rfl)
  · have h := xp_t hc h
    refine lv_aload_n hx hb dd_Model_divided_7 rfl (lv_at hl 0 rfl) ?_
    refine lv_iconst (v := 3) hx hb dd_Model_divided_8 (by decide) ?_
    refine pf_m_Model_0_trap C hP hS dd_Model_divided_9 (fun H locs hP hS => ?_)
    obtain ⟨u6, eu6, h⟩ := xp_let h
    rw [← eu6] at hP
    refine lv_lconst (v := 0) hx hb dd_Model_divided_12 (by decide) ?_
    obtain ⟨rfl, rfl⟩ := xp_r h
    exact xr_lret C hP hS dd_Model_divided_13
abbrev rm_Model_moved : Room := { frames := 1, cells := 1, slots := 6, locals := 0 }
noncomputable def jb_Model_moved_25 (b0 : Int32) (b1 : Int64) (b5 : Int32) (b6 : Int32) (s0 : Int64) (u : xk_St) : Option (Int64 × xk_St) :=
  (xs_let ((b5 - b6) &&& (b5 - (1 : Int32))) fun a2 => if b0 = (0 : Int32) then (some ((b1 <<< (b6.toInt64 &&& 63)), u)) else if b0 = (1 : Int32) then (some ((b1 >>> (b6.toInt64 &&& 63)), u)) else if b0 = (2 : Int32) then (some (((s0.toUInt64 >>> (b6.toInt64.toUInt64 &&& Int64.toUInt64 63)).toInt64), u)) else if b0 = (3 : Int32) then (if b6 = (0 : Int32) then (some (b1, u)) else (some (((s0 <<< (b6.toInt64 &&& 63)) ||| ((s0.toUInt64 >>> (a2.toInt64.toUInt64 &&& Int64.toUInt64 63)).toInt64)), u))) else (if b6 = (0 : Int32) then (some (b1, u)) else (some ((((s0.toUInt64 >>> (b6.toInt64.toUInt64 &&& Int64.toUInt64 63)).toInt64) ||| (s0 <<< (a2.toInt64 &&& 63))), u))))
noncomputable def fm_Model_moved (x0 : Int32) (x1 : Int64) (x2 : Int64) (x3 : Int32) (u : xk_St) : Option (Int64 × xk_St) :=
  (xs_let ((x2.toInt32) &&& (x3 - (1 : Int32))) fun a1 => if x3 = (32 : Int32) then (jb_Model_moved_25 x0 x1 x3 a1 (x1 &&& (4294967295 : Int64)) u) else (jb_Model_moved_25 x0 x1 x3 a1 x1 u))
set_option maxHeartbeats 4000000 in
set_option maxRecDepth 100000 in
theorem wj_Model_moved_25 {p : Program} {l : Launch} {e : Env} {s : State} {m : MethodId} {args : Array Value} {below : List Frame} {meth : Method} {c : Code} {D : va_G} {ad : Nat → Nat} {ca : Nat → ClassId} {ads : List Nat} (htr : l.stackTraces = false) (C : xk_C D kx_cl (kx_ty ca) (kw_m ad ca) ads "ModuleHouseModel" prog_14_method_121_code 10 (some .long) p e s m args meth c) (hne : c.exceptionTable.isEmpty = true) {u' : xk_St} {r : Int64} {b0 : Int32} {b1 : Int64} {b5 : Int32} {b6 : Int32} {s0 : Int64} {u : xk_St} {H : Heap} {locs : List Loc} {ls : Array Slot} (h : jb_Model_moved_25  b0 b1 b5 b6 s0 u = some (r, u')) (hP : va_P D kx_cl (kw_m ad ca u) H) (hS : va_S (xk_A ads s.heap.size) s.heap H locs) (hl : lv_has ls 10 [(0, .int b0), (1, .long b1), (5, .int b5), (6, .int b6)]) : W p l e rm_Model_moved s m args below meth c H locs 0 0 (xk_MQ below (xk_Qc D kx_cl (kw_m ad ca) ads (xo_l (.inl r)) u') args s (xk_A ads s.heap.size)) (F0 m 25 ls [.long s0]) := by
  have hx := C.1.1
  have hb := C.1.2.1
  have hok := C.2.2.1
  unfold jb_Model_moved_25 at h
  refine lv_lstore (lv' := [(7, .long s0), (0, .int b0), (1, .long b1), (5, .int b5), (6, .int b6)]) hx hb dd_Model_moved_25 hl (by decide) rfl (fun ls hl => ?_)
  refine lv_iload hx hb dd_Model_moved_27 (lv_at hl 3 rfl) ?_
  refine lv_iload hx hb dd_Model_moved_29 (lv_at hl 4 rfl) ?_
  refine lv_isub hx hb dd_Model_moved_31 ?_
  refine lv_iload hx hb dd_Model_moved_32 (lv_at hl 3 rfl) ?_
  refine lv_iconst (v := 1) hx hb dd_Model_moved_34 (by decide) ?_
  refine lv_isub hx hb dd_Model_moved_35 ?_
  refine lv_iand hx hb dd_Model_moved_36 ?_
  obtain ⟨a2, ea2, h⟩ := xp_let h
  refine xr_nami ea2 ?_
  refine lv_istore (lv' := [(9, .int a2), (7, .long s0), (0, .int b0), (1, .long b1), (5, .int b5), (6, .int b6)]) hx hb dd_Model_moved_37 hl (by decide) rfl (fun ls hl => ?_)
  refine lv_iload_n hx hb dd_Model_moved_39 rfl (lv_at hl 2 rfl) ?_
  by_cases hc0 : b0 = (0 : Int32)
  · have h := xp_t hc0 h
    refine lv_tableIn (off := 32) (tgt := 72) hx hb dd_Model_moved_40 (by rw [hc0]; decide) (by rw [hc0]; decide) (by rw [hc0]; rfl) (by decide) ?_
    refine lv_lload_n hx hb dd_Model_moved_72 rfl (lv_at hl 3 rfl) ?_
    refine lv_iload hx hb dd_Model_moved_73 (lv_at hl 5 rfl) ?_
    refine lv_lshl hx hb dd_Model_moved_75 rfl ?_
    obtain ⟨rfl, rfl⟩ := xp_r h
    exact xr_lret C hP hS dd_Model_moved_76
  have h := xp_f hc0 h
  by_cases hc1 : b0 = (1 : Int32)
  · have h := xp_t hc1 h
    refine lv_tableIn (off := 37) (tgt := 77) hx hb dd_Model_moved_40 (by rw [hc1]; decide) (by rw [hc1]; decide) (by rw [hc1]; rfl) (by decide) ?_
    refine lv_lload_n hx hb dd_Model_moved_77 rfl (lv_at hl 3 rfl) ?_
    refine lv_iload hx hb dd_Model_moved_78 (lv_at hl 5 rfl) ?_
    refine lv_lshr hx hb dd_Model_moved_80 rfl ?_
    obtain ⟨rfl, rfl⟩ := xp_r h
    exact xr_lret C hP hS dd_Model_moved_81
  have h := xp_f hc1 h
  by_cases hc2 : b0 = (2 : Int32)
  · have h := xp_t hc2 h
    refine lv_tableIn (off := 42) (tgt := 82) hx hb dd_Model_moved_40 (by rw [hc2]; decide) (by rw [hc2]; decide) (by rw [hc2]; rfl) (by decide) ?_
    refine lv_lload hx hb dd_Model_moved_82 (lv_at hl 1 rfl) ?_
    refine lv_iload hx hb dd_Model_moved_84 (lv_at hl 5 rfl) ?_
    refine lv_lushr hx hb dd_Model_moved_86 rfl ?_
    obtain ⟨rfl, rfl⟩ := xp_r h
    exact xr_lret C hP hS dd_Model_moved_87
  have h := xp_f hc2 h
  by_cases hc3 : b0 = (3 : Int32)
  · have h := xp_t hc3 h
    refine lv_tableIn (off := 48) (tgt := 88) hx hb dd_Model_moved_40 (by rw [hc3]; decide) (by rw [hc3]; decide) (by rw [hc3]; rfl) (by decide) ?_
    refine lv_iload hx hb dd_Model_moved_88 (lv_at hl 5 rfl) ?_
    refine lv_if_ne (tgt := 97) hx hb dd_Model_moved_90 (by decide) (fun hc => ?_) (fun hc => ?_)
    · have h := xp_f hc h
      refine lv_lload hx hb dd_Model_moved_97 (lv_at hl 1 rfl) ?_
      refine lv_iload hx hb dd_Model_moved_99 (lv_at hl 5 rfl) ?_
      refine lv_lshl hx hb dd_Model_moved_101 rfl ?_
      refine lv_lload hx hb dd_Model_moved_102 (lv_at hl 1 rfl) ?_
      refine lv_iload hx hb dd_Model_moved_104 (lv_at hl 0 rfl) ?_
      refine lv_lushr hx hb dd_Model_moved_106 rfl ?_
      refine lv_lor hx hb dd_Model_moved_107 ?_
      obtain ⟨rfl, rfl⟩ := xp_r h
      exact xr_lret C hP hS dd_Model_moved_108
    · have h := xp_t hc h
      refine lv_lload_n hx hb dd_Model_moved_93 rfl (lv_at hl 3 rfl) ?_
      refine lv_goto (tgt := 108) hx hb dd_Model_moved_94 (by decide) ?_
      obtain ⟨rfl, rfl⟩ := xp_r h
      exact xr_lret C hP hS dd_Model_moved_108
  have h := xp_f hc3 h
  have hd0 := lv_neT hc0 (a := 0) (by decide)
  have hd1 := lv_neT hc1 (a := 1) (by decide)
  have hd2 := lv_neT hc2 (a := 2) (by decide)
  have hd3 := lv_neT hc3 (a := 3) (by decide)
  refine lv_tableOut (tgt := 109) hx hb dd_Model_moved_40 (by omega) (by decide) ?_
  refine lv_iload hx hb dd_Model_moved_109 (lv_at hl 5 rfl) ?_
  refine lv_if_ne (tgt := 118) hx hb dd_Model_moved_111 (by decide) (fun hc => ?_) (fun hc => ?_)
  · have h := xp_f hc h
    refine lv_lload hx hb dd_Model_moved_118 (lv_at hl 1 rfl) ?_
    refine lv_iload hx hb dd_Model_moved_120 (lv_at hl 5 rfl) ?_
    refine lv_lushr hx hb dd_Model_moved_122 rfl ?_
    refine lv_lload hx hb dd_Model_moved_123 (lv_at hl 1 rfl) ?_
    refine lv_iload hx hb dd_Model_moved_125 (lv_at hl 0 rfl) ?_
    refine lv_lshl hx hb dd_Model_moved_127 rfl ?_
    refine lv_lor hx hb dd_Model_moved_128 ?_
    obtain ⟨rfl, rfl⟩ := xp_r h
    exact xr_lret C hP hS dd_Model_moved_129
  · have h := xp_t hc h
    refine lv_lload_n hx hb dd_Model_moved_114 rfl (lv_at hl 3 rfl) ?_
    refine lv_goto (tgt := 129) hx hb dd_Model_moved_115 (by decide) ?_
    obtain ⟨rfl, rfl⟩ := xp_r h
    exact xr_lret C hP hS dd_Model_moved_129
set_option maxHeartbeats 4000000 in
set_option maxRecDepth 100000 in
theorem ct_Model_moved {l : Launch} {D : va_G} {ad : Nat → Nat} {ca : Nat → ClassId} {ads : List Nat} (htr : l.stackTraces = false) (hok : xk_ok (kw_m ad ca) ads) {x0 : Int32} {x1 : Int64} {x2 : Int64} {x3 : Int32} {u u' : xk_St} {r : Int64} (h : fm_Model_moved x0 x1 x2 x3 u = some (r, u')) :
    ∀ sz, xk_Met l ⟨"ModuleHouseModel", "moved", "(IJJI)J"⟩ (Cond.code ⟨"ModuleHouseModel", "moved", "(IJJI)J"⟩ prog_14_method_121_code 10 (some .long) :: xk_gd) rm_Model_moved (xk_Pc D kx_cl (kx_ty ca) (kw_m ad ca) ads xk_F sz [.int x0, .long x1, .long x2, .int x3] u) (xk_Qc D kx_cl (kw_m ad ca) ads (xo_l (.inl r)) u') (xk_A ads sz) := by
  unfold fm_Model_moved at h
  refine xk_con (by decide) htr hok (Nat.le_of_ble_eq_true rfl) (fun p e s m below meth c ls C hne hl hP => ?_)
  have hx := C.1.1
  have hb := C.1.2.1
  have hS : va_S (xk_A ads s.heap.size) s.heap s.heap [] := va_S.rf
  have hl : lv_has ls 10 [(0, .int x0), (1, .long x1), (3, .long x2), (5, .int x3)] := hl
  refine lv_lload_n hx hb dd_Model_moved_0 rfl (lv_at hl 2 rfl) ?_
  refine lv_l2i hx hb dd_Model_moved_1 rfl ?_
  refine lv_iload hx hb dd_Model_moved_2 (lv_at hl 3 rfl) ?_
  refine lv_iconst (v := 1) hx hb dd_Model_moved_4 (by decide) ?_
  refine lv_isub hx hb dd_Model_moved_5 ?_
  refine lv_iand hx hb dd_Model_moved_6 ?_
  obtain ⟨a1, ea1, h⟩ := xp_let h
  refine xr_nami ea1 ?_
  refine lv_istore (lv' := [(6, .int a1), (0, .int x0), (1, .long x1), (3, .long x2), (5, .int x3)]) hx hb dd_Model_moved_7 hl (by decide) rfl (fun ls hl => ?_)
  refine lv_iload hx hb dd_Model_moved_9 (lv_at hl 4 rfl) ?_
  refine lv_bipush (v := 32) hx hb dd_Model_moved_11 (by decide) ?_
  refine lv_icmp_ne (tgt := 24) hx hb dd_Model_moved_13 (by decide) (fun hc => ?_) (fun hc => ?_)
  · have h := xp_f hc h
    refine lv_lload_n hx hb dd_Model_moved_24 rfl (lv_at hl 2 rfl) ?_
    exact wj_Model_moved_25 htr C hne h hP hS (lv_sub hl [1, 2, 4, 0] rfl)
  · have h := xp_t hc h
    refine lv_lload_n hx hb dd_Model_moved_16 rfl (lv_at hl 2 rfl) ?_
    refine lv_ldc2 (v := 4294967295) hx hb C.1.2.2.2.1 (C.1.2.2.2.2 _ (xk_c9 (w := Jvm.Cond.constantLong "ModuleHouseModel" 182 4294967295) 103 rfl rfl)) dd_Model_moved_17 ?_
    refine lv_land hx hb dd_Model_moved_20 ?_
    refine lv_goto (tgt := 25) hx hb dd_Model_moved_21 (by decide) ?_
    exact wj_Model_moved_25 htr C hne h hP hS (lv_sub hl [1, 2, 4, 0] rfl)
abbrev rm_Model_reckoned : Room := { frames := 3, cells := 1, slots := 6, locals := 57 }
noncomputable def jb_Model_reckoned_71 (b1 : Int32) (b2 : Int64) (b4 : Int64) (b6 : Int32) (u : xk_St) : Option (Int64 × xk_St) :=
  (xs_seq (fm_Model_divided (b1 - (6 : Int32)) b2 b4 b6 u) fun a1 u2 => some (a1, u2))
noncomputable def fm_Model_reckoned (x0 : Int32) (x1 : Int64) (x2 : Int64) (x3 : Int32) (u : xk_St) : Option (Int64 × xk_St) :=
  if x0 = (3 : Int32) then (some ((x1 + x2), u)) else if x0 = (4 : Int32) then (some ((x1 - x2), u)) else if x0 = (5 : Int32) then (some ((x1 * x2), u)) else if x0 = (6 : Int32) then (jb_Model_reckoned_71 x0 x1 x2 x3 u) else if x0 = (7 : Int32) then (jb_Model_reckoned_71 x0 x1 x2 x3 u) else if x0 = (8 : Int32) then (jb_Model_reckoned_71 x0 x1 x2 x3 u) else if x0 = (9 : Int32) then (jb_Model_reckoned_71 x0 x1 x2 x3 u) else if x0 = (10 : Int32) then (some ((x1 &&& x2), u)) else if x0 = (11 : Int32) then (some ((x1 ||| x2), u)) else if x0 = (12 : Int32) then (some ((x1 ^^^ x2), u)) else ((xs_seq (fm_Model_moved (x0 - (13 : Int32)) x1 x2 x3 u) fun a3 u4 => some (a3, u4)))
set_option maxHeartbeats 4000000 in
set_option maxRecDepth 100000 in
theorem wj_Model_reckoned_71 {p : Program} {l : Launch} {e : Env} {s : State} {m : MethodId} {args : Array Value} {below : List Frame} {meth : Method} {c : Code} {D : va_G} {ad : Nat → Nat} {ca : Nat → ClassId} {ads : List Nat} (htr : l.stackTraces = false) (C : xk_C D kx_cl (kx_ty ca) (kw_m ad ca) ads "ModuleHouseModel" prog_14_method_122_code 7 (some .long) p e s m args meth c) (hne : c.exceptionTable.isEmpty = true) {u' : xk_St} {r : Int64} {b1 : Int32} {b2 : Int64} {b4 : Int64} {b6 : Int32} {u : xk_St} {H : Heap} {locs : List Loc} {ls : Array Slot} (h : jb_Model_reckoned_71  b1 b2 b4 b6 u = some (r, u')) (hP : va_P D kx_cl (kw_m ad ca u) H) (hS : va_S (xk_A ads s.heap.size) s.heap H locs) (hl : lv_has ls 7 [(0, .ref (ad 0)), (1, .int b1), (2, .long b2), (4, .long b4), (6, .int b6)]) : W p l e rm_Model_reckoned s m args below meth c H locs 0 0 (xk_MQ below (xk_Qc D kx_cl (kw_m ad ca) ads (xo_l (.inl r)) u') args s (xk_A ads s.heap.size)) (F0 m 71 ls []) := by
  have hx := C.1.1
  have hb := C.1.2.1
  have hok := C.2.2.1
  unfold jb_Model_reckoned_71 at h
  refine lv_aload_n hx hb dd_Model_reckoned_71 rfl (lv_at hl 0 rfl) ?_
  refine lv_iload_n hx hb dd_Model_reckoned_72 rfl (lv_at hl 1 rfl) ?_
  refine lv_bipush (v := 6) hx hb dd_Model_reckoned_73 (by decide) ?_
  refine lv_isub hx hb dd_Model_reckoned_75 ?_
  refine lv_lload_n hx hb dd_Model_reckoned_76 rfl (lv_at hl 2 rfl) ?_
  refine lv_lload hx hb dd_Model_reckoned_77 (lv_at hl 3 rfl) ?_
  refine lv_iload hx hb dd_Model_reckoned_79 (lv_at hl 4 rfl) ?_
  obtain ⟨a1, u2, hq, h⟩ := xp_seq h
  refine xk_goesL (xr_V (As := [.int (b1 - (6 : Int32)), .long b2, .long b4, .int b6]) (rest := []) C hP hS (ct_Model_divided htr hok hq) kq_Model_759 0 11 rfl rfl ⟨rfl, rfl, Nat.le_of_ble_eq_true rfl, Nat.le_of_ble_eq_true rfl⟩ ⟨Nat.le_of_ble_eq_true rfl, Nat.le_of_ble_eq_true rfl⟩ hl.1 rfl rfl (Nat.le_of_ble_eq_true rfl) dd_Model_reckoned_81) hS (fun H locs hP hS => ?_)
  clear hq
  obtain ⟨rfl, rfl⟩ := xp_r h
  exact xr_lret C hP hS dd_Model_reckoned_84
set_option maxHeartbeats 4000000 in
set_option maxRecDepth 100000 in
theorem ct_Model_reckoned {l : Launch} {D : va_G} {ad : Nat → Nat} {ca : Nat → ClassId} {ads : List Nat} (htr : l.stackTraces = false) (hok : xk_ok (kw_m ad ca) ads) {x0 : Int32} {x1 : Int64} {x2 : Int64} {x3 : Int32} {u u' : xk_St} {r : Int64} (h : fm_Model_reckoned x0 x1 x2 x3 u = some (r, u')) :
    ∀ sz, xk_Met l ⟨"ModuleHouseModel", "reckoned", "(IJJI)J"⟩ (Cond.code ⟨"ModuleHouseModel", "reckoned", "(IJJI)J"⟩ prog_14_method_122_code 7 (some .long) :: xk_gd) rm_Model_reckoned (xk_Pc D kx_cl (kx_ty ca) (kw_m ad ca) ads xk_F sz [.ref (ad 0), .int x0, .long x1, .long x2, .int x3] u) (xk_Qc D kx_cl (kw_m ad ca) ads (xo_l (.inl r)) u') (xk_A ads sz) := by
  unfold fm_Model_reckoned at h
  refine xk_con (by decide) htr hok (Nat.le_of_ble_eq_true rfl) (fun p e s m below meth c ls C hne hl hP => ?_)
  have hx := C.1.1
  have hb := C.1.2.1
  have hS : va_S (xk_A ads s.heap.size) s.heap s.heap [] := va_S.rf
  have hl : lv_has ls 7 [(0, .ref (ad 0)), (1, .int x0), (2, .long x1), (4, .long x2), (6, .int x3)] := hl
  refine lv_iload_n hx hb dd_Model_reckoned_0 rfl (lv_at hl 1 rfl) ?_
  by_cases hc0 : x0 = (3 : Int32)
  · have h := xp_t hc0 h
    refine lv_tableIn (off := 55) (tgt := 56) hx hb dd_Model_reckoned_1 (by rw [hc0]; decide) (by rw [hc0]; decide) (by rw [hc0]; rfl) (by decide) ?_
    refine lv_lload_n hx hb dd_Model_reckoned_56 rfl (lv_at hl 2 rfl) ?_
    refine lv_lload hx hb dd_Model_reckoned_57 (lv_at hl 3 rfl) ?_
    refine lv_ladd hx hb dd_Model_reckoned_59 ?_
    obtain ⟨rfl, rfl⟩ := xp_r h
    exact xr_lret C hP hS dd_Model_reckoned_60
  have h := xp_f hc0 h
  by_cases hc1 : x0 = (4 : Int32)
  · have h := xp_t hc1 h
    refine lv_tableIn (off := 60) (tgt := 61) hx hb dd_Model_reckoned_1 (by rw [hc1]; decide) (by rw [hc1]; decide) (by rw [hc1]; rfl) (by decide) ?_
    refine lv_lload_n hx hb dd_Model_reckoned_61 rfl (lv_at hl 2 rfl) ?_
    refine lv_lload hx hb dd_Model_reckoned_62 (lv_at hl 3 rfl) ?_
    refine lv_lsub hx hb dd_Model_reckoned_64 ?_
    obtain ⟨rfl, rfl⟩ := xp_r h
    exact xr_lret C hP hS dd_Model_reckoned_65
  have h := xp_f hc1 h
  by_cases hc2 : x0 = (5 : Int32)
  · have h := xp_t hc2 h
    refine lv_tableIn (off := 65) (tgt := 66) hx hb dd_Model_reckoned_1 (by rw [hc2]; decide) (by rw [hc2]; decide) (by rw [hc2]; rfl) (by decide) ?_
    refine lv_lload_n hx hb dd_Model_reckoned_66 rfl (lv_at hl 2 rfl) ?_
    refine lv_lload hx hb dd_Model_reckoned_67 (lv_at hl 3 rfl) ?_
    refine lv_lmul hx hb dd_Model_reckoned_69 ?_
    obtain ⟨rfl, rfl⟩ := xp_r h
    exact xr_lret C hP hS dd_Model_reckoned_70
  have h := xp_f hc2 h
  by_cases hc3 : x0 = (6 : Int32)
  · have h := xp_t hc3 h
    refine lv_tableIn (off := 70) (tgt := 71) hx hb dd_Model_reckoned_1 (by rw [hc3]; decide) (by rw [hc3]; decide) (by rw [hc3]; rfl) (by decide) ?_
    exact wj_Model_reckoned_71 htr C hne h hP hS (lv_sub hl [0, 1, 2, 3, 4] rfl)
  have h := xp_f hc3 h
  by_cases hc4 : x0 = (7 : Int32)
  · have h := xp_t hc4 h
    refine lv_tableIn (off := 70) (tgt := 71) hx hb dd_Model_reckoned_1 (by rw [hc4]; decide) (by rw [hc4]; decide) (by rw [hc4]; rfl) (by decide) ?_
    exact wj_Model_reckoned_71 htr C hne h hP hS (lv_sub hl [0, 1, 2, 3, 4] rfl)
  have h := xp_f hc4 h
  by_cases hc5 : x0 = (8 : Int32)
  · have h := xp_t hc5 h
    refine lv_tableIn (off := 70) (tgt := 71) hx hb dd_Model_reckoned_1 (by rw [hc5]; decide) (by rw [hc5]; decide) (by rw [hc5]; rfl) (by decide) ?_
    exact wj_Model_reckoned_71 htr C hne h hP hS (lv_sub hl [0, 1, 2, 3, 4] rfl)
  have h := xp_f hc5 h
  by_cases hc6 : x0 = (9 : Int32)
  · have h := xp_t hc6 h
    refine lv_tableIn (off := 70) (tgt := 71) hx hb dd_Model_reckoned_1 (by rw [hc6]; decide) (by rw [hc6]; decide) (by rw [hc6]; rfl) (by decide) ?_
    exact wj_Model_reckoned_71 htr C hne h hP hS (lv_sub hl [0, 1, 2, 3, 4] rfl)
  have h := xp_f hc6 h
  by_cases hc7 : x0 = (10 : Int32)
  · have h := xp_t hc7 h
    refine lv_tableIn (off := 84) (tgt := 85) hx hb dd_Model_reckoned_1 (by rw [hc7]; decide) (by rw [hc7]; decide) (by rw [hc7]; rfl) (by decide) ?_
    refine lv_lload_n hx hb dd_Model_reckoned_85 rfl (lv_at hl 2 rfl) ?_
    refine lv_lload hx hb dd_Model_reckoned_86 (lv_at hl 3 rfl) ?_
    refine lv_land hx hb dd_Model_reckoned_88 ?_
    obtain ⟨rfl, rfl⟩ := xp_r h
    exact xr_lret C hP hS dd_Model_reckoned_89
  have h := xp_f hc7 h
  by_cases hc8 : x0 = (11 : Int32)
  · have h := xp_t hc8 h
    refine lv_tableIn (off := 89) (tgt := 90) hx hb dd_Model_reckoned_1 (by rw [hc8]; decide) (by rw [hc8]; decide) (by rw [hc8]; rfl) (by decide) ?_
    refine lv_lload_n hx hb dd_Model_reckoned_90 rfl (lv_at hl 2 rfl) ?_
    refine lv_lload hx hb dd_Model_reckoned_91 (lv_at hl 3 rfl) ?_
    refine lv_lor hx hb dd_Model_reckoned_93 ?_
    obtain ⟨rfl, rfl⟩ := xp_r h
    exact xr_lret C hP hS dd_Model_reckoned_94
  have h := xp_f hc8 h
  by_cases hc9 : x0 = (12 : Int32)
  · have h := xp_t hc9 h
    refine lv_tableIn (off := 94) (tgt := 95) hx hb dd_Model_reckoned_1 (by rw [hc9]; decide) (by rw [hc9]; decide) (by rw [hc9]; rfl) (by decide) ?_
    refine lv_lload_n hx hb dd_Model_reckoned_95 rfl (lv_at hl 2 rfl) ?_
    refine lv_lload hx hb dd_Model_reckoned_96 (lv_at hl 3 rfl) ?_
    refine lv_lxor hx hb dd_Model_reckoned_98 ?_
    obtain ⟨rfl, rfl⟩ := xp_r h
    exact xr_lret C hP hS dd_Model_reckoned_99
  have h := xp_f hc9 h
  have hd0 := lv_neT hc0 (a := 3) (by decide)
  have hd1 := lv_neT hc1 (a := 4) (by decide)
  have hd2 := lv_neT hc2 (a := 5) (by decide)
  have hd3 := lv_neT hc3 (a := 6) (by decide)
  have hd4 := lv_neT hc4 (a := 7) (by decide)
  have hd5 := lv_neT hc5 (a := 8) (by decide)
  have hd6 := lv_neT hc6 (a := 9) (by decide)
  have hd7 := lv_neT hc7 (a := 10) (by decide)
  have hd8 := lv_neT hc8 (a := 11) (by decide)
  have hd9 := lv_neT hc9 (a := 12) (by decide)
  refine lv_tableOut (tgt := 100) hx hb dd_Model_reckoned_1 (by omega) (by decide) ?_
  refine lv_iload_n hx hb dd_Model_reckoned_100 rfl (lv_at hl 1 rfl) ?_
  refine lv_bipush (v := 13) hx hb dd_Model_reckoned_101 (by decide) ?_
  refine lv_isub hx hb dd_Model_reckoned_103 ?_
  refine lv_lload_n hx hb dd_Model_reckoned_104 rfl (lv_at hl 2 rfl) ?_
  refine lv_lload hx hb dd_Model_reckoned_105 (lv_at hl 3 rfl) ?_
  refine lv_iload hx hb dd_Model_reckoned_107 (lv_at hl 4 rfl) ?_
  obtain ⟨a3, u4, hq, h⟩ := xp_seq h
  refine xk_goesL (xr_S (As := [.int (x0 - (13 : Int32)), .long x1, .long x2, .int x3]) (rest := []) C hP hS (ct_Model_moved htr hok hq) kq_Model_763 ⟨rfl, rfl, Nat.le_of_ble_eq_true rfl, Nat.le_of_ble_eq_true rfl⟩ ⟨Nat.le_of_ble_eq_true rfl, Nat.le_of_ble_eq_true rfl⟩ hl.1 rfl rfl (Nat.le_of_ble_eq_true rfl) dd_Model_reckoned_109) hS (fun H locs hP hS => ?_)
  clear hq
  obtain ⟨rfl, rfl⟩ := xp_r h
  exact xr_lret C hP hS dd_Model_reckoned_112
abbrev rm_Model_counted : Room := { frames := 1, cells := 1, slots := 6, locals := 0 }
noncomputable def jb_Model_counted_66 (fu : Nat) : Nat → Int32 → Int64 → Int32 → Int32 → xk_St → Option (Int64 × xk_St)
  | 0 => fun _ _ _ _ _ => none
  | n + 1 => fun b0 b1 b3 b4 u =>
    xs_let (jb_Model_counted_66 fu  n) fun k66 =>
    if b0 = (1 : Int32) then (if b3 ≤ b4 then (some ((b4.toInt64), u)) else (if ((b1 >>> (b4.toInt64 &&& 63)) &&& (1 : Int64)) = (0 : Int64) then ((xs_let (b4 + (1 : Int32)) fun a1 => k66 b0 b1 b3 a1 u)) else (some ((b4.toInt64), u)))) else (some ((b4.toInt64), u))
noncomputable def jb_Model_counted_35 (fu : Nat) : Nat → Int32 → Int64 → Int32 → Int32 → xk_St → Option (Int64 × xk_St)
  | 0 => fun _ _ _ _ _ => none
  | n + 1 => fun b0 b1 b3 b4 u =>
    xs_let (jb_Model_counted_35 fu  n) fun k35 =>
    if b0 = (0 : Int32) then (if b3 ≤ b4 then (jb_Model_counted_66 fu fu b0 b1 b3 b4 u) else (if ((b1 >>> (((b3 - (1 : Int32)) - b4).toInt64 &&& 63)) &&& (1 : Int64)) = (0 : Int64) then ((xs_let (b4 + (1 : Int32)) fun a2 => k35 b0 b1 b3 a2 u)) else (jb_Model_counted_66 fu fu b0 b1 b3 b4 u))) else (jb_Model_counted_66 fu fu b0 b1 b3 b4 u)
noncomputable def jb_Model_counted_6 (fu : Nat) : Nat → Int32 → Int64 → Int32 → Int32 → Int32 → xk_St → Option (Int64 × xk_St)
  | 0 => fun _ _ _ _ _ _ => none
  | n + 1 => fun b0 b1 b3 b4 b5 u =>
    xs_let (jb_Model_counted_6 fu  n) fun k6 =>
    if b3 ≤ b5 then (jb_Model_counted_35 fu fu b0 b1 b3 b4 u) else (if b0 = (2 : Int32) then ((xs_let (b4 + (((b1 >>> (b5.toInt64 &&& 63)) &&& (1 : Int64)).toInt32)) fun a3 => xs_let (b5 + (1 : Int32)) fun a4 => k6 b0 b1 b3 a3 a4 u)) else (jb_Model_counted_35 fu fu b0 b1 b3 b4 u))
noncomputable def fm_Model_counted (fu : Nat) (x0 : Int32) (x1 : Int64) (x2 : Int32) (u : xk_St) : Option (Int64 × xk_St) :=
  jb_Model_counted_6 fu fu x0 x1 x2 (0 : Int32) (0 : Int32) u
set_option maxHeartbeats 4000000 in
set_option maxRecDepth 100000 in
theorem wj_Model_counted_66 {p : Program} {l : Launch} {e : Env} {s : State} {m : MethodId} {args : Array Value} {below : List Frame} {meth : Method} {c : Code} {D : va_G} {ad : Nat → Nat} {ca : Nat → ClassId} {ads : List Nat} {fu : Nat} (htr : l.stackTraces = false) (C : xk_C D kx_cl (kx_ty ca) (kw_m ad ca) ads "ModuleHouseModel" prog_14_method_119_code 6 (some .long) p e s m args meth c) (hne : c.exceptionTable.isEmpty = true) {u' : xk_St} {r : Int64} : ∀ {n : Nat} {b0 : Int32} {b1 : Int64} {b3 : Int32} {b4 : Int32} {u : xk_St} {H : Heap} {locs : List Loc} {ls : Array Slot} (h : jb_Model_counted_66 fu  n b0 b1 b3 b4 u = some (r, u')) (hP : va_P D kx_cl (kw_m ad ca u) H) (hS : va_S (xk_A ads s.heap.size) s.heap H locs) (hl : lv_has ls 6 [(0, .int b0), (1, .long b1), (3, .int b3), (4, .int b4)]), W p l e rm_Model_counted s m args below meth c H locs 0 0 (xk_MQ below (xk_Qc D kx_cl (kw_m ad ca) ads (xo_l (.inl r)) u') args s (xk_A ads s.heap.size)) (F0 m 66 ls []) := by
  intro n
  have hx := C.1.1
  have hb := C.1.2.1
  have hok := C.2.2.1
  induction n with
  | zero =>
    intro _ _ _ _ u H locs ls h
    have h : none = some (r, u') := h
    cases h
  | succ n ih =>
    intro b0 b1 b3 b4 u H locs ls h hP hS hl
    unfold jb_Model_counted_66 at h
    obtain ⟨k66, ek66, h⟩ := xp_let h
    have hk66 : ∀ (c0 : Int32) (c1 : Int64) (c2 : Int32) (c3 : Int32) (u : xk_St) (H : Heap) (locs : List Loc) (ls : Array Slot), k66 c0 c1 c2 c3 u = some (r, u') → va_P D kx_cl (kw_m ad ca u) H → va_S (xk_A ads s.heap.size) s.heap H locs → lv_has ls 6 [(0, .int c0), (1, .long c1), (3, .int c2), (4, .int c3)] → W p l e rm_Model_counted s m args below meth c H locs 0 0 (xk_MQ below (xk_Qc D kx_cl (kw_m ad ca) ads (xo_l (.inl r)) u') args s (xk_A ads s.heap.size)) (F0 m 66 ls []) := by
      intro c0 c1 c2 c3 u H locs ls h hP hS hl
      subst ek66
      exact ih h hP hS hl
    clear ih ek66
    refine lv_iload_n hx hb dd_Model_counted_66 rfl (lv_at hl 0 rfl) ?_
    refine lv_iconst (v := 1) hx hb dd_Model_counted_67 (by decide) ?_
    refine lv_icmp_ne (tgt := 94) hx hb dd_Model_counted_68 (by decide) (fun hc => ?_) (fun hc => ?_)
    · have h := xp_f hc h
      refine lv_iload hx hb dd_Model_counted_94 (lv_at hl 3 rfl) ?_
      refine lv_i2l hx hb dd_Model_counted_96 rfl ?_
      obtain ⟨rfl, rfl⟩ := xp_r h
      exact xr_lret C hP hS dd_Model_counted_97
    · have h := xp_t hc h
      refine lv_iload hx hb dd_Model_counted_71 (lv_at hl 3 rfl) ?_
      refine lv_iload_n hx hb dd_Model_counted_73 rfl (lv_at hl 2 rfl) ?_
      refine lv_icmp_ge (tgt := 94) hx hb dd_Model_counted_74 (by decide) (fun hc => ?_) (fun hc => ?_)
      · have h := xp_t hc h
        refine lv_iload hx hb dd_Model_counted_94 (lv_at hl 3 rfl) ?_
        refine lv_i2l hx hb dd_Model_counted_96 rfl ?_
        obtain ⟨rfl, rfl⟩ := xp_r h
        exact xr_lret C hP hS dd_Model_counted_97
      · have h := xp_f hc h
        refine lv_lload_n hx hb dd_Model_counted_77 rfl (lv_at hl 1 rfl) ?_
        refine lv_iload hx hb dd_Model_counted_78 (lv_at hl 3 rfl) ?_
        refine lv_lshr hx hb dd_Model_counted_80 rfl ?_
        refine lv_lconst (v := 1) hx hb dd_Model_counted_81 (by decide) ?_
        refine lv_land hx hb dd_Model_counted_82 ?_
        refine lv_lconst (v := 0) hx hb dd_Model_counted_83 (by decide) ?_
        refine xr_lc_ne (tgt := 94) hx hb dd_Model_counted_84 dd_Model_counted_85 (by decide) (fun hc => ?_) (fun hc => ?_)
        · have h := xp_f hc h
          refine lv_iload hx hb dd_Model_counted_94 (lv_at hl 3 rfl) ?_
          refine lv_i2l hx hb dd_Model_counted_96 rfl ?_
          obtain ⟨rfl, rfl⟩ := xp_r h
          exact xr_lret C hP hS dd_Model_counted_97
        · have h := xp_t hc h
          obtain ⟨a1, ea1, h⟩ := xp_let h
          refine lv_iinc (v := a1) (lv' := [(4, .int a1), (0, .int b0), (1, .long b1), (3, .int b3)]) hx hb dd_Model_counted_88 hl (k := 3) rfl (by rw [ea1]; first | rfl | decide) (by decide) rfl (fun ls hl => ?_)
          refine lv_goto (tgt := 66) hx hb dd_Model_counted_91 (by decide) ?_
          exact hk66 b0 b1 b3 a1 u _ _ _ h hP hS (lv_sub hl [1, 2, 3, 0] rfl)
set_option maxHeartbeats 4000000 in
set_option maxRecDepth 100000 in
theorem wj_Model_counted_35 {p : Program} {l : Launch} {e : Env} {s : State} {m : MethodId} {args : Array Value} {below : List Frame} {meth : Method} {c : Code} {D : va_G} {ad : Nat → Nat} {ca : Nat → ClassId} {ads : List Nat} {fu : Nat} (htr : l.stackTraces = false) (C : xk_C D kx_cl (kx_ty ca) (kw_m ad ca) ads "ModuleHouseModel" prog_14_method_119_code 6 (some .long) p e s m args meth c) (hne : c.exceptionTable.isEmpty = true) {u' : xk_St} {r : Int64} : ∀ {n : Nat} {b0 : Int32} {b1 : Int64} {b3 : Int32} {b4 : Int32} {u : xk_St} {H : Heap} {locs : List Loc} {ls : Array Slot} (h : jb_Model_counted_35 fu  n b0 b1 b3 b4 u = some (r, u')) (hP : va_P D kx_cl (kw_m ad ca u) H) (hS : va_S (xk_A ads s.heap.size) s.heap H locs) (hl : lv_has ls 6 [(0, .int b0), (1, .long b1), (3, .int b3), (4, .int b4)]), W p l e rm_Model_counted s m args below meth c H locs 0 0 (xk_MQ below (xk_Qc D kx_cl (kw_m ad ca) ads (xo_l (.inl r)) u') args s (xk_A ads s.heap.size)) (F0 m 35 ls []) := by
  intro n
  have hx := C.1.1
  have hb := C.1.2.1
  have hok := C.2.2.1
  induction n with
  | zero =>
    intro _ _ _ _ u H locs ls h
    have h : none = some (r, u') := h
    cases h
  | succ n ih =>
    intro b0 b1 b3 b4 u H locs ls h hP hS hl
    unfold jb_Model_counted_35 at h
    obtain ⟨k35, ek35, h⟩ := xp_let h
    have hk35 : ∀ (c0 : Int32) (c1 : Int64) (c2 : Int32) (c3 : Int32) (u : xk_St) (H : Heap) (locs : List Loc) (ls : Array Slot), k35 c0 c1 c2 c3 u = some (r, u') → va_P D kx_cl (kw_m ad ca u) H → va_S (xk_A ads s.heap.size) s.heap H locs → lv_has ls 6 [(0, .int c0), (1, .long c1), (3, .int c2), (4, .int c3)] → W p l e rm_Model_counted s m args below meth c H locs 0 0 (xk_MQ below (xk_Qc D kx_cl (kw_m ad ca) ads (xo_l (.inl r)) u') args s (xk_A ads s.heap.size)) (F0 m 35 ls []) := by
      intro c0 c1 c2 c3 u H locs ls h hP hS hl
      subst ek35
      exact ih h hP hS hl
    clear ih ek35
    refine lv_iload_n hx hb dd_Model_counted_35 rfl (lv_at hl 0 rfl) ?_
    refine lv_if_ne (tgt := 66) hx hb dd_Model_counted_36 (by decide) (fun hc => ?_) (fun hc => ?_)
    · have h := xp_f hc h
      exact wj_Model_counted_66 htr C hne h hP hS (lv_sub hl [0, 1, 2, 3] rfl)
    · have h := xp_t hc h
      refine lv_iload hx hb dd_Model_counted_39 (lv_at hl 3 rfl) ?_
      refine lv_iload_n hx hb dd_Model_counted_41 rfl (lv_at hl 2 rfl) ?_
      refine lv_icmp_ge (tgt := 66) hx hb dd_Model_counted_42 (by decide) (fun hc => ?_) (fun hc => ?_)
      · have h := xp_t hc h
        exact wj_Model_counted_66 htr C hne h hP hS (lv_sub hl [0, 1, 2, 3] rfl)
      · have h := xp_f hc h
        refine lv_lload_n hx hb dd_Model_counted_45 rfl (lv_at hl 1 rfl) ?_
        refine lv_iload_n hx hb dd_Model_counted_46 rfl (lv_at hl 2 rfl) ?_
        refine lv_iconst (v := 1) hx hb dd_Model_counted_47 (by decide) ?_
        refine lv_isub hx hb dd_Model_counted_48 ?_
        refine lv_iload hx hb dd_Model_counted_49 (lv_at hl 3 rfl) ?_
        refine lv_isub hx hb dd_Model_counted_51 ?_
        refine lv_lshr hx hb dd_Model_counted_52 rfl ?_
        refine lv_lconst (v := 1) hx hb dd_Model_counted_53 (by decide) ?_
        refine lv_land hx hb dd_Model_counted_54 ?_
        refine lv_lconst (v := 0) hx hb dd_Model_counted_55 (by decide) ?_
        refine xr_lc_ne (tgt := 66) hx hb dd_Model_counted_56 dd_Model_counted_57 (by decide) (fun hc => ?_) (fun hc => ?_)
        · have h := xp_f hc h
          exact wj_Model_counted_66 htr C hne h hP hS (lv_sub hl [0, 1, 2, 3] rfl)
        · have h := xp_t hc h
          obtain ⟨a2, ea2, h⟩ := xp_let h
          refine lv_iinc (v := a2) (lv' := [(4, .int a2), (0, .int b0), (1, .long b1), (3, .int b3)]) hx hb dd_Model_counted_60 hl (k := 3) rfl (by rw [ea2]; first | rfl | decide) (by decide) rfl (fun ls hl => ?_)
          refine lv_goto (tgt := 35) hx hb dd_Model_counted_63 (by decide) ?_
          exact hk35 b0 b1 b3 a2 u _ _ _ h hP hS (lv_sub hl [1, 2, 3, 0] rfl)
set_option maxHeartbeats 4000000 in
set_option maxRecDepth 100000 in
theorem wj_Model_counted_6 {p : Program} {l : Launch} {e : Env} {s : State} {m : MethodId} {args : Array Value} {below : List Frame} {meth : Method} {c : Code} {D : va_G} {ad : Nat → Nat} {ca : Nat → ClassId} {ads : List Nat} {fu : Nat} (htr : l.stackTraces = false) (C : xk_C D kx_cl (kx_ty ca) (kw_m ad ca) ads "ModuleHouseModel" prog_14_method_119_code 6 (some .long) p e s m args meth c) (hne : c.exceptionTable.isEmpty = true) {u' : xk_St} {r : Int64} : ∀ {n : Nat} {b0 : Int32} {b1 : Int64} {b3 : Int32} {b4 : Int32} {b5 : Int32} {u : xk_St} {H : Heap} {locs : List Loc} {ls : Array Slot} (h : jb_Model_counted_6 fu  n b0 b1 b3 b4 b5 u = some (r, u')) (hP : va_P D kx_cl (kw_m ad ca u) H) (hS : va_S (xk_A ads s.heap.size) s.heap H locs) (hl : lv_has ls 6 [(0, .int b0), (1, .long b1), (3, .int b3), (4, .int b4), (5, .int b5)]), W p l e rm_Model_counted s m args below meth c H locs 0 0 (xk_MQ below (xk_Qc D kx_cl (kw_m ad ca) ads (xo_l (.inl r)) u') args s (xk_A ads s.heap.size)) (F0 m 6 ls []) := by
  intro n
  have hx := C.1.1
  have hb := C.1.2.1
  have hok := C.2.2.1
  induction n with
  | zero =>
    intro _ _ _ _ _ u H locs ls h
    have h : none = some (r, u') := h
    cases h
  | succ n ih =>
    intro b0 b1 b3 b4 b5 u H locs ls h hP hS hl
    unfold jb_Model_counted_6 at h
    obtain ⟨k6, ek6, h⟩ := xp_let h
    have hk6 : ∀ (c0 : Int32) (c1 : Int64) (c2 : Int32) (c3 : Int32) (c4 : Int32) (u : xk_St) (H : Heap) (locs : List Loc) (ls : Array Slot), k6 c0 c1 c2 c3 c4 u = some (r, u') → va_P D kx_cl (kw_m ad ca u) H → va_S (xk_A ads s.heap.size) s.heap H locs → lv_has ls 6 [(0, .int c0), (1, .long c1), (3, .int c2), (4, .int c3), (5, .int c4)] → W p l e rm_Model_counted s m args below meth c H locs 0 0 (xk_MQ below (xk_Qc D kx_cl (kw_m ad ca) ads (xo_l (.inl r)) u') args s (xk_A ads s.heap.size)) (F0 m 6 ls []) := by
      intro c0 c1 c2 c3 c4 u H locs ls h hP hS hl
      subst ek6
      exact ih h hP hS hl
    clear ih ek6
    refine lv_iload hx hb dd_Model_counted_6 (lv_at hl 4 rfl) ?_
    refine lv_iload_n hx hb dd_Model_counted_8 rfl (lv_at hl 2 rfl) ?_
    refine lv_icmp_ge (tgt := 35) hx hb dd_Model_counted_9 (by decide) (fun hc => ?_) (fun hc => ?_)
    · have h := xp_t hc h
      exact wj_Model_counted_35 htr C hne h hP hS (lv_sub hl [0, 1, 2, 3] rfl)
    · have h := xp_f hc h
      refine lv_iload_n hx hb dd_Model_counted_12 rfl (lv_at hl 0 rfl) ?_
      refine lv_iconst (v := 2) hx hb dd_Model_counted_13 (by decide) ?_
      refine lv_icmp_ne (tgt := 35) hx hb dd_Model_counted_14 (by decide) (fun hc => ?_) (fun hc => ?_)
      · have h := xp_f hc h
        exact wj_Model_counted_35 htr C hne h hP hS (lv_sub hl [0, 1, 2, 3] rfl)
      · have h := xp_t hc h
        refine lv_iload hx hb dd_Model_counted_17 (lv_at hl 3 rfl) ?_
        refine lv_lload_n hx hb dd_Model_counted_19 rfl (lv_at hl 1 rfl) ?_
        refine lv_iload hx hb dd_Model_counted_20 (lv_at hl 4 rfl) ?_
        refine lv_lshr hx hb dd_Model_counted_22 rfl ?_
        refine lv_lconst (v := 1) hx hb dd_Model_counted_23 (by decide) ?_
        refine lv_land hx hb dd_Model_counted_24 ?_
        refine lv_l2i hx hb dd_Model_counted_25 rfl ?_
        refine lv_iadd hx hb dd_Model_counted_26 ?_
        obtain ⟨a3, ea3, h⟩ := xp_let h
        refine xr_nami ea3 ?_
        refine lv_istore (lv' := [(4, .int a3), (0, .int b0), (1, .long b1), (3, .int b3), (5, .int b5)]) hx hb dd_Model_counted_27 hl (by decide) rfl (fun ls hl => ?_)
        obtain ⟨a4, ea4, h⟩ := xp_let h
        refine lv_iinc (v := a4) (lv' := [(5, .int a4), (4, .int a3), (0, .int b0), (1, .long b1), (3, .int b3)]) hx hb dd_Model_counted_29 hl (k := 4) rfl (by rw [ea4]; first | rfl | decide) (by decide) rfl (fun ls hl => ?_)
        refine lv_goto (tgt := 6) hx hb dd_Model_counted_32 (by decide) ?_
        exact hk6 b0 b1 b3 a3 a4 u _ _ _ h hP hS (lv_sub hl [2, 3, 4, 1, 0] rfl)
set_option maxHeartbeats 4000000 in
set_option maxRecDepth 100000 in
theorem ct_Model_counted {l : Launch} {D : va_G} {ad : Nat → Nat} {ca : Nat → ClassId} {ads : List Nat} (htr : l.stackTraces = false) (hok : xk_ok (kw_m ad ca) ads) {fu : Nat} {x0 : Int32} {x1 : Int64} {x2 : Int32} {u u' : xk_St} {r : Int64} (h : fm_Model_counted fu x0 x1 x2 u = some (r, u')) :
    ∀ sz, xk_Met l ⟨"ModuleHouseModel", "counted", "(IJI)J"⟩ (Cond.code ⟨"ModuleHouseModel", "counted", "(IJI)J"⟩ prog_14_method_119_code 6 (some .long) :: xk_gd) rm_Model_counted (xk_Pc D kx_cl (kx_ty ca) (kw_m ad ca) ads xk_F sz [.int x0, .long x1, .int x2] u) (xk_Qc D kx_cl (kw_m ad ca) ads (xo_l (.inl r)) u') (xk_A ads sz) := by
  unfold fm_Model_counted at h
  refine xk_con (by decide) htr hok (Nat.le_of_ble_eq_true rfl) (fun p e s m below meth c ls C hne hl hP => ?_)
  have hx := C.1.1
  have hb := C.1.2.1
  have hS : va_S (xk_A ads s.heap.size) s.heap s.heap [] := va_S.rf
  have hl : lv_has ls 6 [(0, .int x0), (1, .long x1), (3, .int x2)] := hl
  refine lv_iconst (v := 0) hx hb dd_Model_counted_0 (by decide) ?_
  refine lv_istore (lv' := [(4, .int (0 : Int32)), (0, .int x0), (1, .long x1), (3, .int x2)]) hx hb dd_Model_counted_1 hl (by decide) rfl (fun ls hl => ?_)
  refine lv_iconst (v := 0) hx hb dd_Model_counted_3 (by decide) ?_
  refine lv_istore (lv' := [(5, .int (0 : Int32)), (4, .int (0 : Int32)), (0, .int x0), (1, .long x1), (3, .int x2)]) hx hb dd_Model_counted_4 hl (by decide) rfl (fun ls hl => ?_)
  exact wj_Model_counted_6 htr C hne h hP hS (lv_sub hl [2, 3, 4, 1, 0] rfl)
abbrev rm_Model_isBelow : Room := { frames := 1, cells := 1, slots := 6, locals := 0 }
noncomputable def fm_Model_isBelow (x0 : Int64) (x1 : Int64) (u : xk_St) : Option (Int32 × xk_St) :=
  if (x1 + (-9223372036854775808 : Int64)) ≤ (x0 + (-9223372036854775808 : Int64)) then (some ((0 : Int32), u)) else (some ((1 : Int32), u))
set_option maxHeartbeats 4000000 in
set_option maxRecDepth 100000 in
theorem ct_Model_isBelow {l : Launch} {D : va_G} {ad : Nat → Nat} {ca : Nat → ClassId} {ads : List Nat} (htr : l.stackTraces = false) (hok : xk_ok (kw_m ad ca) ads) {x0 : Int64} {x1 : Int64} {u u' : xk_St} {r : Int32} (h : fm_Model_isBelow x0 x1 u = some (r, u')) :
    ∀ sz, xk_Met l ⟨"ModuleHouseModel", "isBelow", "(JJ)Z"⟩ (Cond.code ⟨"ModuleHouseModel", "isBelow", "(JJ)Z"⟩ prog_14_method_117_code 4 (some .boolean) :: xk_gd) rm_Model_isBelow (xk_Pc D kx_cl (kx_ty ca) (kw_m ad ca) ads xk_F sz [.long x0, .long x1] u) (xk_Qc D kx_cl (kw_m ad ca) ads (xo_i (.inl r)) u') (xk_A ads sz) := by
  unfold fm_Model_isBelow at h
  refine xk_con (by decide) htr hok (Nat.le_of_ble_eq_true rfl) (fun p e s m below meth c ls C hne hl hP => ?_)
  have hx := C.1.1
  have hb := C.1.2.1
  have hS : va_S (xk_A ads s.heap.size) s.heap s.heap [] := va_S.rf
  have hl : lv_has ls 4 [(0, .long x0), (2, .long x1)] := hl
  refine lv_lload_n hx hb dd_Model_isBelow_0 rfl (lv_at hl 0 rfl) ?_
  refine lv_ldc2 (v := (-9223372036854775808)) hx hb C.1.2.2.2.1 (C.1.2.2.2.2 _ (xk_c11 (w := Jvm.Cond.constantLong "ModuleHouseModel" 744 (-9223372036854775808)) 93 rfl rfl)) dd_Model_isBelow_1 ?_
  refine lv_ladd hx hb dd_Model_isBelow_4 ?_
  refine lv_lload_n hx hb dd_Model_isBelow_5 rfl (lv_at hl 1 rfl) ?_
  refine lv_ldc2 (v := (-9223372036854775808)) hx hb C.1.2.2.2.1 (C.1.2.2.2.2 _ (xk_c11 (w := Jvm.Cond.constantLong "ModuleHouseModel" 744 (-9223372036854775808)) 93 rfl rfl)) dd_Model_isBelow_6 ?_
  refine lv_ladd hx hb dd_Model_isBelow_9 ?_
  refine xr_lc_ge (tgt := 18) hx hb dd_Model_isBelow_10 dd_Model_isBelow_11 (by decide) (fun hc => ?_) (fun hc => ?_)
  · have h := xp_t hc h
    refine lv_iconst (v := 0) hx hb dd_Model_isBelow_18 (by decide) ?_
    obtain ⟨rfl, rfl⟩ := xp_r h
    exact xr_zret C hP hS (by decide) dd_Model_isBelow_19
  · have h := xp_f hc h
    refine lv_iconst (v := 1) hx hb dd_Model_isBelow_14 (by decide) ?_
    refine lv_goto (tgt := 19) hx hb dd_Model_isBelow_15 (by decide) ?_
    obtain ⟨rfl, rfl⟩ := xp_r h
    exact xr_zret C hP hS (by decide) dd_Model_isBelow_19
abbrev rm_Model_compares : Room := { frames := 2, cells := 1, slots := 6, locals := 23 }
noncomputable def fm_Model_compares (x0 : Int32) (x1 : Int64) (x2 : Int64) (u : xk_St) : Option (Int32 × xk_St) :=
  if x0 = (0 : Int32) then (if x1 = x2 then (some ((1 : Int32), u)) else (some ((0 : Int32), u))) else if x0 = (1 : Int32) then (if x1 = x2 then (some ((0 : Int32), u)) else (some ((1 : Int32), u))) else if x0 = (2 : Int32) then (if x2 ≤ x1 then (some ((0 : Int32), u)) else (some ((1 : Int32), u))) else if x0 = (3 : Int32) then ((xs_seq (fm_Model_isBelow x1 x2 u) fun a1 u2 => if a1 = 0 ∨ a1 = 1 then some (a1, u2) else none)) else if x0 = (4 : Int32) then (if x1 ≤ x2 then (some ((0 : Int32), u)) else (some ((1 : Int32), u))) else if x0 = (5 : Int32) then ((xs_seq (fm_Model_isBelow x2 x1 u) fun a3 u4 => if a3 = 0 ∨ a3 = 1 then some (a3, u4) else none)) else if x0 = (6 : Int32) then (if x2 < x1 then (some ((0 : Int32), u)) else (some ((1 : Int32), u))) else if x0 = (7 : Int32) then ((xs_seq (fm_Model_isBelow x2 x1 u) fun a5 u6 => if a5 = (0 : Int32) then (some ((1 : Int32), u6)) else (some ((0 : Int32), u6)))) else if x0 = (8 : Int32) then (if x1 < x2 then (some ((0 : Int32), u)) else (some ((1 : Int32), u))) else ((xs_seq (fm_Model_isBelow x1 x2 u) fun a7 u8 => if a7 = (0 : Int32) then (some ((1 : Int32), u8)) else (some ((0 : Int32), u8))))
set_option maxHeartbeats 4000000 in
set_option maxRecDepth 100000 in
theorem ct_Model_compares {l : Launch} {D : va_G} {ad : Nat → Nat} {ca : Nat → ClassId} {ads : List Nat} (htr : l.stackTraces = false) (hok : xk_ok (kw_m ad ca) ads) {x0 : Int32} {x1 : Int64} {x2 : Int64} {u u' : xk_St} {r : Int32} (h : fm_Model_compares x0 x1 x2 u = some (r, u')) :
    ∀ sz, xk_Met l ⟨"ModuleHouseModel", "compares", "(IJJ)Z"⟩ (Cond.code ⟨"ModuleHouseModel", "compares", "(IJJ)Z"⟩ prog_14_method_118_code 5 (some .boolean) :: xk_gd) rm_Model_compares (xk_Pc D kx_cl (kx_ty ca) (kw_m ad ca) ads xk_F sz [.int x0, .long x1, .long x2] u) (xk_Qc D kx_cl (kw_m ad ca) ads (xo_i (.inl r)) u') (xk_A ads sz) := by
  unfold fm_Model_compares at h
  refine xk_con (by decide) htr hok (Nat.le_of_ble_eq_true rfl) (fun p e s m below meth c ls C hne hl hP => ?_)
  have hx := C.1.1
  have hb := C.1.2.1
  have hS : va_S (xk_A ads s.heap.size) s.heap s.heap [] := va_S.rf
  have hl : lv_has ls 5 [(0, .int x0), (1, .long x1), (3, .long x2)] := hl
  refine lv_iload_n hx hb dd_Model_compares_0 rfl (lv_at hl 0 rfl) ?_
  by_cases hc0 : x0 = (0 : Int32)
  · have h := xp_t hc0 h
    refine lv_tableIn (off := 51) (tgt := 52) hx hb dd_Model_compares_1 (by rw [hc0]; decide) (by rw [hc0]; decide) (by rw [hc0]; rfl) (by decide) ?_
    refine lv_lload_n hx hb dd_Model_compares_52 rfl (lv_at hl 1 rfl) ?_
    refine lv_lload_n hx hb dd_Model_compares_53 rfl (lv_at hl 2 rfl) ?_
    refine xr_lc_ne (tgt := 62) hx hb dd_Model_compares_54 dd_Model_compares_55 (by decide) (fun hc => ?_) (fun hc => ?_)
    · have h := xp_f hc h
      refine lv_iconst (v := 0) hx hb dd_Model_compares_62 (by decide) ?_
      obtain ⟨rfl, rfl⟩ := xp_r h
      exact xr_zret C hP hS (by decide) dd_Model_compares_63
    · have h := xp_t hc h
      refine lv_iconst (v := 1) hx hb dd_Model_compares_58 (by decide) ?_
      refine lv_goto (tgt := 63) hx hb dd_Model_compares_59 (by decide) ?_
      obtain ⟨rfl, rfl⟩ := xp_r h
      exact xr_zret C hP hS (by decide) dd_Model_compares_63
  have h := xp_f hc0 h
  by_cases hc1 : x0 = (1 : Int32)
  · have h := xp_t hc1 h
    refine lv_tableIn (off := 63) (tgt := 64) hx hb dd_Model_compares_1 (by rw [hc1]; decide) (by rw [hc1]; decide) (by rw [hc1]; rfl) (by decide) ?_
    refine lv_lload_n hx hb dd_Model_compares_64 rfl (lv_at hl 1 rfl) ?_
    refine lv_lload_n hx hb dd_Model_compares_65 rfl (lv_at hl 2 rfl) ?_
    refine xr_lc_eq (tgt := 74) hx hb dd_Model_compares_66 dd_Model_compares_67 (by decide) (fun hc => ?_) (fun hc => ?_)
    · have h := xp_t hc h
      refine lv_iconst (v := 0) hx hb dd_Model_compares_74 (by decide) ?_
      obtain ⟨rfl, rfl⟩ := xp_r h
      exact xr_zret C hP hS (by decide) dd_Model_compares_75
    · have h := xp_f hc h
      refine lv_iconst (v := 1) hx hb dd_Model_compares_70 (by decide) ?_
      refine lv_goto (tgt := 75) hx hb dd_Model_compares_71 (by decide) ?_
      obtain ⟨rfl, rfl⟩ := xp_r h
      exact xr_zret C hP hS (by decide) dd_Model_compares_75
  have h := xp_f hc1 h
  by_cases hc2 : x0 = (2 : Int32)
  · have h := xp_t hc2 h
    refine lv_tableIn (off := 75) (tgt := 76) hx hb dd_Model_compares_1 (by rw [hc2]; decide) (by rw [hc2]; decide) (by rw [hc2]; rfl) (by decide) ?_
    refine lv_lload_n hx hb dd_Model_compares_76 rfl (lv_at hl 1 rfl) ?_
    refine lv_lload_n hx hb dd_Model_compares_77 rfl (lv_at hl 2 rfl) ?_
    refine xr_lc_ge (tgt := 86) hx hb dd_Model_compares_78 dd_Model_compares_79 (by decide) (fun hc => ?_) (fun hc => ?_)
    · have h := xp_t hc h
      refine lv_iconst (v := 0) hx hb dd_Model_compares_86 (by decide) ?_
      obtain ⟨rfl, rfl⟩ := xp_r h
      exact xr_zret C hP hS (by decide) dd_Model_compares_87
    · have h := xp_f hc h
      refine lv_iconst (v := 1) hx hb dd_Model_compares_82 (by decide) ?_
      refine lv_goto (tgt := 87) hx hb dd_Model_compares_83 (by decide) ?_
      obtain ⟨rfl, rfl⟩ := xp_r h
      exact xr_zret C hP hS (by decide) dd_Model_compares_87
  have h := xp_f hc2 h
  by_cases hc3 : x0 = (3 : Int32)
  · have h := xp_t hc3 h
    refine lv_tableIn (off := 87) (tgt := 88) hx hb dd_Model_compares_1 (by rw [hc3]; decide) (by rw [hc3]; decide) (by rw [hc3]; rfl) (by decide) ?_
    refine lv_lload_n hx hb dd_Model_compares_88 rfl (lv_at hl 1 rfl) ?_
    refine lv_lload_n hx hb dd_Model_compares_89 rfl (lv_at hl 2 rfl) ?_
    obtain ⟨a1, u2, hq, h⟩ := xp_seq h
    refine xk_goesI (xr_S (As := [.long x1, .long x2]) (rest := []) C hP hS (ct_Model_isBelow htr hok hq) kq_Model_746 ⟨rfl, rfl, Nat.le_of_ble_eq_true rfl, Nat.le_of_ble_eq_true rfl⟩ ⟨Nat.le_of_ble_eq_true rfl, Nat.le_of_ble_eq_true rfl⟩ hl.1 rfl rfl (Nat.le_of_ble_eq_true rfl) dd_Model_compares_90) hS (fun H locs hP hS => ?_)
    clear hq
    obtain ⟨hz, h⟩ := xp_p h
    obtain ⟨rfl, rfl⟩ := xp_r h
    exact xr_zret C hP hS hz dd_Model_compares_93
  have h := xp_f hc3 h
  by_cases hc4 : x0 = (4 : Int32)
  · have h := xp_t hc4 h
    refine lv_tableIn (off := 93) (tgt := 94) hx hb dd_Model_compares_1 (by rw [hc4]; decide) (by rw [hc4]; decide) (by rw [hc4]; rfl) (by decide) ?_
    refine lv_lload_n hx hb dd_Model_compares_94 rfl (lv_at hl 1 rfl) ?_
    refine lv_lload_n hx hb dd_Model_compares_95 rfl (lv_at hl 2 rfl) ?_
    refine xr_lc_le (tgt := 104) hx hb dd_Model_compares_96 dd_Model_compares_97 (by decide) (fun hc => ?_) (fun hc => ?_)
    · have h := xp_t hc h
      refine lv_iconst (v := 0) hx hb dd_Model_compares_104 (by decide) ?_
      obtain ⟨rfl, rfl⟩ := xp_r h
      exact xr_zret C hP hS (by decide) dd_Model_compares_105
    · have h := xp_f hc h
      refine lv_iconst (v := 1) hx hb dd_Model_compares_100 (by decide) ?_
      refine lv_goto (tgt := 105) hx hb dd_Model_compares_101 (by decide) ?_
      obtain ⟨rfl, rfl⟩ := xp_r h
      exact xr_zret C hP hS (by decide) dd_Model_compares_105
  have h := xp_f hc4 h
  by_cases hc5 : x0 = (5 : Int32)
  · have h := xp_t hc5 h
    refine lv_tableIn (off := 105) (tgt := 106) hx hb dd_Model_compares_1 (by rw [hc5]; decide) (by rw [hc5]; decide) (by rw [hc5]; rfl) (by decide) ?_
    refine lv_lload_n hx hb dd_Model_compares_106 rfl (lv_at hl 2 rfl) ?_
    refine lv_lload_n hx hb dd_Model_compares_107 rfl (lv_at hl 1 rfl) ?_
    obtain ⟨a3, u4, hq, h⟩ := xp_seq h
    refine xk_goesI (xr_S (As := [.long x2, .long x1]) (rest := []) C hP hS (ct_Model_isBelow htr hok hq) kq_Model_746 ⟨rfl, rfl, Nat.le_of_ble_eq_true rfl, Nat.le_of_ble_eq_true rfl⟩ ⟨Nat.le_of_ble_eq_true rfl, Nat.le_of_ble_eq_true rfl⟩ hl.1 rfl rfl (Nat.le_of_ble_eq_true rfl) dd_Model_compares_108) hS (fun H locs hP hS => ?_)
    clear hq
    obtain ⟨hz, h⟩ := xp_p h
    obtain ⟨rfl, rfl⟩ := xp_r h
    exact xr_zret C hP hS hz dd_Model_compares_111
  have h := xp_f hc5 h
  by_cases hc6 : x0 = (6 : Int32)
  · have h := xp_t hc6 h
    refine lv_tableIn (off := 111) (tgt := 112) hx hb dd_Model_compares_1 (by rw [hc6]; decide) (by rw [hc6]; decide) (by rw [hc6]; rfl) (by decide) ?_
    refine lv_lload_n hx hb dd_Model_compares_112 rfl (lv_at hl 1 rfl) ?_
    refine lv_lload_n hx hb dd_Model_compares_113 rfl (lv_at hl 2 rfl) ?_
    refine xr_lc_gt (tgt := 122) hx hb dd_Model_compares_114 dd_Model_compares_115 (by decide) (fun hc => ?_) (fun hc => ?_)
    · have h := xp_t hc h
      refine lv_iconst (v := 0) hx hb dd_Model_compares_122 (by decide) ?_
      obtain ⟨rfl, rfl⟩ := xp_r h
      exact xr_zret C hP hS (by decide) dd_Model_compares_123
    · have h := xp_f hc h
      refine lv_iconst (v := 1) hx hb dd_Model_compares_118 (by decide) ?_
      refine lv_goto (tgt := 123) hx hb dd_Model_compares_119 (by decide) ?_
      obtain ⟨rfl, rfl⟩ := xp_r h
      exact xr_zret C hP hS (by decide) dd_Model_compares_123
  have h := xp_f hc6 h
  by_cases hc7 : x0 = (7 : Int32)
  · have h := xp_t hc7 h
    refine lv_tableIn (off := 123) (tgt := 124) hx hb dd_Model_compares_1 (by rw [hc7]; decide) (by rw [hc7]; decide) (by rw [hc7]; rfl) (by decide) ?_
    refine lv_lload_n hx hb dd_Model_compares_124 rfl (lv_at hl 2 rfl) ?_
    refine lv_lload_n hx hb dd_Model_compares_125 rfl (lv_at hl 1 rfl) ?_
    obtain ⟨a5, u6, hq, h⟩ := xp_seq h
    refine xk_goesI (xr_S (As := [.long x2, .long x1]) (rest := []) C hP hS (ct_Model_isBelow htr hok hq) kq_Model_746 ⟨rfl, rfl, Nat.le_of_ble_eq_true rfl, Nat.le_of_ble_eq_true rfl⟩ ⟨Nat.le_of_ble_eq_true rfl, Nat.le_of_ble_eq_true rfl⟩ hl.1 rfl rfl (Nat.le_of_ble_eq_true rfl) dd_Model_compares_126) hS (fun H locs hP hS => ?_)
    clear hq
    refine lv_if_ne (tgt := 136) hx hb dd_Model_compares_129 (by decide) (fun hc => ?_) (fun hc => ?_)
    · have h := xp_f hc h
      refine lv_iconst (v := 0) hx hb dd_Model_compares_136 (by decide) ?_
      obtain ⟨rfl, rfl⟩ := xp_r h
      exact xr_zret C hP hS (by decide) dd_Model_compares_137
    · have h := xp_t hc h
      refine lv_iconst (v := 1) hx hb dd_Model_compares_132 (by decide) ?_
      refine lv_goto (tgt := 137) hx hb dd_Model_compares_133 (by decide) ?_
      obtain ⟨rfl, rfl⟩ := xp_r h
      exact xr_zret C hP hS (by decide) dd_Model_compares_137
  have h := xp_f hc7 h
  by_cases hc8 : x0 = (8 : Int32)
  · have h := xp_t hc8 h
    refine lv_tableIn (off := 137) (tgt := 138) hx hb dd_Model_compares_1 (by rw [hc8]; decide) (by rw [hc8]; decide) (by rw [hc8]; rfl) (by decide) ?_
    refine lv_lload_n hx hb dd_Model_compares_138 rfl (lv_at hl 1 rfl) ?_
    refine lv_lload_n hx hb dd_Model_compares_139 rfl (lv_at hl 2 rfl) ?_
    refine xr_lc_lt (tgt := 148) hx hb dd_Model_compares_140 dd_Model_compares_141 (by decide) (fun hc => ?_) (fun hc => ?_)
    · have h := xp_t hc h
      refine lv_iconst (v := 0) hx hb dd_Model_compares_148 (by decide) ?_
      obtain ⟨rfl, rfl⟩ := xp_r h
      exact xr_zret C hP hS (by decide) dd_Model_compares_149
    · have h := xp_f hc h
      refine lv_iconst (v := 1) hx hb dd_Model_compares_144 (by decide) ?_
      refine lv_goto (tgt := 149) hx hb dd_Model_compares_145 (by decide) ?_
      obtain ⟨rfl, rfl⟩ := xp_r h
      exact xr_zret C hP hS (by decide) dd_Model_compares_149
  have h := xp_f hc8 h
  have hd0 := lv_neT hc0 (a := 0) (by decide)
  have hd1 := lv_neT hc1 (a := 1) (by decide)
  have hd2 := lv_neT hc2 (a := 2) (by decide)
  have hd3 := lv_neT hc3 (a := 3) (by decide)
  have hd4 := lv_neT hc4 (a := 4) (by decide)
  have hd5 := lv_neT hc5 (a := 5) (by decide)
  have hd6 := lv_neT hc6 (a := 6) (by decide)
  have hd7 := lv_neT hc7 (a := 7) (by decide)
  have hd8 := lv_neT hc8 (a := 8) (by decide)
  refine lv_tableOut (tgt := 150) hx hb dd_Model_compares_1 (by omega) (by decide) ?_
  refine lv_lload_n hx hb dd_Model_compares_150 rfl (lv_at hl 1 rfl) ?_
  refine lv_lload_n hx hb dd_Model_compares_151 rfl (lv_at hl 2 rfl) ?_
  obtain ⟨a7, u8, hq, h⟩ := xp_seq h
  refine xk_goesI (xr_S (As := [.long x1, .long x2]) (rest := []) C hP hS (ct_Model_isBelow htr hok hq) kq_Model_746 ⟨rfl, rfl, Nat.le_of_ble_eq_true rfl, Nat.le_of_ble_eq_true rfl⟩ ⟨Nat.le_of_ble_eq_true rfl, Nat.le_of_ble_eq_true rfl⟩ hl.1 rfl rfl (Nat.le_of_ble_eq_true rfl) dd_Model_compares_152) hS (fun H locs hP hS => ?_)
  clear hq
  refine lv_if_ne (tgt := 162) hx hb dd_Model_compares_155 (by decide) (fun hc => ?_) (fun hc => ?_)
  · have h := xp_f hc h
    refine lv_iconst (v := 0) hx hb dd_Model_compares_162 (by decide) ?_
    obtain ⟨rfl, rfl⟩ := xp_r h
    exact xr_zret C hP hS (by decide) dd_Model_compares_163
  · have h := xp_t hc h
    refine lv_iconst (v := 1) hx hb dd_Model_compares_158 (by decide) ?_
    refine lv_goto (tgt := 163) hx hb dd_Model_compares_159 (by decide) ?_
    obtain ⟨rfl, rfl⟩ := xp_r h
    exact xr_zret C hP hS (by decide) dd_Model_compares_163
abbrev rm_Model_doNumbers : Room := { frames := 4, cells := 1, slots := 6, locals := 83 }
noncomputable def jb_Model_doNumbers_53 (fu : Nat) (s0 : Int64) (u : xk_St) : Option (Unit × xk_St) :=
  (xs_seq (fm_Model_tell s0 u) fun _ u3 => some ((()), u3))
noncomputable def jb_Model_doNumbers_41 (fu : Nat) (b1 : Int64) (u : xk_St) : Option (Unit × xk_St) :=
  if b1 = (0 : Int64) then (jb_Model_doNumbers_53 fu (1 : Int64) u) else (jb_Model_doNumbers_53 fu (0 : Int64) u)
noncomputable def jb_Model_doNumbers_322 (fu : Nat) (s0 : Int64) (u : xk_St) : Option (Unit × xk_St) :=
  (xs_seq (fm_Model_tell s0 u) fun _ u6 => some ((()), u6))
noncomputable def jb_Model_doNumbers_319 (fu : Nat) (s0 : Int32) (s1 : Int64) (u : xk_St) : Option (Unit × xk_St) :=
  (xs_seq (fm_Model_sx s1 s0 u) fun a4 u5 => jb_Model_doNumbers_322 fu a4 u5)
noncomputable def jb_Model_doNumbers_287 (fu : Nat) (s0 : Int64) (u : xk_St) : Option (Unit × xk_St) :=
  jb_Model_doNumbers_319 fu (32 : Int32) s0 u
noncomputable def jb_Model_doNumbers_312 (fu : Nat) (s0 : Int64) (u : xk_St) : Option (Unit × xk_St) :=
  jb_Model_doNumbers_319 fu (8 : Int32) s0 u
noncomputable def jb_Model_doNumbers_223 (fu : Nat) (s0 : Int64) (u : xk_St) : Option (Unit × xk_St) :=
  (xs_seq (fm_Model_tell s0 u) fun _ u12 => some ((()), u12))
noncomputable def jb_Model_doNumbers_202 (fu : Nat) (b3 : Int32) (s0 : Int64) (u : xk_St) : Option (Unit × xk_St) :=
  if b3 = (32 : Int32) then ((xs_seq (fm_Model_sx s0 (32 : Int32) u) fun a13 u14 => jb_Model_doNumbers_223 fu a13 u14)) else (jb_Model_doNumbers_223 fu s0 u)
noncomputable def jb_Model_doNumbers_172 (fu : Nat) (b1 : Int64) (b3 : Int32) (s0 : Int32) (u : xk_St) : Option (Unit × xk_St) :=
  if (3 : Int32) ≤ s0 then ((xs_seq (fm_Model_drop u) fun a8 u9 => xs_seq (fm_Model_reckoned s0 a8 b1 b3 u9) fun a10 u11 => jb_Model_doNumbers_202 fu b3 a10 u11)) else ((xs_seq (fm_Model_counted fu s0 b1 b3 u) fun a15 u16 => jb_Model_doNumbers_202 fu b3 a15 u16))
noncomputable def jb_Model_doNumbers_145 (fu : Nat) (b1 : Int64) (s0 : Int32) (u : xk_St) : Option (Unit × xk_St) :=
  if (121 : Int32) ≤ (u.1 8) then (jb_Model_doNumbers_172 fu b1 s0 ((u.1 8) - (121 : Int32)) u) else (jb_Model_doNumbers_172 fu b1 s0 ((u.1 8) - (103 : Int32)) u)
noncomputable def jb_Model_doNumbers_113 (fu : Nat) (s0 : Int64) (u : xk_St) : Option (Unit × xk_St) :=
  (xs_seq (fm_Model_tell s0 u) fun _ u21 => some ((()), u21))
noncomputable def jb_Model_doNumbers_100 (fu : Nat) (b1 : Int64) (b3 : Int64) (s0 : Int32) (u : xk_St) : Option (Unit × xk_St) :=
  (xs_seq (fm_Model_compares s0 b3 b1 u) fun a19 u20 => if a19 = (0 : Int32) then (jb_Model_doNumbers_113 fu (0 : Int64) u20) else (jb_Model_doNumbers_113 fu (1 : Int64) u20))
noncomputable def fm_Model_doNumbers (fu : Nat) (u : xk_St) : Option (Unit × xk_St) :=
  if (67 : Int32) ≤ (u.1 8) then ((xs_seq (fm_Model_drop u) fun a1 u2 => if (u2.1 8) = (69 : Int32) then (jb_Model_doNumbers_41 fu a1 u2) else (if (u2.1 8) = (80 : Int32) then (jb_Model_doNumbers_41 fu a1 u2) else (if (91 : Int32) ≤ (u2.1 8) then (if (139 : Int32) ≤ (u2.1 8) then (if (u2.1 8) = (173 : Int32) then ((xs_seq (fm_Model_tell (a1 &&& (4294967295 : Int64)) u2) fun _ u7 => some ((()), u7))) else (if (u2.1 8) = (172 : Int32) then (jb_Model_doNumbers_322 fu a1 u2) else (if (u2.1 8) = (167 : Int32) then (jb_Model_doNumbers_287 fu a1 u2) else (if (u2.1 8) = (196 : Int32) then (jb_Model_doNumbers_287 fu a1 u2) else (if (u2.1 8) = (192 : Int32) then (jb_Model_doNumbers_312 fu a1 u2) else (if (u2.1 8) = (194 : Int32) then (jb_Model_doNumbers_312 fu a1 u2) else (jb_Model_doNumbers_319 fu (16 : Int32) a1 u2))))))) else (if (121 : Int32) ≤ (u2.1 8) then (jb_Model_doNumbers_145 fu a1 (64 : Int32) u2) else (jb_Model_doNumbers_145 fu a1 (32 : Int32) u2))) else ((xs_seq (fm_Model_drop u2) fun a17 u18 => if (80 : Int32) ≤ (u18.1 8) then (jb_Model_doNumbers_100 fu a1 a17 ((u18.1 8) - (81 : Int32)) u18) else (jb_Model_doNumbers_100 fu a1 a17 ((u18.1 8) - (70 : Int32)) u18))))))) else ((xs_seq (fm_Model_tell (u.2.1 0) u) fun _ u22 => some ((()), u22)))
set_option maxHeartbeats 4000000 in
set_option maxRecDepth 100000 in
theorem wj_Model_doNumbers_53 {p : Program} {l : Launch} {e : Env} {s : State} {m : MethodId} {args : Array Value} {below : List Frame} {meth : Method} {c : Code} {D : va_G} {ad : Nat → Nat} {ca : Nat → ClassId} {ads : List Nat} {fu : Nat} (htr : l.stackTraces = false) (C : xk_C D kx_cl (kx_ty ca) (kw_m ad ca) ads "ModuleHouseModel" prog_14_method_123_code 7 none p e s m args meth c) (hne : c.exceptionTable.isEmpty = true) {u' : xk_St} {r : Unit} {s0 : Int64} {u : xk_St} {H : Heap} {locs : List Loc} {ls : Array Slot} (h : jb_Model_doNumbers_53 fu  s0 u = some (r, u')) (hP : va_P D kx_cl (kw_m ad ca u) H) (hS : va_S (xk_A ads s.heap.size) s.heap H locs) (hl : lv_has ls 7 []) : W p l e rm_Model_doNumbers s m args below meth c H locs 0 0 (xk_MQ below (xk_Qc D kx_cl (kw_m ad ca) ads (xo_v (.inl r)) u') args s (xk_A ads s.heap.size)) (F0 m 53 ls [.long s0, .ref (ad 0)]) := by
  have hx := C.1.1
  have hb := C.1.2.1
  have hok := C.2.2.1
  unfold jb_Model_doNumbers_53 at h
  obtain ⟨rx, u3, hq, h⟩ := xp_seq h
  refine xk_goesV (xr_V (As := [.long s0]) (rest := []) C hP hS (ct_Model_tell htr hok hq) kq_Model_737 0 11 rfl rfl ⟨rfl, rfl, Nat.le_of_ble_eq_true rfl, Nat.le_of_ble_eq_true rfl⟩ ⟨Nat.le_of_ble_eq_true rfl, Nat.le_of_ble_eq_true rfl⟩ hl.1 rfl rfl (Nat.le_of_ble_eq_true rfl) dd_Model_doNumbers_53) hS (fun H locs hP hS => ?_)
  clear hq
  refine lv_goto (tgt := 325) hx hb dd_Model_doNumbers_56 (by decide) ?_
  obtain ⟨rfl, rfl⟩ := xp_r h
  exact xr_vret C hP hS dd_Model_doNumbers_325
set_option maxHeartbeats 4000000 in
set_option maxRecDepth 100000 in
theorem wj_Model_doNumbers_41 {p : Program} {l : Launch} {e : Env} {s : State} {m : MethodId} {args : Array Value} {below : List Frame} {meth : Method} {c : Code} {D : va_G} {ad : Nat → Nat} {ca : Nat → ClassId} {ads : List Nat} {fu : Nat} (htr : l.stackTraces = false) (C : xk_C D kx_cl (kx_ty ca) (kw_m ad ca) ads "ModuleHouseModel" prog_14_method_123_code 7 none p e s m args meth c) (hne : c.exceptionTable.isEmpty = true) {u' : xk_St} {r : Unit} {b1 : Int64} {u : xk_St} {H : Heap} {locs : List Loc} {ls : Array Slot} (h : jb_Model_doNumbers_41 fu  b1 u = some (r, u')) (hP : va_P D kx_cl (kw_m ad ca u) H) (hS : va_S (xk_A ads s.heap.size) s.heap H locs) (hl : lv_has ls 7 [(0, .ref (ad 0)), (1, .long b1)]) : W p l e rm_Model_doNumbers s m args below meth c H locs 0 0 (xk_MQ below (xk_Qc D kx_cl (kw_m ad ca) ads (xo_v (.inl r)) u') args s (xk_A ads s.heap.size)) (F0 m 41 ls []) := by
  have hx := C.1.1
  have hb := C.1.2.1
  have hok := C.2.2.1
  unfold jb_Model_doNumbers_41 at h
  refine lv_aload_n hx hb dd_Model_doNumbers_41 rfl (lv_at hl 0 rfl) ?_
  refine lv_lload_n hx hb dd_Model_doNumbers_42 rfl (lv_at hl 1 rfl) ?_
  refine lv_lconst (v := 0) hx hb dd_Model_doNumbers_43 (by decide) ?_
  refine xr_lc_ne (tgt := 52) hx hb dd_Model_doNumbers_44 dd_Model_doNumbers_45 (by decide) (fun hc => ?_) (fun hc => ?_)
  · have h := xp_f hc h
    refine lv_lconst (v := 0) hx hb dd_Model_doNumbers_52 (by decide) ?_
    exact wj_Model_doNumbers_53 htr C hne h hP hS (lv_sub hl [] rfl)
  · have h := xp_t hc h
    refine lv_lconst (v := 1) hx hb dd_Model_doNumbers_48 (by decide) ?_
    refine lv_goto (tgt := 53) hx hb dd_Model_doNumbers_49 (by decide) ?_
    exact wj_Model_doNumbers_53 htr C hne h hP hS (lv_sub hl [] rfl)
set_option maxHeartbeats 4000000 in
set_option maxRecDepth 100000 in
theorem wj_Model_doNumbers_322 {p : Program} {l : Launch} {e : Env} {s : State} {m : MethodId} {args : Array Value} {below : List Frame} {meth : Method} {c : Code} {D : va_G} {ad : Nat → Nat} {ca : Nat → ClassId} {ads : List Nat} {fu : Nat} (htr : l.stackTraces = false) (C : xk_C D kx_cl (kx_ty ca) (kw_m ad ca) ads "ModuleHouseModel" prog_14_method_123_code 7 none p e s m args meth c) (hne : c.exceptionTable.isEmpty = true) {u' : xk_St} {r : Unit} {s0 : Int64} {u : xk_St} {H : Heap} {locs : List Loc} {ls : Array Slot} (h : jb_Model_doNumbers_322 fu  s0 u = some (r, u')) (hP : va_P D kx_cl (kw_m ad ca u) H) (hS : va_S (xk_A ads s.heap.size) s.heap H locs) (hl : lv_has ls 7 []) : W p l e rm_Model_doNumbers s m args below meth c H locs 0 0 (xk_MQ below (xk_Qc D kx_cl (kw_m ad ca) ads (xo_v (.inl r)) u') args s (xk_A ads s.heap.size)) (F0 m 322 ls [.long s0, .ref (ad 0)]) := by
  have hx := C.1.1
  have hb := C.1.2.1
  have hok := C.2.2.1
  unfold jb_Model_doNumbers_322 at h
  obtain ⟨rx, u6, hq, h⟩ := xp_seq h
  refine xk_goesV (xr_V (As := [.long s0]) (rest := []) C hP hS (ct_Model_tell htr hok hq) kq_Model_737 0 11 rfl rfl ⟨rfl, rfl, Nat.le_of_ble_eq_true rfl, Nat.le_of_ble_eq_true rfl⟩ ⟨Nat.le_of_ble_eq_true rfl, Nat.le_of_ble_eq_true rfl⟩ hl.1 rfl rfl (Nat.le_of_ble_eq_true rfl) dd_Model_doNumbers_322) hS (fun H locs hP hS => ?_)
  clear hq
  obtain ⟨rfl, rfl⟩ := xp_r h
  exact xr_vret C hP hS dd_Model_doNumbers_325
set_option maxHeartbeats 4000000 in
set_option maxRecDepth 100000 in
theorem wj_Model_doNumbers_319 {p : Program} {l : Launch} {e : Env} {s : State} {m : MethodId} {args : Array Value} {below : List Frame} {meth : Method} {c : Code} {D : va_G} {ad : Nat → Nat} {ca : Nat → ClassId} {ads : List Nat} {fu : Nat} (htr : l.stackTraces = false) (C : xk_C D kx_cl (kx_ty ca) (kw_m ad ca) ads "ModuleHouseModel" prog_14_method_123_code 7 none p e s m args meth c) (hne : c.exceptionTable.isEmpty = true) {u' : xk_St} {r : Unit} {s0 : Int32} {s1 : Int64} {u : xk_St} {H : Heap} {locs : List Loc} {ls : Array Slot} (h : jb_Model_doNumbers_319 fu  s0 s1 u = some (r, u')) (hP : va_P D kx_cl (kw_m ad ca u) H) (hS : va_S (xk_A ads s.heap.size) s.heap H locs) (hl : lv_has ls 7 []) : W p l e rm_Model_doNumbers s m args below meth c H locs 0 0 (xk_MQ below (xk_Qc D kx_cl (kw_m ad ca) ads (xo_v (.inl r)) u') args s (xk_A ads s.heap.size)) (F0 m 319 ls [.int s0, .long s1, .ref (ad 0)]) := by
  have hx := C.1.1
  have hb := C.1.2.1
  have hok := C.2.2.1
  unfold jb_Model_doNumbers_319 at h
  obtain ⟨a4, u5, hq, h⟩ := xp_seq h
  refine xk_goesL (xr_S (As := [.long s1, .int s0]) (rest := [.ref (ad 0)]) C hP hS (ct_Model_sx htr hok hq) kq_Model_186 ⟨rfl, rfl, Nat.le_of_ble_eq_true rfl, Nat.le_of_ble_eq_true rfl⟩ ⟨Nat.le_of_ble_eq_true rfl, Nat.le_of_ble_eq_true rfl⟩ hl.1 rfl rfl (Nat.le_of_ble_eq_true rfl) dd_Model_doNumbers_319) hS (fun H locs hP hS => ?_)
  clear hq
  exact wj_Model_doNumbers_322 htr C hne h hP hS (lv_sub hl [] rfl)
set_option maxHeartbeats 4000000 in
set_option maxRecDepth 100000 in
theorem wj_Model_doNumbers_287 {p : Program} {l : Launch} {e : Env} {s : State} {m : MethodId} {args : Array Value} {below : List Frame} {meth : Method} {c : Code} {D : va_G} {ad : Nat → Nat} {ca : Nat → ClassId} {ads : List Nat} {fu : Nat} (htr : l.stackTraces = false) (C : xk_C D kx_cl (kx_ty ca) (kw_m ad ca) ads "ModuleHouseModel" prog_14_method_123_code 7 none p e s m args meth c) (hne : c.exceptionTable.isEmpty = true) {u' : xk_St} {r : Unit} {s0 : Int64} {u : xk_St} {H : Heap} {locs : List Loc} {ls : Array Slot} (h : jb_Model_doNumbers_287 fu  s0 u = some (r, u')) (hP : va_P D kx_cl (kw_m ad ca u) H) (hS : va_S (xk_A ads s.heap.size) s.heap H locs) (hl : lv_has ls 7 []) : W p l e rm_Model_doNumbers s m args below meth c H locs 0 0 (xk_MQ below (xk_Qc D kx_cl (kw_m ad ca) ads (xo_v (.inl r)) u') args s (xk_A ads s.heap.size)) (F0 m 287 ls [.long s0, .ref (ad 0)]) := by
  have hx := C.1.1
  have hb := C.1.2.1
  have hok := C.2.2.1
  unfold jb_Model_doNumbers_287 at h
  refine lv_bipush (v := 32) hx hb dd_Model_doNumbers_287 (by decide) ?_
  refine lv_goto (tgt := 319) hx hb dd_Model_doNumbers_289 (by decide) ?_
  exact wj_Model_doNumbers_319 htr C hne h hP hS (lv_sub hl [] rfl)
set_option maxHeartbeats 4000000 in
set_option maxRecDepth 100000 in
theorem wj_Model_doNumbers_312 {p : Program} {l : Launch} {e : Env} {s : State} {m : MethodId} {args : Array Value} {below : List Frame} {meth : Method} {c : Code} {D : va_G} {ad : Nat → Nat} {ca : Nat → ClassId} {ads : List Nat} {fu : Nat} (htr : l.stackTraces = false) (C : xk_C D kx_cl (kx_ty ca) (kw_m ad ca) ads "ModuleHouseModel" prog_14_method_123_code 7 none p e s m args meth c) (hne : c.exceptionTable.isEmpty = true) {u' : xk_St} {r : Unit} {s0 : Int64} {u : xk_St} {H : Heap} {locs : List Loc} {ls : Array Slot} (h : jb_Model_doNumbers_312 fu  s0 u = some (r, u')) (hP : va_P D kx_cl (kw_m ad ca u) H) (hS : va_S (xk_A ads s.heap.size) s.heap H locs) (hl : lv_has ls 7 []) : W p l e rm_Model_doNumbers s m args below meth c H locs 0 0 (xk_MQ below (xk_Qc D kx_cl (kw_m ad ca) ads (xo_v (.inl r)) u') args s (xk_A ads s.heap.size)) (F0 m 312 ls [.long s0, .ref (ad 0)]) := by
  have hx := C.1.1
  have hb := C.1.2.1
  have hok := C.2.2.1
  unfold jb_Model_doNumbers_312 at h
  refine lv_bipush (v := 8) hx hb dd_Model_doNumbers_312 (by decide) ?_
  refine lv_goto (tgt := 319) hx hb dd_Model_doNumbers_314 (by decide) ?_
  exact wj_Model_doNumbers_319 htr C hne h hP hS (lv_sub hl [] rfl)
set_option maxHeartbeats 4000000 in
set_option maxRecDepth 100000 in
theorem wj_Model_doNumbers_223 {p : Program} {l : Launch} {e : Env} {s : State} {m : MethodId} {args : Array Value} {below : List Frame} {meth : Method} {c : Code} {D : va_G} {ad : Nat → Nat} {ca : Nat → ClassId} {ads : List Nat} {fu : Nat} (htr : l.stackTraces = false) (C : xk_C D kx_cl (kx_ty ca) (kw_m ad ca) ads "ModuleHouseModel" prog_14_method_123_code 7 none p e s m args meth c) (hne : c.exceptionTable.isEmpty = true) {u' : xk_St} {r : Unit} {s0 : Int64} {u : xk_St} {H : Heap} {locs : List Loc} {ls : Array Slot} (h : jb_Model_doNumbers_223 fu  s0 u = some (r, u')) (hP : va_P D kx_cl (kw_m ad ca u) H) (hS : va_S (xk_A ads s.heap.size) s.heap H locs) (hl : lv_has ls 7 []) : W p l e rm_Model_doNumbers s m args below meth c H locs 0 0 (xk_MQ below (xk_Qc D kx_cl (kw_m ad ca) ads (xo_v (.inl r)) u') args s (xk_A ads s.heap.size)) (F0 m 223 ls [.long s0, .ref (ad 0)]) := by
  have hx := C.1.1
  have hb := C.1.2.1
  have hok := C.2.2.1
  unfold jb_Model_doNumbers_223 at h
  obtain ⟨rx, u12, hq, h⟩ := xp_seq h
  refine xk_goesV (xr_V (As := [.long s0]) (rest := []) C hP hS (ct_Model_tell htr hok hq) kq_Model_737 0 11 rfl rfl ⟨rfl, rfl, Nat.le_of_ble_eq_true rfl, Nat.le_of_ble_eq_true rfl⟩ ⟨Nat.le_of_ble_eq_true rfl, Nat.le_of_ble_eq_true rfl⟩ hl.1 rfl rfl (Nat.le_of_ble_eq_true rfl) dd_Model_doNumbers_223) hS (fun H locs hP hS => ?_)
  clear hq
  refine lv_goto (tgt := 325) hx hb dd_Model_doNumbers_226 (by decide) ?_
  obtain ⟨rfl, rfl⟩ := xp_r h
  exact xr_vret C hP hS dd_Model_doNumbers_325
set_option maxHeartbeats 4000000 in
set_option maxRecDepth 100000 in
theorem wj_Model_doNumbers_202 {p : Program} {l : Launch} {e : Env} {s : State} {m : MethodId} {args : Array Value} {below : List Frame} {meth : Method} {c : Code} {D : va_G} {ad : Nat → Nat} {ca : Nat → ClassId} {ads : List Nat} {fu : Nat} (htr : l.stackTraces = false) (C : xk_C D kx_cl (kx_ty ca) (kw_m ad ca) ads "ModuleHouseModel" prog_14_method_123_code 7 none p e s m args meth c) (hne : c.exceptionTable.isEmpty = true) {u' : xk_St} {r : Unit} {b3 : Int32} {s0 : Int64} {u : xk_St} {H : Heap} {locs : List Loc} {ls : Array Slot} (h : jb_Model_doNumbers_202 fu  b3 s0 u = some (r, u')) (hP : va_P D kx_cl (kw_m ad ca u) H) (hS : va_S (xk_A ads s.heap.size) s.heap H locs) (hl : lv_has ls 7 [(0, .ref (ad 0)), (3, .int b3)]) : W p l e rm_Model_doNumbers s m args below meth c H locs 0 0 (xk_MQ below (xk_Qc D kx_cl (kw_m ad ca) ads (xo_v (.inl r)) u') args s (xk_A ads s.heap.size)) (F0 m 202 ls [.long s0]) := by
  have hx := C.1.1
  have hb := C.1.2.1
  have hok := C.2.2.1
  unfold jb_Model_doNumbers_202 at h
  refine lv_lstore (lv' := [(5, .long s0), (0, .ref (ad 0)), (3, .int b3)]) hx hb dd_Model_doNumbers_202 hl (by decide) rfl (fun ls hl => ?_)
  refine lv_aload_n hx hb dd_Model_doNumbers_204 rfl (lv_at hl 1 rfl) ?_
  refine lv_iload_n hx hb dd_Model_doNumbers_205 rfl (lv_at hl 2 rfl) ?_
  refine lv_bipush (v := 32) hx hb dd_Model_doNumbers_206 (by decide) ?_
  refine lv_icmp_ne (tgt := 221) hx hb dd_Model_doNumbers_208 (by decide) (fun hc => ?_) (fun hc => ?_)
  · have h := xp_f hc h
    refine lv_lload hx hb dd_Model_doNumbers_221 (lv_at hl 0 rfl) ?_
    exact wj_Model_doNumbers_223 htr C hne h hP hS (lv_sub hl [] rfl)
  · have h := xp_t hc h
    refine lv_lload hx hb dd_Model_doNumbers_211 (lv_at hl 0 rfl) ?_
    refine lv_bipush (v := 32) hx hb dd_Model_doNumbers_213 (by decide) ?_
    obtain ⟨a13, u14, hq, h⟩ := xp_seq h
    refine xk_goesL (xr_S (As := [.long s0, .int (32 : Int32)]) (rest := [.ref (ad 0)]) C hP hS (ct_Model_sx htr hok hq) kq_Model_186 ⟨rfl, rfl, Nat.le_of_ble_eq_true rfl, Nat.le_of_ble_eq_true rfl⟩ ⟨Nat.le_of_ble_eq_true rfl, Nat.le_of_ble_eq_true rfl⟩ hl.1 rfl rfl (Nat.le_of_ble_eq_true rfl) dd_Model_doNumbers_215) hS (fun H locs hP hS => ?_)
    clear hq
    refine lv_goto (tgt := 223) hx hb dd_Model_doNumbers_218 (by decide) ?_
    exact wj_Model_doNumbers_223 htr C hne h hP hS (lv_sub hl [] rfl)
set_option maxHeartbeats 4000000 in
set_option maxRecDepth 100000 in
theorem wj_Model_doNumbers_172 {p : Program} {l : Launch} {e : Env} {s : State} {m : MethodId} {args : Array Value} {below : List Frame} {meth : Method} {c : Code} {D : va_G} {ad : Nat → Nat} {ca : Nat → ClassId} {ads : List Nat} {fu : Nat} (htr : l.stackTraces = false) (C : xk_C D kx_cl (kx_ty ca) (kw_m ad ca) ads "ModuleHouseModel" prog_14_method_123_code 7 none p e s m args meth c) (hne : c.exceptionTable.isEmpty = true) {u' : xk_St} {r : Unit} {b1 : Int64} {b3 : Int32} {s0 : Int32} {u : xk_St} {H : Heap} {locs : List Loc} {ls : Array Slot} (h : jb_Model_doNumbers_172 fu  b1 b3 s0 u = some (r, u')) (hP : va_P D kx_cl (kw_m ad ca u) H) (hS : va_S (xk_A ads s.heap.size) s.heap H locs) (hl : lv_has ls 7 [(0, .ref (ad 0)), (1, .long b1), (3, .int b3)]) : W p l e rm_Model_doNumbers s m args below meth c H locs 0 0 (xk_MQ below (xk_Qc D kx_cl (kw_m ad ca) ads (xo_v (.inl r)) u') args s (xk_A ads s.heap.size)) (F0 m 172 ls [.int s0]) := by
  have hx := C.1.1
  have hb := C.1.2.1
  have hok := C.2.2.1
  unfold jb_Model_doNumbers_172 at h
  refine lv_istore (lv' := [(4, .int s0), (0, .ref (ad 0)), (1, .long b1), (3, .int b3)]) hx hb dd_Model_doNumbers_172 hl (by decide) rfl (fun ls hl => ?_)
  refine lv_iload hx hb dd_Model_doNumbers_174 (lv_at hl 0 rfl) ?_
  refine lv_iconst (v := 3) hx hb dd_Model_doNumbers_176 (by decide) ?_
  refine lv_icmp_ge (tgt := 190) hx hb dd_Model_doNumbers_177 (by decide) (fun hc => ?_) (fun hc => ?_)
  · have h := xp_t hc h
    refine lv_aload_n hx hb dd_Model_doNumbers_190 rfl (lv_at hl 1 rfl) ?_
    refine lv_iload hx hb dd_Model_doNumbers_191 (lv_at hl 0 rfl) ?_
    refine lv_aload_n hx hb dd_Model_doNumbers_193 rfl (lv_at hl 1 rfl) ?_
    obtain ⟨a8, u9, hq, h⟩ := xp_seq h
    refine xk_goesL (xr_V (As := []) (rest := [.int s0, .ref (ad 0)]) C hP hS (ct_Model_drop htr hok hq) kq_Model_725 0 11 rfl rfl ⟨rfl, rfl, Nat.le_of_ble_eq_true rfl, Nat.le_of_ble_eq_true rfl⟩ ⟨Nat.le_of_ble_eq_true rfl, Nat.le_of_ble_eq_true rfl⟩ hl.1 rfl rfl (Nat.le_of_ble_eq_true rfl) dd_Model_doNumbers_194) hS (fun H locs hP hS => ?_)
    clear hq
    refine lv_lload_n hx hb dd_Model_doNumbers_197 rfl (lv_at hl 2 rfl) ?_
    refine lv_iload_n hx hb dd_Model_doNumbers_198 rfl (lv_at hl 3 rfl) ?_
    obtain ⟨a10, u11, hq, h⟩ := xp_seq h
    refine xk_goesL (xr_V (As := [.int s0, .long a8, .long b1, .int b3]) (rest := []) C hP hS (ct_Model_reckoned htr hok hq) kq_Model_774 0 11 rfl rfl ⟨rfl, rfl, Nat.le_of_ble_eq_true rfl, Nat.le_of_ble_eq_true rfl⟩ ⟨Nat.le_of_ble_eq_true rfl, Nat.le_of_ble_eq_true rfl⟩ hl.1 rfl rfl (Nat.le_of_ble_eq_true rfl) dd_Model_doNumbers_199) hS (fun H locs hP hS => ?_)
    clear hq
    exact wj_Model_doNumbers_202 htr C hne h hP hS (lv_sub hl [1, 3] rfl)
  · have h := xp_f hc h
    refine lv_iload hx hb dd_Model_doNumbers_180 (lv_at hl 0 rfl) ?_
    refine lv_lload_n hx hb dd_Model_doNumbers_182 rfl (lv_at hl 2 rfl) ?_
    refine lv_iload_n hx hb dd_Model_doNumbers_183 rfl (lv_at hl 3 rfl) ?_
    obtain ⟨a15, u16, hq, h⟩ := xp_seq h
    refine xk_goesL (xr_S (As := [.int s0, .long b1, .int b3]) (rest := []) C hP hS (ct_Model_counted htr hok hq) kq_Model_770 ⟨rfl, rfl, Nat.le_of_ble_eq_true rfl, Nat.le_of_ble_eq_true rfl⟩ ⟨Nat.le_of_ble_eq_true rfl, Nat.le_of_ble_eq_true rfl⟩ hl.1 rfl rfl (Nat.le_of_ble_eq_true rfl) dd_Model_doNumbers_184) hS (fun H locs hP hS => ?_)
    clear hq
    refine lv_goto (tgt := 202) hx hb dd_Model_doNumbers_187 (by decide) ?_
    exact wj_Model_doNumbers_202 htr C hne h hP hS (lv_sub hl [1, 3] rfl)
set_option maxHeartbeats 4000000 in
set_option maxRecDepth 100000 in
theorem wj_Model_doNumbers_145 {p : Program} {l : Launch} {e : Env} {s : State} {m : MethodId} {args : Array Value} {below : List Frame} {meth : Method} {c : Code} {D : va_G} {ad : Nat → Nat} {ca : Nat → ClassId} {ads : List Nat} {fu : Nat} (htr : l.stackTraces = false) (C : xk_C D kx_cl (kx_ty ca) (kw_m ad ca) ads "ModuleHouseModel" prog_14_method_123_code 7 none p e s m args meth c) (hne : c.exceptionTable.isEmpty = true) {u' : xk_St} {r : Unit} {b1 : Int64} {s0 : Int32} {u : xk_St} {H : Heap} {locs : List Loc} {ls : Array Slot} (h : jb_Model_doNumbers_145 fu  b1 s0 u = some (r, u')) (hP : va_P D kx_cl (kw_m ad ca u) H) (hS : va_S (xk_A ads s.heap.size) s.heap H locs) (hl : lv_has ls 7 [(0, .ref (ad 0)), (1, .long b1)]) : W p l e rm_Model_doNumbers s m args below meth c H locs 0 0 (xk_MQ below (xk_Qc D kx_cl (kw_m ad ca) ads (xo_v (.inl r)) u') args s (xk_A ads s.heap.size)) (F0 m 145 ls [.int s0]) := by
  have hx := C.1.1
  have hb := C.1.2.1
  have hok := C.2.2.1
  unfold jb_Model_doNumbers_145 at h
  refine lv_istore_n (lv' := [(3, .int s0), (0, .ref (ad 0)), (1, .long b1)]) hx hb dd_Model_doNumbers_145 rfl hl (by decide) rfl (fun ls hl => ?_)
  refine lv_aload_n hx hb dd_Model_doNumbers_146 rfl (lv_at hl 1 rfl) ?_
  refine gf_m_Model_0_op C hP dd_Model_doNumbers_147 ?_
  refine lv_bipush (v := 121) hx hb dd_Model_doNumbers_150 (by decide) ?_
  refine lv_icmp_ge (tgt := 165) hx hb dd_Model_doNumbers_152 (by decide) (fun hc => ?_) (fun hc => ?_)
  · have h := xp_t hc h
    refine lv_aload_n hx hb dd_Model_doNumbers_165 rfl (lv_at hl 1 rfl) ?_
    refine gf_m_Model_0_op C hP dd_Model_doNumbers_166 ?_
    refine lv_bipush (v := 121) hx hb dd_Model_doNumbers_169 (by decide) ?_
    refine lv_isub hx hb dd_Model_doNumbers_171 ?_
    exact wj_Model_doNumbers_172 htr C hne h hP hS (lv_sub hl [1, 2, 0] rfl)
  · have h := xp_f hc h
    refine lv_aload_n hx hb dd_Model_doNumbers_155 rfl (lv_at hl 1 rfl) ?_
    refine gf_m_Model_0_op C hP dd_Model_doNumbers_156 ?_
    refine lv_bipush (v := 103) hx hb dd_Model_doNumbers_159 (by decide) ?_
    refine lv_isub hx hb dd_Model_doNumbers_161 ?_
    refine lv_goto (tgt := 172) hx hb dd_Model_doNumbers_162 (by decide) ?_
    exact wj_Model_doNumbers_172 htr C hne h hP hS (lv_sub hl [1, 2, 0] rfl)
set_option maxHeartbeats 4000000 in
set_option maxRecDepth 100000 in
theorem wj_Model_doNumbers_113 {p : Program} {l : Launch} {e : Env} {s : State} {m : MethodId} {args : Array Value} {below : List Frame} {meth : Method} {c : Code} {D : va_G} {ad : Nat → Nat} {ca : Nat → ClassId} {ads : List Nat} {fu : Nat} (htr : l.stackTraces = false) (C : xk_C D kx_cl (kx_ty ca) (kw_m ad ca) ads "ModuleHouseModel" prog_14_method_123_code 7 none p e s m args meth c) (hne : c.exceptionTable.isEmpty = true) {u' : xk_St} {r : Unit} {s0 : Int64} {u : xk_St} {H : Heap} {locs : List Loc} {ls : Array Slot} (h : jb_Model_doNumbers_113 fu  s0 u = some (r, u')) (hP : va_P D kx_cl (kw_m ad ca u) H) (hS : va_S (xk_A ads s.heap.size) s.heap H locs) (hl : lv_has ls 7 []) : W p l e rm_Model_doNumbers s m args below meth c H locs 0 0 (xk_MQ below (xk_Qc D kx_cl (kw_m ad ca) ads (xo_v (.inl r)) u') args s (xk_A ads s.heap.size)) (F0 m 113 ls [.long s0, .ref (ad 0)]) := by
  have hx := C.1.1
  have hb := C.1.2.1
  have hok := C.2.2.1
  unfold jb_Model_doNumbers_113 at h
  obtain ⟨rx, u21, hq, h⟩ := xp_seq h
  refine xk_goesV (xr_V (As := [.long s0]) (rest := []) C hP hS (ct_Model_tell htr hok hq) kq_Model_737 0 11 rfl rfl ⟨rfl, rfl, Nat.le_of_ble_eq_true rfl, Nat.le_of_ble_eq_true rfl⟩ ⟨Nat.le_of_ble_eq_true rfl, Nat.le_of_ble_eq_true rfl⟩ hl.1 rfl rfl (Nat.le_of_ble_eq_true rfl) dd_Model_doNumbers_113) hS (fun H locs hP hS => ?_)
  clear hq
  refine lv_goto (tgt := 325) hx hb dd_Model_doNumbers_116 (by decide) ?_
  obtain ⟨rfl, rfl⟩ := xp_r h
  exact xr_vret C hP hS dd_Model_doNumbers_325
set_option maxHeartbeats 4000000 in
set_option maxRecDepth 100000 in
theorem wj_Model_doNumbers_100 {p : Program} {l : Launch} {e : Env} {s : State} {m : MethodId} {args : Array Value} {below : List Frame} {meth : Method} {c : Code} {D : va_G} {ad : Nat → Nat} {ca : Nat → ClassId} {ads : List Nat} {fu : Nat} (htr : l.stackTraces = false) (C : xk_C D kx_cl (kx_ty ca) (kw_m ad ca) ads "ModuleHouseModel" prog_14_method_123_code 7 none p e s m args meth c) (hne : c.exceptionTable.isEmpty = true) {u' : xk_St} {r : Unit} {b1 : Int64} {b3 : Int64} {s0 : Int32} {u : xk_St} {H : Heap} {locs : List Loc} {ls : Array Slot} (h : jb_Model_doNumbers_100 fu  b1 b3 s0 u = some (r, u')) (hP : va_P D kx_cl (kw_m ad ca u) H) (hS : va_S (xk_A ads s.heap.size) s.heap H locs) (hl : lv_has ls 7 [(1, .long b1), (3, .long b3)]) : W p l e rm_Model_doNumbers s m args below meth c H locs 0 0 (xk_MQ below (xk_Qc D kx_cl (kw_m ad ca) ads (xo_v (.inl r)) u') args s (xk_A ads s.heap.size)) (F0 m 100 ls [.int s0, .ref (ad 0)]) := by
  have hx := C.1.1
  have hb := C.1.2.1
  have hok := C.2.2.1
  unfold jb_Model_doNumbers_100 at h
  refine lv_lload_n hx hb dd_Model_doNumbers_100 rfl (lv_at hl 1 rfl) ?_
  refine lv_lload_n hx hb dd_Model_doNumbers_101 rfl (lv_at hl 0 rfl) ?_
  obtain ⟨a19, u20, hq, h⟩ := xp_seq h
  refine xk_goesI (xr_S (As := [.int s0, .long b3, .long b1]) (rest := [.ref (ad 0)]) C hP hS (ct_Model_compares htr hok hq) kq_Model_766 ⟨rfl, rfl, Nat.le_of_ble_eq_true rfl, Nat.le_of_ble_eq_true rfl⟩ ⟨Nat.le_of_ble_eq_true rfl, Nat.le_of_ble_eq_true rfl⟩ hl.1 rfl rfl (Nat.le_of_ble_eq_true rfl) dd_Model_doNumbers_102) hS (fun H locs hP hS => ?_)
  clear hq
  refine lv_if_eq (tgt := 112) hx hb dd_Model_doNumbers_105 (by decide) (fun hc => ?_) (fun hc => ?_)
  · have h := xp_t hc h
    refine lv_lconst (v := 0) hx hb dd_Model_doNumbers_112 (by decide) ?_
    exact wj_Model_doNumbers_113 htr C hne h hP hS (lv_sub hl [] rfl)
  · have h := xp_f hc h
    refine lv_lconst (v := 1) hx hb dd_Model_doNumbers_108 (by decide) ?_
    refine lv_goto (tgt := 113) hx hb dd_Model_doNumbers_109 (by decide) ?_
    exact wj_Model_doNumbers_113 htr C hne h hP hS (lv_sub hl [] rfl)
set_option maxHeartbeats 4000000 in
set_option maxRecDepth 100000 in
theorem ct_Model_doNumbers {l : Launch} {D : va_G} {ad : Nat → Nat} {ca : Nat → ClassId} {ads : List Nat} (htr : l.stackTraces = false) (hok : xk_ok (kw_m ad ca) ads) {fu : Nat} {u u' : xk_St} {r : Unit} (h : fm_Model_doNumbers fu u = some (r, u')) :
    ∀ sz, xk_Met l ⟨"ModuleHouseModel", "doNumbers", "()V"⟩ (Cond.code ⟨"ModuleHouseModel", "doNumbers", "()V"⟩ prog_14_method_123_code 7 none :: xk_gd) rm_Model_doNumbers (xk_Pc D kx_cl (kx_ty ca) (kw_m ad ca) ads xk_F sz [.ref (ad 0)] u) (xk_Qc D kx_cl (kw_m ad ca) ads (xo_v (.inl r)) u') (xk_A ads sz) := by
  unfold fm_Model_doNumbers at h
  refine xk_con (by decide) htr hok (Nat.le_of_ble_eq_true rfl) (fun p e s m below meth c ls C hne hl hP => ?_)
  have hx := C.1.1
  have hb := C.1.2.1
  have hS : va_S (xk_A ads s.heap.size) s.heap s.heap [] := va_S.rf
  have hl : lv_has ls 7 [(0, .ref (ad 0))] := hl
  refine lv_aload_n hx hb dd_Model_doNumbers_0 rfl (lv_at hl 0 rfl) ?_
  refine gf_m_Model_0_op C hP dd_Model_doNumbers_1 ?_
  refine lv_bipush (v := 67) hx hb dd_Model_doNumbers_4 (by decide) ?_
  refine lv_icmp_ge (tgt := 18) hx hb dd_Model_doNumbers_6 (by decide) (fun hc => ?_) (fun hc => ?_)
  · have h := xp_t hc h
    refine lv_aload_n hx hb dd_Model_doNumbers_18 rfl (lv_at hl 0 rfl) ?_
    obtain ⟨a1, u2, hq, h⟩ := xp_seq h
    refine xk_goesL (xr_V (As := []) (rest := []) C hP hS (ct_Model_drop htr hok hq) kq_Model_725 0 11 rfl rfl ⟨rfl, rfl, Nat.le_of_ble_eq_true rfl, Nat.le_of_ble_eq_true rfl⟩ ⟨Nat.le_of_ble_eq_true rfl, Nat.le_of_ble_eq_true rfl⟩ hl.1 rfl rfl (Nat.le_of_ble_eq_true rfl) dd_Model_doNumbers_19) hS (fun H locs hP hS => ?_)
    clear hq
    refine lv_lstore_n (lv' := [(1, .long a1), (0, .ref (ad 0))]) hx hb dd_Model_doNumbers_22 rfl hl (by decide) rfl (fun ls hl => ?_)
    refine lv_aload_n hx hb dd_Model_doNumbers_23 rfl (lv_at hl 1 rfl) ?_
    refine gf_m_Model_0_op C hP dd_Model_doNumbers_24 ?_
    refine lv_bipush (v := 69) hx hb dd_Model_doNumbers_27 (by decide) ?_
    refine lv_icmp_eq (tgt := 41) hx hb dd_Model_doNumbers_29 (by decide) (fun hc => ?_) (fun hc => ?_)
    · have h := xp_t hc h
      exact wj_Model_doNumbers_41 htr C hne h hP hS (lv_sub hl [1, 0] rfl)
    · have h := xp_f hc h
      refine lv_aload_n hx hb dd_Model_doNumbers_32 rfl (lv_at hl 1 rfl) ?_
      refine gf_m_Model_0_op C hP dd_Model_doNumbers_33 ?_
      refine lv_bipush (v := 80) hx hb dd_Model_doNumbers_36 (by decide) ?_
      refine lv_icmp_ne (tgt := 59) hx hb dd_Model_doNumbers_38 (by decide) (fun hc => ?_) (fun hc => ?_)
      · have h := xp_f hc h
        refine lv_aload_n hx hb dd_Model_doNumbers_59 rfl (lv_at hl 1 rfl) ?_
        refine gf_m_Model_0_op C hP dd_Model_doNumbers_60 ?_
        refine lv_bipush (v := 91) hx hb dd_Model_doNumbers_63 (by decide) ?_
        refine lv_icmp_ge (tgt := 119) hx hb dd_Model_doNumbers_65 (by decide) (fun hc => ?_) (fun hc => ?_)
        · have h := xp_t hc h
          refine lv_aload_n hx hb dd_Model_doNumbers_119 rfl (lv_at hl 1 rfl) ?_
          refine gf_m_Model_0_op C hP dd_Model_doNumbers_120 ?_
          refine lv_sipush (v := 139) hx hb dd_Model_doNumbers_123 (by decide) ?_
          refine lv_icmp_ge (tgt := 229) hx hb dd_Model_doNumbers_126 (by decide) (fun hc => ?_) (fun hc => ?_)
          · have h := xp_t hc h
            refine lv_aload_n hx hb dd_Model_doNumbers_229 rfl (lv_at hl 1 rfl) ?_
            refine gf_m_Model_0_op C hP dd_Model_doNumbers_230 ?_
            refine lv_sipush (v := 173) hx hb dd_Model_doNumbers_233 (by decide) ?_
            refine lv_icmp_ne (tgt := 251) hx hb dd_Model_doNumbers_236 (by decide) (fun hc => ?_) (fun hc => ?_)
            · have h := xp_f hc h
              refine lv_aload_n hx hb dd_Model_doNumbers_251 rfl (lv_at hl 1 rfl) ?_
              refine lv_aload_n hx hb dd_Model_doNumbers_252 rfl (lv_at hl 1 rfl) ?_
              refine gf_m_Model_0_op C hP dd_Model_doNumbers_253 ?_
              refine lv_sipush (v := 172) hx hb dd_Model_doNumbers_256 (by decide) ?_
              refine lv_icmp_ne (tgt := 266) hx hb dd_Model_doNumbers_259 (by decide) (fun hc => ?_) (fun hc => ?_)
              · have h := xp_f hc h
                refine lv_lload_n hx hb dd_Model_doNumbers_266 rfl (lv_at hl 0 rfl) ?_
                refine lv_aload_n hx hb dd_Model_doNumbers_267 rfl (lv_at hl 1 rfl) ?_
                refine gf_m_Model_0_op C hP dd_Model_doNumbers_268 ?_
                refine lv_sipush (v := 167) hx hb dd_Model_doNumbers_271 (by decide) ?_
                refine lv_icmp_eq (tgt := 287) hx hb dd_Model_doNumbers_274 (by decide) (fun hc => ?_) (fun hc => ?_)
                · have h := xp_t hc h
                  exact wj_Model_doNumbers_287 htr C hne h hP hS (lv_sub hl [] rfl)
                · have h := xp_f hc h
                  refine lv_aload_n hx hb dd_Model_doNumbers_277 rfl (lv_at hl 1 rfl) ?_
                  refine gf_m_Model_0_op C hP dd_Model_doNumbers_278 ?_
                  refine lv_sipush (v := 196) hx hb dd_Model_doNumbers_281 (by decide) ?_
                  refine lv_icmp_ne (tgt := 292) hx hb dd_Model_doNumbers_284 (by decide) (fun hc => ?_) (fun hc => ?_)
                  · have h := xp_f hc h
                    refine lv_aload_n hx hb dd_Model_doNumbers_292 rfl (lv_at hl 1 rfl) ?_
                    refine gf_m_Model_0_op C hP dd_Model_doNumbers_293 ?_
                    refine lv_sipush (v := 192) hx hb dd_Model_doNumbers_296 (by decide) ?_
                    refine lv_icmp_eq (tgt := 312) hx hb dd_Model_doNumbers_299 (by decide) (fun hc => ?_) (fun hc => ?_)
                    · have h := xp_t hc h
                      exact wj_Model_doNumbers_312 htr C hne h hP hS (lv_sub hl [] rfl)
                    · have h := xp_f hc h
                      refine lv_aload_n hx hb dd_Model_doNumbers_302 rfl (lv_at hl 1 rfl) ?_
                      refine gf_m_Model_0_op C hP dd_Model_doNumbers_303 ?_
                      refine lv_sipush (v := 194) hx hb dd_Model_doNumbers_306 (by decide) ?_
                      refine lv_icmp_ne (tgt := 317) hx hb dd_Model_doNumbers_309 (by decide) (fun hc => ?_) (fun hc => ?_)
                      · have h := xp_f hc h
                        refine lv_bipush (v := 16) hx hb dd_Model_doNumbers_317 (by decide) ?_
                        exact wj_Model_doNumbers_319 htr C hne h hP hS (lv_sub hl [] rfl)
                      · have h := xp_t hc h
                        exact wj_Model_doNumbers_312 htr C hne h hP hS (lv_sub hl [] rfl)
                  · have h := xp_t hc h
                    exact wj_Model_doNumbers_287 htr C hne h hP hS (lv_sub hl [] rfl)
              · have h := xp_t hc h
                refine lv_lload_n hx hb dd_Model_doNumbers_262 rfl (lv_at hl 0 rfl) ?_
                refine lv_goto (tgt := 322) hx hb dd_Model_doNumbers_263 (by decide) ?_
                exact wj_Model_doNumbers_322 htr C hne h hP hS (lv_sub hl [] rfl)
            · have h := xp_t hc h
              refine lv_aload_n hx hb dd_Model_doNumbers_239 rfl (lv_at hl 1 rfl) ?_
              refine lv_lload_n hx hb dd_Model_doNumbers_240 rfl (lv_at hl 0 rfl) ?_
              refine lv_ldc2 (v := 4294967295) hx hb C.1.2.2.2.1 (C.1.2.2.2.2 _ (xk_c9 (w := Jvm.Cond.constantLong "ModuleHouseModel" 182 4294967295) 103 rfl rfl)) dd_Model_doNumbers_241 ?_
              refine lv_land hx hb dd_Model_doNumbers_244 ?_
              obtain ⟨rx, u7, hq, h⟩ := xp_seq h
              refine xk_goesV (xr_V (As := [.long (a1 &&& (4294967295 : Int64))]) (rest := []) C hP hS (ct_Model_tell htr hok hq) kq_Model_737 0 11 rfl rfl ⟨rfl, rfl, Nat.le_of_ble_eq_true rfl, Nat.le_of_ble_eq_true rfl⟩ ⟨Nat.le_of_ble_eq_true rfl, Nat.le_of_ble_eq_true rfl⟩ hl.1 rfl rfl (Nat.le_of_ble_eq_true rfl) dd_Model_doNumbers_245) hS (fun H locs hP hS => ?_)
              clear hq
              refine lv_goto (tgt := 325) hx hb dd_Model_doNumbers_248 (by decide) ?_
              obtain ⟨rfl, rfl⟩ := xp_r h
              exact xr_vret C hP hS dd_Model_doNumbers_325
          · have h := xp_f hc h
            refine lv_aload_n hx hb dd_Model_doNumbers_129 rfl (lv_at hl 1 rfl) ?_
            refine gf_m_Model_0_op C hP dd_Model_doNumbers_130 ?_
            refine lv_bipush (v := 121) hx hb dd_Model_doNumbers_133 (by decide) ?_
            refine lv_icmp_ge (tgt := 143) hx hb dd_Model_doNumbers_135 (by decide) (fun hc => ?_) (fun hc => ?_)
            · have h := xp_t hc h
              refine lv_bipush (v := 64) hx hb dd_Model_doNumbers_143 (by decide) ?_
              exact wj_Model_doNumbers_145 htr C hne h hP hS (lv_sub hl [1, 0] rfl)
            · have h := xp_f hc h
              refine lv_bipush (v := 32) hx hb dd_Model_doNumbers_138 (by decide) ?_
              refine lv_goto (tgt := 145) hx hb dd_Model_doNumbers_140 (by decide) ?_
              exact wj_Model_doNumbers_145 htr C hne h hP hS (lv_sub hl [1, 0] rfl)
        · have h := xp_f hc h
          refine lv_aload_n hx hb dd_Model_doNumbers_68 rfl (lv_at hl 1 rfl) ?_
          obtain ⟨a17, u18, hq, h⟩ := xp_seq h
          refine xk_goesL (xr_V (As := []) (rest := []) C hP hS (ct_Model_drop htr hok hq) kq_Model_725 0 11 rfl rfl ⟨rfl, rfl, Nat.le_of_ble_eq_true rfl, Nat.le_of_ble_eq_true rfl⟩ ⟨Nat.le_of_ble_eq_true rfl, Nat.le_of_ble_eq_true rfl⟩ hl.1 rfl rfl (Nat.le_of_ble_eq_true rfl) dd_Model_doNumbers_69) hS (fun H locs hP hS => ?_)
          clear hq
          refine lv_lstore_n (lv' := [(3, .long a17), (1, .long a1), (0, .ref (ad 0))]) hx hb dd_Model_doNumbers_72 rfl hl (by decide) rfl (fun ls hl => ?_)
          refine lv_aload_n hx hb dd_Model_doNumbers_73 rfl (lv_at hl 2 rfl) ?_
          refine lv_aload_n hx hb dd_Model_doNumbers_74 rfl (lv_at hl 2 rfl) ?_
          refine gf_m_Model_0_op C hP dd_Model_doNumbers_75 ?_
          refine lv_bipush (v := 80) hx hb dd_Model_doNumbers_78 (by decide) ?_
          refine lv_icmp_ge (tgt := 93) hx hb dd_Model_doNumbers_80 (by decide) (fun hc => ?_) (fun hc => ?_)
          · have h := xp_t hc h
            refine lv_aload_n hx hb dd_Model_doNumbers_93 rfl (lv_at hl 2 rfl) ?_
            refine gf_m_Model_0_op C hP dd_Model_doNumbers_94 ?_
            refine lv_bipush (v := 81) hx hb dd_Model_doNumbers_97 (by decide) ?_
            refine lv_isub hx hb dd_Model_doNumbers_99 ?_
            exact wj_Model_doNumbers_100 htr C hne h hP hS (lv_sub hl [1, 0] rfl)
          · have h := xp_f hc h
            refine lv_aload_n hx hb dd_Model_doNumbers_83 rfl (lv_at hl 2 rfl) ?_
            refine gf_m_Model_0_op C hP dd_Model_doNumbers_84 ?_
            refine lv_bipush (v := 70) hx hb dd_Model_doNumbers_87 (by decide) ?_
            refine lv_isub hx hb dd_Model_doNumbers_89 ?_
            refine lv_goto (tgt := 100) hx hb dd_Model_doNumbers_90 (by decide) ?_
            exact wj_Model_doNumbers_100 htr C hne h hP hS (lv_sub hl [1, 0] rfl)
      · have h := xp_t hc h
        exact wj_Model_doNumbers_41 htr C hne h hP hS (lv_sub hl [1, 0] rfl)
  · have h := xp_f hc h
    refine lv_aload_n hx hb dd_Model_doNumbers_9 rfl (lv_at hl 0 rfl) ?_
    refine lv_aload_n hx hb dd_Model_doNumbers_10 rfl (lv_at hl 0 rfl) ?_
    refine gf_m_Model_0_x C hP dd_Model_doNumbers_11 ?_
    obtain ⟨rx, u22, hq, h⟩ := xp_seq h
    refine xk_goesV (xr_V (As := [.long (u.2.1 0)]) (rest := []) C hP hS (ct_Model_tell htr hok hq) kq_Model_737 0 11 rfl rfl ⟨rfl, rfl, Nat.le_of_ble_eq_true rfl, Nat.le_of_ble_eq_true rfl⟩ ⟨Nat.le_of_ble_eq_true rfl, Nat.le_of_ble_eq_true rfl⟩ hl.1 rfl rfl (Nat.le_of_ble_eq_true rfl) dd_Model_doNumbers_14) hS (fun H locs hP hS => ?_)
    clear hq
    obtain ⟨rfl, rfl⟩ := xp_r h
    exact xr_vret C hP hS dd_Model_doNumbers_17
