abbrev rm_Model_globalRow : Room := { frames := 6, cells := 1, slots := 6, locals := 111 }
noncomputable def jb_Model_globalRow_127 (fu : Nat) (k14 : Int32 → Int32 → xk_St → Option (Unit × xk_St)) (b1 : Int32) (b2 : Int32) (s0 : Int64) (s1 : Int32) (u : xk_St) : Option (Unit × xk_St) :=
  (if s1 < 0 ∨ 64 ≤ s1.toNatClampNeg then none else xs_let (xs_B u 2 s1.toNatClampNeg s0) fun u17 => xs_let (xs_I u17 18 ((u17.1 18) + (1 : Int32))) fun u18 => xs_let (b2 + (1 : Int32)) fun a19 => k14 b1 a19 u18)
noncomputable def jb_Model_globalRow_104 (fu : Nat) (k14 : Int32 → Int32 → xk_St → Option (Unit × xk_St)) (b1 : Int32) (b2 : Int32) (b3 : Int32) (s0 : Int32) (u : xk_St) : Option (Unit × xk_St) :=
  (if s0 = 0 ∨ s0 = 1 then ( xs_let (xs_I u 7 s0) fun u14 => xs_seq (fm_Model_isReference b3 u14) fun a15 u16 => if a15 = (0 : Int32) then (jb_Model_globalRow_127 fu k14 b1 b2 (u16.2.1 0) b2 u16) else (jb_Model_globalRow_127 fu k14 b1 b2 (0 : Int64) b2 u16)  ) else none)
noncomputable def jb_Model_globalRow_99 (fu : Nat) (k14 : Int32 → Int32 → xk_St → Option (Unit × xk_St)) (b1 : Int32) (b2 : Int32) (b3 : Int32) (u : xk_St) : Option (Unit × xk_St) :=
  jb_Model_globalRow_104 fu k14 b1 b2 b3 (1 : Int32) u
noncomputable def jb_Model_globalRow_56 (fu : Nat) (k14 : Int32 → Int32 → xk_St → Option (Unit × xk_St)) (b1 : Int32) (b2 : Int32) (b3 : Int32) (s0 : Int32) (s1 : Int32) (u : xk_St) : Option (Unit × xk_St) :=
  (if s1 < 0 ∨ 64 ≤ s1.toNatClampNeg then none else xs_let (xs_A u 15 s1.toNatClampNeg (vp_nar .boolean s0)) fun u9 => xs_seq (fm_Model_constant fu u9) fun a10 u11 => xs_seq (fm_Model_isThere b3 (u11.1 12) u11) fun a12 u13 => if a12 = (0 : Int32) then (jb_Model_globalRow_99 fu k14 b1 b2 b3 u13) else ((xs_seq (fm_Model_isThere a10 (u13.1 12) u13) fun a20 u21 => if a20 = (0 : Int32) then (jb_Model_globalRow_99 fu k14 b1 b2 b3 u21) else ((xs_seq (fm_Model_fits a10 b3 u21) fun a22 u23 => if a22 = (0 : Int32) then (jb_Model_globalRow_99 fu k14 b1 b2 b3 u23) else (jb_Model_globalRow_104 fu k14 b1 b2 b3 (0 : Int32) u23))))))
noncomputable def jb_Model_globalRow_14 (fu : Nat) : Nat → Int32 → Int32 → xk_St → Option (Unit × xk_St)
  | 0 => fun _ _ _ => none
  | n + 1 => fun b1 b2 u =>
    xs_let (jb_Model_globalRow_14 fu  n) fun k14 =>
    if b1 ≤ b2 then (some ((()), u)) else (if (u.1 7) = (0 : Int32) then ((xs_seq (fm_Model_valueType fu u) fun a4 u5 => if b2 < 0 ∨ 64 ≤ b2.toNatClampNeg then none else xs_let (xs_A u5 14 b2.toNatClampNeg a4) fun u6 => xs_seq (fm_Model_flag u6) fun a7 u8 => if a7 = (1 : Int32) then (jb_Model_globalRow_56 fu k14 b1 b2 a4 (1 : Int32) b2 u8) else (jb_Model_globalRow_56 fu k14 b1 b2 a4 (0 : Int32) b2 u8))) else (some ((()), u)))
noncomputable def fm_Model_globalRow (fu : Nat) (u : xk_St) : Option (Unit × xk_St) :=
  (xs_let (xs_I u 18 (0 : Int32)) fun u1 => xs_seq (fm_Model_rowOf fu (6 : Int32) u1) fun a2 u3 => jb_Model_globalRow_14 fu fu a2 (0 : Int32) u3)
set_option maxHeartbeats 4000000 in
set_option maxRecDepth 100000 in
theorem wj_Model_globalRow_127 {p : Program} {l : Launch} {e : Env} {s : State} {m : MethodId} {args : Array Value} {below : List Frame} {meth : Method} {c : Code} {D : va_G} {ad : Nat → Nat} {ca : Nat → ClassId} {ads : List Nat} {fu : Nat} (htr : l.stackTraces = false) (C : xk_C D kx_cl (kx_ty ca) (kw_m ad ca) ads "ModuleHouseModel" prog_14_method_50_code 5 none p e s m args meth c) (hne : c.exceptionTable.isEmpty = true) {u' : xk_St} {r : Unit} {k14 : Int32 → Int32 → xk_St → Option (Unit × xk_St)} (hk14 : ∀ (c0 : Int32) (c1 : Int32) (u : xk_St) (H : Heap) (locs : List Loc) (ls : Array Slot), k14 c0 c1 u = some (r, u') → va_P D kx_cl (kw_m ad ca u) H → va_S (xk_A ads s.heap.size) s.heap H locs → lv_has ls 5 [(0, .ref (ad 0)), (1, .int c0), (2, .int c1)] → W p l e rm_Model_globalRow s m args below meth c H locs 0 0 (xk_MQ below (xk_Qc D kx_cl (kw_m ad ca) ads (xo_v (.inl r)) u') args s (xk_A ads s.heap.size)) (F0 m 14 ls [])) {b1 : Int32} {b2 : Int32} {s0 : Int64} {s1 : Int32} {u : xk_St} {H : Heap} {locs : List Loc} {ls : Array Slot} (h : jb_Model_globalRow_127 fu k14 b1 b2 s0 s1 u = some (r, u')) (hP : va_P D kx_cl (kw_m ad ca u) H) (hS : va_S (xk_A ads s.heap.size) s.heap H locs) (hl : lv_has ls 5 [(0, .ref (ad 0)), (1, .int b1), (2, .int b2)]) : W p l e rm_Model_globalRow s m args below meth c H locs 0 0 (xk_MQ below (xk_Qc D kx_cl (kw_m ad ca) ads (xo_v (.inl r)) u') args s (xk_A ads s.heap.size)) (F0 m 127 ls [.long s0, .int s1, .ref (ad 30)]) := by
  have hx := C.1.1
  have hb := C.1.2.1
  have hok := C.2.2.1
  unfold jb_Model_globalRow_127 at h
  obtain ⟨hi, h⟩ := xp_g h
  refine as_m_30 C hP hS hi dd_Model_globalRow_127 (fun H locs hP hS => ?_)
  obtain ⟨u17, eu17, h⟩ := xp_let h
  rw [← eu17] at hP
  refine lv_aload_n hx hb dd_Model_globalRow_128 rfl (lv_at hl 0 rfl) ?_
  refine lv_dup hx hb dd_Model_globalRow_129 rfl ?_
  refine gf_m_Model_0_globals C hP dd_Model_globalRow_130 ?_
  refine lv_iconst (v := 1) hx hb dd_Model_globalRow_133 (by decide) ?_
  refine lv_iadd hx hb dd_Model_globalRow_134 ?_
  refine pf_m_Model_0_globals C hP hS dd_Model_globalRow_135 (fun H locs hP hS => ?_)
  obtain ⟨u18, eu18, h⟩ := xp_let h
  rw [← eu18] at hP
  obtain ⟨a19, ea19, h⟩ := xp_let h
  refine lv_iinc (v := a19) (lv' := [(2, .int a19), (0, .ref (ad 0)), (1, .int b1)]) hx hb dd_Model_globalRow_138 hl (k := 2) rfl (by rw [ea19]; first | rfl | decide) (by decide) rfl (fun ls hl => ?_)
  refine lv_goto (tgt := 14) hx hb dd_Model_globalRow_141 (by decide) ?_
  exact hk14 b1 a19 u18 _ _ _ h hP hS (lv_sub hl [1, 2, 0] rfl)
set_option maxHeartbeats 4000000 in
set_option maxRecDepth 100000 in
theorem wj_Model_globalRow_104 {p : Program} {l : Launch} {e : Env} {s : State} {m : MethodId} {args : Array Value} {below : List Frame} {meth : Method} {c : Code} {D : va_G} {ad : Nat → Nat} {ca : Nat → ClassId} {ads : List Nat} {fu : Nat} (htr : l.stackTraces = false) (C : xk_C D kx_cl (kx_ty ca) (kw_m ad ca) ads "ModuleHouseModel" prog_14_method_50_code 5 none p e s m args meth c) (hne : c.exceptionTable.isEmpty = true) {u' : xk_St} {r : Unit} {k14 : Int32 → Int32 → xk_St → Option (Unit × xk_St)} (hk14 : ∀ (c0 : Int32) (c1 : Int32) (u : xk_St) (H : Heap) (locs : List Loc) (ls : Array Slot), k14 c0 c1 u = some (r, u') → va_P D kx_cl (kw_m ad ca u) H → va_S (xk_A ads s.heap.size) s.heap H locs → lv_has ls 5 [(0, .ref (ad 0)), (1, .int c0), (2, .int c1)] → W p l e rm_Model_globalRow s m args below meth c H locs 0 0 (xk_MQ below (xk_Qc D kx_cl (kw_m ad ca) ads (xo_v (.inl r)) u') args s (xk_A ads s.heap.size)) (F0 m 14 ls [])) {b1 : Int32} {b2 : Int32} {b3 : Int32} {s0 : Int32} {u : xk_St} {H : Heap} {locs : List Loc} {ls : Array Slot} (h : jb_Model_globalRow_104 fu k14 b1 b2 b3 s0 u = some (r, u')) (hP : va_P D kx_cl (kw_m ad ca u) H) (hS : va_S (xk_A ads s.heap.size) s.heap H locs) (hl : lv_has ls 5 [(0, .ref (ad 0)), (1, .int b1), (2, .int b2), (3, .int b3)]) : W p l e rm_Model_globalRow s m args below meth c H locs 0 0 (xk_MQ below (xk_Qc D kx_cl (kw_m ad ca) ads (xo_v (.inl r)) u') args s (xk_A ads s.heap.size)) (F0 m 104 ls [.int s0, .ref (ad 0)]) := by
  have hx := C.1.1
  have hb := C.1.2.1
  have hok := C.2.2.1
  unfold jb_Model_globalRow_104 at h
  obtain ⟨hz, h⟩ := xp_p h
  refine pf_m_Model_0_wrong C hP hS hz dd_Model_globalRow_104 (fun H locs hP hS => ?_)
  obtain ⟨u14, eu14, h⟩ := xp_let h
  rw [← eu14] at hP
  refine lv_aload_n hx hb dd_Model_globalRow_107 rfl (lv_at hl 0 rfl) ?_
  refine gf_m_Model_0_globalValue C hP dd_Model_globalRow_108 ?_
  refine lv_iload_n hx hb dd_Model_globalRow_111 rfl (lv_at hl 2 rfl) ?_
  refine lv_iload_n hx hb dd_Model_globalRow_112 rfl (lv_at hl 3 rfl) ?_
  obtain ⟨a15, u16, hq, h⟩ := xp_seq h
  refine xk_goesI (xr_S (As := [.int b3]) (rest := [.int b2, .ref (ad 30)]) C hP hS (ct_Model_isReference htr hok hq) kq_Model_384 ⟨rfl, rfl, Nat.le_of_ble_eq_true rfl, Nat.le_of_ble_eq_true rfl⟩ ⟨Nat.le_of_ble_eq_true rfl, Nat.le_of_ble_eq_true rfl⟩ hl.1 rfl rfl (Nat.le_of_ble_eq_true rfl) dd_Model_globalRow_113) hS (fun H locs hP hS => ?_)
  clear hq
  refine lv_if_eq (tgt := 123) hx hb dd_Model_globalRow_116 (by decide) (fun hc => ?_) (fun hc => ?_)
  · have h := xp_t hc h
    refine lv_aload_n hx hb dd_Model_globalRow_123 rfl (lv_at hl 0 rfl) ?_
    refine gf_m_Model_0_x C hP dd_Model_globalRow_124 ?_
    exact wj_Model_globalRow_127 htr C hne hk14 h hP hS (lv_sub hl [0, 1, 2] rfl)
  · have h := xp_f hc h
    refine lv_lconst (v := 0) hx hb dd_Model_globalRow_119 (by decide) ?_
    refine lv_goto (tgt := 127) hx hb dd_Model_globalRow_120 (by decide) ?_
    exact wj_Model_globalRow_127 htr C hne hk14 h hP hS (lv_sub hl [0, 1, 2] rfl)
set_option maxHeartbeats 4000000 in
set_option maxRecDepth 100000 in
theorem wj_Model_globalRow_99 {p : Program} {l : Launch} {e : Env} {s : State} {m : MethodId} {args : Array Value} {below : List Frame} {meth : Method} {c : Code} {D : va_G} {ad : Nat → Nat} {ca : Nat → ClassId} {ads : List Nat} {fu : Nat} (htr : l.stackTraces = false) (C : xk_C D kx_cl (kx_ty ca) (kw_m ad ca) ads "ModuleHouseModel" prog_14_method_50_code 5 none p e s m args meth c) (hne : c.exceptionTable.isEmpty = true) {u' : xk_St} {r : Unit} {k14 : Int32 → Int32 → xk_St → Option (Unit × xk_St)} (hk14 : ∀ (c0 : Int32) (c1 : Int32) (u : xk_St) (H : Heap) (locs : List Loc) (ls : Array Slot), k14 c0 c1 u = some (r, u') → va_P D kx_cl (kw_m ad ca u) H → va_S (xk_A ads s.heap.size) s.heap H locs → lv_has ls 5 [(0, .ref (ad 0)), (1, .int c0), (2, .int c1)] → W p l e rm_Model_globalRow s m args below meth c H locs 0 0 (xk_MQ below (xk_Qc D kx_cl (kw_m ad ca) ads (xo_v (.inl r)) u') args s (xk_A ads s.heap.size)) (F0 m 14 ls [])) {b1 : Int32} {b2 : Int32} {b3 : Int32} {u : xk_St} {H : Heap} {locs : List Loc} {ls : Array Slot} (h : jb_Model_globalRow_99 fu k14 b1 b2 b3 u = some (r, u')) (hP : va_P D kx_cl (kw_m ad ca u) H) (hS : va_S (xk_A ads s.heap.size) s.heap H locs) (hl : lv_has ls 5 [(0, .ref (ad 0)), (1, .int b1), (2, .int b2), (3, .int b3)]) : W p l e rm_Model_globalRow s m args below meth c H locs 0 0 (xk_MQ below (xk_Qc D kx_cl (kw_m ad ca) ads (xo_v (.inl r)) u') args s (xk_A ads s.heap.size)) (F0 m 99 ls [.ref (ad 0)]) := by
  have hx := C.1.1
  have hb := C.1.2.1
  have hok := C.2.2.1
  unfold jb_Model_globalRow_99 at h
  refine lv_iconst (v := 1) hx hb dd_Model_globalRow_99 (by decide) ?_
  refine lv_goto (tgt := 104) hx hb dd_Model_globalRow_100 (by decide) ?_
  exact wj_Model_globalRow_104 htr C hne hk14 h hP hS (lv_sub hl [0, 1, 2, 3] rfl)
set_option maxHeartbeats 4000000 in
set_option maxRecDepth 100000 in
theorem wj_Model_globalRow_56 {p : Program} {l : Launch} {e : Env} {s : State} {m : MethodId} {args : Array Value} {below : List Frame} {meth : Method} {c : Code} {D : va_G} {ad : Nat → Nat} {ca : Nat → ClassId} {ads : List Nat} {fu : Nat} (htr : l.stackTraces = false) (C : xk_C D kx_cl (kx_ty ca) (kw_m ad ca) ads "ModuleHouseModel" prog_14_method_50_code 5 none p e s m args meth c) (hne : c.exceptionTable.isEmpty = true) {u' : xk_St} {r : Unit} {k14 : Int32 → Int32 → xk_St → Option (Unit × xk_St)} (hk14 : ∀ (c0 : Int32) (c1 : Int32) (u : xk_St) (H : Heap) (locs : List Loc) (ls : Array Slot), k14 c0 c1 u = some (r, u') → va_P D kx_cl (kw_m ad ca u) H → va_S (xk_A ads s.heap.size) s.heap H locs → lv_has ls 5 [(0, .ref (ad 0)), (1, .int c0), (2, .int c1)] → W p l e rm_Model_globalRow s m args below meth c H locs 0 0 (xk_MQ below (xk_Qc D kx_cl (kw_m ad ca) ads (xo_v (.inl r)) u') args s (xk_A ads s.heap.size)) (F0 m 14 ls [])) {b1 : Int32} {b2 : Int32} {b3 : Int32} {s0 : Int32} {s1 : Int32} {u : xk_St} {H : Heap} {locs : List Loc} {ls : Array Slot} (h : jb_Model_globalRow_56 fu k14 b1 b2 b3 s0 s1 u = some (r, u')) (hP : va_P D kx_cl (kw_m ad ca u) H) (hS : va_S (xk_A ads s.heap.size) s.heap H locs) (hl : lv_has ls 5 [(0, .ref (ad 0)), (1, .int b1), (2, .int b2), (3, .int b3)]) : W p l e rm_Model_globalRow s m args below meth c H locs 0 0 (xk_MQ below (xk_Qc D kx_cl (kw_m ad ca) ads (xo_v (.inl r)) u') args s (xk_A ads s.heap.size)) (F0 m 56 ls [.int s0, .int s1, .ref (ad 17)]) := by
  have hx := C.1.1
  have hb := C.1.2.1
  have hok := C.2.2.1
  unfold jb_Model_globalRow_56 at h
  obtain ⟨hi, h⟩ := xp_g h
  refine as_m_17 C hP hS hi dd_Model_globalRow_56 (fun H locs hP hS => ?_)
  obtain ⟨u9, eu9, h⟩ := xp_let h
  rw [← eu9] at hP
  refine lv_aload_n hx hb dd_Model_globalRow_57 rfl (lv_at hl 0 rfl) ?_
  obtain ⟨a10, u11, hq, h⟩ := xp_seq h
  refine xk_goesI (xr_V (As := []) (rest := []) C hP hS (ct_Model_constant htr hok hq) kq_Model_360 0 11 rfl rfl ⟨rfl, rfl, Nat.le_of_ble_eq_true rfl, Nat.le_of_ble_eq_true rfl⟩ ⟨Nat.le_of_ble_eq_true rfl, Nat.le_of_ble_eq_true rfl⟩ hl.1 rfl rfl (Nat.le_of_ble_eq_true rfl) dd_Model_globalRow_58) hS (fun H locs hP hS => ?_)
  clear hq
  refine lv_istore (lv' := [(4, .int a10), (0, .ref (ad 0)), (1, .int b1), (2, .int b2), (3, .int b3)]) hx hb dd_Model_globalRow_61 hl (by decide) rfl (fun ls hl => ?_)
  refine lv_aload_n hx hb dd_Model_globalRow_63 rfl (lv_at hl 1 rfl) ?_
  refine lv_aload_n hx hb dd_Model_globalRow_64 rfl (lv_at hl 1 rfl) ?_
  refine lv_iload_n hx hb dd_Model_globalRow_65 rfl (lv_at hl 4 rfl) ?_
  refine lv_aload_n hx hb dd_Model_globalRow_66 rfl (lv_at hl 1 rfl) ?_
  refine gf_m_Model_0_types C hP dd_Model_globalRow_67 ?_
  obtain ⟨a12, u13, hq, h⟩ := xp_seq h
  refine xk_goesI (xr_V (As := [.int b3, .int (u11.1 12)]) (rest := [.ref (ad 0)]) C hP hS (ct_Model_isThere htr hok hq) kq_Model_404 0 11 rfl rfl ⟨rfl, rfl, Nat.le_of_ble_eq_true rfl, Nat.le_of_ble_eq_true rfl⟩ ⟨Nat.le_of_ble_eq_true rfl, Nat.le_of_ble_eq_true rfl⟩ hl.1 rfl rfl (Nat.le_of_ble_eq_true rfl) dd_Model_globalRow_70) hS (fun H locs hP hS => ?_)
  clear hq
  refine lv_if_eq (tgt := 99) hx hb dd_Model_globalRow_73 (by decide) (fun hc => ?_) (fun hc => ?_)
  · have h := xp_t hc h
    exact wj_Model_globalRow_99 htr C hne hk14 h hP hS (lv_sub hl [1, 2, 3, 4] rfl)
  · have h := xp_f hc h
    refine lv_aload_n hx hb dd_Model_globalRow_76 rfl (lv_at hl 1 rfl) ?_
    refine lv_iload hx hb dd_Model_globalRow_77 (lv_at hl 0 rfl) ?_
    refine lv_aload_n hx hb dd_Model_globalRow_79 rfl (lv_at hl 1 rfl) ?_
    refine gf_m_Model_0_types C hP dd_Model_globalRow_80 ?_
    obtain ⟨a20, u21, hq, h⟩ := xp_seq h
    refine xk_goesI (xr_V (As := [.int a10, .int (u13.1 12)]) (rest := [.ref (ad 0)]) C hP hS (ct_Model_isThere htr hok hq) kq_Model_404 0 11 rfl rfl ⟨rfl, rfl, Nat.le_of_ble_eq_true rfl, Nat.le_of_ble_eq_true rfl⟩ ⟨Nat.le_of_ble_eq_true rfl, Nat.le_of_ble_eq_true rfl⟩ hl.1 rfl rfl (Nat.le_of_ble_eq_true rfl) dd_Model_globalRow_83) hS (fun H locs hP hS => ?_)
    clear hq
    refine lv_if_eq (tgt := 99) hx hb dd_Model_globalRow_86 (by decide) (fun hc => ?_) (fun hc => ?_)
    · have h := xp_t hc h
      exact wj_Model_globalRow_99 htr C hne hk14 h hP hS (lv_sub hl [1, 2, 3, 4] rfl)
    · have h := xp_f hc h
      refine lv_aload_n hx hb dd_Model_globalRow_89 rfl (lv_at hl 1 rfl) ?_
      refine lv_iload hx hb dd_Model_globalRow_90 (lv_at hl 0 rfl) ?_
      refine lv_iload_n hx hb dd_Model_globalRow_92 rfl (lv_at hl 4 rfl) ?_
      obtain ⟨a22, u23, hq, h⟩ := xp_seq h
      refine xk_goesI (xr_V (As := [.int a10, .int b3]) (rest := [.ref (ad 0)]) C hP hS (ct_Model_fits htr hok hq) kq_Model_469 0 11 rfl rfl ⟨rfl, rfl, Nat.le_of_ble_eq_true rfl, Nat.le_of_ble_eq_true rfl⟩ ⟨Nat.le_of_ble_eq_true rfl, Nat.le_of_ble_eq_true rfl⟩ hl.1 rfl rfl (Nat.le_of_ble_eq_true rfl) dd_Model_globalRow_93) hS (fun H locs hP hS => ?_)
      clear hq
      refine lv_if_ne (tgt := 103) hx hb dd_Model_globalRow_96 (by decide) (fun hc => ?_) (fun hc => ?_)
      · have h := xp_f hc h
        refine lv_iconst (v := 0) hx hb dd_Model_globalRow_103 (by decide) ?_
        exact wj_Model_globalRow_104 htr C hne hk14 h hP hS (lv_sub hl [1, 2, 3, 4] rfl)
      · have h := xp_t hc h
        exact wj_Model_globalRow_99 htr C hne hk14 h hP hS (lv_sub hl [1, 2, 3, 4] rfl)
set_option maxHeartbeats 4000000 in
set_option maxRecDepth 100000 in
theorem wj_Model_globalRow_14 {p : Program} {l : Launch} {e : Env} {s : State} {m : MethodId} {args : Array Value} {below : List Frame} {meth : Method} {c : Code} {D : va_G} {ad : Nat → Nat} {ca : Nat → ClassId} {ads : List Nat} {fu : Nat} (htr : l.stackTraces = false) (C : xk_C D kx_cl (kx_ty ca) (kw_m ad ca) ads "ModuleHouseModel" prog_14_method_50_code 5 none p e s m args meth c) (hne : c.exceptionTable.isEmpty = true) {u' : xk_St} {r : Unit} : ∀ {n : Nat} {b1 : Int32} {b2 : Int32} {u : xk_St} {H : Heap} {locs : List Loc} {ls : Array Slot} (h : jb_Model_globalRow_14 fu  n b1 b2 u = some (r, u')) (hP : va_P D kx_cl (kw_m ad ca u) H) (hS : va_S (xk_A ads s.heap.size) s.heap H locs) (hl : lv_has ls 5 [(0, .ref (ad 0)), (1, .int b1), (2, .int b2)]), W p l e rm_Model_globalRow s m args below meth c H locs 0 0 (xk_MQ below (xk_Qc D kx_cl (kw_m ad ca) ads (xo_v (.inl r)) u') args s (xk_A ads s.heap.size)) (F0 m 14 ls []) := by
  intro n
  have hx := C.1.1
  have hb := C.1.2.1
  have hok := C.2.2.1
  induction n with
  | zero =>
    intro _ _ u H locs ls h
    have h : none = some (r, u') := h
    cases h
  | succ n ih =>
    intro b1 b2 u H locs ls h hP hS hl
    unfold jb_Model_globalRow_14 at h
    obtain ⟨k14, ek14, h⟩ := xp_let h
    have hk14 : ∀ (c0 : Int32) (c1 : Int32) (u : xk_St) (H : Heap) (locs : List Loc) (ls : Array Slot), k14 c0 c1 u = some (r, u') → va_P D kx_cl (kw_m ad ca u) H → va_S (xk_A ads s.heap.size) s.heap H locs → lv_has ls 5 [(0, .ref (ad 0)), (1, .int c0), (2, .int c1)] → W p l e rm_Model_globalRow s m args below meth c H locs 0 0 (xk_MQ below (xk_Qc D kx_cl (kw_m ad ca) ads (xo_v (.inl r)) u') args s (xk_A ads s.heap.size)) (F0 m 14 ls []) := by
      intro c0 c1 u H locs ls h hP hS hl
      subst ek14
      exact ih h hP hS hl
    clear ih ek14
    refine lv_iload_n hx hb dd_Model_globalRow_14 rfl (lv_at hl 2 rfl) ?_
    refine lv_iload_n hx hb dd_Model_globalRow_15 rfl (lv_at hl 1 rfl) ?_
    refine lv_icmp_ge (tgt := 144) hx hb dd_Model_globalRow_16 (by decide) (fun hc => ?_) (fun hc => ?_)
    · have h := xp_t hc h
      obtain ⟨rfl, rfl⟩ := xp_r h
      exact xr_vret C hP hS dd_Model_globalRow_144
    · have h := xp_f hc h
      refine lv_aload_n hx hb dd_Model_globalRow_19 rfl (lv_at hl 0 rfl) ?_
      refine gf_m_Model_0_wrong C hP dd_Model_globalRow_20 ?_
      refine lv_if_ne (tgt := 144) hx hb dd_Model_globalRow_23 (by decide) (fun hc => ?_) (fun hc => ?_)
      · have h := xp_f hc h
        obtain ⟨rfl, rfl⟩ := xp_r h
        exact xr_vret C hP hS dd_Model_globalRow_144
      · have h := xp_t hc h
        refine lv_aload_n hx hb dd_Model_globalRow_26 rfl (lv_at hl 0 rfl) ?_
        obtain ⟨a4, u5, hq, h⟩ := xp_seq h
        refine xk_goesI (xr_V (As := []) (rest := []) C hP hS (ct_Model_valueType htr hok hq) kq_Model_210 0 11 rfl rfl ⟨rfl, rfl, Nat.le_of_ble_eq_true rfl, Nat.le_of_ble_eq_true rfl⟩ ⟨Nat.le_of_ble_eq_true rfl, Nat.le_of_ble_eq_true rfl⟩ hl.1 rfl rfl (Nat.le_of_ble_eq_true rfl) dd_Model_globalRow_27) hS (fun H locs hP hS => ?_)
        clear hq
        refine lv_istore_n (lv' := [(3, .int a4), (0, .ref (ad 0)), (1, .int b1), (2, .int b2)]) hx hb dd_Model_globalRow_30 rfl hl (by decide) rfl (fun ls hl => ?_)
        refine lv_aload_n hx hb dd_Model_globalRow_31 rfl (lv_at hl 1 rfl) ?_
        refine gf_m_Model_0_globalType C hP dd_Model_globalRow_32 ?_
        refine lv_iload_n hx hb dd_Model_globalRow_35 rfl (lv_at hl 3 rfl) ?_
        refine lv_iload_n hx hb dd_Model_globalRow_36 rfl (lv_at hl 0 rfl) ?_
        obtain ⟨hi, h⟩ := xp_g h
        refine as_m_16 C hP hS hi dd_Model_globalRow_37 (fun H locs hP hS => ?_)
        obtain ⟨u6, eu6, h⟩ := xp_let h
        rw [← eu6] at hP
        refine lv_aload_n hx hb dd_Model_globalRow_38 rfl (lv_at hl 1 rfl) ?_
        refine gf_m_Model_0_globalSets C hP dd_Model_globalRow_39 ?_
        refine lv_iload_n hx hb dd_Model_globalRow_42 rfl (lv_at hl 3 rfl) ?_
        refine lv_aload_n hx hb dd_Model_globalRow_43 rfl (lv_at hl 1 rfl) ?_
        obtain ⟨a7, u8, hq, h⟩ := xp_seq h
        refine xk_goesI (xr_V (As := []) (rest := [.int b2, .ref (ad 17)]) C hP hS (ct_Model_flag htr hok hq) kq_Model_357 0 11 rfl rfl ⟨rfl, rfl, Nat.le_of_ble_eq_true rfl, Nat.le_of_ble_eq_true rfl⟩ ⟨Nat.le_of_ble_eq_true rfl, Nat.le_of_ble_eq_true rfl⟩ hl.1 rfl rfl (Nat.le_of_ble_eq_true rfl) dd_Model_globalRow_44) hS (fun H locs hP hS => ?_)
        clear hq
        refine lv_iconst (v := 1) hx hb dd_Model_globalRow_47 (by decide) ?_
        refine lv_icmp_ne (tgt := 55) hx hb dd_Model_globalRow_48 (by decide) (fun hc => ?_) (fun hc => ?_)
        · have h := xp_f hc h
          refine lv_iconst (v := 0) hx hb dd_Model_globalRow_55 (by decide) ?_
          exact wj_Model_globalRow_56 htr C hne hk14 h hP hS (lv_sub hl [1, 2, 3, 0] rfl)
        · have h := xp_t hc h
          refine lv_iconst (v := 1) hx hb dd_Model_globalRow_51 (by decide) ?_
          refine lv_goto (tgt := 56) hx hb dd_Model_globalRow_52 (by decide) ?_
          exact wj_Model_globalRow_56 htr C hne hk14 h hP hS (lv_sub hl [1, 2, 3, 0] rfl)
set_option maxHeartbeats 4000000 in
set_option maxRecDepth 100000 in
theorem ct_Model_globalRow {l : Launch} {D : va_G} {ad : Nat → Nat} {ca : Nat → ClassId} {ads : List Nat} (htr : l.stackTraces = false) (hok : xk_ok (kw_m ad ca) ads) {fu : Nat} {u u' : xk_St} {r : Unit} (h : fm_Model_globalRow fu u = some (r, u')) :
    ∀ sz, xk_Met l ⟨"ModuleHouseModel", "globalRow", "()V"⟩ (Cond.code ⟨"ModuleHouseModel", "globalRow", "()V"⟩ prog_14_method_50_code 5 none :: xk_gd) rm_Model_globalRow (xk_Pc D kx_cl (kx_ty ca) (kw_m ad ca) ads xk_F sz [.ref (ad 0)] u) (xk_Qc D kx_cl (kw_m ad ca) ads (xo_v (.inl r)) u') (xk_A ads sz) := by
  unfold fm_Model_globalRow at h
  refine xk_con (by decide) htr hok (Nat.le_of_ble_eq_true rfl) (fun p e s m below meth c ls C hne hl hP => ?_)
  have hx := C.1.1
  have hb := C.1.2.1
  have hS : va_S (xk_A ads s.heap.size) s.heap s.heap [] := va_S.rf
  have hl : lv_has ls 5 [(0, .ref (ad 0))] := hl
  refine lv_aload_n hx hb dd_Model_globalRow_0 rfl (lv_at hl 0 rfl) ?_
  refine lv_iconst (v := 0) hx hb dd_Model_globalRow_1 (by decide) ?_
  refine pf_m_Model_0_globals C hP hS dd_Model_globalRow_2 (fun H locs hP hS => ?_)
  obtain ⟨u1, eu1, h⟩ := xp_let h
  rw [← eu1] at hP
  refine lv_aload_n hx hb dd_Model_globalRow_5 rfl (lv_at hl 0 rfl) ?_
  refine lv_bipush (v := 6) hx hb dd_Model_globalRow_6 (by decide) ?_
  obtain ⟨a2, u3, hq, h⟩ := xp_seq h
  refine xk_goesI (xr_V (As := [.int (6 : Int32)]) (rest := []) C hP hS (ct_Model_rowOf htr hok hq) kq_Model_417 0 11 rfl rfl ⟨rfl, rfl, Nat.le_of_ble_eq_true rfl, Nat.le_of_ble_eq_true rfl⟩ ⟨Nat.le_of_ble_eq_true rfl, Nat.le_of_ble_eq_true rfl⟩ hl.1 rfl rfl (Nat.le_of_ble_eq_true rfl) dd_Model_globalRow_8) hS (fun H locs hP hS => ?_)
  clear hq
  refine lv_istore_n (lv' := [(1, .int a2), (0, .ref (ad 0))]) hx hb dd_Model_globalRow_11 rfl hl (by decide) rfl (fun ls hl => ?_)
  refine lv_iconst (v := 0) hx hb dd_Model_globalRow_12 (by decide) ?_
  refine lv_istore_n (lv' := [(2, .int (0 : Int32)), (1, .int a2), (0, .ref (ad 0))]) hx hb dd_Model_globalRow_13 rfl hl (by decide) rfl (fun ls hl => ?_)
  exact wj_Model_globalRow_14 htr C hne h hP hS (lv_sub hl [2, 1, 0] rfl)
abbrev rm_Model_tableAndMemory : Room := { frames := 5, cells := 1, slots := 6, locals := 88 }
noncomputable def jb_Model_tableAndMemory_296 (fu : Nat) (u : xk_St) : Option (Unit × xk_St) :=
  (xs_let (xs_I u 17 (16 : Int32)) fun u15 => some ((()), u15))
noncomputable def jb_Model_tableAndMemory_261 (fu : Nat) (s0 : Int32) (u : xk_St) : Option (Unit × xk_St) :=
  (if s0 = 0 ∨ s0 = 1 then ( xs_let (xs_I u 7 s0) fun u13 => xs_let (xs_I u13 16 ((u13.2.1 0).toInt32)) fun u14 => if (u14.2.1 1) = (-1 : Int64) then (jb_Model_tableAndMemory_296 fu u14) else (if (u14.2.1 1) ≤ (16 : Int64) then ((xs_let (xs_I u14 17 ((u14.2.1 1).toInt32)) fun u16 => some ((()), u16))) else (jb_Model_tableAndMemory_296 fu u14))  ) else none)
noncomputable def jb_Model_tableAndMemory_256 (fu : Nat) (u : xk_St) : Option (Unit × xk_St) :=
  jb_Model_tableAndMemory_261 fu (1 : Int32) u
noncomputable def jb_Model_tableAndMemory_260 (fu : Nat) (u : xk_St) : Option (Unit × xk_St) :=
  jb_Model_tableAndMemory_261 fu (0 : Int32) u
noncomputable def jb_Model_tableAndMemory_207 (fu : Nat) (s0 : Int32) (u : xk_St) : Option (Unit × xk_St) :=
  (if s0 = 0 ∨ s0 = 1 then ( xs_let (xs_I u 7 s0) fun u11 => xs_seq (fm_Model_limits fu u11) fun _ u12 => if (u12.1 7) = (0 : Int32) then (if (16 : Int64) < (u12.2.1 0) then (jb_Model_tableAndMemory_256 fu u12) else (if (u12.2.1 1) = (-1 : Int64) then (jb_Model_tableAndMemory_260 fu u12) else (if (u12.2.1 0) ≤ (u12.2.1 1) then (jb_Model_tableAndMemory_260 fu u12) else (jb_Model_tableAndMemory_256 fu u12)))) else (jb_Model_tableAndMemory_256 fu u12)  ) else none)
noncomputable def jb_Model_tableAndMemory_202 (fu : Nat) (u : xk_St) : Option (Unit × xk_St) :=
  jb_Model_tableAndMemory_207 fu (1 : Int32) u
noncomputable def jb_Model_tableAndMemory_155 (fu : Nat) (s0 : Int32) (u : xk_St) : Option (Unit × xk_St) :=
  (if s0 = 0 ∨ s0 = 1 then ( xs_let (xs_I u 15 s0) fun u7 => xs_let (xs_I u7 16 (0 : Int32)) fun u8 => xs_let (xs_I u8 17 (0 : Int32)) fun u9 => if (u9.1 15) = (0 : Int32) then (some ((()), u9)) else ((if (5 : Int32) < 0 ∨ 12 ≤ (5 : Int32).toNatClampNeg then none else xs_let (xs_I u9 4 (u9.2.2.1 2 (5 : Int32).toNatClampNeg)) fun u10 => if (u10.1 7) = (0 : Int32) then ((xs_seq (fm_Model_number fu u10) fun a17 u18 => if a17 ≤ (1 : Int64) then (jb_Model_tableAndMemory_207 fu (0 : Int32) u18) else (jb_Model_tableAndMemory_202 fu u18))) else (jb_Model_tableAndMemory_202 fu u10)))  ) else none)
noncomputable def jb_Model_tableAndMemory_133 (fu : Nat) (u : xk_St) : Option (Unit × xk_St) :=
  if (u.1 7) = (0 : Int32) then ((xs_seq (fm_Model_rowOf fu (5 : Int32) u) fun a5 u6 => if a5 ≤ (0 : Int32) then (jb_Model_tableAndMemory_155 fu (0 : Int32) u6) else (jb_Model_tableAndMemory_155 fu (1 : Int32) u6))) else (some ((()), u))
noncomputable def jb_Model_tableAndMemory_121 (fu : Nat) (s0 : Int32) (u : xk_St) : Option (Unit × xk_St) :=
  (if s0 = 0 ∨ s0 = 1 then ( xs_let (xs_I u 7 s0) fun u23 => xs_let (xs_I u23 24 ((u23.2.1 0).toInt32)) fun u24 => jb_Model_tableAndMemory_133 fu u24  ) else none)
noncomputable def jb_Model_tableAndMemory_116 (fu : Nat) (u : xk_St) : Option (Unit × xk_St) :=
  jb_Model_tableAndMemory_121 fu (1 : Int32) u
noncomputable def jb_Model_tableAndMemory_120 (fu : Nat) (u : xk_St) : Option (Unit × xk_St) :=
  jb_Model_tableAndMemory_121 fu (0 : Int32) u
noncomputable def jb_Model_tableAndMemory_61 (fu : Nat) (s0 : Int32) (u : xk_St) : Option (Unit × xk_St) :=
  (if s0 = 0 ∨ s0 = 1 then ( xs_let (xs_I u 7 s0) fun u20 => xs_seq (fm_Model_needs (112 : Int32) u20) fun _ u21 => xs_seq (fm_Model_limits fu u21) fun _ u22 => if (u22.1 7) = (0 : Int32) then (if (64 : Int64) < (u22.2.1 0) then (jb_Model_tableAndMemory_116 fu u22) else (if (u22.2.1 1) = (-1 : Int64) then (jb_Model_tableAndMemory_120 fu u22) else (if (u22.2.1 0) ≤ (u22.2.1 1) then (jb_Model_tableAndMemory_120 fu u22) else (jb_Model_tableAndMemory_116 fu u22)))) else (jb_Model_tableAndMemory_116 fu u22)  ) else none)
noncomputable def jb_Model_tableAndMemory_56 (fu : Nat) (u : xk_St) : Option (Unit × xk_St) :=
  jb_Model_tableAndMemory_61 fu (1 : Int32) u
noncomputable def jb_Model_tableAndMemory_14 (fu : Nat) (s0 : Int32) (u : xk_St) : Option (Unit × xk_St) :=
  (if s0 = 0 ∨ s0 = 1 then ( xs_let (xs_I u 14 s0) fun u3 => xs_let (xs_I u3 24 (0 : Int32)) fun u4 => if (u4.1 14) = (0 : Int32) then (jb_Model_tableAndMemory_133 fu u4) else ((if (4 : Int32) < 0 ∨ 12 ≤ (4 : Int32).toNatClampNeg then none else xs_let (xs_I u4 4 (u4.2.2.1 2 (4 : Int32).toNatClampNeg)) fun u19 => if (u19.1 7) = (0 : Int32) then ((xs_seq (fm_Model_number fu u19) fun a25 u26 => if a25 ≤ (1 : Int64) then (jb_Model_tableAndMemory_61 fu (0 : Int32) u26) else (jb_Model_tableAndMemory_56 fu u26))) else (jb_Model_tableAndMemory_56 fu u19)))  ) else none)
noncomputable def fm_Model_tableAndMemory (fu : Nat) (u : xk_St) : Option (Unit × xk_St) :=
  (xs_seq (fm_Model_rowOf fu (4 : Int32) u) fun a1 u2 => if a1 ≤ (0 : Int32) then (jb_Model_tableAndMemory_14 fu (0 : Int32) u2) else (jb_Model_tableAndMemory_14 fu (1 : Int32) u2))
set_option maxHeartbeats 4000000 in
set_option maxRecDepth 100000 in
theorem wj_Model_tableAndMemory_296 {p : Program} {l : Launch} {e : Env} {s : State} {m : MethodId} {args : Array Value} {below : List Frame} {meth : Method} {c : Code} {D : va_G} {ad : Nat → Nat} {ca : Nat → ClassId} {ads : List Nat} {fu : Nat} (htr : l.stackTraces = false) (C : xk_C D kx_cl (kx_ty ca) (kw_m ad ca) ads "ModuleHouseModel" prog_14_method_49_code 1 none p e s m args meth c) (hne : c.exceptionTable.isEmpty = true) {u' : xk_St} {r : Unit} {u : xk_St} {H : Heap} {locs : List Loc} {ls : Array Slot} (h : jb_Model_tableAndMemory_296 fu   u = some (r, u')) (hP : va_P D kx_cl (kw_m ad ca u) H) (hS : va_S (xk_A ads s.heap.size) s.heap H locs) (hl : lv_has ls 1 []) : W p l e rm_Model_tableAndMemory s m args below meth c H locs 0 0 (xk_MQ below (xk_Qc D kx_cl (kw_m ad ca) ads (xo_v (.inl r)) u') args s (xk_A ads s.heap.size)) (F0 m 296 ls [.ref (ad 0)]) := by
  have hx := C.1.1
  have hb := C.1.2.1
  have hok := C.2.2.1
  unfold jb_Model_tableAndMemory_296 at h
  refine lv_bipush (v := 16) hx hb dd_Model_tableAndMemory_296 (by decide) ?_
  refine lv_goto (tgt := 306) hx hb dd_Model_tableAndMemory_298 (by decide) ?_
  refine pf_m_Model_0_mostPages C hP hS dd_Model_tableAndMemory_306 (fun H locs hP hS => ?_)
  obtain ⟨u15, eu15, h⟩ := xp_let h
  rw [← eu15] at hP
  obtain ⟨rfl, rfl⟩ := xp_r h
  exact xr_vret C hP hS dd_Model_tableAndMemory_309
set_option maxHeartbeats 4000000 in
set_option maxRecDepth 100000 in
theorem wj_Model_tableAndMemory_261 {p : Program} {l : Launch} {e : Env} {s : State} {m : MethodId} {args : Array Value} {below : List Frame} {meth : Method} {c : Code} {D : va_G} {ad : Nat → Nat} {ca : Nat → ClassId} {ads : List Nat} {fu : Nat} (htr : l.stackTraces = false) (C : xk_C D kx_cl (kx_ty ca) (kw_m ad ca) ads "ModuleHouseModel" prog_14_method_49_code 1 none p e s m args meth c) (hne : c.exceptionTable.isEmpty = true) {u' : xk_St} {r : Unit} {s0 : Int32} {u : xk_St} {H : Heap} {locs : List Loc} {ls : Array Slot} (h : jb_Model_tableAndMemory_261 fu  s0 u = some (r, u')) (hP : va_P D kx_cl (kw_m ad ca u) H) (hS : va_S (xk_A ads s.heap.size) s.heap H locs) (hl : lv_has ls 1 [(0, .ref (ad 0))]) : W p l e rm_Model_tableAndMemory s m args below meth c H locs 0 0 (xk_MQ below (xk_Qc D kx_cl (kw_m ad ca) ads (xo_v (.inl r)) u') args s (xk_A ads s.heap.size)) (F0 m 261 ls [.int s0, .ref (ad 0)]) := by
  have hx := C.1.1
  have hb := C.1.2.1
  have hok := C.2.2.1
  unfold jb_Model_tableAndMemory_261 at h
  obtain ⟨hz, h⟩ := xp_p h
  refine pf_m_Model_0_wrong C hP hS hz dd_Model_tableAndMemory_261 (fun H locs hP hS => ?_)
  obtain ⟨u13, eu13, h⟩ := xp_let h
  rw [← eu13] at hP
  refine lv_aload_n hx hb dd_Model_tableAndMemory_264 rfl (lv_at hl 0 rfl) ?_
  refine lv_aload_n hx hb dd_Model_tableAndMemory_265 rfl (lv_at hl 0 rfl) ?_
  refine gf_m_Model_0_x C hP dd_Model_tableAndMemory_266 ?_
  refine lv_l2i hx hb dd_Model_tableAndMemory_269 rfl ?_
  refine pf_m_Model_0_pages C hP hS dd_Model_tableAndMemory_270 (fun H locs hP hS => ?_)
  obtain ⟨u14, eu14, h⟩ := xp_let h
  rw [← eu14] at hP
  refine lv_aload_n hx hb dd_Model_tableAndMemory_273 rfl (lv_at hl 0 rfl) ?_
  refine lv_aload_n hx hb dd_Model_tableAndMemory_274 rfl (lv_at hl 0 rfl) ?_
  refine gf_m_Model_0_y C hP dd_Model_tableAndMemory_275 ?_
  refine lv_ldc2 (v := (-1)) hx hb C.1.2.2.2.1 (C.1.2.2.2.2 _ (xk_c9 (w := Jvm.Cond.constantLong "ModuleHouseModel" 184 (-1)) 138 rfl rfl)) dd_Model_tableAndMemory_278 ?_
  refine xr_lc_eq (tgt := 296) hx hb dd_Model_tableAndMemory_281 dd_Model_tableAndMemory_282 (by decide) (fun hc => ?_) (fun hc => ?_)
  · have h := xp_t hc h
    exact wj_Model_tableAndMemory_296 htr C hne h hP hS (lv_sub hl [] rfl)
  · have h := xp_f hc h
    refine lv_aload_n hx hb dd_Model_tableAndMemory_285 rfl (lv_at hl 0 rfl) ?_
    refine gf_m_Model_0_y C hP dd_Model_tableAndMemory_286 ?_
    refine lv_ldc2 (v := 16) hx hb C.1.2.2.2.1 (C.1.2.2.2.2 _ (xk_c10 (w := Jvm.Cond.constantLong "ModuleHouseModel" 402 16) 17 rfl rfl)) dd_Model_tableAndMemory_289 ?_
    refine xr_lc_le (tgt := 301) hx hb dd_Model_tableAndMemory_292 dd_Model_tableAndMemory_293 (by decide) (fun hc => ?_) (fun hc => ?_)
    · have h := xp_t hc h
      refine lv_aload_n hx hb dd_Model_tableAndMemory_301 rfl (lv_at hl 0 rfl) ?_
      refine gf_m_Model_0_y C hP dd_Model_tableAndMemory_302 ?_
      refine lv_l2i hx hb dd_Model_tableAndMemory_305 rfl ?_
      refine pf_m_Model_0_mostPages C hP hS dd_Model_tableAndMemory_306 (fun H locs hP hS => ?_)
      obtain ⟨u16, eu16, h⟩ := xp_let h
      rw [← eu16] at hP
      obtain ⟨rfl, rfl⟩ := xp_r h
      exact xr_vret C hP hS dd_Model_tableAndMemory_309
    · have h := xp_f hc h
      exact wj_Model_tableAndMemory_296 htr C hne h hP hS (lv_sub hl [] rfl)
set_option maxHeartbeats 4000000 in
set_option maxRecDepth 100000 in
theorem wj_Model_tableAndMemory_256 {p : Program} {l : Launch} {e : Env} {s : State} {m : MethodId} {args : Array Value} {below : List Frame} {meth : Method} {c : Code} {D : va_G} {ad : Nat → Nat} {ca : Nat → ClassId} {ads : List Nat} {fu : Nat} (htr : l.stackTraces = false) (C : xk_C D kx_cl (kx_ty ca) (kw_m ad ca) ads "ModuleHouseModel" prog_14_method_49_code 1 none p e s m args meth c) (hne : c.exceptionTable.isEmpty = true) {u' : xk_St} {r : Unit} {u : xk_St} {H : Heap} {locs : List Loc} {ls : Array Slot} (h : jb_Model_tableAndMemory_256 fu   u = some (r, u')) (hP : va_P D kx_cl (kw_m ad ca u) H) (hS : va_S (xk_A ads s.heap.size) s.heap H locs) (hl : lv_has ls 1 [(0, .ref (ad 0))]) : W p l e rm_Model_tableAndMemory s m args below meth c H locs 0 0 (xk_MQ below (xk_Qc D kx_cl (kw_m ad ca) ads (xo_v (.inl r)) u') args s (xk_A ads s.heap.size)) (F0 m 256 ls [.ref (ad 0)]) := by
  have hx := C.1.1
  have hb := C.1.2.1
  have hok := C.2.2.1
  unfold jb_Model_tableAndMemory_256 at h
  refine lv_iconst (v := 1) hx hb dd_Model_tableAndMemory_256 (by decide) ?_
  refine lv_goto (tgt := 261) hx hb dd_Model_tableAndMemory_257 (by decide) ?_
  exact wj_Model_tableAndMemory_261 htr C hne h hP hS (lv_sub hl [0] rfl)
set_option maxHeartbeats 4000000 in
set_option maxRecDepth 100000 in
theorem wj_Model_tableAndMemory_260 {p : Program} {l : Launch} {e : Env} {s : State} {m : MethodId} {args : Array Value} {below : List Frame} {meth : Method} {c : Code} {D : va_G} {ad : Nat → Nat} {ca : Nat → ClassId} {ads : List Nat} {fu : Nat} (htr : l.stackTraces = false) (C : xk_C D kx_cl (kx_ty ca) (kw_m ad ca) ads "ModuleHouseModel" prog_14_method_49_code 1 none p e s m args meth c) (hne : c.exceptionTable.isEmpty = true) {u' : xk_St} {r : Unit} {u : xk_St} {H : Heap} {locs : List Loc} {ls : Array Slot} (h : jb_Model_tableAndMemory_260 fu   u = some (r, u')) (hP : va_P D kx_cl (kw_m ad ca u) H) (hS : va_S (xk_A ads s.heap.size) s.heap H locs) (hl : lv_has ls 1 [(0, .ref (ad 0))]) : W p l e rm_Model_tableAndMemory s m args below meth c H locs 0 0 (xk_MQ below (xk_Qc D kx_cl (kw_m ad ca) ads (xo_v (.inl r)) u') args s (xk_A ads s.heap.size)) (F0 m 260 ls [.ref (ad 0)]) := by
  have hx := C.1.1
  have hb := C.1.2.1
  have hok := C.2.2.1
  unfold jb_Model_tableAndMemory_260 at h
  refine lv_iconst (v := 0) hx hb dd_Model_tableAndMemory_260 (by decide) ?_
  exact wj_Model_tableAndMemory_261 htr C hne h hP hS (lv_sub hl [0] rfl)
set_option maxHeartbeats 4000000 in
set_option maxRecDepth 100000 in
theorem wj_Model_tableAndMemory_207 {p : Program} {l : Launch} {e : Env} {s : State} {m : MethodId} {args : Array Value} {below : List Frame} {meth : Method} {c : Code} {D : va_G} {ad : Nat → Nat} {ca : Nat → ClassId} {ads : List Nat} {fu : Nat} (htr : l.stackTraces = false) (C : xk_C D kx_cl (kx_ty ca) (kw_m ad ca) ads "ModuleHouseModel" prog_14_method_49_code 1 none p e s m args meth c) (hne : c.exceptionTable.isEmpty = true) {u' : xk_St} {r : Unit} {s0 : Int32} {u : xk_St} {H : Heap} {locs : List Loc} {ls : Array Slot} (h : jb_Model_tableAndMemory_207 fu  s0 u = some (r, u')) (hP : va_P D kx_cl (kw_m ad ca u) H) (hS : va_S (xk_A ads s.heap.size) s.heap H locs) (hl : lv_has ls 1 [(0, .ref (ad 0))]) : W p l e rm_Model_tableAndMemory s m args below meth c H locs 0 0 (xk_MQ below (xk_Qc D kx_cl (kw_m ad ca) ads (xo_v (.inl r)) u') args s (xk_A ads s.heap.size)) (F0 m 207 ls [.int s0, .ref (ad 0)]) := by
  have hx := C.1.1
  have hb := C.1.2.1
  have hok := C.2.2.1
  unfold jb_Model_tableAndMemory_207 at h
  obtain ⟨hz, h⟩ := xp_p h
  refine pf_m_Model_0_wrong C hP hS hz dd_Model_tableAndMemory_207 (fun H locs hP hS => ?_)
  obtain ⟨u11, eu11, h⟩ := xp_let h
  rw [← eu11] at hP
  refine lv_aload_n hx hb dd_Model_tableAndMemory_210 rfl (lv_at hl 0 rfl) ?_
  obtain ⟨rx, u12, hq, h⟩ := xp_seq h
  refine xk_goesV (xr_V (As := []) (rest := []) C hP hS (ct_Model_limits htr hok hq) kq_Model_354 0 11 rfl rfl ⟨rfl, rfl, Nat.le_of_ble_eq_true rfl, Nat.le_of_ble_eq_true rfl⟩ ⟨Nat.le_of_ble_eq_true rfl, Nat.le_of_ble_eq_true rfl⟩ hl.1 rfl rfl (Nat.le_of_ble_eq_true rfl) dd_Model_tableAndMemory_211) hS (fun H locs hP hS => ?_)
  clear hq
  refine lv_aload_n hx hb dd_Model_tableAndMemory_214 rfl (lv_at hl 0 rfl) ?_
  refine lv_aload_n hx hb dd_Model_tableAndMemory_215 rfl (lv_at hl 0 rfl) ?_
  refine gf_m_Model_0_wrong C hP dd_Model_tableAndMemory_216 ?_
  refine lv_if_ne (tgt := 256) hx hb dd_Model_tableAndMemory_219 (by decide) (fun hc => ?_) (fun hc => ?_)
  · have h := xp_f hc h
    exact wj_Model_tableAndMemory_256 htr C hne h hP hS (lv_sub hl [0] rfl)
  · have h := xp_t hc h
    refine lv_aload_n hx hb dd_Model_tableAndMemory_222 rfl (lv_at hl 0 rfl) ?_
    refine gf_m_Model_0_x C hP dd_Model_tableAndMemory_223 ?_
    refine lv_ldc2 (v := 16) hx hb C.1.2.2.2.1 (C.1.2.2.2.2 _ (xk_c10 (w := Jvm.Cond.constantLong "ModuleHouseModel" 402 16) 17 rfl rfl)) dd_Model_tableAndMemory_226 ?_
    refine xr_lc_gt (tgt := 256) hx hb dd_Model_tableAndMemory_229 dd_Model_tableAndMemory_230 (by decide) (fun hc => ?_) (fun hc => ?_)
    · have h := xp_t hc h
      exact wj_Model_tableAndMemory_256 htr C hne h hP hS (lv_sub hl [0] rfl)
    · have h := xp_f hc h
      refine lv_aload_n hx hb dd_Model_tableAndMemory_233 rfl (lv_at hl 0 rfl) ?_
      refine gf_m_Model_0_y C hP dd_Model_tableAndMemory_234 ?_
      refine lv_ldc2 (v := (-1)) hx hb C.1.2.2.2.1 (C.1.2.2.2.2 _ (xk_c9 (w := Jvm.Cond.constantLong "ModuleHouseModel" 184 (-1)) 138 rfl rfl)) dd_Model_tableAndMemory_237 ?_
      refine xr_lc_eq (tgt := 260) hx hb dd_Model_tableAndMemory_240 dd_Model_tableAndMemory_241 (by decide) (fun hc => ?_) (fun hc => ?_)
      · have h := xp_t hc h
        exact wj_Model_tableAndMemory_260 htr C hne h hP hS (lv_sub hl [0] rfl)
      · have h := xp_f hc h
        refine lv_aload_n hx hb dd_Model_tableAndMemory_244 rfl (lv_at hl 0 rfl) ?_
        refine gf_m_Model_0_y C hP dd_Model_tableAndMemory_245 ?_
        refine lv_aload_n hx hb dd_Model_tableAndMemory_248 rfl (lv_at hl 0 rfl) ?_
        refine gf_m_Model_0_x C hP dd_Model_tableAndMemory_249 ?_
        refine xr_lc_ge (tgt := 260) hx hb dd_Model_tableAndMemory_252 dd_Model_tableAndMemory_253 (by decide) (fun hc => ?_) (fun hc => ?_)
        · have h := xp_t hc h
          exact wj_Model_tableAndMemory_260 htr C hne h hP hS (lv_sub hl [0] rfl)
        · have h := xp_f hc h
          exact wj_Model_tableAndMemory_256 htr C hne h hP hS (lv_sub hl [0] rfl)
set_option maxHeartbeats 4000000 in
set_option maxRecDepth 100000 in
theorem wj_Model_tableAndMemory_202 {p : Program} {l : Launch} {e : Env} {s : State} {m : MethodId} {args : Array Value} {below : List Frame} {meth : Method} {c : Code} {D : va_G} {ad : Nat → Nat} {ca : Nat → ClassId} {ads : List Nat} {fu : Nat} (htr : l.stackTraces = false) (C : xk_C D kx_cl (kx_ty ca) (kw_m ad ca) ads "ModuleHouseModel" prog_14_method_49_code 1 none p e s m args meth c) (hne : c.exceptionTable.isEmpty = true) {u' : xk_St} {r : Unit} {u : xk_St} {H : Heap} {locs : List Loc} {ls : Array Slot} (h : jb_Model_tableAndMemory_202 fu   u = some (r, u')) (hP : va_P D kx_cl (kw_m ad ca u) H) (hS : va_S (xk_A ads s.heap.size) s.heap H locs) (hl : lv_has ls 1 [(0, .ref (ad 0))]) : W p l e rm_Model_tableAndMemory s m args below meth c H locs 0 0 (xk_MQ below (xk_Qc D kx_cl (kw_m ad ca) ads (xo_v (.inl r)) u') args s (xk_A ads s.heap.size)) (F0 m 202 ls [.ref (ad 0)]) := by
  have hx := C.1.1
  have hb := C.1.2.1
  have hok := C.2.2.1
  unfold jb_Model_tableAndMemory_202 at h
  refine lv_iconst (v := 1) hx hb dd_Model_tableAndMemory_202 (by decide) ?_
  refine lv_goto (tgt := 207) hx hb dd_Model_tableAndMemory_203 (by decide) ?_
  exact wj_Model_tableAndMemory_207 htr C hne h hP hS (lv_sub hl [0] rfl)
set_option maxHeartbeats 4000000 in
set_option maxRecDepth 100000 in
theorem wj_Model_tableAndMemory_155 {p : Program} {l : Launch} {e : Env} {s : State} {m : MethodId} {args : Array Value} {below : List Frame} {meth : Method} {c : Code} {D : va_G} {ad : Nat → Nat} {ca : Nat → ClassId} {ads : List Nat} {fu : Nat} (htr : l.stackTraces = false) (C : xk_C D kx_cl (kx_ty ca) (kw_m ad ca) ads "ModuleHouseModel" prog_14_method_49_code 1 none p e s m args meth c) (hne : c.exceptionTable.isEmpty = true) {u' : xk_St} {r : Unit} {s0 : Int32} {u : xk_St} {H : Heap} {locs : List Loc} {ls : Array Slot} (h : jb_Model_tableAndMemory_155 fu  s0 u = some (r, u')) (hP : va_P D kx_cl (kw_m ad ca u) H) (hS : va_S (xk_A ads s.heap.size) s.heap H locs) (hl : lv_has ls 1 [(0, .ref (ad 0))]) : W p l e rm_Model_tableAndMemory s m args below meth c H locs 0 0 (xk_MQ below (xk_Qc D kx_cl (kw_m ad ca) ads (xo_v (.inl r)) u') args s (xk_A ads s.heap.size)) (F0 m 155 ls [.int s0, .ref (ad 0)]) := by
  have hx := C.1.1
  have hb := C.1.2.1
  have hok := C.2.2.1
  unfold jb_Model_tableAndMemory_155 at h
  obtain ⟨hz, h⟩ := xp_p h
  refine pf_m_Model_0_hasMemory C hP hS hz dd_Model_tableAndMemory_155 (fun H locs hP hS => ?_)
  obtain ⟨u7, eu7, h⟩ := xp_let h
  rw [← eu7] at hP
  refine lv_aload_n hx hb dd_Model_tableAndMemory_158 rfl (lv_at hl 0 rfl) ?_
  refine lv_iconst (v := 0) hx hb dd_Model_tableAndMemory_159 (by decide) ?_
  refine pf_m_Model_0_pages C hP hS dd_Model_tableAndMemory_160 (fun H locs hP hS => ?_)
  obtain ⟨u8, eu8, h⟩ := xp_let h
  rw [← eu8] at hP
  refine lv_aload_n hx hb dd_Model_tableAndMemory_163 rfl (lv_at hl 0 rfl) ?_
  refine lv_iconst (v := 0) hx hb dd_Model_tableAndMemory_164 (by decide) ?_
  refine pf_m_Model_0_mostPages C hP hS dd_Model_tableAndMemory_165 (fun H locs hP hS => ?_)
  obtain ⟨u9, eu9, h⟩ := xp_let h
  rw [← eu9] at hP
  refine lv_aload_n hx hb dd_Model_tableAndMemory_168 rfl (lv_at hl 0 rfl) ?_
  refine gf_m_Model_0_hasMemory C hP dd_Model_tableAndMemory_169 ?_
  refine lv_if_eq (tgt := 309) hx hb dd_Model_tableAndMemory_172 (by decide) (fun hc => ?_) (fun hc => ?_)
  · have h := xp_t hc h
    obtain ⟨rfl, rfl⟩ := xp_r h
    exact xr_vret C hP hS dd_Model_tableAndMemory_309
  · have h := xp_f hc h
    refine lv_aload_n hx hb dd_Model_tableAndMemory_175 rfl (lv_at hl 0 rfl) ?_
    refine lv_aload_n hx hb dd_Model_tableAndMemory_176 rfl (lv_at hl 0 rfl) ?_
    refine gf_m_Model_0_sections C hP dd_Model_tableAndMemory_177 ?_
    refine lv_iconst (v := 5) hx hb dd_Model_tableAndMemory_180 (by decide) ?_
    obtain ⟨hi, h⟩ := xp_g h
    refine al_m_4 C hP hi dd_Model_tableAndMemory_181 ?_
    refine pf_m_Model_0_at C hP hS dd_Model_tableAndMemory_182 (fun H locs hP hS => ?_)
    obtain ⟨u10, eu10, h⟩ := xp_let h
    rw [← eu10] at hP
    refine lv_aload_n hx hb dd_Model_tableAndMemory_185 rfl (lv_at hl 0 rfl) ?_
    refine lv_aload_n hx hb dd_Model_tableAndMemory_186 rfl (lv_at hl 0 rfl) ?_
    refine gf_m_Model_0_wrong C hP dd_Model_tableAndMemory_187 ?_
    refine lv_if_ne (tgt := 202) hx hb dd_Model_tableAndMemory_190 (by decide) (fun hc => ?_) (fun hc => ?_)
    · have h := xp_f hc h
      exact wj_Model_tableAndMemory_202 htr C hne h hP hS (lv_sub hl [0] rfl)
    · have h := xp_t hc h
      refine lv_aload_n hx hb dd_Model_tableAndMemory_193 rfl (lv_at hl 0 rfl) ?_
      obtain ⟨a17, u18, hq, h⟩ := xp_seq h
      refine xk_goesL (xr_V (As := []) (rest := [.ref (ad 0)]) C hP hS (ct_Model_number htr hok hq) kq_Model_295 0 11 rfl rfl ⟨rfl, rfl, Nat.le_of_ble_eq_true rfl, Nat.le_of_ble_eq_true rfl⟩ ⟨Nat.le_of_ble_eq_true rfl, Nat.le_of_ble_eq_true rfl⟩ hl.1 rfl rfl (Nat.le_of_ble_eq_true rfl) dd_Model_tableAndMemory_194) hS (fun H locs hP hS => ?_)
      clear hq
      refine lv_lconst (v := 1) hx hb dd_Model_tableAndMemory_197 (by decide) ?_
      refine xr_lc_le (tgt := 206) hx hb dd_Model_tableAndMemory_198 dd_Model_tableAndMemory_199 (by decide) (fun hc => ?_) (fun hc => ?_)
      · have h := xp_t hc h
        refine lv_iconst (v := 0) hx hb dd_Model_tableAndMemory_206 (by decide) ?_
        exact wj_Model_tableAndMemory_207 htr C hne h hP hS (lv_sub hl [0] rfl)
      · have h := xp_f hc h
        exact wj_Model_tableAndMemory_202 htr C hne h hP hS (lv_sub hl [0] rfl)
set_option maxHeartbeats 4000000 in
set_option maxRecDepth 100000 in
theorem wj_Model_tableAndMemory_133 {p : Program} {l : Launch} {e : Env} {s : State} {m : MethodId} {args : Array Value} {below : List Frame} {meth : Method} {c : Code} {D : va_G} {ad : Nat → Nat} {ca : Nat → ClassId} {ads : List Nat} {fu : Nat} (htr : l.stackTraces = false) (C : xk_C D kx_cl (kx_ty ca) (kw_m ad ca) ads "ModuleHouseModel" prog_14_method_49_code 1 none p e s m args meth c) (hne : c.exceptionTable.isEmpty = true) {u' : xk_St} {r : Unit} {u : xk_St} {H : Heap} {locs : List Loc} {ls : Array Slot} (h : jb_Model_tableAndMemory_133 fu   u = some (r, u')) (hP : va_P D kx_cl (kw_m ad ca u) H) (hS : va_S (xk_A ads s.heap.size) s.heap H locs) (hl : lv_has ls 1 [(0, .ref (ad 0))]) : W p l e rm_Model_tableAndMemory s m args below meth c H locs 0 0 (xk_MQ below (xk_Qc D kx_cl (kw_m ad ca) ads (xo_v (.inl r)) u') args s (xk_A ads s.heap.size)) (F0 m 133 ls []) := by
  have hx := C.1.1
  have hb := C.1.2.1
  have hok := C.2.2.1
  unfold jb_Model_tableAndMemory_133 at h
  refine lv_aload_n hx hb dd_Model_tableAndMemory_133 rfl (lv_at hl 0 rfl) ?_
  refine gf_m_Model_0_wrong C hP dd_Model_tableAndMemory_134 ?_
  refine lv_if_eq (tgt := 141) hx hb dd_Model_tableAndMemory_137 (by decide) (fun hc => ?_) (fun hc => ?_)
  · have h := xp_t hc h
    refine lv_aload_n hx hb dd_Model_tableAndMemory_141 rfl (lv_at hl 0 rfl) ?_
    refine lv_aload_n hx hb dd_Model_tableAndMemory_142 rfl (lv_at hl 0 rfl) ?_
    refine lv_iconst (v := 5) hx hb dd_Model_tableAndMemory_143 (by decide) ?_
    obtain ⟨a5, u6, hq, h⟩ := xp_seq h
    refine xk_goesI (xr_V (As := [.int (5 : Int32)]) (rest := [.ref (ad 0)]) C hP hS (ct_Model_rowOf htr hok hq) kq_Model_417 0 11 rfl rfl ⟨rfl, rfl, Nat.le_of_ble_eq_true rfl, Nat.le_of_ble_eq_true rfl⟩ ⟨Nat.le_of_ble_eq_true rfl, Nat.le_of_ble_eq_true rfl⟩ hl.1 rfl rfl (Nat.le_of_ble_eq_true rfl) dd_Model_tableAndMemory_144) hS (fun H locs hP hS => ?_)
    clear hq
    refine lv_if_le (tgt := 154) hx hb dd_Model_tableAndMemory_147 (by decide) (fun hc => ?_) (fun hc => ?_)
    · have h := xp_t hc h
      refine lv_iconst (v := 0) hx hb dd_Model_tableAndMemory_154 (by decide) ?_
      exact wj_Model_tableAndMemory_155 htr C hne h hP hS (lv_sub hl [0] rfl)
    · have h := xp_f hc h
      refine lv_iconst (v := 1) hx hb dd_Model_tableAndMemory_150 (by decide) ?_
      refine lv_goto (tgt := 155) hx hb dd_Model_tableAndMemory_151 (by decide) ?_
      exact wj_Model_tableAndMemory_155 htr C hne h hP hS (lv_sub hl [0] rfl)
  · have h := xp_f hc h
    obtain ⟨rfl, rfl⟩ := xp_r h
    exact xr_vret C hP hS dd_Model_tableAndMemory_140
set_option maxHeartbeats 4000000 in
set_option maxRecDepth 100000 in
theorem wj_Model_tableAndMemory_121 {p : Program} {l : Launch} {e : Env} {s : State} {m : MethodId} {args : Array Value} {below : List Frame} {meth : Method} {c : Code} {D : va_G} {ad : Nat → Nat} {ca : Nat → ClassId} {ads : List Nat} {fu : Nat} (htr : l.stackTraces = false) (C : xk_C D kx_cl (kx_ty ca) (kw_m ad ca) ads "ModuleHouseModel" prog_14_method_49_code 1 none p e s m args meth c) (hne : c.exceptionTable.isEmpty = true) {u' : xk_St} {r : Unit} {s0 : Int32} {u : xk_St} {H : Heap} {locs : List Loc} {ls : Array Slot} (h : jb_Model_tableAndMemory_121 fu  s0 u = some (r, u')) (hP : va_P D kx_cl (kw_m ad ca u) H) (hS : va_S (xk_A ads s.heap.size) s.heap H locs) (hl : lv_has ls 1 [(0, .ref (ad 0))]) : W p l e rm_Model_tableAndMemory s m args below meth c H locs 0 0 (xk_MQ below (xk_Qc D kx_cl (kw_m ad ca) ads (xo_v (.inl r)) u') args s (xk_A ads s.heap.size)) (F0 m 121 ls [.int s0, .ref (ad 0)]) := by
  have hx := C.1.1
  have hb := C.1.2.1
  have hok := C.2.2.1
  unfold jb_Model_tableAndMemory_121 at h
  obtain ⟨hz, h⟩ := xp_p h
  refine pf_m_Model_0_wrong C hP hS hz dd_Model_tableAndMemory_121 (fun H locs hP hS => ?_)
  obtain ⟨u23, eu23, h⟩ := xp_let h
  rw [← eu23] at hP
  refine lv_aload_n hx hb dd_Model_tableAndMemory_124 rfl (lv_at hl 0 rfl) ?_
  refine lv_aload_n hx hb dd_Model_tableAndMemory_125 rfl (lv_at hl 0 rfl) ?_
  refine gf_m_Model_0_x C hP dd_Model_tableAndMemory_126 ?_
  refine lv_l2i hx hb dd_Model_tableAndMemory_129 rfl ?_
  refine pf_m_Model_0_table C hP hS dd_Model_tableAndMemory_130 (fun H locs hP hS => ?_)
  obtain ⟨u24, eu24, h⟩ := xp_let h
  rw [← eu24] at hP
  exact wj_Model_tableAndMemory_133 htr C hne h hP hS (lv_sub hl [0] rfl)
set_option maxHeartbeats 4000000 in
set_option maxRecDepth 100000 in
theorem wj_Model_tableAndMemory_116 {p : Program} {l : Launch} {e : Env} {s : State} {m : MethodId} {args : Array Value} {below : List Frame} {meth : Method} {c : Code} {D : va_G} {ad : Nat → Nat} {ca : Nat → ClassId} {ads : List Nat} {fu : Nat} (htr : l.stackTraces = false) (C : xk_C D kx_cl (kx_ty ca) (kw_m ad ca) ads "ModuleHouseModel" prog_14_method_49_code 1 none p e s m args meth c) (hne : c.exceptionTable.isEmpty = true) {u' : xk_St} {r : Unit} {u : xk_St} {H : Heap} {locs : List Loc} {ls : Array Slot} (h : jb_Model_tableAndMemory_116 fu   u = some (r, u')) (hP : va_P D kx_cl (kw_m ad ca u) H) (hS : va_S (xk_A ads s.heap.size) s.heap H locs) (hl : lv_has ls 1 [(0, .ref (ad 0))]) : W p l e rm_Model_tableAndMemory s m args below meth c H locs 0 0 (xk_MQ below (xk_Qc D kx_cl (kw_m ad ca) ads (xo_v (.inl r)) u') args s (xk_A ads s.heap.size)) (F0 m 116 ls [.ref (ad 0)]) := by
  have hx := C.1.1
  have hb := C.1.2.1
  have hok := C.2.2.1
  unfold jb_Model_tableAndMemory_116 at h
  refine lv_iconst (v := 1) hx hb dd_Model_tableAndMemory_116 (by decide) ?_
  refine lv_goto (tgt := 121) hx hb dd_Model_tableAndMemory_117 (by decide) ?_
  exact wj_Model_tableAndMemory_121 htr C hne h hP hS (lv_sub hl [0] rfl)
set_option maxHeartbeats 4000000 in
set_option maxRecDepth 100000 in
theorem wj_Model_tableAndMemory_120 {p : Program} {l : Launch} {e : Env} {s : State} {m : MethodId} {args : Array Value} {below : List Frame} {meth : Method} {c : Code} {D : va_G} {ad : Nat → Nat} {ca : Nat → ClassId} {ads : List Nat} {fu : Nat} (htr : l.stackTraces = false) (C : xk_C D kx_cl (kx_ty ca) (kw_m ad ca) ads "ModuleHouseModel" prog_14_method_49_code 1 none p e s m args meth c) (hne : c.exceptionTable.isEmpty = true) {u' : xk_St} {r : Unit} {u : xk_St} {H : Heap} {locs : List Loc} {ls : Array Slot} (h : jb_Model_tableAndMemory_120 fu   u = some (r, u')) (hP : va_P D kx_cl (kw_m ad ca u) H) (hS : va_S (xk_A ads s.heap.size) s.heap H locs) (hl : lv_has ls 1 [(0, .ref (ad 0))]) : W p l e rm_Model_tableAndMemory s m args below meth c H locs 0 0 (xk_MQ below (xk_Qc D kx_cl (kw_m ad ca) ads (xo_v (.inl r)) u') args s (xk_A ads s.heap.size)) (F0 m 120 ls [.ref (ad 0)]) := by
  have hx := C.1.1
  have hb := C.1.2.1
  have hok := C.2.2.1
  unfold jb_Model_tableAndMemory_120 at h
  refine lv_iconst (v := 0) hx hb dd_Model_tableAndMemory_120 (by decide) ?_
  exact wj_Model_tableAndMemory_121 htr C hne h hP hS (lv_sub hl [0] rfl)
set_option maxHeartbeats 4000000 in
set_option maxRecDepth 100000 in
theorem wj_Model_tableAndMemory_61 {p : Program} {l : Launch} {e : Env} {s : State} {m : MethodId} {args : Array Value} {below : List Frame} {meth : Method} {c : Code} {D : va_G} {ad : Nat → Nat} {ca : Nat → ClassId} {ads : List Nat} {fu : Nat} (htr : l.stackTraces = false) (C : xk_C D kx_cl (kx_ty ca) (kw_m ad ca) ads "ModuleHouseModel" prog_14_method_49_code 1 none p e s m args meth c) (hne : c.exceptionTable.isEmpty = true) {u' : xk_St} {r : Unit} {s0 : Int32} {u : xk_St} {H : Heap} {locs : List Loc} {ls : Array Slot} (h : jb_Model_tableAndMemory_61 fu  s0 u = some (r, u')) (hP : va_P D kx_cl (kw_m ad ca u) H) (hS : va_S (xk_A ads s.heap.size) s.heap H locs) (hl : lv_has ls 1 [(0, .ref (ad 0))]) : W p l e rm_Model_tableAndMemory s m args below meth c H locs 0 0 (xk_MQ below (xk_Qc D kx_cl (kw_m ad ca) ads (xo_v (.inl r)) u') args s (xk_A ads s.heap.size)) (F0 m 61 ls [.int s0, .ref (ad 0)]) := by
  have hx := C.1.1
  have hb := C.1.2.1
  have hok := C.2.2.1
  unfold jb_Model_tableAndMemory_61 at h
  obtain ⟨hz, h⟩ := xp_p h
  refine pf_m_Model_0_wrong C hP hS hz dd_Model_tableAndMemory_61 (fun H locs hP hS => ?_)
  obtain ⟨u20, eu20, h⟩ := xp_let h
  rw [← eu20] at hP
  refine lv_aload_n hx hb dd_Model_tableAndMemory_64 rfl (lv_at hl 0 rfl) ?_
  refine lv_bipush (v := 112) hx hb dd_Model_tableAndMemory_65 (by decide) ?_
  obtain ⟨rx, u21, hq, h⟩ := xp_seq h
  refine xk_goesV (xr_V (As := [.int (112 : Int32)]) (rest := []) C hP hS (ct_Model_needs htr hok hq) kq_Model_308 0 11 rfl rfl ⟨rfl, rfl, Nat.le_of_ble_eq_true rfl, Nat.le_of_ble_eq_true rfl⟩ ⟨Nat.le_of_ble_eq_true rfl, Nat.le_of_ble_eq_true rfl⟩ hl.1 rfl rfl (Nat.le_of_ble_eq_true rfl) dd_Model_tableAndMemory_67) hS (fun H locs hP hS => ?_)
  clear hq
  refine lv_aload_n hx hb dd_Model_tableAndMemory_70 rfl (lv_at hl 0 rfl) ?_
  obtain ⟨rx, u22, hq, h⟩ := xp_seq h
  refine xk_goesV (xr_V (As := []) (rest := []) C hP hS (ct_Model_limits htr hok hq) kq_Model_354 0 11 rfl rfl ⟨rfl, rfl, Nat.le_of_ble_eq_true rfl, Nat.le_of_ble_eq_true rfl⟩ ⟨Nat.le_of_ble_eq_true rfl, Nat.le_of_ble_eq_true rfl⟩ hl.1 rfl rfl (Nat.le_of_ble_eq_true rfl) dd_Model_tableAndMemory_71) hS (fun H locs hP hS => ?_)
  clear hq
  refine lv_aload_n hx hb dd_Model_tableAndMemory_74 rfl (lv_at hl 0 rfl) ?_
  refine lv_aload_n hx hb dd_Model_tableAndMemory_75 rfl (lv_at hl 0 rfl) ?_
  refine gf_m_Model_0_wrong C hP dd_Model_tableAndMemory_76 ?_
  refine lv_if_ne (tgt := 116) hx hb dd_Model_tableAndMemory_79 (by decide) (fun hc => ?_) (fun hc => ?_)
  · have h := xp_f hc h
    exact wj_Model_tableAndMemory_116 htr C hne h hP hS (lv_sub hl [0] rfl)
  · have h := xp_t hc h
    refine lv_aload_n hx hb dd_Model_tableAndMemory_82 rfl (lv_at hl 0 rfl) ?_
    refine gf_m_Model_0_x C hP dd_Model_tableAndMemory_83 ?_
    refine lv_ldc2 (v := 64) hx hb C.1.2.2.2.1 (C.1.2.2.2.2 _ (xk_c9 (w := Jvm.Cond.constantLong "ModuleHouseModel" 197 64) 142 rfl rfl)) dd_Model_tableAndMemory_86 ?_
    refine xr_lc_gt (tgt := 116) hx hb dd_Model_tableAndMemory_89 dd_Model_tableAndMemory_90 (by decide) (fun hc => ?_) (fun hc => ?_)
    · have h := xp_t hc h
      exact wj_Model_tableAndMemory_116 htr C hne h hP hS (lv_sub hl [0] rfl)
    · have h := xp_f hc h
      refine lv_aload_n hx hb dd_Model_tableAndMemory_93 rfl (lv_at hl 0 rfl) ?_
      refine gf_m_Model_0_y C hP dd_Model_tableAndMemory_94 ?_
      refine lv_ldc2 (v := (-1)) hx hb C.1.2.2.2.1 (C.1.2.2.2.2 _ (xk_c9 (w := Jvm.Cond.constantLong "ModuleHouseModel" 184 (-1)) 138 rfl rfl)) dd_Model_tableAndMemory_97 ?_
      refine xr_lc_eq (tgt := 120) hx hb dd_Model_tableAndMemory_100 dd_Model_tableAndMemory_101 (by decide) (fun hc => ?_) (fun hc => ?_)
      · have h := xp_t hc h
        exact wj_Model_tableAndMemory_120 htr C hne h hP hS (lv_sub hl [0] rfl)
      · have h := xp_f hc h
        refine lv_aload_n hx hb dd_Model_tableAndMemory_104 rfl (lv_at hl 0 rfl) ?_
        refine gf_m_Model_0_y C hP dd_Model_tableAndMemory_105 ?_
        refine lv_aload_n hx hb dd_Model_tableAndMemory_108 rfl (lv_at hl 0 rfl) ?_
        refine gf_m_Model_0_x C hP dd_Model_tableAndMemory_109 ?_
        refine xr_lc_ge (tgt := 120) hx hb dd_Model_tableAndMemory_112 dd_Model_tableAndMemory_113 (by decide) (fun hc => ?_) (fun hc => ?_)
        · have h := xp_t hc h
          exact wj_Model_tableAndMemory_120 htr C hne h hP hS (lv_sub hl [0] rfl)
        · have h := xp_f hc h
          exact wj_Model_tableAndMemory_116 htr C hne h hP hS (lv_sub hl [0] rfl)
set_option maxHeartbeats 4000000 in
set_option maxRecDepth 100000 in
theorem wj_Model_tableAndMemory_56 {p : Program} {l : Launch} {e : Env} {s : State} {m : MethodId} {args : Array Value} {below : List Frame} {meth : Method} {c : Code} {D : va_G} {ad : Nat → Nat} {ca : Nat → ClassId} {ads : List Nat} {fu : Nat} (htr : l.stackTraces = false) (C : xk_C D kx_cl (kx_ty ca) (kw_m ad ca) ads "ModuleHouseModel" prog_14_method_49_code 1 none p e s m args meth c) (hne : c.exceptionTable.isEmpty = true) {u' : xk_St} {r : Unit} {u : xk_St} {H : Heap} {locs : List Loc} {ls : Array Slot} (h : jb_Model_tableAndMemory_56 fu   u = some (r, u')) (hP : va_P D kx_cl (kw_m ad ca u) H) (hS : va_S (xk_A ads s.heap.size) s.heap H locs) (hl : lv_has ls 1 [(0, .ref (ad 0))]) : W p l e rm_Model_tableAndMemory s m args below meth c H locs 0 0 (xk_MQ below (xk_Qc D kx_cl (kw_m ad ca) ads (xo_v (.inl r)) u') args s (xk_A ads s.heap.size)) (F0 m 56 ls [.ref (ad 0)]) := by
  have hx := C.1.1
  have hb := C.1.2.1
  have hok := C.2.2.1
  unfold jb_Model_tableAndMemory_56 at h
  refine lv_iconst (v := 1) hx hb dd_Model_tableAndMemory_56 (by decide) ?_
  refine lv_goto (tgt := 61) hx hb dd_Model_tableAndMemory_57 (by decide) ?_
  exact wj_Model_tableAndMemory_61 htr C hne h hP hS (lv_sub hl [0] rfl)
set_option maxHeartbeats 4000000 in
set_option maxRecDepth 100000 in
theorem wj_Model_tableAndMemory_14 {p : Program} {l : Launch} {e : Env} {s : State} {m : MethodId} {args : Array Value} {below : List Frame} {meth : Method} {c : Code} {D : va_G} {ad : Nat → Nat} {ca : Nat → ClassId} {ads : List Nat} {fu : Nat} (htr : l.stackTraces = false) (C : xk_C D kx_cl (kx_ty ca) (kw_m ad ca) ads "ModuleHouseModel" prog_14_method_49_code 1 none p e s m args meth c) (hne : c.exceptionTable.isEmpty = true) {u' : xk_St} {r : Unit} {s0 : Int32} {u : xk_St} {H : Heap} {locs : List Loc} {ls : Array Slot} (h : jb_Model_tableAndMemory_14 fu  s0 u = some (r, u')) (hP : va_P D kx_cl (kw_m ad ca u) H) (hS : va_S (xk_A ads s.heap.size) s.heap H locs) (hl : lv_has ls 1 [(0, .ref (ad 0))]) : W p l e rm_Model_tableAndMemory s m args below meth c H locs 0 0 (xk_MQ below (xk_Qc D kx_cl (kw_m ad ca) ads (xo_v (.inl r)) u') args s (xk_A ads s.heap.size)) (F0 m 14 ls [.int s0, .ref (ad 0)]) := by
  have hx := C.1.1
  have hb := C.1.2.1
  have hok := C.2.2.1
  unfold jb_Model_tableAndMemory_14 at h
  obtain ⟨hz, h⟩ := xp_p h
  refine pf_m_Model_0_hasTable C hP hS hz dd_Model_tableAndMemory_14 (fun H locs hP hS => ?_)
  obtain ⟨u3, eu3, h⟩ := xp_let h
  rw [← eu3] at hP
  refine lv_aload_n hx hb dd_Model_tableAndMemory_17 rfl (lv_at hl 0 rfl) ?_
  refine lv_iconst (v := 0) hx hb dd_Model_tableAndMemory_18 (by decide) ?_
  refine pf_m_Model_0_table C hP hS dd_Model_tableAndMemory_19 (fun H locs hP hS => ?_)
  obtain ⟨u4, eu4, h⟩ := xp_let h
  rw [← eu4] at hP
  refine lv_aload_n hx hb dd_Model_tableAndMemory_22 rfl (lv_at hl 0 rfl) ?_
  refine gf_m_Model_0_hasTable C hP dd_Model_tableAndMemory_23 ?_
  refine lv_if_eq (tgt := 133) hx hb dd_Model_tableAndMemory_26 (by decide) (fun hc => ?_) (fun hc => ?_)
  · have h := xp_t hc h
    exact wj_Model_tableAndMemory_133 htr C hne h hP hS (lv_sub hl [0] rfl)
  · have h := xp_f hc h
    refine lv_aload_n hx hb dd_Model_tableAndMemory_29 rfl (lv_at hl 0 rfl) ?_
    refine lv_aload_n hx hb dd_Model_tableAndMemory_30 rfl (lv_at hl 0 rfl) ?_
    refine gf_m_Model_0_sections C hP dd_Model_tableAndMemory_31 ?_
    refine lv_iconst (v := 4) hx hb dd_Model_tableAndMemory_34 (by decide) ?_
    obtain ⟨hi, h⟩ := xp_g h
    refine al_m_4 C hP hi dd_Model_tableAndMemory_35 ?_
    refine pf_m_Model_0_at C hP hS dd_Model_tableAndMemory_36 (fun H locs hP hS => ?_)
    obtain ⟨u19, eu19, h⟩ := xp_let h
    rw [← eu19] at hP
    refine lv_aload_n hx hb dd_Model_tableAndMemory_39 rfl (lv_at hl 0 rfl) ?_
    refine lv_aload_n hx hb dd_Model_tableAndMemory_40 rfl (lv_at hl 0 rfl) ?_
    refine gf_m_Model_0_wrong C hP dd_Model_tableAndMemory_41 ?_
    refine lv_if_ne (tgt := 56) hx hb dd_Model_tableAndMemory_44 (by decide) (fun hc => ?_) (fun hc => ?_)
    · have h := xp_f hc h
      exact wj_Model_tableAndMemory_56 htr C hne h hP hS (lv_sub hl [0] rfl)
    · have h := xp_t hc h
      refine lv_aload_n hx hb dd_Model_tableAndMemory_47 rfl (lv_at hl 0 rfl) ?_
      obtain ⟨a25, u26, hq, h⟩ := xp_seq h
      refine xk_goesL (xr_V (As := []) (rest := [.ref (ad 0)]) C hP hS (ct_Model_number htr hok hq) kq_Model_295 0 11 rfl rfl ⟨rfl, rfl, Nat.le_of_ble_eq_true rfl, Nat.le_of_ble_eq_true rfl⟩ ⟨Nat.le_of_ble_eq_true rfl, Nat.le_of_ble_eq_true rfl⟩ hl.1 rfl rfl (Nat.le_of_ble_eq_true rfl) dd_Model_tableAndMemory_48) hS (fun H locs hP hS => ?_)
      clear hq
      refine lv_lconst (v := 1) hx hb dd_Model_tableAndMemory_51 (by decide) ?_
      refine xr_lc_le (tgt := 60) hx hb dd_Model_tableAndMemory_52 dd_Model_tableAndMemory_53 (by decide) (fun hc => ?_) (fun hc => ?_)
      · have h := xp_t hc h
        refine lv_iconst (v := 0) hx hb dd_Model_tableAndMemory_60 (by decide) ?_
        exact wj_Model_tableAndMemory_61 htr C hne h hP hS (lv_sub hl [0] rfl)
      · have h := xp_f hc h
        exact wj_Model_tableAndMemory_56 htr C hne h hP hS (lv_sub hl [0] rfl)
set_option maxHeartbeats 4000000 in
set_option maxRecDepth 100000 in
theorem ct_Model_tableAndMemory {l : Launch} {D : va_G} {ad : Nat → Nat} {ca : Nat → ClassId} {ads : List Nat} (htr : l.stackTraces = false) (hok : xk_ok (kw_m ad ca) ads) {fu : Nat} {u u' : xk_St} {r : Unit} (h : fm_Model_tableAndMemory fu u = some (r, u')) :
    ∀ sz, xk_Met l ⟨"ModuleHouseModel", "tableAndMemory", "()V"⟩ (Cond.code ⟨"ModuleHouseModel", "tableAndMemory", "()V"⟩ prog_14_method_49_code 1 none :: xk_gd) rm_Model_tableAndMemory (xk_Pc D kx_cl (kx_ty ca) (kw_m ad ca) ads xk_F sz [.ref (ad 0)] u) (xk_Qc D kx_cl (kw_m ad ca) ads (xo_v (.inl r)) u') (xk_A ads sz) := by
  unfold fm_Model_tableAndMemory at h
  refine xk_con (by decide) htr hok (Nat.le_of_ble_eq_true rfl) (fun p e s m below meth c ls C hne hl hP => ?_)
  have hx := C.1.1
  have hb := C.1.2.1
  have hS : va_S (xk_A ads s.heap.size) s.heap s.heap [] := va_S.rf
  have hl : lv_has ls 1 [(0, .ref (ad 0))] := hl
  refine lv_aload_n hx hb dd_Model_tableAndMemory_0 rfl (lv_at hl 0 rfl) ?_
  refine lv_aload_n hx hb dd_Model_tableAndMemory_1 rfl (lv_at hl 0 rfl) ?_
  refine lv_iconst (v := 4) hx hb dd_Model_tableAndMemory_2 (by decide) ?_
  obtain ⟨a1, u2, hq, h⟩ := xp_seq h
  refine xk_goesI (xr_V (As := [.int (4 : Int32)]) (rest := [.ref (ad 0)]) C hP hS (ct_Model_rowOf htr hok hq) kq_Model_417 0 11 rfl rfl ⟨rfl, rfl, Nat.le_of_ble_eq_true rfl, Nat.le_of_ble_eq_true rfl⟩ ⟨Nat.le_of_ble_eq_true rfl, Nat.le_of_ble_eq_true rfl⟩ hl.1 rfl rfl (Nat.le_of_ble_eq_true rfl) dd_Model_tableAndMemory_3) hS (fun H locs hP hS => ?_)
  clear hq
  refine lv_if_le (tgt := 13) hx hb dd_Model_tableAndMemory_6 (by decide) (fun hc => ?_) (fun hc => ?_)
  · have h := xp_t hc h
    refine lv_iconst (v := 0) hx hb dd_Model_tableAndMemory_13 (by decide) ?_
    exact wj_Model_tableAndMemory_14 htr C hne h hP hS (lv_sub hl [0] rfl)
  · have h := xp_f hc h
    refine lv_iconst (v := 1) hx hb dd_Model_tableAndMemory_9 (by decide) ?_
    refine lv_goto (tgt := 14) hx hb dd_Model_tableAndMemory_10 (by decide) ?_
    exact wj_Model_tableAndMemory_14 htr C hne h hP hS (lv_sub hl [0] rfl)
abbrev rm_Model_isPartAlike : Room := { frames := 2, cells := 1, slots := 6, locals := 20 }
noncomputable def jb_Model_isPartAlike_14 (b1 : Int32) (b3 : Int32) (u : xk_St) : Option (Int32 × xk_St) :=
  if b1 = b3 then (some ((1 : Int32), u)) else (some ((0 : Int32), u))
noncomputable def jb_Model_isPartAlike_62 (b5 : Int32) (b6 : Int32) (u : xk_St) : Option (Int32 × xk_St) :=
  if b5 = b6 then (some ((1 : Int32), u)) else (some ((0 : Int32), u))
noncomputable def jb_Model_isPartAlike_118 (u : xk_St) : Option (Int32 × xk_St) :=
  some ((1 : Int32), u)
noncomputable def jb_Model_isPartAlike_88 (b2 : Int32) (b4 : Int32) (b5 : Int32) (b6 : Int32) (u : xk_St) : Option (Int32 × xk_St) :=
  if b2 ≤ b5 then (some ((0 : Int32), u)) else (if b4 ≤ b6 then (some ((0 : Int32), u)) else ((if b5 < 0 ∨ 64 ≤ b5.toNatClampNeg then none else if b6 < 0 ∨ 64 ≤ b6.toNatClampNeg then none else if (u.2.2.1 8 b5.toNatClampNeg) = (u.2.2.1 8 b6.toNatClampNeg) then (jb_Model_isPartAlike_118 u) else (some ((0 : Int32), u)))))
noncomputable def fm_Model_isPartAlike (x0 : Int32) (x1 : Int32) (x2 : Int32) (x3 : Int32) (u : xk_St) : Option (Int32 × xk_St) :=
  (xs_seq (fm_Model_isReference x0 u) fun a1 u2 => if a1 = (0 : Int32) then (jb_Model_isPartAlike_14 x0 x2 u2) else ((xs_seq (fm_Model_isReference x2 u2) fun a3 u4 => if a3 = (0 : Int32) then (jb_Model_isPartAlike_14 x0 x2 u4) else ((xs_seq (fm_Model_targetOf x0 u4) fun a5 u6 => xs_let (a5 - (2 : Int32)) fun a7 => xs_seq (fm_Model_targetOf x2 u6) fun a8 u9 => xs_let (a8 - (2 : Int32)) fun a10 => if (x0 &&& (1 : Int32)) = (x2 &&& (1 : Int32)) then (if a7 < (0 : Int32) then (jb_Model_isPartAlike_62 a7 a10 u9) else (if (0 : Int32) ≤ a10 then (if a7 = x1 then (if a10 = x3 then (jb_Model_isPartAlike_118 u9) else (jb_Model_isPartAlike_88 x1 x3 a7 a10 u9)) else (jb_Model_isPartAlike_88 x1 x3 a7 a10 u9)) else (jb_Model_isPartAlike_62 a7 a10 u9))) else (some ((0 : Int32), u9)))))))
set_option maxHeartbeats 4000000 in
set_option maxRecDepth 100000 in
theorem wj_Model_isPartAlike_14 {p : Program} {l : Launch} {e : Env} {s : State} {m : MethodId} {args : Array Value} {below : List Frame} {meth : Method} {c : Code} {D : va_G} {ad : Nat → Nat} {ca : Nat → ClassId} {ads : List Nat} (htr : l.stackTraces = false) (C : xk_C D kx_cl (kx_ty ca) (kw_m ad ca) ads "ModuleHouseModel" prog_14_method_42_code 7 (some .boolean) p e s m args meth c) (hne : c.exceptionTable.isEmpty = true) {u' : xk_St} {r : Int32} {b1 : Int32} {b3 : Int32} {u : xk_St} {H : Heap} {locs : List Loc} {ls : Array Slot} (h : jb_Model_isPartAlike_14  b1 b3 u = some (r, u')) (hP : va_P D kx_cl (kw_m ad ca u) H) (hS : va_S (xk_A ads s.heap.size) s.heap H locs) (hl : lv_has ls 7 [(1, .int b1), (3, .int b3)]) : W p l e rm_Model_isPartAlike s m args below meth c H locs 0 0 (xk_MQ below (xk_Qc D kx_cl (kw_m ad ca) ads (xo_i (.inl r)) u') args s (xk_A ads s.heap.size)) (F0 m 14 ls []) := by
  have hx := C.1.1
  have hb := C.1.2.1
  have hok := C.2.2.1
  unfold jb_Model_isPartAlike_14 at h
  refine lv_iload_n hx hb dd_Model_isPartAlike_14 rfl (lv_at hl 0 rfl) ?_
  refine lv_iload_n hx hb dd_Model_isPartAlike_15 rfl (lv_at hl 1 rfl) ?_
  refine lv_icmp_ne (tgt := 23) hx hb dd_Model_isPartAlike_16 (by decide) (fun hc => ?_) (fun hc => ?_)
  · have h := xp_f hc h
    refine lv_iconst (v := 0) hx hb dd_Model_isPartAlike_23 (by decide) ?_
    obtain ⟨rfl, rfl⟩ := xp_r h
    exact xr_zret C hP hS (by decide) dd_Model_isPartAlike_24
  · have h := xp_t hc h
    refine lv_iconst (v := 1) hx hb dd_Model_isPartAlike_19 (by decide) ?_
    refine lv_goto (tgt := 24) hx hb dd_Model_isPartAlike_20 (by decide) ?_
    obtain ⟨rfl, rfl⟩ := xp_r h
    exact xr_zret C hP hS (by decide) dd_Model_isPartAlike_24
set_option maxHeartbeats 4000000 in
set_option maxRecDepth 100000 in
theorem wj_Model_isPartAlike_62 {p : Program} {l : Launch} {e : Env} {s : State} {m : MethodId} {args : Array Value} {below : List Frame} {meth : Method} {c : Code} {D : va_G} {ad : Nat → Nat} {ca : Nat → ClassId} {ads : List Nat} (htr : l.stackTraces = false) (C : xk_C D kx_cl (kx_ty ca) (kw_m ad ca) ads "ModuleHouseModel" prog_14_method_42_code 7 (some .boolean) p e s m args meth c) (hne : c.exceptionTable.isEmpty = true) {u' : xk_St} {r : Int32} {b5 : Int32} {b6 : Int32} {u : xk_St} {H : Heap} {locs : List Loc} {ls : Array Slot} (h : jb_Model_isPartAlike_62  b5 b6 u = some (r, u')) (hP : va_P D kx_cl (kw_m ad ca u) H) (hS : va_S (xk_A ads s.heap.size) s.heap H locs) (hl : lv_has ls 7 [(5, .int b5), (6, .int b6)]) : W p l e rm_Model_isPartAlike s m args below meth c H locs 0 0 (xk_MQ below (xk_Qc D kx_cl (kw_m ad ca) ads (xo_i (.inl r)) u') args s (xk_A ads s.heap.size)) (F0 m 62 ls []) := by
  have hx := C.1.1
  have hb := C.1.2.1
  have hok := C.2.2.1
  unfold jb_Model_isPartAlike_62 at h
  refine lv_iload hx hb dd_Model_isPartAlike_62 (lv_at hl 0 rfl) ?_
  refine lv_iload hx hb dd_Model_isPartAlike_64 (lv_at hl 1 rfl) ?_
  refine lv_icmp_ne (tgt := 73) hx hb dd_Model_isPartAlike_66 (by decide) (fun hc => ?_) (fun hc => ?_)
  · have h := xp_f hc h
    refine lv_iconst (v := 0) hx hb dd_Model_isPartAlike_73 (by decide) ?_
    obtain ⟨rfl, rfl⟩ := xp_r h
    exact xr_zret C hP hS (by decide) dd_Model_isPartAlike_74
  · have h := xp_t hc h
    refine lv_iconst (v := 1) hx hb dd_Model_isPartAlike_69 (by decide) ?_
    refine lv_goto (tgt := 74) hx hb dd_Model_isPartAlike_70 (by decide) ?_
    obtain ⟨rfl, rfl⟩ := xp_r h
    exact xr_zret C hP hS (by decide) dd_Model_isPartAlike_74
set_option maxHeartbeats 4000000 in
set_option maxRecDepth 100000 in
theorem wj_Model_isPartAlike_118 {p : Program} {l : Launch} {e : Env} {s : State} {m : MethodId} {args : Array Value} {below : List Frame} {meth : Method} {c : Code} {D : va_G} {ad : Nat → Nat} {ca : Nat → ClassId} {ads : List Nat} (htr : l.stackTraces = false) (C : xk_C D kx_cl (kx_ty ca) (kw_m ad ca) ads "ModuleHouseModel" prog_14_method_42_code 7 (some .boolean) p e s m args meth c) (hne : c.exceptionTable.isEmpty = true) {u' : xk_St} {r : Int32} {u : xk_St} {H : Heap} {locs : List Loc} {ls : Array Slot} (h : jb_Model_isPartAlike_118   u = some (r, u')) (hP : va_P D kx_cl (kw_m ad ca u) H) (hS : va_S (xk_A ads s.heap.size) s.heap H locs) (hl : lv_has ls 7 []) : W p l e rm_Model_isPartAlike s m args below meth c H locs 0 0 (xk_MQ below (xk_Qc D kx_cl (kw_m ad ca) ads (xo_i (.inl r)) u') args s (xk_A ads s.heap.size)) (F0 m 118 ls []) := by
  have hx := C.1.1
  have hb := C.1.2.1
  have hok := C.2.2.1
  unfold jb_Model_isPartAlike_118 at h
  refine lv_iconst (v := 1) hx hb dd_Model_isPartAlike_118 (by decide) ?_
  refine lv_goto (tgt := 123) hx hb dd_Model_isPartAlike_119 (by decide) ?_
  obtain ⟨rfl, rfl⟩ := xp_r h
  exact xr_zret C hP hS (by decide) dd_Model_isPartAlike_123
set_option maxHeartbeats 4000000 in
set_option maxRecDepth 100000 in
theorem wj_Model_isPartAlike_88 {p : Program} {l : Launch} {e : Env} {s : State} {m : MethodId} {args : Array Value} {below : List Frame} {meth : Method} {c : Code} {D : va_G} {ad : Nat → Nat} {ca : Nat → ClassId} {ads : List Nat} (htr : l.stackTraces = false) (C : xk_C D kx_cl (kx_ty ca) (kw_m ad ca) ads "ModuleHouseModel" prog_14_method_42_code 7 (some .boolean) p e s m args meth c) (hne : c.exceptionTable.isEmpty = true) {u' : xk_St} {r : Int32} {b2 : Int32} {b4 : Int32} {b5 : Int32} {b6 : Int32} {u : xk_St} {H : Heap} {locs : List Loc} {ls : Array Slot} (h : jb_Model_isPartAlike_88  b2 b4 b5 b6 u = some (r, u')) (hP : va_P D kx_cl (kw_m ad ca u) H) (hS : va_S (xk_A ads s.heap.size) s.heap H locs) (hl : lv_has ls 7 [(0, .ref (ad 0)), (2, .int b2), (4, .int b4), (5, .int b5), (6, .int b6)]) : W p l e rm_Model_isPartAlike s m args below meth c H locs 0 0 (xk_MQ below (xk_Qc D kx_cl (kw_m ad ca) ads (xo_i (.inl r)) u') args s (xk_A ads s.heap.size)) (F0 m 88 ls []) := by
  have hx := C.1.1
  have hb := C.1.2.1
  have hok := C.2.2.1
  unfold jb_Model_isPartAlike_88 at h
  refine lv_iload hx hb dd_Model_isPartAlike_88 (lv_at hl 3 rfl) ?_
  refine lv_iload_n hx hb dd_Model_isPartAlike_90 rfl (lv_at hl 1 rfl) ?_
  refine lv_icmp_ge (tgt := 122) hx hb dd_Model_isPartAlike_91 (by decide) (fun hc => ?_) (fun hc => ?_)
  · have h := xp_t hc h
    refine lv_iconst (v := 0) hx hb dd_Model_isPartAlike_122 (by decide) ?_
    obtain ⟨rfl, rfl⟩ := xp_r h
    exact xr_zret C hP hS (by decide) dd_Model_isPartAlike_123
  · have h := xp_f hc h
    refine lv_iload hx hb dd_Model_isPartAlike_94 (lv_at hl 4 rfl) ?_
    refine lv_iload hx hb dd_Model_isPartAlike_96 (lv_at hl 2 rfl) ?_
    refine lv_icmp_ge (tgt := 122) hx hb dd_Model_isPartAlike_98 (by decide) (fun hc => ?_) (fun hc => ?_)
    · have h := xp_t hc h
      refine lv_iconst (v := 0) hx hb dd_Model_isPartAlike_122 (by decide) ?_
      obtain ⟨rfl, rfl⟩ := xp_r h
      exact xr_zret C hP hS (by decide) dd_Model_isPartAlike_123
    · have h := xp_f hc h
      refine lv_aload_n hx hb dd_Model_isPartAlike_101 rfl (lv_at hl 0 rfl) ?_
      refine gf_m_Model_0_alike C hP dd_Model_isPartAlike_102 ?_
      refine lv_iload hx hb dd_Model_isPartAlike_105 (lv_at hl 3 rfl) ?_
      obtain ⟨hi, h⟩ := xp_g h
      refine al_m_10 C hP hi dd_Model_isPartAlike_107 ?_
      refine lv_aload_n hx hb dd_Model_isPartAlike_108 rfl (lv_at hl 0 rfl) ?_
      refine gf_m_Model_0_alike C hP dd_Model_isPartAlike_109 ?_
      refine lv_iload hx hb dd_Model_isPartAlike_112 (lv_at hl 4 rfl) ?_
      obtain ⟨hi, h⟩ := xp_g h
      refine al_m_10 C hP hi dd_Model_isPartAlike_114 ?_
      refine lv_icmp_ne (tgt := 122) hx hb dd_Model_isPartAlike_115 (by decide) (fun hc => ?_) (fun hc => ?_)
      · have h := xp_f hc h
        refine lv_iconst (v := 0) hx hb dd_Model_isPartAlike_122 (by decide) ?_
        obtain ⟨rfl, rfl⟩ := xp_r h
        exact xr_zret C hP hS (by decide) dd_Model_isPartAlike_123
      · have h := xp_t hc h
        exact wj_Model_isPartAlike_118 htr C hne h hP hS (lv_sub hl [] rfl)
set_option maxHeartbeats 4000000 in
set_option maxRecDepth 100000 in
theorem ct_Model_isPartAlike {l : Launch} {D : va_G} {ad : Nat → Nat} {ca : Nat → ClassId} {ads : List Nat} (htr : l.stackTraces = false) (hok : xk_ok (kw_m ad ca) ads) {x0 : Int32} {x1 : Int32} {x2 : Int32} {x3 : Int32} {u u' : xk_St} {r : Int32} (h : fm_Model_isPartAlike x0 x1 x2 x3 u = some (r, u')) :
    ∀ sz, xk_Met l ⟨"ModuleHouseModel", "isPartAlike", "(IIII)Z"⟩ (Cond.code ⟨"ModuleHouseModel", "isPartAlike", "(IIII)Z"⟩ prog_14_method_42_code 7 (some .boolean) :: xk_gd) rm_Model_isPartAlike (xk_Pc D kx_cl (kx_ty ca) (kw_m ad ca) ads xk_F sz [.ref (ad 0), .int x0, .int x1, .int x2, .int x3] u) (xk_Qc D kx_cl (kw_m ad ca) ads (xo_i (.inl r)) u') (xk_A ads sz) := by
  unfold fm_Model_isPartAlike at h
  refine xk_con (by decide) htr hok (Nat.le_of_ble_eq_true rfl) (fun p e s m below meth c ls C hne hl hP => ?_)
  have hx := C.1.1
  have hb := C.1.2.1
  have hS : va_S (xk_A ads s.heap.size) s.heap s.heap [] := va_S.rf
  have hl : lv_has ls 7 [(0, .ref (ad 0)), (1, .int x0), (2, .int x1), (3, .int x2), (4, .int x3)] := hl
  refine lv_iload_n hx hb dd_Model_isPartAlike_0 rfl (lv_at hl 1 rfl) ?_
  obtain ⟨a1, u2, hq, h⟩ := xp_seq h
  refine xk_goesI (xr_S (As := [.int x0]) (rest := []) C hP hS (ct_Model_isReference htr hok hq) kq_Model_384 ⟨rfl, rfl, Nat.le_of_ble_eq_true rfl, Nat.le_of_ble_eq_true rfl⟩ ⟨Nat.le_of_ble_eq_true rfl, Nat.le_of_ble_eq_true rfl⟩ hl.1 rfl rfl (Nat.le_of_ble_eq_true rfl) dd_Model_isPartAlike_1) hS (fun H locs hP hS => ?_)
  clear hq
  refine lv_if_eq (tgt := 14) hx hb dd_Model_isPartAlike_4 (by decide) (fun hc => ?_) (fun hc => ?_)
  · have h := xp_t hc h
    exact wj_Model_isPartAlike_14 htr C hne h hP hS (lv_sub hl [1, 3] rfl)
  · have h := xp_f hc h
    refine lv_iload_n hx hb dd_Model_isPartAlike_7 rfl (lv_at hl 3 rfl) ?_
    obtain ⟨a3, u4, hq, h⟩ := xp_seq h
    refine xk_goesI (xr_S (As := [.int x2]) (rest := []) C hP hS (ct_Model_isReference htr hok hq) kq_Model_384 ⟨rfl, rfl, Nat.le_of_ble_eq_true rfl, Nat.le_of_ble_eq_true rfl⟩ ⟨Nat.le_of_ble_eq_true rfl, Nat.le_of_ble_eq_true rfl⟩ hl.1 rfl rfl (Nat.le_of_ble_eq_true rfl) dd_Model_isPartAlike_8) hS (fun H locs hP hS => ?_)
    clear hq
    refine lv_if_ne (tgt := 25) hx hb dd_Model_isPartAlike_11 (by decide) (fun hc => ?_) (fun hc => ?_)
    · have h := xp_f hc h
      refine lv_iload_n hx hb dd_Model_isPartAlike_25 rfl (lv_at hl 1 rfl) ?_
      obtain ⟨a5, u6, hq, h⟩ := xp_seq h
      refine xk_goesI (xr_S (As := [.int x0]) (rest := []) C hP hS (ct_Model_targetOf htr hok hq) kq_Model_387 ⟨rfl, rfl, Nat.le_of_ble_eq_true rfl, Nat.le_of_ble_eq_true rfl⟩ ⟨Nat.le_of_ble_eq_true rfl, Nat.le_of_ble_eq_true rfl⟩ hl.1 rfl rfl (Nat.le_of_ble_eq_true rfl) dd_Model_isPartAlike_26) hS (fun H locs hP hS => ?_)
      clear hq
      refine lv_iconst (v := 2) hx hb dd_Model_isPartAlike_29 (by decide) ?_
      refine lv_isub hx hb dd_Model_isPartAlike_30 ?_
      obtain ⟨a7, ea7, h⟩ := xp_let h
      refine xr_nami ea7 ?_
      refine lv_istore (lv' := [(5, .int a7), (0, .ref (ad 0)), (1, .int x0), (2, .int x1), (3, .int x2), (4, .int x3)]) hx hb dd_Model_isPartAlike_31 hl (by decide) rfl (fun ls hl => ?_)
      refine lv_iload_n hx hb dd_Model_isPartAlike_33 rfl (lv_at hl 4 rfl) ?_
      obtain ⟨a8, u9, hq, h⟩ := xp_seq h
      refine xk_goesI (xr_S (As := [.int x2]) (rest := []) C hP hS (ct_Model_targetOf htr hok hq) kq_Model_387 ⟨rfl, rfl, Nat.le_of_ble_eq_true rfl, Nat.le_of_ble_eq_true rfl⟩ ⟨Nat.le_of_ble_eq_true rfl, Nat.le_of_ble_eq_true rfl⟩ hl.1 rfl rfl (Nat.le_of_ble_eq_true rfl) dd_Model_isPartAlike_34) hS (fun H locs hP hS => ?_)
      clear hq
      refine lv_iconst (v := 2) hx hb dd_Model_isPartAlike_37 (by decide) ?_
      refine lv_isub hx hb dd_Model_isPartAlike_38 ?_
      obtain ⟨a10, ea10, h⟩ := xp_let h
      refine xr_nami ea10 ?_
      refine lv_istore (lv' := [(6, .int a10), (5, .int a7), (0, .ref (ad 0)), (1, .int x0), (2, .int x1), (3, .int x2), (4, .int x3)]) hx hb dd_Model_isPartAlike_39 hl (by decide) rfl (fun ls hl => ?_)
      refine lv_iload_n hx hb dd_Model_isPartAlike_41 rfl (lv_at hl 3 rfl) ?_
      refine lv_iconst (v := 1) hx hb dd_Model_isPartAlike_42 (by decide) ?_
      refine lv_iand hx hb dd_Model_isPartAlike_43 ?_
      refine lv_iload_n hx hb dd_Model_isPartAlike_44 rfl (lv_at hl 5 rfl) ?_
      refine lv_iconst (v := 1) hx hb dd_Model_isPartAlike_45 (by decide) ?_
      refine lv_iand hx hb dd_Model_isPartAlike_46 ?_
      refine lv_icmp_eq (tgt := 52) hx hb dd_Model_isPartAlike_47 (by decide) (fun hc => ?_) (fun hc => ?_)
      · have h := xp_t hc h
        refine lv_iload hx hb dd_Model_isPartAlike_52 (lv_at hl 1 rfl) ?_
        refine lv_if_lt (tgt := 62) hx hb dd_Model_isPartAlike_54 (by decide) (fun hc => ?_) (fun hc => ?_)
        · have h := xp_t hc h
          exact wj_Model_isPartAlike_62 htr C hne h hP hS (lv_sub hl [1, 0] rfl)
        · have h := xp_f hc h
          refine lv_iload hx hb dd_Model_isPartAlike_57 (lv_at hl 0 rfl) ?_
          refine lv_if_ge (tgt := 75) hx hb dd_Model_isPartAlike_59 (by decide) (fun hc => ?_) (fun hc => ?_)
          · have h := xp_t hc h
            refine lv_iload hx hb dd_Model_isPartAlike_75 (lv_at hl 1 rfl) ?_
            refine lv_iload_n hx hb dd_Model_isPartAlike_77 rfl (lv_at hl 4 rfl) ?_
            refine lv_icmp_ne (tgt := 88) hx hb dd_Model_isPartAlike_78 (by decide) (fun hc => ?_) (fun hc => ?_)
            · have h := xp_f hc h
              exact wj_Model_isPartAlike_88 htr C hne h hP hS (lv_sub hl [2, 4, 6, 1, 0] rfl)
            · have h := xp_t hc h
              refine lv_iload hx hb dd_Model_isPartAlike_81 (lv_at hl 0 rfl) ?_
              refine lv_iload hx hb dd_Model_isPartAlike_83 (lv_at hl 6 rfl) ?_
              refine lv_icmp_eq (tgt := 118) hx hb dd_Model_isPartAlike_85 (by decide) (fun hc => ?_) (fun hc => ?_)
              · have h := xp_t hc h
                exact wj_Model_isPartAlike_118 htr C hne h hP hS (lv_sub hl [] rfl)
              · have h := xp_f hc h
                exact wj_Model_isPartAlike_88 htr C hne h hP hS (lv_sub hl [2, 4, 6, 1, 0] rfl)
          · have h := xp_f hc h
            exact wj_Model_isPartAlike_62 htr C hne h hP hS (lv_sub hl [1, 0] rfl)
      · have h := xp_f hc h
        refine lv_iconst (v := 0) hx hb dd_Model_isPartAlike_50 (by decide) ?_
        obtain ⟨rfl, rfl⟩ := xp_r h
        exact xr_zret C hP hS (by decide) dd_Model_isPartAlike_51
    · have h := xp_t hc h
      exact wj_Model_isPartAlike_14 htr C hne h hP hS (lv_sub hl [1, 3] rfl)
abbrev rm_Model_areAlike : Room := { frames := 3, cells := 1, slots := 6, locals := 46 }
noncomputable def jb_Model_areAlike_54 (fu : Nat) : Nat → Int32 → Int32 → Int32 → Int32 → xk_St → Option (Int32 × xk_St)
  | 0 => fun _ _ _ _ _ => none
  | n + 1 => fun b1 b2 b3 b4 u =>
    xs_let (jb_Model_areAlike_54 fu  n) fun k54 =>
    if (32 : Int32) ≤ b4 then (if b3 = 0 ∨ b3 = 1 then some (b3, u) else none) else (if b3 = (0 : Int32) then (if b3 = 0 ∨ b3 = 1 then some (b3, u) else none) else ((if (((32 : Int32) * b1) + b4) < 0 ∨ 2048 ≤ (((32 : Int32) * b1) + b4).toNatClampNeg then none else if (((32 : Int32) * b2) + b4) < 0 ∨ 2048 ≤ (((32 : Int32) * b2) + b4).toNatClampNeg then none else xs_seq (fm_Model_isPartAlike (u.2.2.1 7 (((32 : Int32) * b1) + b4).toNatClampNeg) b1 (u.2.2.1 7 (((32 : Int32) * b2) + b4).toNatClampNeg) b2 u) fun a1 u2 => xs_let (b4 + (1 : Int32)) fun a3 => k54 b1 b2 a1 a3 u2)))
noncomputable def jb_Model_areAlike_50 (fu : Nat) (b1 : Int32) (b2 : Int32) (s0 : Int32) (u : xk_St) : Option (Int32 × xk_St) :=
  jb_Model_areAlike_54 fu fu b1 b2 s0 (0 : Int32) u
noncomputable def jb_Model_areAlike_49 (fu : Nat) (b1 : Int32) (b2 : Int32) (u : xk_St) : Option (Int32 × xk_St) :=
  jb_Model_areAlike_50 fu b1 b2 (0 : Int32) u
noncomputable def fm_Model_areAlike (fu : Nat) (x0 : Int32) (x1 : Int32) (u : xk_St) : Option (Int32 × xk_St) :=
  (if x0 < 0 ∨ 64 ≤ x0.toNatClampNeg then none else if x1 < 0 ∨ 64 ≤ x1.toNatClampNeg then none else if (u.2.2.1 4 x0.toNatClampNeg) = (u.2.2.1 4 x1.toNatClampNeg) then ((if x0 < 0 ∨ 64 ≤ x0.toNatClampNeg then none else if x1 < 0 ∨ 64 ≤ x1.toNatClampNeg then none else if (u.2.2.1 5 x0.toNatClampNeg) = (u.2.2.1 5 x1.toNatClampNeg) then ((if x0 < 0 ∨ 64 ≤ x0.toNatClampNeg then none else if x1 < 0 ∨ 64 ≤ x1.toNatClampNeg then none else if (u.2.2.1 6 x0.toNatClampNeg) = (u.2.2.1 6 x1.toNatClampNeg) then (jb_Model_areAlike_50 fu x0 x1 (1 : Int32) u) else (jb_Model_areAlike_49 fu x0 x1 u))) else (jb_Model_areAlike_49 fu x0 x1 u))) else (jb_Model_areAlike_49 fu x0 x1 u))
set_option maxHeartbeats 4000000 in
set_option maxRecDepth 100000 in
theorem wj_Model_areAlike_54 {p : Program} {l : Launch} {e : Env} {s : State} {m : MethodId} {args : Array Value} {below : List Frame} {meth : Method} {c : Code} {D : va_G} {ad : Nat → Nat} {ca : Nat → ClassId} {ads : List Nat} {fu : Nat} (htr : l.stackTraces = false) (C : xk_C D kx_cl (kx_ty ca) (kw_m ad ca) ads "ModuleHouseModel" prog_14_method_43_code 5 (some .boolean) p e s m args meth c) (hne : c.exceptionTable.isEmpty = true) {u' : xk_St} {r : Int32} : ∀ {n : Nat} {b1 : Int32} {b2 : Int32} {b3 : Int32} {b4 : Int32} {u : xk_St} {H : Heap} {locs : List Loc} {ls : Array Slot} (h : jb_Model_areAlike_54 fu  n b1 b2 b3 b4 u = some (r, u')) (hP : va_P D kx_cl (kw_m ad ca u) H) (hS : va_S (xk_A ads s.heap.size) s.heap H locs) (hl : lv_has ls 5 [(0, .ref (ad 0)), (1, .int b1), (2, .int b2), (3, .int b3), (4, .int b4)]), W p l e rm_Model_areAlike s m args below meth c H locs 0 0 (xk_MQ below (xk_Qc D kx_cl (kw_m ad ca) ads (xo_i (.inl r)) u') args s (xk_A ads s.heap.size)) (F0 m 54 ls []) := by
  intro n
  have hx := C.1.1
  have hb := C.1.2.1
  have hok := C.2.2.1
  induction n with
  | zero =>
    intro _ _ _ _ u H locs ls h
    have h : none = some (r, u') := h
    cases h
  | succ n ih =>
    intro b1 b2 b3 b4 u H locs ls h hP hS hl
    unfold jb_Model_areAlike_54 at h
    obtain ⟨k54, ek54, h⟩ := xp_let h
    have hk54 : ∀ (c0 : Int32) (c1 : Int32) (c2 : Int32) (c3 : Int32) (u : xk_St) (H : Heap) (locs : List Loc) (ls : Array Slot), k54 c0 c1 c2 c3 u = some (r, u') → va_P D kx_cl (kw_m ad ca u) H → va_S (xk_A ads s.heap.size) s.heap H locs → lv_has ls 5 [(0, .ref (ad 0)), (1, .int c0), (2, .int c1), (3, .int c2), (4, .int c3)] → W p l e rm_Model_areAlike s m args below meth c H locs 0 0 (xk_MQ below (xk_Qc D kx_cl (kw_m ad ca) ads (xo_i (.inl r)) u') args s (xk_A ads s.heap.size)) (F0 m 54 ls []) := by
      intro c0 c1 c2 c3 u H locs ls h hP hS hl
      subst ek54
      exact ih h hP hS hl
    clear ih ek54
    refine lv_iload hx hb dd_Model_areAlike_54 (lv_at hl 4 rfl) ?_
    refine lv_bipush (v := 32) hx hb dd_Model_areAlike_56 (by decide) ?_
    refine lv_icmp_ge (tgt := 102) hx hb dd_Model_areAlike_58 (by decide) (fun hc => ?_) (fun hc => ?_)
    · have h := xp_t hc h
      refine lv_iload_n hx hb dd_Model_areAlike_102 rfl (lv_at hl 3 rfl) ?_
      obtain ⟨hz, h⟩ := xp_p h
      obtain ⟨rfl, rfl⟩ := xp_r h
      exact xr_zret C hP hS hz dd_Model_areAlike_103
    · have h := xp_f hc h
      refine lv_iload_n hx hb dd_Model_areAlike_61 rfl (lv_at hl 3 rfl) ?_
      refine lv_if_eq (tgt := 102) hx hb dd_Model_areAlike_62 (by decide) (fun hc => ?_) (fun hc => ?_)
      · have h := xp_t hc h
        refine lv_iload_n hx hb dd_Model_areAlike_102 rfl (lv_at hl 3 rfl) ?_
        obtain ⟨hz, h⟩ := xp_p h
        obtain ⟨rfl, rfl⟩ := xp_r h
        exact xr_zret C hP hS hz dd_Model_areAlike_103
      · have h := xp_f hc h
        refine lv_aload_n hx hb dd_Model_areAlike_65 rfl (lv_at hl 0 rfl) ?_
        refine lv_aload_n hx hb dd_Model_areAlike_66 rfl (lv_at hl 0 rfl) ?_
        refine gf_m_Model_0_parts C hP dd_Model_areAlike_67 ?_
        refine lv_bipush (v := 32) hx hb dd_Model_areAlike_70 (by decide) ?_
        refine lv_iload_n hx hb dd_Model_areAlike_72 rfl (lv_at hl 1 rfl) ?_
        refine lv_imul hx hb dd_Model_areAlike_73 ?_
        refine lv_iload hx hb dd_Model_areAlike_74 (lv_at hl 4 rfl) ?_
        refine lv_iadd hx hb dd_Model_areAlike_76 ?_
        obtain ⟨hi, h⟩ := xp_g h
        refine al_m_9 C hP hi dd_Model_areAlike_77 ?_
        refine lv_iload_n hx hb dd_Model_areAlike_78 rfl (lv_at hl 1 rfl) ?_
        refine lv_aload_n hx hb dd_Model_areAlike_79 rfl (lv_at hl 0 rfl) ?_
        refine gf_m_Model_0_parts C hP dd_Model_areAlike_80 ?_
        refine lv_bipush (v := 32) hx hb dd_Model_areAlike_83 (by decide) ?_
        refine lv_iload_n hx hb dd_Model_areAlike_85 rfl (lv_at hl 2 rfl) ?_
        refine lv_imul hx hb dd_Model_areAlike_86 ?_
        refine lv_iload hx hb dd_Model_areAlike_87 (lv_at hl 4 rfl) ?_
        refine lv_iadd hx hb dd_Model_areAlike_89 ?_
        obtain ⟨hi, h⟩ := xp_g h
        refine al_m_9 C hP hi dd_Model_areAlike_90 ?_
        refine lv_iload_n hx hb dd_Model_areAlike_91 rfl (lv_at hl 2 rfl) ?_
        obtain ⟨a1, u2, hq, h⟩ := xp_seq h
        refine xk_goesI (xr_V (As := [.int (u.2.2.1 7 (((32 : Int32) * b1) + b4).toNatClampNeg), .int b1, .int (u.2.2.1 7 (((32 : Int32) * b2) + b4).toNatClampNeg), .int b2]) (rest := []) C hP hS (ct_Model_isPartAlike htr hok hq) kq_Model_394 0 11 rfl rfl ⟨rfl, rfl, Nat.le_of_ble_eq_true rfl, Nat.le_of_ble_eq_true rfl⟩ ⟨Nat.le_of_ble_eq_true rfl, Nat.le_of_ble_eq_true rfl⟩ hl.1 rfl rfl (Nat.le_of_ble_eq_true rfl) dd_Model_areAlike_92) hS (fun H locs hP hS => ?_)
        clear hq
        refine lv_istore_n (lv' := [(3, .int a1), (0, .ref (ad 0)), (1, .int b1), (2, .int b2), (4, .int b4)]) hx hb dd_Model_areAlike_95 rfl hl (by decide) rfl (fun ls hl => ?_)
        obtain ⟨a3, ea3, h⟩ := xp_let h
        refine lv_iinc (v := a3) (lv' := [(4, .int a3), (3, .int a1), (0, .ref (ad 0)), (1, .int b1), (2, .int b2)]) hx hb dd_Model_areAlike_96 hl (k := 4) rfl (by rw [ea3]; first | rfl | decide) (by decide) rfl (fun ls hl => ?_)
        refine lv_goto (tgt := 54) hx hb dd_Model_areAlike_99 (by decide) ?_
        exact hk54 b1 b2 a1 a3 u2 _ _ _ h hP hS (lv_sub hl [2, 3, 4, 1, 0] rfl)
set_option maxHeartbeats 4000000 in
set_option maxRecDepth 100000 in
theorem wj_Model_areAlike_50 {p : Program} {l : Launch} {e : Env} {s : State} {m : MethodId} {args : Array Value} {below : List Frame} {meth : Method} {c : Code} {D : va_G} {ad : Nat → Nat} {ca : Nat → ClassId} {ads : List Nat} {fu : Nat} (htr : l.stackTraces = false) (C : xk_C D kx_cl (kx_ty ca) (kw_m ad ca) ads "ModuleHouseModel" prog_14_method_43_code 5 (some .boolean) p e s m args meth c) (hne : c.exceptionTable.isEmpty = true) {u' : xk_St} {r : Int32} {b1 : Int32} {b2 : Int32} {s0 : Int32} {u : xk_St} {H : Heap} {locs : List Loc} {ls : Array Slot} (h : jb_Model_areAlike_50 fu  b1 b2 s0 u = some (r, u')) (hP : va_P D kx_cl (kw_m ad ca u) H) (hS : va_S (xk_A ads s.heap.size) s.heap H locs) (hl : lv_has ls 5 [(0, .ref (ad 0)), (1, .int b1), (2, .int b2)]) : W p l e rm_Model_areAlike s m args below meth c H locs 0 0 (xk_MQ below (xk_Qc D kx_cl (kw_m ad ca) ads (xo_i (.inl r)) u') args s (xk_A ads s.heap.size)) (F0 m 50 ls [.int s0]) := by
  have hx := C.1.1
  have hb := C.1.2.1
  have hok := C.2.2.1
  unfold jb_Model_areAlike_50 at h
  refine lv_istore_n (lv' := [(3, .int s0), (0, .ref (ad 0)), (1, .int b1), (2, .int b2)]) hx hb dd_Model_areAlike_50 rfl hl (by decide) rfl (fun ls hl => ?_)
  refine lv_iconst (v := 0) hx hb dd_Model_areAlike_51 (by decide) ?_
  refine lv_istore (lv' := [(4, .int (0 : Int32)), (3, .int s0), (0, .ref (ad 0)), (1, .int b1), (2, .int b2)]) hx hb dd_Model_areAlike_52 hl (by decide) rfl (fun ls hl => ?_)
  exact wj_Model_areAlike_54 htr C hne h hP hS (lv_sub hl [2, 3, 4, 1, 0] rfl)
set_option maxHeartbeats 4000000 in
set_option maxRecDepth 100000 in
theorem wj_Model_areAlike_49 {p : Program} {l : Launch} {e : Env} {s : State} {m : MethodId} {args : Array Value} {below : List Frame} {meth : Method} {c : Code} {D : va_G} {ad : Nat → Nat} {ca : Nat → ClassId} {ads : List Nat} {fu : Nat} (htr : l.stackTraces = false) (C : xk_C D kx_cl (kx_ty ca) (kw_m ad ca) ads "ModuleHouseModel" prog_14_method_43_code 5 (some .boolean) p e s m args meth c) (hne : c.exceptionTable.isEmpty = true) {u' : xk_St} {r : Int32} {b1 : Int32} {b2 : Int32} {u : xk_St} {H : Heap} {locs : List Loc} {ls : Array Slot} (h : jb_Model_areAlike_49 fu  b1 b2 u = some (r, u')) (hP : va_P D kx_cl (kw_m ad ca u) H) (hS : va_S (xk_A ads s.heap.size) s.heap H locs) (hl : lv_has ls 5 [(0, .ref (ad 0)), (1, .int b1), (2, .int b2)]) : W p l e rm_Model_areAlike s m args below meth c H locs 0 0 (xk_MQ below (xk_Qc D kx_cl (kw_m ad ca) ads (xo_i (.inl r)) u') args s (xk_A ads s.heap.size)) (F0 m 49 ls []) := by
  have hx := C.1.1
  have hb := C.1.2.1
  have hok := C.2.2.1
  unfold jb_Model_areAlike_49 at h
  refine lv_iconst (v := 0) hx hb dd_Model_areAlike_49 (by decide) ?_
  exact wj_Model_areAlike_50 htr C hne h hP hS (lv_sub hl [0, 1, 2] rfl)
set_option maxHeartbeats 4000000 in
set_option maxRecDepth 100000 in
theorem ct_Model_areAlike {l : Launch} {D : va_G} {ad : Nat → Nat} {ca : Nat → ClassId} {ads : List Nat} (htr : l.stackTraces = false) (hok : xk_ok (kw_m ad ca) ads) {fu : Nat} {x0 : Int32} {x1 : Int32} {u u' : xk_St} {r : Int32} (h : fm_Model_areAlike fu x0 x1 u = some (r, u')) :
    ∀ sz, xk_Met l ⟨"ModuleHouseModel", "areAlike", "(II)Z"⟩ (Cond.code ⟨"ModuleHouseModel", "areAlike", "(II)Z"⟩ prog_14_method_43_code 5 (some .boolean) :: xk_gd) rm_Model_areAlike (xk_Pc D kx_cl (kx_ty ca) (kw_m ad ca) ads xk_F sz [.ref (ad 0), .int x0, .int x1] u) (xk_Qc D kx_cl (kw_m ad ca) ads (xo_i (.inl r)) u') (xk_A ads sz) := by
  unfold fm_Model_areAlike at h
  refine xk_con (by decide) htr hok (Nat.le_of_ble_eq_true rfl) (fun p e s m below meth c ls C hne hl hP => ?_)
  have hx := C.1.1
  have hb := C.1.2.1
  have hS : va_S (xk_A ads s.heap.size) s.heap s.heap [] := va_S.rf
  have hl : lv_has ls 5 [(0, .ref (ad 0)), (1, .int x0), (2, .int x1)] := hl
  refine lv_aload_n hx hb dd_Model_areAlike_0 rfl (lv_at hl 0 rfl) ?_
  refine gf_m_Model_0_kinds C hP dd_Model_areAlike_1 ?_
  refine lv_iload_n hx hb dd_Model_areAlike_4 rfl (lv_at hl 1 rfl) ?_
  obtain ⟨hi, h⟩ := xp_g h
  refine al_m_6 C hP hi dd_Model_areAlike_5 ?_
  refine lv_aload_n hx hb dd_Model_areAlike_6 rfl (lv_at hl 0 rfl) ?_
  refine gf_m_Model_0_kinds C hP dd_Model_areAlike_7 ?_
  refine lv_iload_n hx hb dd_Model_areAlike_10 rfl (lv_at hl 2 rfl) ?_
  obtain ⟨hi, h⟩ := xp_g h
  refine al_m_6 C hP hi dd_Model_areAlike_11 ?_
  refine lv_icmp_ne (tgt := 49) hx hb dd_Model_areAlike_12 (by decide) (fun hc => ?_) (fun hc => ?_)
  · have h := xp_f hc h
    exact wj_Model_areAlike_49 htr C hne h hP hS (lv_sub hl [0, 1, 2] rfl)
  · have h := xp_t hc h
    refine lv_aload_n hx hb dd_Model_areAlike_15 rfl (lv_at hl 0 rfl) ?_
    refine gf_m_Model_0_partMany C hP dd_Model_areAlike_16 ?_
    refine lv_iload_n hx hb dd_Model_areAlike_19 rfl (lv_at hl 1 rfl) ?_
    obtain ⟨hi, h⟩ := xp_g h
    refine al_m_7 C hP hi dd_Model_areAlike_20 ?_
    refine lv_aload_n hx hb dd_Model_areAlike_21 rfl (lv_at hl 0 rfl) ?_
    refine gf_m_Model_0_partMany C hP dd_Model_areAlike_22 ?_
    refine lv_iload_n hx hb dd_Model_areAlike_25 rfl (lv_at hl 2 rfl) ?_
    obtain ⟨hi, h⟩ := xp_g h
    refine al_m_7 C hP hi dd_Model_areAlike_26 ?_
    refine lv_icmp_ne (tgt := 49) hx hb dd_Model_areAlike_27 (by decide) (fun hc => ?_) (fun hc => ?_)
    · have h := xp_f hc h
      exact wj_Model_areAlike_49 htr C hne h hP hS (lv_sub hl [0, 1, 2] rfl)
    · have h := xp_t hc h
      refine lv_aload_n hx hb dd_Model_areAlike_30 rfl (lv_at hl 0 rfl) ?_
      refine gf_m_Model_0_resultTypes C hP dd_Model_areAlike_31 ?_
      refine lv_iload_n hx hb dd_Model_areAlike_34 rfl (lv_at hl 1 rfl) ?_
      obtain ⟨hi, h⟩ := xp_g h
      refine al_m_8 C hP hi dd_Model_areAlike_35 ?_
      refine lv_aload_n hx hb dd_Model_areAlike_36 rfl (lv_at hl 0 rfl) ?_
      refine gf_m_Model_0_resultTypes C hP dd_Model_areAlike_37 ?_
      refine lv_iload_n hx hb dd_Model_areAlike_40 rfl (lv_at hl 2 rfl) ?_
      obtain ⟨hi, h⟩ := xp_g h
      refine al_m_8 C hP hi dd_Model_areAlike_41 ?_
      refine lv_icmp_ne (tgt := 49) hx hb dd_Model_areAlike_42 (by decide) (fun hc => ?_) (fun hc => ?_)
      · have h := xp_f hc h
        exact wj_Model_areAlike_49 htr C hne h hP hS (lv_sub hl [0, 1, 2] rfl)
      · have h := xp_t hc h
        refine lv_iconst (v := 1) hx hb dd_Model_areAlike_45 (by decide) ?_
        refine lv_goto (tgt := 50) hx hb dd_Model_areAlike_46 (by decide) ?_
        exact wj_Model_areAlike_50 htr C hne h hP hS (lv_sub hl [0, 1, 2] rfl)
abbrev rm_Model_partRow : Room := { frames := 6, cells := 1, slots := 6, locals := 110 }
noncomputable def jb_Model_partRow_71 (fu : Nat) (k32 : Int32 → Int32 → Int64 → Int32 → xk_St → Option (Int32 × xk_St)) (b1 : Int32) (b2 : Int32) (b3 : Int64) (b5 : Int32) (b6 : Int32) (s0 : Int32) (u : xk_St) : Option (Int32 × xk_St) :=
  (if s0 = 0 ∨ s0 = 1 then ( xs_let (xs_I u 7 s0) fun u8 => if ((((32 : Int32) * b1) + b2) + b5) < 0 ∨ 2048 ≤ ((((32 : Int32) * b1) + b2) + b5).toNatClampNeg then none else xs_let (xs_A u8 7 ((((32 : Int32) * b1) + b2) + b5).toNatClampNeg b6) fun u9 => xs_let (b5 + (1 : Int32)) fun a10 => k32 b1 b2 b3 a10 u9  ) else none)
noncomputable def jb_Model_partRow_32 (fu : Nat) : Nat → Int32 → Int32 → Int64 → Int32 → xk_St → Option (Int32 × xk_St)
  | 0 => fun _ _ _ _ _ => none
  | n + 1 => fun b1 b2 b3 b5 u =>
    xs_let (jb_Model_partRow_32 fu  n) fun k32 =>
    if b3 ≤ (b5.toInt64) then (some ((b3.toInt32), u)) else (if (u.1 7) = (0 : Int32) then ((xs_seq (fm_Model_valueType fu u) fun a4 u5 => xs_seq (fm_Model_isThere a4 (b1 + (1 : Int32)) u5) fun a6 u7 => if a6 = (0 : Int32) then (jb_Model_partRow_71 fu k32 b1 b2 b3 b5 a4 (1 : Int32) u7) else (jb_Model_partRow_71 fu k32 b1 b2 b3 b5 a4 (0 : Int32) u7))) else (some ((b3.toInt32), u)))
noncomputable def jb_Model_partRow_26 (fu : Nat) (b1 : Int32) (b2 : Int32) (b3 : Int64) (s0 : Int32) (u : xk_St) : Option (Int32 × xk_St) :=
  (if s0 = 0 ∨ s0 = 1 then ( xs_let (xs_I u 7 s0) fun u3 => jb_Model_partRow_32 fu fu b1 b2 b3 (0 : Int32) u3  ) else none)
noncomputable def jb_Model_partRow_21 (fu : Nat) (b1 : Int32) (b2 : Int32) (b3 : Int64) (u : xk_St) : Option (Int32 × xk_St) :=
  jb_Model_partRow_26 fu b1 b2 b3 (1 : Int32) u
noncomputable def fm_Model_partRow (fu : Nat) (x0 : Int32) (x1 : Int32) (u : xk_St) : Option (Int32 × xk_St) :=
  (xs_seq (fm_Model_number fu u) fun a1 u2 => if (u2.1 7) = (0 : Int32) then (if a1 ≤ (16 : Int64) then (jb_Model_partRow_26 fu x0 x1 a1 (0 : Int32) u2) else (jb_Model_partRow_21 fu x0 x1 a1 u2)) else (jb_Model_partRow_21 fu x0 x1 a1 u2))
set_option maxHeartbeats 4000000 in
set_option maxRecDepth 100000 in
theorem wj_Model_partRow_71 {p : Program} {l : Launch} {e : Env} {s : State} {m : MethodId} {args : Array Value} {below : List Frame} {meth : Method} {c : Code} {D : va_G} {ad : Nat → Nat} {ca : Nat → ClassId} {ads : List Nat} {fu : Nat} (htr : l.stackTraces = false) (C : xk_C D kx_cl (kx_ty ca) (kw_m ad ca) ads "ModuleHouseModel" prog_14_method_44_code 7 (some .int) p e s m args meth c) (hne : c.exceptionTable.isEmpty = true) {u' : xk_St} {r : Int32} {k32 : Int32 → Int32 → Int64 → Int32 → xk_St → Option (Int32 × xk_St)} (hk32 : ∀ (c0 : Int32) (c1 : Int32) (c2 : Int64) (c3 : Int32) (u : xk_St) (H : Heap) (locs : List Loc) (ls : Array Slot), k32 c0 c1 c2 c3 u = some (r, u') → va_P D kx_cl (kw_m ad ca u) H → va_S (xk_A ads s.heap.size) s.heap H locs → lv_has ls 7 [(0, .ref (ad 0)), (1, .int c0), (2, .int c1), (3, .long c2), (5, .int c3)] → W p l e rm_Model_partRow s m args below meth c H locs 0 0 (xk_MQ below (xk_Qc D kx_cl (kw_m ad ca) ads (xo_i (.inl r)) u') args s (xk_A ads s.heap.size)) (F0 m 32 ls [])) {b1 : Int32} {b2 : Int32} {b3 : Int64} {b5 : Int32} {b6 : Int32} {s0 : Int32} {u : xk_St} {H : Heap} {locs : List Loc} {ls : Array Slot} (h : jb_Model_partRow_71 fu k32 b1 b2 b3 b5 b6 s0 u = some (r, u')) (hP : va_P D kx_cl (kw_m ad ca u) H) (hS : va_S (xk_A ads s.heap.size) s.heap H locs) (hl : lv_has ls 7 [(0, .ref (ad 0)), (1, .int b1), (2, .int b2), (3, .long b3), (5, .int b5), (6, .int b6)]) : W p l e rm_Model_partRow s m args below meth c H locs 0 0 (xk_MQ below (xk_Qc D kx_cl (kw_m ad ca) ads (xo_i (.inl r)) u') args s (xk_A ads s.heap.size)) (F0 m 71 ls [.int s0, .ref (ad 0)]) := by
  have hx := C.1.1
  have hb := C.1.2.1
  have hok := C.2.2.1
  unfold jb_Model_partRow_71 at h
  obtain ⟨hz, h⟩ := xp_p h
  refine pf_m_Model_0_wrong C hP hS hz dd_Model_partRow_71 (fun H locs hP hS => ?_)
  obtain ⟨u8, eu8, h⟩ := xp_let h
  rw [← eu8] at hP
  refine lv_aload_n hx hb dd_Model_partRow_74 rfl (lv_at hl 0 rfl) ?_
  refine gf_m_Model_0_parts C hP dd_Model_partRow_75 ?_
  refine lv_bipush (v := 32) hx hb dd_Model_partRow_78 (by decide) ?_
  refine lv_iload_n hx hb dd_Model_partRow_80 rfl (lv_at hl 1 rfl) ?_
  refine lv_imul hx hb dd_Model_partRow_81 ?_
  refine lv_iload_n hx hb dd_Model_partRow_82 rfl (lv_at hl 2 rfl) ?_
  refine lv_iadd hx hb dd_Model_partRow_83 ?_
  refine lv_iload hx hb dd_Model_partRow_84 (lv_at hl 4 rfl) ?_
  refine lv_iadd hx hb dd_Model_partRow_86 ?_
  refine lv_iload hx hb dd_Model_partRow_87 (lv_at hl 5 rfl) ?_
  obtain ⟨hi, h⟩ := xp_g h
  refine as_m_9 C hP hS hi dd_Model_partRow_89 (fun H locs hP hS => ?_)
  obtain ⟨u9, eu9, h⟩ := xp_let h
  rw [← eu9] at hP
  obtain ⟨a10, ea10, h⟩ := xp_let h
  refine lv_iinc (v := a10) (lv' := [(5, .int a10), (0, .ref (ad 0)), (1, .int b1), (2, .int b2), (3, .long b3), (6, .int b6)]) hx hb dd_Model_partRow_90 hl (k := 4) rfl (by rw [ea10]; first | rfl | decide) (by decide) rfl (fun ls hl => ?_)
  refine lv_goto (tgt := 32) hx hb dd_Model_partRow_93 (by decide) ?_
  exact hk32 b1 b2 b3 a10 u9 _ _ _ h hP hS (lv_sub hl [1, 2, 3, 4, 0] rfl)
set_option maxHeartbeats 4000000 in
set_option maxRecDepth 100000 in
theorem wj_Model_partRow_32 {p : Program} {l : Launch} {e : Env} {s : State} {m : MethodId} {args : Array Value} {below : List Frame} {meth : Method} {c : Code} {D : va_G} {ad : Nat → Nat} {ca : Nat → ClassId} {ads : List Nat} {fu : Nat} (htr : l.stackTraces = false) (C : xk_C D kx_cl (kx_ty ca) (kw_m ad ca) ads "ModuleHouseModel" prog_14_method_44_code 7 (some .int) p e s m args meth c) (hne : c.exceptionTable.isEmpty = true) {u' : xk_St} {r : Int32} : ∀ {n : Nat} {b1 : Int32} {b2 : Int32} {b3 : Int64} {b5 : Int32} {u : xk_St} {H : Heap} {locs : List Loc} {ls : Array Slot} (h : jb_Model_partRow_32 fu  n b1 b2 b3 b5 u = some (r, u')) (hP : va_P D kx_cl (kw_m ad ca u) H) (hS : va_S (xk_A ads s.heap.size) s.heap H locs) (hl : lv_has ls 7 [(0, .ref (ad 0)), (1, .int b1), (2, .int b2), (3, .long b3), (5, .int b5)]), W p l e rm_Model_partRow s m args below meth c H locs 0 0 (xk_MQ below (xk_Qc D kx_cl (kw_m ad ca) ads (xo_i (.inl r)) u') args s (xk_A ads s.heap.size)) (F0 m 32 ls []) := by
  intro n
  have hx := C.1.1
  have hb := C.1.2.1
  have hok := C.2.2.1
  induction n with
  | zero =>
    intro _ _ _ _ u H locs ls h
    have h : none = some (r, u') := h
    cases h
  | succ n ih =>
    intro b1 b2 b3 b5 u H locs ls h hP hS hl
    unfold jb_Model_partRow_32 at h
    obtain ⟨k32, ek32, h⟩ := xp_let h
    have hk32 : ∀ (c0 : Int32) (c1 : Int32) (c2 : Int64) (c3 : Int32) (u : xk_St) (H : Heap) (locs : List Loc) (ls : Array Slot), k32 c0 c1 c2 c3 u = some (r, u') → va_P D kx_cl (kw_m ad ca u) H → va_S (xk_A ads s.heap.size) s.heap H locs → lv_has ls 7 [(0, .ref (ad 0)), (1, .int c0), (2, .int c1), (3, .long c2), (5, .int c3)] → W p l e rm_Model_partRow s m args below meth c H locs 0 0 (xk_MQ below (xk_Qc D kx_cl (kw_m ad ca) ads (xo_i (.inl r)) u') args s (xk_A ads s.heap.size)) (F0 m 32 ls []) := by
      intro c0 c1 c2 c3 u H locs ls h hP hS hl
      subst ek32
      exact ih h hP hS hl
    clear ih ek32
    refine lv_iload hx hb dd_Model_partRow_32 (lv_at hl 4 rfl) ?_
    refine lv_i2l hx hb dd_Model_partRow_34 rfl ?_
    refine lv_lload_n hx hb dd_Model_partRow_35 rfl (lv_at hl 3 rfl) ?_
    refine xr_lc_ge (tgt := 96) hx hb dd_Model_partRow_36 dd_Model_partRow_37 (by decide) (fun hc => ?_) (fun hc => ?_)
    · have h := xp_t hc h
      refine lv_lload_n hx hb dd_Model_partRow_96 rfl (lv_at hl 3 rfl) ?_
      refine lv_l2i hx hb dd_Model_partRow_97 rfl ?_
      obtain ⟨rfl, rfl⟩ := xp_r h
      exact xr_iret C hP hS dd_Model_partRow_98
    · have h := xp_f hc h
      refine lv_aload_n hx hb dd_Model_partRow_40 rfl (lv_at hl 0 rfl) ?_
      refine gf_m_Model_0_wrong C hP dd_Model_partRow_41 ?_
      refine lv_if_ne (tgt := 96) hx hb dd_Model_partRow_44 (by decide) (fun hc => ?_) (fun hc => ?_)
      · have h := xp_f hc h
        refine lv_lload_n hx hb dd_Model_partRow_96 rfl (lv_at hl 3 rfl) ?_
        refine lv_l2i hx hb dd_Model_partRow_97 rfl ?_
        obtain ⟨rfl, rfl⟩ := xp_r h
        exact xr_iret C hP hS dd_Model_partRow_98
      · have h := xp_t hc h
        refine lv_aload_n hx hb dd_Model_partRow_47 rfl (lv_at hl 0 rfl) ?_
        obtain ⟨a4, u5, hq, h⟩ := xp_seq h
        refine xk_goesI (xr_V (As := []) (rest := []) C hP hS (ct_Model_valueType htr hok hq) kq_Model_210 0 11 rfl rfl ⟨rfl, rfl, Nat.le_of_ble_eq_true rfl, Nat.le_of_ble_eq_true rfl⟩ ⟨Nat.le_of_ble_eq_true rfl, Nat.le_of_ble_eq_true rfl⟩ hl.1 rfl rfl (Nat.le_of_ble_eq_true rfl) dd_Model_partRow_48) hS (fun H locs hP hS => ?_)
        clear hq
        refine lv_istore (lv' := [(6, .int a4), (0, .ref (ad 0)), (1, .int b1), (2, .int b2), (3, .long b3), (5, .int b5)]) hx hb dd_Model_partRow_51 hl (by decide) rfl (fun ls hl => ?_)
        refine lv_aload_n hx hb dd_Model_partRow_53 rfl (lv_at hl 1 rfl) ?_
        refine lv_aload_n hx hb dd_Model_partRow_54 rfl (lv_at hl 1 rfl) ?_
        refine lv_iload hx hb dd_Model_partRow_55 (lv_at hl 0 rfl) ?_
        refine lv_iload_n hx hb dd_Model_partRow_57 rfl (lv_at hl 2 rfl) ?_
        refine lv_iconst (v := 1) hx hb dd_Model_partRow_58 (by decide) ?_
        refine lv_iadd hx hb dd_Model_partRow_59 ?_
        obtain ⟨a6, u7, hq, h⟩ := xp_seq h
        refine xk_goesI (xr_V (As := [.int a4, .int (b1 + (1 : Int32))]) (rest := [.ref (ad 0)]) C hP hS (ct_Model_isThere htr hok hq) kq_Model_404 0 11 rfl rfl ⟨rfl, rfl, Nat.le_of_ble_eq_true rfl, Nat.le_of_ble_eq_true rfl⟩ ⟨Nat.le_of_ble_eq_true rfl, Nat.le_of_ble_eq_true rfl⟩ hl.1 rfl rfl (Nat.le_of_ble_eq_true rfl) dd_Model_partRow_60) hS (fun H locs hP hS => ?_)
        clear hq
        refine lv_if_ne (tgt := 70) hx hb dd_Model_partRow_63 (by decide) (fun hc => ?_) (fun hc => ?_)
        · have h := xp_f hc h
          refine lv_iconst (v := 0) hx hb dd_Model_partRow_70 (by decide) ?_
          exact wj_Model_partRow_71 htr C hne hk32 h hP hS (lv_sub hl [1, 2, 3, 4, 5, 0] rfl)
        · have h := xp_t hc h
          refine lv_iconst (v := 1) hx hb dd_Model_partRow_66 (by decide) ?_
          refine lv_goto (tgt := 71) hx hb dd_Model_partRow_67 (by decide) ?_
          exact wj_Model_partRow_71 htr C hne hk32 h hP hS (lv_sub hl [1, 2, 3, 4, 5, 0] rfl)
set_option maxHeartbeats 4000000 in
set_option maxRecDepth 100000 in
theorem wj_Model_partRow_26 {p : Program} {l : Launch} {e : Env} {s : State} {m : MethodId} {args : Array Value} {below : List Frame} {meth : Method} {c : Code} {D : va_G} {ad : Nat → Nat} {ca : Nat → ClassId} {ads : List Nat} {fu : Nat} (htr : l.stackTraces = false) (C : xk_C D kx_cl (kx_ty ca) (kw_m ad ca) ads "ModuleHouseModel" prog_14_method_44_code 7 (some .int) p e s m args meth c) (hne : c.exceptionTable.isEmpty = true) {u' : xk_St} {r : Int32} {b1 : Int32} {b2 : Int32} {b3 : Int64} {s0 : Int32} {u : xk_St} {H : Heap} {locs : List Loc} {ls : Array Slot} (h : jb_Model_partRow_26 fu  b1 b2 b3 s0 u = some (r, u')) (hP : va_P D kx_cl (kw_m ad ca u) H) (hS : va_S (xk_A ads s.heap.size) s.heap H locs) (hl : lv_has ls 7 [(0, .ref (ad 0)), (1, .int b1), (2, .int b2), (3, .long b3)]) : W p l e rm_Model_partRow s m args below meth c H locs 0 0 (xk_MQ below (xk_Qc D kx_cl (kw_m ad ca) ads (xo_i (.inl r)) u') args s (xk_A ads s.heap.size)) (F0 m 26 ls [.int s0, .ref (ad 0)]) := by
  have hx := C.1.1
  have hb := C.1.2.1
  have hok := C.2.2.1
  unfold jb_Model_partRow_26 at h
  obtain ⟨hz, h⟩ := xp_p h
  refine pf_m_Model_0_wrong C hP hS hz dd_Model_partRow_26 (fun H locs hP hS => ?_)
  obtain ⟨u3, eu3, h⟩ := xp_let h
  rw [← eu3] at hP
  refine lv_iconst (v := 0) hx hb dd_Model_partRow_29 (by decide) ?_
  refine lv_istore (lv' := [(5, .int (0 : Int32)), (0, .ref (ad 0)), (1, .int b1), (2, .int b2), (3, .long b3)]) hx hb dd_Model_partRow_30 hl (by decide) rfl (fun ls hl => ?_)
  exact wj_Model_partRow_32 htr C hne h hP hS (lv_sub hl [1, 2, 3, 4, 0] rfl)
set_option maxHeartbeats 4000000 in
set_option maxRecDepth 100000 in
theorem wj_Model_partRow_21 {p : Program} {l : Launch} {e : Env} {s : State} {m : MethodId} {args : Array Value} {below : List Frame} {meth : Method} {c : Code} {D : va_G} {ad : Nat → Nat} {ca : Nat → ClassId} {ads : List Nat} {fu : Nat} (htr : l.stackTraces = false) (C : xk_C D kx_cl (kx_ty ca) (kw_m ad ca) ads "ModuleHouseModel" prog_14_method_44_code 7 (some .int) p e s m args meth c) (hne : c.exceptionTable.isEmpty = true) {u' : xk_St} {r : Int32} {b1 : Int32} {b2 : Int32} {b3 : Int64} {u : xk_St} {H : Heap} {locs : List Loc} {ls : Array Slot} (h : jb_Model_partRow_21 fu  b1 b2 b3 u = some (r, u')) (hP : va_P D kx_cl (kw_m ad ca u) H) (hS : va_S (xk_A ads s.heap.size) s.heap H locs) (hl : lv_has ls 7 [(0, .ref (ad 0)), (1, .int b1), (2, .int b2), (3, .long b3)]) : W p l e rm_Model_partRow s m args below meth c H locs 0 0 (xk_MQ below (xk_Qc D kx_cl (kw_m ad ca) ads (xo_i (.inl r)) u') args s (xk_A ads s.heap.size)) (F0 m 21 ls [.ref (ad 0)]) := by
  have hx := C.1.1
  have hb := C.1.2.1
  have hok := C.2.2.1
  unfold jb_Model_partRow_21 at h
  refine lv_iconst (v := 1) hx hb dd_Model_partRow_21 (by decide) ?_
  refine lv_goto (tgt := 26) hx hb dd_Model_partRow_22 (by decide) ?_
  exact wj_Model_partRow_26 htr C hne h hP hS (lv_sub hl [0, 1, 2, 3] rfl)
set_option maxHeartbeats 4000000 in
set_option maxRecDepth 100000 in
theorem ct_Model_partRow {l : Launch} {D : va_G} {ad : Nat → Nat} {ca : Nat → ClassId} {ads : List Nat} (htr : l.stackTraces = false) (hok : xk_ok (kw_m ad ca) ads) {fu : Nat} {x0 : Int32} {x1 : Int32} {u u' : xk_St} {r : Int32} (h : fm_Model_partRow fu x0 x1 u = some (r, u')) :
    ∀ sz, xk_Met l ⟨"ModuleHouseModel", "partRow", "(II)I"⟩ (Cond.code ⟨"ModuleHouseModel", "partRow", "(II)I"⟩ prog_14_method_44_code 7 (some .int) :: xk_gd) rm_Model_partRow (xk_Pc D kx_cl (kx_ty ca) (kw_m ad ca) ads xk_F sz [.ref (ad 0), .int x0, .int x1] u) (xk_Qc D kx_cl (kw_m ad ca) ads (xo_i (.inl r)) u') (xk_A ads sz) := by
  unfold fm_Model_partRow at h
  refine xk_con (by decide) htr hok (Nat.le_of_ble_eq_true rfl) (fun p e s m below meth c ls C hne hl hP => ?_)
  have hx := C.1.1
  have hb := C.1.2.1
  have hS : va_S (xk_A ads s.heap.size) s.heap s.heap [] := va_S.rf
  have hl : lv_has ls 7 [(0, .ref (ad 0)), (1, .int x0), (2, .int x1)] := hl
  refine lv_aload_n hx hb dd_Model_partRow_0 rfl (lv_at hl 0 rfl) ?_
  obtain ⟨a1, u2, hq, h⟩ := xp_seq h
  refine xk_goesL (xr_V (As := []) (rest := []) C hP hS (ct_Model_number htr hok hq) kq_Model_295 0 11 rfl rfl ⟨rfl, rfl, Nat.le_of_ble_eq_true rfl, Nat.le_of_ble_eq_true rfl⟩ ⟨Nat.le_of_ble_eq_true rfl, Nat.le_of_ble_eq_true rfl⟩ hl.1 rfl rfl (Nat.le_of_ble_eq_true rfl) dd_Model_partRow_1) hS (fun H locs hP hS => ?_)
  clear hq
  refine lv_lstore_n (lv' := [(3, .long a1), (0, .ref (ad 0)), (1, .int x0), (2, .int x1)]) hx hb dd_Model_partRow_4 rfl hl (by decide) rfl (fun ls hl => ?_)
  refine lv_aload_n hx hb dd_Model_partRow_5 rfl (lv_at hl 1 rfl) ?_
  refine lv_aload_n hx hb dd_Model_partRow_6 rfl (lv_at hl 1 rfl) ?_
  refine gf_m_Model_0_wrong C hP dd_Model_partRow_7 ?_
  refine lv_if_ne (tgt := 21) hx hb dd_Model_partRow_10 (by decide) (fun hc => ?_) (fun hc => ?_)
  · have h := xp_f hc h
    exact wj_Model_partRow_21 htr C hne h hP hS (lv_sub hl [1, 2, 3, 0] rfl)
  · have h := xp_t hc h
    refine lv_lload_n hx hb dd_Model_partRow_13 rfl (lv_at hl 0 rfl) ?_
    refine lv_ldc2 (v := 16) hx hb C.1.2.2.2.1 (C.1.2.2.2.2 _ (xk_c10 (w := Jvm.Cond.constantLong "ModuleHouseModel" 402 16) 17 rfl rfl)) dd_Model_partRow_14 ?_
    refine xr_lc_le (tgt := 25) hx hb dd_Model_partRow_17 dd_Model_partRow_18 (by decide) (fun hc => ?_) (fun hc => ?_)
    · have h := xp_t hc h
      refine lv_iconst (v := 0) hx hb dd_Model_partRow_25 (by decide) ?_
      exact wj_Model_partRow_26 htr C hne h hP hS (lv_sub hl [1, 2, 3, 0] rfl)
    · have h := xp_f hc h
      exact wj_Model_partRow_21 htr C hne h hP hS (lv_sub hl [1, 2, 3, 0] rfl)
